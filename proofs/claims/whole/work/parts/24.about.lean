/-! look, about, buyer -/
theorem st_look {σ : zMem} (hI : Inv σ) (a b : Int32) : vc_X10_look σ a b (fun r σ1 => vc_X11_look σ1 a b (fun r2 σ2 => r = r2 ∧ Inv σ2)) := by
  by_cases ha : vp_in a 24
  · refine p_isPlot_t ha (k1' ⟨ha, ?_⟩)
    obtain ⟨p, hp, rfl⟩ := in_of ha (by decide)
    rw [cl (by omega)]
    obtain ⟨⟨k, hk, hk1, hk2, hk3⟩, ⟨g, hg, hg1, hg2⟩, hc⟩ := hI.1 p hp
    have hM : ∀ {A B : Prop}, A → (¬ (1 : Int32) = 0 → A) ∧ ((1 : Int32) = 0 → B) := fun h => k1' h
    have s4 : (σ 25 0 p = 0 → σ 4 p 3 = -2 ∧ Inv σ) ∧ (¬ σ 25 0 p = 0 → vp_in (nI p) 24 ∧ σ 4 p 3 = σ 26 0 p ∧ Inv σ) := by
      rcases hc with hc | hc
      · exact kt hc.1 ⟨hc.2.1, hI⟩
      · obtain ⟨o, nb, ho, hnb, h0, h1, h2⟩ := hc.2.1
        exact kf (by rw [hc.1]; decide) ⟨ha, h1.trans h2.symm, hI⟩
    have s5 : (σ 25 0 p = 0 → σ 4 p 4 = -2 ∧ Inv σ) ∧ (¬ σ 25 0 p = 0 → vp_in (nI p) 24 ∧ σ 4 p 4 = σ 27 0 p ∧ Inv σ) := by
      rcases hc with hc | hc
      · exact kt hc.1 ⟨hc.2.2.1, hI⟩
      · exact kf (by rw [hc.1]; decide) ⟨ha, hc.2.2.1, hI⟩
    have s6 : (σ 29 0 p = 0 → σ 4 p 5 = -2 ∧ Inv σ) ∧ (¬ σ 29 0 p = 0 → vp_in (nI p) 24 ∧ σ 4 p 5 = σ 30 0 p ∧ Inv σ) := by
      rcases hc with hc | hc
      · exact kt hc.2.2.2.1 ⟨hc.2.2.2.2, hI⟩
      · rcases hc.2.2.2 with hc | hc
        · exact kt hc.1 ⟨hc.2, hI⟩
        · obtain ⟨d, hd, h1, h2⟩ := hc.2
          exact kf (by rw [hc.1]; decide) ⟨ha, h1.trans h2.symm, hI⟩
    have s7 : (sv σ p = 0 → sv σ p = 0 ∧ Inv σ) ∧ (¬ sv σ p = 0 → sv σ p = 1 ∧ Inv σ) := ⟨fun h => ⟨h, hI⟩, fun h => ⟨(sv01 σ p).resolve_left h, hI⟩⟩
    refine ⟨fun c => ?_, fun c => ?_, fun c => ⟨by rw [hk2, cl (by omega)]; exact hk, ?_⟩, fun c => p_hay hI.1 hp ?_, fun c => ?_, fun c => ?_, fun c => ?_, fun c => p_stands hI.1 hp (p_oneIf (sv01 σ p) ?_), fun n0 n1 n2 n3 n4 n5 n6 n7 => ?_⟩
    · subst c
      exact m_isPlot_t ha (hM ⟨fun _ => ⟨ha, by rw [cl (by omega), hk1, hk3], hI⟩, fun c => absurd c (by decide), fun c => absurd c (by decide), fun c => absurd c (by decide), fun c => absurd c (by decide), fun c => absurd c (by decide), fun c => absurd c (by decide), fun c => absurd c (by decide), fun c => absurd rfl c⟩)
    · subst c
      exact m_isPlot_t ha (hM ⟨fun c => absurd c (by decide), fun _ => ⟨ha, by rw [cl (by omega), hg1, hg2], hI⟩, fun c => absurd c (by decide), fun c => absurd c (by decide), fun c => absurd c (by decide), fun c => absurd c (by decide), fun c => absurd c (by decide), fun c => absurd c (by decide), fun _ c => absurd rfl c⟩)
    · subst c
      exact m_isPlot_t ha (hM ⟨fun c => absurd c (by decide), fun c => absurd c (by decide), fun _ => ⟨ha, by rw [cl (by omega), hk3]; exact m_chanceOf hk ⟨by rw [hk2, cl (by omega)], hI⟩⟩, fun c => absurd c (by decide), fun c => absurd c (by decide), fun c => absurd c (by decide), fun c => absurd c (by decide), fun c => absurd c (by decide), fun _ _ c => absurd rfl c⟩)
    · subst c
      exact m_isPlot_t ha (hM ⟨fun c => absurd c (by decide), fun c => absurd c (by decide), fun c => absurd c (by decide), fun _ => m_hayOf hI.1 hp ⟨rfl, hI⟩, fun c => absurd c (by decide), fun c => absurd c (by decide), fun c => absurd c (by decide), fun c => absurd c (by decide), fun _ _ _ c => absurd rfl c⟩)
    · subst c
      exact m_isPlot_t ha (hM ⟨fun c => absurd c (by decide), fun c => absurd c (by decide), fun c => absurd c (by decide), fun c => absurd c (by decide), fun _ => ⟨ha, by rw [cl (by omega)]; exact s4⟩, fun c => absurd c (by decide), fun c => absurd c (by decide), fun c => absurd c (by decide), fun _ _ _ _ c => absurd rfl c⟩)
    · subst c
      exact m_isPlot_t ha (hM ⟨fun c => absurd c (by decide), fun c => absurd c (by decide), fun c => absurd c (by decide), fun c => absurd c (by decide), fun c => absurd c (by decide), fun _ => ⟨ha, by rw [cl (by omega)]; exact s5⟩, fun c => absurd c (by decide), fun c => absurd c (by decide), fun _ _ _ _ _ c => absurd rfl c⟩)
    · subst c
      exact m_isPlot_t ha (hM ⟨fun c => absurd c (by decide), fun c => absurd c (by decide), fun c => absurd c (by decide), fun c => absurd c (by decide), fun c => absurd c (by decide), fun c => absurd c (by decide), fun _ => ⟨ha, by rw [cl (by omega)]; exact s6⟩, fun c => absurd c (by decide), fun _ _ _ _ _ _ c => absurd rfl c⟩)
    · subst c
      exact m_isPlot_t ha (hM ⟨fun c => absurd c (by decide), fun c => absurd c (by decide), fun c => absurd c (by decide), fun c => absurd c (by decide), fun c => absurd c (by decide), fun c => absurd c (by decide), fun c => absurd c (by decide), fun _ => m_stands hI.1 hp s7, fun _ _ _ _ _ _ _ c => absurd rfl c⟩)
    · exact m_isPlot_t ha (hM ⟨fun c => absurd c n0, fun c => absurd c n1, fun c => absurd c n2, fun c => absurd c n3, fun c => absurd c n4, fun c => absurd c n5, fun c => absurd c n6, fun c => absurd c n7, fun _ _ _ _ _ _ _ _ => ⟨rfl, hI⟩⟩)
  · refine p_isPlot_f ha (k0' ?_)
    exact m_isPlot_f ha (k0' ⟨rfl, hI⟩)
theorem st_about {σ : zMem} (hI : Inv σ) (a b : Int32) : vc_X10_about σ a b (fun r σ1 => vc_X11_about σ1 a b (fun r2 σ2 => r = r2 ∧ Inv σ2)) := by
  obtain ⟨nb, hn, hb8, hb9, hB⟩ := hI.2.1
  by_cases ha : vp_in a nb
  · have hv : vp_in a 10 := vp_in_iff.mpr (by have := vp_in_iff.mp ha; omega)
    refine p_isBuyer_t hb8 hn ha (k1' ⟨hv, ?_⟩)
    obtain ⟨k, hk, rfl⟩ := in_of ha (by omega)
    rw [cl (by omega)]
    obtain ⟨h1, h2, ⟨h, hh, h31, h32⟩, h4, h5, h6, h7⟩ := (hB k (by omega)).1 hk
    have hM : ∀ {A B : Prop}, A → (¬ (1 : Int32) = 0 → A) ∧ ((1 : Int32) = 0 → B) := fun h => k1' h
    have s7 : (σ 34 0 k = 0 → σ 6 k 5 = 0 ∧ Inv σ) ∧ (¬ σ 34 0 k = 0 → σ 6 k 5 = 1 ∧ Inv σ) := by
      rw [← h5.2]
      exact ⟨fun h => ⟨h, hI⟩, fun h => ⟨h5.1.resolve_left h, hI⟩⟩
    refine ⟨fun c => ?_, fun c => ?_, fun c => ?_, fun c => ?_, fun c => p_hayOf hI.1 (by omega) ?_, fun c => ?_, fun c => ?_, fun c => p_oneIf h5.1 ?_, fun n0 n1 n2 n3 n4 n5 n6 n7 => ?_⟩
    · subst c
      exact m_isBuyer_t hb9 hn ha (hM ⟨fun _ => ⟨hv, by rw [cl (by omega), h1], hI⟩, fun c => absurd c (by decide), fun c => absurd c (by decide), fun c => absurd c (by decide), fun c => absurd c (by decide), fun c => absurd c (by decide), fun c => absurd c (by decide), fun c => absurd c (by decide), fun c => absurd rfl c⟩)
    · subst c
      exact m_isBuyer_t hb9 hn ha (hM ⟨fun c => absurd c (by decide), fun _ => ⟨hv, by rw [cl (by omega), h2], hI⟩, fun c => absurd c (by decide), fun c => absurd c (by decide), fun c => absurd c (by decide), fun c => absurd c (by decide), fun c => absurd c (by decide), fun c => absurd c (by decide), fun _ c => absurd rfl c⟩)
    · subst c
      exact m_isBuyer_t hb9 hn ha (hM ⟨fun c => absurd c (by decide), fun c => absurd c (by decide), fun _ => ⟨hv, by rw [cl (by omega), h31, h32], hI⟩, fun c => absurd c (by decide), fun c => absurd c (by decide), fun c => absurd c (by decide), fun c => absurd c (by decide), fun c => absurd c (by decide), fun _ _ c => absurd rfl c⟩)
    · subst c
      show vc_X11_about σ (nI k) 3 (fun r2 σ2 => 12 * σ 6 k 0 = r2 ∧ Inv σ2)
      exact m_isBuyer_t hb9 hn ha (hM ⟨fun c => absurd c (by decide), fun c => absurd c (by decide), fun c => absurd c (by decide), fun _ => ⟨hv, by rw [cl (by omega), h1], hI⟩, fun c => absurd c (by decide), fun c => absurd c (by decide), fun c => absurd c (by decide), fun c => absurd c (by decide), fun _ _ _ c => absurd rfl c⟩)
    · subst c
      exact m_isBuyer_t hb9 hn ha (hM ⟨fun c => absurd c (by decide), fun c => absurd c (by decide), fun c => absurd c (by decide), fun c => absurd c (by decide), fun _ => m_hayHeld hI.1 ⟨rfl, hI⟩, fun c => absurd c (by decide), fun c => absurd c (by decide), fun c => absurd c (by decide), fun _ _ _ _ c => absurd rfl c⟩)
    · subst c
      exact m_isBuyer_t hb9 hn ha (hM ⟨fun c => absurd c (by decide), fun c => absurd c (by decide), fun c => absurd c (by decide), fun c => absurd c (by decide), fun c => absurd c (by decide), fun _ => m_debt ⟨h7, hI⟩, fun c => absurd c (by decide), fun c => absurd c (by decide), fun _ _ _ _ _ c => absurd rfl c⟩)
    · subst c
      exact m_isBuyer_t hb9 hn ha (hM ⟨fun c => absurd c (by decide), fun c => absurd c (by decide), fun c => absurd c (by decide), fun c => absurd c (by decide), fun c => absurd c (by decide), fun c => absurd c (by decide), fun _ => ⟨hv, by rw [cl (by omega), h4], hI⟩, fun c => absurd c (by decide), fun _ _ _ _ _ _ c => absurd rfl c⟩)
    · subst c
      exact m_isBuyer_t hb9 hn ha (hM ⟨fun c => absurd c (by decide), fun c => absurd c (by decide), fun c => absurd c (by decide), fun c => absurd c (by decide), fun c => absurd c (by decide), fun c => absurd c (by decide), fun c => absurd c (by decide), fun _ => ⟨hv, by rw [cl (by omega)]; exact s7⟩, fun _ _ _ _ _ _ _ c => absurd rfl c⟩)
    · exact m_isBuyer_t hb9 hn ha (hM ⟨fun c => absurd c n0, fun c => absurd c n1, fun c => absurd c n2, fun c => absurd c n3, fun c => absurd c n4, fun c => absurd c n5, fun c => absurd c n6, fun c => absurd c n7, fun _ _ _ _ _ _ _ _ => ⟨rfl, hI⟩⟩)
  · refine p_isBuyer_f hb8 hn ha (k0' ?_)
    exact m_isBuyer_f hb9 hn ha (k0' ⟨rfl, hI⟩)
theorem debt_new {σ : zMem} (h : iP σ) {nb : Nat} (hn : nb ≤ 10) (hb : σ 0 0 8 = nI nb) : debt σ nb = 0 := by
  refine sm_zero (fun p hp => ?_)
  rcases (h p hp).2.2 with h | h
  · rw [if_pos h.1]
  · obtain ⟨o, nb', ho, hnb, h0, h1, h2⟩ := h.2.1
    have e : nb' = nb := (nI_eq (by omega) (by omega)).mp (h0.symm.trans hb)
    rw [if_neg (by rw [h.1]; decide), if_neg]
    rw [h2, nI_eq (by omega) (by omega)]
    omega
theorem st_buyer {σ : zMem} (hI : Inv σ) (a b c : Int32) : vc_X10_buyer σ a b c (fun r σ1 => vc_X11_buyer σ1 a b c (fun r2 σ2 => r = r2 ∧ Inv σ2)) := by
  have e0 : (0 : Int32).toInt = 0 := rfl
  obtain ⟨nb, hn, hb8, hb9, hB⟩ := hI.2.1
  by_cases ha : 0 ≤ a.toInt ∧ a.toInt ≤ (50 : Int32).toInt
  · refine p_within_t ha (k1 ?_)
    by_cases hb : 0 ≤ b.toInt ∧ b.toInt ≤ (100000 : Int32).toInt
    · refine p_within_t hb (k1 ?_)
      by_cases hc : vp_in c 24
      · refine p_isPlot_t hc (k1' ?_)
        by_cases hf : nb = 10
        · subst hf
          refine kf (by rw [hb8]; decide) ?_
          refine m_in_t (by omega) (k1 ?_)
          refine m_in_t (by omega) (k1 ?_)
          refine m_isPlot_t hc (k1' ?_)
          exact kt' (by rw [hb9]; rfl) ⟨rfl, hI⟩
        · have hlt : nI nb < 10 := nI_lt (b := 10) (by omega) (by decide)
          have hv : vp_in (nI nb) 10 := in_nI (by omega) (by decide)
          refine kt (by rw [hb8]; exact hlt) ⟨by rw [hb8]; exact hv, ?_⟩
          refine m_in_t (by omega) (k1 ?_)
          refine m_in_t (by omega) (k1 ?_)
          refine m_isPlot_t hc (k1' ?_)
          have hne : ¬ nI nb = 10 := by
            intro z
            have := (nI_eq (a := nb) (b := 10) (by omega) (by decide)).mp z
            omega
          obtain ⟨h, hh, rfl⟩ := in_of hc (by decide)
          have e10 : nI nb + 1 - 1 = nI nb := by rw [s1]; exact nI_pred nb
          refine kf' (by rw [um_q _ _ (by decide), um_q _ _ (by decide), um_q _ _ (by decide), um_q _ _ (by decide), hb9]; exact hne) ?_
          simp [um, hb8, hb9, cl (k := nb) (by omega)]
          refine ⟨hv, ?_⟩
          rw [show vp_nar .boolean 0 = 0 from rfl, s1]
          obtain ⟨n3, n4, n5, n6⟩ := (hB nb (by omega)).2 (Nat.le_refl _)
          refine ⟨fun p hp => ?_, ⟨nb + 1, by omega, by simp [um], by simp [um], fun b' hb' => ?_⟩, ?_, ?_, ?_⟩
          · obtain ⟨h1, h2, h3⟩ := hI.1 p hp
            refine ⟨by simpa [um] using h1, by simpa [um] using h2, ?_⟩
            rcases h3 with h3 | h3
            · exact Or.inl (by simpa [um] using h3)
            · obtain ⟨o, nb', ho, hnb, h0, h4, h5⟩ := h3.2.1
              have e : nb' = nb := (nI_eq (by omega) (by omega)).mp (h0.symm.trans hb8)
              exact Or.inr ⟨by simpa [um] using h3.1, ⟨o, nb + 1, by omega, by omega, by simp [um], by simpa [um] using h4, by simpa [um] using h5⟩, by simpa [um] using h3.2.2.1, by simpa [um] using h3.2.2.2⟩
          · by_cases hbb : b' = nb
            · subst hbb
              have hd := debt_new hI.1 hn hb8
              refine ⟨fun _ => ⟨by simp [um], by simp [um], ⟨h, hh, by simp [um], by simp [um]⟩, by simp [um, n4], by simp [um, n5, zbool], by simp [um, n6], ?_⟩, fun hx => absurd hx (by omega)⟩
              simpa [um, debt, n3] using hd.symm
            · refine ⟨fun hx => ?_, fun hx => ?_⟩
              · obtain ⟨q1, q2, q3, q4, q5, q6, q7⟩ := (hB b' hb').1 (by omega)
                refine ⟨by simpa [um, hbb] using q1, by simpa [um, hbb] using q2, by simpa [um, hbb] using q3, by simpa [um, hbb] using q4, by simpa [um, hbb] using q5, ⟨by simpa [um, hbb] using q6.1, ?_⟩, by simpa [um, hbb, debt] using q7⟩
                rcases q6.2 with q | ⟨o, ho, q⟩
                · exact Or.inl (by simpa [um, hbb] using q)
                · exact Or.inr ⟨o, by omega, by simpa [um, hbb] using q⟩
              · have q := (hB b' hb').2 (by omega)
                simpa [um, hbb] using q
          · simpa [um, iD] using hI.2.2.1
          · simpa [um, iR] using hI.2.2.2.1
          · simpa [um, iS] using hI.2.2.2.2
      · refine p_isPlot_f hc (k0' ?_)
        refine m_in_t (by omega) (k1 ?_)
        refine m_in_t (by omega) (k1 ?_)
        exact m_isPlot_f hc (k0' ⟨rfl, hI⟩)
    · refine p_within_f hb (k0 ?_)
      refine m_in_t (by omega) (k1 ?_)
      exact m_in_f (by omega) (k0 ⟨rfl, hI⟩)
  · refine p_within_f ha (k0 ?_)
    exact m_in_f (by omega) (k0 ⟨rfl, hI⟩)
