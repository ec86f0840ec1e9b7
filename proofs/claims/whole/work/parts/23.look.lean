/-! ring, count, look, waits, surety, about -/
theorem l_ring {σ : zMem} {Q : Int32 → zMem → Prop} (k : Q (sm (fun p => if σ 25 0 p = 0 then 0 else σ 27 0 p - σ 28 0 p) 24) σ) : ∀ m p, p + m = 24 → vc_X11_ring_4 Q (m + 1) σ (sm (fun p => if σ 25 0 p = 0 then 0 else σ 27 0 p - σ 28 0 p) p) (nI p)
  | 0, p, hp => by
    obtain rfl : p = 24 := by omega
    exact kt (by decide) k
  | m + 1, p, hp => by
    have hv' : vp_in (nI p) 24 := in_nI (by omega) (by decide)
    have ih := l_ring k m (p + 1) (by omega)
    rw [vc_X11_ring_4]
    refine kf (g24 (by omega)) ⟨hv', ?_⟩
    rw [s1, cl (by omega)]
    rw [sm] at ih
    by_cases h1 : σ 25 0 p = 0
    · rw [if_pos h1] at ih
      exact kt h1 ih
    · rw [if_neg h1] at ih
      exact kf h1 ⟨hv', hv', ih⟩
theorem st_ring {σ : zMem} (hI : Inv σ) : vc_X10_ring σ (fun r σ1 => vc_X11_ring σ1 (fun r2 σ2 => r = r2 ∧ Inv σ2)) :=
  ⟨_, l_ring ⟨hI.2.2.2.1, hI⟩ 24 0 rfl⟩
theorem l_csold {σ : zMem} (h : iP σ) {Q : Int32 → zMem → Prop} (k : Q (sm (σ 25 0) 24) σ) : ∀ m p, p + m = 24 → vc_X11_count_51 Q (m + 1) σ (sm (σ 25 0) p) (nI p)
  | 0, p, hp => by
    obtain rfl : p = 24 := by omega
    exact kt (by decide) k
  | m + 1, p, hp => by
    have hv' : vp_in (nI p) 24 := in_nI (by omega) (by decide)
    have ih := l_csold h k m (p + 1) (by omega)
    rw [vc_X11_count_51]
    refine kf (g24 (by omega)) ⟨hv', ?_⟩
    rw [s1, cl (by omega)]
    rw [sm] at ih
    rcases sold01 h (p := p) (by omega) with h1 | h1
    · rw [h1] at ih
      exact kt h1 ih
    · rw [h1] at ih
      exact kf (by rw [h1]; decide) ih
theorem l_cstand {σ : zMem} (h : iP σ) {Q : Int32 → zMem → Prop} (k : Q (sm (sv σ) 24) σ) : ∀ m p, p + m = 24 → vc_X11_count_84 Q (m + 1) σ (sm (sv σ) p) (nI p)
  | 0, p, hp => by
    obtain rfl : p = 24 := by omega
    exact kt (by decide) k
  | m + 1, p, hp => by
    have ih := l_cstand h k m (p + 1) (by omega)
    rw [vc_X11_count_84]
    refine kf (g24 (by omega)) (m_stands h (by omega) ?_)
    rw [s1]
    rw [sm] at ih
    rcases sv01 σ p with h1 | h1
    · rw [h1] at ih
      exact kt h1 ih
    · rw [h1] at ih
      exact kf (by rw [h1]; decide) ih
theorem l_chay {σ : zMem} (h : iP σ) {Q : Int32 → zMem → Prop} (k : Q (sm (hv σ) 24) σ) : ∀ m p, p + m = 24 → vc_X11_count_126 Q (m + 1) σ (sm (hv σ) p) (nI p)
  | 0, p, hp => by
    obtain rfl : p = 24 := by omega
    exact kt (by decide) k
  | m + 1, p, hp => by
    have ih := l_chay h k m (p + 1) (by omega)
    rw [vc_X11_count_126]
    refine kf (g24 (by omega)) (m_hayOf h (by omega) ?_)
    rw [s1]
    exact ih
theorem l_crain {σ : zMem} (h : iD σ) {Q : Int32 → zMem → Prop} (k : Q (sm (σ 11 0) 31) σ) : ∀ m p, p + m = 31 → vc_X11_count_150 Q (m + 1) σ (sm (σ 11 0) p) (nI p)
  | 0, p, hp => by
    obtain rfl : p = 31 := by omega
    exact kt (by decide) k
  | m + 1, p, hp => by
    have hv' : vp_in (nI p) 31 := in_nI (by omega) (by decide)
    have ih := l_crain h k m (p + 1) (by omega)
    rw [vc_X11_count_150]
    refine kf (g31 (by omega)) ⟨hv', ?_⟩
    rw [s1, cl (by omega)]
    rw [sm] at ih
    obtain ⟨h1, h2⟩ := h.2.2 p (by omega)
    rw [← h1]
    rcases h2 with h2 | h2
    · rw [h2] at ih
      exact kt h2 ih
    · rw [h2] at ih
      exact kf (by rw [h2]; decide) ih
theorem st_count {σ : zMem} (hI : Inv σ) (a : Int32) : vc_X10_count σ a (fun r σ1 => vc_X11_count σ1 a (fun r2 σ2 => r = r2 ∧ Inv σ2)) := by
  obtain ⟨nb, hn, hb8, hb9, hB⟩ := hI.2.1
  obtain ⟨⟨s0, hs1, hs2, hs3, hs4⟩, ⟨t0, ht1, ht2, ht3⟩, -⟩ := hI.2.2.1
  by_cases c0 : a = 0
  · subst c0
    refine ⟨fun _ => ?_, fun c => absurd c (by decide), fun c => absurd c (by decide), fun c => absurd c (by decide), fun c => absurd c (by decide), fun c => absurd c (by decide), fun c => absurd c (by decide), fun c => absurd rfl c⟩
    exact ⟨fun _ => ⟨hb8.trans hb9.symm, hI⟩, fun c => absurd c (by decide), fun c => absurd c (by decide), fun c => absurd c (by decide), fun c => absurd c (by decide), fun c => absurd c (by decide), fun c => absurd c (by decide), fun c => absurd rfl c⟩
  by_cases c1 : a = 1
  · subst c1
    refine ⟨fun c => absurd c (by decide), fun _ => p_sold hI.1 ?_, fun c => absurd c (by decide), fun c => absurd c (by decide), fun c => absurd c (by decide), fun c => absurd c (by decide), fun c => absurd c (by decide), fun _ c => absurd rfl c⟩
    exact ⟨fun c => absurd c (by decide), fun _ => ⟨_, l_csold hI.1 ⟨rfl, hI⟩ 24 0 rfl⟩, fun c => absurd c (by decide), fun c => absurd c (by decide), fun c => absurd c (by decide), fun c => absurd c (by decide), fun c => absurd c (by decide), fun _ c => absurd rfl c⟩
  by_cases c2 : a = 2
  · subst c2
    refine ⟨fun c => absurd c (by decide), fun c => absurd c (by decide), fun _ => p_standing hI.1 ?_, fun c => absurd c (by decide), fun c => absurd c (by decide), fun c => absurd c (by decide), fun c => absurd c (by decide), fun _ _ c => absurd rfl c⟩
    exact ⟨fun c => absurd c (by decide), fun c => absurd c (by decide), fun _ => ⟨_, l_cstand hI.1 ⟨rfl, hI⟩ 24 0 rfl⟩, fun c => absurd c (by decide), fun c => absurd c (by decide), fun c => absurd c (by decide), fun c => absurd c (by decide), fun _ _ c => absurd rfl c⟩
  by_cases c3 : a = 3
  · subst c3
    refine ⟨fun c => absurd c (by decide), fun c => absurd c (by decide), fun c => absurd c (by decide), fun _ => ?_, fun c => absurd c (by decide), fun c => absurd c (by decide), fun c => absurd c (by decide), fun _ _ _ c => absurd rfl c⟩
    exact ⟨fun c => absurd c (by decide), fun c => absurd c (by decide), fun c => absurd c (by decide), fun _ => ⟨ht2.trans ht3.symm, hI⟩, fun c => absurd c (by decide), fun c => absurd c (by decide), fun c => absurd c (by decide), fun _ _ _ c => absurd rfl c⟩
  by_cases c4 : a = 4
  · subst c4
    refine ⟨fun c => absurd c (by decide), fun c => absurd c (by decide), fun c => absurd c (by decide), fun c => absurd c (by decide), fun _ => ?_, fun c => absurd c (by decide), fun c => absurd c (by decide), fun _ _ _ _ c => absurd rfl c⟩
    exact ⟨fun c => absurd c (by decide), fun c => absurd c (by decide), fun c => absurd c (by decide), fun c => absurd c (by decide), fun _ => ⟨hs3.trans hs4.symm, hI⟩, fun c => absurd c (by decide), fun c => absurd c (by decide), fun _ _ _ _ c => absurd rfl c⟩
  by_cases c5 : a = 5
  · subst c5
    refine ⟨fun c => absurd c (by decide), fun c => absurd c (by decide), fun c => absurd c (by decide), fun c => absurd c (by decide), fun c => absurd c (by decide), fun _ => p_allHay hI.1 ?_, fun c => absurd c (by decide), fun _ _ _ _ _ c => absurd rfl c⟩
    exact ⟨fun c => absurd c (by decide), fun c => absurd c (by decide), fun c => absurd c (by decide), fun c => absurd c (by decide), fun c => absurd c (by decide), fun _ => ⟨_, l_chay hI.1 ⟨rfl, hI⟩ 24 0 rfl⟩, fun c => absurd c (by decide), fun _ _ _ _ _ c => absurd rfl c⟩
  by_cases c6 : a = 6
  · subst c6
    refine ⟨fun c => absurd c (by decide), fun c => absurd c (by decide), fun c => absurd c (by decide), fun c => absurd c (by decide), fun c => absurd c (by decide), fun c => absurd c (by decide), fun _ => p_rainy hI.2.2.1 ?_, fun _ _ _ _ _ _ c => absurd rfl c⟩
    exact ⟨fun c => absurd c (by decide), fun c => absurd c (by decide), fun c => absurd c (by decide), fun c => absurd c (by decide), fun c => absurd c (by decide), fun c => absurd c (by decide), fun _ => ⟨_, l_crain hI.2.2.1 ⟨rfl, hI⟩ 31 0 rfl⟩, fun _ _ _ _ _ _ c => absurd rfl c⟩
  refine ⟨fun c => absurd c c0, fun c => absurd c c1, fun c => absurd c c2, fun c => absurd c c3, fun c => absurd c c4, fun c => absurd c c5, fun c => absurd c c6, fun _ _ _ _ _ _ _ => ?_⟩
  exact ⟨fun c => absurd c c0, fun c => absurd c c1, fun c => absurd c c2, fun c => absurd c c3, fun c => absurd c c4, fun c => absurd c c5, fun c => absurd c c6, fun _ _ _ _ _ _ _ => ⟨rfl, hI⟩⟩
theorem st_waits {σ : zMem} (hI : Inv σ) (a b : Int32) (hb : zbool b) : vc_X10_waits σ a b (fun r σ1 => vc_X11_waits σ1 a b (fun r2 σ2 => r = r2 ∧ Inv σ2)) := by
  obtain ⟨nb, hn, hb8, hb9, hB⟩ := hI.2.1
  by_cases ha : vp_in a nb
  · have hv : vp_in a 10 := vp_in_iff.mpr (by have := vp_in_iff.mp ha; omega)
    refine p_isBuyer_t hb8 hn ha (k1' ⟨hv, hv, hb, ?_⟩)
    obtain ⟨k, hk, rfl⟩ := in_of ha (by omega)
    rw [cl (by omega)]
    obtain ⟨h1, h2, h3, h4, h5, h6, h7⟩ := (hB k (by omega)).1 hk
    have hin : Inv (um (um σ 6 k 5 b) 34 0 k b) := by
      refine ⟨?_, ⟨nb, hn, by simpa [um] using hb8, by simpa [um] using hb9, fun b' hb' => ?_⟩, ?_, ?_, ?_⟩
      · simpa [um, iP] using hI.1
      · by_cases hbb : b' = k
        · subst hbb
          refine ⟨fun _ => ⟨?_, ?_, ?_, ?_, ?_, ?_, ?_⟩, fun hx => absurd hx (by omega)⟩
          · simpa [um] using h1
          · simpa [um] using h2
          · simpa [um] using h3
          · simpa [um] using h4
          · simpa [um] using hb
          · simpa [um] using h6
          · simpa [um, debt] using h7
        · simpa [um, hbb, debt] using hB b' hb'
      · simpa [um, iD] using hI.2.2.1
      · simpa [um, iR] using hI.2.2.2.1
      · simpa [um, iS] using hI.2.2.2.2
    by_cases hs : σ 6 k 5 = b
    · refine kt hs (k0 ?_)
      refine m_isBuyer_t (nb := nb) (by simpa [um] using hb9) hn ha (k1' ⟨hv, ?_⟩)
      rw [cl (by omega), nbool hb]
      exact kt (by simpa [um] using h5.2.symm.trans hs) ⟨hv, rfl, hin⟩
    · refine kf hs (k1 ?_)
      refine m_isBuyer_t (nb := nb) (by simpa [um] using hb9) hn ha (k1' ⟨hv, ?_⟩)
      rw [cl (by omega), nbool hb]
      exact kf (by rw [um_q σ _ (by decide), ← h5.2]; exact hs) ⟨hv, rfl, hin⟩
  · refine p_isBuyer_f hb8 hn ha (k0' ?_)
    exact m_isBuyer_f hb9 hn ha (k0' ⟨rfl, hI⟩)
theorem Inv_surety {σ : zMem} (hI : Inv σ) {nb k : Nat} {v : Int32} (hn : nb ≤ 10) (hb8 : σ 0 0 8 = nI nb) (hk : k < nb) (hv : v = -2 ∨ ∃ o, o < nb ∧ v = nI o) : Inv (um (um σ 6 k 6 v) 35 0 k v) := by
  obtain ⟨nb', hn', hb8', hb9, hB⟩ := hI.2.1
  obtain rfl : nb' = nb := (nI_eq (by omega) (by omega)).mp (hb8'.symm.trans hb8)
  obtain ⟨h1, h2, h3, h4, h5, h6, h7⟩ := (hB k (by omega)).1 hk
  refine ⟨?_, ⟨nb', hn, by simpa [um] using hb8, by simpa [um] using hb9, fun b' hb' => ?_⟩, ?_, ?_, ?_⟩
  · simpa [um, iP] using hI.1
  · by_cases hbb : b' = k
    · subst hbb
      refine ⟨fun _ => ⟨?_, ?_, ?_, ?_, ?_, ?_, ?_⟩, fun hx => absurd hx (by omega)⟩
      · simpa [um] using h1
      · simpa [um] using h2
      · simpa [um] using h3
      · simpa [um] using h4
      · simpa [um] using h5
      · simpa [um] using hv
      · simpa [um, debt] using h7
    · simpa [um, hbb, debt] using hB b' hb'
  · simpa [um, iD] using hI.2.2.1
  · simpa [um, iR] using hI.2.2.2.1
  · simpa [um, iS] using hI.2.2.2.2
theorem st_surety {σ : zMem} (hI : Inv σ) (a b : Int32) : vc_X10_surety σ a b (fun r σ1 => vc_X11_surety σ1 a b (fun r2 σ2 => r = r2 ∧ Inv σ2)) := by
  obtain ⟨nb, hn, hb8, hb9, hB⟩ := hI.2.1
  have e1 : (-1 : Int32).toInt = -1 := rfl
  by_cases hm : b = -1
  · refine kt' hm ?_
    by_cases ha : vp_in a nb
    · have hv : vp_in a 10 := vp_in_iff.mpr (by have := vp_in_iff.mp ha; omega)
      have hne : ¬ b = a := by
        intro c
        have h9 := vp_in_iff.mp ha
        rw [← c, hm] at h9
        omega
      refine p_isBuyer_t hb8 hn ha (k1 (kf' hne ⟨hv, hv, ?_⟩))
      refine m_isBuyer_t (nb := nb) (by simpa [um] using hb9) hn ha (k1 (kf hne (kt hm ⟨hv, kt' hm ⟨hv, ?_⟩⟩)))
      obtain ⟨k, hk, rfl⟩ := in_of ha (by omega)
      rw [cl (by omega)]
      obtain ⟨h1, h2, h3, h4, h5, h6, h7⟩ := (hB k (by omega)).1 hk
      exact ⟨by simp [um, h6.1], Inv_surety hI hn hb8 hk (Or.inl rfl)⟩
    · refine p_isBuyer_f hb8 hn ha (k0 ?_)
      exact m_isBuyer_f hb9 hn ha (k0 ⟨rfl, hI⟩)
  · refine kf' hm ?_
    by_cases ha : vp_in a nb
    · have hv : vp_in a 10 := vp_in_iff.mpr (by have := vp_in_iff.mp ha; omega)
      refine p_isBuyer_t hb8 hn ha (k1 ?_)
      by_cases hb : vp_in b nb
      · refine p_isBuyer_t hb8 hn hb (k1 ?_)
        by_cases hab : b = a
        · refine kt' hab ?_
          exact m_isBuyer_t hb9 hn ha (k1 (kt hab ⟨rfl, hI⟩))
        · refine kf' hab ⟨hv, hv, ?_⟩
          refine m_isBuyer_t (nb := nb) (by simpa [um] using hb9) hn ha (k1 (kf hab (kf hm ?_)))
          refine m_isBuyer_t (nb := nb) (by simpa [um] using hb9) hn hb (k1' ⟨hv, kf' hm ⟨hv, ?_⟩⟩)
          obtain ⟨k, hk, rfl⟩ := in_of ha (by omega)
          obtain ⟨o, ho, rfl⟩ := in_of hb (by omega)
          rw [cl (by omega)]
          obtain ⟨h1, h2, h3, h4, h5, h6, h7⟩ := (hB k (by omega)).1 hk
          exact ⟨by simp [um, h6.1], Inv_surety hI hn hb8 hk (Or.inr ⟨o, ho, rfl⟩)⟩
      · refine p_isBuyer_f hb8 hn hb (k0 ?_)
        refine m_isBuyer_t hb9 hn ha (k1 ?_)
        by_cases hab : b = a
        · exact kt hab ⟨rfl, hI⟩
        · refine kf hab (kf hm ?_)
          exact m_isBuyer_f hb9 hn hb (k0' ⟨rfl, hI⟩)
    · refine p_isBuyer_f hb8 hn ha (k0 ?_)
      exact m_isBuyer_f hb9 hn ha (k0 ⟨rfl, hI⟩)
