/-! cut -/
theorem Inv_cut {σ : zMem} (hI : Inv σ) {nb p o : Nat} {c : Int32} (hn : nb ≤ 10) (hb8 : σ 0 0 8 = nI nb) (hp : p < 24) (ho : o < nb) (h1 : σ 25 0 p = 1) :
    Inv (um (um (um (um (um σ 6 o 4 (σ 6 o 4 + c)) 4 p 5 (σ 0 0 10)) 36 0 o (σ 36 0 o + c)) 29 0 p 1) 30 0 p (σ 22 0 21)) := by
  obtain ⟨nb', hn', hb8', hb9, hB⟩ := hI.2.1
  obtain rfl : nb' = nb := (nI_eq (by omega) (by omega)).mp (hb8'.symm.trans hb8)
  obtain ⟨t, ht, ht1, ht2⟩ := hI.2.2.1.2.1
  refine ⟨fun p' hp' => ?_, ⟨nb', hn, by simpa [um] using hb8, by simpa [um] using hb9, fun b' hb' => ?_⟩, ?_, ?_, ?_⟩
  · by_cases hpp : p' = p
    · subst hpp
      obtain ⟨a1, a2, a3⟩ := hI.1 p' hp
      refine ⟨by simpa [um] using a1, by simpa [um] using a2, Or.inr ?_⟩
      rcases a3 with a3 | a3
      · rw [h1] at a3
        exact absurd a3.1 (by decide)
      · refine ⟨by simpa [um] using a3.1, by simpa [um] using a3.2.1, by simpa [um] using a3.2.2.1, Or.inr ⟨by simp [um], t, ht, by simpa [um] using ht1, by simpa [um] using ht2⟩⟩
    · simpa [um, hpp] using hI.1 p' hp'
  · refine ⟨fun hb => ?_, fun hb => ?_⟩
    · obtain ⟨q1, q2, q3, q4, q5, q6, q7⟩ := (hB b' hb').1 hb
      by_cases hbb : b' = o
      · subst hbb
        exact ⟨by simpa [um] using q1, by simpa [um] using q2, by simpa [um] using q3, by simp [um, q4], by simpa [um] using q5, by simpa [um] using q6, by simpa [um, debt] using q7⟩
      · exact ⟨by simpa [um] using q1, by simpa [um] using q2, by simpa [um] using q3, by simpa [um, hbb] using q4, by simpa [um] using q5, by simpa [um] using q6, by simpa [um, debt] using q7⟩
    · have hbb : ¬ b' = o := by omega
      simpa [um, hbb] using (hB b' hb').2 hb
  · simpa [um, iD] using hI.2.2.1
  · simpa [um, iR] using hI.2.2.2.1
  · simpa [um, iS] using hI.2.2.2.2
theorem tO_um {σ : zMem} {q i j : Nat} {v : Int32} (hq : q < 22) (p : Nat) : tO (um σ q i j v) p = tO σ p := by
  unfold tO sv
  rw [um_q _ _ (by omega), um_q _ _ (by omega), um_q _ _ (by omega)]
theorem st_cut {σ : zMem} (hI : Inv σ) (a : Int32) : vc_X10_cut σ a (fun r σ1 => vc_X11_cut σ1 a (fun r2 σ2 => r = r2 ∧ Inv σ2)) := by
  obtain ⟨nb, hn, hb8, hb9, hB⟩ := hI.2.1
  by_cases ha : vp_in a 24
  · refine p_isPlot_t ha (k1' ⟨ha, ?_⟩)
    obtain ⟨p, hp, rfl⟩ := in_of ha (by decide)
    rw [cl (by omega)]
    refine p_stands hI.1 hp ⟨fun c => ?_, fun c => ?_⟩
    · exact m_isPlot_t ha (k1' (m_stands hI.1 hp ⟨fun z => absurd c z, fun _ => ⟨rfl, hI⟩⟩))
    · have hs : σ 25 0 p = 1 ∧ ∃ o, o < nb ∧ σ 4 p 3 = nI o ∧ σ 26 0 p = nI o := by
        rcases (hI.1 p hp).2.2 with h | h
        · exact absurd (by rw [sv, if_pos h.1]) c
        · obtain ⟨o, nb', h1, h2, h3, h4, h5⟩ := h.2.1
          have e : nb' = nb := (nI_eq (by omega) (by omega)).mp (h3.symm.trans hb8)
          exact ⟨h.1, o, by omega, h4, h5⟩
      obtain ⟨hs1, o, ho, hs2, hs3⟩ := hs
      have hvo : vp_in (nI o) 10 := in_nI (by omega) (by decide)
      rw [hs2]
      refine p_isBuyer_t hb8 hn (in_nI ho (by omega)) (k1' (p_tramp hI hp (fun σ1 c1 a1 a2 a3 => ?_)))
      rw [a1 4 p 3 rfl, hs2]
      refine ⟨hvo, ?_⟩
      rw [cl (by omega), um_q _ _ (by decide), a1 6 o 4 rfl, a1 0 0 10 rfl]
      have g1 : Same (um (um σ 6 o 4 (σ 6 o 4 + nI c1)) 4 p 5 (σ 0 0 10)) (um (um σ1 6 o 4 (σ 6 o 4 + nI c1)) 4 p 5 (σ 0 0 10)) := Same_cong (Same_cong a1 _ _ _ _) _ _ _ _
      have es : sv (um (um σ1 6 o 4 (σ 6 o 4 + nI c1)) 4 p 5 (σ 0 0 10)) p = sv σ p := by
        rw [sv_same g1]
        unfold sv
        simp [um]
      have et : ∀ v, tO (um (um σ1 6 o 4 (σ 6 o 4 + nI c1)) 4 p 5 (σ 0 0 10)) v = tO σ v := fun v => by
        rw [tO_same g1, tO_um (by decide), tO_um (by decide)]
      refine m_isPlot_t ha (k1' (mm_stands hp ⟨fun _ => ?_, fun z => absurd (es ▸ z) c⟩))
      refine m_way (fun v hv => ?_) hp (fun σ2 c2 b1 b2 b3 => ⟨ha, ?_⟩)
      · rw [um_q _ _ (by decide), um_q _ _ (by decide), a1 24 0 v rfl]
        exact gM_of hI.1 v hv
      · have e12 : c1 = c2 := wm_u a2 (wm_congr (fun v hv => et v) b2)
        subst e12
        have g2 : Same (um (um σ 6 o 4 (σ 6 o 4 + nI c1)) 4 p 5 (σ 0 0 10)) σ2 := g1.tr (fun q i j z => b1 q i j (fun e => by subst e; cases z) (fun e => by subst e; cases z))
        have e26 : σ2 26 0 p = nI o := by rw [g2 26 0 p rfl]; simpa [um] using hs3
        have e36 : σ2 36 0 o = σ 36 0 o := by rw [g2 36 0 o rfl]; simp [um]
        have e21 : σ2 22 0 21 = σ 22 0 21 := by rw [g2 22 0 21 rfl]; simp [um]
        rw [cl (by omega), e26, cl (k := o) (by omega), um_q _ _ (by decide), um_q _ _ (by decide), e36, e21]
        refine ⟨hvo, hvo, ha, ha, rfl, ?_⟩
        exact Inv_same (Same_cong (Same_cong (Same_cong g2 _ _ _ _) _ _ _ _) _ _ _ _) (Inv_cut hI hn hb8 hp ho hs1)
  · refine p_isPlot_f ha (k0' ?_)
    exact m_isPlot_f ha (k0' ⟨rfl, hI⟩)
