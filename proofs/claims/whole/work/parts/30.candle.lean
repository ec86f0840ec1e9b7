/-! candle -/
theorem rd19 (τ : zMem) {q i j : Nat} {v : Int32} (h : 22 ≠ q) : um τ q i j v 22 0 19 = τ 22 0 19 := um_q τ v h
theorem m_candle {σ σc : zMem} (hI : Inv σ) (hM : SameM σ σc) {nb st p B f : Nat} (hn : nb ≤ 10) (hst : 1 ≤ st ∧ st ≤ 100) (hb8 : σ 0 0 8 = nI nb) (h16 : σ 22 0 16 = nI st) (hp : p < 24) (hB : 1 ≤ B ∧ B ≤ 60) (hf : f < nb) (h0 : σ 25 0 p = 0) {Q : Int32 → zMem → Prop}
    (kn : (bu (fun b => cap σ b p) (fun b => σ 6 b 5) nb st (nI B) f B).1 = none → ∀ σ', Same σc σ' → Q (-4) σ')
    (ks : ∀ t, (bu (fun b => cap σ b p) (fun b => σ 6 b 5) nb st (nI B) f B).1 = some t → ∀ σ', Same σc σ' → Q (bu (fun b => cap σ b p) (fun b => σ 6 b 5) nb st (nI B) f B).2 (um (um (um (um σ' 25 0 p 1) 26 0 p (nI t)) 27 0 p (bu (fun b => cap σ b p) (fun b => σ 6 b 5) nb st (nI B) f B).2) 28 0 p (lp (fun b => cap σ b p) nb st))) : vc_X11_candle σc (nI p) (nI B) (nI f) Q := by
  have e0 : (0 : Int32).toInt = 0 := rfl
  have e1 : (1 : Int32).toInt = 1 := rfl
  have e60 : (60 : Int32).toInt = 60 := rfl
  have e4 : (-4 : Int32).toInt = -4 := rfl
  have eB : (nI B).toInt = B := ti (by omega)
  obtain ⟨nb', hn', hb8', hb9, hB9⟩ := id hI.2.1
  obtain rfl : nb' = nb := (nI_eq (by omega) (by omega)).mp (hb8'.symm.trans hb8)
  have ha : vp_in (nI p) 24 := in_nI hp (by decide)
  have e9 : σc 22 0 9 = nI nb' := (hM 22 0 9 (by decide) rfl).trans hb9
  have e16 : σc 22 0 16 = nI st := (hM 22 0 16 (by decide) rfl).trans h16
  refine m_isPlot_t ha (k1 ?_)
  refine m_in_t (by omega) (k1 ?_)
  refine m_isBuyer_t e9 hn (in_nI hf (by omega)) (k1' ⟨ha, ?_⟩)
  rw [cl (by omega)]
  refine kt ((hM 25 0 p (by decide) rfl).trans h0) (mm_value (kM_same hM (kM_of hI.1)) hn e9 (fun b hb => ?_) hp (fun σ1 h1 h2 => ?_))
  · obtain ⟨-, -, ⟨h, hh, -, q4⟩, -⟩ := (hB9 b (by omega)).1 hb
    exact ⟨h, hh, (hM 33 0 b (by decide) rfl).trans q4⟩
  have h2' : ∀ b, b < nb' → σ1 37 0 b = wv σ b p ∧ σ1 38 0 b = rs σ b := fun b hb => by
    rw [← wvM_eq hI hn hb8 hb hp, ← wvM_same hM, ← rsM_eq hI hn hb8 hb]
    have e : rsM σc b = rsM σ b := by
      unfold rsM
      rw [hM 32 0 b (by decide) rfl, debt_sameM hM]
    rw [← e]
    exact h2 b hb
  refine m_burn (σ0 := σ1) (C := fun b => cap σ b p) (Wt := fun b => σ 6 b 5) (Wv := fun b => wv σ b p) (R := fun b => rs σ b) (st := st) hn hf hB.2 (fun b hb => rfl) ((h1 22 0 9 rfl).trans e9) ((h1 22 0 16 rfl).trans e16) (fun b hb => ?_) Same.rf h2' (fun σ2 g => ?_)
  · obtain ⟨-, -, -, -, q5, -⟩ := (hB9 b (by omega)).1 hb
    exact (h1 34 0 b rfl).trans ((hM 34 0 b (by decide) rfl).trans q5.2.symm)
  obtain ⟨g1, g2, g3⟩ := g
  obtain ⟨r, hr⟩ : ∃ r, r = bu (fun b => cap σ b p) (fun b => σ 6 b 5) nb' st (nI B) f B := ⟨_, rfl⟩
  have hbt : ∀ x, r.1 = some x → x < 100 := fun x hx => by
    rw [hr] at hx
    have := bu_lt (by omega) B x hx
    omega
  rw [← hr] at kn ks g3 ⊢
  have s2 : Same σc σ2 := h1.tr g1
  cases hr1 : r.1 with
  | none => exact kt' rfl (kn hr1 σ2 s2)
  | some t =>
    have htl : t < 100 := hbt t hr1
    refine kf' (fun z => neg4_nI (b := t) (by omega) z.symm) ?_
    refine m_lotFor (σ0 := σ2) (C := fun b => cap σ b p) (Wv := fun b => wv σ b p) (R := fun b => rs σ b) (st := st) hn hst (fun b hb => rfl) ((g1 22 0 9 rfl).trans ((h1 22 0 9 rfl).trans e9)) ((g1 22 0 16 rfl).trans ((h1 22 0 16 rfl).trans e16)) g2 (fun σ3 f1 f2 f3 f4 => ⟨ha, ha, ha, ?_⟩)
    have k := ks t hr1 σ3 (s2.tr f1)
    have e19 : σ3 22 0 19 = r.2 := f3.trans g3
    rw [rd19 _ (by decide), rd19 _ (by decide), rd19 _ (by decide), rd19 _ (by decide), e19, rd19 _ (by decide), rd19 _ (by decide), rd19 _ (by decide), rd19 _ (by decide), e19, show vp_nar .boolean 1 = 1 from rfl]
    by_cases hg : gb (fun b => cap σ b p) st none nb' = none
    · rw [if_pos hg]
      rw [lp_none hg] at k
      exact kf (by decide) ⟨ha, k⟩
    · rw [if_neg hg]
      refine kt ?_ ⟨ha, k⟩
      rw [te]
      refine lp_pos hst (fun b hb => ?_) hg
      obtain ⟨-, -, ⟨h, hh, q3, -⟩, -⟩ := (hB9 b (by omega)).1 hb
      have hw := wv_b hI.1 hp hh q3
      unfold cap
      split
      · rename_i c
        rw [tl] at c
        omega
      · omega
theorem st_candle {σ : zMem} (hI : Inv σ) (a b c : Int32) : vc_X10_candle σ a b c (fun r σ1 => vc_X11_candle σ1 a b c (fun r2 σ2 => r = r2 ∧ Inv σ2)) := by
  have e1 : (1 : Int32).toInt = 1 := rfl
  have e60 : (60 : Int32).toInt = 60 := rfl
  obtain ⟨nb, hn, hb8, hb9, hB9⟩ := id hI.2.1
  obtain ⟨s0, hs1, hs2, hs3, hs4⟩ := hI.2.2.1.1
  by_cases ha : vp_in a 24
  · refine p_isPlot_t ha (k1 ?_)
    by_cases hb : 1 ≤ b.toInt ∧ b.toInt ≤ 60
    · refine ⟨fun z => absurd z (by rw [tl]; omega), fun _ => ⟨fun z => absurd z (by rw [tl]; omega), fun _ => ?_⟩⟩
      by_cases hc : vp_in c nb
      · refine p_isBuyer_t hb8 hn hc (k1' ⟨ha, ?_⟩)
        obtain ⟨p, hp, rfl⟩ := in_of ha (by decide)
        obtain ⟨B, hB, rfl⟩ := in_of (x := b) (n := 61) (vp_in_iff.mpr (by omega)) (by decide)
        obtain ⟨f, hf, rfl⟩ := in_of hc (by omega)
        rw [ti (by omega)] at hb
        rw [cl (k := p) (by omega)]
        refine p_isSold hI.1 hp ?_
        rcases sold01 hI.1 hp with h0 | h0
        · rw [h0]
          refine k0 (p_prepare hI hn hb8 hs3 hp (fun σ1 h1 h2 h3 h4 => ?_))
          refine p_burn (σ0 := σ) (C := fun b => cap σ b p) (Wt := fun b => σ 6 b 5) hn hf (by omega) h1 h2 h3 h4 (fun σ2 hs => ?_)
          obtain ⟨q1, q2, q3, q4, q5, q6⟩ := hs
          have mc := fun (σc : zMem) (hM : SameM σ σc) (Q : Int32 → zMem → Prop) => m_candle (Q := Q) hI hM (st := s0) (B := B) (f := f) (p := p) hn ⟨hs1, hs2⟩ hb8 hs4 hp (by omega) hf h0
          have hbl : ∀ t, (bu (fun b => cap σ b p) (fun b => σ 6 b 5) nb s0 (nI B) f B).1 = some t → t < nb := fun t h => bu_lt (by omega) B t h
          obtain ⟨r, hr⟩ : ∃ r, r = bu (fun b => cap σ b p) (fun b => σ 6 b 5) nb s0 (nI B) f B := ⟨_, rfl⟩
          rw [← hr] at q5 q6 mc hbl
          rw [q5]
          cases hr1 : r.1 with
          | none =>
            refine kt' rfl ?_
            exact mc σ2 q1.m _ (fun _ σ3 g => ⟨rfl, Inv_same (q1.tr g) hI⟩) (fun t h => by rw [hr1] at h; cases h)
          | some t =>
            have htl := hbl t hr1
            refine kf' (fun z => neg_nI (b := t) (by omega) z.symm) ?_
            refine p_lotTaker (C := fun b => cap σ b p) hn q2 q3 (fun b hb => (q4 b hb).1) (p_lotPrice (C := fun b => cap σ b p) hn q2 q3 (fun b hb => (q4 b hb).1) ⟨ha, ?_⟩)
            unfold vc_X10_hand
            have d4 : (um σ2 0 0 11 (σ2 0 0 11 + (σ2 12 0 5 - lp (fun b => cap σ b p) nb s0))) 12 0 4 = nI t := by
              rw [um_q _ _ (by decide), q5, hr1]
              rfl
            have d5 : (um σ2 0 0 11 (σ2 0 0 11 + (σ2 12 0 5 - lp (fun b => cap σ b p) nb s0))) 12 0 5 = r.2 := by
              rw [um_q _ _ (by decide), q6]
            rw [d4, d5]
            refine ⟨in_nI (show t < 10 by omega) (by decide), ?_⟩
            rw [cl (k := t) (by omega)]
            dsimp only
            have d6 : (um (um (um σ2 0 0 11 (σ2 0 0 11 + (σ2 12 0 5 - lp (fun b => cap σ b p) nb s0))) 4 p 3 (nI t)) 4 p 4 r.2) 6 t 3 = σ 6 t 3 := by
              rw [um_q _ _ (by decide), um_q _ _ (by decide), um_q _ _ (by decide)]
              exact q1 6 t 3 rfl
            have d7 : ∀ (τ : zMem) (v : Int32), (um τ 6 t 3 v) 12 0 5 = τ 12 0 5 := fun τ v => um_q τ v (by decide)
            rw [d6, d7, um_q _ _ (by decide), um_q _ _ (by decide), d5, q6, q1 0 0 11 rfl]
            refine mc _ ((((q1.m.um (by decide)).um (by decide)).um (by decide)).um (by decide)) _ (fun h => by rw [hr1] at h; cases h) (fun t' h σ3 g => ⟨rfl, ?_⟩)
            obtain rfl : t' = t := Option.some.inj (h.symm.trans hr1)
            refine Inv_same (σ := (um (um (um (um (um (um (um (um σ 0 0 11 (σ 0 0 11 + (r.2 - lp (fun b => cap σ b p) nb s0))) 4 p 3 (nI t')) 4 p 4 r.2) 6 t' 3 (σ 6 t' 3 + r.2)) 25 0 p 1) 26 0 p (nI t')) 27 0 p r.2) 28 0 p (lp (fun b => cap σ b p) nb s0))) ?_ (Inv_sell hI hn hb8 hp htl h0)
            refine Same_cong (Same_cong (Same_cong (Same_cong (Same.tr ?_ g) _ _ _ _) _ _ _ _) _ _ _ _) _ _ _ _
            exact Same_cong (Same_cong (Same_cong (Same_cong q1 _ _ _ _) _ _ _ _) _ _ _ _) _ _ _ _
        · rw [h0]
          refine k1 ?_
          refine m_isPlot_t ha (k1 ?_)
          refine m_in_t (by rw [ti (by omega)]; omega) (k1 ?_)
          refine m_isBuyer_t hb9 hn hc (k1' ⟨ha, ?_⟩)
          rw [cl (by omega)]
          exact kf (by rw [h0]; decide) ⟨rfl, hI⟩
      · refine p_isBuyer_f hb8 hn hc (k0' ?_)
        refine m_isPlot_t ha (k1 ?_)
        refine m_in_t (by omega) (k1 ?_)
        exact m_isBuyer_f hb9 hn hc (k0' ⟨rfl, hI⟩)
    · have fin : vc_X11_candle σ a b c (fun r2 σ2 => -1 = r2 ∧ Inv σ2) := m_isPlot_t ha (k1 (m_in_f (by omega) (k0 ⟨rfl, hI⟩)))
      refine ⟨fun _ => fin, fun z => ⟨fun _ => fin, fun z2 => ?_⟩⟩
      exfalso
      rw [tl] at z z2
      omega
  · refine p_isPlot_f ha (k0 ?_)
    exact m_isPlot_f ha (k0 ⟨rfl, hI⟩)
