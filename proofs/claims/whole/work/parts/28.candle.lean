/-! lotter, lots, wins, candle -/
theorem fb_bmod {z : Int} (h1 : -2147483648 ≤ z) (h2 : z < 2147483648) : z.bmod (2 ^ 32) = z := by
  rw [Int.bmod_eq_of_le (by omega) (by omega)]
theorem fb_addI {x y : Int32} (h1 : -2147483648 ≤ x.toInt + y.toInt) (h2 : x.toInt + y.toInt < 2147483648) : (x + y).toInt = x.toInt + y.toInt := by
  rw [Int32.toInt_add, fb_bmod h1 h2]
theorem fb_mulI {x y : Int32} (h1 : -2147483648 ≤ x.toInt * y.toInt) (h2 : x.toInt * y.toInt < 2147483648) : (x * y).toInt = x.toInt * y.toInt := by
  rw [Int32.toInt_mul, fb_bmod h1 h2]
theorem fb_byte {x : Int32} (h1 : -128 ≤ x.toInt) (h2 : x.toInt < 128) : x.toInt8.toInt32 = x := by
  apply Int32.toInt_inj.1
  rw [Int8.toInt_toInt32, Int32.toInt_toInt8, Int.bmod_eq_of_le (by omega) (by omega)]
set_option maxRecDepth 100000 in
theorem hay_b : ∀ k, k < 4 → ∀ g, g < 201 → 0 ≤ (nI g * zchance k / 100).toInt ∧ (nI g * zchance k / 100).toInt ≤ 190 := by decide +kernel
theorem hv_b {σ : zMem} (h : iP σ) {p : Nat} (hp : p < 24) : ∃ n, n ≤ 190 ∧ hv σ p = nI n := by
  obtain ⟨⟨k, hk, h1, h2, h3⟩, ⟨g, hg, h4, h5⟩, -⟩ := h p hp
  have hb := hay_b k hk g (by omega)
  rw [hv, h4, h2, cl (by omega)]
  obtain ⟨n, hn, e⟩ := in_of (x := nI g * zchance k / 100) (n := 191) (vp_in_iff.mpr (by omega)) (by decide)
  exact ⟨n, by omega, e⟩
theorem wb_b {σ : zMem} (h : iP σ) {b p hm : Nat} (hp : p < 24) (hh : hm < 24) (hb : σ 6 b 2 = nI hm) : -40 ≤ (wb σ b p).toInt ∧ (wb σ b p).toInt ≤ 1900 := by
  obtain ⟨n, hn, e⟩ := hv_b h hp
  have hd := dst_lt p hp hm hh
  have e1 : (10 : Int32) * nI n = nI (10 * n) := pk_mul 10 n
  have e2 : (5 : Int32) * nI (dst p hm) = nI (5 * dst p hm) := pk_mul 5 _
  rw [wb, e, hb, cl (by omega), e1, e2, pk_sub_toInt (by omega) (by omega)]
  omega
theorem wv_b {σ : zMem} (h : iP σ) {b p hm : Nat} (hp : p < 24) (hh : hm < 24) (hb : σ 6 b 2 = nI hm) : 0 ≤ (wv σ b p).toInt ∧ (wv σ b p).toInt ≤ 3840 := by
  have h1 := wb_b h hp hh hb
  have e0 : (0 : Int32).toInt = 0 := rfl
  have e2 : (2 : Int32).toInt = 2 := rfl
  have e20 : (20 : Int32).toInt = 20 := rfl
  have a1 : (wb σ b p + 20).toInt = (wb σ b p).toInt + 20 := by rw [fb_addI (by omega) (by omega), e20]
  have a2 : (wb σ b p * 2).toInt = (wb σ b p).toInt * 2 := by rw [fb_mulI (by rw [e2]; omega) (by rw [e2]; omega), e2]
  have a3 : ((wb σ b p + 20) * 2).toInt = ((wb σ b p).toInt + 20) * 2 := by rw [fb_mulI (by rw [e2]; omega) (by rw [e2]; omega), e2, a1]
  unfold wv
  split
  · split
    · split
      · rw [e0]; omega
      · rename_i c; rw [tl] at c; omega
    · split
      · rw [e0]; omega
      · rename_i c; rw [tl] at c; omega
  · split
    · split
      · rw [e0]; omega
      · rename_i c; rw [tl] at c; omega
    · split
      · rw [e0]; omega
      · rename_i c; rw [tl] at c; omega
theorem rs_same {σ σ' : zMem} (h : Same σ σ') (b : Nat) : rs σ' b = rs σ b := by
  unfold rs
  rw [h 6 b 1 rfl, h 6 b 3 rfl]
theorem lp_none {C : Nat → Int32} {nb st : Nat} (h : gb C st none nb = none) : lp C nb st = 0 := by
  unfold lp
  rw [h]
theorem lp_pos {C : Nat → Int32} {nb st : Nat} (hst : 1 ≤ st ∧ st ≤ 100) (hC : ∀ b, b < nb → (C b).toInt ≤ 3840) (h : ¬ gb C st none nb = none) : 0 ≤ (lp C nb st).toInt := by
  have es : (nI st).toInt = st := ti (by omega)
  unfold lp
  cases ht : gb C st none nb with
  | none => exact absurd ht h
  | some t =>
    dsimp only
    obtain ⟨h1, -, h2⟩ := gb_lt nb t ht
    rw [tl] at h2
    cases hg : gb C st (some t) nb with
    | none =>
      dsimp only
      omega
    | some g =>
      dsimp only
      obtain ⟨h3, -, h4⟩ := gb_lt nb g hg
      rw [tl] at h4
      have := hC g h3
      split
      · rw [fb_addI (by omega) (by omega)]
        omega
      · omega
theorem st_lotter {σ : zMem} (hI : Inv σ) (a : Int32) : vc_X10_lotter σ a (fun r σ1 => vc_X11_lotter σ1 a (fun r2 σ2 => r = r2 ∧ Inv σ2)) := by
  obtain ⟨nb, hn, hb8, hb9, hB⟩ := id hI.2.1
  obtain ⟨s0, hs1, hs2, hs3, hs4⟩ := hI.2.2.1.1
  by_cases ha : vp_in a 24
  · refine p_isPlot_t ha (k1' ⟨ha, ?_⟩)
    obtain ⟨p, hp, rfl⟩ := in_of ha (by decide)
    rw [cl (by omega)]
    refine p_isSold hI.1 hp ?_
    rcases sold01 hI.1 hp with h0 | h0
    · rw [h0]
      refine k0 (p_prepare hI hn hb8 hs3 hp (fun σ' h1 h2 h3 h4 => ?_))
      refine p_lotTaker (C := fun b => cap σ b p) hn h2 h3 (fun b hb => (h4 b hb).1) ?_
      have hI' := Inv_same h1 hI
      have e8 : σ' 0 0 8 = nI nb := (h1 0 0 8 rfl).trans hb8
      have hgl : ∀ x, gb (fun b => cap σ b p) s0 none nb = some x → x < 100 := fun x hx => by have := (gb_lt nb x hx).1; omega
      have fin : vc_X11_lotter σ' (nI p) (fun r2 σ2 => oM (gb (fun b => cap σ b p) s0 none nb) = r2 ∧ Inv σ2) := by
        refine m_isPlot_t ha (k1' ⟨ha, ?_⟩)
        rw [cl (by omega)]
        refine kt ((h1 25 0 p rfl).trans h0) (m_value hI' hn e8 hp (fun σ2 g1 g2 => ?_))
        refine m_lotFor (σ0 := σ2) (C := fun b => cap σ b p) (Wv := fun b => wv σ b p) (R := fun b => rs σ b) (st := s0) hn ⟨hs1, hs2⟩ (fun b hb => rfl) ((g1 22 0 9 rfl).trans ((h1 22 0 9 rfl).trans hb9)) ((g1 22 0 16 rfl).trans ((h1 22 0 16 rfl).trans hs4)) (fun b hb => by rw [← wv_same h1, ← rs_same h1]; exact g2 b hb) (fun σ3 q1 q2 q3 q4 => ⟨q4.symm, Inv_same (g1.tr q1) hI'⟩)
      refine ⟨fun c => ?_, fun c => ?_⟩
      · cases hg : gb (fun b => cap σ b p) s0 none nb with
        | none => rw [hg] at c; exact absurd rfl c
        | some g => rw [hg] at fin; exact fin
      · rw [oC_none hgl] at c
        rw [c] at fin
        exact fin
    · rw [h0]
      refine k1 ?_
      refine m_isPlot_t ha (k1' ⟨ha, ?_⟩)
      rw [cl (by omega)]
      exact kf (by rw [h0]; decide) ⟨rfl, hI⟩
  · refine p_isPlot_f ha (k0' ?_)
    exact m_isPlot_f ha (k0' ⟨rfl, hI⟩)
theorem st_lots {σ : zMem} (hI : Inv σ) (a : Int32) : vc_X10_lots σ a (fun r σ1 => vc_X11_lots σ1 a (fun r2 σ2 => r = r2 ∧ Inv σ2)) := by
  obtain ⟨nb, hn, hb8, hb9, hB⟩ := id hI.2.1
  obtain ⟨s0, hs1, hs2, hs3, hs4⟩ := hI.2.2.1.1
  unfold vc_X10_lots
  have n1 : ¬ (0 : Int32) ≤ -1 := by decide
  have n3 : ¬ (0 : Int32) ≤ -3 := by decide
  have n4 : ¬ (0 : Int32) ≤ -4 := by decide
  by_cases ha : vp_in a 24
  · refine p_isPlot_t ha (k1' ⟨ha, ?_⟩)
    obtain ⟨p, hp, rfl⟩ := in_of ha (by decide)
    rw [cl (by omega)]
    refine p_isSold hI.1 hp ?_
    rcases sold01 hI.1 hp with h0 | h0
    · rw [h0]
      refine k0 (p_prepare hI hn hb8 hs3 hp (fun σ' h1 h2 h3 h4 => ?_))
      refine p_lotTaker (C := fun b => cap σ b p) hn h2 h3 (fun b hb => (h4 b hb).1) ?_
      have hI' := Inv_same h1 hI
      have e8 : σ' 0 0 8 = nI nb := (h1 0 0 8 rfl).trans hb8
      have hgl : ∀ x, gb (fun b => cap σ b p) s0 none nb = some x → x < 100 := fun x hx => by have := (gb_lt nb x hx).1; omega
      have fin : vc_X11_lots σ' (nI p) (fun r2 σ2 => (if gb (fun b => cap σ b p) s0 none nb = none then -4 else lp (fun b => cap σ b p) nb s0) = r2 ∧ Inv σ2) := by
        refine m_isPlot_t ha (k1' ⟨ha, ?_⟩)
        rw [cl (by omega)]
        refine kt ((h1 25 0 p rfl).trans h0) (m_value hI' hn e8 hp (fun σ2 g1 g2 => ?_))
        refine m_lotFor (σ0 := σ2) (C := fun b => cap σ b p) (Wv := fun b => wv σ b p) (R := fun b => rs σ b) (st := s0) hn ⟨hs1, hs2⟩ (fun b hb => rfl) ((g1 22 0 9 rfl).trans ((h1 22 0 9 rfl).trans hb9)) ((g1 22 0 16 rfl).trans ((h1 22 0 16 rfl).trans hs4)) (fun b hb => by rw [← wv_same h1, ← rs_same h1]; exact g2 b hb) (fun σ3 q1 q2 q3 q4 => ⟨rfl, Inv_same (g1.tr q1) hI'⟩)
      refine ⟨fun c => ?_, fun c => ?_⟩
      · have hne : ¬ gb (fun b => cap σ b p) s0 none nb = none := fun z => c ((oC_none hgl).mpr z)
        rw [if_neg hne] at fin
        refine ⟨fun c2 => p_lotPrice (C := fun b => cap σ b p) hn h2 h3 (fun b hb => (h4 b hb).1) fin, fun c2 => ?_⟩
        exfalso
        cases hg : gb (fun b => cap σ b p) s0 none nb with
        | none => exact hne hg
        | some g =>
          rw [hg] at c2
          exact c2 (nI_pos' (n := g) (by have := hgl g hg; omega))
      · rw [if_pos ((oC_none hgl).mp c)] at fin
        exact kf n4 fin
    · rw [h0]
      refine k1 (kf n3 ?_)
      refine m_isPlot_t ha (k1' ⟨ha, ?_⟩)
      rw [cl (by omega)]
      exact kf (by rw [h0]; decide) ⟨rfl, hI⟩
  · refine p_isPlot_f ha (k0' (kf n1 ?_))
    exact m_isPlot_f ha (k0' ⟨rfl, hI⟩)
def wc (C Wt : Nat → Int32) (nb st f b : Nat) : Nat → Int32
  | 0 => 0
  | n + 1 => wc C Wt nb st f b n + (if (bu C Wt nb st (nI (n + 1)) f (n + 1)).1 = some b then 1 else 0)
theorem l_wins {σ0 : zMem} {C Wt : Nat → Int32} {nb st f b : Nat} (hn : nb ≤ 10) (hf : f < nb) (hb : b < nb) {Q : Int32 → zMem → Prop} (k : ∀ σ', Same σ0 σ' → Q (wc C Wt nb st f b 60) σ') : ∀ m n σ', n + m = 60 → Same σ0 σ' → σ' 12 0 2 = nI nb → σ' 12 0 3 = nI st → (∀ b, b < nb → σ' 13 0 b = C b ∧ σ' 14 0 b = Wt b) → vc_X10_wins_51 (nI f) (nI b) Q (m + 1) σ' (wc C Wt nb st f b n) (nI (n + 1))
  | 0, n, σ', hm, h1, h2, h3, h4 => by
    obtain rfl : n = 60 := by omega
    exact kt (by decide) (k σ' h1)
  | m + 1, n, σ', hm, h1, h2, h3, h4 => by
    rw [vc_X10_wins_51]
    refine kf (nI_nlt (a := 60) (b := n + 1) (by omega) (by decide)) ?_
    refine p_burn (C := C) (Wt := Wt) hn hf (by omega) h1 h2 h3 h4 (fun σ2 hs => ?_)
    obtain ⟨q1, q2, q3, q4, q5, q6⟩ := hs
    have ih := l_wins hn hf hb k m (n + 1) σ2 (by omega) q1 q2 q3 q4
    rw [wc] at ih
    rw [s1, q5]
    have hbt : ∀ x, (bu C Wt nb st (nI (n + 1)) f (n + 1)).1 = some x → x < 100 := fun x hx => by have := bu_lt (by omega) (n + 1) x hx; omega
    by_cases c : (bu C Wt nb st (nI (n + 1)) f (n + 1)).1 = some b
    · rw [if_pos c] at ih
      exact kt' ((oC_eq (by omega) hbt).mpr c).symm ih
    · rw [if_neg c, Int32.add_zero] at ih
      exact kf' (fun z => c ((oC_eq (by omega) hbt).mp z.symm)) ih
theorem l_mwins {σ0 : zMem} {C Wv R Wt : Nat → Int32} {nb st f b : Nat} (hn : nb ≤ 10) (hf : f < nb) (hb : b < nb) (hC : ∀ b, b < nb → C b = if R b < Wv b then R b else Wv b) (e9 : σ0 22 0 9 = nI nb) (e16 : σ0 22 0 16 = nI st) (e34 : ∀ b, b < nb → σ0 34 0 b = Wt b) {Q : Int32 → zMem → Prop} (k : ∀ σ', Same σ0 σ' → Q (wc C Wt nb st f b 60) σ') : ∀ m n σ', n + m = 60 → Same σ0 σ' → (∀ b, b < nb → σ' 37 0 b = Wv b ∧ σ' 38 0 b = R b) → vc_X11_wins_48 (nI f) (nI b) Q (m + 1) σ' (wc C Wt nb st f b n) (nI (n + 1))
  | 0, n, σ', hm, h1, h2 => by
    obtain rfl : n = 60 := by omega
    exact kt (by decide) (k σ' h1)
  | m + 1, n, σ', hm, h1, h2 => by
    rw [vc_X11_wins_48]
    refine kf (nI_nlt (a := 60) (b := n + 1) (by omega) (by decide)) ?_
    refine m_burn (C := C) (Wt := Wt) (Wv := Wv) (R := R) hn hf (by omega) hC e9 e16 e34 h1 h2 (fun σ2 hs => ?_)
    obtain ⟨q1, q2, q3⟩ := hs
    have ih := l_mwins hn hf hb hC e9 e16 e34 k m (n + 1) σ2 (by omega) q1 q2
    rw [wc] at ih
    rw [s1]
    have hbt : ∀ x, (bu C Wt nb st (nI (n + 1)) f (n + 1)).1 = some x → x < 100 := fun x hx => by have := bu_lt (by omega) (n + 1) x hx; omega
    by_cases c : (bu C Wt nb st (nI (n + 1)) f (n + 1)).1 = some b
    · rw [if_pos c] at ih
      exact kt' ((oM_eq (by omega) hbt).mpr c).symm ih
    · rw [if_neg c] at ih
      exact kf' (fun z => c ((oM_eq (by omega) hbt).mp z.symm)) ih
theorem st_wins {σ : zMem} (hI : Inv σ) (a b c : Int32) : vc_X10_wins σ a b c (fun r σ1 => vc_X11_wins σ1 a b c (fun r2 σ2 => r = r2 ∧ Inv σ2)) := by
  obtain ⟨nb, hn, hb8, hb9, hB⟩ := id hI.2.1
  obtain ⟨s0, hs1, hs2, hs3, hs4⟩ := hI.2.2.1.1
  by_cases ha : vp_in a 24
  · refine p_isPlot_t ha (k1 ?_)
    by_cases hb : vp_in b nb
    · refine p_isBuyer_t hb8 hn hb (k1 ?_)
      by_cases hc : vp_in c nb
      · refine p_isBuyer_t hb8 hn hc (k1' ⟨ha, ?_⟩)
        obtain ⟨p, hp, rfl⟩ := in_of ha (by decide)
        obtain ⟨f, hf, rfl⟩ := in_of hb (by omega)
        obtain ⟨w, hw, rfl⟩ := in_of hc (by omega)
        rw [cl (by omega)]
        refine p_isSold hI.1 hp ?_
        rcases sold01 hI.1 hp with h0 | h0
        · rw [h0]
          refine k0 (p_prepare hI hn hb8 hs3 hp (fun σ' h1 h2 h3 h4 => ⟨61, l_wins (C := fun b => cap σ b p) (Wt := fun b => σ 6 b 5) hn hf hw (fun σ2 g1 => ?_) 60 0 σ' rfl h1 h2 h3 h4⟩))
          have hI' := Inv_same g1 hI
          have e8 : σ2 0 0 8 = nI nb := (g1 0 0 8 rfl).trans hb8
          have e9 : σ2 22 0 9 = nI nb := (g1 22 0 9 rfl).trans hb9
          have e16 : σ2 22 0 16 = nI s0 := (g1 22 0 16 rfl).trans hs4
          refine m_isPlot_t ha (k1 ?_)
          refine m_isBuyer_t e9 hn hb (k1 ?_)
          refine m_isBuyer_t e9 hn hc (k1' ⟨ha, ?_⟩)
          rw [cl (by omega)]
          refine kt ((g1 25 0 p rfl).trans h0) (m_value hI' hn e8 hp (fun σ3 q1 q2 => ⟨61, l_mwins (σ0 := σ3) (C := fun b => cap σ b p) (Wt := fun b => σ 6 b 5) (Wv := fun b => wv σ b p) (R := fun b => rs σ b) (st := s0) hn hf hw (fun b hb => rfl) ((q1 22 0 9 rfl).trans e9) ((q1 22 0 16 rfl).trans e16) (fun b hb => ?_) (fun σ4 g4 => ⟨rfl, Inv_same (q1.tr g4) hI'⟩) 60 0 σ3 rfl Same.rf (fun b hb => by rw [← wv_same g1, ← rs_same g1]; exact q2 b hb)⟩))
          obtain ⟨-, -, -, -, t5, -, -⟩ := (hB b (by omega)).1 hb
          exact (q1 34 0 b rfl).trans ((g1 34 0 b rfl).trans t5.2.symm)
        · rw [h0]
          refine k1 ?_
          refine m_isPlot_t ha (k1 ?_)
          refine m_isBuyer_t hb9 hn hb (k1 ?_)
          refine m_isBuyer_t hb9 hn hc (k1' ⟨ha, ?_⟩)
          rw [cl (by omega)]
          exact kf (by rw [h0]; decide) ⟨rfl, hI⟩
      · refine p_isBuyer_f hb8 hn hc (k0' ?_)
        refine m_isPlot_t ha (k1 ?_)
        refine m_isBuyer_t hb9 hn hb (k1 ?_)
        exact m_isBuyer_f hb9 hn hc (k0' ⟨rfl, hI⟩)
    · refine p_isBuyer_f hb8 hn hb (k0 ?_)
      refine m_isPlot_t ha (k1 ?_)
      exact m_isBuyer_f hb9 hn hb (k0 ⟨rfl, hI⟩)
  · refine p_isPlot_f ha (k0 ?_)
    exact m_isPlot_f ha (k0 ⟨rfl, hI⟩)
