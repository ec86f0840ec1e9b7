/-! by lots -/
def gb (C : Nat → Int32) (st : Nat) (out : Option Nat) : Nat → Option Nat
  | 0 => none
  | n + 1 => if some n = out ∨ C n < nI st then gb C st out n else match gb C st out n with
    | none => some n
    | some g => if C n ≤ C g then some g else some n
theorem gb_lt {C : Nat → Int32} {st : Nat} {out : Option Nat} : ∀ n g, gb C st out n = some g → g < n ∧ ¬ some g = out ∧ ¬ C g < nI st
  | 0, g, h => by simp [gb] at h
  | n + 1, g, h => by
    rw [gb] at h
    split at h
    · have := gb_lt n g h
      exact ⟨by omega, this.2⟩
    · rename_i hc
      have hc1 : ¬ some n = out := fun z => hc (Or.inl z)
      have hc2 : ¬ C n < nI st := fun z => hc (Or.inr z)
      split at h
      · cases h
        exact ⟨by omega, hc1, hc2⟩
      · rename_i g' hg
        split at h
        · cases h
          have := gb_lt n g hg
          exact ⟨by omega, this.2⟩
        · cases h
          exact ⟨by omega, hc1, hc2⟩
theorem l_gb {C : Nat → Int32} {nb st : Nat} {out : Option Nat} (hn : nb ≤ 10) (ho : ∀ x, out = some x → x < 100) {σ' : zMem} (h2 : σ' 12 0 2 = nI nb) (h3 : σ' 12 0 3 = nI st) (h4 : ∀ b, b < nb → σ' 13 0 b = C b) {Q : Int32 → zMem → Prop} (k : Q (oC (gb C st out nb)) σ') : ∀ m n, n + m = nb → vc_X6_greatestBut_5 (oC out) Q (m + 1) σ' (oC (gb C st out n)) (nI n)
  | 0, n, hm => by
    obtain rfl : n = nb := by omega
    exact kt (by rw [h2, te]; omega) k
  | m + 1, n, hm => by
    have hv' : vp_in (nI n) 10 := in_nI (by omega) (by decide)
    have ih := l_gb hn ho h2 h3 h4 k m (n + 1) (by omega)
    rw [vc_X6_greatestBut_5]
    rw [cl (k := n) (by omega), s1, h3, h4 n (by omega)]
    refine kf (by rw [h2]; exact nI_ge (by omega) (by omega)) ?_
    rw [gb] at ih
    by_cases c1 : some n = out
    · rw [if_pos (Or.inl c1)] at ih
      refine kt ((oC_eq (by omega) ho).mpr c1.symm) ih
    · refine kf (fun z => c1 ((oC_eq (by omega) ho).mp z).symm) ⟨hv', ?_⟩
      by_cases c2 : C n < nI st
      · rw [if_pos (Or.inr c2)] at ih
        exact kt c2 ih
      · rw [if_neg (fun z => z.elim c1 c2)] at ih
        refine kf c2 ?_
        cases hg : gb C st out n with
        | none =>
          rw [hg] at ih
          exact kt rfl ih
        | some g =>
          rw [hg] at ih
          have hgl := (gb_lt n g hg).1
          have eg : (oC (some g)).toNatClampNeg = g := cl (by omega)
          refine kf (fun z => neg_nI (b := g) (by omega) z.symm) ⟨hv', in_nI (show g < 10 by omega) (by decide), ?_⟩
          rw [eg, h4 g (by omega)]
          refine ⟨fun c3 => ?_, fun c3 => ?_⟩
          · dsimp only at ih
            rw [if_pos c3] at ih
            exact ih
          · dsimp only at ih
            rw [if_neg c3] at ih
            exact ih
theorem p_gb {C : Nat → Int32} {nb st : Nat} {out : Option Nat} (hn : nb ≤ 10) (ho : ∀ x, out = some x → x < 100) {σ' : zMem} (h2 : σ' 12 0 2 = nI nb) (h3 : σ' 12 0 3 = nI st) (h4 : ∀ b, b < nb → σ' 13 0 b = C b) {Q : Int32 → zMem → Prop} (k : Q (oC (gb C st out nb)) σ') : vc_X6_greatestBut σ' (oC out) Q := ⟨nb + 1, l_gb hn ho h2 h3 h4 k nb 0 (by omega)⟩
/-- the price by lots, 0 if nobody takes it -/
def lp (C : Nat → Int32) (nb st : Nat) : Int32 := match gb C st none nb with
  | none => 0
  | some t => match gb C st (some t) nb with
    | none => nI st
    | some g => if C g + nI st < C t then C g + nI st else C t
theorem p_lotTaker {C : Nat → Int32} {nb st : Nat} (hn : nb ≤ 10) {σ' : zMem} (h2 : σ' 12 0 2 = nI nb) (h3 : σ' 12 0 3 = nI st) (h4 : ∀ b, b < nb → σ' 13 0 b = C b) {Q : Int32 → zMem → Prop} (k : Q (oC (gb C st none nb)) σ') : vc_X6_lotTaker σ' Q :=
  p_gb (out := none) hn (fun x h => by cases h) h2 h3 h4 k
theorem p_lotPrice {C : Nat → Int32} {nb st : Nat} (hn : nb ≤ 10) {σ' : zMem} (h2 : σ' 12 0 2 = nI nb) (h3 : σ' 12 0 3 = nI st) (h4 : ∀ b, b < nb → σ' 13 0 b = C b) {Q : Int32 → zMem → Prop} (k : Q (lp C nb st) σ') : vc_X6_lotPrice σ' (oC (gb C st none nb)) Q := by
  unfold lp at k
  cases ht : gb C st none nb with
  | none =>
    rw [ht] at k
    exact kt' rfl k
  | some t =>
    rw [ht] at k
    dsimp only at k
    have htl := (gb_lt nb t ht).1
    refine kf' (fun z => neg_nI (b := t) (by omega) z.symm) ?_
    refine p_gb (out := some t) hn (fun x h => by cases h; omega) h2 h3 h4 ?_
    cases hg : gb C st (some t) nb with
    | none =>
      rw [hg] at k
      refine kt' rfl ?_
      rw [h3]
      exact k
    | some g =>
      rw [hg] at k
      dsimp only at k
      have hgl := (gb_lt nb g hg).1
      refine kf' (fun z => neg_nI (b := g) (by omega) z.symm) ⟨in_nI (show t < 10 by omega) (by decide), in_nI (show g < 10 by omega) (by decide), ?_⟩
      have et : (oC (some t)).toNatClampNeg = t := cl (by omega)
      have eg : (oC (some g)).toNatClampNeg = g := cl (by omega)
      rw [et, eg, h3, h4 t htl, h4 g hgl]
      exact k
theorem m_capOf {C Wv R : Nat → Int32} {nb : Nat} (hn : nb ≤ 10) (hC : ∀ b, b < nb → C b = if R b < Wv b then R b else Wv b) {σ' : zMem} (h2 : ∀ b, b < nb → σ' 37 0 b = Wv b ∧ σ' 38 0 b = R b) {b : Nat} (hb : b < nb) {Q : Int32 → zMem → Prop} (k : Q (C b) σ') : vc_X11_capOf σ' (nI b) Q := by
  have hv' : vp_in (nI b) 10 := in_nI (by omega) (by decide)
  unfold vc_X11_capOf
  rw [cl (by omega), (h2 b hb).1, (h2 b hb).2]
  rw [hC b hb] at k
  refine ⟨hv', hv', fun c => ⟨hv', ?_⟩, fun c => ⟨hv', ?_⟩⟩
  · by_cases h : R b < Wv b
    · rw [if_pos h] at k
      exact k
    · rw [if_neg h] at k
      have e : R b = Wv b := by rw [te] at c; rw [tl] at h; rw [tq]; omega
      rw [e]
      exact k
  · rw [if_neg (by rw [te] at c; rw [tl]; omega)] at k
    exact k
/-- the next greatest, as the reference keeps it -/
def nx (C : Nat → Int32) (st t n : Nat) : Int32 := match gb C st (some t) n with
  | none => 0
  | some g => C g
theorem l_lot2 {σ0 : zMem} {C Wv R : Nat → Int32} {nb st t : Nat} (hn : nb ≤ 10) (hst : 1 ≤ st ∧ st ≤ 100) (ht : t < nb) (htc : ¬ C t < nI st) (hC : ∀ b, b < nb → C b = if R b < Wv b then R b else Wv b) {σ' : zMem} (e9 : σ' 22 0 9 = nI nb) (e16 : σ' 22 0 16 = nI st) (e20 : σ' 22 0 20 = nI t) (h2 : ∀ b, b < nb → σ' 37 0 b = Wv b ∧ σ' 38 0 b = R b) {Q : Int32 → zMem → Prop} (k : Q (match gb C st (some t) nb with | none => nI st | some g => if C g + nI st < C t then C g + nI st else C t) σ') :
    ∀ m n, n + m = nb → vc_X11_lotFor_80 Q (m + 1) σ' (nx C st t n) (nI n)
  | 0, n, hm => by
    obtain rfl : n = nb := by omega
    rw [vc_X11_lotFor_80]
    rw [e20, e16, e9]
    refine kt (by rw [te]; omega) ?_
    refine m_capOf hn hC h2 ht ?_
    unfold nx
    cases hg : gb C st (some t) n with
    | none =>
      rw [hg] at k
      have e0 : (0 : Int32) + nI st = nI st := by rw [Int32.zero_add]
      dsimp only at k ⊢
      rw [e0]
      refine ⟨fun c => ?_, fun c => k⟩
      rw [e20]
      refine m_capOf hn hC h2 ht ?_
      have e : C t = nI st := by rw [te] at c; rw [tl] at htc; rw [tq]; omega
      rw [e]
      exact k
    | some g =>
      rw [hg] at k
      dsimp only at k ⊢
      refine ⟨fun c => ?_, fun c => ?_⟩
      · rw [e20]
        refine m_capOf hn hC h2 ht ?_
        rw [if_neg (by rw [te] at c; rw [tl]; omega)] at k
        exact k
      · rw [if_pos (by rw [te] at c; rw [tl]; omega)] at k
        exact k
  | m + 1, n, hm => by
    have ih := l_lot2 (σ0 := σ0) hn hst ht htc hC e9 e16 e20 h2 k m (n + 1) (by omega)
    have e0 : (0 : Int32).toInt = 0 := rfl
    have es : (nI st).toInt = st := ti (by omega)
    rw [vc_X11_lotFor_80]
    rw [e20, e16, e9, s1]
    refine kf (nI_ge (by omega) (by omega)) ?_
    unfold nx at ih ⊢
    rw [gb] at ih
    by_cases c1 : n = t
    · subst c1
      rw [if_pos (Or.inl rfl)] at ih
      exact kt rfl ih
    · refine kf (fun z => c1 ((nI_eq (by omega) (by omega)).mp z)) ?_
      refine m_capOf hn hC h2 (by omega) ?_
      rw [e16]
      by_cases c2 : C n < nI st
      · rw [if_pos (Or.inr c2)] at ih
        exact kt c2 ih
      · rw [if_neg (fun z => z.elim (fun z => c1 (Option.some.inj z)) c2)] at ih
        refine kf c2 (m_capOf hn hC h2 (by omega) ?_)
        cases hg : gb C st (some t) n with
        | none =>
          rw [hg] at ih
          dsimp only at ih ⊢
          refine kf (by rw [tl] at c2; rw [te]; omega) (m_capOf hn hC h2 (by omega) ih)
        | some g =>
          rw [hg] at ih
          dsimp only at ih ⊢
          by_cases c3 : C n ≤ C g
          · rw [if_pos c3] at ih
            exact kt c3 ih
          · rw [if_neg c3] at ih
            exact kf c3 (m_capOf hn hC h2 (by omega) ih)
theorem l_lot1 {σ0 : zMem} {C Wv R : Nat → Int32} {nb st : Nat} (hn : nb ≤ 10) (hst : 1 ≤ st ∧ st ≤ 100) (hC : ∀ b, b < nb → C b = if R b < Wv b then R b else Wv b) (e9 : σ0 22 0 9 = nI nb) (e16 : σ0 22 0 16 = nI st) {Q : Int32 → zMem → Prop}
    (k : ∀ σ', Same σ0 σ' → (∀ b, b < nb → σ' 37 0 b = Wv b ∧ σ' 38 0 b = R b) → σ' 22 0 19 = σ0 22 0 19 → σ' 22 0 20 = oM (gb C st none nb) → Q (if gb C st none nb = none then -4 else lp C nb st) σ') :
    ∀ m n σ', n + m = nb → Same σ0 σ' → (∀ b, b < nb → σ' 37 0 b = Wv b ∧ σ' 38 0 b = R b) → σ' 22 0 19 = σ0 22 0 19 → σ' 22 0 20 = oM (gb C st none n) → vc_X11_lotFor_8 Q (m + 1) σ' (nI n)
  | 0, n, σ', hm, h1, h2, h19, h3 => by
    obtain rfl : n = nb := by omega
    have m9 : σ' 22 0 9 = nI n := (h1 22 0 9 rfl).trans e9
    have m16 : σ' 22 0 16 = nI st := (h1 22 0 16 rfl).trans e16
    rw [vc_X11_lotFor_8]
    have k' := k σ' h1 h2 h19 h3
    rw [m9, h3]
    refine kt (by rw [te]; omega) ?_
    cases ht : gb C st none n with
    | none =>
      rw [ht, if_pos rfl] at k'
      exact kt' rfl k'
    | some t =>
      obtain ⟨htl, -, htc⟩ := gb_lt n t ht
      rw [ht, if_neg (by intro z; cases z)] at k'
      unfold lp at k'
      rw [ht] at k'
      rw [ht] at h3
      refine kf' (fun z => neg4_nI (b := t) (by omega) z.symm) ⟨n + 1, ?_⟩
      exact l_lot2 (σ0 := σ0) hn hst htl htc hC m9 m16 h3 h2 k' n 0 (by omega)
  | m + 1, n, σ', hm, h1, h2, h19, h3 => by
    have m9 : σ' 22 0 9 = nI nb := (h1 22 0 9 rfl).trans e9
    have m16 : σ' 22 0 16 = nI st := (h1 22 0 16 rfl).trans e16
    have stay : gb C st none (n + 1) = gb C st none n → vc_X11_lotFor_8 Q (m + 1) σ' (nI (n + 1)) := fun e => l_lot1 hn hst hC e9 e16 k m (n + 1) σ' (by omega) h1 h2 h19 (by rw [e]; exact h3)
    have go : gb C st none (n + 1) = some n → vc_X11_lotFor_8 Q (m + 1) (um σ' 22 0 20 (nI n)) (nI (n + 1)) := fun e => l_lot1 hn hst hC e9 e16 k m (n + 1) _ (by omega) (h1.um rfl) (fun b hb => by simpa [um] using h2 b hb) (by simpa [um] using h19) (by rw [e]; simp [um, oM])
    rw [vc_X11_lotFor_8]
    rw [m9, s1]
    refine kf (nI_ge (by omega) (by omega)) (m_capOf hn hC h2 (by omega) ?_)
    rw [m16, h3]
    by_cases c2 : C n < nI st
    · refine kt c2 (stay ?_)
      rw [gb, if_pos (Or.inr c2)]
    · refine kf c2 ?_
      have hno : ¬ (some n = none ∨ C n < nI st) := fun z => z.elim (fun z => by cases z) c2
      cases hg : gb C st none n with
      | none =>
        refine kt rfl (go ?_)
        rw [gb, if_neg hno, hg]
      | some g =>
        have hgl := (gb_lt n g hg).1
        refine kf (fun z => neg4_nI (b := g) (by omega) z.symm) (m_capOf hn hC h2 (by omega) ?_)
        rw [h3, hg]
        refine m_capOf hn hC h2 (show g < nb by omega) ?_
        refine ⟨fun c3 => stay ?_, fun c3 => go ?_⟩
        · rw [gb, if_neg hno, hg]
          dsimp only
          rw [if_pos c3]
        · rw [gb, if_neg hno, hg]
          dsimp only
          rw [if_neg c3]
theorem m_lotFor {σ0 : zMem} {C Wv R : Nat → Int32} {nb st : Nat} (hn : nb ≤ 10) (hst : 1 ≤ st ∧ st ≤ 100) (hC : ∀ b, b < nb → C b = if R b < Wv b then R b else Wv b) (e9 : σ0 22 0 9 = nI nb) (e16 : σ0 22 0 16 = nI st) {Q : Int32 → zMem → Prop} (h2 : ∀ b, b < nb → σ0 37 0 b = Wv b ∧ σ0 38 0 b = R b)
    (k : ∀ σ', Same σ0 σ' → (∀ b, b < nb → σ' 37 0 b = Wv b ∧ σ' 38 0 b = R b) → σ' 22 0 19 = σ0 22 0 19 → σ' 22 0 20 = oM (gb C st none nb) → Q (if gb C st none nb = none then -4 else lp C nb st) σ') : vc_X11_lotFor σ0 Q :=
  ⟨nb + 1, l_lot1 (σ0 := σ0) hn hst hC e9 e16 k nb 0 _ (by omega) (Same.rf.um rfl) (fun b hb => by simpa [um] using h2 b hb) (by simp [um]) (by simp [um, gb, oM])⟩
