/-! pays: the settling -/
def wO (σ : zMem) (b : Nat) : Int32 := debt σ b + 10 * σ 36 0 b
def pD (σ : zMem) (b : Nat) : Int32 := if σ 32 0 b < wO σ b then σ 32 0 b else wO σ b
def lF (σ : zMem) (b : Nat) : Int32 := σ 32 0 b - pD σ b
def fu (f : Nat → Int32) (i : Nat) (v : Int32) (j : Nat) : Int32 := if j = i then v else f j
/-- the second round: helped and left -/
def f2 (w pd sy : Nat → Int32) : Nat → Nat → (Nat → Int32) → (Nat → Int32) → (Nat → Int32)
  | 0, _, H, _ => H
  | m + 1, b, H, L => if sy b < 0 then f2 w pd sy m (b + 1) H L else
    f2 w pd sy m (b + 1) (fu H b (if L (sy b).toNatClampNeg < w b - pd b then L (sy b).toNatClampNeg else w b - pd b)) (fu L (sy b).toNatClampNeg (L (sy b).toNatClampNeg - (if L (sy b).toNatClampNeg < w b - pd b then L (sy b).toNatClampNeg else w b - pd b)))
def hF (σ : zMem) (nb : Nat) : Nat → Int32 := f2 (wO σ) (pD σ) (σ 35 0) nb 0 (fun _ => 0) (lF σ)
theorem bs {σ : zMem} (hI : Inv σ) {nb : Nat} (hn : nb ≤ 10) (hb8 : σ 0 0 8 = nI nb) {b : Nat} (hb : b < nb) : σ 22 0 9 = nI nb ∧ σ 6 b 1 = σ 32 0 b ∧ σ 6 b 3 + 10 * σ 6 b 4 = wO σ b ∧ σ 6 b 6 = σ 35 0 b ∧ (σ 35 0 b < 0 ∨ ∃ o, o < nb ∧ σ 35 0 b = nI o) := by
  obtain ⟨nb', hn', hb8', hb9, hB⟩ := hI.2.1
  obtain rfl : nb' = nb := (nI_eq (by omega) (by omega)).mp (hb8'.symm.trans hb8)
  obtain ⟨q1, q2, q3, q4, q5, q6, q7⟩ := (hB b (by omega)).1 hb
  refine ⟨hb9, q2, by rw [wO, q7, q4], q6.1, ?_⟩
  rw [← q6.1]
  rcases q6.2 with h | ⟨o, ho, h⟩
  · left
    rw [h]
    decide
  · exact Or.inr ⟨o, ho, h⟩
theorem neg_lt_nI {o : Nat} (h : o < 2147483648) : ¬ nI o < 0 := by
  rw [tl, ti h]
  have e0 : (0 : Int32).toInt = 0 := rfl
  omega
theorem l_p2 {σ : zMem} (hI : Inv σ) {nb : Nat} (hn : nb ≤ 10) (hb8 : σ 0 0 8 = nI nb) {Q : zMem → Prop} (k : ∀ σ', Same σ σ' → (∀ b, b < nb → σ' 19 0 b = pD σ b ∧ σ' 20 0 b = hF σ nb b) → Q σ') :
    ∀ m b H L σ', b + m = nb → f2 (wO σ) (pD σ) (σ 35 0) m b H L = hF σ nb → Same σ σ' → (∀ c, c < nb → σ' 19 0 c = pD σ c ∧ σ' 20 0 c = H c ∧ σ' 21 0 c = L c) → vc_X4_settle_62 (nI nb) Q (m + 1) σ' (nI b)
  | 0, b, H, L, σ', hb, hf, h1, h4 => by
    obtain rfl : b = nb := by omega
    exact kt (by rw [te]; omega) (k σ' h1 (fun c hc => ⟨(h4 c hc).1, by rw [← hf]; exact (h4 c hc).2.1⟩))
  | m + 1, b, H, L, σ', hb, hf, h1, h4 => by
    have hv' : vp_in (nI b) 10 := in_nI (by omega) (by decide)
    obtain ⟨e1, e2, e3, e4, e5⟩ := bs hI hn hb8 (b := b) (by omega)
    rw [vc_X4_settle_62]
    refine kf (nI_ge (by omega) (by omega)) ⟨hv', ?_⟩
    rw [cl (by omega), s1, h1 6 b 6 rfl, e4]
    rcases e5 with e5 | ⟨o, ho, e5⟩
    · rw [f2, if_pos e5] at hf
      exact kt e5 (l_p2 hI hn hb8 k m (b + 1) H L σ' (by omega) hf h1 h4)
    · have e6 : ¬ σ 35 0 b < 0 := by rw [e5]; exact neg_lt_nI (by omega)
      have ho' : vp_in (nI o) 10 := in_nI (by omega) (by decide)
      rw [f2, if_neg e6, e5, cl (by omega)] at hf
      refine kf e6 ?_
      rw [e5]
      refine kf (nI_ge (by omega) (by omega)) ⟨hv', ?_⟩
      show vp_in (nI b) 10 ∧ _
      refine ⟨hv', ho', hv', ho', hv', ho', ?_⟩
      rw [cl (k := o) (by omega), h1 6 b 3 rfl, h1 6 b 4 rfl, e3, (h4 o ho).2.2, (h4 b (by omega)).1, um_s, um_q _ _ (by decide), (h4 o ho).2.2]
      refine l_p2 hI hn hb8 k m (b + 1) _ _ _ (by omega) hf ((h1.um rfl).um rfl) (fun c hc => ?_)
      obtain ⟨g1, g2, g3⟩ := h4 c hc
      refine ⟨by simpa [um] using g1, ?_, ?_⟩
      · by_cases hcb : c = b
        · subst hcb; simp [um, fu]
        · simpa [um, fu, hcb] using g2
      · by_cases hco : c = o
        · subst hco; simp [um, fu]
        · simpa [um, fu, hco] using g3
theorem l_p1 {σ : zMem} (hI : Inv σ) {nb : Nat} (hn : nb ≤ 10) (hb8 : σ 0 0 8 = nI nb) {Q : zMem → Prop} (k : ∀ σ', Same σ σ' → (∀ b, b < nb → σ' 19 0 b = pD σ b ∧ σ' 20 0 b = hF σ nb b) → Q σ') :
    ∀ m b σ', b + m = nb → Same σ σ' → (∀ c, c < b → σ' 19 0 c = pD σ c ∧ σ' 20 0 c = 0 ∧ σ' 21 0 c = lF σ c) → vc_X4_settle_2 (nI nb) Q (m + 1) σ' (nI b)
  | 0, b, σ', hb, h1, h4 => by
    obtain rfl : b = nb := by omega
    exact kt (by rw [te]; omega) ⟨b + 1, l_p2 hI hn hb8 k b 0 (fun _ => 0) (lF σ) σ' (by omega) rfl h1 h4⟩
  | m + 1, b, σ', hb, h1, h4 => by
    have hv' : vp_in (nI b) 10 := in_nI (by omega) (by decide)
    obtain ⟨e1, e2, e3, e4, e5⟩ := bs hI hn hb8 (b := b) (by omega)
    rw [vc_X4_settle_2]
    refine kf (nI_ge (by omega) (by omega)) ⟨hv', ?_⟩
    show vp_in (nI b) 10 ∧ _
    refine ⟨hv', hv', hv', hv', hv', hv', ?_⟩
    rw [cl (by omega), s1, um_s, um_q _ _ (by decide), h1 6 b 1 rfl, h1 6 b 3 rfl, h1 6 b 4 rfl, e3, e2]
    refine l_p1 hI hn hb8 k m (b + 1) _ (by omega) (((h1.um rfl).um rfl).um rfl) (fun c hc => ?_)
    by_cases hcb : c = b
    · subst hcb; simp [um, pD, lF]
    · simpa [um, hcb] using h4 c (by omega)
theorem l_m2 {σ : zMem} (hI : Inv σ) {nb : Nat} (hn : nb ≤ 10) (hb8 : σ 0 0 8 = nI nb) {Q : zMem → Prop} (k : ∀ σ', Same σ σ' → (∀ b, b < nb → σ' 45 0 b = wO σ b ∧ σ' 46 0 b = pD σ b ∧ σ' 47 0 b = hF σ nb b) → Q σ') :
    ∀ m b H L σ', b + m = nb → f2 (wO σ) (pD σ) (σ 35 0) m b H L = hF σ nb → Same σ σ' → (∀ c, c < nb → σ' 45 0 c = wO σ c ∧ σ' 46 0 c = pD σ c ∧ σ' 47 0 c = H c ∧ σ' 48 0 c = L c) → vc_X11_settle_101 Q (m + 1) σ' (nI b)
  | 0, b, H, L, σ', hb, hf, h1, h4 => by
    obtain rfl : b = nb := by omega
    obtain ⟨nb', hn', hb8', hb9, hB⟩ := hI.2.1
    obtain rfl : nb' = b := (nI_eq (by omega) (by omega)).mp (hb8'.symm.trans hb8)
    exact kt (by rw [h1 22 0 9 rfl, hb9, te]; omega) (k σ' h1 (fun c hc => ⟨(h4 c hc).1, (h4 c hc).2.1, by rw [← hf]; exact (h4 c hc).2.2.1⟩))
  | m + 1, b, H, L, σ', hb, hf, h1, h4 => by
    have hv' : vp_in (nI b) 10 := in_nI (by omega) (by decide)
    obtain ⟨e1, e2, e3, e4, e5⟩ := bs hI hn hb8 (b := b) (by omega)
    rw [vc_X11_settle_101]
    refine kf (by rw [h1 22 0 9 rfl, e1]; exact nI_ge (by omega) (by omega)) ⟨hv', ?_⟩
    rw [cl (by omega), s1, h1 35 0 b rfl]
    have e0 : (0 : Int32).toInt = 0 := rfl
    rcases e5 with e5 | ⟨o, ho, e5⟩
    · rw [f2, if_pos e5] at hf
      exact kf (by rw [te]; rw [tl] at e5; omega) (l_m2 hI hn hb8 k m (b + 1) H L σ' (by omega) hf h1 h4)
    · have e6 : ¬ σ 35 0 b < 0 := by rw [e5]; exact neg_lt_nI (by omega)
      have ho' : vp_in (nI o) 10 := in_nI (by omega) (by decide)
      rw [f2, if_neg e6, e5, cl (by omega)] at hf
      refine kt (by rw [te]; rw [tl] at e6; omega) ?_
      rw [e5, cl (k := o) (by omega), (h4 o ho).2.2.2, (h4 b (by omega)).1, (h4 b (by omega)).2.1]
      refine ⟨hv', hv', ho', ?_⟩
      simp only [um_s, um_q σ' _ (show (48 : Nat) ≠ 47 by decide)]
      rw [(h4 o ho).2.2.2]
      have fin : ∀ v, v = (if L o < wO σ b - pD σ b then L o else wO σ b - pD σ b) → vc_X11_settle_101 Q (m + 1) (um (um σ' 47 0 b v) 48 0 o (L o - v)) (nI (b + 1)) := by
        intro v hvv
        rw [← hvv] at hf
        refine l_m2 hI hn hb8 k m (b + 1) _ _ _ (by omega) hf ((h1.um rfl).um rfl) (fun c hc => ?_)
        obtain ⟨g0, g1, g2, g3⟩ := h4 c hc
        refine ⟨by simpa [um] using g0, by simpa [um] using g1, ?_, ?_⟩
        · by_cases hcb : c = b
          · subst hcb; simp [um, fu]
          · simpa [um, fu, hcb] using g2
        · by_cases hco : c = o
          · subst hco; simp [um, fu]
          · simpa [um, fu, hco] using g3
      refine ⟨fun c => ⟨ho', hv', ho', hv', ho', fin _ ?_⟩, fun c => ⟨hv', ho', hv', ho', fin _ ?_⟩⟩
      · split
        · rfl
        · rename_i c2
          rw [te] at c
          rw [tl] at c2
          rw [tq]
          omega
      · rw [if_neg]
        rw [te] at c
        rw [tl]
        omega
theorem l_m1 {σ : zMem} (hI : Inv σ) {nb : Nat} (hn : nb ≤ 10) (hb8 : σ 0 0 8 = nI nb) {Q : zMem → Prop} (k : ∀ σ', Same σ σ' → (∀ b, b < nb → σ' 45 0 b = wO σ b ∧ σ' 46 0 b = pD σ b ∧ σ' 47 0 b = hF σ nb b) → Q σ') :
    ∀ m b σ', b + m = nb → Same σ σ' → (∀ c, c < b → σ' 45 0 c = wO σ c ∧ σ' 46 0 c = pD σ c ∧ σ' 47 0 c = 0 ∧ σ' 48 0 c = lF σ c) → vc_X11_settle_2 Q (m + 1) σ' (nI b)
  | 0, b, σ', hb, h1, h4 => by
    obtain rfl : b = nb := by omega
    obtain ⟨nb', hn', hb8', hb9, hB⟩ := hI.2.1
    obtain rfl : nb' = b := (nI_eq (by omega) (by omega)).mp (hb8'.symm.trans hb8)
    exact kt (by rw [h1 22 0 9 rfl, hb9, te]; omega) ⟨nb' + 1, l_m2 hI hn hb8 k nb' 0 (fun _ => 0) (lF σ) σ' (by omega) rfl h1 h4⟩
  | m + 1, b, σ', hb, h1, h4 => by
    have hv' : vp_in (nI b) 10 := in_nI (by omega) (by decide)
    obtain ⟨e1, e2, e3, e4, e5⟩ := bs hI hn hb8 (b := b) (by omega)
    rw [vc_X11_settle_2]
    refine kf (by rw [h1 22 0 9 rfl, e1]; exact nI_ge (by omega) (by omega)) (m_debt ⟨hv', hv', hv', hv', ?_⟩)
    simp only [um_s, um_q _ _ (show (32 : Nat) ≠ 45 by decide), um_q _ _ (show (32 : Nat) ≠ 46 by decide)]
    rw [cl (by omega), s1, debt_same h1, h1 36 0 b rfl, h1 32 0 b rfl, show debt σ b + 10 * σ 36 0 b = wO σ b from rfl]
    have fin : ∀ v, v = pD σ b → vc_X11_settle_2 Q (m + 1) (um (um (um (um σ' 45 0 b (wO σ b)) 46 0 b v) 48 0 b (σ 32 0 b - v)) 47 0 b 0) (nI (b + 1)) := by
      intro v hvv
      subst hvv
      refine l_m1 hI hn hb8 k m (b + 1) _ (by omega) ((((h1.um rfl).um rfl).um rfl).um rfl) (fun c hc => ?_)
      by_cases hcb : c = b
      · subst hcb; simp [um, lF]
      · simpa [um, hcb] using h4 c (by omega)
    refine ⟨fun c => ⟨hv', hv', hv', hv', hv', hv', fin _ ?_⟩, fun c => ⟨hv', hv', hv', hv', hv', hv', fin _ ?_⟩⟩
    · unfold pD
      split
      · rfl
      · rename_i c2
        rw [te] at c
        rw [tl] at c2
        rw [tq]
        omega
    · unfold pD
      rw [if_neg]
      rw [te] at c
      rw [tl]
      omega
theorem bs_same {σ σ' : zMem} (h : Same σ σ') (nb : Nat) : wO σ' = wO σ ∧ pD σ' = pD σ ∧ hF σ' nb = hF σ nb := by
  have e1 : wO σ' = wO σ := funext (fun b => by rw [wO, wO, debt_same h, h 36 0 b rfl])
  have e2 : pD σ' = pD σ := funext (fun b => by rw [pD, pD, e1, h 32 0 b rfl])
  have e3 : lF σ' = lF σ := funext (fun b => by rw [lF, lF, e2, h 32 0 b rfl])
  exact ⟨e1, e2, by rw [hF, hF, e1, e2, e3, show σ' 35 0 = σ 35 0 from funext (fun b => h 35 0 b rfl)]⟩
theorem st_pays {σ : zMem} (hI : Inv σ) (a w : Int32) : vc_X10_pays σ a w (fun r σ1 => vc_X11_pays σ1 a w (fun r2 σ2 => r = r2 ∧ Inv σ2)) := by
  obtain ⟨nb, hn, hb8, hb9, hB⟩ := hI.2.1
  have e0 : (0 : Int32).toInt = 0 := rfl
  have e3' : (3 : Int32).toInt = 3 := rfl
  by_cases ha : vp_in a nb
  · have hv : vp_in a 10 := vp_in_iff.mpr (by have := vp_in_iff.mp ha; omega)
    refine p_isBuyer_t hb8 hn ha (k1' ?_)
    rw [hb8]
    refine ⟨nb + 1, l_p1 hI hn hb8 (fun σ1 g1 g2 => ⟨hv, ?_⟩) nb 0 σ (by omega) Same.rf (fun c h => absurd h (by omega))⟩
    obtain ⟨b, hb, rfl⟩ := in_of ha (by omega)
    obtain ⟨e1, e2, e3, e4, e5⟩ := bs hI hn hb8 hb
    have hI1 := Inv_same g1 hI
    have h18 : σ1 0 0 8 = nI nb := (g1 0 0 8 rfl).trans hb8
    have h19 : σ1 22 0 9 = nI nb := (g1 22 0 9 rfl).trans hb9
    obtain ⟨s2, s3, s4⟩ := bs_same g1 nb
    show vp_in (nI b) 10 ∧ _
    refine ⟨hv, hv, ?_⟩
    rw [cl (by omega), g1 6 b 3 rfl, g1 6 b 4 rfl, e3, (g2 b hb).1, (g2 b hb).2]
    have hset : ∀ (R : zMem → Prop), (∀ σ', Same σ σ' → (∀ b, b < nb → σ' 45 0 b = wO σ b ∧ σ' 46 0 b = pD σ b ∧ σ' 47 0 b = hF σ nb b) → R σ') → vc_X11_settle σ1 R := by
      intro R hR
      refine ⟨nb + 1, l_m1 hI1 hn h18 (fun σ' j1 j2 => hR σ' (g1.tr j1) ?_) nb 0 σ1 (by omega) Same.rf (fun c h => absurd h (by omega))⟩
      rw [s2, s3, s4] at j2
      exact j2
    refine ⟨fun c => ?_, fun c => ?_, fun c => ?_, fun c => ?_, fun n0 n1 n2 n3 => ?_⟩
    · subst c
      refine m_isBuyer_t h19 hn ha (k1 (m_in_t (by decide) (k1' (hset _ (fun σ' j1 j2 => ?_)))))
      refine ⟨fun c => absurd rfl c, fun _ => ⟨hv, ?_, Inv_same j1 hI⟩⟩
      rw [cl (by omega), (j2 b hb).1]
    · subst c
      refine m_isBuyer_t h19 hn ha (k1 (m_in_t (by decide) (k1' (hset _ (fun σ' j1 j2 => ?_)))))
      refine ⟨fun _ => ⟨fun c => absurd rfl c, fun _ => ⟨hv, ?_, Inv_same j1 hI⟩⟩, fun c => absurd c (by decide)⟩
      rw [cl (by omega), (j2 b hb).2.1]
    · subst c
      refine m_isBuyer_t h19 hn ha (k1 (m_in_t (by decide) (k1' (hset _ (fun σ' j1 j2 => ?_)))))
      refine ⟨fun _ => ⟨fun _ => ⟨fun c => absurd rfl c, fun _ => ⟨hv, ?_, Inv_same j1 hI⟩⟩, fun c => absurd c (by decide)⟩, fun c => absurd c (by decide)⟩
      rw [cl (by omega), (j2 b hb).2.2]
    · subst c
      refine m_isBuyer_t h19 hn ha (k1 (m_in_t (by decide) (k1' (hset _ (fun σ' j1 j2 => ?_)))))
      refine ⟨fun _ => ⟨fun _ => ⟨fun _ => ⟨hv, hv, hv, ?_, Inv_same j1 hI⟩, fun c => absurd c (by decide)⟩, fun c => absurd c (by decide)⟩, fun c => absurd c (by decide)⟩
      rw [cl (by omega), (j2 b hb).1, (j2 b hb).2.1, (j2 b hb).2.2]
    · refine m_isBuyer_t h19 hn ha (k1 (m_in_f (fun z => ?_) (k0' ⟨rfl, hI1⟩)))
      rw [tq] at n0 n1 n2 n3
      have e1 : (1 : Int32).toInt = 1 := rfl
      have e2 : (2 : Int32).toInt = 2 := rfl
      omega
  · refine p_isBuyer_f hb8 hn ha (k0' ?_)
    exact m_isBuyer_f hb9 hn ha (k0 ⟨rfl, hI⟩)
