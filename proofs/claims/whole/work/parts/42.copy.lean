/-! copy, weight -/
theorem fitB {x : Int32} (h : x.toInt8.toInt32 = x) : fits .byte (.int x) = true := by
  have e := fits_narrow_byte x
  rw [show narrow .byte (.int x) = .int x.toInt8.toInt32 from rfl, h] at e
  exact e
def O54 (σ σ' : zMem) : Prop := ∀ q i j, ¬ (q = 54 ∧ i = 0) → σ' q i j = σ q i j
theorem O54.rf {σ : zMem} : O54 σ σ := fun _ _ _ _ => rfl
theorem O54.um {σ σ' : zMem} (h : O54 σ σ') {j : Nat} {v : Int32} : O54 σ (um σ' 54 0 j v) := fun q' i' j' z => by
  rw [um_n σ' v (fun e => z ⟨e.1, e.2.1⟩)]
  exact h q' i' j' z
theorem p_isRow {σ : zMem} {d : Nat} {Q : Int32 → zMem → Prop} (h : σ 8 d 0 = 3 ∨ σ 8 d 0 = 4) (k : Q 1 σ) : vc_X7_isRow σ d Q := by
  rcases h with h | h
  · exact kt h k
  · exact kf (by rw [h]; decide) (kt' h k)
/-- the row after the reference's copy -/
def cR (σ : zMem) (s t n y : Nat) : Int32 := if t ≤ y ∧ y < t + n then σ 54 0 (s + (y - t)) else σ 54 0 y
theorem nadd3 {d i k : Nat} (hd : d < 8) (hi : i ≤ 60) (hk : k ≤ 60) : 60 * nI d + nI i + nI k = nI (60 * d + i + k) := by
  have e : (60 : Int32) * nI d = nI (60 * d) := by
    have : ∀ d, d < 8 → (60 : Int32) * nI d = nI (60 * d) := by decide +kernel
    exact this d hd
  rw [e, nadd (by omega), nadd (by omega)]
theorem l_cpF {σ0 : zMem} {d e i j n : Nat} (hd : d < 8) (he : e < 8) (hi : i + n ≤ 60) (hj : j + n ≤ 60) (hf : ¬ (d = e ∧ i < j)) {Q : Int32 → zMem → Prop} (k : ∀ σ, O54 σ0 σ → (∀ y, σ 54 0 y = cR σ0 (60 * d + i) (60 * e + j) n y) → Q (nI n) σ) :
    ∀ m p σ, p + m = n → O54 σ0 σ → (∀ y, σ 54 0 y = cR σ0 (60 * d + i) (60 * e + j) p y) → vc_X11_copy_112 (nI d) (nI i) (nI e) (nI j) (nI n) Q (m + 1) σ (nI p)
  | 0, p, σ, hp, h0, h1 => by
    obtain rfl : p = n := by omega
    refine kt (by rw [te]; omega) ⟨1, ?_⟩
    refine ⟨fun _ => k σ h0 h1, fun _ => ⟨fun _ => k σ h0 h1, fun c => ⟨fun _ => k σ h0 h1, fun c2 => ?_⟩⟩⟩
    refine absurd ⟨(nI_eq (by omega) (by omega)).mp c, ?_⟩ hf
    have : ¬ j ≤ i := fun z => c2 ((nle (by omega) (by omega)).mpr z)
    omega
  | m + 1, p, σ, hp, h0, h1 => by
    rw [vc_X11_copy_112, nadd3 hd (by omega) (by omega), nadd3 he (by omega) (by omega), cl (by omega), cl (by omega), s1]
    have e1 : σ 54 0 (60 * d + i + p) = σ0 54 0 (60 * d + i + p) := by
      rw [h1, cR, if_neg (by omega)]
    have fin : vc_X11_copy_112 (nI d) (nI i) (nI e) (nI j) (nI n) Q (m + 1) (um σ 54 0 (60 * e + j + p) (σ 54 0 (60 * d + i + p))) (nI (p + 1)) := by
      refine l_cpF hd he hi hj hf k m (p + 1) _ (by omega) h0.um (fun y => ?_)
      rw [e1]
      by_cases hy : y = 60 * e + j + p
      · subst hy
        rw [um_s, cR, if_pos (by omega), show 60 * e + j + p - (60 * e + j) = p by omega]
      · rw [um_n _ _ (by omega), h1, cR, cR]
        by_cases hc : 60 * e + j ≤ y ∧ y < 60 * e + j + p
        · rw [if_pos hc, if_pos (by omega)]
        · rw [if_neg hc, if_neg (by omega)]
    have v1 : vp_in (nI (60 * d + i + p)) 480 := in_nI (by omega) (by decide)
    have v2 : vp_in (nI (60 * e + j + p)) 480 := in_nI (by omega) (by decide)
    refine kf (nI_ge (by omega) (by omega)) ⟨fun _ => ⟨v1, v2, fin⟩, fun c => ⟨fun c2 => ?_, fun c2 => ⟨v1, v2, fin⟩⟩⟩
    exact absurd ⟨(nI_eq (by omega) (by omega)).mp c, (nlt (by omega) (by omega)).mp c2⟩ hf
def cRb (σ : zMem) (s t n p y : Nat) : Int32 := if t + p ≤ y ∧ y < t + n then σ 54 0 (s + (y - t)) else σ 54 0 y
theorem nneg : ∀ p, p < 61 → nI p + (-1) = nI (p + 1) - 1 - 1 := by decide +kernel
theorem l_cpB {σ0 : zMem} {d i j n : Nat} (hd : d < 8) (hi : i + n ≤ 60) (hj : j + n ≤ 60) (hf : i < j) {Q : Int32 → zMem → Prop} (k : ∀ σ, O54 σ0 σ → (∀ y, σ 54 0 y = cR σ0 (60 * d + i) (60 * d + j) n y) → Q (nI n) σ) :
    ∀ p σ, p ≤ n → O54 σ0 σ → (∀ y, σ 54 0 y = cRb σ0 (60 * d + i) (60 * d + j) n p y) → vc_X11_copy_171 (nI d) (nI i) (nI d) (nI j) (nI n) Q (p + 1) σ (nI p - 1)
  | 0, σ, hp, h0, h1 => by
    refine kt (by decide) (k σ h0 (fun y => ?_))
    rw [h1, cRb, cR]
    rfl
  | p + 1, σ, hp, h0, h1 => by
    have ep : nI (p + 1) - 1 = nI p := nI_pred p
    rw [vc_X11_copy_171, ep, nadd3 hd (by omega) (by omega), nadd3 hd (by omega) (by omega), cl (by omega), cl (by omega)]
    have e1 : σ 54 0 (60 * d + i + p) = σ0 54 0 (60 * d + i + p) := by
      rw [h1, cRb, if_neg (by omega)]
    refine kf (neg_lt_nI (by omega)) (kt' rfl (kf (fun z => absurd ((nle (by omega) (by omega)).mp z) (by omega)) ⟨in_nI (by omega) (by decide), in_nI (by omega) (by decide), ?_⟩))
    rw [show nI p + -1 = nI p - 1 from by rw [Int32.sub_eq_add_neg]]
    refine l_cpB hd hi hj hf k p _ (by omega) h0.um (fun y => ?_)
    rw [e1]
    by_cases hy : y = 60 * d + j + p
    · subst hy
      rw [um_s, cRb, if_pos (by omega), show 60 * d + j + p - (60 * d + j) = p by omega]
    · rw [um_n _ _ (by omega), h1, cRb, cRb]
      by_cases hc : 60 * d + j + (p + 1) ≤ y ∧ y < 60 * d + j + n
      · rw [if_pos hc, if_pos (by omega)]
      · rw [if_neg hc, if_neg (by omega)]
theorem m_cp {σ0 : zMem} {d e i j n : Nat} (hd : d < 8) (he : e < 8) (hi : i + n ≤ 60) (hj : j + n ≤ 60) {Q : Int32 → zMem → Prop} (k : ∀ σ, O54 σ0 σ → (∀ y, σ 54 0 y = cR σ0 (60 * d + i) (60 * e + j) n y) → Q (nI n) σ) : ∃ m, vc_X11_copy_112 (nI d) (nI i) (nI e) (nI j) (nI n) Q m σ0 0 := by
  by_cases hf : d = e ∧ i < j
  · obtain ⟨rfl, hf⟩ := hf
    have back := l_cpB hd hi hj hf k n σ0 (Nat.le_refl _) O54.rf (fun y => by rw [cRb, if_neg (by omega)])
    refine ⟨1, fun _ => ⟨n + 1, back⟩, fun _ => ⟨fun c => absurd rfl c, fun _ => ⟨fun _ => ⟨n + 1, back⟩, fun c => absurd ((nlt (by omega) (by omega)).mpr hf) c⟩⟩⟩
  · exact ⟨n + 1, l_cpF hd he hi hj hf k n 0 σ0 (by omega) O54.rf (fun y => by rw [cR, if_neg (by omega)])⟩
theorem p_has {σ : zMem} {d s : Nat} {i n : Int32} (hs : s ≤ 60) (h6 : σ 8 d 6 = nI s) {Q : Int32 → zMem → Prop} (kT : 0 ≤ n.toInt → 0 ≤ i.toInt → i.toInt + n.toInt ≤ s → Q 1 σ) (kF : ¬ (0 ≤ n.toInt ∧ 0 ≤ i.toInt ∧ i.toInt + n.toInt ≤ s) → Q 0 σ) : vc_X7_hasPlaces σ d i n Q := by
  have e0 : (0 : Int32).toInt = 0 := rfl
  have es : (nI s).toInt = s := ti (by omega)
  refine ⟨fun c => kF ?_, fun c => ⟨fun c2 => kF ?_, fun c2 => ⟨fun c3 => kF ?_, fun c3 => ⟨fun c4 => kF ?_, fun c4 => ?_⟩⟩⟩⟩
  · rw [tl] at c; omega
  · rw [tl] at c2; omega
  · rw [tl, h6] at c3
    rw [tl] at c
    omega
  all_goals
    rw [h6] at c3 c4
    rw [tl] at c c2 c3
    have e1 : (nI s - i).toInt = s - i.toInt := by
      rw [Int32.toInt_sub, fb_bmod, es]
      · rw [es]; omega
      · rw [es]; omega
    rw [tl, e1] at c4
  · omega
  · exact kT (by omega) (by omega) (by omega)
theorem st_copy {σ : zMem} (hI : Inv σ) (a i b j n : Int32) : vc_X10_copy σ a i b j n (fun r σ1 => vc_X11_copy σ1 a i b j n (fun r2 σ2 => r = r2 ∧ Inv σ2)) := by
  have e0 : (0 : Int32).toInt = 0 := rfl
  have e3 : (3 : Int32).toInt = 3 := rfl
  by_cases ha : vp_in a 8
  · refine p_isShelf_t ha (k1 ?_)
    by_cases hb : vp_in b 8
    · refine p_isShelf_t hb (k1' ⟨ha, hb, ?_⟩)
      obtain ⟨d, hd, rfl⟩ := in_of ha (by decide)
      obtain ⟨e, he, rfl⟩ := in_of hb (by decide)
      rw [cl (k := d) (by omega), cl (k := e) (by omega)]
      have hD := hI.2.2.2.2 d hd
      have hE := hI.2.2.2.2 e he
      have hM : ∀ {R : Int32 → zMem → Prop}, ((σ 49 0 d = 0 → R (-11) σ) ∧ (¬ σ 49 0 d = 0 → ((¬ σ 49 0 e = 0 → ((σ 49 0 d < 3 → R (-12) σ) ∧ (¬ σ 49 0 d < 3 → ((σ 49 0 d = σ 49 0 e → ((n < 0 → R (-13) σ) ∧ (¬ n < 0 → ((i < 0 → R (-13) σ) ∧ (¬ i < 0 → ((j < 0 → R (-13) σ) ∧ (¬ j < 0 → ((σ 53 0 d - n < i → R (-13) σ) ∧ (¬ σ 53 0 d - n < i → ((j ≤ σ 53 0 e - n → ∃ n23, vc_X11_copy_112 (nI d) i (nI e) j n R n23 σ 0) ∧ (¬ j ≤ σ 53 0 e - n → R (-13) σ))))))))))) ∧ (¬ σ 49 0 d = σ 49 0 e → R (-12) σ))))) ∧ (σ 49 0 e = 0 → R (-11) σ)))) → vc_X11_copy σ (nI d) i (nI e) j n R := by
        intro R h
        refine m_isShelf_t ha (k1 (m_isShelf_t hb (k1' ?_)))
        rw [cl (k := d) (by omega), cl (k := e) (by omega)]
        exact ⟨ha, h.1, fun c => ⟨hb, fun c2 => ⟨ha, ((h.2 c).1 c2).1, fun c3 => ⟨ha, hb, fun c4 => ⟨((((h.2 c).1 c2).2 c3).1 c4).1, fun c5 => ⟨(((((h.2 c).1 c2).2 c3).1 c4).2 c5).1, fun c6 => ⟨((((((h.2 c).1 c2).2 c3).1 c4).2 c5).2 c6).1, fun c7 => ⟨ha, (((((((h.2 c).1 c2).2 c3).1 c4).2 c5).2 c6).2 c7).1, fun c8 => ⟨hb, (((((((h.2 c).1 c2).2 c3).1 c4).2 c5).2 c6).2 c7).2 c8⟩⟩⟩⟩⟩, (((h.2 c).1 c2).2 c3).2⟩⟩, (h.2 c).2⟩⟩
      rw [hD.1, hE.1]
      refine ⟨fun c => hM (kt c ⟨rfl, hI⟩), fun c => ⟨fun c2 => ?_, fun c2 => hM (kf c (kt' c2 ⟨rfl, hI⟩))⟩⟩
      have hno : ¬ σ 49 0 d < 3 → ¬ σ 49 0 d = σ 49 0 e → vc_X11_copy σ (nI d) i (nI e) j n (fun r2 σ2 => -12 = r2 ∧ Inv σ2) := fun h1 h2 => hM (kf c (kf' c2 (kf h1 (kf h2 ⟨rfl, hI⟩))))
      rcases hD.2 with z | z | ⟨hw, s, hs, h86, h53, hrow⟩
      · exact absurd (hD.1.symm.trans z) c
      · refine ⟨fun y => absurd (z.1.symm.trans y) (by decide), fun _ => ⟨fun _ => k0 (hM (kf c (kf' c2 (kt ?_ ⟨rfl, hI⟩)))), fun y => absurd (z.1.symm.trans y) (by decide)⟩⟩
        rw [← hD.1, z.1]
        decide
      · have h3 : ¬ σ 49 0 d < 3 := by
          rw [← hD.1]
          rcases hw with hw | hw <;> rw [hw] <;> decide
        refine p_isRow hw (k1 ?_)
        focus
          refine ⟨fun hde => ?_, fun hde => hno h3 (by rw [← hD.1, ← hE.1]; exact hde)⟩
          have hde' : σ 49 0 d = σ 49 0 e := by rw [← hD.1, ← hE.1]; exact hde
          rcases hE.2 with z | z | ⟨hw2, s2, hs2, h862, h532, hrow2⟩
          · exact absurd (hE.1.symm.trans z) c2
          · rw [z.1] at hde
            rcases hw with hw | hw <;> rw [hw] at hde <;> exact absurd hde (by decide)
          · have es : (nI s).toInt = s := ti (by omega)
            have es2 : (nI s2).toInt = s2 := ti (by omega)
            have esub : 0 ≤ n.toInt → (nI s - n).toInt = s - n.toInt := fun h => by
              rw [Int32.toInt_sub, fb_bmod, es]
              · rw [es]; have := Int32.toInt_lt n; omega
              · rw [es]; omega
            have esub2 : 0 ≤ n.toInt → (nI s2 - n).toInt = s2 - n.toInt := fun h => by
              rw [Int32.toInt_sub, fb_bmod, es2]
              · rw [es2]; have := Int32.toInt_lt n; omega
              · rw [es2]; omega
            have no13 : ¬ (0 ≤ n.toInt ∧ 0 ≤ i.toInt ∧ 0 ≤ j.toInt ∧ i.toInt + n.toInt ≤ s ∧ j.toInt + n.toInt ≤ s2) → vc_X11_copy σ (nI d) i (nI e) j n (fun r2 σ2 => -13 = r2 ∧ Inv σ2) := by
              intro hnot
              refine hM (kf c (kf' c2 (kf h3 (kt hde' ⟨fun _ => ⟨rfl, hI⟩, fun d1 => ⟨fun _ => ⟨rfl, hI⟩, fun d2 => ⟨fun _ => ⟨rfl, hI⟩, fun d3 => ⟨fun _ => ⟨rfl, hI⟩, fun d4 => ⟨fun d5 => ?_, fun _ => ⟨rfl, hI⟩⟩⟩⟩⟩⟩))))
              exfalso
              rw [tl] at d1 d2 d3
              rw [h53, tl, esub (by omega)] at d4
              rw [h532, te, esub2 (by omega)] at d5
              omega
            refine p_has hs h86 (fun a1 a2 a3 => k1 ?_) (fun hnot => k0 (no13 (fun z => hnot ⟨z.1, z.2.1, z.2.2.2.1⟩)))
            refine p_has hs2 h862 (fun b1 b2 b3 => k1' ?_) (fun hnot => k0' (no13 (fun z => hnot ⟨z.1, z.2.2.1, z.2.2.2.2⟩)))
            obtain ⟨i, hi, rfl⟩ := in_of (x := i) (n := 61) (vp_in_iff.mpr (by omega)) (by decide)
            obtain ⟨j, hj, rfl⟩ := in_of (x := j) (n := 61) (vp_in_iff.mpr (by omega)) (by decide)
            obtain ⟨n, hn, rfl⟩ := in_of (x := n) (n := 61) (vp_in_iff.mpr (by omega)) (by decide)
            rw [ti (by omega), ti (by omega)] at a3 b3
            rw [cl (k := i) (by omega), cl (k := j) (by omega), cl (k := n) (by omega)]
            have n0 : ∀ k : Nat, k < 61 → ¬ nI k < 0 := fun k hk => neg_lt_nI (by omega)
            have fin : ∀ q0, (q0 = 9 ∨ q0 = 10) → (∀ y, y < s → σ q0 d y = σ 54 0 (60 * d + y) ∧ (q0 = 10 → (σ q0 d y).toInt8.toInt32 = σ q0 d y)) → (∀ y, y < s2 → σ q0 e y = σ 54 0 (60 * e + y) ∧ (q0 = 10 → (σ q0 e y).toInt8.toInt32 = σ q0 e y)) → (σ 8 d 0 = 3 → q0 = 9) → (σ 8 d 0 = 4 → q0 = 10) → vc_X11_copy (zcp σ q0 d q0 e i j n) (nI d) (nI i) (nI e) (nI j) (nI n) (fun r2 σ2 => nI n = r2 ∧ Inv σ2) := by
              intro q0 hq0 r1 r2 w3 w4
              have ez : ∀ q i' j', ¬ (q = q0 ∧ i' = e) → zcp σ q0 d q0 e i j n q i' j' = σ q i' j' := fun q i' j' h => by simp only [zcp]; rw [if_neg h]
              have ec : ∀ y, zcp σ q0 d q0 e i j n q0 e y = va_cpy (σ q0 d) (σ q0 e) i j n y := fun y => by unfold zcp; rw [if_pos ⟨rfl, rfl⟩]
              refine m_isShelf_t ha (k1 (m_isShelf_t hb (k1' ?_)))
              rw [cl (k := d) (by omega), cl (k := e) (by omega), ez 49 _ _ (by omega), ez 49 _ _ (by omega), ez 53 _ _ (by omega), ez 53 _ _ (by omega), h53, h532]
              refine ⟨ha, kf c ⟨hb, kf' c2 ⟨ha, kf h3 ⟨ha, hb, kt hde' (kf (n0 n hn) (kf (n0 i hi) (kf (n0 j hj) ⟨ha, kf ?_ ⟨hb, kt ?_ ?_⟩⟩)))⟩⟩⟩⟩
              · rw [tl, esub (by omega), ti (by omega), ti (by omega)]; omega
              · rw [te, esub2 (by omega), ti (by omega), ti (by omega)]; omega
              · refine m_cp hd he (by omega) (by omega) (fun σ2 g1 g2 => ⟨rfl, ?_⟩)
                have k54 : ∀ y, zcp σ q0 d q0 e i j n 54 0 y = σ 54 0 y := fun y => ez 54 0 y (by omega)
                have k2 : ∀ y, σ2 54 0 y = if 60 * e + j ≤ y ∧ y < 60 * e + j + n then σ 54 0 (60 * d + i + (y - (60 * e + j))) else σ 54 0 y := fun y => by
                  rw [g2 y, cR, k54, k54]
                have hsh : Sh e σ σ2 := fun q i' j' z z2 => by
                  by_cases hq : q = 54
                  · subst hq
                    by_cases hi0 : i' = 0
                    · subst hi0
                      rw [k2, if_neg]
                      intro hc
                      exact z2 (Or.inr (Or.inr ⟨rfl, rfl, by omega, by omega⟩))
                    · rw [g1 54 i' j' (fun z => hi0 z.2)]
                      exact ez 54 i' j' (fun hc => by omega)
                  · rw [g1 q i' j' (fun z => hq z.1)]
                    exact ez q i' j' (fun hc => z2 (Or.inl ⟨by omega, hc.2⟩))
                have f8 : ∀ y, σ2 8 e y = σ 8 e y := fun y => by rw [g1 8 e y (by omega), ez 8 e y (by omega)]
                have f49 : σ2 49 0 e = σ 49 0 e := by rw [g1 49 0 e (by omega), ez 49 0 e (by omega)]
                have f53 : σ2 53 0 e = σ 53 0 e := by rw [g1 53 0 e (by omega), ez 53 0 e (by omega)]
                have fr : ∀ y, y < s2 → σ2 q0 e y = σ2 54 0 (60 * e + y) ∧ (q0 = 10 → (σ2 q0 e y).toInt8.toInt32 = σ2 q0 e y) := fun y hy => by
                  rw [k2, g1 q0 e y (by omega), ec, va_cpy]
                  by_cases hc : j ≤ y ∧ y < j + n
                  · rw [if_pos hc, if_pos (by omega)]
                    have := r1 (i + (y - j)) (by omega)
                    rw [show 60 * d + i + (60 * e + y - (60 * e + j)) = 60 * d + (i + (y - j)) by omega]
                    exact this
                  · rw [if_neg hc, if_neg (by omega)]
                    exact r2 y hy
                refine Inv_sh hI hsh ⟨by rw [f8, f49]; exact hE.1, Or.inr (Or.inr ⟨by rw [f8]; exact hw2, s2, hs2, by rw [f8]; exact h862, by rw [f53]; exact h532, fun y hy => ⟨fun z => ?_, fun z => ?_⟩⟩)⟩
                · rw [f8, ← hde] at z
                  have := w3 z
                  subst this
                  exact (fr y hy).1
                · rw [f8, ← hde] at z
                  have := w4 z
                  subst this
                  exact ⟨(fr y hy).1, (fr y hy).2 rfl⟩
            refine ⟨fun w3 => ?_, fun w3 => ?_⟩
            · have w4 : σ 8 d 0 = 4 := hw.resolve_left w3
              refine ⟨n0 i hi, n0 j hj, n0 n hn, by omega, by omega, fun y hy => fitB ((hrow (i + y) (by omega)).2 w4).2, ?_⟩
              exact fin 10 (Or.inr rfl) (fun y hy => ⟨((hrow y hy).2 w4).1, fun _ => ((hrow y hy).2 w4).2⟩) (fun y hy => ⟨((hrow2 y hy).2 (hde ▸ w4)).1, fun _ => ((hrow2 y hy).2 (hde ▸ w4)).2⟩) (fun z => absurd z w3) (fun _ => rfl)
            · refine ⟨n0 i hi, n0 j hj, n0 n hn, by omega, by omega, ?_⟩
              exact fin 9 (Or.inl rfl) (fun y hy => ⟨(hrow y hy).1 w3, fun z => absurd z (by decide)⟩) (fun y hy => ⟨(hrow2 y hy).1 (hde ▸ w3), fun z => absurd z (by decide)⟩) (fun _ => rfl) (fun z => absurd (w3.symm.trans z) (by decide))
    · refine p_isShelf_f hb (k0' ?_)
      exact m_isShelf_t ha (k1 (m_isShelf_f hb (k0' ⟨rfl, hI⟩)))
  · refine p_isShelf_f ha (k0 ?_)
    exact m_isShelf_f ha (k0 ⟨rfl, hI⟩)
theorem m_noPlot {σ : zMem} {d : Nat} (hd : d < 8) {Q : Int32 → zMem → Prop} (k : Q (if σ 49 0 d = 0 then -11 else if σ 49 0 d = 1 then 0 else -12) σ) : vc_X11_noPlot σ (nI d) Q := by
  have ha : vp_in (nI d) 8 := in_nI hd (by decide)
  refine m_isShelf_t ha (k1' ⟨ha, ?_⟩)
  rw [cl (by omega)]
  refine ⟨fun c => ⟨ha, fun c2 => ?_, fun c2 => ?_⟩, fun c => ?_⟩
  · rw [if_neg c, if_pos c2] at k
    exact k
  · rw [if_neg c, if_neg c2] at k
    exact k
  · rw [if_pos c] at k
    exact k
theorem p_refusal {σ : zMem} {d : Nat} (hd : d < 8) {Q : Int32 → zMem → Prop} (k : Q (if σ 8 d 0 = 0 then -11 else if σ 8 d 0 = 1 then 0 else -12) σ) : vc_X10_refusalOfPlotOn σ (nI d) Q := by
  have ha : vp_in (nI d) 8 := in_nI hd (by decide)
  refine p_isShelf_t ha (k1' ⟨ha, ?_⟩)
  rw [cl (by omega)]
  refine ⟨fun c => ⟨ha, fun c2 => ?_, fun c2 => ?_⟩, fun c => ?_⟩
  · rw [if_neg c, if_neg c2] at k
    exact k
  · rw [if_neg c, if_pos c2] at k
    exact k
  · rw [if_pos c] at k
    exact k
theorem st_weight {σ : zMem} (hI : Inv σ) (a : Int32) : vc_X10_weight σ a (fun r σ1 => vc_X11_weight σ1 a (fun r2 σ2 => r = r2 ∧ Inv σ2)) := by
  by_cases ha : vp_in a 8
  · obtain ⟨d, hd, rfl⟩ := in_of ha (by decide)
    have hD := hI.2.2.2.2 d hd
    refine p_refusal hd ?_
    rw [cl (by omega)]
    by_cases h0 : σ 8 d 0 = 0
    · rw [if_pos h0]
      refine kf (by decide) (m_noPlot hd ?_)
      rw [← hD.1, if_pos h0]
      exact kf (by decide) ⟨rfl, hI⟩
    · rw [if_neg h0]
      by_cases h1 : σ 8 d 0 = 1
      · rw [if_pos h1]
        rcases hD.2 with z | ⟨z1, z2, ⟨g, hg, z3, z4⟩, z5⟩ | ⟨z, -⟩
        · exact absurd z h0
        · rw [z3, cl (by omega)]
          refine kt rfl ⟨ha, hg, ha, m_noPlot hd ?_⟩
          rw [← hD.1, if_neg h0, if_pos h1]
          refine kt (by decide) ⟨ha, ha, ?_⟩
          rw [cl (by omega), z4, z5]
          rcases (show g = 0 ∨ g = 1 ∨ g = 2 ∨ g = 3 by omega) with rfl | rfl | rfl | rfl
          · exact ⟨fun c => absurd c (by decide), fun c => absurd c (by decide), fun c => absurd c (by decide), fun _ _ _ => ⟨rfl, hI⟩⟩
          · exact ⟨fun _ => m_chanceOf (g := 1) (by decide) ⟨rfl, hI⟩, fun c => absurd c (by decide), fun c => absurd c (by decide), fun c => absurd rfl c⟩
          · exact ⟨fun c => absurd c (by decide), fun _ => m_chanceOf (g := 2) (by decide) ⟨rfl, hI⟩, fun c => absurd c (by decide), fun _ c => absurd rfl c⟩
          · exact ⟨fun c => absurd c (by decide), fun c => absurd c (by decide), fun _ => ⟨rfl, hI⟩, fun _ _ c => absurd rfl c⟩
        · rw [h1] at z
          exact absurd z (by decide)
      · rw [if_neg h1]
        refine kf (by decide) (m_noPlot hd ?_)
        rw [← hD.1, if_neg h0, if_neg h1]
        exact kf (by decide) ⟨rfl, hI⟩
  · unfold vc_X10_weight vc_X10_refusalOfPlotOn
    refine p_isShelf_f ha (k0' ?_)
    refine kf (show ¬ (-1 : Int32) = 0 by decide) ?_
    unfold vc_X11_weight vc_X11_noPlot
    refine m_isShelf_f ha (k0' ?_)
    exact kf (show ¬ (0 : Int32) ≤ -1 by decide) ⟨rfl, hI⟩
