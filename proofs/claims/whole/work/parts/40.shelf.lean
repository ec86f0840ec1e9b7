/-! shelves: make, keep -/
def iSd (σ : zMem) (d : Nat) : Prop := σ 8 d 0 = σ 49 0 d ∧
  (σ 8 d 0 = 0 ∨ (σ 8 d 0 = 1 ∧ σ 8 d 1 = σ 50 0 d ∧ (∃ k, k < 4 ∧ σ 8 d 2 = nI k ∧ σ 51 0 d = nI k) ∧ σ 8 d 3 = σ 52 0 d) ∨
   ((σ 8 d 0 = 3 ∨ σ 8 d 0 = 4) ∧ ∃ n, n ≤ 60 ∧ σ 8 d 6 = nI n ∧ σ 53 0 d = nI n ∧ ∀ j, j < n → (σ 8 d 0 = 3 → σ 9 d j = σ 54 0 (60 * d + j)) ∧ (σ 8 d 0 = 4 → σ 10 d j = σ 54 0 (60 * d + j) ∧ (σ 10 d j).toInt8.toInt32 = σ 10 d j)))
def ShC (d q i j : Nat) : Prop := ((q = 8 ∨ q = 9 ∨ q = 10) ∧ i = d) ∨ ((49 ≤ q ∧ q ≤ 53) ∧ i = 0 ∧ j = d) ∨ (q = 54 ∧ i = 0 ∧ 60 * d ≤ j ∧ j < 60 * d + 60)
def Sh (d : Nat) (σ σ' : zMem) : Prop := ∀ q i j, ps q j = true → ¬ ShC d q i j → σ' q i j = σ q i j
theorem Sh.rf {d : Nat} {σ : zMem} : Sh d σ σ := fun _ _ _ _ _ => rfl
theorem Sh.um {d : Nat} {σ σ' : zMem} (h : Sh d σ σ') {q i j : Nat} {v : Int32} (hq : ShC d q i j) : Sh d σ (um σ' q i j v) := fun q' i' j' z z2 => by
  rw [um_n σ' v (fun e => by obtain ⟨e1, e2, e3⟩ := e; subst e1; subst e2; subst e3; exact z2 hq)]
  exact h q' i' j' z z2
theorem Inv_sh {σ σ' : zMem} {d : Nat} (hI : Inv σ) (h : Sh d σ σ') (hd : iSd σ' d) : Inv σ' := by
  have nn : ∀ q i j, q < 8 ∨ (10 < q ∧ q < 49) → ¬ ShC d q i j := fun q i j hq z => by unfold ShC at z; omega
  have e0 : ∀ i j, σ' 0 i j = σ 0 i j := fun i j => h 0 i j rfl (nn _ _ _ (by omega))
  have e4 : ∀ i j, σ' 4 i j = σ 4 i j := fun i j => h 4 i j rfl (nn _ _ _ (by omega))
  have e6 : ∀ i j, σ' 6 i j = σ 6 i j := fun i j => h 6 i j rfl (nn _ _ _ (by omega))
  have e11 : ∀ i j, σ' 11 i j = σ 11 i j := fun i j => h 11 i j rfl (nn _ _ _ (by omega))
  have m9 : σ' 22 0 9 = σ 22 0 9 := h 22 0 9 rfl (nn _ _ _ (by omega))
  have m16 : σ' 22 0 16 = σ 22 0 16 := h 22 0 16 rfl (nn _ _ _ (by omega))
  have m21 : σ' 22 0 21 = σ 22 0 21 := h 22 0 21 rfl (nn _ _ _ (by omega))
  have e23 : ∀ i j, σ' 23 i j = σ 23 i j := fun i j => h 23 i j rfl (nn _ _ _ (by omega))
  have e24 : ∀ i j, σ' 24 i j = σ 24 i j := fun i j => h 24 i j rfl (nn _ _ _ (by omega))
  have e25 : ∀ i j, σ' 25 i j = σ 25 i j := fun i j => h 25 i j rfl (nn _ _ _ (by omega))
  have e26 : ∀ i j, σ' 26 i j = σ 26 i j := fun i j => h 26 i j rfl (nn _ _ _ (by omega))
  have e27 : ∀ i j, σ' 27 i j = σ 27 i j := fun i j => h 27 i j rfl (nn _ _ _ (by omega))
  have e28 : ∀ i j, σ' 28 i j = σ 28 i j := fun i j => h 28 i j rfl (nn _ _ _ (by omega))
  have e29 : ∀ i j, σ' 29 i j = σ 29 i j := fun i j => h 29 i j rfl (nn _ _ _ (by omega))
  have e30 : ∀ i j, σ' 30 i j = σ 30 i j := fun i j => h 30 i j rfl (nn _ _ _ (by omega))
  have e31 : ∀ i j, σ' 31 i j = σ 31 i j := fun i j => h 31 i j rfl (nn _ _ _ (by omega))
  have e32 : ∀ i j, σ' 32 i j = σ 32 i j := fun i j => h 32 i j rfl (nn _ _ _ (by omega))
  have e33 : ∀ i j, σ' 33 i j = σ 33 i j := fun i j => h 33 i j rfl (nn _ _ _ (by omega))
  have e34 : ∀ i j, σ' 34 i j = σ 34 i j := fun i j => h 34 i j rfl (nn _ _ _ (by omega))
  have e35 : ∀ i j, σ' 35 i j = σ 35 i j := fun i j => h 35 i j rfl (nn _ _ _ (by omega))
  have e36 : ∀ i j, σ' 36 i j = σ 36 i j := fun i j => h 36 i j rfl (nn _ _ _ (by omega))
  have e39 : ∀ i j, σ' 39 i j = σ 39 i j := fun i j => h 39 i j rfl (nn _ _ _ (by omega))
  obtain ⟨h1, h2, h3, h4, h5⟩ := hI
  unfold Inv
  refine ⟨?_, ?_, ?_, ?_, fun d' hd' => ?_⟩
  · unfold iP at h1 ⊢
    simp only [e0, e4, e23, e24, e25, e26, e27, e29, e30]
    exact h1
  · unfold iB debt at h2 ⊢
    simp only [e0, e6, m9, e25, e26, e27, e31, e32, e33, e34, e35, e36]
    exact h2
  · unfold iD at h3 ⊢
    simp only [e0, e11, m16, m21, e39]
    exact h3
  · unfold iR at h4 ⊢
    simp only [e0, e25, e27, e28]
    exact h4
  · by_cases hdd : d' = d
    · subst hdd
      exact hd
    · have n8 : ∀ q j, q = 8 ∨ q = 9 ∨ q = 10 → ¬ ShC d q d' j := fun q j hq z => by unfold ShC at z; omega
      have n49 : ∀ q, 49 ≤ q → q ≤ 53 → ¬ ShC d q 0 d' := fun q h1 h2 z => by unfold ShC at z; omega
      have f8 : ∀ j, σ' 8 d' j = σ 8 d' j := fun j => h 8 d' j rfl (n8 _ _ (by omega))
      have f9 : ∀ j, σ' 9 d' j = σ 9 d' j := fun j => h 9 d' j rfl (n8 _ _ (by omega))
      have f10 : ∀ j, σ' 10 d' j = σ 10 d' j := fun j => h 10 d' j rfl (n8 _ _ (by omega))
      have f49 : σ' 49 0 d' = σ 49 0 d' := h 49 0 d' rfl (n49 _ (by omega) (by omega))
      have f50 : σ' 50 0 d' = σ 50 0 d' := h 50 0 d' rfl (n49 _ (by omega) (by omega))
      have f51 : σ' 51 0 d' = σ 51 0 d' := h 51 0 d' rfl (n49 _ (by omega) (by omega))
      have f52 : σ' 52 0 d' = σ 52 0 d' := h 52 0 d' rfl (n49 _ (by omega) (by omega))
      have f53 : σ' 53 0 d' = σ 53 0 d' := h 53 0 d' rfl (n49 _ (by omega) (by omega))
      have h6 := h5 d' hd'
      rw [f8, f49]
      refine ⟨h6.1, ?_⟩
      rw [f8, f8, f8, f8, f50, f51, f52, f53]
      rcases h6.2 with h7 | h7 | ⟨h7, n, hn, h8, h9, h10⟩
      · exact Or.inl h7
      · exact Or.inr (Or.inl h7)
      · refine Or.inr (Or.inr ⟨h7, n, hn, h8, h9, fun j hj => ?_⟩)
        have f54 : σ' 54 0 (60 * d' + j) = σ 54 0 (60 * d' + j) := h 54 0 _ rfl (fun z => by unfold ShC at z; omega)
        rw [f9, f10, f54]
        exact h10 j hj
def C8 (d : Nat) (σ σ' : zMem) : Prop := ∀ q i j, ¬ ((q = 8 ∨ q = 9 ∨ q = 10) ∧ i = d) → σ' q i j = σ q i j
theorem C8.rf {d : Nat} {σ : zMem} : C8 d σ σ := fun _ _ _ _ => rfl
theorem C8.um {d : Nat} {σ σ' : zMem} (h : C8 d σ σ') {q j : Nat} {v : Int32} (hq : q = 8 ∨ q = 9 ∨ q = 10) : C8 d σ (um σ' q d j v) := fun q' i' j' z => by
  rw [um_n σ' v (fun e => z ⟨by omega, e.2.1⟩)]
  exact h q' i' j' z
theorem C8.sh {d : Nat} {σ σ' : zMem} (h : C8 d σ σ') : Sh d σ σ' := fun q i j _ z => h q i j (fun e => z (Or.inl e))
theorem C8.m {d : Nat} {σ σ' : zMem} (h : C8 d σ σ') : SameM σ σ' := fun q i j hq _ => h q i j (fun e => by omega)
theorem g60 {p : Nat} (hp : p < 60) : ¬ (60 : Int32) ≤ nI p := nI_ge (b := 60) hp (by decide)
theorem l_fI {σ0 : zMem} {d : Nat} {Q : zMem → Prop} (k : ∀ σ, C8 d σ0 σ → (∀ j, σ 8 d j = σ0 8 d j) → (∀ j, j < 60 → σ 9 d j = 0) → (∀ j, σ 10 d j = σ0 10 d j) → Q σ) : ∀ m p σ, p + m = 60 → C8 d σ0 σ → (∀ j, σ 8 d j = σ0 8 d j) → (∀ j, j < p → σ 9 d j = 0) → (∀ j, σ 10 d j = σ0 10 d j) → vc_J7_fill_53178_5 d 0 60 Q (m + 1) σ (nI p)
  | 0, p, σ, hp, h0, h1, h2, h3 => by
    obtain rfl : p = 60 := by omega
    exact kt (by decide) (k σ h0 h1 h2 h3)
  | m + 1, p, σ, hp, h0, h1, h2, h3 => by
    rw [vc_J7_fill_53178_5]
    refine kf (g60 (by omega)) ⟨in_nI (by omega) (by decide), ?_⟩
    rw [cl (by omega), s1]
    refine l_fI k m (p + 1) _ (by omega) (h0.um (by omega)) (fun j => by rw [um_q _ _ (by decide)]; exact h1 j) (fun j hj => ?_) (fun j => by rw [um_q _ _ (by decide)]; exact h3 j)
    by_cases e : j = p
    · subst e; rw [um_s]
    · rw [um_n _ _ (by omega)]
      exact h2 j (by omega)
theorem l_fB {σ0 : zMem} {d : Nat} {Q : zMem → Prop} (k : ∀ σ, C8 d σ0 σ → (∀ j, σ 8 d j = σ0 8 d j) → (∀ j, σ 9 d j = σ0 9 d j) → (∀ j, j < 60 → σ 10 d j = 0) → Q σ) : ∀ m p σ, p + m = 60 → C8 d σ0 σ → (∀ j, σ 8 d j = σ0 8 d j) → (∀ j, σ 9 d j = σ0 9 d j) → (∀ j, j < p → σ 10 d j = 0) → vc_J7_fill_031fb_5 d 0 60 Q (m + 1) σ (nI p)
  | 0, p, σ, hp, h0, h1, h2, h3 => by
    obtain rfl : p = 60 := by omega
    exact kt (by decide) (k σ h0 h1 h2 h3)
  | m + 1, p, σ, hp, h0, h1, h2, h3 => by
    rw [vc_J7_fill_031fb_5]
    refine kf (g60 (by omega)) ⟨in_nI (by omega) (by decide), ?_⟩
    rw [cl (by omega), s1]
    refine l_fB k m (p + 1) _ (by omega) (h0.um (by omega)) (fun j => by rw [um_q _ _ (by decide)]; exact h1 j) (fun j => by rw [um_q _ _ (by decide)]; exact h2 j) (fun j hj => ?_)
    by_cases e : j = p
    · subst e; rw [um_s]; rfl
    · rw [um_n _ _ (by omega)]
      exact h3 j (by omega)
theorem p_takeRow {σ : zMem} {d : Nat} {a b : Int32} {Q : zMem → Prop} (k : ∀ σ', C8 d σ σ' → σ' 8 d 0 = a → σ' 8 d 6 = b → (∀ j, j < 60 → σ' 9 d j = 0 ∧ σ' 10 d j = 0) → Q σ') : vc_X7_takeRow σ d a b Q := by
  refine ⟨61, l_fI (σ0 := um (um σ 8 d 0 a) 8 d 6 b) (fun σ1 a0 a1 a2 a3 => ⟨61, l_fB (σ0 := σ1) (fun σ2 b0 b1 b2 b3 => ?_) 60 0 σ1 rfl C8.rf (fun _ => rfl) (fun _ => rfl) (fun j hj => absurd hj (by omega))⟩) 60 0 _ rfl C8.rf (fun _ => rfl) (fun j hj => absurd hj (by omega)) (fun _ => rfl)⟩
  refine k σ2 (fun q i j z => ?_) ?_ ?_ (fun j hj => ⟨(b2 j).trans (a2 j hj), b3 j hj⟩)
  · rw [b0 q i j z, a0 q i j z]
    exact ((C8.rf (σ := σ)).um (v := a) (j := 0) (by omega)).um (v := b) (j := 6) (by omega) q i j z
  · rw [b1, a1, um_n _ _ (by omega), um_s]
  · rw [b1, a1, um_s]
theorem n60 : ∀ d, d < 8 → ∀ j, j < 60 → 60 * nI d + nI j = nI (60 * d + j) := by
  intro d hd j hj
  have e : (60 : Int32) * nI d = nI (60 * d) := by
    have : ∀ d, d < 8 → (60 : Int32) * nI d = nI (60 * d) := by decide +kernel
    exact this d hd
  rw [e, nadd (by omega)]
def ShM (d : Nat) (σ σ' : zMem) : Prop := ∀ q i j, ¬ (q = 54 ∧ i = 0 ∧ 60 * d ≤ j ∧ j < 60 * d + 60) → σ' q i j = σ q i j
theorem ShM.um {d : Nat} {σ σ' : zMem} (h : ShM d σ σ') {j : Nat} {v : Int32} (hj : j < 60) : ShM d σ (um σ' 54 0 (60 * d + j) v) := fun q' i' j' z => by
  rw [um_n σ' v (fun e => z (by omega))]
  exact h q' i' j' z
theorem ShM.sh {d : Nat} {σ σ' : zMem} (h : ShM d σ σ') : Sh d σ σ' := fun q i j _ z => h q i j (fun e => z (Or.inr (Or.inr e)))
theorem l_mk {σ0 : zMem} {d n : Nat} (hd : d < 8) (hn : n ≤ 60) {Q : Int32 → zMem → Prop} (k : ∀ σ, ShM d σ0 σ → (∀ j, j < n → σ 54 0 (60 * d + j) = 0) → Q 0 σ) : ∀ m p σ, p + m = n → ShM d σ0 σ → (∀ j, j < p → σ 54 0 (60 * d + j) = 0) → vc_X11_make_48 (nI d) (nI n) Q (m + 1) σ (nI p)
  | 0, p, σ, hp, h0, h1 => by
    obtain rfl : p = n := by omega
    exact kt (by rw [te]; omega) (k σ h0 h1)
  | m + 1, p, σ, hp, h0, h1 => by
    rw [vc_X11_make_48, n60 d hd p (by omega)]
    refine kf (nI_ge (by omega) (by omega)) ⟨in_nI (by omega) (by decide), ?_⟩
    rw [cl (by omega), s1]
    refine l_mk hd hn k m (p + 1) _ (by omega) (h0.um (by omega)) (fun j hj => ?_)
    by_cases e : j = p
    · subst e; rw [um_s]
    · rw [um_n _ _ (by omega)]
      exact h1 j (by omega)
theorem Sh.tr {d : Nat} {σ σ' σ'' : zMem} (h : Sh d σ σ') (h' : Sh d σ' σ'') : Sh d σ σ'' := fun q i j z z2 => (h' q i j z z2).trans (h q i j z z2)
theorem shc49 {d q : Nat} (h1 : 49 ≤ q) (h2 : q ≤ 53) : ShC d q 0 d := Or.inr (Or.inl ⟨⟨h1, h2⟩, rfl, rfl⟩)
theorem shc8 {d q j : Nat} (h1 : q = 8 ∨ q = 9 ∨ q = 10) : ShC d q d j := Or.inl ⟨h1, rfl⟩
theorem st_make {σ : zMem} (hI : Inv σ) (a w n : Int32) : vc_X10_make σ a w n (fun r σ1 => vc_X11_make σ1 a w n (fun r2 σ2 => r = r2 ∧ Inv σ2)) := by
  have e3 : (3 : Int32).toInt = 3 := rfl
  have e4 : (4 : Int32).toInt = 4 := rfl
  have e0 : (0 : Int32).toInt = 0 := rfl
  have e60 : (60 : Int32).toInt = 60 := rfl
  by_cases ha : vp_in a 8
  · refine p_isShelf_t ha (k1 ?_)
    have body : ∀ (hw : w = 3 ∨ w = 4), ((n ≤ 60 → ((0 ≤ n → vp_in a 8 ∧ vc_X7_takeRow σ a.toNatClampNeg w n (fun σ8 => vc_X11_make σ8 a w n (fun r2 σ2 => 0 = r2 ∧ Inv σ2))) ∧ (¬ 0 ≤ n → vc_X11_make σ a w n (fun r2 σ2 => -14 = r2 ∧ Inv σ2)))) ∧ (¬ n ≤ 60 → vc_X11_make σ a w n (fun r2 σ2 => -1 = r2 ∧ Inv σ2))) := by
      intro hw
      have hin : (3 : Int32).toInt ≤ w.toInt ∧ w.toInt ≤ (4 : Int32).toInt := by rcases hw with rfl | rfl <;> decide
      refine ⟨fun c => ⟨fun c2 => ⟨ha, ?_⟩, fun c2 => ?_⟩, fun c => ?_⟩
      · obtain ⟨d, hd, rfl⟩ := in_of ha (by decide)
        rw [te] at c c2
        obtain ⟨m, hm, rfl⟩ := in_of (x := n) (n := 61) (vp_in_iff.mpr (by omega)) (by decide)
        rw [cl (by omega)]
        refine p_takeRow (fun σ1 a1 a2 a3 a4 => ?_)
        refine m_isShelf_t ha (k1 (m_in_t hin (k1 (kt (by rw [te]; exact c) (kt (by rw [te]; exact c2) ⟨ha, ha, m + 1, ?_⟩)))))
        rw [cl (by omega)]
        refine l_mk hd (by omega) (fun σ2 b1 b2 => ⟨rfl, ?_⟩) m 0 _ (by omega) (fun _ _ _ _ => rfl) (fun j hj => absurd hj (by omega))
        have f49 : σ2 49 0 d = w := by rw [b1 _ _ _ (by omega), um_q _ _ (by decide), um_s]
        have f53 : σ2 53 0 d = nI m := by rw [b1 _ _ _ (by omega), um_s]
        have f8 : σ2 8 d 0 = w := by rw [b1 _ _ _ (by omega), um_q _ _ (by decide), um_q _ _ (by decide), a2]
        have f86 : σ2 8 d 6 = nI m := by rw [b1 _ _ _ (by omega), um_q _ _ (by decide), um_q _ _ (by decide), a3]
        have f9 : ∀ j, j < 60 → σ2 9 d j = 0 ∧ σ2 10 d j = 0 := fun j hj => by
          rw [b1 _ _ _ (by omega), um_q _ _ (by decide), um_q _ _ (by decide), b1 _ _ _ (by omega), um_q _ _ (by decide), um_q _ _ (by decide)]
          exact a4 j hj
        refine Inv_sh hI (((a1.sh.um (shc49 (by decide) (by decide))).um (shc49 (by decide) (by decide))).tr b1.sh) ⟨by rw [f8, f49], Or.inr (Or.inr ⟨by rw [f8]; exact hw, m, by omega, f86, f53, fun j hj => ⟨fun _ => ?_, fun _ => ?_⟩⟩)⟩
        · rw [(f9 j (by omega)).1, b2 j hj]
        · rw [(f9 j (by omega)).2, b2 j hj]
          exact ⟨rfl, rfl⟩
      · exact m_isShelf_t ha (k1 (m_in_t hin (k1 (kt c (kf c2 ⟨rfl, hI⟩)))))
      · exact m_isShelf_t ha (k1 (m_in_t hin (k1 (kf c ⟨rfl, hI⟩))))
    refine ⟨fun c => body (Or.inl c), fun c => ⟨fun c2 => ?_, fun c2 => body (Or.inr c2)⟩⟩
    refine m_isShelf_t ha (k1 (m_in_f (fun z => ?_) (k0 ⟨rfl, hI⟩)))
    rw [tq] at c c2
    omega
  · refine p_isShelf_f ha (k0 ?_)
    exact m_isShelf_f ha (k0 ⟨rfl, hI⟩)
