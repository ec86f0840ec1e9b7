/-! the pure part: numbers, memory, what holds between two calls -/
theorem um_s (σ : zMem) (q i j : Nat) (v : Int32) : um σ q i j v q i j = v := by simp [um]
theorem um_n (σ : zMem) {q i j q' i' j' : Nat} (v : Int32) (h : ¬ (q' = q ∧ i' = i ∧ j' = j)) : um σ q i j v q' i' j' = σ q' i' j' := by
  simp only [um]
  rw [if_neg h]
theorem um_q (σ : zMem) {q i j q' i' j' : Nat} (v : Int32) (h : q' ≠ q) : um σ q i j v q' i' j' = σ q' i' j' := um_n σ v (fun z => h z.1)
theorem tl (x y : Int32) : x < y ↔ x.toInt < y.toInt := Int32.lt_iff_toInt_lt
theorem te (x y : Int32) : x ≤ y ↔ x.toInt ≤ y.toInt := Int32.le_iff_toInt_le
theorem tq (x y : Int32) : x = y ↔ x.toInt = y.toInt := Int32.toInt_inj.symm
theorem in_of {x : Int32} {n : Nat} (h : vp_in x n) (hn : n < 2147483648) : ∃ k : Nat, k < n ∧ x = nI k := vp_in_of h hn
theorem in_nI {k n : Nat} (h : k < n) (hn : n < 2147483648) : vp_in (nI k) n := vp_in_nI h hn
theorem cl {k : Nat} (h : k < 2147483648) : (nI k).toNatClampNeg = k := nI_clamp h
theorem ti {k : Nat} (h : k < 2147483648) : (nI k).toInt = k := nI_toInt h
theorem nbool {x : Int32} (h : zbool x) : vp_nar .boolean x = x := zbv h
theorem out_rg {x : Int32} {n : Nat} (h : ¬ vp_in x n) (h0 : ¬ x < 0) : (n : Int) ≤ x.toInt := by
  rw [vp_in_iff] at h
  rw [tl] at h0
  have e0 : (0 : Int32).toInt = 0 := rfl
  omega
theorem p_isPlot_t {σ : zMem} {a : Int32} {Q : Int32 → zMem → Prop} (h : vp_in a 24) (k : Q 1 σ) : vc_X10_isPlot σ a Q := by
  rw [vp_in_iff] at h
  have e0 : (0 : Int32).toInt = 0 := rfl
  have e1 : (24 : Int32).toInt = 24 := rfl
  exact ⟨fun c => absurd c (by rw [tl]; omega), fun _ => ⟨fun c => absurd c (by rw [te]; omega), fun _ => k⟩⟩
theorem p_isPlot_f {σ : zMem} {a : Int32} {Q : Int32 → zMem → Prop} (h : ¬ vp_in a 24) (k : Q 0 σ) : vc_X10_isPlot σ a Q := by
  rw [vp_in_iff] at h
  have e0 : (0 : Int32).toInt = 0 := rfl
  have e1 : (24 : Int32).toInt = 24 := rfl
  exact ⟨fun _ => k, fun c => ⟨fun _ => k, fun c2 => absurd h (by rw [tl] at c; rw [te] at c2; omega)⟩⟩
theorem p_isShelf_t {σ : zMem} {a : Int32} {Q : Int32 → zMem → Prop} (h : vp_in a 8) (k : Q 1 σ) : vc_X10_isShelf σ a Q := by
  rw [vp_in_iff] at h
  have e0 : (0 : Int32).toInt = 0 := rfl
  have e1 : (8 : Int32).toInt = 8 := rfl
  exact ⟨fun c => absurd c (by rw [tl]; omega), fun _ => ⟨fun c => absurd c (by rw [te]; omega), fun _ => k⟩⟩
theorem p_isShelf_f {σ : zMem} {a : Int32} {Q : Int32 → zMem → Prop} (h : ¬ vp_in a 8) (k : Q 0 σ) : vc_X10_isShelf σ a Q := by
  rw [vp_in_iff] at h
  have e0 : (0 : Int32).toInt = 0 := rfl
  have e1 : (8 : Int32).toInt = 8 := rfl
  exact ⟨fun _ => k, fun c => ⟨fun _ => k, fun c2 => absurd h (by rw [tl] at c; rw [te] at c2; omega)⟩⟩
theorem p_within_t {σ : zMem} {a b : Int32} {Q : Int32 → zMem → Prop} (h : 0 ≤ a.toInt ∧ a.toInt ≤ b.toInt) (k : Q 1 σ) : vc_X10_within σ a b Q := by
  have e0 : (0 : Int32).toInt = 0 := rfl
  exact ⟨fun c => absurd c (by rw [tl]; omega), fun _ => ⟨fun c => absurd c (by rw [tl]; omega), fun _ => k⟩⟩
theorem p_within_f {σ : zMem} {a b : Int32} {Q : Int32 → zMem → Prop} (h : ¬ (0 ≤ a.toInt ∧ a.toInt ≤ b.toInt)) (k : Q 0 σ) : vc_X10_within σ a b Q := by
  have e0 : (0 : Int32).toInt = 0 := rfl
  exact ⟨fun _ => k, fun c => ⟨fun _ => k, fun c2 => absurd h (by rw [tl] at c c2; omega)⟩⟩
theorem m_in_t {σ : zMem} {a b d : Int32} {Q : Int32 → zMem → Prop} (h : b.toInt ≤ a.toInt ∧ a.toInt ≤ d.toInt) (k : Q 1 σ) : vc_X11_in σ a b d Q :=
  ⟨fun c => absurd c (by rw [tl]; omega), fun _ => ⟨fun c => absurd c (by rw [tl]; omega), fun _ => k⟩⟩
theorem m_in_f {σ : zMem} {a b d : Int32} {Q : Int32 → zMem → Prop} (h : ¬ (b.toInt ≤ a.toInt ∧ a.toInt ≤ d.toInt)) (k : Q 0 σ) : vc_X11_in σ a b d Q :=
  ⟨fun _ => k, fun c => ⟨fun _ => k, fun c2 => absurd h (by rw [tl] at c c2; omega)⟩⟩
theorem m_isPlot_t {σ : zMem} {a : Int32} {Q : Int32 → zMem → Prop} (h : vp_in a 24) (k : Q 1 σ) : vc_X11_isPlot σ a Q := by
  rw [vp_in_iff] at h
  have e0 : (0 : Int32).toInt = 0 := rfl
  have e1 : (23 : Int32).toInt = 23 := rfl
  exact m_in_t (by omega) ⟨Or.inr rfl, k⟩
theorem m_isPlot_f {σ : zMem} {a : Int32} {Q : Int32 → zMem → Prop} (h : ¬ vp_in a 24) (k : Q 0 σ) : vc_X11_isPlot σ a Q := by
  rw [vp_in_iff] at h
  have e0 : (0 : Int32).toInt = 0 := rfl
  have e1 : (23 : Int32).toInt = 23 := rfl
  exact m_in_f (by omega) ⟨Or.inl rfl, k⟩
theorem m_isShelf_t {σ : zMem} {a : Int32} {Q : Int32 → zMem → Prop} (h : vp_in a 8) (k : Q 1 σ) : vc_X11_isShelf σ a Q := by
  rw [vp_in_iff] at h
  have e0 : (0 : Int32).toInt = 0 := rfl
  have e1 : (7 : Int32).toInt = 7 := rfl
  exact m_in_t (by omega) ⟨Or.inr rfl, k⟩
theorem m_isShelf_f {σ : zMem} {a : Int32} {Q : Int32 → zMem → Prop} (h : ¬ vp_in a 8) (k : Q 0 σ) : vc_X11_isShelf σ a Q := by
  rw [vp_in_iff] at h
  have e0 : (0 : Int32).toInt = 0 := rfl
  have e1 : (7 : Int32).toInt = 7 := rfl
  exact m_in_f (by omega) ⟨Or.inl rfl, k⟩
theorem p_isBuyer_t {σ : zMem} {a : Int32} {nb : Nat} {Q : Int32 → zMem → Prop} (hb : σ 0 0 8 = nI nb) (hn : nb ≤ 10) (h : vp_in a nb) (k : Q 1 σ) : vc_X10_isBuyer σ a Q := by
  rw [vp_in_iff] at h
  have e0 : (0 : Int32).toInt = 0 := rfl
  have e1 : (nI nb).toInt = nb := ti (by omega)
  exact ⟨fun c => absurd c (by rw [tl]; omega), fun _ => ⟨fun c => absurd c (by rw [te, hb]; omega), fun _ => k⟩⟩
theorem p_isBuyer_f {σ : zMem} {a : Int32} {nb : Nat} {Q : Int32 → zMem → Prop} (hb : σ 0 0 8 = nI nb) (hn : nb ≤ 10) (h : ¬ vp_in a nb) (k : Q 0 σ) : vc_X10_isBuyer σ a Q := by
  rw [vp_in_iff] at h
  have e0 : (0 : Int32).toInt = 0 := rfl
  have e1 : (nI nb).toInt = nb := ti (by omega)
  exact ⟨fun _ => k, fun c => ⟨fun _ => k, fun c2 => absurd h (by rw [tl] at c; rw [te, hb] at c2; omega)⟩⟩
theorem pred_toInt {nb : Nat} (hn : nb ≤ 10) : (nI nb - 1).toInt = (nb : Int) - 1 := by
  have h := pk_sub_toInt (a := nb) (b := 1) (by omega) (by omega)
  exact h
theorem m_isBuyer_t {σ : zMem} {a : Int32} {nb : Nat} {Q : Int32 → zMem → Prop} (hb : σ 22 0 9 = nI nb) (hn : nb ≤ 10) (h : vp_in a nb) (k : Q 1 σ) : vc_X11_isBuyer σ a Q := by
  rw [vp_in_iff] at h
  have e0 : (0 : Int32).toInt = 0 := rfl
  have e1 := pred_toInt hn
  exact m_in_t (by rw [hb]; omega) ⟨Or.inr rfl, k⟩
theorem m_isBuyer_f {σ : zMem} {a : Int32} {nb : Nat} {Q : Int32 → zMem → Prop} (hb : σ 22 0 9 = nI nb) (hn : nb ≤ 10) (h : ¬ vp_in a nb) (k : Q 0 σ) : vc_X11_isBuyer σ a Q := by
  rw [vp_in_iff] at h
  have e0 : (0 : Int32).toInt = 0 := rfl
  have e1 := pred_toInt hn
  exact m_in_f (by rw [hb]; omega) ⟨Or.inl rfl, k⟩
/-- branches on a number that is known -/
theorem k1 {A B : Prop} (h : B) : ((1 : Int32) = 0 → A) ∧ (¬ (1 : Int32) = 0 → B) := ⟨fun c => absurd c (by decide), fun _ => h⟩
theorem k1' {A B : Prop} (h : A) : (¬ (1 : Int32) = 0 → A) ∧ ((1 : Int32) = 0 → B) := ⟨fun _ => h, fun c => absurd c (by decide)⟩
theorem k0 {A B : Prop} (h : A) : ((0 : Int32) = 0 → A) ∧ (¬ (0 : Int32) = 0 → B) := ⟨fun _ => h, fun c => absurd rfl c⟩
theorem k0' {A B : Prop} (h : B) : (¬ (0 : Int32) = 0 → A) ∧ ((0 : Int32) = 0 → B) := ⟨fun c => absurd rfl c, fun _ => h⟩
theorem kt {c A B : Prop} (hc : c) (h : A) : (c → A) ∧ (¬ c → B) := ⟨fun _ => h, fun z => absurd hc z⟩
theorem kt' {c A B : Prop} (hc : c) (h : B) : (¬ c → A) ∧ (c → B) := ⟨fun z => absurd hc z, fun _ => h⟩
theorem kf {c A B : Prop} (hc : ¬ c) (h : B) : (c → A) ∧ (¬ c → B) := ⟨fun z => absurd z hc, fun _ => h⟩
theorem kf' {c A B : Prop} (hc : ¬ c) (h : A) : (¬ c → A) ∧ (c → B) := ⟨fun _ => h, fun z => absurd z hc⟩
/-- sums of 32-bit numbers -/
def sm (f : Nat → Int32) : Nat → Int32
  | 0 => 0
  | n + 1 => sm f n + f n
theorem sm_congr {f g : Nat → Int32} : ∀ {n : Nat}, (∀ k, k < n → f k = g k) → sm f n = sm g n
  | 0, _ => rfl
  | n + 1, h => by rw [sm, sm, sm_congr (fun k hk => h k (by omega)), h n (by omega)]
theorem sm_zero {f : Nat → Int32} : ∀ {n : Nat}, (∀ k, k < n → f k = 0) → sm f n = 0
  | 0, _ => rfl
  | n + 1, h => by rw [sm, sm_zero (fun k hk => h k (by omega)), h n (by omega)]; rfl
theorem sm_upd {f g : Nat → Int32} {p : Nat} {d : Int32} : ∀ {n : Nat}, p < n → (∀ k, k < n → k ≠ p → g k = f k) → g p = f p + d → sm g n = sm f n + d
  | 0, h, _, _ => absurd h (by omega)
  | n + 1, h, h1, h2 => by
    rw [sm, sm]
    by_cases hp : p = n
    · subst hp
      rw [h2, sm_congr (f := g) (g := f) (fun k hk => h1 k (by omega) (by omega)), Int32.add_assoc]
    · rw [sm_upd (by omega) (fun k hk => h1 k (by omega)) h2, h1 n (by omega) (by omega), Int32.add_assoc, Int32.add_assoc, Int32.add_comm d]
/-- what of the memory lives on from call to call -/
def ps (q j : Nat) : Bool := match q with
  | 12 => false
  | 13 => false
  | 14 => false
  | 15 => false
  | 16 => false
  | 17 => false
  | 18 => false
  | 19 => false
  | 20 => false
  | 21 => false
  | 22 => j == 9 || j == 16 || j == 21
  | 37 => false
  | 38 => false
  | 40 => false
  | 41 => false
  | 42 => false
  | 43 => false
  | 44 => false
  | 45 => false
  | 46 => false
  | 47 => false
  | 48 => false
  | 55 => false
  | _ => true
def Same (σ σ' : zMem) : Prop := ∀ q i j, ps q j = true → σ' q i j = σ q i j
theorem Same.rf {σ : zMem} : Same σ σ := fun _ _ _ _ => rfl
theorem Same.tr {σ σ' σ'' : zMem} (h : Same σ σ') (h' : Same σ' σ'') : Same σ σ'' := fun q i j z => (h' q i j z).trans (h q i j z)
theorem Same.um {σ σ' : zMem} (h : Same σ σ') {q i j : Nat} {v : Int32} (hq : ps q j = false) : Same σ (um σ' q i j v) := fun q' i' j' z => by
  rw [um_n σ' v (fun e => by obtain ⟨e1, e2, e3⟩ := e; subst e1; subst e3; rw [hq] at z; cases z)]
  exact h q' i' j' z
def debt (σ : zMem) (b : Nat) : Int32 := sm (fun p => if σ 25 0 p = 0 then 0 else if σ 26 0 p = nI b then σ 27 0 p else 0) 24
def iP (σ : zMem) : Prop := ∀ p, p < 24 →
  (∃ k, k < 4 ∧ σ 4 p 0 = nI k ∧ σ 4 p 1 = nI k ∧ σ 23 0 p = nI k) ∧
  (∃ g, g ≤ 200 ∧ σ 4 p 2 = nI g ∧ σ 24 0 p = nI g) ∧
  ((σ 25 0 p = 0 ∧ σ 4 p 3 = -2 ∧ σ 4 p 4 = -2 ∧ σ 29 0 p = 0 ∧ σ 4 p 5 = -2) ∨
   (σ 25 0 p = 1 ∧ (∃ o nb, o < nb ∧ nb ≤ 10 ∧ σ 0 0 8 = nI nb ∧ σ 4 p 3 = nI o ∧ σ 26 0 p = nI o) ∧ σ 4 p 4 = σ 27 0 p ∧
     ((σ 29 0 p = 0 ∧ σ 4 p 5 = -2) ∨ (σ 29 0 p = 1 ∧ ∃ d, d ≤ 30 ∧ σ 4 p 5 = nI d ∧ σ 30 0 p = nI d))))
def iB (σ : zMem) : Prop := ∃ nb, nb ≤ 10 ∧ σ 0 0 8 = nI nb ∧ σ 22 0 9 = nI nb ∧ ∀ b, b < 10 →
  (b < nb → σ 6 b 0 = σ 31 0 b ∧ σ 6 b 1 = σ 32 0 b ∧ (∃ h, h < 24 ∧ σ 6 b 2 = nI h ∧ σ 33 0 b = nI h) ∧ σ 6 b 4 = σ 36 0 b ∧ (zbool (σ 6 b 5) ∧ σ 6 b 5 = σ 34 0 b) ∧ (σ 6 b 6 = σ 35 0 b ∧ (σ 6 b 6 = -2 ∨ ∃ o, o < nb ∧ σ 6 b 6 = nI o)) ∧ σ 6 b 3 = debt σ b) ∧
  (nb ≤ b → σ 6 b 3 = 0 ∧ σ 6 b 4 = 0 ∧ σ 6 b 5 = 0 ∧ σ 6 b 6 = -2)
def iD (σ : zMem) : Prop := (∃ s, 1 ≤ s ∧ s ≤ 100 ∧ σ 0 0 9 = nI s ∧ σ 22 0 16 = nI s) ∧ (∃ t, t ≤ 30 ∧ σ 0 0 10 = nI t ∧ σ 22 0 21 = nI t) ∧ (∀ d, d < 31 → σ 11 0 d = σ 39 0 d ∧ zbool (σ 11 0 d))
def iR (σ : zMem) : Prop := σ 0 0 11 = sm (fun p => if σ 25 0 p = 0 then 0 else σ 27 0 p - σ 28 0 p) 24
def iS (σ : zMem) : Prop := ∀ d, d < 8 → σ 8 d 0 = σ 49 0 d ∧
  (σ 8 d 0 = 0 ∨ (σ 8 d 0 = 1 ∧ σ 8 d 1 = σ 50 0 d ∧ (∃ k, k < 4 ∧ σ 8 d 2 = nI k ∧ σ 51 0 d = nI k) ∧ σ 8 d 3 = σ 52 0 d) ∨
   ((σ 8 d 0 = 3 ∨ σ 8 d 0 = 4) ∧ ∃ n, n ≤ 60 ∧ σ 8 d 6 = nI n ∧ σ 53 0 d = nI n ∧ ∀ j, j < n → (σ 8 d 0 = 3 → σ 9 d j = σ 54 0 (60 * d + j)) ∧ (σ 8 d 0 = 4 → σ 10 d j = σ 54 0 (60 * d + j) ∧ (σ 10 d j).toInt8.toInt32 = σ 10 d j)))
def Inv (σ : zMem) : Prop := iP σ ∧ iB σ ∧ iD σ ∧ iR σ ∧ iS σ
theorem Inv_same {σ σ' : zMem} (h : Same σ σ') (hI : Inv σ) : Inv σ' := by
  have e0 : ∀ i j, σ' 0 i j = σ 0 i j := fun i j => h 0 i j rfl
  have e4 : ∀ i j, σ' 4 i j = σ 4 i j := fun i j => h 4 i j rfl
  have e6 : ∀ i j, σ' 6 i j = σ 6 i j := fun i j => h 6 i j rfl
  have e8 : ∀ i j, σ' 8 i j = σ 8 i j := fun i j => h 8 i j rfl
  have e9 : ∀ i j, σ' 9 i j = σ 9 i j := fun i j => h 9 i j rfl
  have e10 : ∀ i j, σ' 10 i j = σ 10 i j := fun i j => h 10 i j rfl
  have e11 : ∀ i j, σ' 11 i j = σ 11 i j := fun i j => h 11 i j rfl
  have m9 : σ' 22 0 9 = σ 22 0 9 := h 22 0 9 rfl
  have m16 : σ' 22 0 16 = σ 22 0 16 := h 22 0 16 rfl
  have m21 : σ' 22 0 21 = σ 22 0 21 := h 22 0 21 rfl
  have e23 : ∀ i j, σ' 23 i j = σ 23 i j := fun i j => h 23 i j rfl
  have e24 : ∀ i j, σ' 24 i j = σ 24 i j := fun i j => h 24 i j rfl
  have e25 : ∀ i j, σ' 25 i j = σ 25 i j := fun i j => h 25 i j rfl
  have e26 : ∀ i j, σ' 26 i j = σ 26 i j := fun i j => h 26 i j rfl
  have e27 : ∀ i j, σ' 27 i j = σ 27 i j := fun i j => h 27 i j rfl
  have e28 : ∀ i j, σ' 28 i j = σ 28 i j := fun i j => h 28 i j rfl
  have e29 : ∀ i j, σ' 29 i j = σ 29 i j := fun i j => h 29 i j rfl
  have e30 : ∀ i j, σ' 30 i j = σ 30 i j := fun i j => h 30 i j rfl
  have e31 : ∀ i j, σ' 31 i j = σ 31 i j := fun i j => h 31 i j rfl
  have e32 : ∀ i j, σ' 32 i j = σ 32 i j := fun i j => h 32 i j rfl
  have e33 : ∀ i j, σ' 33 i j = σ 33 i j := fun i j => h 33 i j rfl
  have e34 : ∀ i j, σ' 34 i j = σ 34 i j := fun i j => h 34 i j rfl
  have e35 : ∀ i j, σ' 35 i j = σ 35 i j := fun i j => h 35 i j rfl
  have e36 : ∀ i j, σ' 36 i j = σ 36 i j := fun i j => h 36 i j rfl
  have e39 : ∀ i j, σ' 39 i j = σ 39 i j := fun i j => h 39 i j rfl
  have e49 : ∀ i j, σ' 49 i j = σ 49 i j := fun i j => h 49 i j rfl
  have e50 : ∀ i j, σ' 50 i j = σ 50 i j := fun i j => h 50 i j rfl
  have e51 : ∀ i j, σ' 51 i j = σ 51 i j := fun i j => h 51 i j rfl
  have e52 : ∀ i j, σ' 52 i j = σ 52 i j := fun i j => h 52 i j rfl
  have e53 : ∀ i j, σ' 53 i j = σ 53 i j := fun i j => h 53 i j rfl
  have e54 : ∀ i j, σ' 54 i j = σ 54 i j := fun i j => h 54 i j rfl
  unfold Inv iP iB iD iR iS debt at hI ⊢
  simp only [e0, e4, e6, e8, e9, e10, e11, m9, m16, m21, e23, e24, e25, e26, e27, e28, e29, e30, e31, e32, e33, e34, e35, e36, e39, e49, e50, e51, e52, e53, e54]
  exact hI
