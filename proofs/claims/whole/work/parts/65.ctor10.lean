/-! the class's own constructor -/
def dev (ct : Nat → Nat → va_E) (T A1 A3 A5 A7 : va_E) : Nat → Nat → va_E := cu (cu (cu (cu (cu ct 0 0 T) 1 0 A1) 3 0 A3) 5 0 A5) 7 0 A7
theorem dev_0 (ct : Nat → Nat → va_E) (T A1 A3 A5 A7 T' : va_E) : cu (dev ct T A1 A3 A5 A7) 0 0 T' = dev ct T' A1 A3 A5 A7 := by
  funext a b
  unfold dev cu
  by_cases h : a = 0 ∧ b = 0
  · simp [h]
  · simp [h]
theorem dev_1 (ct : Nat → Nat → va_E) (T A1 A3 A5 A7 T' : va_E) : cu (dev ct T A1 A3 A5 A7) 1 0 T' = dev ct T T' A3 A5 A7 := by
  funext a b
  unfold dev cu
  by_cases h : a = 1 ∧ b = 0
  · simp [h]
  · simp [h]
theorem dev_3 (ct : Nat → Nat → va_E) (T A1 A3 A5 A7 T' : va_E) : cu (dev ct T A1 A3 A5 A7) 3 0 T' = dev ct T A1 T' A5 A7 := by
  funext a b
  unfold dev cu
  by_cases h : a = 3 ∧ b = 0
  · simp [h]
  · simp [h]
theorem dev_5 (ct : Nat → Nat → va_E) (T A1 A3 A5 A7 T' : va_E) : cu (dev ct T A1 A3 A5 A7) 5 0 T' = dev ct T A1 A3 T' A7 := by
  funext a b
  unfold dev cu
  by_cases h : a = 5 ∧ b = 0
  · simp [h]
  · simp [h]
theorem dev_7 (ct : Nat → Nat → va_E) (T A1 A3 A5 A7 T' : va_E) : cu (dev ct T A1 A3 A5 A7) 7 0 T' = dev ct T A1 A3 A5 T' := by
  funext a b
  unfold dev cu
  by_cases h : a = 7 ∧ b = 0
  · simp [h]
  · simp [h]
def fJ (a : Nat → Nat) (j : Nat) : Nat → Option Nat := fun k => if k < j then some (a k) else none
theorem fJ_0 (a : Nat → Nat) : fJ a 0 = fun _ => none := rfl
theorem fJ_up (a : Nat → Nat) {j : Nat} (hj : j < 2147483648) : va_up (fJ a j) (nI j).toNatClampNeg (some (a j)) = fJ a (j + 1) := by
  funext k
  rw [cl hj]
  simp only [va_up, fJ]
  by_cases h : k = j
  · rw [if_pos h, if_pos (by omega), h]
  · rw [if_neg h]
    by_cases h2 : k < j
    · rw [if_pos h2, if_pos (by omega)]
    · rw [if_neg h2, if_neg (by omega)]
abbrev rA (E : bE) (t0 N : Nat) (f : Nat → Option Nat) : va_E := .inl (E.2.1 t0, N, .inr (.inr (.inr (.inr f))))
theorem bP_irr {E : bE} {n : Nat} {ct ct' : Nat → Nat → va_E} {H : Heap} (h : bP E (n, ct) H) (he : ∀ q i : Nat, (q, i) ∈ zL → off q i < n → ct q i = ct' q i) : bP E (n, ct') H := bP_of h.1 (fun q i hm ho => by
  have h1 := bP_get h hm ho
  rw [show (n, ct).2 q i = ct' q i from he q i hm ho] at h1
  exact h1)
theorem arr_congr {cA : ClassId} {N : Nat} {f g : Nat → Option Nat} (h : ∀ k, k < N → f k = g k) : vp_cell cA (N, .inr (.inr (.inr (.inr f)))) = vp_cell cA (N, .inr (.inr (.inr (.inr g)))) := by
  rw [vp_cell_q, vp_cell_q]
  unfold arrV
  have e : (fun j : Fin N => va_rf (f j.val)) = (fun j : Fin N => va_rf (g j.val)) := by
    funext j
    rw [h j.val j.isLt]
  rw [e]
/-- the arrays of objects, filled: as if they went on -/
theorem bP_fin {E : bE} {H : Heap} (h : bP E (78, dev (fin E) (fin E 0 0) (rA E 3 4 (fJ (bad E 2) 4)) (rA E 4 24 (fJ (bad E 4) 24)) (rA E 5 10 (fJ (bad E 6) 10)) (rA E 6 8 (fJ (bad E 8) 8))) H) : bP E (78, fin E) H := by
  refine bP_of h.1 (fun q i hm ho => ?_)
  have h1 := bP_get h hm ho
  have key : ∀ (a : Nat) (t0 N : Nat) (g : Nat → Nat), va_at E.1 vwCl (a, rA E t0 N (fJ g N)) H → va_at E.1 vwCl (a, rA E t0 N (fun j => some (g j))) H := by
    intro a t0 N g h2
    show H[a]? = some (vp_cell _ _)
    have h3 : H[a]? = some (vp_cell (E.2.1 t0) (N, .inr (.inr (.inr (.inr (fJ g N)))))) := h2
    rw [h3, arr_congr (fun k hk => by rw [fJ, if_pos hk])]
  show va_at E.1 vwCl (bad E q i, fin E q i) H
  have h2 : va_at E.1 vwCl (bad E q i, dev (fin E) (fin E 0 0) (rA E 3 4 (fJ (bad E 2) 4)) (rA E 4 24 (fJ (bad E 4) 24)) (rA E 5 10 (fJ (bad E 6) 10)) (rA E 6 8 (fJ (bad E 8) 8)) q i) H := h1
  unfold dev at h2
  by_cases h7 : q = 7 ∧ i = 0
  · obtain ⟨rfl, rfl⟩ := h7
    rw [cu_s] at h2
    exact key _ _ _ _ h2
  rw [cu_n _ _ h7] at h2
  by_cases h5 : q = 5 ∧ i = 0
  · obtain ⟨rfl, rfl⟩ := h5
    rw [cu_s] at h2
    exact key _ _ _ _ h2
  rw [cu_n _ _ h5] at h2
  by_cases h3 : q = 3 ∧ i = 0
  · obtain ⟨rfl, rfl⟩ := h3
    rw [cu_s] at h2
    exact key _ _ _ _ h2
  rw [cu_n _ _ h3] at h2
  by_cases h1' : q = 1 ∧ i = 0
  · obtain ⟨rfl, rfl⟩ := h1'
    rw [cu_s] at h2
    exact key _ _ _ _ h2
  rw [cu_n _ _ h1'] at h2
  by_cases h0 : q = 0 ∧ i = 0
  · obtain ⟨rfl, rfl⟩ := h0
    rw [cu_s] at h2
    exact h2
  rw [cu_n _ _ h0] at h2
  exact h2
theorem off1 : ∀ q ∈ zL, off q.1 q.2 < 1 → q = (0, 0) := by decide +kernel
theorem zcX10_39 : zWs RX10 39 yX6_init cX6_init 1 none 0 := ⟨(zr3 _ (List.mem_of_getElem? (i := 7) rfl)), (zr3 _ (List.mem_of_getElem? (i := 5) rfl)), (zr2 _ (List.mem_of_getElem? (i := 1) rfl)), by decide +kernel⟩
theorem znX10_39 : yX6_init.name = "<init>" ∧ Cond.instanceMethod yX6_init ∈ zTB := ⟨rfl, (zr3 _ (List.mem_of_getElem? (i := 6) rfl))⟩
theorem zcX10_46 : zWs RX10 46 yX8_init cX8_init 1 none 0 := ⟨(zr3 _ (List.mem_of_getElem? (i := 15) rfl)), (zr3 _ (List.mem_of_getElem? (i := 13) rfl)), (zr2 _ (List.mem_of_getElem? (i := 5) rfl)), by decide +kernel⟩
theorem znX10_46 : yX8_init.name = "<init>" ∧ Cond.instanceMethod yX8_init ∈ zTB := ⟨rfl, (zr3 _ (List.mem_of_getElem? (i := 14) rfl))⟩
theorem zcX10_53 : zWs RX10 53 yX4_init cX4_init 1 none 0 := ⟨(zr3 _ (List.mem_of_getElem? (i := 21) rfl)), (zr3 _ (List.mem_of_getElem? (i := 19) rfl)), (zr2 _ (List.mem_of_getElem? (i := 9) rfl)), by decide +kernel⟩
theorem znX10_53 : yX4_init.name = "<init>" ∧ Cond.instanceMethod yX4_init ∈ zTB := ⟨rfl, (zr3 _ (List.mem_of_getElem? (i := 20) rfl))⟩
theorem zcX10_62 : zWs RX10 62 yX1_init cX1_init 1 none 0 := ⟨(zr4 _ (List.mem_of_getElem? (i := 4) rfl)), (zr4 _ (List.mem_of_getElem? (i := 2) rfl)), (zr2 _ (List.mem_of_getElem? (i := 13) rfl)), by decide +kernel⟩
theorem znX10_62 : yX1_init.name = "<init>" ∧ Cond.instanceMethod yX1_init ∈ zTB := ⟨rfl, (zr4 _ (List.mem_of_getElem? (i := 3) rfl))⟩
theorem zcX10_65 : zWs RX10 65 yX9_init cX9_init 1 none 0 := ⟨(zr4 _ (List.mem_of_getElem? (i := 8) rfl)), (zr4 _ (List.mem_of_getElem? (i := 6) rfl)), (zr2 _ (List.mem_of_getElem? (i := 16) rfl)), by decide +kernel⟩
theorem znX10_65 : yX9_init.name = "<init>" ∧ Cond.instanceMethod yX9_init ∈ zTB := ⟨rfl, (zr4 _ (List.mem_of_getElem? (i := 7) rfl))⟩
theorem zcX10_68 : zWs RX10 68 yX2_init cX2_init 1 none 0 := ⟨(zr4 _ (List.mem_of_getElem? (i := 12) rfl)), (zr4 _ (List.mem_of_getElem? (i := 10) rfl)), (zr2 _ (List.mem_of_getElem? (i := 19) rfl)), by decide +kernel⟩
theorem znX10_68 : yX2_init.name = "<init>" ∧ Cond.instanceMethod yX2_init ∈ zTB := ⟨rfl, (zr4 _ (List.mem_of_getElem? (i := 11) rfl))⟩
theorem zcX10_71 : zWs RX10 71 yX3_init cX3_init 1 none 0 := ⟨(zr4 _ (List.mem_of_getElem? (i := 16) rfl)), (zr4 _ (List.mem_of_getElem? (i := 14) rfl)), (zr2 _ (List.mem_of_getElem? (i := 22) rfl)), by decide +kernel⟩
theorem znX10_71 : yX3_init.name = "<init>" ∧ Cond.instanceMethod yX3_init ∈ zTB := ⟨rfl, (zr4 _ (List.mem_of_getElem? (i := 15) rfl))⟩
theorem zcX10_72 : zWs RX10 72 yX5_init cX5_init 2 none 1 := ⟨(zr4 _ (List.mem_of_getElem? (i := 20) rfl)), (zr4 _ (List.mem_of_getElem? (i := 18) rfl)), (zr3 _ (List.mem_of_getElem? (i := 0) rfl)), by decide +kernel⟩
theorem znX10_72 : yX5_init.name = "<init>" ∧ Cond.instanceMethod yX5_init ∈ zTB := ⟨rfl, (zr4 _ (List.mem_of_getElem? (i := 19) rfl))⟩
theorem zcX10_75 : zWs RX10 75 yX0_init cX0_init 1 none 0 := ⟨(zr5 _ (List.mem_of_getElem? (i := 4) rfl)), (zr5 _ (List.mem_of_getElem? (i := 2) rfl)), (zr3 _ (List.mem_of_getElem? (i := 2) rfl)), by decide +kernel⟩
theorem znX10_75 : yX0_init.name = "<init>" ∧ Cond.instanceMethod yX0_init ∈ zTB := ⟨rfl, (zr5 _ (List.mem_of_getElem? (i := 3) rfl))⟩
theorem zcX10_76 : zWs RX10 76 yX7_init cX7_init 2 none 1 := ⟨(zr5 _ (List.mem_of_getElem? (i := 9) rfl)), (zr5 _ (List.mem_of_getElem? (i := 7) rfl)), (zr3 _ (List.mem_of_getElem? (i := 4) rfl)), by decide +kernel⟩
theorem znX10_76 : yX7_init.name = "<init>" ∧ Cond.instanceMethod yX7_init ∈ zTB := ⟨rfl, (zr5 _ (List.mem_of_getElem? (i := 8) rfl))⟩
theorem zkX10_37 : Cond.classLink RX10 37 RX6 ∈ zTB ∧ Cond.instantiable RX6 6 ∈ zTB ∧ Cond.initialized RX6 ∈ zTB := ⟨(zr1 _ (List.mem_of_getElem? (i := 23) rfl)), (zr2 _ (List.mem_of_getElem? (i := 0) rfl)), (zr2 _ (List.mem_of_getElem? (i := 1) rfl))⟩
theorem zkX10_44 : Cond.classLink RX10 44 RX8 ∈ zTB ∧ Cond.instantiable RX8 2 ∈ zTB ∧ Cond.initialized RX8 ∈ zTB := ⟨(zr2 _ (List.mem_of_getElem? (i := 3) rfl)), (zr2 _ (List.mem_of_getElem? (i := 4) rfl)), (zr2 _ (List.mem_of_getElem? (i := 5) rfl))⟩
theorem zkX10_51 : Cond.classLink RX10 51 RX4 ∈ zTB ∧ Cond.instantiable RX4 3 ∈ zTB ∧ Cond.initialized RX4 ∈ zTB := ⟨(zr2 _ (List.mem_of_getElem? (i := 7) rfl)), (zr2 _ (List.mem_of_getElem? (i := 8) rfl)), (zr2 _ (List.mem_of_getElem? (i := 9) rfl))⟩
theorem zkX10_9 : Cond.classLink RX10 9 RX1 ∈ zTB ∧ Cond.instantiable RX1 0 ∈ zTB ∧ Cond.initialized RX1 ∈ zTB := ⟨(zr1 _ (List.mem_of_getElem? (i := 13) rfl)), (zr2 _ (List.mem_of_getElem? (i := 12) rfl)), (zr2 _ (List.mem_of_getElem? (i := 13) rfl))⟩
theorem zkX10_63 : Cond.classLink RX10 63 RX9 ∈ zTB ∧ Cond.instantiable RX9 0 ∈ zTB ∧ Cond.initialized RX9 ∈ zTB := ⟨(zr2 _ (List.mem_of_getElem? (i := 14) rfl)), (zr2 _ (List.mem_of_getElem? (i := 15) rfl)), (zr2 _ (List.mem_of_getElem? (i := 16) rfl))⟩
theorem zkX10_66 : Cond.classLink RX10 66 RX2 ∈ zTB ∧ Cond.instantiable RX2 0 ∈ zTB ∧ Cond.initialized RX2 ∈ zTB := ⟨(zr2 _ (List.mem_of_getElem? (i := 17) rfl)), (zr2 _ (List.mem_of_getElem? (i := 18) rfl)), (zr2 _ (List.mem_of_getElem? (i := 19) rfl))⟩
theorem zkX10_69 : Cond.classLink RX10 69 RX3 ∈ zTB ∧ Cond.instantiable RX3 0 ∈ zTB ∧ Cond.initialized RX3 ∈ zTB := ⟨(zr2 _ (List.mem_of_getElem? (i := 20) rfl)), (zr2 _ (List.mem_of_getElem? (i := 21) rfl)), (zr2 _ (List.mem_of_getElem? (i := 22) rfl))⟩
theorem zkX10_15 : Cond.classLink RX10 15 RX5 ∈ zTB ∧ Cond.instantiable RX5 6 ∈ zTB ∧ Cond.initialized RX5 ∈ zTB := ⟨(zr1 _ (List.mem_of_getElem? (i := 15) rfl)), (zr2 _ (List.mem_of_getElem? (i := 23) rfl)), (zr3 _ (List.mem_of_getElem? (i := 0) rfl))⟩
theorem zkX10_21 : Cond.classLink RX10 21 RX0 ∈ zTB ∧ Cond.instantiable RX0 7 ∈ zTB ∧ Cond.initialized RX0 ∈ zTB := ⟨(zr1 _ (List.mem_of_getElem? (i := 17) rfl)), (zr3 _ (List.mem_of_getElem? (i := 1) rfl)), (zr3 _ (List.mem_of_getElem? (i := 2) rfl))⟩
theorem zkX10_27 : Cond.classLink RX10 27 RX7 ∈ zTB ∧ Cond.instantiable RX7 7 ∈ zTB ∧ Cond.initialized RX7 ∈ zTB := ⟨(zr1 _ (List.mem_of_getElem? (i := 19) rfl)), (zr3 _ (List.mem_of_getElem? (i := 3) rfl)), (zr3 _ (List.mem_of_getElem? (i := 4) rfl))⟩
section BC10
variable {p : Program} {l : Launch} {e : Env} {s : State} {m : MethodId} {args : Array Value} {below : List Frame} {meth : Method} {c : Code} {E : bE} {Q : State → Prop} {T A1 A3 A5 A7 : va_E}
theorem zm2 {i : Nat} (h : i < 4) : (2, i) ∈ zL := zL_mem (by decide) h
theorem zm4 {i : Nat} (h : i < 24) : (4, i) ∈ zL := zL_mem (by decide) h
theorem zm6 {i : Nat} (h : i < 10) : (6, i) ∈ zL := zL_mem (by decide) h
theorem zm8 {i : Nat} (h : i < 8) : (8, i) ∈ zL := zL_mem (by decide) h
abbrev Tf (E : bE) : List Value := [.ref (bad E 1 0), .ref (bad E 3 0), .ref (bad E 5 0), .ref (bad E 7 0), .ref (bad E 11 0), .ref (bad E 12 0), .ref (bad E 15 0), .ref (bad E 18 0), .int 0, .int 5, .int 0, .int 0]
set_option maxHeartbeats 4000000 in
theorem bl_plots (C : bX p s m args c cX10_init 2 RX10 E) (k : bG p l e (bRm 4 77 1416 80) s m args below meth c 2 E 43 330 Q (44, dev (fin E) (.inr (10, Tf E)) (rA E 3 4 (fJ (bad E 2) 4)) (rA E 4 24 (fJ (bad E 4) 24)) A5 A7) 170 [(1, .int (nI 24)), (0, .ref (bad E 0 0))] []) : ∀ f j, j + f = 24 → bG p l e (bRm 4 77 1416 80) s m args below meth c 2 E (19 + j) (186 + 6 * j) Q (20 + j, dev (fin E) (.inr (10, Tf E)) (rA E 3 4 (fJ (bad E 2) 4)) (rA E 4 24 (fJ (bad E 4) j)) A5 A7) 139 [(1, .int (nI j)), (0, .ref (bad E 0 0))] [] := by
  intro f
  induction f with
  | zero =>
    intro j hj
    obtain rfl : j = 24 := by omega
    refine b_iload_n (pc' := 140) C dX10_init_139 rfl 0 rfl rfl ?_
    refine b_bipush (v := 24) (pc' := 142) C dX10_init_140 (by decide) rfl ?_
    exact b_icmp_ge (tgt := 170) (pc' := 145) C dX10_init_142 (by decide) rfl (fun _ => k) (fun z => absurd (by decide) z)
  | succ f ih =>
    intro j hj
    refine b_iload_n (pc' := 140) C dX10_init_139 rfl 0 rfl rfl ?_
    refine b_bipush (v := 24) (pc' := 142) C dX10_init_140 (by decide) rfl ?_
    refine b_icmp_ge (tgt := 170) (pc' := 145) C dX10_init_142 (by decide) rfl (fun z => absurd z (nI_ge (b := 24) (by omega) (by decide))) (fun _ => ?_)
    refine b_aload_n (pc' := 146) C dX10_init_145 rfl 1 rfl rfl ?_
    refine b_get (q := 0) (i := 0) (ci := 10) (fs := Tf E) (pc' := 149) C (zL_mem (by decide) zo0) (by show 0 < _; omega) rfl rfl ziX10 1 (by decide) (zr1 _ (List.mem_of_getElem? (i := 16) rfl)) rfl dX10_init_146 rfl ?_
    refine b_iload_n (pc' := 150) C dX10_init_149 rfl 0 rfl rfl ?_
    refine b_new (q := 4) (i := j) (ci := 5) (N := 6) (fs := [.int 0, .null, .int 0, .int 0, .int 0, .int 0]) (ct' := cu (dev (fin E) (.inr (10, Tf E)) (rA E 3 4 (fJ (bad E 2) 4)) (rA E 4 24 (fJ (bad E 4) j)) A5 A7) 4 j (.inr (5, [.int 0, .null, .int 0, .int 0, .int 0, .int 0]))) (pc' := 153) C ziX5 tyX5 tyX5_ok zkX10_15 (zm4 (by omega)) rfl rfl (by decide) (show 19 + j + 1 ≤ 77 by omega) (show 186 + 6 * j + 6 ≤ 1416 by omega) dX10_init_150 rfl rfl ?_
    refine b_dup (pc' := 154) C dX10_init_153 rfl rfl ?_
    refine b_aload_n (pc' := 155) C dX10_init_154 rfl 1 rfl rfl ?_
    refine b_get (q := 0) (i := 0) (ci := 10) (fs := Tf E) (pc' := 158) C (zL_mem (by decide) zo0) (by show 0 < _; omega) rfl rfl ziX10 0 (by decide) (zr1 _ (List.mem_of_getElem? (i := 14) rfl)) rfl dX10_init_155 rfl ?_
    refine b_iconst (v := 0) (pc' := 159) C dX10_init_158 (by decide) rfl ?_
    refine b_aald (q := 1) (i := 0) (t0 := 3) (N' := 4) (a := bad E 2 0) (f := fJ (bad E 2) 4) (pc' := 160) C (zL_mem (by decide) zo1) (by show 1 < _; omega) rfl rfl (in_nI (k := 0) (by decide) (by decide)) rfl dX10_init_159 rfl ?_
    refine b_callI (τ' := (20 + j + 1, dev (fin E) (.inr (10, Tf E)) (rA E 3 4 (fJ (bad E 2) 4)) (rA E 4 24 (fJ (bad E 4) j)) A5 A7)) (As := [.ref (bad E 2 0)]) (st := [.ref (bad E 4 j), .int (nI j), .ref (bad E 3 0)]) (pc' := 163) C (bc_X5 l E (dev (fin E) (.inr (10, Tf E)) (rA E 3 4 (fJ (bad E 2) 4)) (rA E 4 24 (fJ (bad E 4) j)) A5 A7) j (by omega) rfl) zcX10_72 znX10_72 ⟨by decide, by decide⟩ ⟨show 19 + j + 1 + 0 ≤ 77 by omega, show 186 + 6 * j + 6 + 0 ≤ 1416 by omega⟩ rfl rfl (Nat.le_of_ble_eq_true rfl) dX10_init_160 rfl ?_
    refine b_aast (q := 3) (i := 0) (t0 := 4) (N' := 24) (q2 := 4) (i2 := j) (ci := 5) (r := (RX5, TX5, 6)) (f := fJ (bad E 4) j) (ct' := dev (fin E) (.inr (10, Tf E)) (rA E 3 4 (fJ (bad E 2) 4)) (rA E 4 24 (fJ (bad E 4) (j + 1))) A5 A7) (pc' := 164) C (zL_mem (by decide) zo3) (by show 2 < _; omega) rfl rfl (zm4 (by omega)) (by show 20 + j < _; omega) rfl rfl (Or.inl rfl) (in_nI (by omega) (by decide)) dX10_init_163 rfl ((dev_3 _ _ _ _ _ _ _).trans (by rw [fJ_up (bad E 4) (by omega)])) ?_
    refine b_iinc (pc' := 167) (j := 0) (v := nI (j + 1)) (lv' := [(1, .int (nI (j + 1))), (0, .ref (bad E 0 0))]) C dX10_init_164 rfl (s1 j) (by decide) rfl rfl ?_
    refine b_goto (tgt := 139) C dX10_init_167 (by decide) ?_
    have h9 := ih (j + 1) (by omega)
    rw [show 19 + (j + 1) = 19 + j + 1 + 0 by omega, show 186 + 6 * (j + 1) = 186 + 6 * j + 6 + 0 by omega, show 20 + (j + 1) = 20 + j + 1 by omega] at h9
    exact h9
set_option maxHeartbeats 4000000 in
theorem bl_buyers (C : bX p s m args c cX10_init 2 RX10 E) (k : bG p l e (bRm 4 77 1416 80) s m args below meth c 2 E 53 400 Q (54, dev (fin E) (.inr (10, Tf E)) (rA E 3 4 (fJ (bad E 2) 4)) A3 (rA E 5 10 (fJ (bad E 6) 10)) A7) 197 [(1, .int (nI 10)), (0, .ref (bad E 0 0))] []) : ∀ f j, j + f = 10 → bG p l e (bRm 4 77 1416 80) s m args below meth c 2 E (43 + j) (330 + 7 * j) Q (44 + j, dev (fin E) (.inr (10, Tf E)) (rA E 3 4 (fJ (bad E 2) 4)) A3 (rA E 5 10 (fJ (bad E 6) j)) A7) 172 [(1, .int (nI j)), (0, .ref (bad E 0 0))] [] := by
  intro f
  induction f with
  | zero =>
    intro j hj
    obtain rfl : j = 10 := by omega
    refine b_iload_n (pc' := 173) C dX10_init_172 rfl 0 rfl rfl ?_
    refine b_bipush (v := 10) (pc' := 175) C dX10_init_173 (by decide) rfl ?_
    exact b_icmp_ge (tgt := 197) (pc' := 178) C dX10_init_175 (by decide) rfl (fun _ => k) (fun z => absurd (by decide) z)
  | succ f ih =>
    intro j hj
    refine b_iload_n (pc' := 173) C dX10_init_172 rfl 0 rfl rfl ?_
    refine b_bipush (v := 10) (pc' := 175) C dX10_init_173 (by decide) rfl ?_
    refine b_icmp_ge (tgt := 197) (pc' := 178) C dX10_init_175 (by decide) rfl (fun z => absurd z (nI_ge (b := 10) (by omega) (by decide))) (fun _ => ?_)
    refine b_aload_n (pc' := 179) C dX10_init_178 rfl 1 rfl rfl ?_
    refine b_get (q := 0) (i := 0) (ci := 10) (fs := Tf E) (pc' := 182) C (zL_mem (by decide) zo0) (by show 0 < _; omega) rfl rfl ziX10 2 (by decide) (zr1 _ (List.mem_of_getElem? (i := 18) rfl)) rfl dX10_init_179 rfl ?_
    refine b_iload_n (pc' := 183) C dX10_init_182 rfl 0 rfl rfl ?_
    refine b_new (q := 6) (i := j) (ci := 0) (N := 7) (fs := [.int 0, .int 0, .int 0, .int 0, .int 0, .int 0, .int 0]) (ct' := cu (dev (fin E) (.inr (10, Tf E)) (rA E 3 4 (fJ (bad E 2) 4)) A3 (rA E 5 10 (fJ (bad E 6) j)) A7) 6 j (.inr (0, [.int 0, .int 0, .int 0, .int 0, .int 0, .int 0, .int 0]))) (pc' := 186) C ziX0 tyX0 tyX0_ok zkX10_21 (zm6 (by omega)) rfl rfl (by decide) (show 43 + j + 1 ≤ 77 by omega) (show 330 + 7 * j + 7 ≤ 1416 by omega) dX10_init_183 rfl rfl ?_
    refine b_dup (pc' := 187) C dX10_init_186 rfl rfl ?_
    refine b_callI (τ' := (44 + j + 1, dev (fin E) (.inr (10, Tf E)) (rA E 3 4 (fJ (bad E 2) 4)) A3 (rA E 5 10 (fJ (bad E 6) j)) A7)) (As := []) (st := [.ref (bad E 6 j), .int (nI j), .ref (bad E 5 0)]) (pc' := 190) C (bc_X0 l E (dev (fin E) (.inr (10, Tf E)) (rA E 3 4 (fJ (bad E 2) 4)) A3 (rA E 5 10 (fJ (bad E 6) j)) A7) j (by omega) rfl) zcX10_75 znX10_75 ⟨by decide, by decide⟩ ⟨show 43 + j + 1 + 0 ≤ 77 by omega, show 330 + 7 * j + 7 + 0 ≤ 1416 by omega⟩ rfl rfl (Nat.le_of_ble_eq_true rfl) dX10_init_187 rfl ?_
    refine b_aast (q := 5) (i := 0) (t0 := 5) (N' := 10) (q2 := 6) (i2 := j) (ci := 0) (r := (RX0, TX0, 7)) (f := fJ (bad E 6) j) (ct' := dev (fin E) (.inr (10, Tf E)) (rA E 3 4 (fJ (bad E 2) 4)) A3 (rA E 5 10 (fJ (bad E 6) (j + 1))) A7) (pc' := 191) C (zL_mem (by decide) zo5) (by show 3 < _; omega) rfl rfl (zm6 (by omega)) (by show 44 + j < _; omega) rfl rfl (Or.inl rfl) (in_nI (by omega) (by decide)) dX10_init_190 rfl ((dev_5 _ _ _ _ _ _ _).trans (by rw [fJ_up (bad E 6) (by omega)])) ?_
    refine b_iinc (pc' := 194) (j := 0) (v := nI (j + 1)) (lv' := [(1, .int (nI (j + 1))), (0, .ref (bad E 0 0))]) C dX10_init_191 rfl (s1 j) (by decide) rfl rfl ?_
    refine b_goto (tgt := 172) C dX10_init_194 (by decide) ?_
    have h9 := ih (j + 1) (by omega)
    rw [show 43 + (j + 1) = 43 + j + 1 + 0 by omega, show 330 + 7 * (j + 1) = 330 + 7 * j + 7 + 0 by omega, show 44 + (j + 1) = 44 + j + 1 by omega] at h9
    exact h9
set_option maxHeartbeats 4000000 in
theorem bl_shelves (C : bX p s m args c cX10_init 2 RX10 E) (k : bG p l e (bRm 4 77 1416 80) s m args below meth c 2 E 77 1416 Q (78, dev (fin E) (.inr (10, Tf E)) (rA E 3 4 (fJ (bad E 2) 4)) A3 A5 (rA E 6 8 (fJ (bad E 8) 8))) 230 [(1, .int (nI 8)), (0, .ref (bad E 0 0))] []) : ∀ f j, j + f = 8 → bG p l e (bRm 4 77 1416 80) s m args below meth c 2 E (53 + 3 * j) (400 + 127 * j) Q (54 + 3 * j, dev (fin E) (.inr (10, Tf E)) (rA E 3 4 (fJ (bad E 2) 4)) A3 A5 (rA E 6 8 (fJ (bad E 8) j))) 199 [(1, .int (nI j)), (0, .ref (bad E 0 0))] [] := by
  intro f
  induction f with
  | zero =>
    intro j hj
    obtain rfl : j = 8 := by omega
    refine b_iload_n (pc' := 200) C dX10_init_199 rfl 0 rfl rfl ?_
    refine b_bipush (v := 8) (pc' := 202) C dX10_init_200 (by decide) rfl ?_
    exact b_icmp_ge (tgt := 230) (pc' := 205) C dX10_init_202 (by decide) rfl (fun _ => k) (fun z => absurd (by decide) z)
  | succ f ih =>
    intro j hj
    refine b_iload_n (pc' := 200) C dX10_init_199 rfl 0 rfl rfl ?_
    refine b_bipush (v := 8) (pc' := 202) C dX10_init_200 (by decide) rfl ?_
    refine b_icmp_ge (tgt := 230) (pc' := 205) C dX10_init_202 (by decide) rfl (fun z => absurd z (nI_ge (b := 8) (by omega) (by decide))) (fun _ => ?_)
    refine b_aload_n (pc' := 206) C dX10_init_205 rfl 1 rfl rfl ?_
    refine b_get (q := 0) (i := 0) (ci := 10) (fs := Tf E) (pc' := 209) C (zL_mem (by decide) zo0) (by show 0 < _; omega) rfl rfl ziX10 3 (by decide) (zr1 _ (List.mem_of_getElem? (i := 20) rfl)) rfl dX10_init_206 rfl ?_
    refine b_iload_n (pc' := 210) C dX10_init_209 rfl 0 rfl rfl ?_
    refine b_new (q := 8) (i := j) (ci := 7) (N := 7) (fs := [.int 0, .int 0, .null, .int 0, .null, .null, .int 0]) (ct' := cu (dev (fin E) (.inr (10, Tf E)) (rA E 3 4 (fJ (bad E 2) 4)) A3 A5 (rA E 6 8 (fJ (bad E 8) j))) 8 j (.inr (7, [.int 0, .int 0, .null, .int 0, .null, .null, .int 0]))) (pc' := 213) C ziX7 tyX7 tyX7_ok zkX10_27 (zm8 (by omega)) rfl rfl (by decide) (show 53 + 3 * j + 1 ≤ 77 by omega) (show 400 + 127 * j + 7 ≤ 1416 by omega) dX10_init_210 rfl rfl ?_
    refine b_dup (pc' := 214) C dX10_init_213 rfl rfl ?_
    refine b_aload_n (pc' := 215) C dX10_init_214 rfl 1 rfl rfl ?_
    refine b_get (q := 0) (i := 0) (ci := 10) (fs := Tf E) (pc' := 218) C (zL_mem (by decide) zo0) (by show 0 < _; omega) rfl rfl ziX10 0 (by decide) (zr1 _ (List.mem_of_getElem? (i := 14) rfl)) rfl dX10_init_215 rfl ?_
    refine b_iconst (v := 0) (pc' := 219) C dX10_init_218 (by decide) rfl ?_
    refine b_aald (q := 1) (i := 0) (t0 := 3) (N' := 4) (a := bad E 2 0) (f := fJ (bad E 2) 4) (pc' := 220) C (zL_mem (by decide) zo1) (by show 1 < _; omega) rfl rfl (in_nI (k := 0) (by decide) (by decide)) rfl dX10_init_219 rfl ?_
    refine b_callI (τ' := (54 + 3 * j + 3, dev (fin E) (.inr (10, Tf E)) (rA E 3 4 (fJ (bad E 2) 4)) A3 A5 (rA E 6 8 (fJ (bad E 8) j)))) (As := [.ref (bad E 2 0)]) (st := [.ref (bad E 8 j), .int (nI j), .ref (bad E 7 0)]) (pc' := 223) C (bc_X7 l E (dev (fin E) (.inr (10, Tf E)) (rA E 3 4 (fJ (bad E 2) 4)) A3 A5 (rA E 6 8 (fJ (bad E 8) j))) j (by omega) rfl rfl rfl) zcX10_76 znX10_76 ⟨by decide, by decide⟩ ⟨show 53 + 3 * j + 1 + 2 ≤ 77 by omega, show 400 + 127 * j + 7 + 120 ≤ 1416 by omega⟩ rfl rfl (Nat.le_of_ble_eq_true rfl) dX10_init_220 rfl ?_
    refine b_aast (q := 7) (i := 0) (t0 := 6) (N' := 8) (q2 := 8) (i2 := j) (ci := 7) (r := (RX7, TX7, 7)) (f := fJ (bad E 8) j) (ct' := dev (fin E) (.inr (10, Tf E)) (rA E 3 4 (fJ (bad E 2) 4)) A3 A5 (rA E 6 8 (fJ (bad E 8) (j + 1)))) (pc' := 224) C (zL_mem (by decide) zo7) (by show 4 < _; omega) rfl rfl (zm8 (by omega)) (by show 54 + 3 * j < _; omega) rfl rfl (Or.inl rfl) (in_nI (by omega) (by decide)) dX10_init_223 rfl ((dev_7 _ _ _ _ _ _ _).trans (by rw [fJ_up (bad E 8) (by omega)])) ?_
    refine b_iinc (pc' := 227) (j := 0) (v := nI (j + 1)) (lv' := [(1, .int (nI (j + 1))), (0, .ref (bad E 0 0))]) C dX10_init_224 rfl (s1 j) (by decide) rfl rfl ?_
    refine b_goto (tgt := 199) C dX10_init_227 (by decide) ?_
    have h9 := ih (j + 1) (by omega)
    rw [show 53 + 3 * (j + 1) = 53 + 3 * j + 1 + 2 by omega, show 400 + 127 * (j + 1) = 400 + 127 * j + 7 + 120 by omega, show 54 + 3 * (j + 1) = 54 + 3 * j + 3 by omega] at h9
    exact h9
set_option maxHeartbeats 16000000 in
theorem bc_X10 (l : Launch) (E : bE) : bC l yX10_init cX10_init 2 4 77 1416 80 E [.ref (bad E 0 0)] (1, cu (fin E) 0 0 (.inr (10, [.null, .null, .null, .null, .null, .null, .null, .null, .int 0, .int 0, .int 0, .int 0]))) (78, fin E) := by
  refine bC_of (by decide) rfl (Nat.le_of_ble_eq_true rfl) ?_
  intro p e s m args below meth c C hrt hlk hin2
  have fin9 : bG p l e (bRm 4 77 1416 80) s m args below meth c 2 E 0 0 (MQ below (va_Qv (fun _ : Unit => True) (fun _ t => bP E (78, fin E) t.heap) (bA E)) args s 77 1416 (bA E)) (1, dev (fin E) (.inr (10, [.null, .null, .null, .null, .null, .null, .null, .null, .int 0, .int 0, .int 0, .int 0])) (rA E 3 4 (fun _ => none)) (rA E 4 24 (fun _ => none)) (rA E 5 10 (fun _ => none)) (rA E 6 8 (fun _ => none))) 0 [(0, .ref (bad E 0 0))] [] := by
    refine b_aload_n (pc' := 1) C dX10_init_0 rfl 0 rfl rfl ?_
    refine b_objInit (pc' := 4) C (zr1 _ (List.mem_of_getElem? (i := 10) rfl)) (Nat.le_of_ble_eq_true rfl) (Nat.le_of_ble_eq_true rfl) dX10_init_1 rfl ?_
    refine b_aload_n (pc' := 5) C dX10_init_4 rfl 0 rfl rfl ?_
    refine b_iconst (v := 4) (pc' := 6) C dX10_init_5 (by decide) rfl ?_
    refine b_anew (q := 1) (i := 0) (t0 := 3) (N' := 4) (ct' := dev (fin E) (.inr (10, [.null, .null, .null, .null, .null, .null, .null, .null, .int 0, .int 0, .int 0, .int 0])) (rA E 3 4 (fun _ => none)) (rA E 4 24 (fun _ => none)) (rA E 5 10 (fun _ => none)) (rA E 6 8 (fun _ => none))) (pc' := 9) C zkX10_9.1 C.2.1.2.1.1 rfl (zL_mem (by decide) zo1) rfl (by decide) rfl (by decide) (Nat.le_of_ble_eq_true rfl) (Nat.le_of_ble_eq_true rfl) dX10_init_6 rfl (dev_1 _ _ _ _ _ _ _) ?_
    refine b_putF (q := 0) (i := 0) (ci := 10) (fs := [.null, .null, .null, .null, .null, .null, .null, .null, .int 0, .int 0, .int 0, .int 0]) (ct' := dev (fin E) (.inr (10, [.ref (bad E 1 0), .null, .null, .null, .null, .null, .null, .null, .int 0, .int 0, .int 0, .int 0])) (rA E 3 4 (fun _ => none)) (rA E 4 24 (fun _ => none)) (rA E 5 10 (fun _ => none)) (rA E 6 8 (fun _ => none))) (pc' := 12) C hin2 (zL_mem (by decide) zo0) (by decide) rfl rfl ziX10 tyX10 tyX10_ok nmX10 0 (by decide) (zr1 _ (List.mem_of_getElem? (i := 14) rfl)) rfl rfl rfl rfl (Nat.le_of_ble_eq_true rfl) dX10_init_9 rfl (dev_0 _ _ _ _ _ _ _) ?_
    refine b_aload_n (pc' := 13) C dX10_init_12 rfl 0 rfl rfl ?_
    refine b_bipush (v := 24) (pc' := 15) C dX10_init_13 (by decide) rfl ?_
    refine b_anew (q := 3) (i := 0) (t0 := 4) (N' := 24) (ct' := dev (fin E) (.inr (10, [.ref (bad E 1 0), .null, .null, .null, .null, .null, .null, .null, .int 0, .int 0, .int 0, .int 0])) (rA E 3 4 (fun _ => none)) (rA E 4 24 (fun _ => none)) (rA E 5 10 (fun _ => none)) (rA E 6 8 (fun _ => none))) (pc' := 18) C zkX10_15.1 C.2.1.2.1.2.1 rfl (zL_mem (by decide) zo3) rfl (by decide) rfl (by decide) (Nat.le_of_ble_eq_true rfl) (Nat.le_of_ble_eq_true rfl) dX10_init_15 rfl (dev_3 _ _ _ _ _ _ _) ?_
    refine b_putF (q := 0) (i := 0) (ci := 10) (fs := [.ref (bad E 1 0), .null, .null, .null, .null, .null, .null, .null, .int 0, .int 0, .int 0, .int 0]) (ct' := dev (fin E) (.inr (10, [.ref (bad E 1 0), .ref (bad E 3 0), .null, .null, .null, .null, .null, .null, .int 0, .int 0, .int 0, .int 0])) (rA E 3 4 (fun _ => none)) (rA E 4 24 (fun _ => none)) (rA E 5 10 (fun _ => none)) (rA E 6 8 (fun _ => none))) (pc' := 21) C hin2 (zL_mem (by decide) zo0) (by decide) rfl rfl ziX10 tyX10 tyX10_ok nmX10 1 (by decide) (zr1 _ (List.mem_of_getElem? (i := 16) rfl)) rfl rfl rfl rfl (Nat.le_of_ble_eq_true rfl) dX10_init_18 rfl (dev_0 _ _ _ _ _ _ _) ?_
    refine b_aload_n (pc' := 22) C dX10_init_21 rfl 0 rfl rfl ?_
    refine b_bipush (v := 10) (pc' := 24) C dX10_init_22 (by decide) rfl ?_
    refine b_anew (q := 5) (i := 0) (t0 := 5) (N' := 10) (ct' := dev (fin E) (.inr (10, [.ref (bad E 1 0), .ref (bad E 3 0), .null, .null, .null, .null, .null, .null, .int 0, .int 0, .int 0, .int 0])) (rA E 3 4 (fun _ => none)) (rA E 4 24 (fun _ => none)) (rA E 5 10 (fun _ => none)) (rA E 6 8 (fun _ => none))) (pc' := 27) C zkX10_21.1 C.2.1.2.1.2.2.1 rfl (zL_mem (by decide) zo5) rfl (by decide) rfl (by decide) (Nat.le_of_ble_eq_true rfl) (Nat.le_of_ble_eq_true rfl) dX10_init_24 rfl (dev_5 _ _ _ _ _ _ _) ?_
    refine b_putF (q := 0) (i := 0) (ci := 10) (fs := [.ref (bad E 1 0), .ref (bad E 3 0), .null, .null, .null, .null, .null, .null, .int 0, .int 0, .int 0, .int 0]) (ct' := dev (fin E) (.inr (10, [.ref (bad E 1 0), .ref (bad E 3 0), .ref (bad E 5 0), .null, .null, .null, .null, .null, .int 0, .int 0, .int 0, .int 0])) (rA E 3 4 (fun _ => none)) (rA E 4 24 (fun _ => none)) (rA E 5 10 (fun _ => none)) (rA E 6 8 (fun _ => none))) (pc' := 30) C hin2 (zL_mem (by decide) zo0) (by decide) rfl rfl ziX10 tyX10 tyX10_ok nmX10 2 (by decide) (zr1 _ (List.mem_of_getElem? (i := 18) rfl)) rfl rfl rfl rfl (Nat.le_of_ble_eq_true rfl) dX10_init_27 rfl (dev_0 _ _ _ _ _ _ _) ?_
    refine b_aload_n (pc' := 31) C dX10_init_30 rfl 0 rfl rfl ?_
    refine b_bipush (v := 8) (pc' := 33) C dX10_init_31 (by decide) rfl ?_
    refine b_anew (q := 7) (i := 0) (t0 := 6) (N' := 8) (ct' := dev (fin E) (.inr (10, [.ref (bad E 1 0), .ref (bad E 3 0), .ref (bad E 5 0), .null, .null, .null, .null, .null, .int 0, .int 0, .int 0, .int 0])) (rA E 3 4 (fun _ => none)) (rA E 4 24 (fun _ => none)) (rA E 5 10 (fun _ => none)) (rA E 6 8 (fun _ => none))) (pc' := 36) C zkX10_27.1 C.2.1.2.1.2.2.2 rfl (zL_mem (by decide) zo7) rfl (by decide) rfl (by decide) (Nat.le_of_ble_eq_true rfl) (Nat.le_of_ble_eq_true rfl) dX10_init_33 rfl (dev_7 _ _ _ _ _ _ _) ?_
    refine b_putF (q := 0) (i := 0) (ci := 10) (fs := [.ref (bad E 1 0), .ref (bad E 3 0), .ref (bad E 5 0), .null, .null, .null, .null, .null, .int 0, .int 0, .int 0, .int 0]) (ct' := dev (fin E) (.inr (10, [.ref (bad E 1 0), .ref (bad E 3 0), .ref (bad E 5 0), .ref (bad E 7 0), .null, .null, .null, .null, .int 0, .int 0, .int 0, .int 0])) (rA E 3 4 (fun _ => none)) (rA E 4 24 (fun _ => none)) (rA E 5 10 (fun _ => none)) (rA E 6 8 (fun _ => none))) (pc' := 39) C hin2 (zL_mem (by decide) zo0) (by decide) rfl rfl ziX10 tyX10 tyX10_ok nmX10 3 (by decide) (zr1 _ (List.mem_of_getElem? (i := 20) rfl)) rfl rfl rfl rfl (Nat.le_of_ble_eq_true rfl) dX10_init_36 rfl (dev_0 _ _ _ _ _ _ _) ?_
    refine b_aload_n (pc' := 40) C dX10_init_39 rfl 0 rfl rfl ?_
    refine b_bipush (v := 31) (pc' := 42) C dX10_init_40 (by decide) rfl ?_
    refine b_newa (q := 11) (i := 0) (t0 := 1) (N' := 31) (a0 := (31, .inl (fun _ => 0))) (ct' := dev (fin E) (.inr (10, [.ref (bad E 1 0), .ref (bad E 3 0), .ref (bad E 5 0), .ref (bad E 7 0), .null, .null, .null, .null, .int 0, .int 0, .int 0, .int 0])) (rA E 3 4 (fun _ => none)) (rA E 4 24 (fun _ => none)) (rA E 5 10 (fun _ => none)) (rA E 6 8 (fun _ => none))) (pc' := 44) C zacZ rfl rfl raZ (zL_mem (by decide) zo11) rfl (fun _ => rfl) (by decide) rfl (by decide) (Nat.le_of_ble_eq_true rfl) (Nat.le_of_ble_eq_true rfl) dX10_init_42 rfl (cu_id _ rfl) ?_
    refine b_putF (q := 0) (i := 0) (ci := 10) (fs := [.ref (bad E 1 0), .ref (bad E 3 0), .ref (bad E 5 0), .ref (bad E 7 0), .null, .null, .null, .null, .int 0, .int 0, .int 0, .int 0]) (ct' := dev (fin E) (.inr (10, [.ref (bad E 1 0), .ref (bad E 3 0), .ref (bad E 5 0), .ref (bad E 7 0), .ref (bad E 11 0), .null, .null, .null, .int 0, .int 0, .int 0, .int 0])) (rA E 3 4 (fun _ => none)) (rA E 4 24 (fun _ => none)) (rA E 5 10 (fun _ => none)) (rA E 6 8 (fun _ => none))) (pc' := 47) C hin2 (zL_mem (by decide) zo0) (by decide) rfl rfl ziX10 tyX10 tyX10_ok nmX10 4 (by decide) (zr1 _ (List.mem_of_getElem? (i := 22) rfl)) rfl rfl rfl rfl (Nat.le_of_ble_eq_true rfl) dX10_init_44 rfl (dev_0 _ _ _ _ _ _ _) ?_
    refine b_aload_n (pc' := 48) C dX10_init_47 rfl 0 rfl rfl ?_
    refine b_new (q := 12) (i := 0) (ci := 6) (N := 6) (fs := [.null, .null, .int 0, .int 0, .int 0, .int 0]) (ct' := cu (dev (fin E) (.inr (10, [.ref (bad E 1 0), .ref (bad E 3 0), .ref (bad E 5 0), .ref (bad E 7 0), .ref (bad E 11 0), .null, .null, .null, .int 0, .int 0, .int 0, .int 0])) (rA E 3 4 (fun _ => none)) (rA E 4 24 (fun _ => none)) (rA E 5 10 (fun _ => none)) (rA E 6 8 (fun _ => none))) 12 0 (.inr (6, [.null, .null, .int 0, .int 0, .int 0, .int 0]))) (pc' := 51) C ziX6 tyX6 tyX6_ok zkX10_37 (zL_mem (by decide) zo12) rfl rfl (by decide) (Nat.le_of_ble_eq_true rfl) (Nat.le_of_ble_eq_true rfl) dX10_init_48 rfl rfl ?_
    refine b_dup (pc' := 52) C dX10_init_51 rfl rfl ?_
    refine b_callI (τ' := (9, dev (fin E) (.inr (10, [.ref (bad E 1 0), .ref (bad E 3 0), .ref (bad E 5 0), .ref (bad E 7 0), .ref (bad E 11 0), .null, .null, .null, .int 0, .int 0, .int 0, .int 0])) (rA E 3 4 (fun _ => none)) (rA E 4 24 (fun _ => none)) (rA E 5 10 (fun _ => none)) (rA E 6 8 (fun _ => none)))) (As := []) (st := [.ref (bad E 12 0), .ref (bad E 0 0)]) (pc' := 55) C (bc_X6 l E (dev (fin E) (.inr (10, [.ref (bad E 1 0), .ref (bad E 3 0), .ref (bad E 5 0), .ref (bad E 7 0), .ref (bad E 11 0), .null, .null, .null, .int 0, .int 0, .int 0, .int 0])) (rA E 3 4 (fun _ => none)) (rA E 4 24 (fun _ => none)) (rA E 5 10 (fun _ => none)) (rA E 6 8 (fun _ => none))) rfl rfl rfl) zcX10_39 znX10_39 ⟨by decide, by decide⟩ ⟨(Nat.le_of_ble_eq_true rfl), (Nat.le_of_ble_eq_true rfl)⟩ rfl rfl (Nat.le_of_ble_eq_true rfl) dX10_init_52 rfl ?_
    refine b_putF (q := 0) (i := 0) (ci := 10) (fs := [.ref (bad E 1 0), .ref (bad E 3 0), .ref (bad E 5 0), .ref (bad E 7 0), .ref (bad E 11 0), .null, .null, .null, .int 0, .int 0, .int 0, .int 0]) (ct' := dev (fin E) (.inr (10, [.ref (bad E 1 0), .ref (bad E 3 0), .ref (bad E 5 0), .ref (bad E 7 0), .ref (bad E 11 0), .ref (bad E 12 0), .null, .null, .int 0, .int 0, .int 0, .int 0])) (rA E 3 4 (fun _ => none)) (rA E 4 24 (fun _ => none)) (rA E 5 10 (fun _ => none)) (rA E 6 8 (fun _ => none))) (pc' := 58) C hin2 (zL_mem (by decide) zo0) (by decide) rfl rfl ziX10 tyX10 tyX10_ok nmX10 5 (by decide) (zr2 _ (List.mem_of_getElem? (i := 2) rfl)) rfl rfl rfl rfl (Nat.le_of_ble_eq_true rfl) dX10_init_55 rfl (dev_0 _ _ _ _ _ _ _) ?_
    refine b_aload_n (pc' := 59) C dX10_init_58 rfl 0 rfl rfl ?_
    refine b_new (q := 15) (i := 0) (ci := 8) (N := 2) (fs := [.null, .null]) (ct' := cu (dev (fin E) (.inr (10, [.ref (bad E 1 0), .ref (bad E 3 0), .ref (bad E 5 0), .ref (bad E 7 0), .ref (bad E 11 0), .ref (bad E 12 0), .null, .null, .int 0, .int 0, .int 0, .int 0])) (rA E 3 4 (fun _ => none)) (rA E 4 24 (fun _ => none)) (rA E 5 10 (fun _ => none)) (rA E 6 8 (fun _ => none))) 15 0 (.inr (8, [.null, .null]))) (pc' := 62) C ziX8 tyX8 tyX8_ok zkX10_44 (zL_mem (by decide) zo15) rfl rfl (by decide) (Nat.le_of_ble_eq_true rfl) (Nat.le_of_ble_eq_true rfl) dX10_init_59 rfl rfl ?_
    refine b_dup (pc' := 63) C dX10_init_62 rfl rfl ?_
    refine b_callI (τ' := (12, dev (fin E) (.inr (10, [.ref (bad E 1 0), .ref (bad E 3 0), .ref (bad E 5 0), .ref (bad E 7 0), .ref (bad E 11 0), .ref (bad E 12 0), .null, .null, .int 0, .int 0, .int 0, .int 0])) (rA E 3 4 (fun _ => none)) (rA E 4 24 (fun _ => none)) (rA E 5 10 (fun _ => none)) (rA E 6 8 (fun _ => none)))) (As := []) (st := [.ref (bad E 15 0), .ref (bad E 0 0)]) (pc' := 66) C (bc_X8 l E (dev (fin E) (.inr (10, [.ref (bad E 1 0), .ref (bad E 3 0), .ref (bad E 5 0), .ref (bad E 7 0), .ref (bad E 11 0), .ref (bad E 12 0), .null, .null, .int 0, .int 0, .int 0, .int 0])) (rA E 3 4 (fun _ => none)) (rA E 4 24 (fun _ => none)) (rA E 5 10 (fun _ => none)) (rA E 6 8 (fun _ => none))) rfl rfl rfl) zcX10_46 znX10_46 ⟨by decide, by decide⟩ ⟨(Nat.le_of_ble_eq_true rfl), (Nat.le_of_ble_eq_true rfl)⟩ rfl rfl (Nat.le_of_ble_eq_true rfl) dX10_init_63 rfl ?_
    refine b_putF (q := 0) (i := 0) (ci := 10) (fs := [.ref (bad E 1 0), .ref (bad E 3 0), .ref (bad E 5 0), .ref (bad E 7 0), .ref (bad E 11 0), .ref (bad E 12 0), .null, .null, .int 0, .int 0, .int 0, .int 0]) (ct' := dev (fin E) (.inr (10, [.ref (bad E 1 0), .ref (bad E 3 0), .ref (bad E 5 0), .ref (bad E 7 0), .ref (bad E 11 0), .ref (bad E 12 0), .ref (bad E 15 0), .null, .int 0, .int 0, .int 0, .int 0])) (rA E 3 4 (fun _ => none)) (rA E 4 24 (fun _ => none)) (rA E 5 10 (fun _ => none)) (rA E 6 8 (fun _ => none))) (pc' := 69) C hin2 (zL_mem (by decide) zo0) (by decide) rfl rfl ziX10 tyX10 tyX10_ok nmX10 6 (by decide) (zr2 _ (List.mem_of_getElem? (i := 6) rfl)) rfl rfl rfl rfl (Nat.le_of_ble_eq_true rfl) dX10_init_66 rfl (dev_0 _ _ _ _ _ _ _) ?_
    refine b_aload_n (pc' := 70) C dX10_init_69 rfl 0 rfl rfl ?_
    refine b_new (q := 18) (i := 0) (ci := 4) (N := 3) (fs := [.null, .null, .null]) (ct' := cu (dev (fin E) (.inr (10, [.ref (bad E 1 0), .ref (bad E 3 0), .ref (bad E 5 0), .ref (bad E 7 0), .ref (bad E 11 0), .ref (bad E 12 0), .ref (bad E 15 0), .null, .int 0, .int 0, .int 0, .int 0])) (rA E 3 4 (fun _ => none)) (rA E 4 24 (fun _ => none)) (rA E 5 10 (fun _ => none)) (rA E 6 8 (fun _ => none))) 18 0 (.inr (4, [.null, .null, .null]))) (pc' := 73) C ziX4 tyX4 tyX4_ok zkX10_51 (zL_mem (by decide) zo18) rfl rfl (by decide) (Nat.le_of_ble_eq_true rfl) (Nat.le_of_ble_eq_true rfl) dX10_init_70 rfl rfl ?_
    refine b_dup (pc' := 74) C dX10_init_73 rfl rfl ?_
    refine b_callI (τ' := (16, dev (fin E) (.inr (10, [.ref (bad E 1 0), .ref (bad E 3 0), .ref (bad E 5 0), .ref (bad E 7 0), .ref (bad E 11 0), .ref (bad E 12 0), .ref (bad E 15 0), .null, .int 0, .int 0, .int 0, .int 0])) (rA E 3 4 (fun _ => none)) (rA E 4 24 (fun _ => none)) (rA E 5 10 (fun _ => none)) (rA E 6 8 (fun _ => none)))) (As := []) (st := [.ref (bad E 18 0), .ref (bad E 0 0)]) (pc' := 77) C (bc_X4 l E (dev (fin E) (.inr (10, [.ref (bad E 1 0), .ref (bad E 3 0), .ref (bad E 5 0), .ref (bad E 7 0), .ref (bad E 11 0), .ref (bad E 12 0), .ref (bad E 15 0), .null, .int 0, .int 0, .int 0, .int 0])) (rA E 3 4 (fun _ => none)) (rA E 4 24 (fun _ => none)) (rA E 5 10 (fun _ => none)) (rA E 6 8 (fun _ => none))) rfl rfl rfl rfl) zcX10_53 znX10_53 ⟨by decide, by decide⟩ ⟨(Nat.le_of_ble_eq_true rfl), (Nat.le_of_ble_eq_true rfl)⟩ rfl rfl (Nat.le_of_ble_eq_true rfl) dX10_init_74 rfl ?_
    refine b_putF (q := 0) (i := 0) (ci := 10) (fs := [.ref (bad E 1 0), .ref (bad E 3 0), .ref (bad E 5 0), .ref (bad E 7 0), .ref (bad E 11 0), .ref (bad E 12 0), .ref (bad E 15 0), .null, .int 0, .int 0, .int 0, .int 0]) (ct' := dev (fin E) (.inr (10, [.ref (bad E 1 0), .ref (bad E 3 0), .ref (bad E 5 0), .ref (bad E 7 0), .ref (bad E 11 0), .ref (bad E 12 0), .ref (bad E 15 0), .ref (bad E 18 0), .int 0, .int 0, .int 0, .int 0])) (rA E 3 4 (fun _ => none)) (rA E 4 24 (fun _ => none)) (rA E 5 10 (fun _ => none)) (rA E 6 8 (fun _ => none))) (pc' := 80) C hin2 (zL_mem (by decide) zo0) (by decide) rfl rfl ziX10 tyX10 tyX10_ok nmX10 7 (by decide) (zr2 _ (List.mem_of_getElem? (i := 10) rfl)) rfl rfl rfl rfl (Nat.le_of_ble_eq_true rfl) dX10_init_77 rfl (dev_0 _ _ _ _ _ _ _) ?_
    refine b_aload_n (pc' := 81) C dX10_init_80 rfl 0 rfl rfl ?_
    refine b_iconst (v := 5) (pc' := 82) C dX10_init_81 (by decide) rfl ?_
    refine b_put (q := 0) (i := 0) (ci := 10) (fs := [.ref (bad E 1 0), .ref (bad E 3 0), .ref (bad E 5 0), .ref (bad E 7 0), .ref (bad E 11 0), .ref (bad E 12 0), .ref (bad E 15 0), .ref (bad E 18 0), .int 0, .int 0, .int 0, .int 0]) (ct' := dev (fin E) (.inr (10, [.ref (bad E 1 0), .ref (bad E 3 0), .ref (bad E 5 0), .ref (bad E 7 0), .ref (bad E 11 0), .ref (bad E 12 0), .ref (bad E 15 0), .ref (bad E 18 0), .int 0, .int 5, .int 0, .int 0])) (rA E 3 4 (fun _ => none)) (rA E 4 24 (fun _ => none)) (rA E 5 10 (fun _ => none)) (rA E 6 8 (fun _ => none))) (pc' := 85) C (zL_mem (by decide) zo0) (by decide) rfl rfl ziX10 tyX10 tyX10_ok nmX10 9 (by decide) (zr2 _ (List.mem_of_getElem? (i := 11) rfl)) rfl rfl rfl (Nat.le_of_ble_eq_true rfl) dX10_init_82 rfl (dev_0 _ _ _ _ _ _ _) ?_
    refine b_aload_n (pc' := 86) C dX10_init_85 rfl 0 rfl rfl ?_
    refine b_get (q := 0) (i := 0) (ci := 10) (fs := Tf E) (pc' := 89) C (zL_mem (by decide) zo0) (by decide) rfl rfl ziX10 0 (by decide) (zr1 _ (List.mem_of_getElem? (i := 14) rfl)) rfl dX10_init_86 rfl ?_
    refine b_iconst (v := 0) (pc' := 90) C dX10_init_89 (by decide) rfl ?_
    refine b_new (q := 2) (i := 0) (ci := 1) (N := 0) (fs := []) (ct' := dev (fin E) (.inr (10, [.ref (bad E 1 0), .ref (bad E 3 0), .ref (bad E 5 0), .ref (bad E 7 0), .ref (bad E 11 0), .ref (bad E 12 0), .ref (bad E 15 0), .ref (bad E 18 0), .int 0, .int 5, .int 0, .int 0])) (rA E 3 4 (fun _ => none)) (rA E 4 24 (fun _ => none)) (rA E 5 10 (fun _ => none)) (rA E 6 8 (fun _ => none))) (pc' := 93) C ziX1 tyX1 tyX1_ok zkX10_9 (zm2 (by decide)) rfl rfl (by decide) (Nat.le_of_ble_eq_true rfl) (Nat.le_of_ble_eq_true rfl) dX10_init_90 rfl (cu_id _ rfl) ?_
    refine b_dup (pc' := 94) C dX10_init_93 rfl rfl ?_
    refine b_callI (As := []) (st := [.ref (bad E 2 0), .int 0, .ref (bad E 1 0)]) (pc' := 97) C (bc_X1 l E _ _) zcX10_62 znX10_62 ⟨by decide, by decide⟩ ⟨(Nat.le_of_ble_eq_true rfl), (Nat.le_of_ble_eq_true rfl)⟩ rfl rfl (Nat.le_of_ble_eq_true rfl) dX10_init_94 rfl ?_
    refine b_aast (q := 1) (i := 0) (t0 := 3) (N' := 4) (q2 := 2) (i2 := 0) (ci := 1) (r := (RX1, TX1, 0)) (f := fJ (bad E 2) 0) (ct' := dev (fin E) (.inr (10, [.ref (bad E 1 0), .ref (bad E 3 0), .ref (bad E 5 0), .ref (bad E 7 0), .ref (bad E 11 0), .ref (bad E 12 0), .ref (bad E 15 0), .ref (bad E 18 0), .int 0, .int 5, .int 0, .int 0])) (rA E 3 4 (fJ (bad E 2) 1)) (rA E 4 24 (fun _ => none)) (rA E 5 10 (fun _ => none)) (rA E 6 8 (fun _ => none))) (pc' := 98) C (zL_mem (by decide) zo1) (by decide) rfl rfl (zm2 (by decide)) (by decide) rfl rfl (Or.inl rfl) (in_nI (k := 0) (by decide) (by decide)) dX10_init_97 rfl ((dev_1 _ _ _ _ _ _ _).trans (congrArg (fun z => dev (fin E) _ (rA E 3 4 z) _ _ _) (fJ_up (bad E 2) (j := 0) (by decide)))) ?_
    refine b_aload_n (pc' := 99) C dX10_init_98 rfl 0 rfl rfl ?_
    refine b_get (q := 0) (i := 0) (ci := 10) (fs := Tf E) (pc' := 102) C (zL_mem (by decide) zo0) (by decide) rfl rfl ziX10 0 (by decide) (zr1 _ (List.mem_of_getElem? (i := 14) rfl)) rfl dX10_init_99 rfl ?_
    refine b_iconst (v := 1) (pc' := 103) C dX10_init_102 (by decide) rfl ?_
    refine b_new (q := 2) (i := 1) (ci := 9) (N := 0) (fs := []) (ct' := dev (fin E) (.inr (10, [.ref (bad E 1 0), .ref (bad E 3 0), .ref (bad E 5 0), .ref (bad E 7 0), .ref (bad E 11 0), .ref (bad E 12 0), .ref (bad E 15 0), .ref (bad E 18 0), .int 0, .int 5, .int 0, .int 0])) (rA E 3 4 (fJ (bad E 2) 1)) (rA E 4 24 (fun _ => none)) (rA E 5 10 (fun _ => none)) (rA E 6 8 (fun _ => none))) (pc' := 106) C ziX9 tyX9 tyX9_ok zkX10_63 (zm2 (by decide)) rfl rfl (by decide) (Nat.le_of_ble_eq_true rfl) (Nat.le_of_ble_eq_true rfl) dX10_init_103 rfl (cu_id _ rfl) ?_
    refine b_dup (pc' := 107) C dX10_init_106 rfl rfl ?_
    refine b_callI (As := []) (st := [.ref (bad E 2 1), .int 1, .ref (bad E 1 0)]) (pc' := 110) C (bc_X9 l E _ _) zcX10_65 znX10_65 ⟨by decide, by decide⟩ ⟨(Nat.le_of_ble_eq_true rfl), (Nat.le_of_ble_eq_true rfl)⟩ rfl rfl (Nat.le_of_ble_eq_true rfl) dX10_init_107 rfl ?_
    refine b_aast (q := 1) (i := 0) (t0 := 3) (N' := 4) (q2 := 2) (i2 := 1) (ci := 9) (r := (RX9, TX9, 0)) (f := fJ (bad E 2) 1) (ct' := dev (fin E) (.inr (10, [.ref (bad E 1 0), .ref (bad E 3 0), .ref (bad E 5 0), .ref (bad E 7 0), .ref (bad E 11 0), .ref (bad E 12 0), .ref (bad E 15 0), .ref (bad E 18 0), .int 0, .int 5, .int 0, .int 0])) (rA E 3 4 (fJ (bad E 2) 2)) (rA E 4 24 (fun _ => none)) (rA E 5 10 (fun _ => none)) (rA E 6 8 (fun _ => none))) (pc' := 111) C (zL_mem (by decide) zo1) (by decide) rfl rfl (zm2 (by decide)) (by decide) rfl rfl (Or.inr C.2.1.2.2.1) (in_nI (k := 1) (by decide) (by decide)) dX10_init_110 rfl ((dev_1 _ _ _ _ _ _ _).trans (congrArg (fun z => dev (fin E) _ (rA E 3 4 z) _ _ _) (fJ_up (bad E 2) (j := 1) (by decide)))) ?_
    refine b_aload_n (pc' := 112) C dX10_init_111 rfl 0 rfl rfl ?_
    refine b_get (q := 0) (i := 0) (ci := 10) (fs := Tf E) (pc' := 115) C (zL_mem (by decide) zo0) (by decide) rfl rfl ziX10 0 (by decide) (zr1 _ (List.mem_of_getElem? (i := 14) rfl)) rfl dX10_init_112 rfl ?_
    refine b_iconst (v := 2) (pc' := 116) C dX10_init_115 (by decide) rfl ?_
    refine b_new (q := 2) (i := 2) (ci := 2) (N := 0) (fs := []) (ct' := dev (fin E) (.inr (10, [.ref (bad E 1 0), .ref (bad E 3 0), .ref (bad E 5 0), .ref (bad E 7 0), .ref (bad E 11 0), .ref (bad E 12 0), .ref (bad E 15 0), .ref (bad E 18 0), .int 0, .int 5, .int 0, .int 0])) (rA E 3 4 (fJ (bad E 2) 2)) (rA E 4 24 (fun _ => none)) (rA E 5 10 (fun _ => none)) (rA E 6 8 (fun _ => none))) (pc' := 119) C ziX2 tyX2 tyX2_ok zkX10_66 (zm2 (by decide)) rfl rfl (by decide) (Nat.le_of_ble_eq_true rfl) (Nat.le_of_ble_eq_true rfl) dX10_init_116 rfl (cu_id _ rfl) ?_
    refine b_dup (pc' := 120) C dX10_init_119 rfl rfl ?_
    refine b_callI (As := []) (st := [.ref (bad E 2 2), .int 2, .ref (bad E 1 0)]) (pc' := 123) C (bc_X2 l E _ _) zcX10_68 znX10_68 ⟨by decide, by decide⟩ ⟨(Nat.le_of_ble_eq_true rfl), (Nat.le_of_ble_eq_true rfl)⟩ rfl rfl (Nat.le_of_ble_eq_true rfl) dX10_init_120 rfl ?_
    refine b_aast (q := 1) (i := 0) (t0 := 3) (N' := 4) (q2 := 2) (i2 := 2) (ci := 2) (r := (RX2, TX2, 0)) (f := fJ (bad E 2) 2) (ct' := dev (fin E) (.inr (10, [.ref (bad E 1 0), .ref (bad E 3 0), .ref (bad E 5 0), .ref (bad E 7 0), .ref (bad E 11 0), .ref (bad E 12 0), .ref (bad E 15 0), .ref (bad E 18 0), .int 0, .int 5, .int 0, .int 0])) (rA E 3 4 (fJ (bad E 2) 3)) (rA E 4 24 (fun _ => none)) (rA E 5 10 (fun _ => none)) (rA E 6 8 (fun _ => none))) (pc' := 124) C (zL_mem (by decide) zo1) (by decide) rfl rfl (zm2 (by decide)) (by decide) rfl rfl (Or.inr C.2.1.2.2.2.1) (in_nI (k := 2) (by decide) (by decide)) dX10_init_123 rfl ((dev_1 _ _ _ _ _ _ _).trans (congrArg (fun z => dev (fin E) _ (rA E 3 4 z) _ _ _) (fJ_up (bad E 2) (j := 2) (by decide)))) ?_
    refine b_aload_n (pc' := 125) C dX10_init_124 rfl 0 rfl rfl ?_
    refine b_get (q := 0) (i := 0) (ci := 10) (fs := Tf E) (pc' := 128) C (zL_mem (by decide) zo0) (by decide) rfl rfl ziX10 0 (by decide) (zr1 _ (List.mem_of_getElem? (i := 14) rfl)) rfl dX10_init_125 rfl ?_
    refine b_iconst (v := 3) (pc' := 129) C dX10_init_128 (by decide) rfl ?_
    refine b_new (q := 2) (i := 3) (ci := 3) (N := 0) (fs := []) (ct' := dev (fin E) (.inr (10, [.ref (bad E 1 0), .ref (bad E 3 0), .ref (bad E 5 0), .ref (bad E 7 0), .ref (bad E 11 0), .ref (bad E 12 0), .ref (bad E 15 0), .ref (bad E 18 0), .int 0, .int 5, .int 0, .int 0])) (rA E 3 4 (fJ (bad E 2) 3)) (rA E 4 24 (fun _ => none)) (rA E 5 10 (fun _ => none)) (rA E 6 8 (fun _ => none))) (pc' := 132) C ziX3 tyX3 tyX3_ok zkX10_69 (zm2 (by decide)) rfl rfl (by decide) (Nat.le_of_ble_eq_true rfl) (Nat.le_of_ble_eq_true rfl) dX10_init_129 rfl (cu_id _ rfl) ?_
    refine b_dup (pc' := 133) C dX10_init_132 rfl rfl ?_
    refine b_callI (As := []) (st := [.ref (bad E 2 3), .int 3, .ref (bad E 1 0)]) (pc' := 136) C (bc_X3 l E _ _) zcX10_71 znX10_71 ⟨by decide, by decide⟩ ⟨(Nat.le_of_ble_eq_true rfl), (Nat.le_of_ble_eq_true rfl)⟩ rfl rfl (Nat.le_of_ble_eq_true rfl) dX10_init_133 rfl ?_
    refine b_aast (q := 1) (i := 0) (t0 := 3) (N' := 4) (q2 := 2) (i2 := 3) (ci := 3) (r := (RX3, TX3, 0)) (f := fJ (bad E 2) 3) (ct' := dev (fin E) (.inr (10, [.ref (bad E 1 0), .ref (bad E 3 0), .ref (bad E 5 0), .ref (bad E 7 0), .ref (bad E 11 0), .ref (bad E 12 0), .ref (bad E 15 0), .ref (bad E 18 0), .int 0, .int 5, .int 0, .int 0])) (rA E 3 4 (fJ (bad E 2) 4)) (rA E 4 24 (fun _ => none)) (rA E 5 10 (fun _ => none)) (rA E 6 8 (fun _ => none))) (pc' := 137) C (zL_mem (by decide) zo1) (by decide) rfl rfl (zm2 (by decide)) (by decide) rfl rfl (Or.inr C.2.1.2.2.2.2) (in_nI (k := 3) (by decide) (by decide)) dX10_init_136 rfl ((dev_1 _ _ _ _ _ _ _).trans (congrArg (fun z => dev (fin E) _ (rA E 3 4 z) _ _ _) (fJ_up (bad E 2) (j := 3) (by decide)))) ?_
    refine b_iconst (v := 0) (pc' := 138) C dX10_init_137 (by decide) rfl ?_
    refine b_istore_n (pc' := 139) (lv' := [(1, .int (nI 0)), (0, .ref (bad E 0 0))]) C dX10_init_138 rfl (by decide) rfl rfl ?_
    refine b_wide (kc' := 19) (ks' := 186) (Nat.le_of_ble_eq_true rfl) (Nat.le_of_ble_eq_true rfl) ?_
    refine bl_plots C ?_ 24 0 rfl
    refine b_iconst (v := 0) (pc' := 171) C dX10_init_170 (by decide) rfl ?_
    refine b_istore_n (pc' := 172) (lv' := [(1, .int (nI 0)), (0, .ref (bad E 0 0))]) C dX10_init_171 rfl (by decide) rfl rfl ?_
    refine bl_buyers C ?_ 10 0 rfl
    refine b_iconst (v := 0) (pc' := 198) C dX10_init_197 (by decide) rfl ?_
    refine b_istore_n (pc' := 199) (lv' := [(1, .int (nI 0)), (0, .ref (bad E 0 0))]) C dX10_init_198 rfl (by decide) rfl rfl ?_
    refine bl_shelves C ?_ 8 0 rfl
    intro ls H locs h1 h2 h3
    exact b_vret (τ := (78, fin E)) C hrt hlk (Nat.le_of_ble_eq_true rfl) (Nat.le_of_ble_eq_true rfl) dX10_init_230 ls H locs h1 (bP_fin h2) h3
  intro ls H locs h1 h2 h3
  refine fin9 ls H locs h1 (bP_irr h2 (fun q i hm ho => ?_)) h3
  have h4 := off1 (q, i) hm ho
  obtain ⟨rfl, rfl⟩ : q = 0 ∧ i = 0 := ⟨congrArg Prod.fst h4, congrArg Prod.snd h4⟩
  rfl
end BC10
