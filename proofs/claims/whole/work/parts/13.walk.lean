def vc_X10_tithe_14 (x1 : Int32) (Q : Int32 → zMem → Prop) : Nat → zMem → Int32 → Int32 → Prop
  | 0, _, _, _ => False
  | n + 1, σ, x2, x3 => ((24 ≤ x3) → Q (x2 / 10) σ) ∧ ((¬ 24 ≤ x3) → vp_in x3 24 ∧ ((¬ (σ 4 x3.toNatClampNeg 3) = x1) → vc_X10_tithe_14 x1 Q n σ x2 (x3 + 1)) ∧ (((σ 4 x3.toNatClampNeg 3) = x1) → vp_in x3 24 ∧ vc_X5_isCut σ x3.toNatClampNeg (fun r10 σ9 => ((r10 = 0) → vc_X10_tithe_14 x1 Q n σ9 x2 (x3 + 1)) ∧ ((¬ r10 = 0) → vp_in x3 24 ∧ vc_X10_inBarn σ9 x3.toNatClampNeg (fun r14 σ13 => vc_X10_tithe_14 x1 Q n σ13 (x2 + r14) (x3 + 1))))))
def vc_X10_tithe (σ : zMem) (a0 : Int32) (Q : Int32 → zMem → Prop) : Prop := vc_X10_isBuyer σ a0 (fun r2 σ1 => ((¬ r2 = 0) → ∃ n4, vc_X10_tithe_14 a0 Q n4 σ1 0 0) ∧ ((r2 = 0) → Q ((-1)) σ1))
set_option maxHeartbeats 4000000 in
set_option maxRecDepth 100000 in
theorem sl_X10_tithe_14 {p : Program} {l : Launch} {e : Env} {s : State} {m : MethodId} {args : Array Value} {below : List Frame} {meth : Method} {c : Code} {E : zE} (C : zX p s m args meth c cX10_tithe 4 RX10 (some .int) E) (x1 : Int32) (Q : Int32 → zMem → Prop) : ∀ (n : Nat) (σ : zMem) (x2 : Int32) (x3 : Int32), vc_X10_tithe_14 x1 Q n σ x2 x3 → zG p l e (zRm 3 68) s m args below meth c 4 E 0 0 (MQ below (va_Qi Q (zPost E) (zA E s.heap.size)) args s 0 0 (zA E s.heap.size)) σ 14 [(0, .ref (E.2.2 0 0)), (1, .int x1), (2, .int x2), (3, .int x3)] [] := by
  intro n
  induction n with
  | zero =>
    intro σ x2 x3 h
    exact False.elim h
  | succ n ih =>
    intro σ x2 x3 h
    rw [vc_X10_tithe_14] at h
    refine z_iload_n (pc' := 15) C dX10_tithe_14 rfl 3 rfl rfl ?_
    refine z_bipush (v := 24) (pc' := 17) C dX10_tithe_15 (by decide) rfl ?_
    obtain ⟨ht, hf⟩ := h
    refine z_icmp_ge (tgt := 64) (pc' := 20) C dX10_tithe_17 (by decide) rfl (fun c5 => ?_) (fun c5 => ?_)
    · have h := ht c5
      refine z_iload_n (pc' := 65) C dX10_tithe_64 rfl 2 rfl rfl ?_
      refine z_bipush (v := 10) (pc' := 67) C dX10_tithe_65 (by decide) rfl ?_
      refine z_idiv (pc' := 68) C dX10_tithe_67 (by decide) rfl ?_
      exact z_iret C dX10_tithe_68 h
    · have h := hf c5
      refine z_aload_n (pc' := 21) C dX10_tithe_20 rfl 0 rfl rfl ?_
      refine zgX10_17 (pc' := 24) C zo0 dX10_tithe_21 rfl ?_
      refine z_iload_n (pc' := 25) C dX10_tithe_24 rfl 3 rfl rfl ?_
      obtain ⟨hv6, h⟩ := h
      refine z_aald (n := 24) (t0 := 4) (q2 := 4) (pc' := 26) C (zL_mem (by decide) zo3) (fun _ => rfl) rfl hv6 dX10_tithe_25 rfl ?_
      refine zgX10_133 (pc' := 29) C (zin hv6) dX10_tithe_26 rfl ?_
      refine z_iload_n (pc' := 30) C dX10_tithe_29 rfl 1 rfl rfl ?_
      obtain ⟨ht, hf⟩ := h
      refine z_icmp_ne (tgt := 58) (pc' := 33) C dX10_tithe_30 (by decide) rfl (fun c7 => ?_) (fun c7 => ?_)
      · have h := ht c7
        refine z_iinc (j := 3) (v := x3 + 1) (pc' := 61) (lv' := [(3, .int (x3 + 1)), (0, .ref (E.2.2 0 0)), (1, .int x1), (2, .int x2)]) C dX10_tithe_58 rfl rfl (by decide) rfl rfl ?_
        refine z_goto (tgt := 14) C dX10_tithe_61 (by decide) ?_
        refine z_sub (lv' := [(0, .ref (E.2.2 0 0)), (1, .int x1), (2, .int x2), (3, .int (x3 + 1))]) [1, 2, 3, 0] rfl ?_
        exact ih _ _ _ h
      · have h := hf c7
        refine z_aload_n (pc' := 34) C dX10_tithe_33 rfl 0 rfl rfl ?_
        refine zgX10_17 (pc' := 37) C zo0 dX10_tithe_34 rfl ?_
        refine z_iload_n (pc' := 38) C dX10_tithe_37 rfl 3 rfl rfl ?_
        obtain ⟨hv8, h⟩ := h
        refine z_aald (n := 24) (t0 := 4) (q2 := 4) (pc' := 39) C (zL_mem (by decide) zo3) (fun _ => rfl) rfl hv8 dX10_tithe_38 rfl ?_
        refine z_callVi (q := 4) (i := x3.toNatClampNeg) (w9 := (RX5, TX5, 6)) (pc' := 42) (st := []) (As := []) C (sc_X5_isCut l E σ x3.toNatClampNeg _ (zin hv8) h) zwX10_204_X5_isCut zvX10_204_X5_isCut.1 zvX10_204_X5_isCut.2 (zL_mem (by decide) (zin hv8)) rfl rfl ⟨(Nat.le_of_ble_eq_true rfl), (Nat.le_of_ble_eq_true rfl)⟩ ⟨Nat.zero_le _, Nat.zero_le _⟩ rfl rfl (Nat.le_of_ble_eq_true rfl) dX10_tithe_39 rfl (fun r10 σ9 h => ?_)
        obtain ⟨ht, hf⟩ := h
        refine z_if_eq (tgt := 58) (pc' := 45) C dX10_tithe_42 (by decide) rfl (fun c11 => ?_) (fun c11 => ?_)
        · have h := ht c11
          refine z_iinc (j := 3) (v := x3 + 1) (pc' := 61) (lv' := [(3, .int (x3 + 1)), (0, .ref (E.2.2 0 0)), (1, .int x1), (2, .int x2)]) C dX10_tithe_58 rfl rfl (by decide) rfl rfl ?_
          refine z_goto (tgt := 14) C dX10_tithe_61 (by decide) ?_
          refine z_sub (lv' := [(0, .ref (E.2.2 0 0)), (1, .int x1), (2, .int x2), (3, .int (x3 + 1))]) [1, 2, 3, 0] rfl ?_
          exact ih _ _ _ h
        · have h := hf c11
          refine z_iload_n (pc' := 46) C dX10_tithe_45 rfl 2 rfl rfl ?_
          refine z_aload_n (pc' := 47) C dX10_tithe_46 rfl 0 rfl rfl ?_
          refine z_aload_n (pc' := 48) C dX10_tithe_47 rfl 0 rfl rfl ?_
          refine zgX10_17 (pc' := 51) C zo0 dX10_tithe_48 rfl ?_
          refine z_iload_n (pc' := 52) C dX10_tithe_51 rfl 3 rfl rfl ?_
          obtain ⟨hv12, h⟩ := h
          refine z_aald (n := 24) (t0 := 4) (q2 := 4) (pc' := 53) C (zL_mem (by decide) zo3) (fun _ => rfl) rfl hv12 dX10_tithe_52 rfl ?_
          refine z_callVi (q := 0) (i := 0) (w9 := (RX10, TX10, 12)) (pc' := 56) (st := [.int x2]) (As := [.ref (E.2.2 4 x3.toNatClampNeg)]) C (sc_X10_inBarn l E σ9 x3.toNatClampNeg _ (zin hv12) h) zwX10_211_X10_inBarn zvX10_211_X10_inBarn.1 zvX10_211_X10_inBarn.2 (zL_mem (by decide) zo0) rfl rfl ⟨(Nat.le_of_ble_eq_true rfl), (Nat.le_of_ble_eq_true rfl)⟩ ⟨Nat.zero_le _, Nat.zero_le _⟩ rfl rfl (Nat.le_of_ble_eq_true rfl) dX10_tithe_53 rfl (fun r14 σ13 h => ?_)
          refine z_iadd (pc' := 57) C dX10_tithe_56 rfl ?_
          refine z_istore_n (pc' := 58) (lv' := [(2, .int (x2 + r14)), (0, .ref (E.2.2 0 0)), (1, .int x1), (3, .int x3)]) C dX10_tithe_57 rfl (by decide) rfl rfl ?_
          refine z_iinc (j := 3) (v := x3 + 1) (pc' := 61) (lv' := [(3, .int (x3 + 1)), (2, .int (x2 + r14)), (0, .ref (E.2.2 0 0)), (1, .int x1)]) C dX10_tithe_58 rfl rfl (by decide) rfl rfl ?_
          refine z_goto (tgt := 14) C dX10_tithe_61 (by decide) ?_
          refine z_sub (lv' := [(0, .ref (E.2.2 0 0)), (1, .int x1), (2, .int (x2 + r14)), (3, .int (x3 + 1))]) [2, 3, 1, 0] rfl ?_
          exact ih _ _ _ h
set_option maxHeartbeats 4000000 in
set_option maxRecDepth 100000 in
theorem sc_X10_tithe (l : Launch) (E : zE) (σ : zMem) (a0 : Int32) (Q : Int32 → zMem → Prop) (h : vc_X10_tithe σ a0 Q) : zMi l yX10_tithe cX10_tithe 4 .int 3 68 E [.ref (E.2.2 0 0), .int a0] σ Q := by
  refine zMi_of (by decide) (Nat.le_of_ble_eq_true rfl) ?_
  intro p e s m args below meth c C
  unfold vc_X10_tithe at h
  have fin : zG p l e (zRm 3 68) s m args below meth c 4 E 0 0 (MQ below (va_Qi Q (zPost E) (zA E s.heap.size)) args s 0 0 (zA E s.heap.size)) σ 0 [(0, .ref (E.2.2 0 0)), (1, .int a0)] [] := by
    refine z_aload_n (pc' := 1) C dX10_tithe_0 rfl 0 rfl rfl ?_
    refine z_iload_n (pc' := 2) C dX10_tithe_1 rfl 1 rfl rfl ?_
    refine z_callVi (q := 0) (i := 0) (w9 := (RX10, TX10, 12)) (pc' := 5) (st := []) (As := [.int a0]) C (sc_X10_isBuyer l E σ a0 _ h) zwX10_112_X10_isBuyer zvX10_112_X10_isBuyer.1 zvX10_112_X10_isBuyer.2 (zL_mem (by decide) zo0) rfl rfl ⟨(Nat.le_of_ble_eq_true rfl), (Nat.le_of_ble_eq_true rfl)⟩ ⟨Nat.zero_le _, Nat.zero_le _⟩ rfl rfl (Nat.le_of_ble_eq_true rfl) dX10_tithe_2 rfl (fun r2 σ1 h => ?_)
    obtain ⟨ht, hf⟩ := h
    refine z_if_ne (tgt := 10) (pc' := 8) C dX10_tithe_5 (by decide) rfl (fun c3 => ?_) (fun c3 => ?_)
    · have h := ht c3
      refine z_iconst (v := 0) (pc' := 11) C dX10_tithe_10 (by decide) rfl ?_
      refine z_istore_n (pc' := 12) (lv' := [(2, .int 0), (0, .ref (E.2.2 0 0)), (1, .int a0)]) C dX10_tithe_11 rfl (by decide) rfl rfl ?_
      refine z_iconst (v := 0) (pc' := 13) C dX10_tithe_12 (by decide) rfl ?_
      refine z_istore_n (pc' := 14) (lv' := [(3, .int 0), (2, .int 0), (0, .ref (E.2.2 0 0)), (1, .int a0)]) C dX10_tithe_13 rfl (by decide) rfl rfl ?_
      obtain ⟨n4, h⟩ := h
      refine z_sub (lv' := [(0, .ref (E.2.2 0 0)), (1, .int a0), (2, .int 0), (3, .int 0)]) [2, 3, 1, 0] rfl ?_
      exact sl_X10_tithe_14 C a0 Q n4 _ _ _ h
    · have h := hf c3
      refine z_iconst (v := (-1)) (pc' := 9) C dX10_tithe_8 (by decide) rfl ?_
      exact z_iret C dX10_tithe_9 h
  exact fin
def vc_X10_pays (σ : zMem) (a0 : Int32) (a1 : Int32) (Q : Int32 → zMem → Prop) : Prop := vc_X10_isBuyer σ a0 (fun r2 σ1 => ((¬ r2 = 0) → vc_X4_settle σ1 (σ1 0 0 8) (fun σ4 => vp_in a0 10 ∧ vc_X0_owes σ4 a0.toNatClampNeg (fun r7 σ6 => vp_in a0 10 ∧ vp_in a0 10 ∧ ((a1 = 0) → Q r7 σ6) ∧ ((a1 = 1) → Q (σ6 19 0 a0.toNatClampNeg) σ6) ∧ ((a1 = 2) → Q (σ6 20 0 a0.toNatClampNeg) σ6) ∧ ((a1 = 3) → Q ((r7 - (σ6 19 0 a0.toNatClampNeg)) - (σ6 20 0 a0.toNatClampNeg)) σ6) ∧ (¬ a1 = 0 → ¬ a1 = 1 → ¬ a1 = 2 → ¬ a1 = 3 → Q ((-1)) σ6)))) ∧ ((r2 = 0) → Q ((-1)) σ1))
set_option maxHeartbeats 4000000 in
set_option maxRecDepth 100000 in
theorem sc_X10_pays (l : Launch) (E : zE) (σ : zMem) (a0 : Int32) (a1 : Int32) (Q : Int32 → zMem → Prop) (h : vc_X10_pays σ a0 a1 Q) : zMi l yX10_pays cX10_pays 6 .int 2 45 E [.ref (E.2.2 0 0), .int a0, .int a1] σ Q := by
  refine zMi_of (by decide) (Nat.le_of_ble_eq_true rfl) ?_
  intro p e s m args below meth c C
  unfold vc_X10_pays at h
  have fin : zG p l e (zRm 2 45) s m args below meth c 6 E 0 0 (MQ below (va_Qi Q (zPost E) (zA E s.heap.size)) args s 0 0 (zA E s.heap.size)) σ 0 [(0, .ref (E.2.2 0 0)), (1, .int a0), (2, .int a1)] [] := by
    refine z_aload_n (pc' := 1) C dX10_pays_0 rfl 0 rfl rfl ?_
    refine z_iload_n (pc' := 2) C dX10_pays_1 rfl 1 rfl rfl ?_
    refine z_callVi (q := 0) (i := 0) (w9 := (RX10, TX10, 12)) (pc' := 5) (st := []) (As := [.int a0]) C (sc_X10_isBuyer l E σ a0 _ h) zwX10_112_X10_isBuyer zvX10_112_X10_isBuyer.1 zvX10_112_X10_isBuyer.2 (zL_mem (by decide) zo0) rfl rfl ⟨(Nat.le_of_ble_eq_true rfl), (Nat.le_of_ble_eq_true rfl)⟩ ⟨Nat.zero_le _, Nat.zero_le _⟩ rfl rfl (Nat.le_of_ble_eq_true rfl) dX10_pays_2 rfl (fun r2 σ1 h => ?_)
    obtain ⟨ht, hf⟩ := h
    refine z_if_ne (tgt := 10) (pc' := 8) C dX10_pays_5 (by decide) rfl (fun c3 => ?_) (fun c3 => ?_)
    · have h := ht c3
      refine z_aload_n (pc' := 11) C dX10_pays_10 rfl 0 rfl rfl ?_
      refine zgX10_54 (pc' := 14) C zo0 dX10_pays_11 rfl ?_
      refine z_aload_n (pc' := 15) C dX10_pays_14 rfl 0 rfl rfl ?_
      refine zgX10_23 (pc' := 18) C zo0 dX10_pays_15 rfl ?_
      refine z_aload_n (pc' := 19) C dX10_pays_18 rfl 0 rfl rfl ?_
      refine zgX10_100 (pc' := 22) C zo0 dX10_pays_19 rfl ?_
      refine z_callVv (q := 18) (i := 0) (w9 := (RX4, TX4, 3)) (pc' := 25) (st := []) (As := [.ref (E.2.2 5 0), .int (σ1 0 0 8)]) C (sc_X4_settle l E σ1 (σ1 0 0 8) _ h) zwX10_214_X4_settle zvX10_214_X4_settle.1 zvX10_214_X4_settle.2 (zL_mem (by decide) zo18) rfl rfl ⟨(Nat.le_of_ble_eq_true rfl), (Nat.le_of_ble_eq_true rfl)⟩ ⟨Nat.zero_le _, Nat.zero_le _⟩ rfl rfl (Nat.le_of_ble_eq_true rfl) dX10_pays_22 rfl (fun σ4 h => ?_)
      refine z_aload_n (pc' := 26) C dX10_pays_25 rfl 0 rfl rfl ?_
      refine zgX10_23 (pc' := 29) C zo0 dX10_pays_26 rfl ?_
      refine z_iload_n (pc' := 30) C dX10_pays_29 rfl 1 rfl rfl ?_
      obtain ⟨hv5, h⟩ := h
      refine z_aald (n := 10) (t0 := 5) (q2 := 6) (pc' := 31) C (zL_mem (by decide) zo5) (fun _ => rfl) rfl hv5 dX10_pays_30 rfl ?_
      refine z_callVi (q := 6) (i := a0.toNatClampNeg) (w9 := (RX0, TX0, 7)) (pc' := 34) (st := []) (As := []) C (sc_X0_owes l E σ4 a0.toNatClampNeg _ (zin hv5) h) zwX10_218_X0_owes zvX10_218_X0_owes.1 zvX10_218_X0_owes.2 (zL_mem (by decide) (zin hv5)) rfl rfl ⟨(Nat.le_of_ble_eq_true rfl), (Nat.le_of_ble_eq_true rfl)⟩ ⟨Nat.zero_le _, Nat.zero_le _⟩ rfl rfl (Nat.le_of_ble_eq_true rfl) dX10_pays_31 rfl (fun r7 σ6 h => ?_)
      refine z_istore_n (pc' := 35) (lv' := [(3, .int r7), (0, .ref (E.2.2 0 0)), (1, .int a0), (2, .int a1)]) C dX10_pays_34 rfl (by decide) rfl rfl ?_
      refine z_aload_n (pc' := 36) C dX10_pays_35 rfl 1 rfl rfl ?_
      refine zgX10_54 (pc' := 39) C zo0 dX10_pays_36 rfl ?_
      refine zgX10_221 (pc' := 42) C zo18 dX10_pays_39 rfl ?_
      refine z_iload_n (pc' := 43) C dX10_pays_42 rfl 2 rfl rfl ?_
      obtain ⟨hv8, h⟩ := h
      refine z_iald (n := 10) (pc' := 44) C (zL_mem (by decide) zo19) (fun _ => rfl) hv8 dX10_pays_43 rfl ?_
      refine z_istore (pc' := 46) (lv' := [(4, .int (σ6 19 0 a0.toNatClampNeg)), (3, .int r7), (0, .ref (E.2.2 0 0)), (1, .int a0), (2, .int a1)]) C dX10_pays_44 (by decide) rfl rfl ?_
      refine z_aload_n (pc' := 47) C dX10_pays_46 rfl 2 rfl rfl ?_
      refine zgX10_54 (pc' := 50) C zo0 dX10_pays_47 rfl ?_
      refine zgX10_225 (pc' := 53) C zo18 dX10_pays_50 rfl ?_
      refine z_iload_n (pc' := 54) C dX10_pays_53 rfl 3 rfl rfl ?_
      obtain ⟨hv9, h⟩ := h
      refine z_iald (n := 10) (pc' := 55) C (zL_mem (by decide) zo20) (fun _ => rfl) hv9 dX10_pays_54 rfl ?_
      refine z_istore (pc' := 57) (lv' := [(5, .int (σ6 20 0 a0.toNatClampNeg)), (4, .int (σ6 19 0 a0.toNatClampNeg)), (3, .int r7), (0, .ref (E.2.2 0 0)), (1, .int a0), (2, .int a1)]) C dX10_pays_55 (by decide) rfl rfl ?_
      refine z_iload_n (pc' := 58) C dX10_pays_57 rfl 5 rfl rfl ?_
      obtain ⟨hk, h⟩ := h
      by_cases c10 : a1 = 0
      · have h := hk c10
        refine z_tabIn (tgt := 88) C dX10_pays_58 0 c10 (by decide) (by decide) rfl (by decide) ?_
        refine z_iload_n (pc' := 89) C dX10_pays_88 rfl 2 rfl rfl ?_
        exact z_iret C dX10_pays_89 h
      obtain ⟨hk, h⟩ := h
      by_cases c11 : a1 = 1
      · have h := hk c11
        refine z_tabIn (tgt := 90) C dX10_pays_58 1 c11 (by decide) (by decide) rfl (by decide) ?_
        refine z_iload (pc' := 92) C dX10_pays_90 1 rfl rfl ?_
        exact z_iret C dX10_pays_92 h
      obtain ⟨hk, h⟩ := h
      by_cases c12 : a1 = 2
      · have h := hk c12
        refine z_tabIn (tgt := 93) C dX10_pays_58 2 c12 (by decide) (by decide) rfl (by decide) ?_
        refine z_iload (pc' := 95) C dX10_pays_93 0 rfl rfl ?_
        exact z_iret C dX10_pays_95 h
      obtain ⟨hk, h⟩ := h
      by_cases c13 : a1 = 3
      · have h := hk c13
        refine z_tabIn (tgt := 96) C dX10_pays_58 3 c13 (by decide) (by decide) rfl (by decide) ?_
        refine z_iload_n (pc' := 97) C dX10_pays_96 rfl 2 rfl rfl ?_
        refine z_iload (pc' := 99) C dX10_pays_97 1 rfl rfl ?_
        refine z_isub (pc' := 100) C dX10_pays_99 rfl ?_
        refine z_iload (pc' := 102) C dX10_pays_100 0 rfl rfl ?_
        refine z_isub (pc' := 103) C dX10_pays_102 rfl ?_
        exact z_iret C dX10_pays_103 h
      have h := h c10 c11 c12 c13
      refine z_tabOut (tgt := 104) C dX10_pays_58 (by have ec10 := lv_neT (a := 0) c10 rfl; have ec11 := lv_neT (a := 1) c11 rfl; have ec12 := lv_neT (a := 2) c12 rfl; have ec13 := lv_neT (a := 3) c13 rfl; omega) (by decide) ?_
      refine z_iconst (v := (-1)) (pc' := 105) C dX10_pays_104 (by decide) rfl ?_
      exact z_iret C dX10_pays_105 h
    · have h := hf c3
      refine z_iconst (v := (-1)) (pc' := 9) C dX10_pays_8 (by decide) rfl ?_
      exact z_iret C dX10_pays_9 h
  exact fin
def vc_X10_sold_4 (Q : Int32 → zMem → Prop) : Nat → zMem → Int32 → Int32 → Prop
  | 0, _, _, _ => False
  | n + 1, σ, x1, x2 => ((24 ≤ x2) → Q x1 σ) ∧ ((¬ 24 ≤ x2) → vp_in x2 24 ∧ vc_X5_isSold σ x2.toNatClampNeg (fun r5 σ4 => vc_X10_oneIf σ4 r5 (fun r7 σ6 => vc_X10_sold_4 Q n σ6 (x1 + r7) (x2 + 1))))
def vc_X10_sold (σ : zMem) (Q : Int32 → zMem → Prop) : Prop := ∃ n1, vc_X10_sold_4 Q n1 σ 0 0
set_option maxHeartbeats 4000000 in
set_option maxRecDepth 100000 in
theorem sl_X10_sold_4 {p : Program} {l : Launch} {e : Env} {s : State} {m : MethodId} {args : Array Value} {below : List Frame} {meth : Method} {c : Code} {E : zE} (C : zX p s m args meth c cX10_sold 3 RX10 (some .int) E) (Q : Int32 → zMem → Prop) : ∀ (n : Nat) (σ : zMem) (x1 : Int32) (x2 : Int32), vc_X10_sold_4 Q n σ x1 x2 → zG p l e (zRm 1 20) s m args below meth c 3 E 0 0 (MQ below (va_Qi Q (zPost E) (zA E s.heap.size)) args s 0 0 (zA E s.heap.size)) σ 4 [(0, .ref (E.2.2 0 0)), (1, .int x1), (2, .int x2)] [] := by
  intro n
  induction n with
  | zero =>
    intro σ x1 x2 h
    exact False.elim h
  | succ n ih =>
    intro σ x1 x2 h
    rw [vc_X10_sold_4] at h
    refine z_iload_n (pc' := 5) C dX10_sold_4 rfl 2 rfl rfl ?_
    refine z_bipush (v := 24) (pc' := 7) C dX10_sold_5 (by decide) rfl ?_
    obtain ⟨ht, hf⟩ := h
    refine z_icmp_ge (tgt := 31) (pc' := 10) C dX10_sold_7 (by decide) rfl (fun c2 => ?_) (fun c2 => ?_)
    · have h := ht c2
      refine z_iload_n (pc' := 32) C dX10_sold_31 rfl 1 rfl rfl ?_
      exact z_iret C dX10_sold_32 h
    · have h := hf c2
      refine z_iload_n (pc' := 11) C dX10_sold_10 rfl 1 rfl rfl ?_
      refine z_aload_n (pc' := 12) C dX10_sold_11 rfl 0 rfl rfl ?_
      refine zgX10_17 (pc' := 15) C zo0 dX10_sold_12 rfl ?_
      refine z_iload_n (pc' := 16) C dX10_sold_15 rfl 2 rfl rfl ?_
      obtain ⟨hv3, h⟩ := h
      refine z_aald (n := 24) (t0 := 4) (q2 := 4) (pc' := 17) C (zL_mem (by decide) zo3) (fun _ => rfl) rfl hv3 dX10_sold_16 rfl ?_
      refine z_callVi (q := 4) (i := x2.toNatClampNeg) (w9 := (RX5, TX5, 6)) (pc' := 20) (st := [.int x1]) (As := []) C (sc_X5_isSold l E σ x2.toNatClampNeg _ (zin hv3) h) zwX10_85_X5_isSold zvX10_85_X5_isSold.1 zvX10_85_X5_isSold.2 (zL_mem (by decide) (zin hv3)) rfl rfl ⟨(Nat.le_of_ble_eq_true rfl), (Nat.le_of_ble_eq_true rfl)⟩ ⟨Nat.zero_le _, Nat.zero_le _⟩ rfl rfl (Nat.le_of_ble_eq_true rfl) dX10_sold_17 rfl (fun r5 σ4 h => ?_)
      refine z_callSi (pc' := 23) (st := [.int x1]) (As := [.int r5]) C (sc_X10_oneIf l E σ4 r5 _ h) zwX10_119_X10_oneIf ztX10_119_X10_oneIf ⟨(Nat.le_of_ble_eq_true rfl), (Nat.le_of_ble_eq_true rfl)⟩ ⟨Nat.zero_le _, Nat.zero_le _⟩ rfl rfl (Nat.le_of_ble_eq_true rfl) dX10_sold_20 rfl (fun r7 σ6 h => ?_)
      refine z_iadd (pc' := 24) C dX10_sold_23 rfl ?_
      refine z_istore_n (pc' := 25) (lv' := [(1, .int (x1 + r7)), (0, .ref (E.2.2 0 0)), (2, .int x2)]) C dX10_sold_24 rfl (by decide) rfl rfl ?_
      refine z_iinc (j := 2) (v := x2 + 1) (pc' := 28) (lv' := [(2, .int (x2 + 1)), (1, .int (x1 + r7)), (0, .ref (E.2.2 0 0))]) C dX10_sold_25 rfl rfl (by decide) rfl rfl ?_
      refine z_goto (tgt := 4) C dX10_sold_28 (by decide) ?_
      refine z_sub (lv' := [(0, .ref (E.2.2 0 0)), (1, .int (x1 + r7)), (2, .int (x2 + 1))]) [2, 1, 0] rfl ?_
      exact ih _ _ _ h
set_option maxHeartbeats 4000000 in
set_option maxRecDepth 100000 in
theorem sc_X10_sold (l : Launch) (E : zE) (σ : zMem) (Q : Int32 → zMem → Prop) (h : vc_X10_sold σ Q) : zMi l yX10_sold cX10_sold 3 .int 1 20 E [.ref (E.2.2 0 0)] σ Q := by
  refine zMi_of (by decide) (Nat.le_of_ble_eq_true rfl) ?_
  intro p e s m args below meth c C
  unfold vc_X10_sold at h
  have fin : zG p l e (zRm 1 20) s m args below meth c 3 E 0 0 (MQ below (va_Qi Q (zPost E) (zA E s.heap.size)) args s 0 0 (zA E s.heap.size)) σ 0 [(0, .ref (E.2.2 0 0))] [] := by
    refine z_iconst (v := 0) (pc' := 1) C dX10_sold_0 (by decide) rfl ?_
    refine z_istore_n (pc' := 2) (lv' := [(1, .int 0), (0, .ref (E.2.2 0 0))]) C dX10_sold_1 rfl (by decide) rfl rfl ?_
    refine z_iconst (v := 0) (pc' := 3) C dX10_sold_2 (by decide) rfl ?_
    refine z_istore_n (pc' := 4) (lv' := [(2, .int 0), (1, .int 0), (0, .ref (E.2.2 0 0))]) C dX10_sold_3 rfl (by decide) rfl rfl ?_
    obtain ⟨n1, h⟩ := h
    refine z_sub (lv' := [(0, .ref (E.2.2 0 0)), (1, .int 0), (2, .int 0)]) [2, 1, 0] rfl ?_
    exact sl_X10_sold_4 C Q n1 _ _ _ h
  exact fin
def vc_X10_allHay_4 (Q : Int32 → zMem → Prop) : Nat → zMem → Int32 → Int32 → Prop
  | 0, _, _, _ => False
  | n + 1, σ, x1, x2 => ((24 ≤ x2) → Q x1 σ) ∧ ((¬ 24 ≤ x2) → vp_in x2 24 ∧ vc_X5_hay σ x2.toNatClampNeg (fun r5 σ4 => vc_X10_allHay_4 Q n σ4 (x1 + r5) (x2 + 1)))
def vc_X10_allHay (σ : zMem) (Q : Int32 → zMem → Prop) : Prop := ∃ n1, vc_X10_allHay_4 Q n1 σ 0 0
set_option maxHeartbeats 4000000 in
set_option maxRecDepth 100000 in
theorem sl_X10_allHay_4 {p : Program} {l : Launch} {e : Env} {s : State} {m : MethodId} {args : Array Value} {below : List Frame} {meth : Method} {c : Code} {E : zE} (C : zX p s m args meth c cX10_allHay 3 RX10 (some .int) E) (Q : Int32 → zMem → Prop) : ∀ (n : Nat) (σ : zMem) (x1 : Int32) (x2 : Int32), vc_X10_allHay_4 Q n σ x1 x2 → zG p l e (zRm 2 40) s m args below meth c 3 E 0 0 (MQ below (va_Qi Q (zPost E) (zA E s.heap.size)) args s 0 0 (zA E s.heap.size)) σ 4 [(0, .ref (E.2.2 0 0)), (1, .int x1), (2, .int x2)] [] := by
  intro n
  induction n with
  | zero =>
    intro σ x1 x2 h
    exact False.elim h
  | succ n ih =>
    intro σ x1 x2 h
    rw [vc_X10_allHay_4] at h
    refine z_iload_n (pc' := 5) C dX10_allHay_4 rfl 2 rfl rfl ?_
    refine z_bipush (v := 24) (pc' := 7) C dX10_allHay_5 (by decide) rfl ?_
    obtain ⟨ht, hf⟩ := h
    refine z_icmp_ge (tgt := 28) (pc' := 10) C dX10_allHay_7 (by decide) rfl (fun c2 => ?_) (fun c2 => ?_)
    · have h := ht c2
      refine z_iload_n (pc' := 29) C dX10_allHay_28 rfl 1 rfl rfl ?_
      exact z_iret C dX10_allHay_29 h
    · have h := hf c2
      refine z_iload_n (pc' := 11) C dX10_allHay_10 rfl 1 rfl rfl ?_
      refine z_aload_n (pc' := 12) C dX10_allHay_11 rfl 0 rfl rfl ?_
      refine zgX10_17 (pc' := 15) C zo0 dX10_allHay_12 rfl ?_
      refine z_iload_n (pc' := 16) C dX10_allHay_15 rfl 2 rfl rfl ?_
      obtain ⟨hv3, h⟩ := h
      refine z_aald (n := 24) (t0 := 4) (q2 := 4) (pc' := 17) C (zL_mem (by decide) zo3) (fun _ => rfl) rfl hv3 dX10_allHay_16 rfl ?_
      refine z_callVi (q := 4) (i := x2.toNatClampNeg) (w9 := (RX5, TX5, 6)) (pc' := 20) (st := [.int x1]) (As := []) C (sc_X5_hay l E σ x2.toNatClampNeg _ (zin hv3) h) zwX10_130_X5_hay zvX10_130_X5_hay.1 zvX10_130_X5_hay.2 (zL_mem (by decide) (zin hv3)) rfl rfl ⟨(Nat.le_of_ble_eq_true rfl), (Nat.le_of_ble_eq_true rfl)⟩ ⟨Nat.zero_le _, Nat.zero_le _⟩ rfl rfl (Nat.le_of_ble_eq_true rfl) dX10_allHay_17 rfl (fun r5 σ4 h => ?_)
      refine z_iadd (pc' := 21) C dX10_allHay_20 rfl ?_
      refine z_istore_n (pc' := 22) (lv' := [(1, .int (x1 + r5)), (0, .ref (E.2.2 0 0)), (2, .int x2)]) C dX10_allHay_21 rfl (by decide) rfl rfl ?_
      refine z_iinc (j := 2) (v := x2 + 1) (pc' := 25) (lv' := [(2, .int (x2 + 1)), (1, .int (x1 + r5)), (0, .ref (E.2.2 0 0))]) C dX10_allHay_22 rfl rfl (by decide) rfl rfl ?_
      refine z_goto (tgt := 4) C dX10_allHay_25 (by decide) ?_
      refine z_sub (lv' := [(0, .ref (E.2.2 0 0)), (1, .int (x1 + r5)), (2, .int (x2 + 1))]) [2, 1, 0] rfl ?_
      exact ih _ _ _ h
set_option maxHeartbeats 4000000 in
set_option maxRecDepth 100000 in
theorem sc_X10_allHay (l : Launch) (E : zE) (σ : zMem) (Q : Int32 → zMem → Prop) (h : vc_X10_allHay σ Q) : zMi l yX10_allHay cX10_allHay 3 .int 2 40 E [.ref (E.2.2 0 0)] σ Q := by
  refine zMi_of (by decide) (Nat.le_of_ble_eq_true rfl) ?_
  intro p e s m args below meth c C
  unfold vc_X10_allHay at h
  have fin : zG p l e (zRm 2 40) s m args below meth c 3 E 0 0 (MQ below (va_Qi Q (zPost E) (zA E s.heap.size)) args s 0 0 (zA E s.heap.size)) σ 0 [(0, .ref (E.2.2 0 0))] [] := by
    refine z_iconst (v := 0) (pc' := 1) C dX10_allHay_0 (by decide) rfl ?_
    refine z_istore_n (pc' := 2) (lv' := [(1, .int 0), (0, .ref (E.2.2 0 0))]) C dX10_allHay_1 rfl (by decide) rfl rfl ?_
    refine z_iconst (v := 0) (pc' := 3) C dX10_allHay_2 (by decide) rfl ?_
    refine z_istore_n (pc' := 4) (lv' := [(2, .int 0), (1, .int 0), (0, .ref (E.2.2 0 0))]) C dX10_allHay_3 rfl (by decide) rfl rfl ?_
    obtain ⟨n1, h⟩ := h
    refine z_sub (lv' := [(0, .ref (E.2.2 0 0)), (1, .int 0), (2, .int 0)]) [2, 1, 0] rfl ?_
    exact sl_X10_allHay_4 C Q n1 _ _ _ h
  exact fin
def vc_X10_rainyDays_4 (Q : Int32 → zMem → Prop) : Nat → zMem → Int32 → Int32 → Prop
  | 0, _, _, _ => False
  | n + 1, σ, x1, x2 => ((30 < x2) → Q x1 σ) ∧ ((¬ 30 < x2) → vp_in x2 31 ∧ vc_X10_oneIf σ (σ 11 0 x2.toNatClampNeg) (fun r5 σ4 => vc_X10_rainyDays_4 Q n σ4 (x1 + r5) (x2 + 1)))
def vc_X10_rainyDays (σ : zMem) (Q : Int32 → zMem → Prop) : Prop := ∃ n1, vc_X10_rainyDays_4 Q n1 σ 0 0
set_option maxHeartbeats 4000000 in
set_option maxRecDepth 100000 in
theorem sl_X10_rainyDays_4 {p : Program} {l : Launch} {e : Env} {s : State} {m : MethodId} {args : Array Value} {below : List Frame} {meth : Method} {c : Code} {E : zE} (C : zX p s m args meth c cX10_rainyDays 3 RX10 (some .int) E) (Q : Int32 → zMem → Prop) : ∀ (n : Nat) (σ : zMem) (x1 : Int32) (x2 : Int32), vc_X10_rainyDays_4 Q n σ x1 x2 → zG p l e (zRm 1 20) s m args below meth c 3 E 0 0 (MQ below (va_Qi Q (zPost E) (zA E s.heap.size)) args s 0 0 (zA E s.heap.size)) σ 4 [(0, .ref (E.2.2 0 0)), (1, .int x1), (2, .int x2)] [] := by
  intro n
  induction n with
  | zero =>
    intro σ x1 x2 h
    exact False.elim h
  | succ n ih =>
    intro σ x1 x2 h
    rw [vc_X10_rainyDays_4] at h
    refine z_iload_n (pc' := 5) C dX10_rainyDays_4 rfl 2 rfl rfl ?_
    refine z_bipush (v := 30) (pc' := 7) C dX10_rainyDays_5 (by decide) rfl ?_
    obtain ⟨ht, hf⟩ := h
    refine z_icmp_gt (tgt := 28) (pc' := 10) C dX10_rainyDays_7 (by decide) rfl (fun c2 => ?_) (fun c2 => ?_)
    · have h := ht c2
      refine z_iload_n (pc' := 29) C dX10_rainyDays_28 rfl 1 rfl rfl ?_
      exact z_iret C dX10_rainyDays_29 h
    · have h := hf c2
      refine z_iload_n (pc' := 11) C dX10_rainyDays_10 rfl 1 rfl rfl ?_
      refine z_aload_n (pc' := 12) C dX10_rainyDays_11 rfl 0 rfl rfl ?_
      refine zgX10_33 (pc' := 15) C zo0 dX10_rainyDays_12 rfl ?_
      refine z_iload_n (pc' := 16) C dX10_rainyDays_15 rfl 2 rfl rfl ?_
      obtain ⟨hv3, h⟩ := h
      refine z_zald (n := 31) (pc' := 17) C (zL_mem (by decide) zo11) (fun _ => rfl) hv3 dX10_rainyDays_16 rfl ?_
      refine z_callSi (pc' := 20) (st := [.int x1]) (As := [.int (σ 11 0 x2.toNatClampNeg)]) C (sc_X10_oneIf l E σ (σ 11 0 x2.toNatClampNeg) _ h) zwX10_119_X10_oneIf ztX10_119_X10_oneIf ⟨(Nat.le_of_ble_eq_true rfl), (Nat.le_of_ble_eq_true rfl)⟩ ⟨Nat.zero_le _, Nat.zero_le _⟩ rfl rfl (Nat.le_of_ble_eq_true rfl) dX10_rainyDays_17 rfl (fun r5 σ4 h => ?_)
      refine z_iadd (pc' := 21) C dX10_rainyDays_20 rfl ?_
      refine z_istore_n (pc' := 22) (lv' := [(1, .int (x1 + r5)), (0, .ref (E.2.2 0 0)), (2, .int x2)]) C dX10_rainyDays_21 rfl (by decide) rfl rfl ?_
      refine z_iinc (j := 2) (v := x2 + 1) (pc' := 25) (lv' := [(2, .int (x2 + 1)), (1, .int (x1 + r5)), (0, .ref (E.2.2 0 0))]) C dX10_rainyDays_22 rfl rfl (by decide) rfl rfl ?_
      refine z_goto (tgt := 4) C dX10_rainyDays_25 (by decide) ?_
      refine z_sub (lv' := [(0, .ref (E.2.2 0 0)), (1, .int (x1 + r5)), (2, .int (x2 + 1))]) [2, 1, 0] rfl ?_
      exact ih _ _ _ h
set_option maxHeartbeats 4000000 in
set_option maxRecDepth 100000 in
theorem sc_X10_rainyDays (l : Launch) (E : zE) (σ : zMem) (Q : Int32 → zMem → Prop) (h : vc_X10_rainyDays σ Q) : zMi l yX10_rainyDays cX10_rainyDays 3 .int 1 20 E [.ref (E.2.2 0 0)] σ Q := by
  refine zMi_of (by decide) (Nat.le_of_ble_eq_true rfl) ?_
  intro p e s m args below meth c C
  unfold vc_X10_rainyDays at h
  have fin : zG p l e (zRm 1 20) s m args below meth c 3 E 0 0 (MQ below (va_Qi Q (zPost E) (zA E s.heap.size)) args s 0 0 (zA E s.heap.size)) σ 0 [(0, .ref (E.2.2 0 0))] [] := by
    refine z_iconst (v := 0) (pc' := 1) C dX10_rainyDays_0 (by decide) rfl ?_
    refine z_istore_n (pc' := 2) (lv' := [(1, .int 0), (0, .ref (E.2.2 0 0))]) C dX10_rainyDays_1 rfl (by decide) rfl rfl ?_
    refine z_iconst (v := 0) (pc' := 3) C dX10_rainyDays_2 (by decide) rfl ?_
    refine z_istore_n (pc' := 4) (lv' := [(2, .int 0), (1, .int 0), (0, .ref (E.2.2 0 0))]) C dX10_rainyDays_3 rfl (by decide) rfl rfl ?_
    obtain ⟨n1, h⟩ := h
    refine z_sub (lv' := [(0, .ref (E.2.2 0 0)), (1, .int 0), (2, .int 0)]) [2, 1, 0] rfl ?_
    exact sl_X10_rainyDays_4 C Q n1 _ _ _ h
  exact fin
def vc_X10_count (σ : zMem) (a0 : Int32) (Q : Int32 → zMem → Prop) : Prop := ((a0 = 0) → Q (σ 0 0 8) σ) ∧ ((a0 = 1) → vc_X10_sold σ (fun r4 σ3 => Q r4 σ3)) ∧ ((a0 = 2) → vc_X10_standing σ (fun r7 σ6 => Q r7 σ6)) ∧ ((a0 = 3) → Q (σ 0 0 10) σ) ∧ ((a0 = 4) → Q (σ 0 0 9) σ) ∧ ((a0 = 5) → vc_X10_allHay σ (fun r12 σ11 => Q r12 σ11)) ∧ ((a0 = 6) → vc_X10_rainyDays σ (fun r15 σ14 => Q r15 σ14)) ∧ (¬ a0 = 0 → ¬ a0 = 1 → ¬ a0 = 2 → ¬ a0 = 3 → ¬ a0 = 4 → ¬ a0 = 5 → ¬ a0 = 6 → Q ((-1)) σ)
set_option maxHeartbeats 4000000 in
set_option maxRecDepth 100000 in
theorem sc_X10_count (l : Launch) (E : zE) (σ : zMem) (a0 : Int32) (Q : Int32 → zMem → Prop) (h : vc_X10_count σ a0 Q) : zMi l yX10_count cX10_count 2 .int 3 62 E [.ref (E.2.2 0 0), .int a0] σ Q := by
  refine zMi_of (by decide) (Nat.le_of_ble_eq_true rfl) ?_
  intro p e s m args below meth c C
  unfold vc_X10_count at h
  have fin : zG p l e (zRm 3 62) s m args below meth c 2 E 0 0 (MQ below (va_Qi Q (zPost E) (zA E s.heap.size)) args s 0 0 (zA E s.heap.size)) σ 0 [(0, .ref (E.2.2 0 0)), (1, .int a0)] [] := by
    refine z_iload_n (pc' := 1) C dX10_count_0 rfl 1 rfl rfl ?_
    obtain ⟨hk, h⟩ := h
    by_cases c1 : a0 = 0
    · have h := hk c1
      refine z_tabIn (tgt := 44) C dX10_count_1 0 c1 (by decide) (by decide) rfl (by decide) ?_
      refine z_aload_n (pc' := 45) C dX10_count_44 rfl 0 rfl rfl ?_
      refine zgX10_100 (pc' := 48) C zo0 dX10_count_45 rfl ?_
      exact z_iret C dX10_count_48 h
    obtain ⟨hk, h⟩ := h
    by_cases c2 : a0 = 1
    · have h := hk c2
      refine z_tabIn (tgt := 49) C dX10_count_1 1 c2 (by decide) (by decide) rfl (by decide) ?_
      refine z_aload_n (pc' := 50) C dX10_count_49 rfl 0 rfl rfl ?_
      refine z_callVi (q := 0) (i := 0) (w9 := (RX10, TX10, 12)) (pc' := 53) (st := []) (As := []) C (sc_X10_sold l E σ  _ h) zwX10_228_X10_sold zvX10_228_X10_sold.1 zvX10_228_X10_sold.2 (zL_mem (by decide) zo0) rfl rfl ⟨(Nat.le_of_ble_eq_true rfl), (Nat.le_of_ble_eq_true rfl)⟩ ⟨Nat.zero_le _, Nat.zero_le _⟩ rfl rfl (Nat.le_of_ble_eq_true rfl) dX10_count_50 rfl (fun r4 σ3 h => ?_)
      exact z_iret C dX10_count_53 h
    obtain ⟨hk, h⟩ := h
    by_cases c5 : a0 = 2
    · have h := hk c5
      refine z_tabIn (tgt := 54) C dX10_count_1 2 c5 (by decide) (by decide) rfl (by decide) ?_
      refine z_aload_n (pc' := 55) C dX10_count_54 rfl 0 rfl rfl ?_
      refine z_callVi (q := 0) (i := 0) (w9 := (RX10, TX10, 12)) (pc' := 58) (st := []) (As := []) C (sc_X10_standing l E σ  _ h) zwX10_198_X10_standing zvX10_198_X10_standing.1 zvX10_198_X10_standing.2 (zL_mem (by decide) zo0) rfl rfl ⟨(Nat.le_of_ble_eq_true rfl), (Nat.le_of_ble_eq_true rfl)⟩ ⟨Nat.zero_le _, Nat.zero_le _⟩ rfl rfl (Nat.le_of_ble_eq_true rfl) dX10_count_55 rfl (fun r7 σ6 h => ?_)
      exact z_iret C dX10_count_58 h
    obtain ⟨hk, h⟩ := h
    by_cases c8 : a0 = 3
    · have h := hk c8
      refine z_tabIn (tgt := 59) C dX10_count_1 3 c8 (by decide) (by decide) rfl (by decide) ?_
      refine z_aload_n (pc' := 60) C dX10_count_59 rfl 0 rfl rfl ?_
      refine zgX10_192 (pc' := 63) C zo0 dX10_count_60 rfl ?_
      exact z_iret C dX10_count_63 h
    obtain ⟨hk, h⟩ := h
    by_cases c9 : a0 = 4
    · have h := hk c9
      refine z_tabIn (tgt := 64) C dX10_count_1 4 c9 (by decide) (by decide) rfl (by decide) ?_
      refine z_aload_n (pc' := 65) C dX10_count_64 rfl 0 rfl rfl ?_
      refine zgX10_58 (pc' := 68) C zo0 dX10_count_65 rfl ?_
      exact z_iret C dX10_count_68 h
    obtain ⟨hk, h⟩ := h
    by_cases c10 : a0 = 5
    · have h := hk c10
      refine z_tabIn (tgt := 69) C dX10_count_1 5 c10 (by decide) (by decide) rfl (by decide) ?_
      refine z_aload_n (pc' := 70) C dX10_count_69 rfl 0 rfl rfl ?_
      refine z_callVi (q := 0) (i := 0) (w9 := (RX10, TX10, 12)) (pc' := 73) (st := []) (As := []) C (sc_X10_allHay l E σ  _ h) zwX10_231_X10_allHay zvX10_231_X10_allHay.1 zvX10_231_X10_allHay.2 (zL_mem (by decide) zo0) rfl rfl ⟨(Nat.le_of_ble_eq_true rfl), (Nat.le_of_ble_eq_true rfl)⟩ ⟨Nat.zero_le _, Nat.zero_le _⟩ rfl rfl (Nat.le_of_ble_eq_true rfl) dX10_count_70 rfl (fun r12 σ11 h => ?_)
      exact z_iret C dX10_count_73 h
    obtain ⟨hk, h⟩ := h
    by_cases c13 : a0 = 6
    · have h := hk c13
      refine z_tabIn (tgt := 74) C dX10_count_1 6 c13 (by decide) (by decide) rfl (by decide) ?_
      refine z_aload_n (pc' := 75) C dX10_count_74 rfl 0 rfl rfl ?_
      refine z_callVi (q := 0) (i := 0) (w9 := (RX10, TX10, 12)) (pc' := 78) (st := []) (As := []) C (sc_X10_rainyDays l E σ  _ h) zwX10_234_X10_rainyDays zvX10_234_X10_rainyDays.1 zvX10_234_X10_rainyDays.2 (zL_mem (by decide) zo0) rfl rfl ⟨(Nat.le_of_ble_eq_true rfl), (Nat.le_of_ble_eq_true rfl)⟩ ⟨Nat.zero_le _, Nat.zero_le _⟩ rfl rfl (Nat.le_of_ble_eq_true rfl) dX10_count_75 rfl (fun r15 σ14 h => ?_)
      exact z_iret C dX10_count_78 h
    have h := h c1 c2 c5 c8 c9 c10 c13
    refine z_tabOut (tgt := 79) C dX10_count_1 (by have ec1 := lv_neT (a := 0) c1 rfl; have ec2 := lv_neT (a := 1) c2 rfl; have ec5 := lv_neT (a := 2) c5 rfl; have ec8 := lv_neT (a := 3) c8 rfl; have ec9 := lv_neT (a := 4) c9 rfl; have ec10 := lv_neT (a := 5) c10 rfl; have ec13 := lv_neT (a := 6) c13 rfl; omega) (by decide) ?_
    refine z_iconst (v := (-1)) (pc' := 80) C dX10_count_79 (by decide) rfl ?_
    exact z_iret C dX10_count_80 h
  exact fin
def vc_X10_isShelf (σ : zMem) (a0 : Int32) (Q : Int32 → zMem → Prop) : Prop := ((a0 < 0) → Q 0 σ) ∧ ((¬ a0 < 0) → ((8 ≤ a0) → Q 0 σ) ∧ ((¬ 8 ≤ a0) → Q 1 σ))
set_option maxHeartbeats 4000000 in
set_option maxRecDepth 100000 in
theorem sc_X10_isShelf (l : Launch) (E : zE) (σ : zMem) (a0 : Int32) (Q : Int32 → zMem → Prop) (h : vc_X10_isShelf σ a0 Q) : zMi l yX10_isShelf cX10_isShelf 1 .boolean 0 0 E [.int a0] σ Q := by
  refine zMi_of (by decide) (Nat.le_of_ble_eq_true rfl) ?_
  intro p e s m args below meth c C
  unfold vc_X10_isShelf at h
  have fin : zG p l e (zRm 0 0) s m args below meth c 1 E 0 0 (MQ below (va_Qi Q (zPost E) (zA E s.heap.size)) args s 0 0 (zA E s.heap.size)) σ 0 [(0, .int a0)] [] := by
    refine z_iload_n (pc' := 1) C dX10_isShelf_0 rfl 0 rfl rfl ?_
    obtain ⟨ht, hf⟩ := h
    refine z_if_lt (tgt := 14) (pc' := 4) C dX10_isShelf_1 (by decide) rfl (fun c1 => ?_) (fun c1 => ?_)
    · have h := ht c1
      refine z_iconst (v := 0) (pc' := 15) C dX10_isShelf_14 (by decide) rfl ?_
      exact z_zret C rfl dX10_isShelf_15 h
    · have h := hf c1
      refine z_iload_n (pc' := 5) C dX10_isShelf_4 rfl 0 rfl rfl ?_
      refine z_bipush (v := 8) (pc' := 7) C dX10_isShelf_5 (by decide) rfl ?_
      obtain ⟨ht, hf⟩ := h
      refine z_icmp_ge (tgt := 14) (pc' := 10) C dX10_isShelf_7 (by decide) rfl (fun c2 => ?_) (fun c2 => ?_)
      · have h := ht c2
        refine z_iconst (v := 0) (pc' := 15) C dX10_isShelf_14 (by decide) rfl ?_
        exact z_zret C rfl dX10_isShelf_15 h
      · have h := hf c2
        refine z_iconst (v := 1) (pc' := 11) C dX10_isShelf_10 (by decide) rfl ?_
        refine z_goto (tgt := 15) C dX10_isShelf_11 (by decide) ?_
        exact z_zret C rfl dX10_isShelf_15 h
  exact fin
def vc_X10_keepPlot (σ : zMem) (i0 : Nat) (a1 : Int32) (Q : Int32 → zMem → Prop) : Prop := vc_X10_isPlot σ a1 (fun r2 σ1 => ((¬ r2 = 0) → vp_in a1 24 ∧ ((um (um σ1 8 i0 0 1) 8 i0 1 a1) 4 a1.toNatClampNeg 1).toNatClampNeg < zcnt 2 ∧ vp_in a1 24 ∧ Q 0 (um (um (um (um σ1 8 i0 0 1) 8 i0 1 a1) 8 i0 2 (nI (((um (um σ1 8 i0 0 1) 8 i0 1 a1) 4 a1.toNatClampNeg 1).toNatClampNeg))) 8 i0 3 ((um (um (um σ1 8 i0 0 1) 8 i0 1 a1) 8 i0 2 (nI (((um (um σ1 8 i0 0 1) 8 i0 1 a1) 4 a1.toNatClampNeg 1).toNatClampNeg))) 4 a1.toNatClampNeg 2))) ∧ ((r2 = 0) → Q ((-1)) σ1))
set_option maxHeartbeats 4000000 in
set_option maxRecDepth 100000 in
theorem sc_X10_keepPlot (l : Launch) (E : zE) (σ : zMem) (i0 : Nat) (a1 : Int32) (Q : Int32 → zMem → Prop) (hi0 : i0 < zcnt 8) (h : vc_X10_keepPlot σ i0 a1 Q) : zMi l yX10_keepPlot cX10_keepPlot 3 .int 1 20 E [.ref (E.2.2 0 0), .ref (E.2.2 8 i0), .int a1] σ Q := by
  refine zMi_of (by decide) (Nat.le_of_ble_eq_true rfl) ?_
  intro p e s m args below meth c C
  unfold vc_X10_keepPlot at h
  have fin : zG p l e (zRm 1 20) s m args below meth c 3 E 0 0 (MQ below (va_Qi Q (zPost E) (zA E s.heap.size)) args s 0 0 (zA E s.heap.size)) σ 0 [(0, .ref (E.2.2 0 0)), (1, .ref (E.2.2 8 i0)), (2, .int a1)] [] := by
    refine z_iload_n (pc' := 1) C dX10_keepPlot_0 rfl 2 rfl rfl ?_
    refine z_callSi (pc' := 4) (st := []) (As := [.int a1]) C (sc_X10_isPlot l E σ a1 _ h) zwX10_77_X10_isPlot ztX10_77_X10_isPlot ⟨(Nat.le_of_ble_eq_true rfl), (Nat.le_of_ble_eq_true rfl)⟩ ⟨Nat.zero_le _, Nat.zero_le _⟩ rfl rfl (Nat.le_of_ble_eq_true rfl) dX10_keepPlot_1 rfl (fun r2 σ1 h => ?_)
    obtain ⟨ht, hf⟩ := h
    refine z_if_ne (tgt := 9) (pc' := 7) C dX10_keepPlot_4 (by decide) rfl (fun c3 => ?_) (fun c3 => ?_)
    · have h := ht c3
      refine z_aload_n (pc' := 10) C dX10_keepPlot_9 rfl 1 rfl rfl ?_
      refine z_iconst (v := 1) (pc' := 11) C dX10_keepPlot_10 (by decide) rfl ?_
      refine zpX10_240 (pc' := 14) C hi0 dX10_keepPlot_11 rfl ?_
      refine z_aload_n (pc' := 15) C dX10_keepPlot_14 rfl 1 rfl rfl ?_
      refine z_iload_n (pc' := 16) C dX10_keepPlot_15 rfl 2 rfl rfl ?_
      refine zpX10_305 (pc' := 19) C hi0 dX10_keepPlot_16 rfl ?_
      refine z_aload_n (pc' := 20) C dX10_keepPlot_19 rfl 1 rfl rfl ?_
      refine z_aload_n (pc' := 21) C dX10_keepPlot_20 rfl 0 rfl rfl ?_
      refine zgX10_17 (pc' := 24) C zo0 dX10_keepPlot_21 rfl ?_
      refine z_iload_n (pc' := 25) C dX10_keepPlot_24 rfl 2 rfl rfl ?_
      obtain ⟨hv4, h⟩ := h
      refine z_aald (n := 24) (t0 := 4) (q2 := 4) (pc' := 26) C (zL_mem (by decide) zo3) (fun _ => rfl) rfl hv4 dX10_keepPlot_25 rfl ?_
      obtain ⟨hg5, h⟩ := h
      refine zgX10_95 (pc' := 29) C (zin hv4) dX10_keepPlot_26 rfl ?_
      refine zpX10_296 (pc' := 32) C hi0 hg5 dX10_keepPlot_29 rfl ?_
      refine z_aload_n (pc' := 33) C dX10_keepPlot_32 rfl 1 rfl rfl ?_
      refine z_aload_n (pc' := 34) C dX10_keepPlot_33 rfl 0 rfl rfl ?_
      refine zgX10_17 (pc' := 37) C zo0 dX10_keepPlot_34 rfl ?_
      refine z_iload_n (pc' := 38) C dX10_keepPlot_37 rfl 2 rfl rfl ?_
      obtain ⟨hv6, h⟩ := h
      refine z_aald (n := 24) (t0 := 4) (q2 := 4) (pc' := 39) C (zL_mem (by decide) zo3) (fun _ => rfl) rfl hv6 dX10_keepPlot_38 rfl ?_
      refine zgX10_89 (pc' := 42) C (zin hv6) dX10_keepPlot_39 rfl ?_
      refine zpX10_297 (pc' := 45) C hi0 dX10_keepPlot_42 rfl ?_
      refine z_iconst (v := 0) (pc' := 46) C dX10_keepPlot_45 (by decide) rfl ?_
      exact z_iret C dX10_keepPlot_46 h
    · have h := hf c3
      refine z_iconst (v := (-1)) (pc' := 8) C dX10_keepPlot_7 (by decide) rfl ?_
      exact z_iret C dX10_keepPlot_8 h
  exact fin
def vc_X10_keepWorths_19 (i_1 : Nat) (x2 : Int32) (Q : Int32 → zMem → Prop) : Nat → zMem → Int32 → Prop
  | 0, _, _ => False
  | n + 1, σ, x3 => ((24 ≤ x3) → Q 0 σ) ∧ ((¬ 24 ≤ x3) → vc_X10_worthTo σ x2 x3 (fun r8 σ7 => vp_in x3 60 ∧ vc_X10_keepWorths_19 i_1 x2 Q n (um σ7 9 i_1 x3.toNatClampNeg r8) (x3 + 1)))
def vc_X10_keepWorths (σ : zMem) (i0 : Nat) (a1 : Int32) (Q : Int32 → zMem → Prop) : Prop := vc_X10_isBuyer σ a1 (fun r2 σ1 => ((¬ r2 = 0) → vc_X7_takeRow σ1 i0 3 24 (fun σ4 => ∃ n5, vc_X10_keepWorths_19 i0 a1 Q n5 σ4 0)) ∧ ((r2 = 0) → Q ((-1)) σ1))
set_option maxHeartbeats 4000000 in
set_option maxRecDepth 100000 in
theorem sl_X10_keepWorths_19 {p : Program} {l : Launch} {e : Env} {s : State} {m : MethodId} {args : Array Value} {below : List Frame} {meth : Method} {c : Code} {E : zE} (C : zX p s m args meth c cX10_keepWorths 4 RX10 (some .int) E) (i_1 : Nat) (x2 : Int32) (Q : Int32 → zMem → Prop) (hi_1 : i_1 < zcnt 8) : ∀ (n : Nat) (σ : zMem) (x3 : Int32), vc_X10_keepWorths_19 i_1 x2 Q n σ x3 → zG p l e (zRm 4 87) s m args below meth c 4 E 0 0 (MQ below (va_Qi Q (zPost E) (zA E s.heap.size)) args s 0 0 (zA E s.heap.size)) σ 19 [(0, .ref (E.2.2 0 0)), (1, .ref (E.2.2 8 i_1)), (2, .int x2), (3, .int x3)] [] := by
  intro n
  induction n with
  | zero =>
    intro σ x3 h
    exact False.elim h
  | succ n ih =>
    intro σ x3 h
    rw [vc_X10_keepWorths_19] at h
    refine z_iload_n (pc' := 20) C dX10_keepWorths_19 rfl 3 rfl rfl ?_
    refine z_bipush (v := 24) (pc' := 22) C dX10_keepWorths_20 (by decide) rfl ?_
    obtain ⟨ht, hf⟩ := h
    refine z_icmp_ge (tgt := 43) (pc' := 25) C dX10_keepWorths_22 (by decide) rfl (fun c6 => ?_) (fun c6 => ?_)
    · have h := ht c6
      refine z_iconst (v := 0) (pc' := 44) C dX10_keepWorths_43 (by decide) rfl ?_
      exact z_iret C dX10_keepWorths_44 h
    · have h := hf c6
      refine z_aload_n (pc' := 26) C dX10_keepWorths_25 rfl 1 rfl rfl ?_
      refine zgX10_277 (pc' := 29) C hi_1 dX10_keepWorths_26 rfl ?_
      refine z_iload_n (pc' := 30) C dX10_keepWorths_29 rfl 3 rfl rfl ?_
      refine z_aload_n (pc' := 31) C dX10_keepWorths_30 rfl 0 rfl rfl ?_
      refine z_iload_n (pc' := 32) C dX10_keepWorths_31 rfl 2 rfl rfl ?_
      refine z_iload_n (pc' := 33) C dX10_keepWorths_32 rfl 3 rfl rfl ?_
      refine z_callVi (q := 0) (i := 0) (w9 := (RX10, TX10, 12)) (pc' := 36) (st := [.int x3, .ref (E.2.2 9 i_1)]) (As := [.int x2, .int x3]) C (sc_X10_worthTo l E σ x2 x3 _ h) zwX10_158_X10_worthTo zvX10_158_X10_worthTo.1 zvX10_158_X10_worthTo.2 (zL_mem (by decide) zo0) rfl rfl ⟨(Nat.le_of_ble_eq_true rfl), (Nat.le_of_ble_eq_true rfl)⟩ ⟨Nat.zero_le _, Nat.zero_le _⟩ rfl rfl (Nat.le_of_ble_eq_true rfl) dX10_keepWorths_33 rfl (fun r8 σ7 h => ?_)
      obtain ⟨hv9, h⟩ := h
      refine z_iast (n := 60) (pc' := 37) C (zL_mem (by decide) hi_1) (fun _ => rfl) hv9 dX10_keepWorths_36 rfl ?_
      refine z_iinc (j := 3) (v := x3 + 1) (pc' := 40) (lv' := [(3, .int (x3 + 1)), (0, .ref (E.2.2 0 0)), (1, .ref (E.2.2 8 i_1)), (2, .int x2)]) C dX10_keepWorths_37 rfl rfl (by decide) rfl rfl ?_
      refine z_goto (tgt := 19) C dX10_keepWorths_40 (by decide) ?_
      refine z_sub (lv' := [(0, .ref (E.2.2 0 0)), (1, .ref (E.2.2 8 i_1)), (2, .int x2), (3, .int (x3 + 1))]) [1, 2, 3, 0] rfl ?_
      exact ih _ _ h
set_option maxHeartbeats 4000000 in
set_option maxRecDepth 100000 in
theorem sc_X10_keepWorths (l : Launch) (E : zE) (σ : zMem) (i0 : Nat) (a1 : Int32) (Q : Int32 → zMem → Prop) (hi0 : i0 < zcnt 8) (h : vc_X10_keepWorths σ i0 a1 Q) : zMi l yX10_keepWorths cX10_keepWorths 4 .int 4 87 E [.ref (E.2.2 0 0), .ref (E.2.2 8 i0), .int a1] σ Q := by
  refine zMi_of (by decide) (Nat.le_of_ble_eq_true rfl) ?_
  intro p e s m args below meth c C
  unfold vc_X10_keepWorths at h
  have fin : zG p l e (zRm 4 87) s m args below meth c 4 E 0 0 (MQ below (va_Qi Q (zPost E) (zA E s.heap.size)) args s 0 0 (zA E s.heap.size)) σ 0 [(0, .ref (E.2.2 0 0)), (1, .ref (E.2.2 8 i0)), (2, .int a1)] [] := by
    refine z_aload_n (pc' := 1) C dX10_keepWorths_0 rfl 0 rfl rfl ?_
    refine z_iload_n (pc' := 2) C dX10_keepWorths_1 rfl 2 rfl rfl ?_
    refine z_callVi (q := 0) (i := 0) (w9 := (RX10, TX10, 12)) (pc' := 5) (st := []) (As := [.int a1]) C (sc_X10_isBuyer l E σ a1 _ h) zwX10_112_X10_isBuyer zvX10_112_X10_isBuyer.1 zvX10_112_X10_isBuyer.2 (zL_mem (by decide) zo0) rfl rfl ⟨(Nat.le_of_ble_eq_true rfl), (Nat.le_of_ble_eq_true rfl)⟩ ⟨Nat.zero_le _, Nat.zero_le _⟩ rfl rfl (Nat.le_of_ble_eq_true rfl) dX10_keepWorths_2 rfl (fun r2 σ1 h => ?_)
    obtain ⟨ht, hf⟩ := h
    refine z_if_ne (tgt := 10) (pc' := 8) C dX10_keepWorths_5 (by decide) rfl (fun c3 => ?_) (fun c3 => ?_)
    · have h := ht c3
      refine z_aload_n (pc' := 11) C dX10_keepWorths_10 rfl 1 rfl rfl ?_
      refine z_iconst (v := 3) (pc' := 12) C dX10_keepWorths_11 (by decide) rfl ?_
      refine z_bipush (v := 24) (pc' := 14) C dX10_keepWorths_12 (by decide) rfl ?_
      refine z_callVv (q := 8) (i := i0) (w9 := (RX7, TX7, 7)) (pc' := 17) (st := []) (As := [.int 3, .int 24]) C (sc_X7_takeRow l E σ1 i0 3 24 _ hi0 h) zwX10_254_X7_takeRow zvX10_254_X7_takeRow.1 zvX10_254_X7_takeRow.2 (zL_mem (by decide) hi0) rfl rfl ⟨(Nat.le_of_ble_eq_true rfl), (Nat.le_of_ble_eq_true rfl)⟩ ⟨Nat.zero_le _, Nat.zero_le _⟩ rfl rfl (Nat.le_of_ble_eq_true rfl) dX10_keepWorths_14 rfl (fun σ4 h => ?_)
      refine z_iconst (v := 0) (pc' := 18) C dX10_keepWorths_17 (by decide) rfl ?_
      refine z_istore_n (pc' := 19) (lv' := [(3, .int 0), (0, .ref (E.2.2 0 0)), (1, .ref (E.2.2 8 i0)), (2, .int a1)]) C dX10_keepWorths_18 rfl (by decide) rfl rfl ?_
      obtain ⟨n5, h⟩ := h
      refine z_sub (lv' := [(0, .ref (E.2.2 0 0)), (1, .ref (E.2.2 8 i0)), (2, .int a1), (3, .int 0)]) [1, 2, 3, 0] rfl ?_
      exact sl_X10_keepWorths_19 C i0 a1 Q hi0 n5 _ _ h
    · have h := hf c3
      refine z_iconst (v := (-1)) (pc' := 9) C dX10_keepWorths_8 (by decide) rfl ?_
      exact z_iret C dX10_keepWorths_9 h
  exact fin
def vc_X10_keepOwners_9 (i_1 : Nat) (Q : Int32 → zMem → Prop) : Nat → zMem → Int32 → Prop
  | 0, _, _ => False
  | n + 1, σ, x2 => ((24 ≤ x2) → Q 0 σ) ∧ ((¬ 24 ≤ x2) → vp_in x2 24 ∧ vc_X5_isSold σ x2.toNatClampNeg (fun r6 σ5 => ((r6 = 0) → vp_in x2 60 ∧ vc_X10_keepOwners_9 i_1 Q n (um σ5 10 i_1 x2.toNatClampNeg (vp_nar .byte (((-1)).toInt8.toInt32))) (x2 + 1)) ∧ ((¬ r6 = 0) → vp_in x2 24 ∧ vp_in x2 60 ∧ vc_X10_keepOwners_9 i_1 Q n (um σ5 10 i_1 x2.toNatClampNeg (vp_nar .byte ((σ5 4 x2.toNatClampNeg 3).toInt8.toInt32))) (x2 + 1))))
def vc_X10_keepOwners (σ : zMem) (i0 : Nat) (Q : Int32 → zMem → Prop) : Prop := vc_X7_takeRow σ i0 4 24 (fun σ1 => ∃ n2, vc_X10_keepOwners_9 i0 Q n2 σ1 0)
set_option maxHeartbeats 4000000 in
set_option maxRecDepth 100000 in
theorem sl_X10_keepOwners_9 {p : Program} {l : Launch} {e : Env} {s : State} {m : MethodId} {args : Array Value} {below : List Frame} {meth : Method} {c : Code} {E : zE} (C : zX p s m args meth c cX10_keepOwners 3 RX10 (some .int) E) (i_1 : Nat) (Q : Int32 → zMem → Prop) (hi_1 : i_1 < zcnt 8) : ∀ (n : Nat) (σ : zMem) (x2 : Int32), vc_X10_keepOwners_9 i_1 Q n σ x2 → zG p l e (zRm 2 45) s m args below meth c 3 E 0 0 (MQ below (va_Qi Q (zPost E) (zA E s.heap.size)) args s 0 0 (zA E s.heap.size)) σ 9 [(0, .ref (E.2.2 0 0)), (1, .ref (E.2.2 8 i_1)), (2, .int x2)] [] := by
  intro n
  induction n with
  | zero =>
    intro σ x2 h
    exact False.elim h
  | succ n ih =>
    intro σ x2 h
    rw [vc_X10_keepOwners_9] at h
    refine z_iload_n (pc' := 10) C dX10_keepOwners_9 rfl 2 rfl rfl ?_
    refine z_bipush (v := 24) (pc' := 12) C dX10_keepOwners_10 (by decide) rfl ?_
    obtain ⟨ht, hf⟩ := h
    refine z_icmp_ge (tgt := 53) (pc' := 15) C dX10_keepOwners_12 (by decide) rfl (fun c3 => ?_) (fun c3 => ?_)
    · have h := ht c3
      refine z_iconst (v := 0) (pc' := 54) C dX10_keepOwners_53 (by decide) rfl ?_
      exact z_iret C dX10_keepOwners_54 h
    · have h := hf c3
      refine z_aload_n (pc' := 16) C dX10_keepOwners_15 rfl 1 rfl rfl ?_
      refine zgX10_280 (pc' := 19) C hi_1 dX10_keepOwners_16 rfl ?_
      refine z_iload_n (pc' := 20) C dX10_keepOwners_19 rfl 2 rfl rfl ?_
      refine z_aload_n (pc' := 21) C dX10_keepOwners_20 rfl 0 rfl rfl ?_
      refine zgX10_17 (pc' := 24) C zo0 dX10_keepOwners_21 rfl ?_
      refine z_iload_n (pc' := 25) C dX10_keepOwners_24 rfl 2 rfl rfl ?_
      obtain ⟨hv4, h⟩ := h
      refine z_aald (n := 24) (t0 := 4) (q2 := 4) (pc' := 26) C (zL_mem (by decide) zo3) (fun _ => rfl) rfl hv4 dX10_keepOwners_25 rfl ?_
      refine z_callVi (q := 4) (i := x2.toNatClampNeg) (w9 := (RX5, TX5, 6)) (pc' := 29) (st := [.int x2, .ref (E.2.2 10 i_1)]) (As := []) C (sc_X5_isSold l E σ x2.toNatClampNeg _ (zin hv4) h) zwX10_85_X5_isSold zvX10_85_X5_isSold.1 zvX10_85_X5_isSold.2 (zL_mem (by decide) (zin hv4)) rfl rfl ⟨(Nat.le_of_ble_eq_true rfl), (Nat.le_of_ble_eq_true rfl)⟩ ⟨Nat.zero_le _, Nat.zero_le _⟩ rfl rfl (Nat.le_of_ble_eq_true rfl) dX10_keepOwners_26 rfl (fun r6 σ5 h => ?_)
      obtain ⟨ht, hf⟩ := h
      refine z_if_eq (tgt := 44) (pc' := 32) C dX10_keepOwners_29 (by decide) rfl (fun c7 => ?_) (fun c7 => ?_)
      · have h := ht c7
        refine z_iconst (v := (-1)) (pc' := 45) C dX10_keepOwners_44 (by decide) rfl ?_
        refine z_i2b (pc' := 46) C dX10_keepOwners_45 rfl ?_
        obtain ⟨hv8, h⟩ := h
        refine z_bast (n := 60) (pc' := 47) C (zL_mem (by decide) hi_1) (fun _ => rfl) hv8 dX10_keepOwners_46 rfl ?_
        refine z_iinc (j := 2) (v := x2 + 1) (pc' := 50) (lv' := [(2, .int (x2 + 1)), (0, .ref (E.2.2 0 0)), (1, .ref (E.2.2 8 i_1))]) C dX10_keepOwners_47 rfl rfl (by decide) rfl rfl ?_
        refine z_goto (tgt := 9) C dX10_keepOwners_50 (by decide) ?_
        refine z_sub (lv' := [(0, .ref (E.2.2 0 0)), (1, .ref (E.2.2 8 i_1)), (2, .int (x2 + 1))]) [1, 2, 0] rfl ?_
        exact ih _ _ h
      · have h := hf c7
        refine z_aload_n (pc' := 33) C dX10_keepOwners_32 rfl 0 rfl rfl ?_
        refine zgX10_17 (pc' := 36) C zo0 dX10_keepOwners_33 rfl ?_
        refine z_iload_n (pc' := 37) C dX10_keepOwners_36 rfl 2 rfl rfl ?_
        obtain ⟨hv9, h⟩ := h
        refine z_aald (n := 24) (t0 := 4) (q2 := 4) (pc' := 38) C (zL_mem (by decide) zo3) (fun _ => rfl) rfl hv9 dX10_keepOwners_37 rfl ?_
        refine zgX10_133 (pc' := 41) C (zin hv9) dX10_keepOwners_38 rfl ?_
        refine z_goto (tgt := 45) C dX10_keepOwners_41 (by decide) ?_
        refine z_i2b (pc' := 46) C dX10_keepOwners_45 rfl ?_
        obtain ⟨hv10, h⟩ := h
        refine z_bast (n := 60) (pc' := 47) C (zL_mem (by decide) hi_1) (fun _ => rfl) hv10 dX10_keepOwners_46 rfl ?_
        refine z_iinc (j := 2) (v := x2 + 1) (pc' := 50) (lv' := [(2, .int (x2 + 1)), (0, .ref (E.2.2 0 0)), (1, .ref (E.2.2 8 i_1))]) C dX10_keepOwners_47 rfl rfl (by decide) rfl rfl ?_
        refine z_goto (tgt := 9) C dX10_keepOwners_50 (by decide) ?_
        refine z_sub (lv' := [(0, .ref (E.2.2 0 0)), (1, .ref (E.2.2 8 i_1)), (2, .int (x2 + 1))]) [1, 2, 0] rfl ?_
        exact ih _ _ h
set_option maxHeartbeats 4000000 in
set_option maxRecDepth 100000 in
theorem sc_X10_keepOwners (l : Launch) (E : zE) (σ : zMem) (i0 : Nat) (Q : Int32 → zMem → Prop) (hi0 : i0 < zcnt 8) (h : vc_X10_keepOwners σ i0 Q) : zMi l yX10_keepOwners cX10_keepOwners 3 .int 2 45 E [.ref (E.2.2 0 0), .ref (E.2.2 8 i0)] σ Q := by
  refine zMi_of (by decide) (Nat.le_of_ble_eq_true rfl) ?_
  intro p e s m args below meth c C
  unfold vc_X10_keepOwners at h
  have fin : zG p l e (zRm 2 45) s m args below meth c 3 E 0 0 (MQ below (va_Qi Q (zPost E) (zA E s.heap.size)) args s 0 0 (zA E s.heap.size)) σ 0 [(0, .ref (E.2.2 0 0)), (1, .ref (E.2.2 8 i0))] [] := by
    refine z_aload_n (pc' := 1) C dX10_keepOwners_0 rfl 1 rfl rfl ?_
    refine z_iconst (v := 4) (pc' := 2) C dX10_keepOwners_1 (by decide) rfl ?_
    refine z_bipush (v := 24) (pc' := 4) C dX10_keepOwners_2 (by decide) rfl ?_
    refine z_callVv (q := 8) (i := i0) (w9 := (RX7, TX7, 7)) (pc' := 7) (st := []) (As := [.int 4, .int 24]) C (sc_X7_takeRow l E σ i0 4 24 _ hi0 h) zwX10_254_X7_takeRow zvX10_254_X7_takeRow.1 zvX10_254_X7_takeRow.2 (zL_mem (by decide) hi0) rfl rfl ⟨(Nat.le_of_ble_eq_true rfl), (Nat.le_of_ble_eq_true rfl)⟩ ⟨Nat.zero_le _, Nat.zero_le _⟩ rfl rfl (Nat.le_of_ble_eq_true rfl) dX10_keepOwners_4 rfl (fun σ1 h => ?_)
    refine z_iconst (v := 0) (pc' := 8) C dX10_keepOwners_7 (by decide) rfl ?_
    refine z_istore_n (pc' := 9) (lv' := [(2, .int 0), (0, .ref (E.2.2 0 0)), (1, .ref (E.2.2 8 i0))]) C dX10_keepOwners_8 rfl (by decide) rfl rfl ?_
    obtain ⟨n2, h⟩ := h
    refine z_sub (lv' := [(0, .ref (E.2.2 0 0)), (1, .ref (E.2.2 8 i0)), (2, .int 0)]) [1, 2, 0] rfl ?_
    exact sl_X10_keepOwners_9 C i0 Q hi0 n2 _ _ h
  exact fin
def vc_X10_keep (σ : zMem) (a0 : Int32) (a1 : Int32) (a2 : Int32) (Q : Int32 → zMem → Prop) : Prop := vc_X10_isShelf σ a0 (fun r2 σ1 => ((¬ r2 = 0) → ((a1 = 0) → vp_in a0 8 ∧ Q 0 (um σ1 8 a0.toNatClampNeg 0 0)) ∧ ((a1 = 1) → vp_in a0 8 ∧ vc_X10_keepPlot σ1 a0.toNatClampNeg a2 (fun r9 σ8 => Q r9 σ8)) ∧ ((a1 = 2) → Q ((-1)) σ1) ∧ ((a1 = 3) → vp_in a0 8 ∧ vc_X10_keepWorths σ1 a0.toNatClampNeg a2 (fun r14 σ13 => Q r14 σ13)) ∧ ((a1 = 4) → vp_in a0 8 ∧ vc_X10_keepOwners σ1 a0.toNatClampNeg (fun r18 σ17 => Q r18 σ17)) ∧ (¬ a1 = 0 → ¬ a1 = 1 → ¬ a1 = 2 → ¬ a1 = 3 → ¬ a1 = 4 → Q ((-1)) σ1)) ∧ ((r2 = 0) → Q ((-1)) σ1))
set_option maxHeartbeats 4000000 in
set_option maxRecDepth 100000 in
theorem sc_X10_keep (l : Launch) (E : zE) (σ : zMem) (a0 : Int32) (a1 : Int32) (a2 : Int32) (Q : Int32 → zMem → Prop) (h : vc_X10_keep σ a0 a1 a2 Q) : zMi l yX10_keep cX10_keep 4 .int 5 110 E [.ref (E.2.2 0 0), .int a0, .int a1, .int a2] σ Q := by
  refine zMi_of (by decide) (Nat.le_of_ble_eq_true rfl) ?_
  intro p e s m args below meth c C
  unfold vc_X10_keep at h
  have fin : zG p l e (zRm 5 110) s m args below meth c 4 E 0 0 (MQ below (va_Qi Q (zPost E) (zA E s.heap.size)) args s 0 0 (zA E s.heap.size)) σ 0 [(0, .ref (E.2.2 0 0)), (1, .int a0), (2, .int a1), (3, .int a2)] [] := by
    refine z_iload_n (pc' := 1) C dX10_keep_0 rfl 1 rfl rfl ?_
    refine z_callSi (pc' := 4) (st := []) (As := [.int a0]) C (sc_X10_isShelf l E σ a0 _ h) zwX10_237_X10_isShelf ztX10_237_X10_isShelf ⟨(Nat.le_of_ble_eq_true rfl), (Nat.le_of_ble_eq_true rfl)⟩ ⟨Nat.zero_le _, Nat.zero_le _⟩ rfl rfl (Nat.le_of_ble_eq_true rfl) dX10_keep_1 rfl (fun r2 σ1 h => ?_)
    obtain ⟨ht, hf⟩ := h
    refine z_if_ne (tgt := 9) (pc' := 7) C dX10_keep_4 (by decide) rfl (fun c3 => ?_) (fun c3 => ?_)
    · have h := ht c3
      refine z_iload_n (pc' := 10) C dX10_keep_9 rfl 2 rfl rfl ?_
      obtain ⟨hk, h⟩ := h
      by_cases c4 : a1 = 0
      · have h := hk c4
        refine z_tabIn (tgt := 44) C dX10_keep_10 0 c4 (by decide) (by decide) rfl (by decide) ?_
        refine z_aload_n (pc' := 45) C dX10_keep_44 rfl 0 rfl rfl ?_
        refine zgX10_29 (pc' := 48) C zo0 dX10_keep_45 rfl ?_
        refine z_iload_n (pc' := 49) C dX10_keep_48 rfl 1 rfl rfl ?_
        obtain ⟨hv5, h⟩ := h
        refine z_aald (n := 8) (t0 := 6) (q2 := 8) (pc' := 50) C (zL_mem (by decide) zo7) (fun _ => rfl) rfl hv5 dX10_keep_49 rfl ?_
        refine z_iconst (v := 0) (pc' := 51) C dX10_keep_50 (by decide) rfl ?_
        refine zpX10_240 (pc' := 54) C (zin hv5) dX10_keep_51 rfl ?_
        refine z_iconst (v := 0) (pc' := 55) C dX10_keep_54 (by decide) rfl ?_
        exact z_iret C dX10_keep_55 h
      obtain ⟨hk, h⟩ := h
      by_cases c6 : a1 = 1
      · have h := hk c6
        refine z_tabIn (tgt := 56) C dX10_keep_10 1 c6 (by decide) (by decide) rfl (by decide) ?_
        refine z_aload_n (pc' := 57) C dX10_keep_56 rfl 0 rfl rfl ?_
        refine z_aload_n (pc' := 58) C dX10_keep_57 rfl 0 rfl rfl ?_
        refine zgX10_29 (pc' := 61) C zo0 dX10_keep_58 rfl ?_
        refine z_iload_n (pc' := 62) C dX10_keep_61 rfl 1 rfl rfl ?_
        obtain ⟨hv7, h⟩ := h
        refine z_aald (n := 8) (t0 := 6) (q2 := 8) (pc' := 63) C (zL_mem (by decide) zo7) (fun _ => rfl) rfl hv7 dX10_keep_62 rfl ?_
        refine z_iload_n (pc' := 64) C dX10_keep_63 rfl 3 rfl rfl ?_
        refine z_callVi (q := 0) (i := 0) (w9 := (RX10, TX10, 12)) (pc' := 67) (st := []) (As := [.ref (E.2.2 8 a0.toNatClampNeg), .int a2]) C (sc_X10_keepPlot l E σ1 a0.toNatClampNeg a2 _ (zin hv7) h) zwX10_243_X10_keepPlot zvX10_243_X10_keepPlot.1 zvX10_243_X10_keepPlot.2 (zL_mem (by decide) zo0) rfl rfl ⟨(Nat.le_of_ble_eq_true rfl), (Nat.le_of_ble_eq_true rfl)⟩ ⟨Nat.zero_le _, Nat.zero_le _⟩ rfl rfl (Nat.le_of_ble_eq_true rfl) dX10_keep_64 rfl (fun r9 σ8 h => ?_)
        exact z_iret C dX10_keep_67 h
      obtain ⟨hk, h⟩ := h
      by_cases c10 : a1 = 2
      · have h := hk c10
        refine z_tabIn (tgt := 91) C dX10_keep_10 2 c10 (by decide) (by decide) rfl (by decide) ?_
        refine z_iconst (v := (-1)) (pc' := 92) C dX10_keep_91 (by decide) rfl ?_
        exact z_iret C dX10_keep_92 h
      obtain ⟨hk, h⟩ := h
      by_cases c11 : a1 = 3
      · have h := hk c11
        refine z_tabIn (tgt := 68) C dX10_keep_10 3 c11 (by decide) (by decide) rfl (by decide) ?_
        refine z_aload_n (pc' := 69) C dX10_keep_68 rfl 0 rfl rfl ?_
        refine z_aload_n (pc' := 70) C dX10_keep_69 rfl 0 rfl rfl ?_
        refine zgX10_29 (pc' := 73) C zo0 dX10_keep_70 rfl ?_
        refine z_iload_n (pc' := 74) C dX10_keep_73 rfl 1 rfl rfl ?_
        obtain ⟨hv12, h⟩ := h
        refine z_aald (n := 8) (t0 := 6) (q2 := 8) (pc' := 75) C (zL_mem (by decide) zo7) (fun _ => rfl) rfl hv12 dX10_keep_74 rfl ?_
        refine z_iload_n (pc' := 76) C dX10_keep_75 rfl 3 rfl rfl ?_
        refine z_callVi (q := 0) (i := 0) (w9 := (RX10, TX10, 12)) (pc' := 79) (st := []) (As := [.ref (E.2.2 8 a0.toNatClampNeg), .int a2]) C (sc_X10_keepWorths l E σ1 a0.toNatClampNeg a2 _ (zin hv12) h) zwX10_247_X10_keepWorths zvX10_247_X10_keepWorths.1 zvX10_247_X10_keepWorths.2 (zL_mem (by decide) zo0) rfl rfl ⟨(Nat.le_of_ble_eq_true rfl), (Nat.le_of_ble_eq_true rfl)⟩ ⟨Nat.zero_le _, Nat.zero_le _⟩ rfl rfl (Nat.le_of_ble_eq_true rfl) dX10_keep_76 rfl (fun r14 σ13 h => ?_)
        exact z_iret C dX10_keep_79 h
      obtain ⟨hk, h⟩ := h
      by_cases c15 : a1 = 4
      · have h := hk c15
        refine z_tabIn (tgt := 80) C dX10_keep_10 4 c15 (by decide) (by decide) rfl (by decide) ?_
        refine z_aload_n (pc' := 81) C dX10_keep_80 rfl 0 rfl rfl ?_
        refine z_aload_n (pc' := 82) C dX10_keep_81 rfl 0 rfl rfl ?_
        refine zgX10_29 (pc' := 85) C zo0 dX10_keep_82 rfl ?_
        refine z_iload_n (pc' := 86) C dX10_keep_85 rfl 1 rfl rfl ?_
        obtain ⟨hv16, h⟩ := h
        refine z_aald (n := 8) (t0 := 6) (q2 := 8) (pc' := 87) C (zL_mem (by decide) zo7) (fun _ => rfl) rfl hv16 dX10_keep_86 rfl ?_
        refine z_callVi (q := 0) (i := 0) (w9 := (RX10, TX10, 12)) (pc' := 90) (st := []) (As := [.ref (E.2.2 8 a0.toNatClampNeg)]) C (sc_X10_keepOwners l E σ1 a0.toNatClampNeg _ (zin hv16) h) zwX10_250_X10_keepOwners zvX10_250_X10_keepOwners.1 zvX10_250_X10_keepOwners.2 (zL_mem (by decide) zo0) rfl rfl ⟨(Nat.le_of_ble_eq_true rfl), (Nat.le_of_ble_eq_true rfl)⟩ ⟨Nat.zero_le _, Nat.zero_le _⟩ rfl rfl (Nat.le_of_ble_eq_true rfl) dX10_keep_87 rfl (fun r18 σ17 h => ?_)
        exact z_iret C dX10_keep_90 h
      have h := h c4 c6 c10 c11 c15
      refine z_tabOut (tgt := 91) C dX10_keep_10 (by have ec4 := lv_neT (a := 0) c4 rfl; have ec6 := lv_neT (a := 1) c6 rfl; have ec10 := lv_neT (a := 2) c10 rfl; have ec11 := lv_neT (a := 3) c11 rfl; have ec15 := lv_neT (a := 4) c15 rfl; omega) (by decide) ?_
      refine z_iconst (v := (-1)) (pc' := 92) C dX10_keep_91 (by decide) rfl ?_
      exact z_iret C dX10_keep_92 h
    · have h := hf c3
      refine z_iconst (v := (-1)) (pc' := 8) C dX10_keep_7 (by decide) rfl ?_
      exact z_iret C dX10_keep_8 h
  exact fin
def vc_X10_make (σ : zMem) (a0 : Int32) (a1 : Int32) (a2 : Int32) (Q : Int32 → zMem → Prop) : Prop := vc_X10_isShelf σ a0 (fun r2 σ1 => ((r2 = 0) → Q ((-1)) σ1) ∧ ((¬ r2 = 0) → ((a1 = 3) → ((a2 ≤ 60) → ((0 ≤ a2) → vp_in a0 8 ∧ vc_X7_takeRow σ1 a0.toNatClampNeg a1 a2 (fun σ8 => Q 0 σ8)) ∧ ((¬ 0 ≤ a2) → Q ((-14)) σ1)) ∧ ((¬ a2 ≤ 60) → Q ((-1)) σ1)) ∧ ((¬ a1 = 3) → ((¬ a1 = 4) → Q ((-1)) σ1) ∧ ((a1 = 4) → ((a2 ≤ 60) → ((0 ≤ a2) → vp_in a0 8 ∧ vc_X7_takeRow σ1 a0.toNatClampNeg a1 a2 (fun σ13 => Q 0 σ13)) ∧ ((¬ 0 ≤ a2) → Q ((-14)) σ1)) ∧ ((¬ a2 ≤ 60) → Q ((-1)) σ1)))))
set_option maxHeartbeats 4000000 in
set_option maxRecDepth 100000 in
theorem sc_X10_make (l : Launch) (E : zE) (σ : zMem) (a0 : Int32) (a1 : Int32) (a2 : Int32) (Q : Int32 → zMem → Prop) (h : vc_X10_make σ a0 a1 a2 Q) : zMi l yX10_make cX10_make 4 .int 2 45 E [.ref (E.2.2 0 0), .int a0, .int a1, .int a2] σ Q := by
  refine zMi_of (by decide) (Nat.le_of_ble_eq_true rfl) ?_
  intro p e s m args below meth c C
  unfold vc_X10_make at h
  have fin : zG p l e (zRm 2 45) s m args below meth c 4 E 0 0 (MQ below (va_Qi Q (zPost E) (zA E s.heap.size)) args s 0 0 (zA E s.heap.size)) σ 0 [(0, .ref (E.2.2 0 0)), (1, .int a0), (2, .int a1), (3, .int a2)] [] := by
    refine z_iload_n (pc' := 1) C dX10_make_0 rfl 1 rfl rfl ?_
    refine z_callSi (pc' := 4) (st := []) (As := [.int a0]) C (sc_X10_isShelf l E σ a0 _ h) zwX10_237_X10_isShelf ztX10_237_X10_isShelf ⟨(Nat.le_of_ble_eq_true rfl), (Nat.le_of_ble_eq_true rfl)⟩ ⟨Nat.zero_le _, Nat.zero_le _⟩ rfl rfl (Nat.le_of_ble_eq_true rfl) dX10_make_1 rfl (fun r2 σ1 h => ?_)
    obtain ⟨ht, hf⟩ := h
    refine z_if_eq (tgt := 23) (pc' := 7) C dX10_make_4 (by decide) rfl (fun c3 => ?_) (fun c3 => ?_)
    · have h := ht c3
      refine z_iconst (v := (-1)) (pc' := 24) C dX10_make_23 (by decide) rfl ?_
      exact z_iret C dX10_make_24 h
    · have h := hf c3
      refine z_iload_n (pc' := 8) C dX10_make_7 rfl 2 rfl rfl ?_
      refine z_iconst (v := 3) (pc' := 9) C dX10_make_8 (by decide) rfl ?_
      obtain ⟨ht, hf⟩ := h
      refine z_icmp_eq (tgt := 17) (pc' := 12) C dX10_make_9 (by decide) rfl (fun c4 => ?_) (fun c4 => ?_)
      · have h := ht c4
        refine z_iload_n (pc' := 18) C dX10_make_17 rfl 3 rfl rfl ?_
        refine z_bipush (v := 60) (pc' := 20) C dX10_make_18 (by decide) rfl ?_
        obtain ⟨ht, hf⟩ := h
        refine z_icmp_le (tgt := 25) (pc' := 23) C dX10_make_20 (by decide) rfl (fun c5 => ?_) (fun c5 => ?_)
        · have h := ht c5
          refine z_iload_n (pc' := 26) C dX10_make_25 rfl 3 rfl rfl ?_
          obtain ⟨ht, hf⟩ := h
          refine z_if_ge (tgt := 32) (pc' := 29) C dX10_make_26 (by decide) rfl (fun c6 => ?_) (fun c6 => ?_)
          · have h := ht c6
            refine z_aload_n (pc' := 33) C dX10_make_32 rfl 0 rfl rfl ?_
            refine zgX10_29 (pc' := 36) C zo0 dX10_make_33 rfl ?_
            refine z_iload_n (pc' := 37) C dX10_make_36 rfl 1 rfl rfl ?_
            obtain ⟨hv7, h⟩ := h
            refine z_aald (n := 8) (t0 := 6) (q2 := 8) (pc' := 38) C (zL_mem (by decide) zo7) (fun _ => rfl) rfl hv7 dX10_make_37 rfl ?_
            refine z_iload_n (pc' := 39) C dX10_make_38 rfl 2 rfl rfl ?_
            refine z_iload_n (pc' := 40) C dX10_make_39 rfl 3 rfl rfl ?_
            refine z_callVv (q := 8) (i := a0.toNatClampNeg) (w9 := (RX7, TX7, 7)) (pc' := 43) (st := []) (As := [.int a1, .int a2]) C (sc_X7_takeRow l E σ1 a0.toNatClampNeg a1 a2 _ (zin hv7) h) zwX10_254_X7_takeRow zvX10_254_X7_takeRow.1 zvX10_254_X7_takeRow.2 (zL_mem (by decide) (zin hv7)) rfl rfl ⟨(Nat.le_of_ble_eq_true rfl), (Nat.le_of_ble_eq_true rfl)⟩ ⟨Nat.zero_le _, Nat.zero_le _⟩ rfl rfl (Nat.le_of_ble_eq_true rfl) dX10_make_40 rfl (fun σ8 h => ?_)
            refine z_iconst (v := 0) (pc' := 44) C dX10_make_43 (by decide) rfl ?_
            exact z_iret C dX10_make_44 h
          · have h := hf c6
            refine z_bipush (v := (-14)) (pc' := 31) C dX10_make_29 (by decide) rfl ?_
            exact z_iret C dX10_make_31 h
        · have h := hf c5
          refine z_iconst (v := (-1)) (pc' := 24) C dX10_make_23 (by decide) rfl ?_
          exact z_iret C dX10_make_24 h
      · have h := hf c4
        refine z_iload_n (pc' := 13) C dX10_make_12 rfl 2 rfl rfl ?_
        refine z_iconst (v := 4) (pc' := 14) C dX10_make_13 (by decide) rfl ?_
        obtain ⟨ht, hf⟩ := h
        refine z_icmp_ne (tgt := 23) (pc' := 17) C dX10_make_14 (by decide) rfl (fun c9 => ?_) (fun c9 => ?_)
        · have h := ht c9
          refine z_iconst (v := (-1)) (pc' := 24) C dX10_make_23 (by decide) rfl ?_
          exact z_iret C dX10_make_24 h
        · have h := hf c9
          refine z_iload_n (pc' := 18) C dX10_make_17 rfl 3 rfl rfl ?_
          refine z_bipush (v := 60) (pc' := 20) C dX10_make_18 (by decide) rfl ?_
          obtain ⟨ht, hf⟩ := h
          refine z_icmp_le (tgt := 25) (pc' := 23) C dX10_make_20 (by decide) rfl (fun c10 => ?_) (fun c10 => ?_)
          · have h := ht c10
            refine z_iload_n (pc' := 26) C dX10_make_25 rfl 3 rfl rfl ?_
            obtain ⟨ht, hf⟩ := h
            refine z_if_ge (tgt := 32) (pc' := 29) C dX10_make_26 (by decide) rfl (fun c11 => ?_) (fun c11 => ?_)
            · have h := ht c11
              refine z_aload_n (pc' := 33) C dX10_make_32 rfl 0 rfl rfl ?_
              refine zgX10_29 (pc' := 36) C zo0 dX10_make_33 rfl ?_
              refine z_iload_n (pc' := 37) C dX10_make_36 rfl 1 rfl rfl ?_
              obtain ⟨hv12, h⟩ := h
              refine z_aald (n := 8) (t0 := 6) (q2 := 8) (pc' := 38) C (zL_mem (by decide) zo7) (fun _ => rfl) rfl hv12 dX10_make_37 rfl ?_
              refine z_iload_n (pc' := 39) C dX10_make_38 rfl 2 rfl rfl ?_
              refine z_iload_n (pc' := 40) C dX10_make_39 rfl 3 rfl rfl ?_
              refine z_callVv (q := 8) (i := a0.toNatClampNeg) (w9 := (RX7, TX7, 7)) (pc' := 43) (st := []) (As := [.int a1, .int a2]) C (sc_X7_takeRow l E σ1 a0.toNatClampNeg a1 a2 _ (zin hv12) h) zwX10_254_X7_takeRow zvX10_254_X7_takeRow.1 zvX10_254_X7_takeRow.2 (zL_mem (by decide) (zin hv12)) rfl rfl ⟨(Nat.le_of_ble_eq_true rfl), (Nat.le_of_ble_eq_true rfl)⟩ ⟨Nat.zero_le _, Nat.zero_le _⟩ rfl rfl (Nat.le_of_ble_eq_true rfl) dX10_make_40 rfl (fun σ13 h => ?_)
              refine z_iconst (v := 0) (pc' := 44) C dX10_make_43 (by decide) rfl ?_
              exact z_iret C dX10_make_44 h
            · have h := hf c11
              refine z_bipush (v := (-14)) (pc' := 31) C dX10_make_29 (by decide) rfl ?_
              exact z_iret C dX10_make_31 h
          · have h := hf c10
            refine z_iconst (v := (-1)) (pc' := 24) C dX10_make_23 (by decide) rfl ?_
            exact z_iret C dX10_make_24 h
  exact fin
def vc_X10_copy (σ : zMem) (a0 : Int32) (a1 : Int32) (a2 : Int32) (a3 : Int32) (a4 : Int32) (Q : Int32 → zMem → Prop) : Prop := vc_X10_isShelf σ a0 (fun r2 σ1 => ((r2 = 0) → Q ((-1)) σ1) ∧ ((¬ r2 = 0) → vc_X10_isShelf σ1 a2 (fun r5 σ4 => ((¬ r5 = 0) → vp_in a0 8 ∧ vp_in a2 8 ∧ (((σ4 8 a0.toNatClampNeg 0) = 0) → Q ((-11)) σ4) ∧ ((¬ (σ4 8 a0.toNatClampNeg 0) = 0) → ((¬ (σ4 8 a2.toNatClampNeg 0) = 0) → vc_X7_isRow σ4 a0.toNatClampNeg (fun r12 σ11 => ((r12 = 0) → Q ((-12)) σ11) ∧ ((¬ r12 = 0) → (((σ11 8 a0.toNatClampNeg 0) = (σ11 8 a2.toNatClampNeg 0)) → vc_X7_hasPlaces σ11 a0.toNatClampNeg a1 a4 (fun r16 σ15 => ((r16 = 0) → Q ((-13)) σ15) ∧ ((¬ r16 = 0) → vc_X7_hasPlaces σ15 a2.toNatClampNeg a3 a4 (fun r19 σ18 => ((¬ r19 = 0) → ((¬ (σ18 8 a0.toNatClampNeg 0) = 3) → (¬ a1 < 0) ∧ (¬ a3 < 0) ∧ (¬ a4 < 0) ∧ (a1.toNatClampNeg + a4.toNatClampNeg ≤ 60) ∧ (a3.toNatClampNeg + a4.toNatClampNeg ≤ 60) ∧ (∀ j, j < a4.toNatClampNeg → fits .byte (.int (σ18 10 a0.toNatClampNeg (a1.toNatClampNeg + j))) = true) ∧ Q a4 (zcp σ18 10 a0.toNatClampNeg 10 a2.toNatClampNeg a1.toNatClampNeg a3.toNatClampNeg a4.toNatClampNeg)) ∧ (((σ18 8 a0.toNatClampNeg 0) = 3) → (¬ a1 < 0) ∧ (¬ a3 < 0) ∧ (¬ a4 < 0) ∧ (a1.toNatClampNeg + a4.toNatClampNeg ≤ 60) ∧ (a3.toNatClampNeg + a4.toNatClampNeg ≤ 60) ∧ Q a4 (zcp σ18 9 a0.toNatClampNeg 9 a2.toNatClampNeg a1.toNatClampNeg a3.toNatClampNeg a4.toNatClampNeg))) ∧ ((r19 = 0) → Q ((-13)) σ18))))) ∧ ((¬ (σ11 8 a0.toNatClampNeg 0) = (σ11 8 a2.toNatClampNeg 0)) → Q ((-12)) σ11)))) ∧ (((σ4 8 a2.toNatClampNeg 0) = 0) → Q ((-11)) σ4))) ∧ ((r5 = 0) → Q ((-1)) σ4))))
set_option maxHeartbeats 4000000 in
set_option maxRecDepth 100000 in
theorem sc_X10_copy (l : Launch) (E : zE) (σ : zMem) (a0 : Int32) (a1 : Int32) (a2 : Int32) (a3 : Int32) (a4 : Int32) (Q : Int32 → zMem → Prop) (h : vc_X10_copy σ a0 a1 a2 a3 a4 Q) : zMi l yX10_copy cX10_copy 8 .int 1 60 E [.ref (E.2.2 0 0), .int a0, .int a1, .int a2, .int a3, .int a4] σ Q := by
  refine zMi_of (by decide) (Nat.le_of_ble_eq_true rfl) ?_
  intro p e s m args below meth c C
  unfold vc_X10_copy at h
  have fin : zG p l e (zRm 1 60) s m args below meth c 8 E 0 0 (MQ below (va_Qi Q (zPost E) (zA E s.heap.size)) args s 0 0 (zA E s.heap.size)) σ 0 [(0, .ref (E.2.2 0 0)), (1, .int a0), (2, .int a1), (3, .int a2), (4, .int a3), (5, .int a4)] [] := by
    refine z_iload_n (pc' := 1) C dX10_copy_0 rfl 1 rfl rfl ?_
    refine z_callSi (pc' := 4) (st := []) (As := [.int a0]) C (sc_X10_isShelf l E σ a0 _ h) zwX10_237_X10_isShelf ztX10_237_X10_isShelf ⟨(Nat.le_of_ble_eq_true rfl), (Nat.le_of_ble_eq_true rfl)⟩ ⟨Nat.zero_le _, Nat.zero_le _⟩ rfl rfl (Nat.le_of_ble_eq_true rfl) dX10_copy_1 rfl (fun r2 σ1 h => ?_)
    obtain ⟨ht, hf⟩ := h
    refine z_if_eq (tgt := 14) (pc' := 7) C dX10_copy_4 (by decide) rfl (fun c3 => ?_) (fun c3 => ?_)
    · have h := ht c3
      refine z_iconst (v := (-1)) (pc' := 15) C dX10_copy_14 (by decide) rfl ?_
      exact z_iret C dX10_copy_15 h
    · have h := hf c3
      refine z_iload_n (pc' := 8) C dX10_copy_7 rfl 3 rfl rfl ?_
      refine z_callSi (pc' := 11) (st := []) (As := [.int a2]) C (sc_X10_isShelf l E σ1 a2 _ h) zwX10_237_X10_isShelf ztX10_237_X10_isShelf ⟨(Nat.le_of_ble_eq_true rfl), (Nat.le_of_ble_eq_true rfl)⟩ ⟨Nat.zero_le _, Nat.zero_le _⟩ rfl rfl (Nat.le_of_ble_eq_true rfl) dX10_copy_8 rfl (fun r5 σ4 h => ?_)
      obtain ⟨ht, hf⟩ := h
      refine z_if_ne (tgt := 16) (pc' := 14) C dX10_copy_11 (by decide) rfl (fun c6 => ?_) (fun c6 => ?_)
      · have h := ht c6
        refine z_aload_n (pc' := 17) C dX10_copy_16 rfl 0 rfl rfl ?_
        refine zgX10_29 (pc' := 20) C zo0 dX10_copy_17 rfl ?_
        refine z_iload_n (pc' := 21) C dX10_copy_20 rfl 1 rfl rfl ?_
        obtain ⟨hv7, h⟩ := h
        refine z_aald (n := 8) (t0 := 6) (q2 := 8) (pc' := 22) C (zL_mem (by decide) zo7) (fun _ => rfl) rfl hv7 dX10_copy_21 rfl ?_
        refine z_astore (pc' := 24) (lv' := [(6, .ref (E.2.2 8 a0.toNatClampNeg)), (0, .ref (E.2.2 0 0)), (1, .int a0), (2, .int a1), (3, .int a2), (4, .int a3), (5, .int a4)]) C dX10_copy_22 (by decide) rfl rfl ?_
        refine z_aload_n (pc' := 25) C dX10_copy_24 rfl 1 rfl rfl ?_
        refine zgX10_29 (pc' := 28) C zo0 dX10_copy_25 rfl ?_
        refine z_iload_n (pc' := 29) C dX10_copy_28 rfl 4 rfl rfl ?_
        obtain ⟨hv8, h⟩ := h
        refine z_aald (n := 8) (t0 := 6) (q2 := 8) (pc' := 30) C (zL_mem (by decide) zo7) (fun _ => rfl) rfl hv8 dX10_copy_29 rfl ?_
        refine z_astore (pc' := 32) (lv' := [(7, .ref (E.2.2 8 a2.toNatClampNeg)), (6, .ref (E.2.2 8 a0.toNatClampNeg)), (0, .ref (E.2.2 0 0)), (1, .int a0), (2, .int a1), (3, .int a2), (4, .int a3), (5, .int a4)]) C dX10_copy_30 (by decide) rfl rfl ?_
        refine z_aload (pc' := 34) C dX10_copy_32 1 rfl rfl ?_
        refine zgX10_240 (pc' := 37) C (zin hv7) dX10_copy_34 rfl ?_
        obtain ⟨ht, hf⟩ := h
        refine z_if_eq (tgt := 48) (pc' := 40) C dX10_copy_37 (by decide) rfl (fun c9 => ?_) (fun c9 => ?_)
        · have h := ht c9
          refine z_bipush (v := (-11)) (pc' := 50) C dX10_copy_48 (by decide) rfl ?_
          exact z_iret C dX10_copy_50 h
        · have h := hf c9
          refine z_aload (pc' := 42) C dX10_copy_40 0 rfl rfl ?_
          refine zgX10_240 (pc' := 45) C (zin hv8) dX10_copy_42 rfl ?_
          obtain ⟨ht, hf⟩ := h
          refine z_if_ne (tgt := 51) (pc' := 48) C dX10_copy_45 (by decide) rfl (fun c10 => ?_) (fun c10 => ?_)
          · have h := ht c10
            refine z_aload (pc' := 53) C dX10_copy_51 1 rfl rfl ?_
            refine z_callVi (q := 8) (i := a0.toNatClampNeg) (w9 := (RX7, TX7, 7)) (pc' := 56) (st := []) (As := []) C (sc_X7_isRow l E σ4 a0.toNatClampNeg _ (zin hv7) h) zwX10_264_X7_isRow zvX10_264_X7_isRow.1 zvX10_264_X7_isRow.2 (zL_mem (by decide) (zin hv7)) rfl rfl ⟨(Nat.le_of_ble_eq_true rfl), (Nat.le_of_ble_eq_true rfl)⟩ ⟨Nat.zero_le _, Nat.zero_le _⟩ rfl rfl (Nat.le_of_ble_eq_true rfl) dX10_copy_53 rfl (fun r12 σ11 h => ?_)
            obtain ⟨ht, hf⟩ := h
            refine z_if_eq (tgt := 72) (pc' := 59) C dX10_copy_56 (by decide) rfl (fun c13 => ?_) (fun c13 => ?_)
            · have h := ht c13
              refine z_bipush (v := (-12)) (pc' := 74) C dX10_copy_72 (by decide) rfl ?_
              exact z_iret C dX10_copy_74 h
            · have h := hf c13
              refine z_aload (pc' := 61) C dX10_copy_59 1 rfl rfl ?_
              refine zgX10_240 (pc' := 64) C (zin hv7) dX10_copy_61 rfl ?_
              refine z_aload (pc' := 66) C dX10_copy_64 0 rfl rfl ?_
              refine zgX10_240 (pc' := 69) C (zin hv8) dX10_copy_66 rfl ?_
              obtain ⟨ht, hf⟩ := h
              refine z_icmp_eq (tgt := 75) (pc' := 72) C dX10_copy_69 (by decide) rfl (fun c14 => ?_) (fun c14 => ?_)
              · have h := ht c14
                refine z_aload (pc' := 77) C dX10_copy_75 1 rfl rfl ?_
                refine z_iload_n (pc' := 78) C dX10_copy_77 rfl 4 rfl rfl ?_
                refine z_iload (pc' := 80) C dX10_copy_78 7 rfl rfl ?_
                refine z_callVi (q := 8) (i := a0.toNatClampNeg) (w9 := (RX7, TX7, 7)) (pc' := 83) (st := []) (As := [.int a1, .int a4]) C (sc_X7_hasPlaces l E σ11 a0.toNatClampNeg a1 a4 _ (zin hv7) h) zwX10_284_X7_hasPlaces zvX10_284_X7_hasPlaces.1 zvX10_284_X7_hasPlaces.2 (zL_mem (by decide) (zin hv7)) rfl rfl ⟨(Nat.le_of_ble_eq_true rfl), (Nat.le_of_ble_eq_true rfl)⟩ ⟨Nat.zero_le _, Nat.zero_le _⟩ rfl rfl (Nat.le_of_ble_eq_true rfl) dX10_copy_80 rfl (fun r16 σ15 h => ?_)
                obtain ⟨ht, hf⟩ := h
                refine z_if_eq (tgt := 98) (pc' := 86) C dX10_copy_83 (by decide) rfl (fun c17 => ?_) (fun c17 => ?_)
                · have h := ht c17
                  refine z_bipush (v := (-13)) (pc' := 100) C dX10_copy_98 (by decide) rfl ?_
                  exact z_iret C dX10_copy_100 h
                · have h := hf c17
                  refine z_aload (pc' := 88) C dX10_copy_86 0 rfl rfl ?_
                  refine z_iload (pc' := 90) C dX10_copy_88 6 rfl rfl ?_
                  refine z_iload (pc' := 92) C dX10_copy_90 7 rfl rfl ?_
                  refine z_callVi (q := 8) (i := a2.toNatClampNeg) (w9 := (RX7, TX7, 7)) (pc' := 95) (st := []) (As := [.int a3, .int a4]) C (sc_X7_hasPlaces l E σ15 a2.toNatClampNeg a3 a4 _ (zin hv8) h) zwX10_284_X7_hasPlaces zvX10_284_X7_hasPlaces.1 zvX10_284_X7_hasPlaces.2 (zL_mem (by decide) (zin hv8)) rfl rfl ⟨(Nat.le_of_ble_eq_true rfl), (Nat.le_of_ble_eq_true rfl)⟩ ⟨Nat.zero_le _, Nat.zero_le _⟩ rfl rfl (Nat.le_of_ble_eq_true rfl) dX10_copy_92 rfl (fun r19 σ18 h => ?_)
                  obtain ⟨ht, hf⟩ := h
                  refine z_if_ne (tgt := 101) (pc' := 98) C dX10_copy_95 (by decide) rfl (fun c20 => ?_) (fun c20 => ?_)
                  · have h := ht c20
                    refine z_aload (pc' := 103) C dX10_copy_101 1 rfl rfl ?_
                    refine zgX10_240 (pc' := 106) C (zin hv7) dX10_copy_103 rfl ?_
                    refine z_iconst (v := 3) (pc' := 107) C dX10_copy_106 (by decide) rfl ?_
                    obtain ⟨ht, hf⟩ := h
                    refine z_icmp_ne (tgt := 131) (pc' := 110) C dX10_copy_107 (by decide) rfl (fun c21 => ?_) (fun c21 => ?_)
                    · have h := ht c21
                      refine z_aload (pc' := 133) C dX10_copy_131 1 rfl rfl ?_
                      refine zgX10_280 (pc' := 136) C (zin hv7) dX10_copy_133 rfl ?_
                      refine z_iload_n (pc' := 137) C dX10_copy_136 rfl 4 rfl rfl ?_
                      refine z_aload (pc' := 139) C dX10_copy_137 0 rfl rfl ?_
                      refine zgX10_280 (pc' := 142) C (zin hv8) dX10_copy_139 rfl ?_
                      refine z_iload (pc' := 144) C dX10_copy_142 6 rfl rfl ?_
                      refine z_iload (pc' := 146) C dX10_copy_144 7 rfl rfl ?_
                      obtain ⟨k4, k5, k6, k7, k8, kf, h⟩ := h
                      refine z_bcopy (pc' := 149) C (zL_mem (by decide) (zin hv7)) (fun _ => rfl) (zL_mem (by decide) (zin hv8)) (fun _ => rfl) k4 k5 k6 k7 k8 kf (Nat.le_of_ble_eq_true rfl) (Nat.le_of_ble_eq_true rfl) dX10_copy_146 rfl ?_
                      refine z_iload (pc' := 151) C dX10_copy_149 7 rfl rfl ?_
                      exact z_iret C dX10_copy_151 h
                    · have h := hf c21
                      refine z_aload (pc' := 112) C dX10_copy_110 1 rfl rfl ?_
                      refine zgX10_277 (pc' := 115) C (zin hv7) dX10_copy_112 rfl ?_
                      refine z_iload_n (pc' := 116) C dX10_copy_115 rfl 4 rfl rfl ?_
                      refine z_aload (pc' := 118) C dX10_copy_116 0 rfl rfl ?_
                      refine zgX10_277 (pc' := 121) C (zin hv8) dX10_copy_118 rfl ?_
                      refine z_iload (pc' := 123) C dX10_copy_121 6 rfl rfl ?_
                      refine z_iload (pc' := 125) C dX10_copy_123 7 rfl rfl ?_
                      obtain ⟨k4, k5, k6, k7, k8, h⟩ := h
                      refine z_icopy (pc' := 128) C (zL_mem (by decide) (zin hv7)) (fun _ => rfl) (zL_mem (by decide) (zin hv8)) (fun _ => rfl) k4 k5 k6 k7 k8 (Nat.le_of_ble_eq_true rfl) (Nat.le_of_ble_eq_true rfl) dX10_copy_125 rfl ?_
                      refine z_goto (tgt := 149) C dX10_copy_128 (by decide) ?_
                      refine z_iload (pc' := 151) C dX10_copy_149 7 rfl rfl ?_
                      exact z_iret C dX10_copy_151 h
                  · have h := hf c20
                    refine z_bipush (v := (-13)) (pc' := 100) C dX10_copy_98 (by decide) rfl ?_
                    exact z_iret C dX10_copy_100 h
              · have h := hf c14
                refine z_bipush (v := (-12)) (pc' := 74) C dX10_copy_72 (by decide) rfl ?_
                exact z_iret C dX10_copy_74 h
          · have h := hf c10
            refine z_bipush (v := (-11)) (pc' := 50) C dX10_copy_48 (by decide) rfl ?_
            exact z_iret C dX10_copy_50 h
      · have h := hf c6
        refine z_iconst (v := (-1)) (pc' := 15) C dX10_copy_14 (by decide) rfl ?_
        exact z_iret C dX10_copy_15 h
  exact fin
def vc_X10_refusalOfPlotOn (σ : zMem) (a0 : Int32) (Q : Int32 → zMem → Prop) : Prop := vc_X10_isShelf σ a0 (fun r2 σ1 => ((¬ r2 = 0) → vp_in a0 8 ∧ ((¬ (σ1 8 a0.toNatClampNeg 0) = 0) → vp_in a0 8 ∧ ((¬ (σ1 8 a0.toNatClampNeg 0) = 1) → Q ((-12)) σ1) ∧ (((σ1 8 a0.toNatClampNeg 0) = 1) → Q 0 σ1)) ∧ (((σ1 8 a0.toNatClampNeg 0) = 0) → Q ((-11)) σ1)) ∧ ((r2 = 0) → Q ((-1)) σ1))
set_option maxHeartbeats 4000000 in
set_option maxRecDepth 100000 in
theorem sc_X10_refusalOfPlotOn (l : Launch) (E : zE) (σ : zMem) (a0 : Int32) (Q : Int32 → zMem → Prop) (h : vc_X10_refusalOfPlotOn σ a0 Q) : zMi l yX10_refusalOfPlotOn cX10_refusalOfPlotOn 2 .int 1 20 E [.ref (E.2.2 0 0), .int a0] σ Q := by
  refine zMi_of (by decide) (Nat.le_of_ble_eq_true rfl) ?_
  intro p e s m args below meth c C
  unfold vc_X10_refusalOfPlotOn at h
  have fin : zG p l e (zRm 1 20) s m args below meth c 2 E 0 0 (MQ below (va_Qi Q (zPost E) (zA E s.heap.size)) args s 0 0 (zA E s.heap.size)) σ 0 [(0, .ref (E.2.2 0 0)), (1, .int a0)] [] := by
    refine z_iload_n (pc' := 1) C dX10_refusalOfPlotOn_0 rfl 1 rfl rfl ?_
    refine z_callSi (pc' := 4) (st := []) (As := [.int a0]) C (sc_X10_isShelf l E σ a0 _ h) zwX10_237_X10_isShelf ztX10_237_X10_isShelf ⟨(Nat.le_of_ble_eq_true rfl), (Nat.le_of_ble_eq_true rfl)⟩ ⟨Nat.zero_le _, Nat.zero_le _⟩ rfl rfl (Nat.le_of_ble_eq_true rfl) dX10_refusalOfPlotOn_1 rfl (fun r2 σ1 h => ?_)
    obtain ⟨ht, hf⟩ := h
    refine z_if_ne (tgt := 9) (pc' := 7) C dX10_refusalOfPlotOn_4 (by decide) rfl (fun c3 => ?_) (fun c3 => ?_)
    · have h := ht c3
      refine z_aload_n (pc' := 10) C dX10_refusalOfPlotOn_9 rfl 0 rfl rfl ?_
      refine zgX10_29 (pc' := 13) C zo0 dX10_refusalOfPlotOn_10 rfl ?_
      refine z_iload_n (pc' := 14) C dX10_refusalOfPlotOn_13 rfl 1 rfl rfl ?_
      obtain ⟨hv4, h⟩ := h
      refine z_aald (n := 8) (t0 := 6) (q2 := 8) (pc' := 15) C (zL_mem (by decide) zo7) (fun _ => rfl) rfl hv4 dX10_refusalOfPlotOn_14 rfl ?_
      refine zgX10_240 (pc' := 18) C (zin hv4) dX10_refusalOfPlotOn_15 rfl ?_
      obtain ⟨ht, hf⟩ := h
      refine z_if_ne (tgt := 24) (pc' := 21) C dX10_refusalOfPlotOn_18 (by decide) rfl (fun c5 => ?_) (fun c5 => ?_)
      · have h := ht c5
        refine z_aload_n (pc' := 25) C dX10_refusalOfPlotOn_24 rfl 0 rfl rfl ?_
        refine zgX10_29 (pc' := 28) C zo0 dX10_refusalOfPlotOn_25 rfl ?_
        refine z_iload_n (pc' := 29) C dX10_refusalOfPlotOn_28 rfl 1 rfl rfl ?_
        obtain ⟨hv6, h⟩ := h
        refine z_aald (n := 8) (t0 := 6) (q2 := 8) (pc' := 30) C (zL_mem (by decide) zo7) (fun _ => rfl) rfl hv6 dX10_refusalOfPlotOn_29 rfl ?_
        refine zgX10_240 (pc' := 33) C (zin hv6) dX10_refusalOfPlotOn_30 rfl ?_
        refine z_iconst (v := 1) (pc' := 34) C dX10_refusalOfPlotOn_33 (by decide) rfl ?_
        obtain ⟨ht, hf⟩ := h
        refine z_icmp_ne (tgt := 41) (pc' := 37) C dX10_refusalOfPlotOn_34 (by decide) rfl (fun c7 => ?_) (fun c7 => ?_)
        · have h := ht c7
          refine z_bipush (v := (-12)) (pc' := 43) C dX10_refusalOfPlotOn_41 (by decide) rfl ?_
          exact z_iret C dX10_refusalOfPlotOn_43 h
        · have h := hf c7
          refine z_iconst (v := 0) (pc' := 38) C dX10_refusalOfPlotOn_37 (by decide) rfl ?_
          refine z_goto (tgt := 43) C dX10_refusalOfPlotOn_38 (by decide) ?_
          exact z_iret C dX10_refusalOfPlotOn_43 h
      · have h := hf c5
        refine z_bipush (v := (-11)) (pc' := 23) C dX10_refusalOfPlotOn_21 (by decide) rfl ?_
        exact z_iret C dX10_refusalOfPlotOn_23 h
    · have h := hf c3
      refine z_iconst (v := (-1)) (pc' := 8) C dX10_refusalOfPlotOn_7 (by decide) rfl ?_
      exact z_iret C dX10_refusalOfPlotOn_8 h
  exact fin
def vc_X10_weight (σ : zMem) (a0 : Int32) (Q : Int32 → zMem → Prop) : Prop := vc_X10_refusalOfPlotOn σ a0 (fun r2 σ1 => ((r2 = 0) → vp_in a0 8 ∧ (σ1 8 a0.toNatClampNeg 2).toNatClampNeg < zcnt 2 ∧ vp_in a0 8 ∧ Q (zheft ((σ1 8 a0.toNatClampNeg 2).toNatClampNeg) (σ1 8 a0.toNatClampNeg 3)) σ1) ∧ ((¬ r2 = 0) → Q r2 σ1))
set_option maxHeartbeats 4000000 in
set_option maxRecDepth 100000 in
theorem sc_X10_weight (l : Launch) (E : zE) (σ : zMem) (a0 : Int32) (Q : Int32 → zMem → Prop) (h : vc_X10_weight σ a0 Q) : zMi l yX10_weight cX10_weight 3 .int 3 80 E [.ref (E.2.2 0 0), .int a0] σ Q := by
  refine zMi_of (by decide) (Nat.le_of_ble_eq_true rfl) ?_
  intro p e s m args below meth c C
  unfold vc_X10_weight at h
  have fin : zG p l e (zRm 3 80) s m args below meth c 3 E 0 0 (MQ below (va_Qi Q (zPost E) (zA E s.heap.size)) args s 0 0 (zA E s.heap.size)) σ 0 [(0, .ref (E.2.2 0 0)), (1, .int a0)] [] := by
    refine z_aload_n (pc' := 1) C dX10_weight_0 rfl 0 rfl rfl ?_
    refine z_iload_n (pc' := 2) C dX10_weight_1 rfl 1 rfl rfl ?_
    refine z_callVi (q := 0) (i := 0) (w9 := (RX10, TX10, 12)) (pc' := 5) (st := []) (As := [.int a0]) C (sc_X10_refusalOfPlotOn l E σ a0 _ h) zwX10_293_X10_refusalOfPlotOn zvX10_293_X10_refusalOfPlotOn.1 zvX10_293_X10_refusalOfPlotOn.2 (zL_mem (by decide) zo0) rfl rfl ⟨(Nat.le_of_ble_eq_true rfl), (Nat.le_of_ble_eq_true rfl)⟩ ⟨Nat.zero_le _, Nat.zero_le _⟩ rfl rfl (Nat.le_of_ble_eq_true rfl) dX10_weight_2 rfl (fun r2 σ1 h => ?_)
    refine z_istore_n (pc' := 6) (lv' := [(2, .int r2), (0, .ref (E.2.2 0 0)), (1, .int a0)]) C dX10_weight_5 rfl (by decide) rfl rfl ?_
    refine z_iload_n (pc' := 7) C dX10_weight_6 rfl 0 rfl rfl ?_
    obtain ⟨ht, hf⟩ := h
    refine z_if_eq (tgt := 12) (pc' := 10) C dX10_weight_7 (by decide) rfl (fun c3 => ?_) (fun c3 => ?_)
    · have h := ht c3
      refine z_aload_n (pc' := 13) C dX10_weight_12 rfl 1 rfl rfl ?_
      refine zgX10_29 (pc' := 16) C zo0 dX10_weight_13 rfl ?_
      refine z_iload_n (pc' := 17) C dX10_weight_16 rfl 2 rfl rfl ?_
      obtain ⟨hv4, h⟩ := h
      refine z_aald (n := 8) (t0 := 6) (q2 := 8) (pc' := 18) C (zL_mem (by decide) zo7) (fun _ => rfl) rfl hv4 dX10_weight_17 rfl ?_
      obtain ⟨hg5, h⟩ := h
      refine zgX10_296 (pc' := 21) C (zin hv4) dX10_weight_18 rfl ?_
      refine z_aload_n (pc' := 22) C dX10_weight_21 rfl 1 rfl rfl ?_
      refine zgX10_29 (pc' := 25) C zo0 dX10_weight_22 rfl ?_
      refine z_iload_n (pc' := 26) C dX10_weight_25 rfl 2 rfl rfl ?_
      obtain ⟨hv6, h⟩ := h
      refine z_aald (n := 8) (t0 := 6) (q2 := 8) (pc' := 27) C (zL_mem (by decide) zo7) (fun _ => rfl) rfl hv6 dX10_weight_26 rfl ?_
      refine zgX10_297 (pc' := 30) C (zin hv6) dX10_weight_27 rfl ?_
      refine zdX10_298 (pc' := 33) (st := []) C hg5 (Nat.le_of_ble_eq_true rfl) (Nat.le_of_ble_eq_true rfl) (Nat.zero_le _) (Nat.zero_le _) (Nat.le_of_ble_eq_true rfl) dX10_weight_30 rfl ?_
      exact z_iret C dX10_weight_33 h
    · have h := hf c3
      refine z_iload_n (pc' := 11) C dX10_weight_10 rfl 0 rfl rfl ?_
      exact z_iret C dX10_weight_11 h
  exact fin
def vc_X11_thrown (σ : zMem) (Q : Int32 → zMem → Prop) : Prop := Q (σ 22 0 0) σ
set_option maxHeartbeats 4000000 in
set_option maxRecDepth 100000 in
theorem sc_X11_thrown (l : Launch) (E : zE) (σ : zMem) (Q : Int32 → zMem → Prop) (h : vc_X11_thrown σ Q) : zMi l yX11_thrown cX11_thrown 1 .int 0 0 E [.ref (E.2.2 22 0)] σ Q := by
  refine zMi_of (by decide) (Nat.le_of_ble_eq_true rfl) ?_
  intro p e s m args below meth c C
  unfold vc_X11_thrown at h
  have fin : zG p l e (zRm 0 0) s m args below meth c 1 E 0 0 (MQ below (va_Qi Q (zPost E) (zA E s.heap.size)) args s 0 0 (zA E s.heap.size)) σ 0 [(0, .ref (E.2.2 22 0))] [] := by
    refine z_aload_n (pc' := 1) C dX11_thrown_0 rfl 0 rfl rfl ?_
    refine zgX11_111 (pc' := 4) C zo22 dX11_thrown_1 rfl ?_
    exact z_iret C dX11_thrown_4 h
  exact fin
def vc_X11_in (σ : zMem) (a0 : Int32) (a1 : Int32) (a2 : Int32) (Q : Int32 → zMem → Prop) : Prop := ((a0 < a1) → Q 0 σ) ∧ ((¬ a0 < a1) → ((a2 < a0) → Q 0 σ) ∧ ((¬ a2 < a0) → Q 1 σ))
set_option maxHeartbeats 4000000 in
set_option maxRecDepth 100000 in
theorem sc_X11_in (l : Launch) (E : zE) (σ : zMem) (a0 : Int32) (a1 : Int32) (a2 : Int32) (Q : Int32 → zMem → Prop) (h : vc_X11_in σ a0 a1 a2 Q) : zMi l yX11_in cX11_in 3 .boolean 0 0 E [.int a0, .int a1, .int a2] σ Q := by
  refine zMi_of (by decide) (Nat.le_of_ble_eq_true rfl) ?_
  intro p e s m args below meth c C
  unfold vc_X11_in at h
  have fin : zG p l e (zRm 0 0) s m args below meth c 3 E 0 0 (MQ below (va_Qi Q (zPost E) (zA E s.heap.size)) args s 0 0 (zA E s.heap.size)) σ 0 [(0, .int a0), (1, .int a1), (2, .int a2)] [] := by
    refine z_iload_n (pc' := 1) C dX11_in_0 rfl 0 rfl rfl ?_
    refine z_iload_n (pc' := 2) C dX11_in_1 rfl 1 rfl rfl ?_
    obtain ⟨ht, hf⟩ := h
    refine z_icmp_lt (tgt := 14) (pc' := 5) C dX11_in_2 (by decide) rfl (fun c1 => ?_) (fun c1 => ?_)
    · have h := ht c1
      refine z_iconst (v := 0) (pc' := 15) C dX11_in_14 (by decide) rfl ?_
      exact z_zret C rfl dX11_in_15 h
    · have h := hf c1
      refine z_iload_n (pc' := 6) C dX11_in_5 rfl 0 rfl rfl ?_
      refine z_iload_n (pc' := 7) C dX11_in_6 rfl 2 rfl rfl ?_
      obtain ⟨ht, hf⟩ := h
      refine z_icmp_gt (tgt := 14) (pc' := 10) C dX11_in_7 (by decide) rfl (fun c2 => ?_) (fun c2 => ?_)
      · have h := ht c2
        refine z_iconst (v := 0) (pc' := 15) C dX11_in_14 (by decide) rfl ?_
        exact z_zret C rfl dX11_in_15 h
      · have h := hf c2
        refine z_iconst (v := 1) (pc' := 11) C dX11_in_10 (by decide) rfl ?_
        refine z_goto (tgt := 15) C dX11_in_11 (by decide) ?_
        exact z_zret C rfl dX11_in_15 h
  exact fin
def vc_X11_isPlot (σ : zMem) (a0 : Int32) (Q : Int32 → zMem → Prop) : Prop := vc_X11_in σ a0 0 23 (fun r2 σ1 => zbool r2 ∧ Q r2 σ1)
set_option maxHeartbeats 4000000 in
set_option maxRecDepth 100000 in
theorem sc_X11_isPlot (l : Launch) (E : zE) (σ : zMem) (a0 : Int32) (Q : Int32 → zMem → Prop) (h : vc_X11_isPlot σ a0 Q) : zMi l yX11_isPlot cX11_isPlot 1 .boolean 1 22 E [.int a0] σ Q := by
  refine zMi_of (by decide) (Nat.le_of_ble_eq_true rfl) ?_
  intro p e s m args below meth c C
  unfold vc_X11_isPlot at h
  have fin : zG p l e (zRm 1 22) s m args below meth c 1 E 0 0 (MQ below (va_Qi Q (zPost E) (zA E s.heap.size)) args s 0 0 (zA E s.heap.size)) σ 0 [(0, .int a0)] [] := by
    refine z_iload_n (pc' := 1) C dX11_isPlot_0 rfl 0 rfl rfl ?_
    refine z_iconst (v := 0) (pc' := 2) C dX11_isPlot_1 (by decide) rfl ?_
    refine z_bipush (v := 23) (pc' := 4) C dX11_isPlot_2 (by decide) rfl ?_
    refine z_callSi (pc' := 7) (st := []) (As := [.int a0, .int 0, .int 23]) C (sc_X11_in l E σ a0 0 23 _ h) zwX11_114_X11_in ztX11_114_X11_in ⟨(Nat.le_of_ble_eq_true rfl), (Nat.le_of_ble_eq_true rfl)⟩ ⟨Nat.zero_le _, Nat.zero_le _⟩ rfl rfl (Nat.le_of_ble_eq_true rfl) dX11_isPlot_4 rfl (fun r2 σ1 h => ?_)
    exact z_zret C (zbn h.1) dX11_isPlot_7 h.2
  exact fin
def vc_X11_isBuyer (σ : zMem) (a0 : Int32) (Q : Int32 → zMem → Prop) : Prop := vc_X11_in σ a0 0 ((σ 22 0 9) - 1) (fun r2 σ1 => zbool r2 ∧ Q r2 σ1)
set_option maxHeartbeats 4000000 in
set_option maxRecDepth 100000 in
theorem sc_X11_isBuyer (l : Launch) (E : zE) (σ : zMem) (a0 : Int32) (Q : Int32 → zMem → Prop) (h : vc_X11_isBuyer σ a0 Q) : zMi l yX11_isBuyer cX11_isBuyer 2 .boolean 1 22 E [.ref (E.2.2 22 0), .int a0] σ Q := by
  refine zMi_of (by decide) (Nat.le_of_ble_eq_true rfl) ?_
  intro p e s m args below meth c C
  unfold vc_X11_isBuyer at h
  have fin : zG p l e (zRm 1 22) s m args below meth c 2 E 0 0 (MQ below (va_Qi Q (zPost E) (zA E s.heap.size)) args s 0 0 (zA E s.heap.size)) σ 0 [(0, .ref (E.2.2 22 0)), (1, .int a0)] [] := by
    refine z_iload_n (pc' := 1) C dX11_isBuyer_0 rfl 1 rfl rfl ?_
    refine z_iconst (v := 0) (pc' := 2) C dX11_isBuyer_1 (by decide) rfl ?_
    refine z_aload_n (pc' := 3) C dX11_isBuyer_2 rfl 0 rfl rfl ?_
    refine zgX11_118 (pc' := 6) C zo22 dX11_isBuyer_3 rfl ?_
    refine z_iconst (v := 1) (pc' := 7) C dX11_isBuyer_6 (by decide) rfl ?_
    refine z_isub (pc' := 8) C dX11_isBuyer_7 rfl ?_
    refine z_callSi (pc' := 11) (st := []) (As := [.int a0, .int 0, .int ((σ 22 0 9) - 1)]) C (sc_X11_in l E σ a0 0 ((σ 22 0 9) - 1) _ h) zwX11_114_X11_in ztX11_114_X11_in ⟨(Nat.le_of_ble_eq_true rfl), (Nat.le_of_ble_eq_true rfl)⟩ ⟨Nat.zero_le _, Nat.zero_le _⟩ rfl rfl (Nat.le_of_ble_eq_true rfl) dX11_isBuyer_8 rfl (fun r2 σ1 h => ?_)
    exact z_zret C (zbn h.1) dX11_isBuyer_11 h.2
  exact fin
def vc_X11_plot (σ : zMem) (a0 : Int32) (a1 : Int32) (a2 : Int32) (Q : Int32 → zMem → Prop) : Prop := vc_X11_isPlot σ a0 (fun r2 σ1 => ((r2 = 0) → Q ((-1)) σ1) ∧ ((¬ r2 = 0) → vc_X11_in σ1 a1 0 3 (fun r5 σ4 => ((r5 = 0) → Q ((-1)) σ4) ∧ ((¬ r5 = 0) → vc_X11_in σ4 a2 0 200 (fun r8 σ7 => ((¬ r8 = 0) → vp_in a0 24 ∧ (((σ7 25 0 a0.toNatClampNeg) = 0) → vp_in a0 24 ∧ vp_in a0 24 ∧ vp_in a0 24 ∧ Q (σ7 24 0 a0.toNatClampNeg) (um (um σ7 23 0 a0.toNatClampNeg a1) 24 0 a0.toNatClampNeg a2)) ∧ ((¬ (σ7 25 0 a0.toNatClampNeg) = 0) → Q ((-3)) σ7)) ∧ ((r8 = 0) → Q ((-1)) σ7))))))
set_option maxHeartbeats 4000000 in
set_option maxRecDepth 100000 in
theorem sc_X11_plot (l : Launch) (E : zE) (σ : zMem) (a0 : Int32) (a1 : Int32) (a2 : Int32) (Q : Int32 → zMem → Prop) (h : vc_X11_plot σ a0 a1 a2 Q) : zMi l yX11_plot cX11_plot 5 .int 2 42 E [.ref (E.2.2 22 0), .int a0, .int a1, .int a2] σ Q := by
  refine zMi_of (by decide) (Nat.le_of_ble_eq_true rfl) ?_
  intro p e s m args below meth c C
  unfold vc_X11_plot at h
  have fin : zG p l e (zRm 2 42) s m args below meth c 5 E 0 0 (MQ below (va_Qi Q (zPost E) (zA E s.heap.size)) args s 0 0 (zA E s.heap.size)) σ 0 [(0, .ref (E.2.2 22 0)), (1, .int a0), (2, .int a1), (3, .int a2)] [] := by
    refine z_iload_n (pc' := 1) C dX11_plot_0 rfl 1 rfl rfl ?_
    refine z_callSi (pc' := 4) (st := []) (As := [.int a0]) C (sc_X11_isPlot l E σ a0 _ h) zwX11_121_X11_isPlot ztX11_121_X11_isPlot ⟨(Nat.le_of_ble_eq_true rfl), (Nat.le_of_ble_eq_true rfl)⟩ ⟨Nat.zero_le _, Nat.zero_le _⟩ rfl rfl (Nat.le_of_ble_eq_true rfl) dX11_plot_1 rfl (fun r2 σ1 h => ?_)
    obtain ⟨ht, hf⟩ := h
    refine z_if_eq (tgt := 27) (pc' := 7) C dX11_plot_4 (by decide) rfl (fun c3 => ?_) (fun c3 => ?_)
    · have h := ht c3
      refine z_iconst (v := (-1)) (pc' := 28) C dX11_plot_27 (by decide) rfl ?_
      exact z_iret C dX11_plot_28 h
    · have h := hf c3
      refine z_iload_n (pc' := 8) C dX11_plot_7 rfl 2 rfl rfl ?_
      refine z_iconst (v := 0) (pc' := 9) C dX11_plot_8 (by decide) rfl ?_
      refine z_iconst (v := 3) (pc' := 10) C dX11_plot_9 (by decide) rfl ?_
      refine z_callSi (pc' := 13) (st := []) (As := [.int a1, .int 0, .int 3]) C (sc_X11_in l E σ1 a1 0 3 _ h) zwX11_114_X11_in ztX11_114_X11_in ⟨(Nat.le_of_ble_eq_true rfl), (Nat.le_of_ble_eq_true rfl)⟩ ⟨Nat.zero_le _, Nat.zero_le _⟩ rfl rfl (Nat.le_of_ble_eq_true rfl) dX11_plot_10 rfl (fun r5 σ4 h => ?_)
      obtain ⟨ht, hf⟩ := h
      refine z_if_eq (tgt := 27) (pc' := 16) C dX11_plot_13 (by decide) rfl (fun c6 => ?_) (fun c6 => ?_)
      · have h := ht c6
        refine z_iconst (v := (-1)) (pc' := 28) C dX11_plot_27 (by decide) rfl ?_
        exact z_iret C dX11_plot_28 h
      · have h := hf c6
        refine z_iload_n (pc' := 17) C dX11_plot_16 rfl 3 rfl rfl ?_
        refine z_iconst (v := 0) (pc' := 18) C dX11_plot_17 (by decide) rfl ?_
        refine z_sipush (v := 200) (pc' := 21) C dX11_plot_18 (by decide) rfl ?_
        refine z_callSi (pc' := 24) (st := []) (As := [.int a2, .int 0, .int 200]) C (sc_X11_in l E σ4 a2 0 200 _ h) zwX11_114_X11_in ztX11_114_X11_in ⟨(Nat.le_of_ble_eq_true rfl), (Nat.le_of_ble_eq_true rfl)⟩ ⟨Nat.zero_le _, Nat.zero_le _⟩ rfl rfl (Nat.le_of_ble_eq_true rfl) dX11_plot_21 rfl (fun r8 σ7 h => ?_)
        obtain ⟨ht, hf⟩ := h
        refine z_if_ne (tgt := 29) (pc' := 27) C dX11_plot_24 (by decide) rfl (fun c9 => ?_) (fun c9 => ?_)
        · have h := ht c9
          refine z_aload_n (pc' := 30) C dX11_plot_29 rfl 0 rfl rfl ?_
          refine zgX11_16 (pc' := 33) C zo22 dX11_plot_30 rfl ?_
          refine z_iload_n (pc' := 34) C dX11_plot_33 rfl 1 rfl rfl ?_
          obtain ⟨hv10, h⟩ := h
          refine z_zald (n := 24) (pc' := 35) C (zL_mem (by decide) zo25) (fun _ => rfl) hv10 dX11_plot_34 rfl ?_
          obtain ⟨ht, hf⟩ := h
          refine z_if_eq (tgt := 41) (pc' := 38) C dX11_plot_35 (by decide) rfl (fun c11 => ?_) (fun c11 => ?_)
          · have h := ht c11
            refine z_aload_n (pc' := 42) C dX11_plot_41 rfl 0 rfl rfl ?_
            refine zgX11_13 (pc' := 45) C zo22 dX11_plot_42 rfl ?_
            refine z_iload_n (pc' := 46) C dX11_plot_45 rfl 1 rfl rfl ?_
            obtain ⟨hv12, h⟩ := h
            refine z_iald (n := 24) (pc' := 47) C (zL_mem (by decide) zo24) (fun _ => rfl) hv12 dX11_plot_46 rfl ?_
            refine z_istore (pc' := 49) (lv' := [(4, .int (σ7 24 0 a0.toNatClampNeg)), (0, .ref (E.2.2 22 0)), (1, .int a0), (2, .int a1), (3, .int a2)]) C dX11_plot_47 (by decide) rfl rfl ?_
            refine z_aload_n (pc' := 50) C dX11_plot_49 rfl 1 rfl rfl ?_
            refine zgX11_7 (pc' := 53) C zo22 dX11_plot_50 rfl ?_
            refine z_iload_n (pc' := 54) C dX11_plot_53 rfl 2 rfl rfl ?_
            refine z_iload_n (pc' := 55) C dX11_plot_54 rfl 3 rfl rfl ?_
            obtain ⟨hv13, h⟩ := h
            refine z_iast (n := 24) (pc' := 56) C (zL_mem (by decide) zo23) (fun _ => rfl) hv13 dX11_plot_55 rfl ?_
            refine z_aload_n (pc' := 57) C dX11_plot_56 rfl 1 rfl rfl ?_
            refine zgX11_13 (pc' := 60) C zo22 dX11_plot_57 rfl ?_
            refine z_iload_n (pc' := 61) C dX11_plot_60 rfl 2 rfl rfl ?_
            refine z_iload_n (pc' := 62) C dX11_plot_61 rfl 4 rfl rfl ?_
            obtain ⟨hv14, h⟩ := h
            refine z_iast (n := 24) (pc' := 63) C (zL_mem (by decide) zo24) (fun _ => rfl) hv14 dX11_plot_62 rfl ?_
            refine z_iload (pc' := 65) C dX11_plot_63 0 rfl rfl ?_
            exact z_iret C dX11_plot_65 h
          · have h := hf c11
            refine z_bipush (v := (-3)) (pc' := 40) C dX11_plot_38 (by decide) rfl ?_
            exact z_iret C dX11_plot_40 h
        · have h := hf c9
          refine z_iconst (v := (-1)) (pc' := 28) C dX11_plot_27 (by decide) rfl ?_
          exact z_iret C dX11_plot_28 h
  exact fin
