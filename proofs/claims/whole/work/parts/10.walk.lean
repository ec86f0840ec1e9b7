def vc_X0_need (σ : zMem) (i : Nat) (Q : Int32 → zMem → Prop) : Prop := Q (12 * (σ 6 i 0)) σ
set_option maxHeartbeats 4000000 in
set_option maxRecDepth 100000 in
theorem sc_X0_need (l : Launch) (E : zE) (σ : zMem) (i : Nat) (Q : Int32 → zMem → Prop) (hi : i < zcnt 6) (h : vc_X0_need σ i Q) : zMi l yX0_need cX0_need 1 .int 0 0 E [.ref (E.2.2 6 i)] σ Q := by
  refine zMi_of (by decide) (Nat.le_of_ble_eq_true rfl) ?_
  intro p e s m args below meth c C
  unfold vc_X0_need at h
  have fin : zG p l e (zRm 0 0) s m args below meth c 1 E 0 0 (MQ below (va_Qi Q (zPost E) (zA E s.heap.size)) args s 0 0 (zA E s.heap.size)) σ 0 [(0, .ref (E.2.2 6 i))] [] := by
    refine z_bipush (v := 12) (pc' := 2) C dX0_need_0 (by decide) rfl ?_
    refine z_aload_n (pc' := 3) C dX0_need_2 rfl 0 rfl rfl ?_
    refine zgX0_15 (pc' := 6) C hi dX0_need_3 rfl ?_
    refine z_imul (pc' := 7) C dX0_need_6 rfl ?_
    exact z_iret C dX0_need_7 h
  exact fin
def vc_X0_owes (σ : zMem) (i : Nat) (Q : Int32 → zMem → Prop) : Prop := Q ((σ 6 i 3) + (10 * (σ 6 i 4))) σ
set_option maxHeartbeats 4000000 in
set_option maxRecDepth 100000 in
theorem sc_X0_owes (l : Launch) (E : zE) (σ : zMem) (i : Nat) (Q : Int32 → zMem → Prop) (hi : i < zcnt 6) (h : vc_X0_owes σ i Q) : zMi l yX0_owes cX0_owes 1 .int 0 0 E [.ref (E.2.2 6 i)] σ Q := by
  refine zMi_of (by decide) (Nat.le_of_ble_eq_true rfl) ?_
  intro p e s m args below meth c C
  unfold vc_X0_owes at h
  have fin : zG p l e (zRm 0 0) s m args below meth c 1 E 0 0 (MQ below (va_Qi Q (zPost E) (zA E s.heap.size)) args s 0 0 (zA E s.heap.size)) σ 0 [(0, .ref (E.2.2 6 i))] [] := by
    refine z_aload_n (pc' := 1) C dX0_owes_0 rfl 0 rfl rfl ?_
    refine zgX0_18 (pc' := 4) C hi dX0_owes_1 rfl ?_
    refine z_bipush (v := 10) (pc' := 6) C dX0_owes_4 (by decide) rfl ?_
    refine z_aload_n (pc' := 7) C dX0_owes_6 rfl 0 rfl rfl ?_
    refine zgX0_21 (pc' := 10) C hi dX0_owes_7 rfl ?_
    refine z_imul (pc' := 11) C dX0_owes_10 rfl ?_
    refine z_iadd (pc' := 12) C dX0_owes_11 rfl ?_
    exact z_iret C dX0_owes_12 h
  exact fin
def vc_X4_settle_62 (x2 : Int32) (Q : zMem → Prop) : Nat → zMem → Int32 → Prop
  | 0, _, _ => False
  | n + 1, σ, x3 => ((x2 ≤ x3) → Q σ) ∧ ((¬ x2 ≤ x3) → vp_in x3 10 ∧ (((σ 6 x3.toNatClampNeg 6) < 0) → vc_X4_settle_62 x2 Q n σ (x3 + 1)) ∧ ((¬ (σ 6 x3.toNatClampNeg 6) < 0) → ((x2 ≤ (σ 6 x3.toNatClampNeg 6)) → vc_X4_settle_62 x2 Q n σ (x3 + 1)) ∧ ((¬ x2 ≤ (σ 6 x3.toNatClampNeg 6)) → vp_in x3 10 ∧ vc_X0_owes σ x3.toNatClampNeg (fun r10 σ9 => vp_in x3 10 ∧ vp_in (σ 6 x3.toNatClampNeg 6) 10 ∧ vp_in x3 10 ∧ vp_in (σ 6 x3.toNatClampNeg 6) 10 ∧ vp_in x3 10 ∧ vp_in (σ 6 x3.toNatClampNeg 6) 10 ∧ vc_X4_settle_62 x2 Q n (um (um σ9 20 0 x3.toNatClampNeg ((if (σ9 21 0 (σ 6 x3.toNatClampNeg 6).toNatClampNeg) < (r10 - (σ9 19 0 x3.toNatClampNeg)) then σ9 21 0 (σ 6 x3.toNatClampNeg 6).toNatClampNeg else r10 - (σ9 19 0 x3.toNatClampNeg)))) 21 0 (σ 6 x3.toNatClampNeg 6).toNatClampNeg (((um σ9 20 0 x3.toNatClampNeg ((if (σ9 21 0 (σ 6 x3.toNatClampNeg 6).toNatClampNeg) < (r10 - (σ9 19 0 x3.toNatClampNeg)) then σ9 21 0 (σ 6 x3.toNatClampNeg 6).toNatClampNeg else r10 - (σ9 19 0 x3.toNatClampNeg)))) 21 0 (σ 6 x3.toNatClampNeg 6).toNatClampNeg) - ((um σ9 20 0 x3.toNatClampNeg ((if (σ9 21 0 (σ 6 x3.toNatClampNeg 6).toNatClampNeg) < (r10 - (σ9 19 0 x3.toNatClampNeg)) then σ9 21 0 (σ 6 x3.toNatClampNeg 6).toNatClampNeg else r10 - (σ9 19 0 x3.toNatClampNeg)))) 20 0 x3.toNatClampNeg))) (x3 + 1)))))
def vc_X4_settle_2 (x2 : Int32) (Q : zMem → Prop) : Nat → zMem → Int32 → Prop
  | 0, _, _ => False
  | n + 1, σ, x3 => ((x2 ≤ x3) → ∃ n3, vc_X4_settle_62 x2 Q n3 σ 0) ∧ ((¬ x2 ≤ x3) → vp_in x3 10 ∧ vc_X0_owes σ x3.toNatClampNeg (fun r19 σ18 => vp_in x3 10 ∧ vp_in x3 10 ∧ vp_in x3 10 ∧ vp_in x3 10 ∧ vp_in x3 10 ∧ vp_in x3 10 ∧ vc_X4_settle_2 x2 Q n (um (um (um σ18 19 0 x3.toNatClampNeg ((if (σ18 6 x3.toNatClampNeg 1) < r19 then σ18 6 x3.toNatClampNeg 1 else r19))) 21 0 x3.toNatClampNeg (((um σ18 19 0 x3.toNatClampNeg ((if (σ18 6 x3.toNatClampNeg 1) < r19 then σ18 6 x3.toNatClampNeg 1 else r19))) 6 x3.toNatClampNeg 1) - ((um σ18 19 0 x3.toNatClampNeg ((if (σ18 6 x3.toNatClampNeg 1) < r19 then σ18 6 x3.toNatClampNeg 1 else r19))) 19 0 x3.toNatClampNeg))) 20 0 x3.toNatClampNeg 0) (x3 + 1)))
def vc_X4_settle (σ : zMem) (a1 : Int32) (Q : zMem → Prop) : Prop := ∃ n1, vc_X4_settle_2 a1 Q n1 σ 0
set_option maxHeartbeats 4000000 in
set_option maxRecDepth 100000 in
theorem sl_X4_settle_62 {p : Program} {l : Launch} {e : Env} {s : State} {m : MethodId} {args : Array Value} {below : List Frame} {meth : Method} {c : Code} {E : zE} (C : zX p s m args meth c cX4_settle 5 RX4 none E) (x2 : Int32) (Q : zMem → Prop) : ∀ (n : Nat) (σ : zMem) (x3 : Int32), vc_X4_settle_62 x2 Q n σ x3 → zG p l e (zRm 1 21) s m args below meth c 5 E 0 0 (MQ below (va_Qv Q (zPost E) (zA E s.heap.size)) args s 0 0 (zA E s.heap.size)) σ 62 [(0, .ref (E.2.2 18 0)), (1, .ref (E.2.2 5 0)), (2, .int x2), (3, .int x3)] [] := by
  intro n
  induction n with
  | zero =>
    intro σ x3 h
    exact False.elim h
  | succ n ih =>
    intro σ x3 h
    rw [vc_X4_settle_62] at h
    refine z_iload_n (pc' := 63) C dX4_settle_62 rfl 3 rfl rfl ?_
    refine z_iload_n (pc' := 64) C dX4_settle_63 rfl 2 rfl rfl ?_
    obtain ⟨ht, hf⟩ := h
    refine z_icmp_ge (tgt := 137) (pc' := 67) C dX4_settle_64 (by decide) rfl (fun c4 => ?_) (fun c4 => ?_)
    · have h := ht c4
      exact z_vret C dX4_settle_137 h
    · have h := hf c4
      refine z_aload_n (pc' := 68) C dX4_settle_67 rfl 1 rfl rfl ?_
      refine z_iload_n (pc' := 69) C dX4_settle_68 rfl 3 rfl rfl ?_
      obtain ⟨hv5, h⟩ := h
      refine z_aald (n := 10) (t0 := 5) (q2 := 6) (pc' := 70) C (zL_mem (by decide) zo5) (fun _ => rfl) rfl hv5 dX4_settle_69 rfl ?_
      refine zgX4_37 (pc' := 73) C (zin hv5) dX4_settle_70 rfl ?_
      refine z_istore (pc' := 75) (lv' := [(4, .int (σ 6 x3.toNatClampNeg 6)), (0, .ref (E.2.2 18 0)), (1, .ref (E.2.2 5 0)), (2, .int x2), (3, .int x3)]) C dX4_settle_73 (by decide) rfl rfl ?_
      refine z_iload (pc' := 77) C dX4_settle_75 0 rfl rfl ?_
      obtain ⟨ht, hf⟩ := h
      refine z_if_lt (tgt := 131) (pc' := 80) C dX4_settle_77 (by decide) rfl (fun c6 => ?_) (fun c6 => ?_)
      · have h := ht c6
        refine z_iinc (j := 4) (v := x3 + 1) (pc' := 134) (lv' := [(3, .int (x3 + 1)), (4, .int (σ 6 x3.toNatClampNeg 6)), (0, .ref (E.2.2 18 0)), (1, .ref (E.2.2 5 0)), (2, .int x2)]) C dX4_settle_131 rfl rfl (by decide) rfl rfl ?_
        refine z_goto (tgt := 62) C dX4_settle_134 (by decide) ?_
        refine z_sub (lv' := [(0, .ref (E.2.2 18 0)), (1, .ref (E.2.2 5 0)), (2, .int x2), (3, .int (x3 + 1))]) [2, 3, 4, 0] rfl ?_
        exact ih _ _ h
      · have h := hf c6
        refine z_iload (pc' := 82) C dX4_settle_80 0 rfl rfl ?_
        refine z_iload_n (pc' := 83) C dX4_settle_82 rfl 3 rfl rfl ?_
        obtain ⟨ht, hf⟩ := h
        refine z_icmp_ge (tgt := 131) (pc' := 86) C dX4_settle_83 (by decide) rfl (fun c7 => ?_) (fun c7 => ?_)
        · have h := ht c7
          refine z_iinc (j := 4) (v := x3 + 1) (pc' := 134) (lv' := [(3, .int (x3 + 1)), (4, .int (σ 6 x3.toNatClampNeg 6)), (0, .ref (E.2.2 18 0)), (1, .ref (E.2.2 5 0)), (2, .int x2)]) C dX4_settle_131 rfl rfl (by decide) rfl rfl ?_
          refine z_goto (tgt := 62) C dX4_settle_134 (by decide) ?_
          refine z_sub (lv' := [(0, .ref (E.2.2 18 0)), (1, .ref (E.2.2 5 0)), (2, .int x2), (3, .int (x3 + 1))]) [2, 3, 4, 0] rfl ?_
          exact ih _ _ h
        · have h := hf c7
          refine z_aload_n (pc' := 87) C dX4_settle_86 rfl 1 rfl rfl ?_
          refine zgX4_15 (pc' := 90) C zo18 dX4_settle_87 rfl ?_
          refine z_iload_n (pc' := 91) C dX4_settle_90 rfl 4 rfl rfl ?_
          refine z_aload_n (pc' := 92) C dX4_settle_91 rfl 2 rfl rfl ?_
          refine z_iload_n (pc' := 93) C dX4_settle_92 rfl 4 rfl rfl ?_
          obtain ⟨hv8, h⟩ := h
          refine z_aald (n := 10) (t0 := 5) (q2 := 6) (pc' := 94) C (zL_mem (by decide) zo5) (fun _ => rfl) rfl hv8 dX4_settle_93 rfl ?_
          refine z_callVi (q := 6) (i := x3.toNatClampNeg) (w9 := (RX0, TX0, 7)) (pc' := 97) (st := [.int x3, .ref (E.2.2 20 0)]) (As := []) C (sc_X0_owes l E σ x3.toNatClampNeg _ (zin hv8) h) zwX4_21_X0_owes zvX4_21_X0_owes.1 zvX4_21_X0_owes.2 (zL_mem (by decide) (zin hv8)) rfl rfl ⟨(Nat.le_of_ble_eq_true rfl), (Nat.le_of_ble_eq_true rfl)⟩ ⟨Nat.zero_le _, Nat.zero_le _⟩ rfl rfl (Nat.le_of_ble_eq_true rfl) dX4_settle_94 rfl (fun r10 σ9 h => ?_)
          refine z_aload_n (pc' := 98) C dX4_settle_97 rfl 1 rfl rfl ?_
          refine zgX4_9 (pc' := 101) C zo18 dX4_settle_98 rfl ?_
          refine z_iload_n (pc' := 102) C dX4_settle_101 rfl 4 rfl rfl ?_
          obtain ⟨hv11, h⟩ := h
          refine z_iald (n := 10) (pc' := 103) C (zL_mem (by decide) zo19) (fun _ => rfl) hv11 dX4_settle_102 rfl ?_
          refine z_isub (pc' := 104) C dX4_settle_103 rfl ?_
          refine z_aload_n (pc' := 105) C dX4_settle_104 rfl 1 rfl rfl ?_
          refine zgX4_18 (pc' := 108) C zo18 dX4_settle_105 rfl ?_
          refine z_iload (pc' := 110) C dX4_settle_108 0 rfl rfl ?_
          obtain ⟨hv12, h⟩ := h
          refine z_iald (n := 10) (pc' := 111) C (zL_mem (by decide) zo21) (fun _ => rfl) hv12 dX4_settle_110 rfl ?_
          refine z_mmin (pc' := 114) C zmX4_31 (Nat.le_of_ble_eq_true rfl) (Nat.le_of_ble_eq_true rfl) (Nat.zero_le _) (Nat.zero_le _) dX4_settle_111 rfl ?_
          obtain ⟨hv13, h⟩ := h
          refine z_iast (n := 10) (pc' := 115) C (zL_mem (by decide) zo20) (fun _ => rfl) hv13 dX4_settle_114 rfl ?_
          refine z_aload_n (pc' := 116) C dX4_settle_115 rfl 1 rfl rfl ?_
          refine zgX4_18 (pc' := 119) C zo18 dX4_settle_116 rfl ?_
          refine z_iload (pc' := 121) C dX4_settle_119 0 rfl rfl ?_
          refine z_dup2 (pc' := 122) C dX4_settle_121 rfl rfl rfl ?_
          obtain ⟨hv14, h⟩ := h
          refine z_iald (n := 10) (pc' := 123) C (zL_mem (by decide) zo21) (fun _ => rfl) hv14 dX4_settle_122 rfl ?_
          refine z_aload_n (pc' := 124) C dX4_settle_123 rfl 1 rfl rfl ?_
          refine zgX4_15 (pc' := 127) C zo18 dX4_settle_124 rfl ?_
          refine z_iload_n (pc' := 128) C dX4_settle_127 rfl 4 rfl rfl ?_
          obtain ⟨hv15, h⟩ := h
          refine z_iald (n := 10) (pc' := 129) C (zL_mem (by decide) zo20) (fun _ => rfl) hv15 dX4_settle_128 rfl ?_
          refine z_isub (pc' := 130) C dX4_settle_129 rfl ?_
          obtain ⟨hv16, h⟩ := h
          refine z_iast (n := 10) (pc' := 131) C (zL_mem (by decide) zo21) (fun _ => rfl) hv16 dX4_settle_130 rfl ?_
          refine z_iinc (j := 4) (v := x3 + 1) (pc' := 134) (lv' := [(3, .int (x3 + 1)), (4, .int (σ 6 x3.toNatClampNeg 6)), (0, .ref (E.2.2 18 0)), (1, .ref (E.2.2 5 0)), (2, .int x2)]) C dX4_settle_131 rfl rfl (by decide) rfl rfl ?_
          refine z_goto (tgt := 62) C dX4_settle_134 (by decide) ?_
          refine z_sub (lv' := [(0, .ref (E.2.2 18 0)), (1, .ref (E.2.2 5 0)), (2, .int x2), (3, .int (x3 + 1))]) [2, 3, 4, 0] rfl ?_
          exact ih _ _ h
set_option maxHeartbeats 4000000 in
set_option maxRecDepth 100000 in
theorem sl_X4_settle_2 {p : Program} {l : Launch} {e : Env} {s : State} {m : MethodId} {args : Array Value} {below : List Frame} {meth : Method} {c : Code} {E : zE} (C : zX p s m args meth c cX4_settle 5 RX4 none E) (x2 : Int32) (Q : zMem → Prop) : ∀ (n : Nat) (σ : zMem) (x3 : Int32), vc_X4_settle_2 x2 Q n σ x3 → zG p l e (zRm 1 21) s m args below meth c 5 E 0 0 (MQ below (va_Qv Q (zPost E) (zA E s.heap.size)) args s 0 0 (zA E s.heap.size)) σ 2 [(0, .ref (E.2.2 18 0)), (1, .ref (E.2.2 5 0)), (2, .int x2), (3, .int x3)] [] := by
  intro n
  induction n with
  | zero =>
    intro σ x3 h
    exact False.elim h
  | succ n ih =>
    intro σ x3 h
    rw [vc_X4_settle_2] at h
    refine z_iload_n (pc' := 3) C dX4_settle_2 rfl 3 rfl rfl ?_
    refine z_iload_n (pc' := 4) C dX4_settle_3 rfl 2 rfl rfl ?_
    obtain ⟨ht, hf⟩ := h
    refine z_icmp_ge (tgt := 60) (pc' := 7) C dX4_settle_4 (by decide) rfl (fun c2 => ?_) (fun c2 => ?_)
    · have h := ht c2
      refine z_iconst (v := 0) (pc' := 61) C dX4_settle_60 (by decide) rfl ?_
      refine z_istore_n (pc' := 62) (lv' := [(3, .int 0), (0, .ref (E.2.2 18 0)), (1, .ref (E.2.2 5 0)), (2, .int x2)]) C dX4_settle_61 rfl (by decide) rfl rfl ?_
      obtain ⟨n3, h⟩ := h
      refine z_sub (lv' := [(0, .ref (E.2.2 18 0)), (1, .ref (E.2.2 5 0)), (2, .int x2), (3, .int 0)]) [1, 2, 3, 0] rfl ?_
      exact sl_X4_settle_62 C x2 Q n3 _ _ h
    · have h := hf c2
      refine z_aload_n (pc' := 8) C dX4_settle_7 rfl 0 rfl rfl ?_
      refine zgX4_9 (pc' := 11) C zo18 dX4_settle_8 rfl ?_
      refine z_iload_n (pc' := 12) C dX4_settle_11 rfl 3 rfl rfl ?_
      refine z_aload_n (pc' := 13) C dX4_settle_12 rfl 1 rfl rfl ?_
      refine z_iload_n (pc' := 14) C dX4_settle_13 rfl 3 rfl rfl ?_
      obtain ⟨hv17, h⟩ := h
      refine z_aald (n := 10) (t0 := 5) (q2 := 6) (pc' := 15) C (zL_mem (by decide) zo5) (fun _ => rfl) rfl hv17 dX4_settle_14 rfl ?_
      refine z_callVi (q := 6) (i := x3.toNatClampNeg) (w9 := (RX0, TX0, 7)) (pc' := 18) (st := [.int x3, .ref (E.2.2 19 0)]) (As := []) C (sc_X0_owes l E σ x3.toNatClampNeg _ (zin hv17) h) zwX4_21_X0_owes zvX4_21_X0_owes.1 zvX4_21_X0_owes.2 (zL_mem (by decide) (zin hv17)) rfl rfl ⟨(Nat.le_of_ble_eq_true rfl), (Nat.le_of_ble_eq_true rfl)⟩ ⟨Nat.zero_le _, Nat.zero_le _⟩ rfl rfl (Nat.le_of_ble_eq_true rfl) dX4_settle_15 rfl (fun r19 σ18 h => ?_)
      refine z_aload_n (pc' := 19) C dX4_settle_18 rfl 1 rfl rfl ?_
      refine z_iload_n (pc' := 20) C dX4_settle_19 rfl 3 rfl rfl ?_
      obtain ⟨hv20, h⟩ := h
      refine z_aald (n := 10) (t0 := 5) (q2 := 6) (pc' := 21) C (zL_mem (by decide) zo5) (fun _ => rfl) rfl hv20 dX4_settle_20 rfl ?_
      refine zgX4_27 (pc' := 24) C (zin hv20) dX4_settle_21 rfl ?_
      refine z_mmin (pc' := 27) C zmX4_31 (Nat.le_of_ble_eq_true rfl) (Nat.le_of_ble_eq_true rfl) (Nat.zero_le _) (Nat.zero_le _) dX4_settle_24 rfl ?_
      obtain ⟨hv21, h⟩ := h
      refine z_iast (n := 10) (pc' := 28) C (zL_mem (by decide) zo19) (fun _ => rfl) hv21 dX4_settle_27 rfl ?_
      refine z_aload_n (pc' := 29) C dX4_settle_28 rfl 0 rfl rfl ?_
      refine zgX4_18 (pc' := 32) C zo18 dX4_settle_29 rfl ?_
      refine z_iload_n (pc' := 33) C dX4_settle_32 rfl 3 rfl rfl ?_
      refine z_aload_n (pc' := 34) C dX4_settle_33 rfl 1 rfl rfl ?_
      refine z_iload_n (pc' := 35) C dX4_settle_34 rfl 3 rfl rfl ?_
      obtain ⟨hv22, h⟩ := h
      refine z_aald (n := 10) (t0 := 5) (q2 := 6) (pc' := 36) C (zL_mem (by decide) zo5) (fun _ => rfl) rfl hv22 dX4_settle_35 rfl ?_
      refine zgX4_27 (pc' := 39) C (zin hv22) dX4_settle_36 rfl ?_
      refine z_aload_n (pc' := 40) C dX4_settle_39 rfl 0 rfl rfl ?_
      refine zgX4_9 (pc' := 43) C zo18 dX4_settle_40 rfl ?_
      refine z_iload_n (pc' := 44) C dX4_settle_43 rfl 3 rfl rfl ?_
      obtain ⟨hv23, h⟩ := h
      refine z_iald (n := 10) (pc' := 45) C (zL_mem (by decide) zo19) (fun _ => rfl) hv23 dX4_settle_44 rfl ?_
      refine z_isub (pc' := 46) C dX4_settle_45 rfl ?_
      obtain ⟨hv24, h⟩ := h
      refine z_iast (n := 10) (pc' := 47) C (zL_mem (by decide) zo21) (fun _ => rfl) hv24 dX4_settle_46 rfl ?_
      refine z_aload_n (pc' := 48) C dX4_settle_47 rfl 0 rfl rfl ?_
      refine zgX4_15 (pc' := 51) C zo18 dX4_settle_48 rfl ?_
      refine z_iload_n (pc' := 52) C dX4_settle_51 rfl 3 rfl rfl ?_
      refine z_iconst (v := 0) (pc' := 53) C dX4_settle_52 (by decide) rfl ?_
      obtain ⟨hv25, h⟩ := h
      refine z_iast (n := 10) (pc' := 54) C (zL_mem (by decide) zo20) (fun _ => rfl) hv25 dX4_settle_53 rfl ?_
      refine z_iinc (j := 3) (v := x3 + 1) (pc' := 57) (lv' := [(3, .int (x3 + 1)), (0, .ref (E.2.2 18 0)), (1, .ref (E.2.2 5 0)), (2, .int x2)]) C dX4_settle_54 rfl rfl (by decide) rfl rfl ?_
      refine z_goto (tgt := 2) C dX4_settle_57 (by decide) ?_
      refine z_sub (lv' := [(0, .ref (E.2.2 18 0)), (1, .ref (E.2.2 5 0)), (2, .int x2), (3, .int (x3 + 1))]) [1, 2, 3, 0] rfl ?_
      exact ih _ _ h
set_option maxHeartbeats 4000000 in
set_option maxRecDepth 100000 in
theorem sc_X4_settle (l : Launch) (E : zE) (σ : zMem) (a1 : Int32) (Q : zMem → Prop) (h : vc_X4_settle σ a1 Q) : zMv l yX4_settle cX4_settle 5 1 21 E [.ref (E.2.2 18 0), .ref (E.2.2 5 0), .int a1] σ Q := by
  refine zMv_of (by decide) (Nat.le_of_ble_eq_true rfl) ?_
  intro p e s m args below meth c C
  unfold vc_X4_settle at h
  have fin : zG p l e (zRm 1 21) s m args below meth c 5 E 0 0 (MQ below (va_Qv Q (zPost E) (zA E s.heap.size)) args s 0 0 (zA E s.heap.size)) σ 0 [(0, .ref (E.2.2 18 0)), (1, .ref (E.2.2 5 0)), (2, .int a1)] [] := by
    refine z_iconst (v := 0) (pc' := 1) C dX4_settle_0 (by decide) rfl ?_
    refine z_istore_n (pc' := 2) (lv' := [(3, .int 0), (0, .ref (E.2.2 18 0)), (1, .ref (E.2.2 5 0)), (2, .int a1)]) C dX4_settle_1 rfl (by decide) rfl rfl ?_
    obtain ⟨n1, h⟩ := h
    refine z_sub (lv' := [(0, .ref (E.2.2 18 0)), (1, .ref (E.2.2 5 0)), (2, .int a1), (3, .int 0)]) [1, 2, 3, 0] rfl ?_
    exact sl_X4_settle_2 C a1 Q n1 _ _ h
  exact fin
def vc_X5_hay (σ : zMem) (i : Nat) (Q : Int32 → zMem → Prop) : Prop := (σ 4 i 1).toNatClampNeg < zcnt 2 ∧ Q (((σ 4 i 2) * (zchance ((σ 4 i 1).toNatClampNeg))) / 100) σ
set_option maxHeartbeats 4000000 in
set_option maxRecDepth 100000 in
theorem sc_X5_hay (l : Launch) (E : zE) (σ : zMem) (i : Nat) (Q : Int32 → zMem → Prop) (hi : i < zcnt 4) (h : vc_X5_hay σ i Q) : zMi l yX5_hay cX5_hay 1 .int 1 20 E [.ref (E.2.2 4 i)] σ Q := by
  refine zMi_of (by decide) (Nat.le_of_ble_eq_true rfl) ?_
  intro p e s m args below meth c C
  unfold vc_X5_hay at h
  have fin : zG p l e (zRm 1 20) s m args below meth c 1 E 0 0 (MQ below (va_Qi Q (zPost E) (zA E s.heap.size)) args s 0 0 (zA E s.heap.size)) σ 0 [(0, .ref (E.2.2 4 i))] [] := by
    refine z_aload_n (pc' := 1) C dX5_hay_0 rfl 0 rfl rfl ?_
    refine zgX5_25 (pc' := 4) C hi dX5_hay_1 rfl ?_
    refine z_aload_n (pc' := 5) C dX5_hay_4 rfl 0 rfl rfl ?_
    obtain ⟨hg1, h⟩ := h
    refine zgX5_21 (pc' := 8) C hi dX5_hay_5 rfl ?_
    refine zdX5_28 (pc' := 11) (st := [.int (σ 4 i 2)]) C hg1 (Nat.le_of_ble_eq_true rfl) (Nat.le_of_ble_eq_true rfl) (Nat.zero_le _) (Nat.zero_le _) (Nat.le_of_ble_eq_true rfl) dX5_hay_8 rfl ?_
    refine z_imul (pc' := 12) C dX5_hay_11 rfl ?_
    refine z_bipush (v := 100) (pc' := 14) C dX5_hay_12 (by decide) rfl ?_
    refine z_idiv (pc' := 15) C dX5_hay_14 (by decide) rfl ?_
    exact z_iret C dX5_hay_15 h
  exact fin
def vc_X5_isSold (σ : zMem) (i : Nat) (Q : Int32 → zMem → Prop) : Prop := (((σ 4 i 3) = ((-2))) → Q 0 σ) ∧ ((¬ (σ 4 i 3) = ((-2))) → Q 1 σ)
set_option maxHeartbeats 4000000 in
set_option maxRecDepth 100000 in
theorem sc_X5_isSold (l : Launch) (E : zE) (σ : zMem) (i : Nat) (Q : Int32 → zMem → Prop) (hi : i < zcnt 4) (h : vc_X5_isSold σ i Q) : zMi l yX5_isSold cX5_isSold 1 .boolean 0 0 E [.ref (E.2.2 4 i)] σ Q := by
  refine zMi_of (by decide) (Nat.le_of_ble_eq_true rfl) ?_
  intro p e s m args below meth c C
  unfold vc_X5_isSold at h
  have fin : zG p l e (zRm 0 0) s m args below meth c 1 E 0 0 (MQ below (va_Qi Q (zPost E) (zA E s.heap.size)) args s 0 0 (zA E s.heap.size)) σ 0 [(0, .ref (E.2.2 4 i))] [] := by
    refine z_aload_n (pc' := 1) C dX5_isSold_0 rfl 0 rfl rfl ?_
    refine zgX5_9 (pc' := 4) C hi dX5_isSold_1 rfl ?_
    refine z_bipush (v := (-2)) (pc' := 6) C dX5_isSold_4 (by decide) rfl ?_
    obtain ⟨ht, hf⟩ := h
    refine z_icmp_eq (tgt := 13) (pc' := 9) C dX5_isSold_6 (by decide) rfl (fun c1 => ?_) (fun c1 => ?_)
    · have h := ht c1
      refine z_iconst (v := 0) (pc' := 14) C dX5_isSold_13 (by decide) rfl ?_
      exact z_zret C rfl dX5_isSold_14 h
    · have h := hf c1
      refine z_iconst (v := 1) (pc' := 10) C dX5_isSold_9 (by decide) rfl ?_
      refine z_goto (tgt := 14) C dX5_isSold_10 (by decide) ?_
      exact z_zret C rfl dX5_isSold_14 h
  exact fin
def vc_X5_isCut (σ : zMem) (i : Nat) (Q : Int32 → zMem → Prop) : Prop := (((σ 4 i 5) = ((-2))) → Q 0 σ) ∧ ((¬ (σ 4 i 5) = ((-2))) → Q 1 σ)
set_option maxHeartbeats 4000000 in
set_option maxRecDepth 100000 in
theorem sc_X5_isCut (l : Launch) (E : zE) (σ : zMem) (i : Nat) (Q : Int32 → zMem → Prop) (hi : i < zcnt 4) (h : vc_X5_isCut σ i Q) : zMi l yX5_isCut cX5_isCut 1 .boolean 0 0 E [.ref (E.2.2 4 i)] σ Q := by
  refine zMi_of (by decide) (Nat.le_of_ble_eq_true rfl) ?_
  intro p e s m args below meth c C
  unfold vc_X5_isCut at h
  have fin : zG p l e (zRm 0 0) s m args below meth c 1 E 0 0 (MQ below (va_Qi Q (zPost E) (zA E s.heap.size)) args s 0 0 (zA E s.heap.size)) σ 0 [(0, .ref (E.2.2 4 i))] [] := by
    refine z_aload_n (pc' := 1) C dX5_isCut_0 rfl 0 rfl rfl ?_
    refine zgX5_18 (pc' := 4) C hi dX5_isCut_1 rfl ?_
    refine z_bipush (v := (-2)) (pc' := 6) C dX5_isCut_4 (by decide) rfl ?_
    obtain ⟨ht, hf⟩ := h
    refine z_icmp_eq (tgt := 13) (pc' := 9) C dX5_isCut_6 (by decide) rfl (fun c1 => ?_) (fun c1 => ?_)
    · have h := ht c1
      refine z_iconst (v := 0) (pc' := 14) C dX5_isCut_13 (by decide) rfl ?_
      exact z_zret C rfl dX5_isCut_14 h
    · have h := hf c1
      refine z_iconst (v := 1) (pc' := 10) C dX5_isCut_9 (by decide) rfl ?_
      refine z_goto (tgt := 14) C dX5_isCut_10 (by decide) ?_
      exact z_zret C rfl dX5_isCut_14 h
  exact fin
def vc_X5_stands (σ : zMem) (i : Nat) (Q : Int32 → zMem → Prop) : Prop := vc_X5_isSold σ i (fun r2 σ1 => ((r2 = 0) → Q 0 σ1) ∧ ((¬ r2 = 0) → vc_X5_isCut σ1 i (fun r5 σ4 => ((¬ r5 = 0) → Q 0 σ4) ∧ ((r5 = 0) → (((σ4 4 i 2) ≤ 0) → Q 0 σ4) ∧ ((¬ (σ4 4 i 2) ≤ 0) → Q 1 σ4)))))
set_option maxHeartbeats 4000000 in
set_option maxRecDepth 100000 in
theorem sc_X5_stands (l : Launch) (E : zE) (σ : zMem) (i : Nat) (Q : Int32 → zMem → Prop) (hi : i < zcnt 4) (h : vc_X5_stands σ i Q) : zMi l yX5_stands cX5_stands 1 .boolean 1 20 E [.ref (E.2.2 4 i)] σ Q := by
  refine zMi_of (by decide) (Nat.le_of_ble_eq_true rfl) ?_
  intro p e s m args below meth c C
  unfold vc_X5_stands at h
  have fin : zG p l e (zRm 1 20) s m args below meth c 1 E 0 0 (MQ below (va_Qi Q (zPost E) (zA E s.heap.size)) args s 0 0 (zA E s.heap.size)) σ 0 [(0, .ref (E.2.2 4 i))] [] := by
    refine z_aload_n (pc' := 1) C dX5_stands_0 rfl 0 rfl rfl ?_
    refine z_callVi (q := 4) (i := i) (w9 := (RX5, TX5, 6)) (pc' := 4) (st := []) (As := []) C (sc_X5_isSold l E σ i _ hi h) zwX5_34_X5_isSold zvX5_34_X5_isSold.1 zvX5_34_X5_isSold.2 (zL_mem (by decide) hi) rfl rfl ⟨(Nat.le_of_ble_eq_true rfl), (Nat.le_of_ble_eq_true rfl)⟩ ⟨Nat.zero_le _, Nat.zero_le _⟩ rfl rfl (Nat.le_of_ble_eq_true rfl) dX5_stands_1 rfl (fun r2 σ1 h => ?_)
    obtain ⟨ht, hf⟩ := h
    refine z_if_eq (tgt := 25) (pc' := 7) C dX5_stands_4 (by decide) rfl (fun c3 => ?_) (fun c3 => ?_)
    · have h := ht c3
      refine z_iconst (v := 0) (pc' := 26) C dX5_stands_25 (by decide) rfl ?_
      exact z_zret C rfl dX5_stands_26 h
    · have h := hf c3
      refine z_aload_n (pc' := 8) C dX5_stands_7 rfl 0 rfl rfl ?_
      refine z_callVi (q := 4) (i := i) (w9 := (RX5, TX5, 6)) (pc' := 11) (st := []) (As := []) C (sc_X5_isCut l E σ1 i _ hi h) zwX5_38_X5_isCut zvX5_38_X5_isCut.1 zvX5_38_X5_isCut.2 (zL_mem (by decide) hi) rfl rfl ⟨(Nat.le_of_ble_eq_true rfl), (Nat.le_of_ble_eq_true rfl)⟩ ⟨Nat.zero_le _, Nat.zero_le _⟩ rfl rfl (Nat.le_of_ble_eq_true rfl) dX5_stands_8 rfl (fun r5 σ4 h => ?_)
      obtain ⟨ht, hf⟩ := h
      refine z_if_ne (tgt := 25) (pc' := 14) C dX5_stands_11 (by decide) rfl (fun c6 => ?_) (fun c6 => ?_)
      · have h := ht c6
        refine z_iconst (v := 0) (pc' := 26) C dX5_stands_25 (by decide) rfl ?_
        exact z_zret C rfl dX5_stands_26 h
      · have h := hf c6
        refine z_aload_n (pc' := 15) C dX5_stands_14 rfl 0 rfl rfl ?_
        refine zgX5_25 (pc' := 18) C hi dX5_stands_15 rfl ?_
        obtain ⟨ht, hf⟩ := h
        refine z_if_le (tgt := 25) (pc' := 21) C dX5_stands_18 (by decide) rfl (fun c7 => ?_) (fun c7 => ?_)
        · have h := ht c7
          refine z_iconst (v := 0) (pc' := 26) C dX5_stands_25 (by decide) rfl ?_
          exact z_zret C rfl dX5_stands_26 h
        · have h := hf c7
          refine z_iconst (v := 1) (pc' := 22) C dX5_stands_21 (by decide) rfl ?_
          refine z_goto (tgt := 26) C dX5_stands_22 (by decide) ?_
          exact z_zret C rfl dX5_stands_26 h
  exact fin
def vc_X5_toll (σ : zMem) (i : Nat) (Q : Int32 → zMem → Prop) : Prop := vc_X5_stands σ i (fun r2 σ1 => ((r2 = 0) → Q 0 σ1) ∧ ((¬ r2 = 0) → Q ((σ1 4 i 2) / 10) σ1))
set_option maxHeartbeats 4000000 in
set_option maxRecDepth 100000 in
theorem sc_X5_toll (l : Launch) (E : zE) (σ : zMem) (i : Nat) (Q : Int32 → zMem → Prop) (hi : i < zcnt 4) (h : vc_X5_toll σ i Q) : zMi l yX5_toll cX5_toll 1 .int 2 40 E [.ref (E.2.2 4 i)] σ Q := by
  refine zMi_of (by decide) (Nat.le_of_ble_eq_true rfl) ?_
  intro p e s m args below meth c C
  unfold vc_X5_toll at h
  have fin : zG p l e (zRm 2 40) s m args below meth c 1 E 0 0 (MQ below (va_Qi Q (zPost E) (zA E s.heap.size)) args s 0 0 (zA E s.heap.size)) σ 0 [(0, .ref (E.2.2 4 i))] [] := by
    refine z_aload_n (pc' := 1) C dX5_toll_0 rfl 0 rfl rfl ?_
    refine z_callVi (q := 4) (i := i) (w9 := (RX5, TX5, 6)) (pc' := 4) (st := []) (As := []) C (sc_X5_stands l E σ i _ hi h) zwX5_41_X5_stands zvX5_41_X5_stands.1 zvX5_41_X5_stands.2 (zL_mem (by decide) hi) rfl rfl ⟨(Nat.le_of_ble_eq_true rfl), (Nat.le_of_ble_eq_true rfl)⟩ ⟨Nat.zero_le _, Nat.zero_le _⟩ rfl rfl (Nat.le_of_ble_eq_true rfl) dX5_toll_1 rfl (fun r2 σ1 h => ?_)
    obtain ⟨ht, hf⟩ := h
    refine z_if_eq (tgt := 17) (pc' := 7) C dX5_toll_4 (by decide) rfl (fun c3 => ?_) (fun c3 => ?_)
    · have h := ht c3
      refine z_iconst (v := 0) (pc' := 18) C dX5_toll_17 (by decide) rfl ?_
      exact z_iret C dX5_toll_18 h
    · have h := hf c3
      refine z_aload_n (pc' := 8) C dX5_toll_7 rfl 0 rfl rfl ?_
      refine zgX5_25 (pc' := 11) C hi dX5_toll_8 rfl ?_
      refine z_bipush (v := 10) (pc' := 13) C dX5_toll_11 (by decide) rfl ?_
      refine z_idiv (pc' := 14) C dX5_toll_13 (by decide) rfl ?_
      refine z_goto (tgt := 18) C dX5_toll_14 (by decide) ?_
      exact z_iret C dX5_toll_18 h
  exact fin
def vc_X5_beside (σ : zMem) (a0 : Int32) (a1 : Int32) (Q : Int32 → zMem → Prop) : Prop := ((a1 = 0) → (((a0 - a0 / 6 * 6) ≤ 0) → Q ((-1)) σ) ∧ ((¬ (a0 - a0 / 6 * 6) ≤ 0) → Q (a0 - 1) σ)) ∧ ((a1 = 1) → ((5 ≤ (a0 - a0 / 6 * 6)) → Q ((-1)) σ) ∧ ((¬ 5 ≤ (a0 - a0 / 6 * 6)) → Q (a0 + 1) σ)) ∧ ((a1 = 2) → ((a0 < 6) → Q ((-1)) σ) ∧ ((¬ a0 < 6) → Q (a0 - 6) σ)) ∧ (¬ a1 = 0 → ¬ a1 = 1 → ¬ a1 = 2 → ((18 ≤ a0) → Q ((-1)) σ) ∧ ((¬ 18 ≤ a0) → Q (a0 + 6) σ))
set_option maxHeartbeats 4000000 in
set_option maxRecDepth 100000 in
theorem sc_X5_beside (l : Launch) (E : zE) (σ : zMem) (a0 : Int32) (a1 : Int32) (Q : Int32 → zMem → Prop) (h : vc_X5_beside σ a0 a1 Q) : zMi l yX5_beside cX5_beside 3 .int 0 0 E [.int a0, .int a1] σ Q := by
  refine zMi_of (by decide) (Nat.le_of_ble_eq_true rfl) ?_
  intro p e s m args below meth c C
  unfold vc_X5_beside at h
  have fin : zG p l e (zRm 0 0) s m args below meth c 3 E 0 0 (MQ below (va_Qi Q (zPost E) (zA E s.heap.size)) args s 0 0 (zA E s.heap.size)) σ 0 [(0, .int a0), (1, .int a1)] [] := by
    refine z_iload_n (pc' := 1) C dX5_beside_0 rfl 0 rfl rfl ?_
    refine z_bipush (v := 6) (pc' := 3) C dX5_beside_1 (by decide) rfl ?_
    refine z_irem (pc' := 4) C dX5_beside_3 (by decide) rfl ?_
    refine z_istore_n (pc' := 5) (lv' := [(2, .int (a0 - a0 / 6 * 6)), (0, .int a0), (1, .int a1)]) C dX5_beside_4 rfl (by decide) rfl rfl ?_
    refine z_iload_n (pc' := 6) C dX5_beside_5 rfl 2 rfl rfl ?_
    obtain ⟨hk, h⟩ := h
    by_cases c1 : a1 = 0
    · have h := hk c1
      refine z_tabIn (tgt := 32) C dX5_beside_6 0 c1 (by decide) (by decide) rfl (by decide) ?_
      refine z_iload_n (pc' := 33) C dX5_beside_32 rfl 0 rfl rfl ?_
      obtain ⟨ht, hf⟩ := h
      refine z_if_le (tgt := 42) (pc' := 36) C dX5_beside_33 (by decide) rfl (fun c2 => ?_) (fun c2 => ?_)
      · have h := ht c2
        refine z_iconst (v := (-1)) (pc' := 43) C dX5_beside_42 (by decide) rfl ?_
        exact z_iret C dX5_beside_43 h
      · have h := hf c2
        refine z_iload_n (pc' := 37) C dX5_beside_36 rfl 1 rfl rfl ?_
        refine z_iconst (v := 1) (pc' := 38) C dX5_beside_37 (by decide) rfl ?_
        refine z_isub (pc' := 39) C dX5_beside_38 rfl ?_
        refine z_goto (tgt := 43) C dX5_beside_39 (by decide) ?_
        exact z_iret C dX5_beside_43 h
    obtain ⟨hk, h⟩ := h
    by_cases c3 : a1 = 1
    · have h := hk c3
      refine z_tabIn (tgt := 44) C dX5_beside_6 1 c3 (by decide) (by decide) rfl (by decide) ?_
      refine z_iload_n (pc' := 45) C dX5_beside_44 rfl 0 rfl rfl ?_
      refine z_iconst (v := 5) (pc' := 46) C dX5_beside_45 (by decide) rfl ?_
      obtain ⟨ht, hf⟩ := h
      refine z_icmp_ge (tgt := 55) (pc' := 49) C dX5_beside_46 (by decide) rfl (fun c4 => ?_) (fun c4 => ?_)
      · have h := ht c4
        refine z_iconst (v := (-1)) (pc' := 56) C dX5_beside_55 (by decide) rfl ?_
        exact z_iret C dX5_beside_56 h
      · have h := hf c4
        refine z_iload_n (pc' := 50) C dX5_beside_49 rfl 1 rfl rfl ?_
        refine z_iconst (v := 1) (pc' := 51) C dX5_beside_50 (by decide) rfl ?_
        refine z_iadd (pc' := 52) C dX5_beside_51 rfl ?_
        refine z_goto (tgt := 56) C dX5_beside_52 (by decide) ?_
        exact z_iret C dX5_beside_56 h
    obtain ⟨hk, h⟩ := h
    by_cases c5 : a1 = 2
    · have h := hk c5
      refine z_tabIn (tgt := 57) C dX5_beside_6 2 c5 (by decide) (by decide) rfl (by decide) ?_
      refine z_iload_n (pc' := 58) C dX5_beside_57 rfl 1 rfl rfl ?_
      refine z_bipush (v := 6) (pc' := 60) C dX5_beside_58 (by decide) rfl ?_
      obtain ⟨ht, hf⟩ := h
      refine z_icmp_lt (tgt := 70) (pc' := 63) C dX5_beside_60 (by decide) rfl (fun c6 => ?_) (fun c6 => ?_)
      · have h := ht c6
        refine z_iconst (v := (-1)) (pc' := 71) C dX5_beside_70 (by decide) rfl ?_
        exact z_iret C dX5_beside_71 h
      · have h := hf c6
        refine z_iload_n (pc' := 64) C dX5_beside_63 rfl 1 rfl rfl ?_
        refine z_bipush (v := 6) (pc' := 66) C dX5_beside_64 (by decide) rfl ?_
        refine z_isub (pc' := 67) C dX5_beside_66 rfl ?_
        refine z_goto (tgt := 71) C dX5_beside_67 (by decide) ?_
        exact z_iret C dX5_beside_71 h
    have h := h c1 c3 c5
    refine z_tabOut (tgt := 72) C dX5_beside_6 (by have ec1 := lv_neT (a := 0) c1 rfl; have ec3 := lv_neT (a := 1) c3 rfl; have ec5 := lv_neT (a := 2) c5 rfl; omega) (by decide) ?_
    refine z_iload_n (pc' := 73) C dX5_beside_72 rfl 1 rfl rfl ?_
    refine z_bipush (v := 18) (pc' := 75) C dX5_beside_73 (by decide) rfl ?_
    obtain ⟨ht, hf⟩ := h
    refine z_icmp_ge (tgt := 85) (pc' := 78) C dX5_beside_75 (by decide) rfl (fun c7 => ?_) (fun c7 => ?_)
    · have h := ht c7
      refine z_iconst (v := (-1)) (pc' := 86) C dX5_beside_85 (by decide) rfl ?_
      exact z_iret C dX5_beside_86 h
    · have h := hf c7
      refine z_iload_n (pc' := 79) C dX5_beside_78 rfl 1 rfl rfl ?_
      refine z_bipush (v := 6) (pc' := 81) C dX5_beside_79 (by decide) rfl ?_
      refine z_iadd (pc' := 82) C dX5_beside_81 rfl ?_
      refine z_goto (tgt := 86) C dX5_beside_82 (by decide) ?_
      exact z_iret C dX5_beside_86 h
  exact fin
def vc_X5_steps (σ : zMem) (a0 : Int32) (a1 : Int32) (Q : Int32 → zMem → Prop) : Prop := Q (((if 0 ≤ (a0 - a0 / 6 * 6) - (a1 - a1 / 6 * 6) then (a0 - a0 / 6 * 6) - (a1 - a1 / 6 * 6) else 0 - ((a0 - a0 / 6 * 6) - (a1 - a1 / 6 * 6)))) + ((if 0 ≤ (a0 / 6) - (a1 / 6) then (a0 / 6) - (a1 / 6) else 0 - ((a0 / 6) - (a1 / 6))))) σ
set_option maxHeartbeats 4000000 in
set_option maxRecDepth 100000 in
theorem sc_X5_steps (l : Launch) (E : zE) (σ : zMem) (a0 : Int32) (a1 : Int32) (Q : Int32 → zMem → Prop) (h : vc_X5_steps σ a0 a1 Q) : zMi l yX5_steps cX5_steps 2 .int 1 21 E [.int a0, .int a1] σ Q := by
  refine zMi_of (by decide) (Nat.le_of_ble_eq_true rfl) ?_
  intro p e s m args below meth c C
  unfold vc_X5_steps at h
  have fin : zG p l e (zRm 1 21) s m args below meth c 2 E 0 0 (MQ below (va_Qi Q (zPost E) (zA E s.heap.size)) args s 0 0 (zA E s.heap.size)) σ 0 [(0, .int a0), (1, .int a1)] [] := by
    refine z_iload_n (pc' := 1) C dX5_steps_0 rfl 0 rfl rfl ?_
    refine z_bipush (v := 6) (pc' := 3) C dX5_steps_1 (by decide) rfl ?_
    refine z_irem (pc' := 4) C dX5_steps_3 (by decide) rfl ?_
    refine z_iload_n (pc' := 5) C dX5_steps_4 rfl 1 rfl rfl ?_
    refine z_bipush (v := 6) (pc' := 7) C dX5_steps_5 (by decide) rfl ?_
    refine z_irem (pc' := 8) C dX5_steps_7 (by decide) rfl ?_
    refine z_isub (pc' := 9) C dX5_steps_8 rfl ?_
    refine z_mabs (pc' := 12) C zmX5_44 (Nat.le_of_ble_eq_true rfl) (Nat.le_of_ble_eq_true rfl) (Nat.zero_le _) (Nat.zero_le _) dX5_steps_9 rfl ?_
    refine z_iload_n (pc' := 13) C dX5_steps_12 rfl 0 rfl rfl ?_
    refine z_bipush (v := 6) (pc' := 15) C dX5_steps_13 (by decide) rfl ?_
    refine z_idiv (pc' := 16) C dX5_steps_15 (by decide) rfl ?_
    refine z_iload_n (pc' := 17) C dX5_steps_16 rfl 1 rfl rfl ?_
    refine z_bipush (v := 6) (pc' := 19) C dX5_steps_17 (by decide) rfl ?_
    refine z_idiv (pc' := 20) C dX5_steps_19 (by decide) rfl ?_
    refine z_isub (pc' := 21) C dX5_steps_20 rfl ?_
    refine z_mabs (pc' := 24) C zmX5_44 (Nat.le_of_ble_eq_true rfl) (Nat.le_of_ble_eq_true rfl) (Nat.zero_le _) (Nat.zero_le _) dX5_steps_21 rfl ?_
    refine z_iadd (pc' := 25) C dX5_steps_24 rfl ?_
    exact z_iret C dX5_steps_25 h
  exact fin
def vc_X6_burn_16 (x1 : Int32) (Q : zMem → Prop) : Nat → zMem → Int32 → Int32 → Prop
  | 0, _, _, _ => False
  | n + 1, σ, x3, x4 => ((x1 ≤ x4) → Q σ) ∧ ((¬ x1 ≤ x4) → vp_in x3 10 ∧ (((σ 14 0 x3.toNatClampNeg) = 0) → ((x3 = (σ 12 0 4)) → (((σ 12 0 2) ≤ (x3 + 1)) → vc_X6_burn_16 x1 Q n σ 0 (x4 + 1)) ∧ ((¬ (σ 12 0 2) ≤ (x3 + 1)) → vc_X6_burn_16 x1 Q n σ (x3 + 1) (x4 + 1))) ∧ ((¬ x3 = (σ 12 0 4)) → vp_in x3 10 ∧ (((σ 13 0 x3.toNatClampNeg) < ((σ 12 0 5) + (σ 12 0 3))) → (((σ 12 0 2) ≤ (x3 + 1)) → vc_X6_burn_16 x1 Q n σ 0 (x4 + 1)) ∧ ((¬ (σ 12 0 2) ≤ (x3 + 1)) → vc_X6_burn_16 x1 Q n σ (x3 + 1) (x4 + 1))) ∧ ((¬ (σ 13 0 x3.toNatClampNeg) < ((σ 12 0 5) + (σ 12 0 3))) → ((((um (um σ 12 0 4 x3) 12 0 5 (((um σ 12 0 4 x3) 12 0 5) + ((um σ 12 0 4 x3) 12 0 3))) 12 0 2) ≤ (x3 + 1)) → vc_X6_burn_16 x1 Q n (um (um σ 12 0 4 x3) 12 0 5 (((um σ 12 0 4 x3) 12 0 5) + ((um σ 12 0 4 x3) 12 0 3))) 0 (x4 + 1)) ∧ ((¬ ((um (um σ 12 0 4 x3) 12 0 5 (((um σ 12 0 4 x3) 12 0 5) + ((um σ 12 0 4 x3) 12 0 3))) 12 0 2) ≤ (x3 + 1)) → vc_X6_burn_16 x1 Q n (um (um σ 12 0 4 x3) 12 0 5 (((um σ 12 0 4 x3) 12 0 5) + ((um σ 12 0 4 x3) 12 0 3))) (x3 + 1) (x4 + 1))))) ∧ ((¬ (σ 14 0 x3.toNatClampNeg) = 0) → (((3 * (σ 12 0 2)) < (x1 - x4)) → (((σ 12 0 2) ≤ (x3 + 1)) → vc_X6_burn_16 x1 Q n σ 0 (x4 + 1)) ∧ ((¬ (σ 12 0 2) ≤ (x3 + 1)) → vc_X6_burn_16 x1 Q n σ (x3 + 1) (x4 + 1))) ∧ ((¬ (3 * (σ 12 0 2)) < (x1 - x4)) → ((x3 = (σ 12 0 4)) → (((σ 12 0 2) ≤ (x3 + 1)) → vc_X6_burn_16 x1 Q n σ 0 (x4 + 1)) ∧ ((¬ (σ 12 0 2) ≤ (x3 + 1)) → vc_X6_burn_16 x1 Q n σ (x3 + 1) (x4 + 1))) ∧ ((¬ x3 = (σ 12 0 4)) → vp_in x3 10 ∧ (((σ 13 0 x3.toNatClampNeg) < ((σ 12 0 5) + (σ 12 0 3))) → (((σ 12 0 2) ≤ (x3 + 1)) → vc_X6_burn_16 x1 Q n σ 0 (x4 + 1)) ∧ ((¬ (σ 12 0 2) ≤ (x3 + 1)) → vc_X6_burn_16 x1 Q n σ (x3 + 1) (x4 + 1))) ∧ ((¬ (σ 13 0 x3.toNatClampNeg) < ((σ 12 0 5) + (σ 12 0 3))) → ((((um (um σ 12 0 4 x3) 12 0 5 (((um σ 12 0 4 x3) 12 0 5) + ((um σ 12 0 4 x3) 12 0 3))) 12 0 2) ≤ (x3 + 1)) → vc_X6_burn_16 x1 Q n (um (um σ 12 0 4 x3) 12 0 5 (((um σ 12 0 4 x3) 12 0 5) + ((um σ 12 0 4 x3) 12 0 3))) 0 (x4 + 1)) ∧ ((¬ ((um (um σ 12 0 4 x3) 12 0 5 (((um σ 12 0 4 x3) 12 0 5) + ((um σ 12 0 4 x3) 12 0 3))) 12 0 2) ≤ (x3 + 1)) → vc_X6_burn_16 x1 Q n (um (um σ 12 0 4 x3) 12 0 5 (((um σ 12 0 4 x3) 12 0 5) + ((um σ 12 0 4 x3) 12 0 3))) (x3 + 1) (x4 + 1)))))))
def vc_X6_burn (σ : zMem) (a0 : Int32) (a1 : Int32) (Q : zMem → Prop) : Prop := ∃ n1, vc_X6_burn_16 a0 Q n1 (um (um σ 12 0 4 ((-2))) 12 0 5 0) a1 0
set_option maxHeartbeats 4000000 in
set_option maxRecDepth 100000 in
theorem sl_X6_burn_16 {p : Program} {l : Launch} {e : Env} {s : State} {m : MethodId} {args : Array Value} {below : List Frame} {meth : Method} {c : Code} {E : zE} (C : zX p s m args meth c cX6_burn 6 RX6 none E) (x1 : Int32) (Q : zMem → Prop) : ∀ (n : Nat) (σ : zMem) (x3 : Int32) (x4 : Int32), vc_X6_burn_16 x1 Q n σ x3 x4 → zG p l e (zRm 0 0) s m args below meth c 6 E 0 0 (MQ below (va_Qv Q (zPost E) (zA E s.heap.size)) args s 0 0 (zA E s.heap.size)) σ 16 [(0, .ref (E.2.2 12 0)), (1, .int x1), (3, .int x3), (4, .int x4)] [] := by
  intro n
  induction n with
  | zero =>
    intro σ x3 x4 h
    exact False.elim h
  | succ n ih =>
    intro σ x3 x4 h
    rw [vc_X6_burn_16] at h
    refine z_iload (pc' := 18) C dX6_burn_16 3 rfl rfl ?_
    refine z_iload_n (pc' := 19) C dX6_burn_18 rfl 1 rfl rfl ?_
    obtain ⟨ht, hf⟩ := h
    refine z_icmp_ge (tgt := 124) (pc' := 22) C dX6_burn_19 (by decide) rfl (fun c2 => ?_) (fun c2 => ?_)
    · have h := ht c2
      exact z_vret C dX6_burn_124 h
    · have h := hf c2
      refine z_aload_n (pc' := 23) C dX6_burn_22 rfl 0 rfl rfl ?_
      refine zgX6_15 (pc' := 26) C zo12 dX6_burn_23 rfl ?_
      refine z_iload_n (pc' := 27) C dX6_burn_26 rfl 2 rfl rfl ?_
      obtain ⟨hv3, h⟩ := h
      refine z_zald (n := 10) (pc' := 28) C (zL_mem (by decide) zo14) (fun _ => rfl) hv3 dX6_burn_27 rfl ?_
      obtain ⟨ht, hf⟩ := h
      refine z_if_eq (tgt := 44) (pc' := 31) C dX6_burn_28 (by decide) rfl (fun c4 => ?_) (fun c4 => ?_)
      · have h := ht c4
        refine z_iconst (v := 1) (pc' := 45) C dX6_burn_44 (by decide) rfl ?_
        refine z_goto (tgt := 49) C dX6_burn_45 (by decide) ?_
        refine z_istore (pc' := 51) (lv' := [(5, .int 1), (0, .ref (E.2.2 12 0)), (1, .int x1), (3, .int x3), (4, .int x4)]) C dX6_burn_49 (by decide) rfl rfl ?_
        refine z_iload (pc' := 53) C dX6_burn_51 0 rfl rfl ?_
        refine z_if_eq (tgt := 100) (pc' := 56) C dX6_burn_53 (by decide) rfl (fun c5 => absurd c5 (by decide)) (fun _ => ?_)
        refine z_iload_n (pc' := 57) C dX6_burn_56 rfl 3 rfl rfl ?_
        refine z_aload_n (pc' := 58) C dX6_burn_57 rfl 1 rfl rfl ?_
        refine zgX6_19 (pc' := 61) C zo12 dX6_burn_58 rfl ?_
        obtain ⟨ht, hf⟩ := h
        refine z_icmp_eq (tgt := 100) (pc' := 64) C dX6_burn_61 (by decide) rfl (fun c6 => ?_) (fun c6 => ?_)
        · have h := ht c6
          refine z_iload_n (pc' := 101) C dX6_burn_100 rfl 3 rfl rfl ?_
          refine z_iconst (v := 1) (pc' := 102) C dX6_burn_101 (by decide) rfl ?_
          refine z_iadd (pc' := 103) C dX6_burn_102 rfl ?_
          refine z_aload_n (pc' := 104) C dX6_burn_103 rfl 1 rfl rfl ?_
          refine zgX6_26 (pc' := 107) C zo12 dX6_burn_104 rfl ?_
          obtain ⟨ht, hf⟩ := h
          refine z_icmp_ge (tgt := 116) (pc' := 110) C dX6_burn_107 (by decide) rfl (fun c7 => ?_) (fun c7 => ?_)
          · have h := ht c7
            refine z_iconst (v := 0) (pc' := 117) C dX6_burn_116 (by decide) rfl ?_
            refine z_istore_n (pc' := 118) (lv' := [(3, .int 0), (5, .int 1), (0, .ref (E.2.2 12 0)), (1, .int x1), (4, .int x4)]) C dX6_burn_117 rfl (by decide) rfl rfl ?_
            refine z_iinc (j := 4) (v := x4 + 1) (pc' := 121) (lv' := [(4, .int (x4 + 1)), (3, .int 0), (5, .int 1), (0, .ref (E.2.2 12 0)), (1, .int x1)]) C dX6_burn_118 rfl rfl (by decide) rfl rfl ?_
            refine z_goto (tgt := 16) C dX6_burn_121 (by decide) ?_
            refine z_sub (lv' := [(0, .ref (E.2.2 12 0)), (1, .int x1), (3, .int 0), (4, .int (x4 + 1))]) [3, 4, 1, 0] rfl ?_
            exact ih _ _ _ h
          · have h := hf c7
            refine z_iload_n (pc' := 111) C dX6_burn_110 rfl 3 rfl rfl ?_
            refine z_iconst (v := 1) (pc' := 112) C dX6_burn_111 (by decide) rfl ?_
            refine z_iadd (pc' := 113) C dX6_burn_112 rfl ?_
            refine z_goto (tgt := 117) C dX6_burn_113 (by decide) ?_
            refine z_istore_n (pc' := 118) (lv' := [(3, .int (x3 + 1)), (5, .int 1), (0, .ref (E.2.2 12 0)), (1, .int x1), (4, .int x4)]) C dX6_burn_117 rfl (by decide) rfl rfl ?_
            refine z_iinc (j := 4) (v := x4 + 1) (pc' := 121) (lv' := [(4, .int (x4 + 1)), (3, .int (x3 + 1)), (5, .int 1), (0, .ref (E.2.2 12 0)), (1, .int x1)]) C dX6_burn_118 rfl rfl (by decide) rfl rfl ?_
            refine z_goto (tgt := 16) C dX6_burn_121 (by decide) ?_
            refine z_sub (lv' := [(0, .ref (E.2.2 12 0)), (1, .int x1), (3, .int (x3 + 1)), (4, .int (x4 + 1))]) [3, 4, 1, 0] rfl ?_
            exact ih _ _ _ h
        · have h := hf c6
          refine z_aload_n (pc' := 65) C dX6_burn_64 rfl 1 rfl rfl ?_
          refine zgX6_23 (pc' := 68) C zo12 dX6_burn_65 rfl ?_
          refine z_aload_n (pc' := 69) C dX6_burn_68 rfl 1 rfl rfl ?_
          refine zgX6_29 (pc' := 72) C zo12 dX6_burn_69 rfl ?_
          refine z_iadd (pc' := 73) C dX6_burn_72 rfl ?_
          refine z_aload_n (pc' := 74) C dX6_burn_73 rfl 1 rfl rfl ?_
          refine zgX6_9 (pc' := 77) C zo12 dX6_burn_74 rfl ?_
          refine z_iload_n (pc' := 78) C dX6_burn_77 rfl 3 rfl rfl ?_
          obtain ⟨hv8, h⟩ := h
          refine z_iald (n := 10) (pc' := 79) C (zL_mem (by decide) zo13) (fun _ => rfl) hv8 dX6_burn_78 rfl ?_
          obtain ⟨ht, hf⟩ := h
          refine z_icmp_gt (tgt := 100) (pc' := 82) C dX6_burn_79 (by decide) rfl (fun c9 => ?_) (fun c9 => ?_)
          · have h := ht c9
            refine z_iload_n (pc' := 101) C dX6_burn_100 rfl 3 rfl rfl ?_
            refine z_iconst (v := 1) (pc' := 102) C dX6_burn_101 (by decide) rfl ?_
            refine z_iadd (pc' := 103) C dX6_burn_102 rfl ?_
            refine z_aload_n (pc' := 104) C dX6_burn_103 rfl 1 rfl rfl ?_
            refine zgX6_26 (pc' := 107) C zo12 dX6_burn_104 rfl ?_
            obtain ⟨ht, hf⟩ := h
            refine z_icmp_ge (tgt := 116) (pc' := 110) C dX6_burn_107 (by decide) rfl (fun c10 => ?_) (fun c10 => ?_)
            · have h := ht c10
              refine z_iconst (v := 0) (pc' := 117) C dX6_burn_116 (by decide) rfl ?_
              refine z_istore_n (pc' := 118) (lv' := [(3, .int 0), (5, .int 1), (0, .ref (E.2.2 12 0)), (1, .int x1), (4, .int x4)]) C dX6_burn_117 rfl (by decide) rfl rfl ?_
              refine z_iinc (j := 4) (v := x4 + 1) (pc' := 121) (lv' := [(4, .int (x4 + 1)), (3, .int 0), (5, .int 1), (0, .ref (E.2.2 12 0)), (1, .int x1)]) C dX6_burn_118 rfl rfl (by decide) rfl rfl ?_
              refine z_goto (tgt := 16) C dX6_burn_121 (by decide) ?_
              refine z_sub (lv' := [(0, .ref (E.2.2 12 0)), (1, .int x1), (3, .int 0), (4, .int (x4 + 1))]) [3, 4, 1, 0] rfl ?_
              exact ih _ _ _ h
            · have h := hf c10
              refine z_iload_n (pc' := 111) C dX6_burn_110 rfl 3 rfl rfl ?_
              refine z_iconst (v := 1) (pc' := 112) C dX6_burn_111 (by decide) rfl ?_
              refine z_iadd (pc' := 113) C dX6_burn_112 rfl ?_
              refine z_goto (tgt := 117) C dX6_burn_113 (by decide) ?_
              refine z_istore_n (pc' := 118) (lv' := [(3, .int (x3 + 1)), (5, .int 1), (0, .ref (E.2.2 12 0)), (1, .int x1), (4, .int x4)]) C dX6_burn_117 rfl (by decide) rfl rfl ?_
              refine z_iinc (j := 4) (v := x4 + 1) (pc' := 121) (lv' := [(4, .int (x4 + 1)), (3, .int (x3 + 1)), (5, .int 1), (0, .ref (E.2.2 12 0)), (1, .int x1)]) C dX6_burn_118 rfl rfl (by decide) rfl rfl ?_
              refine z_goto (tgt := 16) C dX6_burn_121 (by decide) ?_
              refine z_sub (lv' := [(0, .ref (E.2.2 12 0)), (1, .int x1), (3, .int (x3 + 1)), (4, .int (x4 + 1))]) [3, 4, 1, 0] rfl ?_
              exact ih _ _ _ h
          · have h := hf c9
            refine z_aload_n (pc' := 83) C dX6_burn_82 rfl 1 rfl rfl ?_
            refine z_iload_n (pc' := 84) C dX6_burn_83 rfl 3 rfl rfl ?_
            refine zpX6_19 (pc' := 87) C zo12 dX6_burn_84 rfl ?_
            refine z_aload_n (pc' := 88) C dX6_burn_87 rfl 1 rfl rfl ?_
            refine z_dup (pc' := 89) C dX6_burn_88 rfl rfl ?_
            refine zgX6_23 (pc' := 92) C zo12 dX6_burn_89 rfl ?_
            refine z_aload_n (pc' := 93) C dX6_burn_92 rfl 1 rfl rfl ?_
            refine zgX6_29 (pc' := 96) C zo12 dX6_burn_93 rfl ?_
            refine z_iadd (pc' := 97) C dX6_burn_96 rfl ?_
            refine zpX6_23 (pc' := 100) C zo12 dX6_burn_97 rfl ?_
            refine z_iload_n (pc' := 101) C dX6_burn_100 rfl 3 rfl rfl ?_
            refine z_iconst (v := 1) (pc' := 102) C dX6_burn_101 (by decide) rfl ?_
            refine z_iadd (pc' := 103) C dX6_burn_102 rfl ?_
            refine z_aload_n (pc' := 104) C dX6_burn_103 rfl 1 rfl rfl ?_
            refine zgX6_26 (pc' := 107) C zo12 dX6_burn_104 rfl ?_
            obtain ⟨ht, hf⟩ := h
            refine z_icmp_ge (tgt := 116) (pc' := 110) C dX6_burn_107 (by decide) rfl (fun c11 => ?_) (fun c11 => ?_)
            · have h := ht c11
              refine z_iconst (v := 0) (pc' := 117) C dX6_burn_116 (by decide) rfl ?_
              refine z_istore_n (pc' := 118) (lv' := [(3, .int 0), (5, .int 1), (0, .ref (E.2.2 12 0)), (1, .int x1), (4, .int x4)]) C dX6_burn_117 rfl (by decide) rfl rfl ?_
              refine z_iinc (j := 4) (v := x4 + 1) (pc' := 121) (lv' := [(4, .int (x4 + 1)), (3, .int 0), (5, .int 1), (0, .ref (E.2.2 12 0)), (1, .int x1)]) C dX6_burn_118 rfl rfl (by decide) rfl rfl ?_
              refine z_goto (tgt := 16) C dX6_burn_121 (by decide) ?_
              refine z_sub (lv' := [(0, .ref (E.2.2 12 0)), (1, .int x1), (3, .int 0), (4, .int (x4 + 1))]) [3, 4, 1, 0] rfl ?_
              exact ih _ _ _ h
            · have h := hf c11
              refine z_iload_n (pc' := 111) C dX6_burn_110 rfl 3 rfl rfl ?_
              refine z_iconst (v := 1) (pc' := 112) C dX6_burn_111 (by decide) rfl ?_
              refine z_iadd (pc' := 113) C dX6_burn_112 rfl ?_
              refine z_goto (tgt := 117) C dX6_burn_113 (by decide) ?_
              refine z_istore_n (pc' := 118) (lv' := [(3, .int (x3 + 1)), (5, .int 1), (0, .ref (E.2.2 12 0)), (1, .int x1), (4, .int x4)]) C dX6_burn_117 rfl (by decide) rfl rfl ?_
              refine z_iinc (j := 4) (v := x4 + 1) (pc' := 121) (lv' := [(4, .int (x4 + 1)), (3, .int (x3 + 1)), (5, .int 1), (0, .ref (E.2.2 12 0)), (1, .int x1)]) C dX6_burn_118 rfl rfl (by decide) rfl rfl ?_
              refine z_goto (tgt := 16) C dX6_burn_121 (by decide) ?_
              refine z_sub (lv' := [(0, .ref (E.2.2 12 0)), (1, .int x1), (3, .int (x3 + 1)), (4, .int (x4 + 1))]) [3, 4, 1, 0] rfl ?_
              exact ih _ _ _ h
      · have h := hf c4
        refine z_iload_n (pc' := 32) C dX6_burn_31 rfl 1 rfl rfl ?_
        refine z_iload (pc' := 34) C dX6_burn_32 3 rfl rfl ?_
        refine z_isub (pc' := 35) C dX6_burn_34 rfl ?_
        refine z_iconst (v := 3) (pc' := 36) C dX6_burn_35 (by decide) rfl ?_
        refine z_aload_n (pc' := 37) C dX6_burn_36 rfl 0 rfl rfl ?_
        refine zgX6_26 (pc' := 40) C zo12 dX6_burn_37 rfl ?_
        refine z_imul (pc' := 41) C dX6_burn_40 rfl ?_
        obtain ⟨ht, hf⟩ := h
        refine z_icmp_gt (tgt := 48) (pc' := 44) C dX6_burn_41 (by decide) rfl (fun c12 => ?_) (fun c12 => ?_)
        · have h := ht c12
          refine z_iconst (v := 0) (pc' := 49) C dX6_burn_48 (by decide) rfl ?_
          refine z_istore (pc' := 51) (lv' := [(5, .int 0), (0, .ref (E.2.2 12 0)), (1, .int x1), (3, .int x3), (4, .int x4)]) C dX6_burn_49 (by decide) rfl rfl ?_
          refine z_iload (pc' := 53) C dX6_burn_51 0 rfl rfl ?_
          refine z_if_eq (tgt := 100) (pc' := 56) C dX6_burn_53 (by decide) rfl (fun _ => ?_) (fun c13 => absurd c13 (by decide))
          refine z_iload_n (pc' := 101) C dX6_burn_100 rfl 3 rfl rfl ?_
          refine z_iconst (v := 1) (pc' := 102) C dX6_burn_101 (by decide) rfl ?_
          refine z_iadd (pc' := 103) C dX6_burn_102 rfl ?_
          refine z_aload_n (pc' := 104) C dX6_burn_103 rfl 1 rfl rfl ?_
          refine zgX6_26 (pc' := 107) C zo12 dX6_burn_104 rfl ?_
          obtain ⟨ht, hf⟩ := h
          refine z_icmp_ge (tgt := 116) (pc' := 110) C dX6_burn_107 (by decide) rfl (fun c14 => ?_) (fun c14 => ?_)
          · have h := ht c14
            refine z_iconst (v := 0) (pc' := 117) C dX6_burn_116 (by decide) rfl ?_
            refine z_istore_n (pc' := 118) (lv' := [(3, .int 0), (5, .int 0), (0, .ref (E.2.2 12 0)), (1, .int x1), (4, .int x4)]) C dX6_burn_117 rfl (by decide) rfl rfl ?_
            refine z_iinc (j := 4) (v := x4 + 1) (pc' := 121) (lv' := [(4, .int (x4 + 1)), (3, .int 0), (5, .int 0), (0, .ref (E.2.2 12 0)), (1, .int x1)]) C dX6_burn_118 rfl rfl (by decide) rfl rfl ?_
            refine z_goto (tgt := 16) C dX6_burn_121 (by decide) ?_
            refine z_sub (lv' := [(0, .ref (E.2.2 12 0)), (1, .int x1), (3, .int 0), (4, .int (x4 + 1))]) [3, 4, 1, 0] rfl ?_
            exact ih _ _ _ h
          · have h := hf c14
            refine z_iload_n (pc' := 111) C dX6_burn_110 rfl 3 rfl rfl ?_
            refine z_iconst (v := 1) (pc' := 112) C dX6_burn_111 (by decide) rfl ?_
            refine z_iadd (pc' := 113) C dX6_burn_112 rfl ?_
            refine z_goto (tgt := 117) C dX6_burn_113 (by decide) ?_
            refine z_istore_n (pc' := 118) (lv' := [(3, .int (x3 + 1)), (5, .int 0), (0, .ref (E.2.2 12 0)), (1, .int x1), (4, .int x4)]) C dX6_burn_117 rfl (by decide) rfl rfl ?_
            refine z_iinc (j := 4) (v := x4 + 1) (pc' := 121) (lv' := [(4, .int (x4 + 1)), (3, .int (x3 + 1)), (5, .int 0), (0, .ref (E.2.2 12 0)), (1, .int x1)]) C dX6_burn_118 rfl rfl (by decide) rfl rfl ?_
            refine z_goto (tgt := 16) C dX6_burn_121 (by decide) ?_
            refine z_sub (lv' := [(0, .ref (E.2.2 12 0)), (1, .int x1), (3, .int (x3 + 1)), (4, .int (x4 + 1))]) [3, 4, 1, 0] rfl ?_
            exact ih _ _ _ h
        · have h := hf c12
          refine z_iconst (v := 1) (pc' := 45) C dX6_burn_44 (by decide) rfl ?_
          refine z_goto (tgt := 49) C dX6_burn_45 (by decide) ?_
          refine z_istore (pc' := 51) (lv' := [(5, .int 1), (0, .ref (E.2.2 12 0)), (1, .int x1), (3, .int x3), (4, .int x4)]) C dX6_burn_49 (by decide) rfl rfl ?_
          refine z_iload (pc' := 53) C dX6_burn_51 0 rfl rfl ?_
          refine z_if_eq (tgt := 100) (pc' := 56) C dX6_burn_53 (by decide) rfl (fun c15 => absurd c15 (by decide)) (fun _ => ?_)
          refine z_iload_n (pc' := 57) C dX6_burn_56 rfl 3 rfl rfl ?_
          refine z_aload_n (pc' := 58) C dX6_burn_57 rfl 1 rfl rfl ?_
          refine zgX6_19 (pc' := 61) C zo12 dX6_burn_58 rfl ?_
          obtain ⟨ht, hf⟩ := h
          refine z_icmp_eq (tgt := 100) (pc' := 64) C dX6_burn_61 (by decide) rfl (fun c16 => ?_) (fun c16 => ?_)
          · have h := ht c16
            refine z_iload_n (pc' := 101) C dX6_burn_100 rfl 3 rfl rfl ?_
            refine z_iconst (v := 1) (pc' := 102) C dX6_burn_101 (by decide) rfl ?_
            refine z_iadd (pc' := 103) C dX6_burn_102 rfl ?_
            refine z_aload_n (pc' := 104) C dX6_burn_103 rfl 1 rfl rfl ?_
            refine zgX6_26 (pc' := 107) C zo12 dX6_burn_104 rfl ?_
            obtain ⟨ht, hf⟩ := h
            refine z_icmp_ge (tgt := 116) (pc' := 110) C dX6_burn_107 (by decide) rfl (fun c17 => ?_) (fun c17 => ?_)
            · have h := ht c17
              refine z_iconst (v := 0) (pc' := 117) C dX6_burn_116 (by decide) rfl ?_
              refine z_istore_n (pc' := 118) (lv' := [(3, .int 0), (5, .int 1), (0, .ref (E.2.2 12 0)), (1, .int x1), (4, .int x4)]) C dX6_burn_117 rfl (by decide) rfl rfl ?_
              refine z_iinc (j := 4) (v := x4 + 1) (pc' := 121) (lv' := [(4, .int (x4 + 1)), (3, .int 0), (5, .int 1), (0, .ref (E.2.2 12 0)), (1, .int x1)]) C dX6_burn_118 rfl rfl (by decide) rfl rfl ?_
              refine z_goto (tgt := 16) C dX6_burn_121 (by decide) ?_
              refine z_sub (lv' := [(0, .ref (E.2.2 12 0)), (1, .int x1), (3, .int 0), (4, .int (x4 + 1))]) [3, 4, 1, 0] rfl ?_
              exact ih _ _ _ h
            · have h := hf c17
              refine z_iload_n (pc' := 111) C dX6_burn_110 rfl 3 rfl rfl ?_
              refine z_iconst (v := 1) (pc' := 112) C dX6_burn_111 (by decide) rfl ?_
              refine z_iadd (pc' := 113) C dX6_burn_112 rfl ?_
              refine z_goto (tgt := 117) C dX6_burn_113 (by decide) ?_
              refine z_istore_n (pc' := 118) (lv' := [(3, .int (x3 + 1)), (5, .int 1), (0, .ref (E.2.2 12 0)), (1, .int x1), (4, .int x4)]) C dX6_burn_117 rfl (by decide) rfl rfl ?_
              refine z_iinc (j := 4) (v := x4 + 1) (pc' := 121) (lv' := [(4, .int (x4 + 1)), (3, .int (x3 + 1)), (5, .int 1), (0, .ref (E.2.2 12 0)), (1, .int x1)]) C dX6_burn_118 rfl rfl (by decide) rfl rfl ?_
              refine z_goto (tgt := 16) C dX6_burn_121 (by decide) ?_
              refine z_sub (lv' := [(0, .ref (E.2.2 12 0)), (1, .int x1), (3, .int (x3 + 1)), (4, .int (x4 + 1))]) [3, 4, 1, 0] rfl ?_
              exact ih _ _ _ h
          · have h := hf c16
            refine z_aload_n (pc' := 65) C dX6_burn_64 rfl 1 rfl rfl ?_
            refine zgX6_23 (pc' := 68) C zo12 dX6_burn_65 rfl ?_
            refine z_aload_n (pc' := 69) C dX6_burn_68 rfl 1 rfl rfl ?_
            refine zgX6_29 (pc' := 72) C zo12 dX6_burn_69 rfl ?_
            refine z_iadd (pc' := 73) C dX6_burn_72 rfl ?_
            refine z_aload_n (pc' := 74) C dX6_burn_73 rfl 1 rfl rfl ?_
            refine zgX6_9 (pc' := 77) C zo12 dX6_burn_74 rfl ?_
            refine z_iload_n (pc' := 78) C dX6_burn_77 rfl 3 rfl rfl ?_
            obtain ⟨hv18, h⟩ := h
            refine z_iald (n := 10) (pc' := 79) C (zL_mem (by decide) zo13) (fun _ => rfl) hv18 dX6_burn_78 rfl ?_
            obtain ⟨ht, hf⟩ := h
            refine z_icmp_gt (tgt := 100) (pc' := 82) C dX6_burn_79 (by decide) rfl (fun c19 => ?_) (fun c19 => ?_)
            · have h := ht c19
              refine z_iload_n (pc' := 101) C dX6_burn_100 rfl 3 rfl rfl ?_
              refine z_iconst (v := 1) (pc' := 102) C dX6_burn_101 (by decide) rfl ?_
              refine z_iadd (pc' := 103) C dX6_burn_102 rfl ?_
              refine z_aload_n (pc' := 104) C dX6_burn_103 rfl 1 rfl rfl ?_
              refine zgX6_26 (pc' := 107) C zo12 dX6_burn_104 rfl ?_
              obtain ⟨ht, hf⟩ := h
              refine z_icmp_ge (tgt := 116) (pc' := 110) C dX6_burn_107 (by decide) rfl (fun c20 => ?_) (fun c20 => ?_)
              · have h := ht c20
                refine z_iconst (v := 0) (pc' := 117) C dX6_burn_116 (by decide) rfl ?_
                refine z_istore_n (pc' := 118) (lv' := [(3, .int 0), (5, .int 1), (0, .ref (E.2.2 12 0)), (1, .int x1), (4, .int x4)]) C dX6_burn_117 rfl (by decide) rfl rfl ?_
                refine z_iinc (j := 4) (v := x4 + 1) (pc' := 121) (lv' := [(4, .int (x4 + 1)), (3, .int 0), (5, .int 1), (0, .ref (E.2.2 12 0)), (1, .int x1)]) C dX6_burn_118 rfl rfl (by decide) rfl rfl ?_
                refine z_goto (tgt := 16) C dX6_burn_121 (by decide) ?_
                refine z_sub (lv' := [(0, .ref (E.2.2 12 0)), (1, .int x1), (3, .int 0), (4, .int (x4 + 1))]) [3, 4, 1, 0] rfl ?_
                exact ih _ _ _ h
              · have h := hf c20
                refine z_iload_n (pc' := 111) C dX6_burn_110 rfl 3 rfl rfl ?_
                refine z_iconst (v := 1) (pc' := 112) C dX6_burn_111 (by decide) rfl ?_
                refine z_iadd (pc' := 113) C dX6_burn_112 rfl ?_
                refine z_goto (tgt := 117) C dX6_burn_113 (by decide) ?_
                refine z_istore_n (pc' := 118) (lv' := [(3, .int (x3 + 1)), (5, .int 1), (0, .ref (E.2.2 12 0)), (1, .int x1), (4, .int x4)]) C dX6_burn_117 rfl (by decide) rfl rfl ?_
                refine z_iinc (j := 4) (v := x4 + 1) (pc' := 121) (lv' := [(4, .int (x4 + 1)), (3, .int (x3 + 1)), (5, .int 1), (0, .ref (E.2.2 12 0)), (1, .int x1)]) C dX6_burn_118 rfl rfl (by decide) rfl rfl ?_
                refine z_goto (tgt := 16) C dX6_burn_121 (by decide) ?_
                refine z_sub (lv' := [(0, .ref (E.2.2 12 0)), (1, .int x1), (3, .int (x3 + 1)), (4, .int (x4 + 1))]) [3, 4, 1, 0] rfl ?_
                exact ih _ _ _ h
            · have h := hf c19
              refine z_aload_n (pc' := 83) C dX6_burn_82 rfl 1 rfl rfl ?_
              refine z_iload_n (pc' := 84) C dX6_burn_83 rfl 3 rfl rfl ?_
              refine zpX6_19 (pc' := 87) C zo12 dX6_burn_84 rfl ?_
              refine z_aload_n (pc' := 88) C dX6_burn_87 rfl 1 rfl rfl ?_
              refine z_dup (pc' := 89) C dX6_burn_88 rfl rfl ?_
              refine zgX6_23 (pc' := 92) C zo12 dX6_burn_89 rfl ?_
              refine z_aload_n (pc' := 93) C dX6_burn_92 rfl 1 rfl rfl ?_
              refine zgX6_29 (pc' := 96) C zo12 dX6_burn_93 rfl ?_
              refine z_iadd (pc' := 97) C dX6_burn_96 rfl ?_
              refine zpX6_23 (pc' := 100) C zo12 dX6_burn_97 rfl ?_
              refine z_iload_n (pc' := 101) C dX6_burn_100 rfl 3 rfl rfl ?_
              refine z_iconst (v := 1) (pc' := 102) C dX6_burn_101 (by decide) rfl ?_
              refine z_iadd (pc' := 103) C dX6_burn_102 rfl ?_
              refine z_aload_n (pc' := 104) C dX6_burn_103 rfl 1 rfl rfl ?_
              refine zgX6_26 (pc' := 107) C zo12 dX6_burn_104 rfl ?_
              obtain ⟨ht, hf⟩ := h
              refine z_icmp_ge (tgt := 116) (pc' := 110) C dX6_burn_107 (by decide) rfl (fun c21 => ?_) (fun c21 => ?_)
              · have h := ht c21
                refine z_iconst (v := 0) (pc' := 117) C dX6_burn_116 (by decide) rfl ?_
                refine z_istore_n (pc' := 118) (lv' := [(3, .int 0), (5, .int 1), (0, .ref (E.2.2 12 0)), (1, .int x1), (4, .int x4)]) C dX6_burn_117 rfl (by decide) rfl rfl ?_
                refine z_iinc (j := 4) (v := x4 + 1) (pc' := 121) (lv' := [(4, .int (x4 + 1)), (3, .int 0), (5, .int 1), (0, .ref (E.2.2 12 0)), (1, .int x1)]) C dX6_burn_118 rfl rfl (by decide) rfl rfl ?_
                refine z_goto (tgt := 16) C dX6_burn_121 (by decide) ?_
                refine z_sub (lv' := [(0, .ref (E.2.2 12 0)), (1, .int x1), (3, .int 0), (4, .int (x4 + 1))]) [3, 4, 1, 0] rfl ?_
                exact ih _ _ _ h
              · have h := hf c21
                refine z_iload_n (pc' := 111) C dX6_burn_110 rfl 3 rfl rfl ?_
                refine z_iconst (v := 1) (pc' := 112) C dX6_burn_111 (by decide) rfl ?_
                refine z_iadd (pc' := 113) C dX6_burn_112 rfl ?_
                refine z_goto (tgt := 117) C dX6_burn_113 (by decide) ?_
                refine z_istore_n (pc' := 118) (lv' := [(3, .int (x3 + 1)), (5, .int 1), (0, .ref (E.2.2 12 0)), (1, .int x1), (4, .int x4)]) C dX6_burn_117 rfl (by decide) rfl rfl ?_
                refine z_iinc (j := 4) (v := x4 + 1) (pc' := 121) (lv' := [(4, .int (x4 + 1)), (3, .int (x3 + 1)), (5, .int 1), (0, .ref (E.2.2 12 0)), (1, .int x1)]) C dX6_burn_118 rfl rfl (by decide) rfl rfl ?_
                refine z_goto (tgt := 16) C dX6_burn_121 (by decide) ?_
                refine z_sub (lv' := [(0, .ref (E.2.2 12 0)), (1, .int x1), (3, .int (x3 + 1)), (4, .int (x4 + 1))]) [3, 4, 1, 0] rfl ?_
                exact ih _ _ _ h
set_option maxHeartbeats 4000000 in
set_option maxRecDepth 100000 in
theorem sc_X6_burn (l : Launch) (E : zE) (σ : zMem) (a0 : Int32) (a1 : Int32) (Q : zMem → Prop) (h : vc_X6_burn σ a0 a1 Q) : zMv l yX6_burn cX6_burn 6 0 0 E [.ref (E.2.2 12 0), .int a0, .int a1] σ Q := by
  refine zMv_of (by decide) (Nat.le_of_ble_eq_true rfl) ?_
  intro p e s m args below meth c C
  unfold vc_X6_burn at h
  have fin : zG p l e (zRm 0 0) s m args below meth c 6 E 0 0 (MQ below (va_Qv Q (zPost E) (zA E s.heap.size)) args s 0 0 (zA E s.heap.size)) σ 0 [(0, .ref (E.2.2 12 0)), (1, .int a0), (2, .int a1)] [] := by
    refine z_aload_n (pc' := 1) C dX6_burn_0 rfl 0 rfl rfl ?_
    refine z_bipush (v := (-2)) (pc' := 3) C dX6_burn_1 (by decide) rfl ?_
    refine zpX6_19 (pc' := 6) C zo12 dX6_burn_3 rfl ?_
    refine z_aload_n (pc' := 7) C dX6_burn_6 rfl 0 rfl rfl ?_
    refine z_iconst (v := 0) (pc' := 8) C dX6_burn_7 (by decide) rfl ?_
    refine zpX6_23 (pc' := 11) C zo12 dX6_burn_8 rfl ?_
    refine z_iload_n (pc' := 12) C dX6_burn_11 rfl 2 rfl rfl ?_
    refine z_istore_n (pc' := 13) (lv' := [(3, .int a1), (0, .ref (E.2.2 12 0)), (1, .int a0), (2, .int a1)]) C dX6_burn_12 rfl (by decide) rfl rfl ?_
    refine z_iconst (v := 0) (pc' := 14) C dX6_burn_13 (by decide) rfl ?_
    refine z_istore (pc' := 16) (lv' := [(4, .int 0), (3, .int a1), (0, .ref (E.2.2 12 0)), (1, .int a0), (2, .int a1)]) C dX6_burn_14 (by decide) rfl rfl ?_
    obtain ⟨n1, h⟩ := h
    refine z_sub (lv' := [(0, .ref (E.2.2 12 0)), (1, .int a0), (3, .int a1), (4, .int 0)]) [2, 3, 1, 0] rfl ?_
    exact sl_X6_burn_16 C a0 Q n1 _ _ _ h
  exact fin
def vc_X6_greatestBut_5 (x1 : Int32) (Q : Int32 → zMem → Prop) : Nat → zMem → Int32 → Int32 → Prop
  | 0, _, _, _ => False
  | n + 1, σ, x2, x3 => (((σ 12 0 2) ≤ x3) → Q x2 σ) ∧ ((¬ (σ 12 0 2) ≤ x3) → ((x3 = x1) → vc_X6_greatestBut_5 x1 Q n σ x2 (x3 + 1)) ∧ ((¬ x3 = x1) → vp_in x3 10 ∧ (((σ 13 0 x3.toNatClampNeg) < (σ 12 0 3)) → vc_X6_greatestBut_5 x1 Q n σ x2 (x3 + 1)) ∧ ((¬ (σ 13 0 x3.toNatClampNeg) < (σ 12 0 3)) → ((x2 = ((-2))) → vc_X6_greatestBut_5 x1 Q n σ x3 (x3 + 1)) ∧ ((¬ x2 = ((-2))) → vp_in x3 10 ∧ vp_in x2 10 ∧ (((σ 13 0 x3.toNatClampNeg) ≤ (σ 13 0 x2.toNatClampNeg)) → vc_X6_greatestBut_5 x1 Q n σ x2 (x3 + 1)) ∧ ((¬ (σ 13 0 x3.toNatClampNeg) ≤ (σ 13 0 x2.toNatClampNeg)) → vc_X6_greatestBut_5 x1 Q n σ x3 (x3 + 1))))))
def vc_X6_greatestBut (σ : zMem) (a0 : Int32) (Q : Int32 → zMem → Prop) : Prop := ∃ n1, vc_X6_greatestBut_5 a0 Q n1 σ ((-2)) 0
set_option maxHeartbeats 4000000 in
set_option maxRecDepth 100000 in
theorem sl_X6_greatestBut_5 {p : Program} {l : Launch} {e : Env} {s : State} {m : MethodId} {args : Array Value} {below : List Frame} {meth : Method} {c : Code} {E : zE} (C : zX p s m args meth c cX6_greatestBut 5 RX6 (some .int) E) (x1 : Int32) (Q : Int32 → zMem → Prop) : ∀ (n : Nat) (σ : zMem) (x2 : Int32) (x3 : Int32), vc_X6_greatestBut_5 x1 Q n σ x2 x3 → zG p l e (zRm 0 0) s m args below meth c 5 E 0 0 (MQ below (va_Qi Q (zPost E) (zA E s.heap.size)) args s 0 0 (zA E s.heap.size)) σ 5 [(0, .ref (E.2.2 12 0)), (1, .int x1), (2, .int x2), (3, .int x3)] [] := by
  intro n
  induction n with
  | zero =>
    intro σ x2 x3 h
    exact False.elim h
  | succ n ih =>
    intro σ x2 x3 h
    rw [vc_X6_greatestBut_5] at h
    refine z_iload_n (pc' := 6) C dX6_greatestBut_5 rfl 3 rfl rfl ?_
    refine z_aload_n (pc' := 7) C dX6_greatestBut_6 rfl 0 rfl rfl ?_
    refine zgX6_26 (pc' := 10) C zo12 dX6_greatestBut_7 rfl ?_
    obtain ⟨ht, hf⟩ := h
    refine z_icmp_ge (tgt := 72) (pc' := 13) C dX6_greatestBut_10 (by decide) rfl (fun c2 => ?_) (fun c2 => ?_)
    · have h := ht c2
      refine z_iload_n (pc' := 73) C dX6_greatestBut_72 rfl 2 rfl rfl ?_
      exact z_iret C dX6_greatestBut_73 h
    · have h := hf c2
      refine z_iload_n (pc' := 14) C dX6_greatestBut_13 rfl 3 rfl rfl ?_
      refine z_iload_n (pc' := 15) C dX6_greatestBut_14 rfl 1 rfl rfl ?_
      obtain ⟨ht, hf⟩ := h
      refine z_icmp_eq (tgt := 35) (pc' := 18) C dX6_greatestBut_15 (by decide) rfl (fun c3 => ?_) (fun c3 => ?_)
      · have h := ht c3
        refine z_iconst (v := 0) (pc' := 36) C dX6_greatestBut_35 (by decide) rfl ?_
        refine z_istore (pc' := 38) (lv' := [(4, .int 0), (0, .ref (E.2.2 12 0)), (1, .int x1), (2, .int x2), (3, .int x3)]) C dX6_greatestBut_36 (by decide) rfl rfl ?_
        refine z_iload (pc' := 40) C dX6_greatestBut_38 0 rfl rfl ?_
        refine z_if_eq (tgt := 66) (pc' := 43) C dX6_greatestBut_40 (by decide) rfl (fun _ => ?_) (fun c4 => absurd c4 (by decide))
        refine z_iinc (j := 4) (v := x3 + 1) (pc' := 69) (lv' := [(3, .int (x3 + 1)), (4, .int 0), (0, .ref (E.2.2 12 0)), (1, .int x1), (2, .int x2)]) C dX6_greatestBut_66 rfl rfl (by decide) rfl rfl ?_
        refine z_goto (tgt := 5) C dX6_greatestBut_69 (by decide) ?_
        refine z_sub (lv' := [(0, .ref (E.2.2 12 0)), (1, .int x1), (2, .int x2), (3, .int (x3 + 1))]) [2, 3, 4, 0] rfl ?_
        exact ih _ _ _ h
      · have h := hf c3
        refine z_aload_n (pc' := 19) C dX6_greatestBut_18 rfl 0 rfl rfl ?_
        refine zgX6_9 (pc' := 22) C zo12 dX6_greatestBut_19 rfl ?_
        refine z_iload_n (pc' := 23) C dX6_greatestBut_22 rfl 3 rfl rfl ?_
        obtain ⟨hv5, h⟩ := h
        refine z_iald (n := 10) (pc' := 24) C (zL_mem (by decide) zo13) (fun _ => rfl) hv5 dX6_greatestBut_23 rfl ?_
        refine z_aload_n (pc' := 25) C dX6_greatestBut_24 rfl 0 rfl rfl ?_
        refine zgX6_29 (pc' := 28) C zo12 dX6_greatestBut_25 rfl ?_
        obtain ⟨ht, hf⟩ := h
        refine z_icmp_lt (tgt := 35) (pc' := 31) C dX6_greatestBut_28 (by decide) rfl (fun c6 => ?_) (fun c6 => ?_)
        · have h := ht c6
          refine z_iconst (v := 0) (pc' := 36) C dX6_greatestBut_35 (by decide) rfl ?_
          refine z_istore (pc' := 38) (lv' := [(4, .int 0), (0, .ref (E.2.2 12 0)), (1, .int x1), (2, .int x2), (3, .int x3)]) C dX6_greatestBut_36 (by decide) rfl rfl ?_
          refine z_iload (pc' := 40) C dX6_greatestBut_38 0 rfl rfl ?_
          refine z_if_eq (tgt := 66) (pc' := 43) C dX6_greatestBut_40 (by decide) rfl (fun _ => ?_) (fun c7 => absurd c7 (by decide))
          refine z_iinc (j := 4) (v := x3 + 1) (pc' := 69) (lv' := [(3, .int (x3 + 1)), (4, .int 0), (0, .ref (E.2.2 12 0)), (1, .int x1), (2, .int x2)]) C dX6_greatestBut_66 rfl rfl (by decide) rfl rfl ?_
          refine z_goto (tgt := 5) C dX6_greatestBut_69 (by decide) ?_
          refine z_sub (lv' := [(0, .ref (E.2.2 12 0)), (1, .int x1), (2, .int x2), (3, .int (x3 + 1))]) [2, 3, 4, 0] rfl ?_
          exact ih _ _ _ h
        · have h := hf c6
          refine z_iconst (v := 1) (pc' := 32) C dX6_greatestBut_31 (by decide) rfl ?_
          refine z_goto (tgt := 36) C dX6_greatestBut_32 (by decide) ?_
          refine z_istore (pc' := 38) (lv' := [(4, .int 1), (0, .ref (E.2.2 12 0)), (1, .int x1), (2, .int x2), (3, .int x3)]) C dX6_greatestBut_36 (by decide) rfl rfl ?_
          refine z_iload (pc' := 40) C dX6_greatestBut_38 0 rfl rfl ?_
          refine z_if_eq (tgt := 66) (pc' := 43) C dX6_greatestBut_40 (by decide) rfl (fun c8 => absurd c8 (by decide)) (fun _ => ?_)
          refine z_iload_n (pc' := 44) C dX6_greatestBut_43 rfl 3 rfl rfl ?_
          refine z_bipush (v := (-2)) (pc' := 46) C dX6_greatestBut_44 (by decide) rfl ?_
          obtain ⟨ht, hf⟩ := h
          refine z_icmp_eq (tgt := 64) (pc' := 49) C dX6_greatestBut_46 (by decide) rfl (fun c9 => ?_) (fun c9 => ?_)
          · have h := ht c9
            refine z_iload_n (pc' := 65) C dX6_greatestBut_64 rfl 4 rfl rfl ?_
            refine z_istore_n (pc' := 66) (lv' := [(2, .int x3), (4, .int 1), (0, .ref (E.2.2 12 0)), (1, .int x1), (3, .int x3)]) C dX6_greatestBut_65 rfl (by decide) rfl rfl ?_
            refine z_iinc (j := 4) (v := x3 + 1) (pc' := 69) (lv' := [(3, .int (x3 + 1)), (2, .int x3), (4, .int 1), (0, .ref (E.2.2 12 0)), (1, .int x1)]) C dX6_greatestBut_66 rfl rfl (by decide) rfl rfl ?_
            refine z_goto (tgt := 5) C dX6_greatestBut_69 (by decide) ?_
            refine z_sub (lv' := [(0, .ref (E.2.2 12 0)), (1, .int x1), (2, .int x3), (3, .int (x3 + 1))]) [3, 4, 1, 0] rfl ?_
            exact ih _ _ _ h
          · have h := hf c9
            refine z_aload_n (pc' := 50) C dX6_greatestBut_49 rfl 1 rfl rfl ?_
            refine zgX6_9 (pc' := 53) C zo12 dX6_greatestBut_50 rfl ?_
            refine z_iload_n (pc' := 54) C dX6_greatestBut_53 rfl 4 rfl rfl ?_
            obtain ⟨hv10, h⟩ := h
            refine z_iald (n := 10) (pc' := 55) C (zL_mem (by decide) zo13) (fun _ => rfl) hv10 dX6_greatestBut_54 rfl ?_
            refine z_aload_n (pc' := 56) C dX6_greatestBut_55 rfl 1 rfl rfl ?_
            refine zgX6_9 (pc' := 59) C zo12 dX6_greatestBut_56 rfl ?_
            refine z_iload_n (pc' := 60) C dX6_greatestBut_59 rfl 3 rfl rfl ?_
            obtain ⟨hv11, h⟩ := h
            refine z_iald (n := 10) (pc' := 61) C (zL_mem (by decide) zo13) (fun _ => rfl) hv11 dX6_greatestBut_60 rfl ?_
            obtain ⟨ht, hf⟩ := h
            refine z_icmp_le (tgt := 66) (pc' := 64) C dX6_greatestBut_61 (by decide) rfl (fun c12 => ?_) (fun c12 => ?_)
            · have h := ht c12
              refine z_iinc (j := 4) (v := x3 + 1) (pc' := 69) (lv' := [(3, .int (x3 + 1)), (4, .int 1), (0, .ref (E.2.2 12 0)), (1, .int x1), (2, .int x2)]) C dX6_greatestBut_66 rfl rfl (by decide) rfl rfl ?_
              refine z_goto (tgt := 5) C dX6_greatestBut_69 (by decide) ?_
              refine z_sub (lv' := [(0, .ref (E.2.2 12 0)), (1, .int x1), (2, .int x2), (3, .int (x3 + 1))]) [2, 3, 4, 0] rfl ?_
              exact ih _ _ _ h
            · have h := hf c12
              refine z_iload_n (pc' := 65) C dX6_greatestBut_64 rfl 4 rfl rfl ?_
              refine z_istore_n (pc' := 66) (lv' := [(2, .int x3), (4, .int 1), (0, .ref (E.2.2 12 0)), (1, .int x1), (3, .int x3)]) C dX6_greatestBut_65 rfl (by decide) rfl rfl ?_
              refine z_iinc (j := 4) (v := x3 + 1) (pc' := 69) (lv' := [(3, .int (x3 + 1)), (2, .int x3), (4, .int 1), (0, .ref (E.2.2 12 0)), (1, .int x1)]) C dX6_greatestBut_66 rfl rfl (by decide) rfl rfl ?_
              refine z_goto (tgt := 5) C dX6_greatestBut_69 (by decide) ?_
              refine z_sub (lv' := [(0, .ref (E.2.2 12 0)), (1, .int x1), (2, .int x3), (3, .int (x3 + 1))]) [3, 4, 1, 0] rfl ?_
              exact ih _ _ _ h
set_option maxHeartbeats 4000000 in
set_option maxRecDepth 100000 in
theorem sc_X6_greatestBut (l : Launch) (E : zE) (σ : zMem) (a0 : Int32) (Q : Int32 → zMem → Prop) (h : vc_X6_greatestBut σ a0 Q) : zMi l yX6_greatestBut cX6_greatestBut 5 .int 0 0 E [.ref (E.2.2 12 0), .int a0] σ Q := by
  refine zMi_of (by decide) (Nat.le_of_ble_eq_true rfl) ?_
  intro p e s m args below meth c C
  unfold vc_X6_greatestBut at h
  have fin : zG p l e (zRm 0 0) s m args below meth c 5 E 0 0 (MQ below (va_Qi Q (zPost E) (zA E s.heap.size)) args s 0 0 (zA E s.heap.size)) σ 0 [(0, .ref (E.2.2 12 0)), (1, .int a0)] [] := by
    refine z_bipush (v := (-2)) (pc' := 2) C dX6_greatestBut_0 (by decide) rfl ?_
    refine z_istore_n (pc' := 3) (lv' := [(2, .int ((-2))), (0, .ref (E.2.2 12 0)), (1, .int a0)]) C dX6_greatestBut_2 rfl (by decide) rfl rfl ?_
    refine z_iconst (v := 0) (pc' := 4) C dX6_greatestBut_3 (by decide) rfl ?_
    refine z_istore_n (pc' := 5) (lv' := [(3, .int 0), (2, .int ((-2))), (0, .ref (E.2.2 12 0)), (1, .int a0)]) C dX6_greatestBut_4 rfl (by decide) rfl rfl ?_
    obtain ⟨n1, h⟩ := h
    refine z_sub (lv' := [(0, .ref (E.2.2 12 0)), (1, .int a0), (2, .int ((-2))), (3, .int 0)]) [2, 3, 1, 0] rfl ?_
    exact sl_X6_greatestBut_5 C a0 Q n1 _ _ _ h
  exact fin
def vc_X6_lotTaker (σ : zMem) (Q : Int32 → zMem → Prop) : Prop := vc_X6_greatestBut σ ((-2)) (fun r2 σ1 => Q r2 σ1)
set_option maxHeartbeats 4000000 in
set_option maxRecDepth 100000 in
theorem sc_X6_lotTaker (l : Launch) (E : zE) (σ : zMem) (Q : Int32 → zMem → Prop) (h : vc_X6_lotTaker σ Q) : zMi l yX6_lotTaker cX6_lotTaker 1 .int 1 24 E [.ref (E.2.2 12 0)] σ Q := by
  refine zMi_of (by decide) (Nat.le_of_ble_eq_true rfl) ?_
  intro p e s m args below meth c C
  unfold vc_X6_lotTaker at h
  have fin : zG p l e (zRm 1 24) s m args below meth c 1 E 0 0 (MQ below (va_Qi Q (zPost E) (zA E s.heap.size)) args s 0 0 (zA E s.heap.size)) σ 0 [(0, .ref (E.2.2 12 0))] [] := by
    refine z_aload_n (pc' := 1) C dX6_lotTaker_0 rfl 0 rfl rfl ?_
    refine z_bipush (v := (-2)) (pc' := 3) C dX6_lotTaker_1 (by decide) rfl ?_
    refine z_callVi (q := 12) (i := 0) (w9 := (RX6, TX6, 6)) (pc' := 6) (st := []) (As := [.int ((-2))]) C (sc_X6_greatestBut l E σ ((-2)) _ h) zwX6_32_X6_greatestBut zvX6_32_X6_greatestBut.1 zvX6_32_X6_greatestBut.2 (zL_mem (by decide) zo12) rfl rfl ⟨(Nat.le_of_ble_eq_true rfl), (Nat.le_of_ble_eq_true rfl)⟩ ⟨Nat.zero_le _, Nat.zero_le _⟩ rfl rfl (Nat.le_of_ble_eq_true rfl) dX6_lotTaker_3 rfl (fun r2 σ1 h => ?_)
    exact z_iret C dX6_lotTaker_6 h
  exact fin
def vc_X6_lotPrice (σ : zMem) (a0 : Int32) (Q : Int32 → zMem → Prop) : Prop := ((¬ a0 = ((-2))) → vc_X6_greatestBut σ a0 (fun r3 σ2 => ((¬ r3 = ((-2))) → vp_in a0 10 ∧ vp_in r3 10 ∧ Q ((if ((σ2 13 0 r3.toNatClampNeg) + (σ2 12 0 3)) < (σ2 13 0 a0.toNatClampNeg) then (σ2 13 0 r3.toNatClampNeg) + (σ2 12 0 3) else σ2 13 0 a0.toNatClampNeg)) σ2) ∧ ((r3 = ((-2))) → Q (σ2 12 0 3) σ2))) ∧ ((a0 = ((-2))) → Q 0 σ)
set_option maxHeartbeats 4000000 in
set_option maxRecDepth 100000 in
theorem sc_X6_lotPrice (l : Launch) (E : zE) (σ : zMem) (a0 : Int32) (Q : Int32 → zMem → Prop) (h : vc_X6_lotPrice σ a0 Q) : zMi l yX6_lotPrice cX6_lotPrice 3 .int 1 24 E [.ref (E.2.2 12 0), .int a0] σ Q := by
  refine zMi_of (by decide) (Nat.le_of_ble_eq_true rfl) ?_
  intro p e s m args below meth c C
  unfold vc_X6_lotPrice at h
  have fin : zG p l e (zRm 1 24) s m args below meth c 3 E 0 0 (MQ below (va_Qi Q (zPost E) (zA E s.heap.size)) args s 0 0 (zA E s.heap.size)) σ 0 [(0, .ref (E.2.2 12 0)), (1, .int a0)] [] := by
    refine z_iload_n (pc' := 1) C dX6_lotPrice_0 rfl 1 rfl rfl ?_
    refine z_bipush (v := (-2)) (pc' := 3) C dX6_lotPrice_1 (by decide) rfl ?_
    obtain ⟨ht, hf⟩ := h
    refine z_icmp_ne (tgt := 8) (pc' := 6) C dX6_lotPrice_3 (by decide) rfl (fun c1 => ?_) (fun c1 => ?_)
    · have h := ht c1
      refine z_aload_n (pc' := 9) C dX6_lotPrice_8 rfl 0 rfl rfl ?_
      refine z_iload_n (pc' := 10) C dX6_lotPrice_9 rfl 1 rfl rfl ?_
      refine z_callVi (q := 12) (i := 0) (w9 := (RX6, TX6, 6)) (pc' := 13) (st := []) (As := [.int a0]) C (sc_X6_greatestBut l E σ a0 _ h) zwX6_32_X6_greatestBut zvX6_32_X6_greatestBut.1 zvX6_32_X6_greatestBut.2 (zL_mem (by decide) zo12) rfl rfl ⟨(Nat.le_of_ble_eq_true rfl), (Nat.le_of_ble_eq_true rfl)⟩ ⟨Nat.zero_le _, Nat.zero_le _⟩ rfl rfl (Nat.le_of_ble_eq_true rfl) dX6_lotPrice_10 rfl (fun r3 σ2 h => ?_)
      refine z_istore_n (pc' := 14) (lv' := [(2, .int r3), (0, .ref (E.2.2 12 0)), (1, .int a0)]) C dX6_lotPrice_13 rfl (by decide) rfl rfl ?_
      refine z_iload_n (pc' := 15) C dX6_lotPrice_14 rfl 0 rfl rfl ?_
      refine z_bipush (v := (-2)) (pc' := 17) C dX6_lotPrice_15 (by decide) rfl ?_
      obtain ⟨ht, hf⟩ := h
      refine z_icmp_ne (tgt := 27) (pc' := 20) C dX6_lotPrice_17 (by decide) rfl (fun c4 => ?_) (fun c4 => ?_)
      · have h := ht c4
        refine z_aload_n (pc' := 28) C dX6_lotPrice_27 rfl 1 rfl rfl ?_
        refine zgX6_9 (pc' := 31) C zo12 dX6_lotPrice_28 rfl ?_
        refine z_iload_n (pc' := 32) C dX6_lotPrice_31 rfl 2 rfl rfl ?_
        obtain ⟨hv5, h⟩ := h
        refine z_iald (n := 10) (pc' := 33) C (zL_mem (by decide) zo13) (fun _ => rfl) hv5 dX6_lotPrice_32 rfl ?_
        refine z_aload_n (pc' := 34) C dX6_lotPrice_33 rfl 1 rfl rfl ?_
        refine zgX6_9 (pc' := 37) C zo12 dX6_lotPrice_34 rfl ?_
        refine z_iload_n (pc' := 38) C dX6_lotPrice_37 rfl 0 rfl rfl ?_
        obtain ⟨hv6, h⟩ := h
        refine z_iald (n := 10) (pc' := 39) C (zL_mem (by decide) zo13) (fun _ => rfl) hv6 dX6_lotPrice_38 rfl ?_
        refine z_aload_n (pc' := 40) C dX6_lotPrice_39 rfl 1 rfl rfl ?_
        refine zgX6_29 (pc' := 43) C zo12 dX6_lotPrice_40 rfl ?_
        refine z_iadd (pc' := 44) C dX6_lotPrice_43 rfl ?_
        refine z_mmin (pc' := 47) C zmX6_36 (Nat.le_of_ble_eq_true rfl) (Nat.le_of_ble_eq_true rfl) (Nat.zero_le _) (Nat.zero_le _) dX6_lotPrice_44 rfl ?_
        exact z_iret C dX6_lotPrice_47 h
      · have h := hf c4
        refine z_aload_n (pc' := 21) C dX6_lotPrice_20 rfl 1 rfl rfl ?_
        refine zgX6_29 (pc' := 24) C zo12 dX6_lotPrice_21 rfl ?_
        refine z_goto (tgt := 47) C dX6_lotPrice_24 (by decide) ?_
        exact z_iret C dX6_lotPrice_47 h
    · have h := hf c1
      refine z_iconst (v := 0) (pc' := 7) C dX6_lotPrice_6 (by decide) rfl ?_
      exact z_iret C dX6_lotPrice_7 h
  exact fin
def vc_X7_isRow (σ : zMem) (i : Nat) (Q : Int32 → zMem → Prop) : Prop := (((σ 8 i 0) = 3) → Q 1 σ) ∧ ((¬ (σ 8 i 0) = 3) → ((¬ (σ 8 i 0) = 4) → Q 0 σ) ∧ (((σ 8 i 0) = 4) → Q 1 σ))
set_option maxHeartbeats 4000000 in
set_option maxRecDepth 100000 in
theorem sc_X7_isRow (l : Launch) (E : zE) (σ : zMem) (i : Nat) (Q : Int32 → zMem → Prop) (hi : i < zcnt 8) (h : vc_X7_isRow σ i Q) : zMi l yX7_isRow cX7_isRow 1 .boolean 0 0 E [.ref (E.2.2 8 i)] σ Q := by
  refine zMi_of (by decide) (Nat.le_of_ble_eq_true rfl) ?_
  intro p e s m args below meth c C
  unfold vc_X7_isRow at h
  have fin : zG p l e (zRm 0 0) s m args below meth c 1 E 0 0 (MQ below (va_Qi Q (zPost E) (zA E s.heap.size)) args s 0 0 (zA E s.heap.size)) σ 0 [(0, .ref (E.2.2 8 i))] [] := by
    refine z_aload_n (pc' := 1) C dX7_isRow_0 rfl 0 rfl rfl ?_
    refine zgX7_9 (pc' := 4) C hi dX7_isRow_1 rfl ?_
    refine z_iconst (v := 3) (pc' := 5) C dX7_isRow_4 (by decide) rfl ?_
    obtain ⟨ht, hf⟩ := h
    refine z_icmp_eq (tgt := 16) (pc' := 8) C dX7_isRow_5 (by decide) rfl (fun c1 => ?_) (fun c1 => ?_)
    · have h := ht c1
      refine z_iconst (v := 1) (pc' := 17) C dX7_isRow_16 (by decide) rfl ?_
      refine z_goto (tgt := 21) C dX7_isRow_17 (by decide) ?_
      exact z_zret C rfl dX7_isRow_21 h
    · have h := hf c1
      refine z_aload_n (pc' := 9) C dX7_isRow_8 rfl 0 rfl rfl ?_
      refine zgX7_9 (pc' := 12) C hi dX7_isRow_9 rfl ?_
      refine z_iconst (v := 4) (pc' := 13) C dX7_isRow_12 (by decide) rfl ?_
      obtain ⟨ht, hf⟩ := h
      refine z_icmp_ne (tgt := 20) (pc' := 16) C dX7_isRow_13 (by decide) rfl (fun c2 => ?_) (fun c2 => ?_)
      · have h := ht c2
        refine z_iconst (v := 0) (pc' := 21) C dX7_isRow_20 (by decide) rfl ?_
        exact z_zret C rfl dX7_isRow_21 h
      · have h := hf c2
        refine z_iconst (v := 1) (pc' := 17) C dX7_isRow_16 (by decide) rfl ?_
        refine z_goto (tgt := 21) C dX7_isRow_17 (by decide) ?_
        exact z_zret C rfl dX7_isRow_21 h
  exact fin
def vc_J7_fill_53178_5 (i_0 : Nat) (x1 : Int32) (x3 : Int32) (Q : zMem → Prop) : Nat → zMem → Int32 → Prop
  | 0, _, _ => False
  | n + 1, σ, x2 => ((x3 ≤ x2) → Q σ) ∧ ((¬ x3 ≤ x2) → vp_in x2 60 ∧ vc_J7_fill_53178_5 i_0 x1 x3 Q n (um σ 9 i_0 x2.toNatClampNeg x1) (x2 + 1))
def vc_J7_fill_53178 (σ : zMem) (i0 : Nat) (a1 : Int32) (Q : zMem → Prop) : Prop := ∃ n1, vc_J7_fill_53178_5 i0 a1 60 Q n1 σ 0
set_option maxHeartbeats 4000000 in
set_option maxRecDepth 100000 in
theorem sl_J7_fill_53178_5 {p : Program} {l : Launch} {e : Env} {s : State} {m : MethodId} {args : Array Value} {below : List Frame} {meth : Method} {c : Code} {E : zE} (C : zX p s m args meth c cJ7_fill_53178 4 RJ7 none E) (i_0 : Nat) (x1 : Int32) (x3 : Int32) (Q : zMem → Prop) (hi_0 : i_0 < zcnt 9) : ∀ (n : Nat) (σ : zMem) (x2 : Int32), vc_J7_fill_53178_5 i_0 x1 x3 Q n σ x2 → zG p l e (zRm 0 0) s m args below meth c 4 E 0 0 (MQ below (va_Qv Q (zPost E) (zA E s.heap.size)) args s 0 0 (zA E s.heap.size)) σ 5 [(0, .ref (E.2.2 9 i_0)), (1, .int x1), (2, .int x2), (3, .int x3)] [] := by
  intro n
  induction n with
  | zero =>
    intro σ x2 h
    exact False.elim h
  | succ n ih =>
    intro σ x2 h
    rw [vc_J7_fill_53178_5] at h
    refine z_iload_n (pc' := 6) C dJ7_fill_53178_5 rfl 2 rfl rfl ?_
    refine z_iload_n (pc' := 7) C dJ7_fill_53178_6 rfl 3 rfl rfl ?_
    obtain ⟨ht, hf⟩ := h
    refine z_icmp_ge (tgt := 20) (pc' := 10) C dJ7_fill_53178_7 (by decide) rfl (fun c2 => ?_) (fun c2 => ?_)
    · have h := ht c2
      exact z_vret C dJ7_fill_53178_20 h
    · have h := hf c2
      refine z_aload_n (pc' := 11) C dJ7_fill_53178_10 rfl 0 rfl rfl ?_
      refine z_iload_n (pc' := 12) C dJ7_fill_53178_11 rfl 2 rfl rfl ?_
      refine z_iload_n (pc' := 13) C dJ7_fill_53178_12 rfl 1 rfl rfl ?_
      obtain ⟨hv3, h⟩ := h
      refine z_iast (n := 60) (pc' := 14) C (zL_mem (by decide) hi_0) (fun _ => rfl) hv3 dJ7_fill_53178_13 rfl ?_
      refine z_iinc (j := 2) (v := x2 + 1) (pc' := 17) (lv' := [(2, .int (x2 + 1)), (0, .ref (E.2.2 9 i_0)), (1, .int x1), (3, .int x3)]) C dJ7_fill_53178_14 rfl rfl (by decide) rfl rfl ?_
      refine z_goto (tgt := 5) C dJ7_fill_53178_17 (by decide) ?_
      refine z_sub (lv' := [(0, .ref (E.2.2 9 i_0)), (1, .int x1), (2, .int (x2 + 1)), (3, .int x3)]) [1, 2, 0, 3] rfl ?_
      exact ih _ _ h
set_option maxHeartbeats 4000000 in
set_option maxRecDepth 100000 in
theorem sc_J7_fill_53178 (l : Launch) (E : zE) (σ : zMem) (i0 : Nat) (a1 : Int32) (Q : zMem → Prop) (hi0 : i0 < zcnt 9) (h : vc_J7_fill_53178 σ i0 a1 Q) : zMv l yJ7_fill_53178 cJ7_fill_53178 4 0 0 E [.ref (E.2.2 9 i0), .int a1] σ Q := by
  refine zMv_of (by decide) (Nat.le_of_ble_eq_true rfl) ?_
  intro p e s m args below meth c C
  unfold vc_J7_fill_53178 at h
  have fin : zG p l e (zRm 0 0) s m args below meth c 4 E 0 0 (MQ below (va_Qv Q (zPost E) (zA E s.heap.size)) args s 0 0 (zA E s.heap.size)) σ 0 [(0, .ref (E.2.2 9 i0)), (1, .int a1)] [] := by
    refine z_iconst (v := 0) (pc' := 1) C dJ7_fill_53178_0 (by decide) rfl ?_
    refine z_istore_n (pc' := 2) (lv' := [(2, .int 0), (0, .ref (E.2.2 9 i0)), (1, .int a1)]) C dJ7_fill_53178_1 rfl (by decide) rfl rfl ?_
    refine z_aload_n (pc' := 3) C dJ7_fill_53178_2 rfl 1 rfl rfl ?_
    refine z_alen (n := 60) (t0 := 0) (v := 60) (pc' := 4) C (zL_mem (by decide) hi0) rfl rfl (by decide) dJ7_fill_53178_3 rfl ?_
    refine z_istore_n (pc' := 5) (lv' := [(3, .int 60), (2, .int 0), (0, .ref (E.2.2 9 i0)), (1, .int a1)]) C dJ7_fill_53178_4 rfl (by decide) rfl rfl ?_
    obtain ⟨n1, h⟩ := h
    refine z_sub (lv' := [(0, .ref (E.2.2 9 i0)), (1, .int a1), (2, .int 0), (3, .int 60)]) [2, 3, 1, 0] rfl ?_
    exact sl_J7_fill_53178_5 C i0 a1 60 Q hi0 n1 _ _ h
  exact fin
def vc_J7_fill_53178_17_5 (x1 : Int32) (x3 : Int32) (Q : zMem → Prop) : Nat → zMem → Int32 → Prop
  | 0, _, _ => False
  | n + 1, σ, x2 => ((x3 ≤ x2) → Q σ) ∧ ((¬ x3 ≤ x2) → vp_in x2 24 ∧ vc_J7_fill_53178_17_5 x1 x3 Q n (um σ 17 0 x2.toNatClampNeg x1) (x2 + 1))
def vc_J7_fill_53178_17 (σ : zMem) (a1 : Int32) (Q : zMem → Prop) : Prop := ∃ n1, vc_J7_fill_53178_17_5 a1 24 Q n1 σ 0
set_option maxHeartbeats 4000000 in
set_option maxRecDepth 100000 in
theorem sl_J7_fill_53178_17_5 {p : Program} {l : Launch} {e : Env} {s : State} {m : MethodId} {args : Array Value} {below : List Frame} {meth : Method} {c : Code} {E : zE} (C : zX p s m args meth c cJ7_fill_53178 4 RJ7 none E) (x1 : Int32) (x3 : Int32) (Q : zMem → Prop) : ∀ (n : Nat) (σ : zMem) (x2 : Int32), vc_J7_fill_53178_17_5 x1 x3 Q n σ x2 → zG p l e (zRm 0 0) s m args below meth c 4 E 0 0 (MQ below (va_Qv Q (zPost E) (zA E s.heap.size)) args s 0 0 (zA E s.heap.size)) σ 5 [(0, .ref (E.2.2 17 0)), (1, .int x1), (2, .int x2), (3, .int x3)] [] := by
  intro n
  induction n with
  | zero =>
    intro σ x2 h
    exact False.elim h
  | succ n ih =>
    intro σ x2 h
    rw [vc_J7_fill_53178_17_5] at h
    refine z_iload_n (pc' := 6) C dJ7_fill_53178_5 rfl 2 rfl rfl ?_
    refine z_iload_n (pc' := 7) C dJ7_fill_53178_6 rfl 3 rfl rfl ?_
    obtain ⟨ht, hf⟩ := h
    refine z_icmp_ge (tgt := 20) (pc' := 10) C dJ7_fill_53178_7 (by decide) rfl (fun c2 => ?_) (fun c2 => ?_)
    · have h := ht c2
      exact z_vret C dJ7_fill_53178_20 h
    · have h := hf c2
      refine z_aload_n (pc' := 11) C dJ7_fill_53178_10 rfl 0 rfl rfl ?_
      refine z_iload_n (pc' := 12) C dJ7_fill_53178_11 rfl 2 rfl rfl ?_
      refine z_iload_n (pc' := 13) C dJ7_fill_53178_12 rfl 1 rfl rfl ?_
      obtain ⟨hv3, h⟩ := h
      refine z_iast (n := 24) (pc' := 14) C (zL_mem (by decide) zo17) (fun _ => rfl) hv3 dJ7_fill_53178_13 rfl ?_
      refine z_iinc (j := 2) (v := x2 + 1) (pc' := 17) (lv' := [(2, .int (x2 + 1)), (0, .ref (E.2.2 17 0)), (1, .int x1), (3, .int x3)]) C dJ7_fill_53178_14 rfl rfl (by decide) rfl rfl ?_
      refine z_goto (tgt := 5) C dJ7_fill_53178_17 (by decide) ?_
      refine z_sub (lv' := [(0, .ref (E.2.2 17 0)), (1, .int x1), (2, .int (x2 + 1)), (3, .int x3)]) [1, 2, 0, 3] rfl ?_
      exact ih _ _ h
set_option maxHeartbeats 4000000 in
set_option maxRecDepth 100000 in
theorem sc_J7_fill_53178_17 (l : Launch) (E : zE) (σ : zMem) (a1 : Int32) (Q : zMem → Prop) (h : vc_J7_fill_53178_17 σ a1 Q) : zMv l yJ7_fill_53178 cJ7_fill_53178 4 0 0 E [.ref (E.2.2 17 0), .int a1] σ Q := by
  refine zMv_of (by decide) (Nat.le_of_ble_eq_true rfl) ?_
  intro p e s m args below meth c C
  unfold vc_J7_fill_53178_17 at h
  have fin : zG p l e (zRm 0 0) s m args below meth c 4 E 0 0 (MQ below (va_Qv Q (zPost E) (zA E s.heap.size)) args s 0 0 (zA E s.heap.size)) σ 0 [(0, .ref (E.2.2 17 0)), (1, .int a1)] [] := by
    refine z_iconst (v := 0) (pc' := 1) C dJ7_fill_53178_0 (by decide) rfl ?_
    refine z_istore_n (pc' := 2) (lv' := [(2, .int 0), (0, .ref (E.2.2 17 0)), (1, .int a1)]) C dJ7_fill_53178_1 rfl (by decide) rfl rfl ?_
    refine z_aload_n (pc' := 3) C dJ7_fill_53178_2 rfl 1 rfl rfl ?_
    refine z_alen (n := 24) (t0 := 0) (v := 24) (pc' := 4) C (zL_mem (by decide) zo17) rfl rfl (by decide) dJ7_fill_53178_3 rfl ?_
    refine z_istore_n (pc' := 5) (lv' := [(3, .int 24), (2, .int 0), (0, .ref (E.2.2 17 0)), (1, .int a1)]) C dJ7_fill_53178_4 rfl (by decide) rfl rfl ?_
    obtain ⟨n1, h⟩ := h
    refine z_sub (lv' := [(0, .ref (E.2.2 17 0)), (1, .int a1), (2, .int 0), (3, .int 24)]) [2, 3, 1, 0] rfl ?_
    exact sl_J7_fill_53178_17_5 C a1 24 Q n1 _ _ h
  exact fin
def vc_J7_fill_031fb_5 (i_0 : Nat) (x1 : Int32) (x3 : Int32) (Q : zMem → Prop) : Nat → zMem → Int32 → Prop
  | 0, _, _ => False
  | n + 1, σ, x2 => ((x3 ≤ x2) → Q σ) ∧ ((¬ x3 ≤ x2) → vp_in x2 60 ∧ vc_J7_fill_031fb_5 i_0 x1 x3 Q n (um σ 10 i_0 x2.toNatClampNeg (vp_nar .byte x1)) (x2 + 1))
def vc_J7_fill_031fb (σ : zMem) (i0 : Nat) (a1 : Int32) (Q : zMem → Prop) : Prop := ∃ n1, vc_J7_fill_031fb_5 i0 a1 60 Q n1 σ 0
set_option maxHeartbeats 4000000 in
set_option maxRecDepth 100000 in
theorem sl_J7_fill_031fb_5 {p : Program} {l : Launch} {e : Env} {s : State} {m : MethodId} {args : Array Value} {below : List Frame} {meth : Method} {c : Code} {E : zE} (C : zX p s m args meth c cJ7_fill_031fb 4 RJ7 none E) (i_0 : Nat) (x1 : Int32) (x3 : Int32) (Q : zMem → Prop) (hi_0 : i_0 < zcnt 10) : ∀ (n : Nat) (σ : zMem) (x2 : Int32), vc_J7_fill_031fb_5 i_0 x1 x3 Q n σ x2 → zG p l e (zRm 0 0) s m args below meth c 4 E 0 0 (MQ below (va_Qv Q (zPost E) (zA E s.heap.size)) args s 0 0 (zA E s.heap.size)) σ 5 [(0, .ref (E.2.2 10 i_0)), (1, .int x1), (2, .int x2), (3, .int x3)] [] := by
  intro n
  induction n with
  | zero =>
    intro σ x2 h
    exact False.elim h
  | succ n ih =>
    intro σ x2 h
    rw [vc_J7_fill_031fb_5] at h
    refine z_iload_n (pc' := 6) C dJ7_fill_031fb_5 rfl 2 rfl rfl ?_
    refine z_iload_n (pc' := 7) C dJ7_fill_031fb_6 rfl 3 rfl rfl ?_
    obtain ⟨ht, hf⟩ := h
    refine z_icmp_ge (tgt := 20) (pc' := 10) C dJ7_fill_031fb_7 (by decide) rfl (fun c2 => ?_) (fun c2 => ?_)
    · have h := ht c2
      exact z_vret C dJ7_fill_031fb_20 h
    · have h := hf c2
      refine z_aload_n (pc' := 11) C dJ7_fill_031fb_10 rfl 0 rfl rfl ?_
      refine z_iload_n (pc' := 12) C dJ7_fill_031fb_11 rfl 2 rfl rfl ?_
      refine z_iload_n (pc' := 13) C dJ7_fill_031fb_12 rfl 1 rfl rfl ?_
      obtain ⟨hv3, h⟩ := h
      refine z_bast (n := 60) (pc' := 14) C (zL_mem (by decide) hi_0) (fun _ => rfl) hv3 dJ7_fill_031fb_13 rfl ?_
      refine z_iinc (j := 2) (v := x2 + 1) (pc' := 17) (lv' := [(2, .int (x2 + 1)), (0, .ref (E.2.2 10 i_0)), (1, .int x1), (3, .int x3)]) C dJ7_fill_031fb_14 rfl rfl (by decide) rfl rfl ?_
      refine z_goto (tgt := 5) C dJ7_fill_031fb_17 (by decide) ?_
      refine z_sub (lv' := [(0, .ref (E.2.2 10 i_0)), (1, .int x1), (2, .int (x2 + 1)), (3, .int x3)]) [1, 2, 0, 3] rfl ?_
      exact ih _ _ h
set_option maxHeartbeats 4000000 in
set_option maxRecDepth 100000 in
theorem sc_J7_fill_031fb (l : Launch) (E : zE) (σ : zMem) (i0 : Nat) (a1 : Int32) (Q : zMem → Prop) (hi0 : i0 < zcnt 10) (h : vc_J7_fill_031fb σ i0 a1 Q) : zMv l yJ7_fill_031fb cJ7_fill_031fb 4 0 0 E [.ref (E.2.2 10 i0), .int a1] σ Q := by
  refine zMv_of (by decide) (Nat.le_of_ble_eq_true rfl) ?_
  intro p e s m args below meth c C
  unfold vc_J7_fill_031fb at h
  have fin : zG p l e (zRm 0 0) s m args below meth c 4 E 0 0 (MQ below (va_Qv Q (zPost E) (zA E s.heap.size)) args s 0 0 (zA E s.heap.size)) σ 0 [(0, .ref (E.2.2 10 i0)), (1, .int a1)] [] := by
    refine z_iconst (v := 0) (pc' := 1) C dJ7_fill_031fb_0 (by decide) rfl ?_
    refine z_istore_n (pc' := 2) (lv' := [(2, .int 0), (0, .ref (E.2.2 10 i0)), (1, .int a1)]) C dJ7_fill_031fb_1 rfl (by decide) rfl rfl ?_
    refine z_aload_n (pc' := 3) C dJ7_fill_031fb_2 rfl 1 rfl rfl ?_
    refine z_alen (n := 60) (t0 := 2) (v := 60) (pc' := 4) C (zL_mem (by decide) hi0) rfl rfl (by decide) dJ7_fill_031fb_3 rfl ?_
    refine z_istore_n (pc' := 5) (lv' := [(3, .int 60), (2, .int 0), (0, .ref (E.2.2 10 i0)), (1, .int a1)]) C dJ7_fill_031fb_4 rfl (by decide) rfl rfl ?_
    obtain ⟨n1, h⟩ := h
    refine z_sub (lv' := [(0, .ref (E.2.2 10 i0)), (1, .int a1), (2, .int 0), (3, .int 60)]) [2, 3, 1, 0] rfl ?_
    exact sl_J7_fill_031fb_5 C i0 a1 60 Q hi0 n1 _ _ h
  exact fin
def vc_X7_takeRow (σ : zMem) (i : Nat) (a0 : Int32) (a1 : Int32) (Q : zMem → Prop) : Prop := vc_J7_fill_53178 (um (um σ 8 i 0 a0) 8 i 6 a1) i 0 (fun σ1 => vc_J7_fill_031fb σ1 i 0 (fun σ2 => Q σ2))
set_option maxHeartbeats 4000000 in
set_option maxRecDepth 100000 in
theorem sc_X7_takeRow (l : Launch) (E : zE) (σ : zMem) (i : Nat) (a0 : Int32) (a1 : Int32) (Q : zMem → Prop) (hi : i < zcnt 8) (h : vc_X7_takeRow σ i a0 a1 Q) : zMv l yX7_takeRow cX7_takeRow 3 1 23 E [.ref (E.2.2 8 i), .int a0, .int a1] σ Q := by
  refine zMv_of (by decide) (Nat.le_of_ble_eq_true rfl) ?_
  intro p e s m args below meth c C
  unfold vc_X7_takeRow at h
  have fin : zG p l e (zRm 1 23) s m args below meth c 3 E 0 0 (MQ below (va_Qv Q (zPost E) (zA E s.heap.size)) args s 0 0 (zA E s.heap.size)) σ 0 [(0, .ref (E.2.2 8 i)), (1, .int a0), (2, .int a1)] [] := by
    refine z_aload_n (pc' := 1) C dX7_takeRow_0 rfl 0 rfl rfl ?_
    refine z_iload_n (pc' := 2) C dX7_takeRow_1 rfl 1 rfl rfl ?_
    refine zpX7_9 (pc' := 5) C hi dX7_takeRow_2 rfl ?_
    refine z_aload_n (pc' := 6) C dX7_takeRow_5 rfl 0 rfl rfl ?_
    refine z_iload_n (pc' := 7) C dX7_takeRow_6 rfl 2 rfl rfl ?_
    refine zpX7_27 (pc' := 10) C hi dX7_takeRow_7 rfl ?_
    refine z_aload_n (pc' := 11) C dX7_takeRow_10 rfl 0 rfl rfl ?_
    refine zgX7_15 (pc' := 14) C hi dX7_takeRow_11 rfl ?_
    refine z_iconst (v := 0) (pc' := 15) C dX7_takeRow_14 (by decide) rfl ?_
    refine z_callSv (pc' := 18) (st := []) (As := [.ref (E.2.2 9 i), .int 0]) C (sc_J7_fill_53178 l E (um (um σ 8 i 0 a0) 8 i 6 a1) i 0 _ hi h) zwX7_30_J7_fill_53178 ztX7_30_J7_fill_53178 ⟨(Nat.le_of_ble_eq_true rfl), (Nat.le_of_ble_eq_true rfl)⟩ ⟨Nat.zero_le _, Nat.zero_le _⟩ rfl rfl (Nat.le_of_ble_eq_true rfl) dX7_takeRow_15 rfl (fun σ1 h => ?_)
    refine z_aload_n (pc' := 19) C dX7_takeRow_18 rfl 0 rfl rfl ?_
    refine zgX7_19 (pc' := 22) C hi dX7_takeRow_19 rfl ?_
    refine z_iconst (v := 0) (pc' := 23) C dX7_takeRow_22 (by decide) rfl ?_
    refine z_callSv (pc' := 26) (st := []) (As := [.ref (E.2.2 10 i), .int 0]) C (sc_J7_fill_031fb l E σ1 i 0 _ hi h) zwX7_36_J7_fill_031fb ztX7_36_J7_fill_031fb ⟨(Nat.le_of_ble_eq_true rfl), (Nat.le_of_ble_eq_true rfl)⟩ ⟨Nat.zero_le _, Nat.zero_le _⟩ rfl rfl (Nat.le_of_ble_eq_true rfl) dX7_takeRow_23 rfl (fun σ2 h => ?_)
    exact z_vret C dX7_takeRow_26 h
  exact fin
