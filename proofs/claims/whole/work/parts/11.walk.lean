def vc_X7_hasPlaces (σ : zMem) (i : Nat) (a0 : Int32) (a1 : Int32) (Q : Int32 → zMem → Prop) : Prop := ((a1 < 0) → Q 0 σ) ∧ ((¬ a1 < 0) → ((a0 < 0) → Q 0 σ) ∧ ((¬ a0 < 0) → (((σ 8 i 6) < a0) → Q 0 σ) ∧ ((¬ (σ 8 i 6) < a0) → ((((σ 8 i 6) - a0) < a1) → Q 0 σ) ∧ ((¬ ((σ 8 i 6) - a0) < a1) → Q 1 σ))))
set_option maxHeartbeats 4000000 in
set_option maxRecDepth 100000 in
theorem sc_X7_hasPlaces (l : Launch) (E : zE) (σ : zMem) (i : Nat) (a0 : Int32) (a1 : Int32) (Q : Int32 → zMem → Prop) (hi : i < zcnt 8) (h : vc_X7_hasPlaces σ i a0 a1 Q) : zMi l yX7_hasPlaces cX7_hasPlaces 3 .boolean 0 0 E [.ref (E.2.2 8 i), .int a0, .int a1] σ Q := by
  refine zMi_of (by decide) (Nat.le_of_ble_eq_true rfl) ?_
  intro p e s m args below meth c C
  unfold vc_X7_hasPlaces at h
  have fin : zG p l e (zRm 0 0) s m args below meth c 3 E 0 0 (MQ below (va_Qi Q (zPost E) (zA E s.heap.size)) args s 0 0 (zA E s.heap.size)) σ 0 [(0, .ref (E.2.2 8 i)), (1, .int a0), (2, .int a1)] [] := by
    refine z_iload_n (pc' := 1) C dX7_hasPlaces_0 rfl 2 rfl rfl ?_
    obtain ⟨ht, hf⟩ := h
    refine z_if_lt (tgt := 30) (pc' := 4) C dX7_hasPlaces_1 (by decide) rfl (fun c1 => ?_) (fun c1 => ?_)
    · have h := ht c1
      refine z_iconst (v := 0) (pc' := 31) C dX7_hasPlaces_30 (by decide) rfl ?_
      exact z_zret C rfl dX7_hasPlaces_31 h
    · have h := hf c1
      refine z_iload_n (pc' := 5) C dX7_hasPlaces_4 rfl 1 rfl rfl ?_
      obtain ⟨ht, hf⟩ := h
      refine z_if_lt (tgt := 30) (pc' := 8) C dX7_hasPlaces_5 (by decide) rfl (fun c2 => ?_) (fun c2 => ?_)
      · have h := ht c2
        refine z_iconst (v := 0) (pc' := 31) C dX7_hasPlaces_30 (by decide) rfl ?_
        exact z_zret C rfl dX7_hasPlaces_31 h
      · have h := hf c2
        refine z_iload_n (pc' := 9) C dX7_hasPlaces_8 rfl 1 rfl rfl ?_
        refine z_aload_n (pc' := 10) C dX7_hasPlaces_9 rfl 0 rfl rfl ?_
        refine zgX7_27 (pc' := 13) C hi dX7_hasPlaces_10 rfl ?_
        obtain ⟨ht, hf⟩ := h
        refine z_icmp_gt (tgt := 30) (pc' := 16) C dX7_hasPlaces_13 (by decide) rfl (fun c3 => ?_) (fun c3 => ?_)
        · have h := ht c3
          refine z_iconst (v := 0) (pc' := 31) C dX7_hasPlaces_30 (by decide) rfl ?_
          exact z_zret C rfl dX7_hasPlaces_31 h
        · have h := hf c3
          refine z_iload_n (pc' := 17) C dX7_hasPlaces_16 rfl 2 rfl rfl ?_
          refine z_aload_n (pc' := 18) C dX7_hasPlaces_17 rfl 0 rfl rfl ?_
          refine zgX7_27 (pc' := 21) C hi dX7_hasPlaces_18 rfl ?_
          refine z_iload_n (pc' := 22) C dX7_hasPlaces_21 rfl 1 rfl rfl ?_
          refine z_isub (pc' := 23) C dX7_hasPlaces_22 rfl ?_
          obtain ⟨ht, hf⟩ := h
          refine z_icmp_gt (tgt := 30) (pc' := 26) C dX7_hasPlaces_23 (by decide) rfl (fun c4 => ?_) (fun c4 => ?_)
          · have h := ht c4
            refine z_iconst (v := 0) (pc' := 31) C dX7_hasPlaces_30 (by decide) rfl ?_
            exact z_zret C rfl dX7_hasPlaces_31 h
          · have h := hf c4
            refine z_iconst (v := 1) (pc' := 27) C dX7_hasPlaces_26 (by decide) rfl ?_
            refine z_goto (tgt := 31) C dX7_hasPlaces_27 (by decide) ?_
            exact z_zret C rfl dX7_hasPlaces_31 h
  exact fin
def vc_X8_leastBeside_5 (x1 : Int32) (Q : Int32 → zMem → Prop) : Nat → zMem → Int32 → Int32 → Prop
  | 0, _, _, _ => False
  | n + 1, σ, x2, x3 => ((4 ≤ x3) → Q x2 σ) ∧ ((¬ 4 ≤ x3) → vc_X5_beside σ x1 x3 (fun r4 σ3 => ((r4 < 0) → vc_X8_leastBeside_5 x1 Q n σ3 x2 (x3 + 1)) ∧ ((¬ r4 < 0) → vp_in r4 24 ∧ vc_X8_leastBeside_5 x1 Q n σ3 ((if (σ3 17 0 r4.toNatClampNeg) < x2 then σ3 17 0 r4.toNatClampNeg else x2)) (x3 + 1))))
def vc_X8_leastBeside (σ : zMem) (a0 : Int32) (Q : Int32 → zMem → Prop) : Prop := ∃ n1, vc_X8_leastBeside_5 a0 Q n1 σ 1000000 0
set_option maxHeartbeats 4000000 in
set_option maxRecDepth 100000 in
theorem sl_X8_leastBeside_5 {p : Program} {l : Launch} {e : Env} {s : State} {m : MethodId} {args : Array Value} {below : List Frame} {meth : Method} {c : Code} {E : zE} (C : zX p s m args meth c cX8_leastBeside 5 RX8 (some .int) E) (x1 : Int32) (Q : Int32 → zMem → Prop) : ∀ (n : Nat) (σ : zMem) (x2 : Int32) (x3 : Int32), vc_X8_leastBeside_5 x1 Q n σ x2 x3 → zG p l e (zRm 1 22) s m args below meth c 5 E 0 0 (MQ below (va_Qi Q (zPost E) (zA E s.heap.size)) args s 0 0 (zA E s.heap.size)) σ 5 [(0, .ref (E.2.2 15 0)), (1, .int x1), (2, .int x2), (3, .int x3)] [] := by
  intro n
  induction n with
  | zero =>
    intro σ x2 x3 h
    exact False.elim h
  | succ n ih =>
    intro σ x2 x3 h
    rw [vc_X8_leastBeside_5] at h
    refine z_iload_n (pc' := 6) C dX8_leastBeside_5 rfl 3 rfl rfl ?_
    refine z_iconst (v := 4) (pc' := 7) C dX8_leastBeside_6 (by decide) rfl ?_
    obtain ⟨ht, hf⟩ := h
    refine z_icmp_ge (tgt := 40) (pc' := 10) C dX8_leastBeside_7 (by decide) rfl (fun c2 => ?_) (fun c2 => ?_)
    · have h := ht c2
      refine z_iload_n (pc' := 41) C dX8_leastBeside_40 rfl 2 rfl rfl ?_
      exact z_iret C dX8_leastBeside_41 h
    · have h := hf c2
      refine z_iload_n (pc' := 11) C dX8_leastBeside_10 rfl 1 rfl rfl ?_
      refine z_iload_n (pc' := 12) C dX8_leastBeside_11 rfl 3 rfl rfl ?_
      refine z_callSi (pc' := 15) (st := []) (As := [.int x1, .int x3]) C (sc_X5_beside l E σ x1 x3 _ h) zwX8_38_X5_beside ztX8_38_X5_beside ⟨(Nat.le_of_ble_eq_true rfl), (Nat.le_of_ble_eq_true rfl)⟩ ⟨Nat.zero_le _, Nat.zero_le _⟩ rfl rfl (Nat.le_of_ble_eq_true rfl) dX8_leastBeside_12 rfl (fun r4 σ3 h => ?_)
      refine z_istore (pc' := 17) (lv' := [(4, .int r4), (0, .ref (E.2.2 15 0)), (1, .int x1), (2, .int x2), (3, .int x3)]) C dX8_leastBeside_15 (by decide) rfl rfl ?_
      refine z_iload (pc' := 19) C dX8_leastBeside_17 0 rfl rfl ?_
      obtain ⟨ht, hf⟩ := h
      refine z_if_lt (tgt := 34) (pc' := 22) C dX8_leastBeside_19 (by decide) rfl (fun c5 => ?_) (fun c5 => ?_)
      · have h := ht c5
        refine z_iinc (j := 4) (v := x3 + 1) (pc' := 37) (lv' := [(3, .int (x3 + 1)), (4, .int r4), (0, .ref (E.2.2 15 0)), (1, .int x1), (2, .int x2)]) C dX8_leastBeside_34 rfl rfl (by decide) rfl rfl ?_
        refine z_goto (tgt := 5) C dX8_leastBeside_37 (by decide) ?_
        refine z_sub (lv' := [(0, .ref (E.2.2 15 0)), (1, .int x1), (2, .int x2), (3, .int (x3 + 1))]) [2, 3, 4, 0] rfl ?_
        exact ih _ _ _ h
      · have h := hf c5
        refine z_iload_n (pc' := 23) C dX8_leastBeside_22 rfl 3 rfl rfl ?_
        refine z_aload_n (pc' := 24) C dX8_leastBeside_23 rfl 1 rfl rfl ?_
        refine zgX8_15 (pc' := 27) C zo15 dX8_leastBeside_24 rfl ?_
        refine z_iload (pc' := 29) C dX8_leastBeside_27 0 rfl rfl ?_
        obtain ⟨hv6, h⟩ := h
        refine z_iald (n := 24) (pc' := 30) C (zL_mem (by decide) zo17) (fun _ => rfl) hv6 dX8_leastBeside_29 rfl ?_
        refine z_mmin (pc' := 33) C zmX8_42 (Nat.le_of_ble_eq_true rfl) (Nat.le_of_ble_eq_true rfl) (Nat.zero_le _) (Nat.zero_le _) dX8_leastBeside_30 rfl ?_
        refine z_istore_n (pc' := 34) (lv' := [(2, .int ((if (σ3 17 0 r4.toNatClampNeg) < x2 then σ3 17 0 r4.toNatClampNeg else x2))), (4, .int r4), (0, .ref (E.2.2 15 0)), (1, .int x1), (3, .int x3)]) C dX8_leastBeside_33 rfl (by decide) rfl rfl ?_
        refine z_iinc (j := 4) (v := x3 + 1) (pc' := 37) (lv' := [(3, .int (x3 + 1)), (2, .int ((if (σ3 17 0 r4.toNatClampNeg) < x2 then σ3 17 0 r4.toNatClampNeg else x2))), (4, .int r4), (0, .ref (E.2.2 15 0)), (1, .int x1)]) C dX8_leastBeside_34 rfl rfl (by decide) rfl rfl ?_
        refine z_goto (tgt := 5) C dX8_leastBeside_37 (by decide) ?_
        refine z_sub (lv' := [(0, .ref (E.2.2 15 0)), (1, .int x1), (2, .int ((if (σ3 17 0 r4.toNatClampNeg) < x2 then σ3 17 0 r4.toNatClampNeg else x2))), (3, .int (x3 + 1))]) [3, 4, 1, 0] rfl ?_
        exact ih _ _ _ h
set_option maxHeartbeats 4000000 in
set_option maxRecDepth 100000 in
theorem sc_X8_leastBeside (l : Launch) (E : zE) (σ : zMem) (a0 : Int32) (Q : Int32 → zMem → Prop) (h : vc_X8_leastBeside σ a0 Q) : zMi l yX8_leastBeside cX8_leastBeside 5 .int 1 22 E [.ref (E.2.2 15 0), .int a0] σ Q := by
  refine zMi_of (by decide) (Nat.le_of_ble_eq_true rfl) ?_
  intro p e s m args below meth c C
  unfold vc_X8_leastBeside at h
  have fin : zG p l e (zRm 1 22) s m args below meth c 5 E 0 0 (MQ below (va_Qi Q (zPost E) (zA E s.heap.size)) args s 0 0 (zA E s.heap.size)) σ 0 [(0, .ref (E.2.2 15 0)), (1, .int a0)] [] := by
    refine z_ldc (v := 1000000) (pc' := 2) C (zr21 _ (List.mem_of_getElem? (i := 12) rfl)) dX8_leastBeside_0 rfl ?_
    refine z_istore_n (pc' := 3) (lv' := [(2, .int 1000000), (0, .ref (E.2.2 15 0)), (1, .int a0)]) C dX8_leastBeside_2 rfl (by decide) rfl rfl ?_
    refine z_iconst (v := 0) (pc' := 4) C dX8_leastBeside_3 (by decide) rfl ?_
    refine z_istore_n (pc' := 5) (lv' := [(3, .int 0), (2, .int 1000000), (0, .ref (E.2.2 15 0)), (1, .int a0)]) C dX8_leastBeside_4 rfl (by decide) rfl rfl ?_
    obtain ⟨n1, h⟩ := h
    refine z_sub (lv' := [(0, .ref (E.2.2 15 0)), (1, .int a0), (2, .int 1000000), (3, .int 0)]) [2, 3, 1, 0] rfl ?_
    exact sl_X8_leastBeside_5 C a0 Q n1 _ _ _ h
  exact fin
def vc_X8_spread_39 (x2 : Int32) (Q : zMem → Prop) (K25 : zMem → Int32 → Int32 → Prop) : Nat → zMem → Int32 → Int32 → Prop
  | 0, _, _, _ => False
  | n + 1, σ, x1, x3 => ((24 ≤ x3) → K25 σ x1 (x2 + 1)) ∧ ((¬ 24 ≤ x3) → vc_X8_leastBeside σ x3 (fun r10 σ9 => vp_in x3 24 ∧ vp_in x3 24 ∧ (((σ9 17 0 x3.toNatClampNeg) ≤ (r10 + (σ9 16 0 x3.toNatClampNeg))) → vc_X8_spread_39 x2 Q K25 n σ9 x1 (x3 + 1)) ∧ ((¬ (σ9 17 0 x3.toNatClampNeg) ≤ (r10 + (σ9 16 0 x3.toNatClampNeg))) → vp_in x3 24 ∧ vc_X8_spread_39 x2 Q K25 n (um σ9 17 0 x3.toNatClampNeg (r10 + (σ9 16 0 x3.toNatClampNeg))) 1 (x3 + 1))))
def vc_X8_spread_25 (Q : zMem → Prop) : Nat → zMem → Int32 → Int32 → Prop
  | 0, _, _, _ => False
  | n + 1, σ, x1, x2 => ((24 ≤ x2) → Q σ) ∧ ((¬ 24 ≤ x2) → ((x1 = 0) → Q σ) ∧ ((¬ x1 = 0) → ∃ n7, vc_X8_spread_39 x2 Q (vc_X8_spread_25 Q n) n7 σ 0 0))
def vc_X8_spread (σ : zMem) (Q : zMem → Prop) : Prop := vc_J7_fill_53178_17 σ 1000000 (fun σ1 => vp_in 0 24 ∧ vp_in 0 24 ∧ ∃ n4, vc_X8_spread_25 Q n4 (um σ1 17 0 (0 : Int32).toNatClampNeg (σ1 16 0 (0 : Int32).toNatClampNeg)) 1 0)
set_option maxHeartbeats 4000000 in
set_option maxRecDepth 100000 in
theorem sl_X8_spread_39 {p : Program} {l : Launch} {e : Env} {s : State} {m : MethodId} {args : Array Value} {below : List Frame} {meth : Method} {c : Code} {E : zE} (C : zX p s m args meth c cX8_spread 5 RX8 none E) (x2 : Int32) (Q : zMem → Prop) {K25 : zMem → Int32 → Int32 → Prop} (hK25 : ∀ (σ : zMem) (y1 : Int32) (y2 : Int32), K25 σ y1 y2 → zG p l e (zRm 2 46) s m args below meth c 5 E 0 0 (MQ below (va_Qv Q (zPost E) (zA E s.heap.size)) args s 0 0 (zA E s.heap.size)) σ 25 [(0, .ref (E.2.2 15 0)), (1, .int y1), (2, .int y2)] []) : ∀ (n : Nat) (σ : zMem) (x1 : Int32) (x3 : Int32), vc_X8_spread_39 x2 Q K25 n σ x1 x3 → zG p l e (zRm 2 46) s m args below meth c 5 E 0 0 (MQ below (va_Qv Q (zPost E) (zA E s.heap.size)) args s 0 0 (zA E s.heap.size)) σ 39 [(0, .ref (E.2.2 15 0)), (1, .int x1), (2, .int x2), (3, .int x3)] [] := by
  intro n
  induction n with
  | zero =>
    intro σ x1 x3 h
    exact False.elim h
  | succ n ih =>
    intro σ x1 x3 h
    rw [vc_X8_spread_39] at h
    refine z_iload_n (pc' := 40) C dX8_spread_39 rfl 3 rfl rfl ?_
    refine z_bipush (v := 24) (pc' := 42) C dX8_spread_40 (by decide) rfl ?_
    obtain ⟨ht, hf⟩ := h
    refine z_icmp_ge (tgt := 86) (pc' := 45) C dX8_spread_42 (by decide) rfl (fun c8 => ?_) (fun c8 => ?_)
    · have h := ht c8
      refine z_iinc (j := 2) (v := x2 + 1) (pc' := 89) (lv' := [(2, .int (x2 + 1)), (0, .ref (E.2.2 15 0)), (1, .int x1), (3, .int x3)]) C dX8_spread_86 rfl rfl (by decide) rfl rfl ?_
      refine z_goto (tgt := 25) C dX8_spread_89 (by decide) ?_
      refine z_sub (lv' := [(0, .ref (E.2.2 15 0)), (1, .int x1), (2, .int (x2 + 1))]) [1, 2, 0] rfl ?_
      exact hK25 _ _ _ h
    · have h := hf c8
      refine z_aload_n (pc' := 46) C dX8_spread_45 rfl 0 rfl rfl ?_
      refine z_iload_n (pc' := 47) C dX8_spread_46 rfl 3 rfl rfl ?_
      refine z_callVi (q := 15) (i := 0) (w9 := (RX8, TX8, 2)) (pc' := 50) (st := []) (As := [.int x3]) C (sc_X8_leastBeside l E σ x3 _ h) zwX8_34_X8_leastBeside zvX8_34_X8_leastBeside.1 zvX8_34_X8_leastBeside.2 (zL_mem (by decide) zo15) rfl rfl ⟨(Nat.le_of_ble_eq_true rfl), (Nat.le_of_ble_eq_true rfl)⟩ ⟨Nat.zero_le _, Nat.zero_le _⟩ rfl rfl (Nat.le_of_ble_eq_true rfl) dX8_spread_47 rfl (fun r10 σ9 h => ?_)
      refine z_aload_n (pc' := 51) C dX8_spread_50 rfl 0 rfl rfl ?_
      refine zgX8_9 (pc' := 54) C zo15 dX8_spread_51 rfl ?_
      refine z_iload_n (pc' := 55) C dX8_spread_54 rfl 3 rfl rfl ?_
      obtain ⟨hv11, h⟩ := h
      refine z_iald (n := 24) (pc' := 56) C (zL_mem (by decide) zo16) (fun _ => rfl) hv11 dX8_spread_55 rfl ?_
      refine z_iadd (pc' := 57) C dX8_spread_56 rfl ?_
      refine z_istore (pc' := 59) (lv' := [(4, .int (r10 + (σ9 16 0 x3.toNatClampNeg))), (0, .ref (E.2.2 15 0)), (1, .int x1), (2, .int x2), (3, .int x3)]) C dX8_spread_57 (by decide) rfl rfl ?_
      refine z_iload (pc' := 61) C dX8_spread_59 0 rfl rfl ?_
      refine z_aload_n (pc' := 62) C dX8_spread_61 rfl 1 rfl rfl ?_
      refine zgX8_15 (pc' := 65) C zo15 dX8_spread_62 rfl ?_
      refine z_iload_n (pc' := 66) C dX8_spread_65 rfl 4 rfl rfl ?_
      obtain ⟨hv12, h⟩ := h
      refine z_iald (n := 24) (pc' := 67) C (zL_mem (by decide) zo17) (fun _ => rfl) hv12 dX8_spread_66 rfl ?_
      obtain ⟨ht, hf⟩ := h
      refine z_icmp_ge (tgt := 80) (pc' := 70) C dX8_spread_67 (by decide) rfl (fun c13 => ?_) (fun c13 => ?_)
      · have h := ht c13
        refine z_iinc (j := 4) (v := x3 + 1) (pc' := 83) (lv' := [(3, .int (x3 + 1)), (4, .int (r10 + (σ9 16 0 x3.toNatClampNeg))), (0, .ref (E.2.2 15 0)), (1, .int x1), (2, .int x2)]) C dX8_spread_80 rfl rfl (by decide) rfl rfl ?_
        refine z_goto (tgt := 39) C dX8_spread_83 (by decide) ?_
        refine z_sub (lv' := [(0, .ref (E.2.2 15 0)), (1, .int x1), (2, .int x2), (3, .int (x3 + 1))]) [2, 3, 4, 0] rfl ?_
        exact ih _ _ _ h
      · have h := hf c13
        refine z_aload_n (pc' := 71) C dX8_spread_70 rfl 1 rfl rfl ?_
        refine zgX8_15 (pc' := 74) C zo15 dX8_spread_71 rfl ?_
        refine z_iload_n (pc' := 75) C dX8_spread_74 rfl 4 rfl rfl ?_
        refine z_iload (pc' := 77) C dX8_spread_75 0 rfl rfl ?_
        obtain ⟨hv14, h⟩ := h
        refine z_iast (n := 24) (pc' := 78) C (zL_mem (by decide) zo17) (fun _ => rfl) hv14 dX8_spread_77 rfl ?_
        refine z_iconst (v := 1) (pc' := 79) C dX8_spread_78 (by decide) rfl ?_
        refine z_istore_n (pc' := 80) (lv' := [(1, .int 1), (4, .int (r10 + (σ9 16 0 x3.toNatClampNeg))), (0, .ref (E.2.2 15 0)), (2, .int x2), (3, .int x3)]) C dX8_spread_79 rfl (by decide) rfl rfl ?_
        refine z_iinc (j := 4) (v := x3 + 1) (pc' := 83) (lv' := [(3, .int (x3 + 1)), (1, .int 1), (4, .int (r10 + (σ9 16 0 x3.toNatClampNeg))), (0, .ref (E.2.2 15 0)), (2, .int x2)]) C dX8_spread_80 rfl rfl (by decide) rfl rfl ?_
        refine z_goto (tgt := 39) C dX8_spread_83 (by decide) ?_
        refine z_sub (lv' := [(0, .ref (E.2.2 15 0)), (1, .int 1), (2, .int x2), (3, .int (x3 + 1))]) [3, 1, 4, 0] rfl ?_
        exact ih _ _ _ h
set_option maxHeartbeats 4000000 in
set_option maxRecDepth 100000 in
theorem sl_X8_spread_25 {p : Program} {l : Launch} {e : Env} {s : State} {m : MethodId} {args : Array Value} {below : List Frame} {meth : Method} {c : Code} {E : zE} (C : zX p s m args meth c cX8_spread 5 RX8 none E) (Q : zMem → Prop) : ∀ (n : Nat) (σ : zMem) (x1 : Int32) (x2 : Int32), vc_X8_spread_25 Q n σ x1 x2 → zG p l e (zRm 2 46) s m args below meth c 5 E 0 0 (MQ below (va_Qv Q (zPost E) (zA E s.heap.size)) args s 0 0 (zA E s.heap.size)) σ 25 [(0, .ref (E.2.2 15 0)), (1, .int x1), (2, .int x2)] [] := by
  intro n
  induction n with
  | zero =>
    intro σ x1 x2 h
    exact False.elim h
  | succ n ih =>
    intro σ x1 x2 h
    rw [vc_X8_spread_25] at h
    refine z_iload_n (pc' := 26) C dX8_spread_25 rfl 2 rfl rfl ?_
    refine z_bipush (v := 24) (pc' := 28) C dX8_spread_26 (by decide) rfl ?_
    obtain ⟨ht, hf⟩ := h
    refine z_icmp_ge (tgt := 92) (pc' := 31) C dX8_spread_28 (by decide) rfl (fun c5 => ?_) (fun c5 => ?_)
    · have h := ht c5
      exact z_vret C dX8_spread_92 h
    · have h := hf c5
      refine z_iload_n (pc' := 32) C dX8_spread_31 rfl 1 rfl rfl ?_
      obtain ⟨ht, hf⟩ := h
      refine z_if_eq (tgt := 92) (pc' := 35) C dX8_spread_32 (by decide) rfl (fun c6 => ?_) (fun c6 => ?_)
      · have h := ht c6
        exact z_vret C dX8_spread_92 h
      · have h := hf c6
        refine z_iconst (v := 0) (pc' := 36) C dX8_spread_35 (by decide) rfl ?_
        refine z_istore_n (pc' := 37) (lv' := [(1, .int 0), (0, .ref (E.2.2 15 0)), (2, .int x2)]) C dX8_spread_36 rfl (by decide) rfl rfl ?_
        refine z_iconst (v := 0) (pc' := 38) C dX8_spread_37 (by decide) rfl ?_
        refine z_istore_n (pc' := 39) (lv' := [(3, .int 0), (1, .int 0), (0, .ref (E.2.2 15 0)), (2, .int x2)]) C dX8_spread_38 rfl (by decide) rfl rfl ?_
        obtain ⟨n7, h⟩ := h
        refine z_sub (lv' := [(0, .ref (E.2.2 15 0)), (1, .int 0), (2, .int x2), (3, .int 0)]) [2, 1, 3, 0] rfl ?_
        exact sl_X8_spread_39 C x2 Q (fun y0 y1 y2 h => ih y0 y1 y2 h) n7 _ _ _ h
set_option maxHeartbeats 4000000 in
set_option maxRecDepth 100000 in
theorem sc_X8_spread (l : Launch) (E : zE) (σ : zMem) (Q : zMem → Prop) (h : vc_X8_spread σ Q) : zMv l yX8_spread cX8_spread 5 2 46 E [.ref (E.2.2 15 0)] σ Q := by
  refine zMv_of (by decide) (Nat.le_of_ble_eq_true rfl) ?_
  intro p e s m args below meth c C
  unfold vc_X8_spread at h
  have fin : zG p l e (zRm 2 46) s m args below meth c 5 E 0 0 (MQ below (va_Qv Q (zPost E) (zA E s.heap.size)) args s 0 0 (zA E s.heap.size)) σ 0 [(0, .ref (E.2.2 15 0))] [] := by
    refine z_aload_n (pc' := 1) C dX8_spread_0 rfl 0 rfl rfl ?_
    refine zgX8_15 (pc' := 4) C zo15 dX8_spread_1 rfl ?_
    refine z_ldc (v := 1000000) (pc' := 6) C (zr21 _ (List.mem_of_getElem? (i := 12) rfl)) dX8_spread_4 rfl ?_
    refine z_callSv (pc' := 9) (st := []) (As := [.ref (E.2.2 17 0), .int 1000000]) C (sc_J7_fill_53178_17 l E σ 1000000 _ h) zwX8_28_J7_fill_53178 ztX8_28_J7_fill_53178 ⟨(Nat.le_of_ble_eq_true rfl), (Nat.le_of_ble_eq_true rfl)⟩ ⟨Nat.zero_le _, Nat.zero_le _⟩ rfl rfl (Nat.le_of_ble_eq_true rfl) dX8_spread_6 rfl (fun σ1 h => ?_)
    refine z_aload_n (pc' := 10) C dX8_spread_9 rfl 0 rfl rfl ?_
    refine zgX8_15 (pc' := 13) C zo15 dX8_spread_10 rfl ?_
    refine z_iconst (v := 0) (pc' := 14) C dX8_spread_13 (by decide) rfl ?_
    refine z_aload_n (pc' := 15) C dX8_spread_14 rfl 0 rfl rfl ?_
    refine zgX8_9 (pc' := 18) C zo15 dX8_spread_15 rfl ?_
    refine z_iconst (v := 0) (pc' := 19) C dX8_spread_18 (by decide) rfl ?_
    obtain ⟨hv2, h⟩ := h
    refine z_iald (n := 24) (pc' := 20) C (zL_mem (by decide) zo16) (fun _ => rfl) hv2 dX8_spread_19 rfl ?_
    obtain ⟨hv3, h⟩ := h
    refine z_iast (n := 24) (pc' := 21) C (zL_mem (by decide) zo17) (fun _ => rfl) hv3 dX8_spread_20 rfl ?_
    refine z_iconst (v := 1) (pc' := 22) C dX8_spread_21 (by decide) rfl ?_
    refine z_istore_n (pc' := 23) (lv' := [(1, .int 1), (0, .ref (E.2.2 15 0))]) C dX8_spread_22 rfl (by decide) rfl rfl ?_
    refine z_iconst (v := 0) (pc' := 24) C dX8_spread_23 (by decide) rfl ?_
    refine z_istore_n (pc' := 25) (lv' := [(2, .int 0), (1, .int 1), (0, .ref (E.2.2 15 0))]) C dX8_spread_24 rfl (by decide) rfl rfl ?_
    obtain ⟨n4, h⟩ := h
    refine z_sub (lv' := [(0, .ref (E.2.2 15 0)), (1, .int 1), (2, .int 0)]) [2, 1, 0] rfl ?_
    exact sl_X8_spread_25 C Q n4 _ _ _ h
  exact fin
def vc_X8_trampled_2 (x2 : Int32) (Q : Int32 → zMem → Prop) : Nat → zMem → Int32 → Prop
  | 0, _, _ => False
  | n + 1, σ, x3 => ((24 ≤ x3) → vc_X8_spread σ (fun σ3 => vp_in x2 24 ∧ vp_in x2 24 ∧ Q ((σ3 17 0 x2.toNatClampNeg) - (σ3 16 0 x2.toNatClampNeg)) σ3)) ∧ ((¬ 24 ≤ x3) → vp_in x3 24 ∧ vc_X5_toll σ x3.toNatClampNeg (fun r8 σ7 => vp_in x3 24 ∧ vc_X8_trampled_2 x2 Q n (um σ7 16 0 x3.toNatClampNeg r8) (x3 + 1)))
def vc_X8_trampled (σ : zMem) (a1 : Int32) (Q : Int32 → zMem → Prop) : Prop := ∃ n1, vc_X8_trampled_2 a1 Q n1 σ 0
set_option maxHeartbeats 4000000 in
set_option maxRecDepth 100000 in
theorem sl_X8_trampled_2 {p : Program} {l : Launch} {e : Env} {s : State} {m : MethodId} {args : Array Value} {below : List Frame} {meth : Method} {c : Code} {E : zE} (C : zX p s m args meth c cX8_trampled 4 RX8 (some .int) E) (x2 : Int32) (Q : Int32 → zMem → Prop) : ∀ (n : Nat) (σ : zMem) (x3 : Int32), vc_X8_trampled_2 x2 Q n σ x3 → zG p l e (zRm 3 70) s m args below meth c 4 E 0 0 (MQ below (va_Qi Q (zPost E) (zA E s.heap.size)) args s 0 0 (zA E s.heap.size)) σ 2 [(0, .ref (E.2.2 15 0)), (1, .ref (E.2.2 3 0)), (2, .int x2), (3, .int x3)] [] := by
  intro n
  induction n with
  | zero =>
    intro σ x3 h
    exact False.elim h
  | succ n ih =>
    intro σ x3 h
    rw [vc_X8_trampled_2] at h
    refine z_iload_n (pc' := 3) C dX8_trampled_2 rfl 3 rfl rfl ?_
    refine z_bipush (v := 24) (pc' := 5) C dX8_trampled_3 (by decide) rfl ?_
    obtain ⟨ht, hf⟩ := h
    refine z_icmp_ge (tgt := 26) (pc' := 8) C dX8_trampled_5 (by decide) rfl (fun c2 => ?_) (fun c2 => ?_)
    · have h := ht c2
      refine z_aload_n (pc' := 27) C dX8_trampled_26 rfl 0 rfl rfl ?_
      refine z_callVv (q := 15) (i := 0) (w9 := (RX8, TX8, 2)) (pc' := 30) (st := []) (As := []) C (sc_X8_spread l E σ  _ h) zwX8_24_X8_spread zvX8_24_X8_spread.1 zvX8_24_X8_spread.2 (zL_mem (by decide) zo15) rfl rfl ⟨(Nat.le_of_ble_eq_true rfl), (Nat.le_of_ble_eq_true rfl)⟩ ⟨Nat.zero_le _, Nat.zero_le _⟩ rfl rfl (Nat.le_of_ble_eq_true rfl) dX8_trampled_27 rfl (fun σ3 h => ?_)
      refine z_aload_n (pc' := 31) C dX8_trampled_30 rfl 0 rfl rfl ?_
      refine zgX8_15 (pc' := 34) C zo15 dX8_trampled_31 rfl ?_
      refine z_iload_n (pc' := 35) C dX8_trampled_34 rfl 2 rfl rfl ?_
      obtain ⟨hv4, h⟩ := h
      refine z_iald (n := 24) (pc' := 36) C (zL_mem (by decide) zo17) (fun _ => rfl) hv4 dX8_trampled_35 rfl ?_
      refine z_aload_n (pc' := 37) C dX8_trampled_36 rfl 0 rfl rfl ?_
      refine zgX8_9 (pc' := 40) C zo15 dX8_trampled_37 rfl ?_
      refine z_iload_n (pc' := 41) C dX8_trampled_40 rfl 2 rfl rfl ?_
      obtain ⟨hv5, h⟩ := h
      refine z_iald (n := 24) (pc' := 42) C (zL_mem (by decide) zo16) (fun _ => rfl) hv5 dX8_trampled_41 rfl ?_
      refine z_isub (pc' := 43) C dX8_trampled_42 rfl ?_
      exact z_iret C dX8_trampled_43 h
    · have h := hf c2
      refine z_aload_n (pc' := 9) C dX8_trampled_8 rfl 0 rfl rfl ?_
      refine zgX8_9 (pc' := 12) C zo15 dX8_trampled_9 rfl ?_
      refine z_iload_n (pc' := 13) C dX8_trampled_12 rfl 3 rfl rfl ?_
      refine z_aload_n (pc' := 14) C dX8_trampled_13 rfl 1 rfl rfl ?_
      refine z_iload_n (pc' := 15) C dX8_trampled_14 rfl 3 rfl rfl ?_
      obtain ⟨hv6, h⟩ := h
      refine z_aald (n := 24) (t0 := 4) (q2 := 4) (pc' := 16) C (zL_mem (by decide) zo3) (fun _ => rfl) rfl hv6 dX8_trampled_15 rfl ?_
      refine z_callVi (q := 4) (i := x3.toNatClampNeg) (w9 := (RX5, TX5, 6)) (pc' := 19) (st := [.int x3, .ref (E.2.2 16 0)]) (As := []) C (sc_X5_toll l E σ x3.toNatClampNeg _ (zin hv6) h) zwX8_18_X5_toll zvX8_18_X5_toll.1 zvX8_18_X5_toll.2 (zL_mem (by decide) (zin hv6)) rfl rfl ⟨(Nat.le_of_ble_eq_true rfl), (Nat.le_of_ble_eq_true rfl)⟩ ⟨Nat.zero_le _, Nat.zero_le _⟩ rfl rfl (Nat.le_of_ble_eq_true rfl) dX8_trampled_16 rfl (fun r8 σ7 h => ?_)
      obtain ⟨hv9, h⟩ := h
      refine z_iast (n := 24) (pc' := 20) C (zL_mem (by decide) zo16) (fun _ => rfl) hv9 dX8_trampled_19 rfl ?_
      refine z_iinc (j := 3) (v := x3 + 1) (pc' := 23) (lv' := [(3, .int (x3 + 1)), (0, .ref (E.2.2 15 0)), (1, .ref (E.2.2 3 0)), (2, .int x2)]) C dX8_trampled_20 rfl rfl (by decide) rfl rfl ?_
      refine z_goto (tgt := 2) C dX8_trampled_23 (by decide) ?_
      refine z_sub (lv' := [(0, .ref (E.2.2 15 0)), (1, .ref (E.2.2 3 0)), (2, .int x2), (3, .int (x3 + 1))]) [1, 2, 3, 0] rfl ?_
      exact ih _ _ h
set_option maxHeartbeats 4000000 in
set_option maxRecDepth 100000 in
theorem sc_X8_trampled (l : Launch) (E : zE) (σ : zMem) (a1 : Int32) (Q : Int32 → zMem → Prop) (h : vc_X8_trampled σ a1 Q) : zMi l yX8_trampled cX8_trampled 4 .int 3 70 E [.ref (E.2.2 15 0), .ref (E.2.2 3 0), .int a1] σ Q := by
  refine zMi_of (by decide) (Nat.le_of_ble_eq_true rfl) ?_
  intro p e s m args below meth c C
  unfold vc_X8_trampled at h
  have fin : zG p l e (zRm 3 70) s m args below meth c 4 E 0 0 (MQ below (va_Qi Q (zPost E) (zA E s.heap.size)) args s 0 0 (zA E s.heap.size)) σ 0 [(0, .ref (E.2.2 15 0)), (1, .ref (E.2.2 3 0)), (2, .int a1)] [] := by
    refine z_iconst (v := 0) (pc' := 1) C dX8_trampled_0 (by decide) rfl ?_
    refine z_istore_n (pc' := 2) (lv' := [(3, .int 0), (0, .ref (E.2.2 15 0)), (1, .ref (E.2.2 3 0)), (2, .int a1)]) C dX8_trampled_1 rfl (by decide) rfl rfl ?_
    obtain ⟨n1, h⟩ := h
    refine z_sub (lv' := [(0, .ref (E.2.2 15 0)), (1, .ref (E.2.2 3 0)), (2, .int a1), (3, .int 0)]) [1, 2, 3, 0] rfl ?_
    exact sl_X8_trampled_2 C a1 Q n1 _ _ h
  exact fin
def vc_X10_isPlot (σ : zMem) (a0 : Int32) (Q : Int32 → zMem → Prop) : Prop := ((a0 < 0) → Q 0 σ) ∧ ((¬ a0 < 0) → ((24 ≤ a0) → Q 0 σ) ∧ ((¬ 24 ≤ a0) → Q 1 σ))
set_option maxHeartbeats 4000000 in
set_option maxRecDepth 100000 in
theorem sc_X10_isPlot (l : Launch) (E : zE) (σ : zMem) (a0 : Int32) (Q : Int32 → zMem → Prop) (h : vc_X10_isPlot σ a0 Q) : zMi l yX10_isPlot cX10_isPlot 1 .boolean 0 0 E [.int a0] σ Q := by
  refine zMi_of (by decide) (Nat.le_of_ble_eq_true rfl) ?_
  intro p e s m args below meth c C
  unfold vc_X10_isPlot at h
  have fin : zG p l e (zRm 0 0) s m args below meth c 1 E 0 0 (MQ below (va_Qi Q (zPost E) (zA E s.heap.size)) args s 0 0 (zA E s.heap.size)) σ 0 [(0, .int a0)] [] := by
    refine z_iload_n (pc' := 1) C dX10_isPlot_0 rfl 0 rfl rfl ?_
    obtain ⟨ht, hf⟩ := h
    refine z_if_lt (tgt := 14) (pc' := 4) C dX10_isPlot_1 (by decide) rfl (fun c1 => ?_) (fun c1 => ?_)
    · have h := ht c1
      refine z_iconst (v := 0) (pc' := 15) C dX10_isPlot_14 (by decide) rfl ?_
      exact z_zret C rfl dX10_isPlot_15 h
    · have h := hf c1
      refine z_iload_n (pc' := 5) C dX10_isPlot_4 rfl 0 rfl rfl ?_
      refine z_bipush (v := 24) (pc' := 7) C dX10_isPlot_5 (by decide) rfl ?_
      obtain ⟨ht, hf⟩ := h
      refine z_icmp_ge (tgt := 14) (pc' := 10) C dX10_isPlot_7 (by decide) rfl (fun c2 => ?_) (fun c2 => ?_)
      · have h := ht c2
        refine z_iconst (v := 0) (pc' := 15) C dX10_isPlot_14 (by decide) rfl ?_
        exact z_zret C rfl dX10_isPlot_15 h
      · have h := hf c2
        refine z_iconst (v := 1) (pc' := 11) C dX10_isPlot_10 (by decide) rfl ?_
        refine z_goto (tgt := 15) C dX10_isPlot_11 (by decide) ?_
        exact z_zret C rfl dX10_isPlot_15 h
  exact fin
def vc_X10_within (σ : zMem) (a0 : Int32) (a1 : Int32) (Q : Int32 → zMem → Prop) : Prop := ((a0 < 0) → Q 0 σ) ∧ ((¬ a0 < 0) → ((a1 < a0) → Q 0 σ) ∧ ((¬ a1 < a0) → Q 1 σ))
set_option maxHeartbeats 4000000 in
set_option maxRecDepth 100000 in
theorem sc_X10_within (l : Launch) (E : zE) (σ : zMem) (a0 : Int32) (a1 : Int32) (Q : Int32 → zMem → Prop) (h : vc_X10_within σ a0 a1 Q) : zMi l yX10_within cX10_within 2 .boolean 0 0 E [.int a0, .int a1] σ Q := by
  refine zMi_of (by decide) (Nat.le_of_ble_eq_true rfl) ?_
  intro p e s m args below meth c C
  unfold vc_X10_within at h
  have fin : zG p l e (zRm 0 0) s m args below meth c 2 E 0 0 (MQ below (va_Qi Q (zPost E) (zA E s.heap.size)) args s 0 0 (zA E s.heap.size)) σ 0 [(0, .int a0), (1, .int a1)] [] := by
    refine z_iload_n (pc' := 1) C dX10_within_0 rfl 0 rfl rfl ?_
    obtain ⟨ht, hf⟩ := h
    refine z_if_lt (tgt := 13) (pc' := 4) C dX10_within_1 (by decide) rfl (fun c1 => ?_) (fun c1 => ?_)
    · have h := ht c1
      refine z_iconst (v := 0) (pc' := 14) C dX10_within_13 (by decide) rfl ?_
      exact z_zret C rfl dX10_within_14 h
    · have h := hf c1
      refine z_iload_n (pc' := 5) C dX10_within_4 rfl 0 rfl rfl ?_
      refine z_iload_n (pc' := 6) C dX10_within_5 rfl 1 rfl rfl ?_
      obtain ⟨ht, hf⟩ := h
      refine z_icmp_gt (tgt := 13) (pc' := 9) C dX10_within_6 (by decide) rfl (fun c2 => ?_) (fun c2 => ?_)
      · have h := ht c2
        refine z_iconst (v := 0) (pc' := 14) C dX10_within_13 (by decide) rfl ?_
        exact z_zret C rfl dX10_within_14 h
      · have h := hf c2
        refine z_iconst (v := 1) (pc' := 10) C dX10_within_9 (by decide) rfl ?_
        refine z_goto (tgt := 14) C dX10_within_10 (by decide) ?_
        exact z_zret C rfl dX10_within_14 h
  exact fin
def vc_X10_plot (σ : zMem) (a0 : Int32) (a1 : Int32) (a2 : Int32) (Q : Int32 → zMem → Prop) : Prop := vc_X10_isPlot σ a0 (fun r2 σ1 => ((r2 = 0) → Q ((-1)) σ1) ∧ ((¬ r2 = 0) → vc_X10_within σ1 a1 3 (fun r5 σ4 => ((r5 = 0) → Q ((-1)) σ4) ∧ ((¬ r5 = 0) → vc_X10_within σ4 a2 200 (fun r8 σ7 => ((¬ r8 = 0) → vp_in a0 24 ∧ vc_X5_isSold σ7 a0.toNatClampNeg (fun r12 σ11 => ((r12 = 0) → vp_in a1 4 ∧ Q (σ11 4 a0.toNatClampNeg 2) (um (um (um σ11 4 a0.toNatClampNeg 0 a1) 4 a0.toNatClampNeg 1 (nI a1.toNatClampNeg)) 4 a0.toNatClampNeg 2 a2)) ∧ ((¬ r12 = 0) → Q ((-3)) σ11))) ∧ ((r8 = 0) → Q ((-1)) σ7))))))
set_option maxHeartbeats 4000000 in
set_option maxRecDepth 100000 in
theorem sc_X10_plot (l : Launch) (E : zE) (σ : zMem) (a0 : Int32) (a1 : Int32) (a2 : Int32) (Q : Int32 → zMem → Prop) (h : vc_X10_plot σ a0 a1 a2 Q) : zMi l yX10_plot cX10_plot 6 .int 1 21 E [.ref (E.2.2 0 0), .int a0, .int a1, .int a2] σ Q := by
  refine zMi_of (by decide) (Nat.le_of_ble_eq_true rfl) ?_
  intro p e s m args below meth c C
  unfold vc_X10_plot at h
  have fin : zG p l e (zRm 1 21) s m args below meth c 6 E 0 0 (MQ below (va_Qi Q (zPost E) (zA E s.heap.size)) args s 0 0 (zA E s.heap.size)) σ 0 [(0, .ref (E.2.2 0 0)), (1, .int a0), (2, .int a1), (3, .int a2)] [] := by
    refine z_iload_n (pc' := 1) C dX10_plot_0 rfl 1 rfl rfl ?_
    refine z_callSi (pc' := 4) (st := []) (As := [.int a0]) C (sc_X10_isPlot l E σ a0 _ h) zwX10_77_X10_isPlot ztX10_77_X10_isPlot ⟨(Nat.le_of_ble_eq_true rfl), (Nat.le_of_ble_eq_true rfl)⟩ ⟨Nat.zero_le _, Nat.zero_le _⟩ rfl rfl (Nat.le_of_ble_eq_true rfl) dX10_plot_1 rfl (fun r2 σ1 h => ?_)
    obtain ⟨ht, hf⟩ := h
    refine z_if_eq (tgt := 25) (pc' := 7) C dX10_plot_4 (by decide) rfl (fun c3 => ?_) (fun c3 => ?_)
    · have h := ht c3
      refine z_iconst (v := (-1)) (pc' := 26) C dX10_plot_25 (by decide) rfl ?_
      exact z_iret C dX10_plot_26 h
    · have h := hf c3
      refine z_iload_n (pc' := 8) C dX10_plot_7 rfl 2 rfl rfl ?_
      refine z_iconst (v := 3) (pc' := 9) C dX10_plot_8 (by decide) rfl ?_
      refine z_callSi (pc' := 12) (st := []) (As := [.int a1, .int 3]) C (sc_X10_within l E σ1 a1 3 _ h) zwX10_81_X10_within ztX10_81_X10_within ⟨(Nat.le_of_ble_eq_true rfl), (Nat.le_of_ble_eq_true rfl)⟩ ⟨Nat.zero_le _, Nat.zero_le _⟩ rfl rfl (Nat.le_of_ble_eq_true rfl) dX10_plot_9 rfl (fun r5 σ4 h => ?_)
      obtain ⟨ht, hf⟩ := h
      refine z_if_eq (tgt := 25) (pc' := 15) C dX10_plot_12 (by decide) rfl (fun c6 => ?_) (fun c6 => ?_)
      · have h := ht c6
        refine z_iconst (v := (-1)) (pc' := 26) C dX10_plot_25 (by decide) rfl ?_
        exact z_iret C dX10_plot_26 h
      · have h := hf c6
        refine z_iload_n (pc' := 16) C dX10_plot_15 rfl 3 rfl rfl ?_
        refine z_sipush (v := 200) (pc' := 19) C dX10_plot_16 (by decide) rfl ?_
        refine z_callSi (pc' := 22) (st := []) (As := [.int a2, .int 200]) C (sc_X10_within l E σ4 a2 200 _ h) zwX10_81_X10_within ztX10_81_X10_within ⟨(Nat.le_of_ble_eq_true rfl), (Nat.le_of_ble_eq_true rfl)⟩ ⟨Nat.zero_le _, Nat.zero_le _⟩ rfl rfl (Nat.le_of_ble_eq_true rfl) dX10_plot_19 rfl (fun r8 σ7 h => ?_)
        obtain ⟨ht, hf⟩ := h
        refine z_if_ne (tgt := 27) (pc' := 25) C dX10_plot_22 (by decide) rfl (fun c9 => ?_) (fun c9 => ?_)
        · have h := ht c9
          refine z_aload_n (pc' := 28) C dX10_plot_27 rfl 0 rfl rfl ?_
          refine zgX10_17 (pc' := 31) C zo0 dX10_plot_28 rfl ?_
          refine z_iload_n (pc' := 32) C dX10_plot_31 rfl 1 rfl rfl ?_
          obtain ⟨hv10, h⟩ := h
          refine z_aald (n := 24) (t0 := 4) (q2 := 4) (pc' := 33) C (zL_mem (by decide) zo3) (fun _ => rfl) rfl hv10 dX10_plot_32 rfl ?_
          refine z_astore (pc' := 35) (lv' := [(4, .ref (E.2.2 4 a0.toNatClampNeg)), (0, .ref (E.2.2 0 0)), (1, .int a0), (2, .int a1), (3, .int a2)]) C dX10_plot_33 (by decide) rfl rfl ?_
          refine z_aload (pc' := 37) C dX10_plot_35 0 rfl rfl ?_
          refine z_callVi (q := 4) (i := a0.toNatClampNeg) (w9 := (RX5, TX5, 6)) (pc' := 40) (st := []) (As := []) C (sc_X5_isSold l E σ7 a0.toNatClampNeg _ (zin hv10) h) zwX10_85_X5_isSold zvX10_85_X5_isSold.1 zvX10_85_X5_isSold.2 (zL_mem (by decide) (zin hv10)) rfl rfl ⟨(Nat.le_of_ble_eq_true rfl), (Nat.le_of_ble_eq_true rfl)⟩ ⟨Nat.zero_le _, Nat.zero_le _⟩ rfl rfl (Nat.le_of_ble_eq_true rfl) dX10_plot_37 rfl (fun r12 σ11 h => ?_)
          obtain ⟨ht, hf⟩ := h
          refine z_if_eq (tgt := 46) (pc' := 43) C dX10_plot_40 (by decide) rfl (fun c13 => ?_) (fun c13 => ?_)
          · have h := ht c13
            refine z_aload (pc' := 48) C dX10_plot_46 0 rfl rfl ?_
            refine zgX10_89 (pc' := 51) C (zin hv10) dX10_plot_48 rfl ?_
            refine z_istore (pc' := 53) (lv' := [(5, .int (σ11 4 a0.toNatClampNeg 2)), (4, .ref (E.2.2 4 a0.toNatClampNeg)), (0, .ref (E.2.2 0 0)), (1, .int a0), (2, .int a1), (3, .int a2)]) C dX10_plot_51 (by decide) rfl rfl ?_
            refine z_aload (pc' := 55) C dX10_plot_53 1 rfl rfl ?_
            refine z_iload_n (pc' := 56) C dX10_plot_55 rfl 4 rfl rfl ?_
            refine zpX10_92 (pc' := 59) C (zin hv10) dX10_plot_56 rfl ?_
            refine z_aload (pc' := 61) C dX10_plot_59 1 rfl rfl ?_
            refine z_aload_n (pc' := 62) C dX10_plot_61 rfl 2 rfl rfl ?_
            refine zgX10_11 (pc' := 65) C zo0 dX10_plot_62 rfl ?_
            refine z_iload_n (pc' := 66) C dX10_plot_65 rfl 4 rfl rfl ?_
            obtain ⟨hv14, h⟩ := h
            refine z_aald (n := 4) (t0 := 3) (q2 := 2) (pc' := 67) C (zL_mem (by decide) zo1) (fun _ => rfl) rfl hv14 dX10_plot_66 rfl ?_
            refine zpX10_95 (pc' := 70) C (zin hv10) (zin hv14) dX10_plot_67 rfl ?_
            refine z_aload (pc' := 72) C dX10_plot_70 1 rfl rfl ?_
            refine z_iload_n (pc' := 73) C dX10_plot_72 rfl 5 rfl rfl ?_
            refine zpX10_89 (pc' := 76) C (zin hv10) dX10_plot_73 rfl ?_
            refine z_iload (pc' := 78) C dX10_plot_76 0 rfl rfl ?_
            exact z_iret C dX10_plot_78 h
          · have h := hf c13
            refine z_bipush (v := (-3)) (pc' := 45) C dX10_plot_43 (by decide) rfl ?_
            exact z_iret C dX10_plot_45 h
        · have h := hf c9
          refine z_iconst (v := (-1)) (pc' := 26) C dX10_plot_25 (by decide) rfl ?_
          exact z_iret C dX10_plot_26 h
  exact fin
def vc_X10_buyer (σ : zMem) (a0 : Int32) (a1 : Int32) (a2 : Int32) (Q : Int32 → zMem → Prop) : Prop := vc_X10_within σ a0 50 (fun r2 σ1 => ((r2 = 0) → Q ((-1)) σ1) ∧ ((¬ r2 = 0) → vc_X10_within σ1 a1 100000 (fun r5 σ4 => ((r5 = 0) → Q ((-1)) σ4) ∧ ((¬ r5 = 0) → vc_X10_isPlot σ4 a2 (fun r8 σ7 => ((¬ r8 = 0) → (((σ7 0 0 8) < 10) → vp_in (σ7 0 0 8) 10 ∧ Q (((um (um (um (um σ7 6 ((σ7 0 0 8).toNatClampNeg) 0 a0) 6 ((σ7 0 0 8).toNatClampNeg) 1 a1) 6 ((σ7 0 0 8).toNatClampNeg) 2 a2) 0 0 8 (((um (um (um σ7 6 ((σ7 0 0 8).toNatClampNeg) 0 a0) 6 ((σ7 0 0 8).toNatClampNeg) 1 a1) 6 ((σ7 0 0 8).toNatClampNeg) 2 a2) 0 0 8) + 1)) 0 0 8) - 1) (um (um (um (um σ7 6 ((σ7 0 0 8).toNatClampNeg) 0 a0) 6 ((σ7 0 0 8).toNatClampNeg) 1 a1) 6 ((σ7 0 0 8).toNatClampNeg) 2 a2) 0 0 8 (((um (um (um σ7 6 ((σ7 0 0 8).toNatClampNeg) 0 a0) 6 ((σ7 0 0 8).toNatClampNeg) 1 a1) 6 ((σ7 0 0 8).toNatClampNeg) 2 a2) 0 0 8) + 1))) ∧ ((¬ (σ7 0 0 8) < 10) → Q ((-2)) σ7)) ∧ ((r8 = 0) → Q ((-1)) σ7))))))
set_option maxHeartbeats 4000000 in
set_option maxRecDepth 100000 in
theorem sc_X10_buyer (l : Launch) (E : zE) (σ : zMem) (a0 : Int32) (a1 : Int32) (a2 : Int32) (Q : Int32 → zMem → Prop) (h : vc_X10_buyer σ a0 a1 a2 Q) : zMi l yX10_buyer cX10_buyer 5 .int 1 21 E [.ref (E.2.2 0 0), .int a0, .int a1, .int a2] σ Q := by
  refine zMi_of (by decide) (Nat.le_of_ble_eq_true rfl) ?_
  intro p e s m args below meth c C
  unfold vc_X10_buyer at h
  have fin : zG p l e (zRm 1 21) s m args below meth c 5 E 0 0 (MQ below (va_Qi Q (zPost E) (zA E s.heap.size)) args s 0 0 (zA E s.heap.size)) σ 0 [(0, .ref (E.2.2 0 0)), (1, .int a0), (2, .int a1), (3, .int a2)] [] := by
    refine z_iload_n (pc' := 1) C dX10_buyer_0 rfl 1 rfl rfl ?_
    refine z_bipush (v := 50) (pc' := 3) C dX10_buyer_1 (by decide) rfl ?_
    refine z_callSi (pc' := 6) (st := []) (As := [.int a0, .int 50]) C (sc_X10_within l E σ a0 50 _ h) zwX10_81_X10_within ztX10_81_X10_within ⟨(Nat.le_of_ble_eq_true rfl), (Nat.le_of_ble_eq_true rfl)⟩ ⟨Nat.zero_le _, Nat.zero_le _⟩ rfl rfl (Nat.le_of_ble_eq_true rfl) dX10_buyer_3 rfl (fun r2 σ1 h => ?_)
    obtain ⟨ht, hf⟩ := h
    refine z_if_eq (tgt := 25) (pc' := 9) C dX10_buyer_6 (by decide) rfl (fun c3 => ?_) (fun c3 => ?_)
    · have h := ht c3
      refine z_iconst (v := (-1)) (pc' := 26) C dX10_buyer_25 (by decide) rfl ?_
      exact z_iret C dX10_buyer_26 h
    · have h := hf c3
      refine z_iload_n (pc' := 10) C dX10_buyer_9 rfl 2 rfl rfl ?_
      refine z_ldc (v := 100000) (pc' := 12) C (zr8 _ (List.mem_of_getElem? (i := 12) rfl)) dX10_buyer_10 rfl ?_
      refine z_callSi (pc' := 15) (st := []) (As := [.int a1, .int 100000]) C (sc_X10_within l E σ1 a1 100000 _ h) zwX10_81_X10_within ztX10_81_X10_within ⟨(Nat.le_of_ble_eq_true rfl), (Nat.le_of_ble_eq_true rfl)⟩ ⟨Nat.zero_le _, Nat.zero_le _⟩ rfl rfl (Nat.le_of_ble_eq_true rfl) dX10_buyer_12 rfl (fun r5 σ4 h => ?_)
      obtain ⟨ht, hf⟩ := h
      refine z_if_eq (tgt := 25) (pc' := 18) C dX10_buyer_15 (by decide) rfl (fun c6 => ?_) (fun c6 => ?_)
      · have h := ht c6
        refine z_iconst (v := (-1)) (pc' := 26) C dX10_buyer_25 (by decide) rfl ?_
        exact z_iret C dX10_buyer_26 h
      · have h := hf c6
        refine z_iload_n (pc' := 19) C dX10_buyer_18 rfl 3 rfl rfl ?_
        refine z_callSi (pc' := 22) (st := []) (As := [.int a2]) C (sc_X10_isPlot l E σ4 a2 _ h) zwX10_77_X10_isPlot ztX10_77_X10_isPlot ⟨(Nat.le_of_ble_eq_true rfl), (Nat.le_of_ble_eq_true rfl)⟩ ⟨Nat.zero_le _, Nat.zero_le _⟩ rfl rfl (Nat.le_of_ble_eq_true rfl) dX10_buyer_19 rfl (fun r8 σ7 h => ?_)
        obtain ⟨ht, hf⟩ := h
        refine z_if_ne (tgt := 27) (pc' := 25) C dX10_buyer_22 (by decide) rfl (fun c9 => ?_) (fun c9 => ?_)
        · have h := ht c9
          refine z_aload_n (pc' := 28) C dX10_buyer_27 rfl 0 rfl rfl ?_
          refine zgX10_100 (pc' := 31) C zo0 dX10_buyer_28 rfl ?_
          refine z_bipush (v := 10) (pc' := 33) C dX10_buyer_31 (by decide) rfl ?_
          obtain ⟨ht, hf⟩ := h
          refine z_icmp_lt (tgt := 39) (pc' := 36) C dX10_buyer_33 (by decide) rfl (fun c10 => ?_) (fun c10 => ?_)
          · have h := ht c10
            refine z_aload_n (pc' := 40) C dX10_buyer_39 rfl 0 rfl rfl ?_
            refine zgX10_23 (pc' := 43) C zo0 dX10_buyer_40 rfl ?_
            refine z_aload_n (pc' := 44) C dX10_buyer_43 rfl 0 rfl rfl ?_
            refine zgX10_100 (pc' := 47) C zo0 dX10_buyer_44 rfl ?_
            obtain ⟨hv11, h⟩ := h
            refine z_aald (n := 10) (t0 := 5) (q2 := 6) (pc' := 48) C (zL_mem (by decide) zo5) (fun _ => rfl) rfl hv11 dX10_buyer_47 rfl ?_
            refine z_astore (pc' := 50) (lv' := [(4, .ref (E.2.2 6 ((σ7 0 0 8).toNatClampNeg))), (0, .ref (E.2.2 0 0)), (1, .int a0), (2, .int a1), (3, .int a2)]) C dX10_buyer_48 (by decide) rfl rfl ?_
            refine z_aload (pc' := 52) C dX10_buyer_50 0 rfl rfl ?_
            refine z_iload_n (pc' := 53) C dX10_buyer_52 rfl 2 rfl rfl ?_
            refine zpX10_103 (pc' := 56) C (zin hv11) dX10_buyer_53 rfl ?_
            refine z_aload (pc' := 58) C dX10_buyer_56 0 rfl rfl ?_
            refine z_iload_n (pc' := 59) C dX10_buyer_58 rfl 3 rfl rfl ?_
            refine zpX10_106 (pc' := 62) C (zin hv11) dX10_buyer_59 rfl ?_
            refine z_aload (pc' := 64) C dX10_buyer_62 0 rfl rfl ?_
            refine z_iload_n (pc' := 65) C dX10_buyer_64 rfl 4 rfl rfl ?_
            refine zpX10_109 (pc' := 68) C (zin hv11) dX10_buyer_65 rfl ?_
            refine z_aload_n (pc' := 69) C dX10_buyer_68 rfl 1 rfl rfl ?_
            refine z_dup (pc' := 70) C dX10_buyer_69 rfl rfl ?_
            refine zgX10_100 (pc' := 73) C zo0 dX10_buyer_70 rfl ?_
            refine z_iconst (v := 1) (pc' := 74) C dX10_buyer_73 (by decide) rfl ?_
            refine z_iadd (pc' := 75) C dX10_buyer_74 rfl ?_
            refine zpX10_100 (pc' := 78) C zo0 dX10_buyer_75 rfl ?_
            refine z_aload_n (pc' := 79) C dX10_buyer_78 rfl 1 rfl rfl ?_
            refine zgX10_100 (pc' := 82) C zo0 dX10_buyer_79 rfl ?_
            refine z_iconst (v := 1) (pc' := 83) C dX10_buyer_82 (by decide) rfl ?_
            refine z_isub (pc' := 84) C dX10_buyer_83 rfl ?_
            exact z_iret C dX10_buyer_84 h
          · have h := hf c10
            refine z_bipush (v := (-2)) (pc' := 38) C dX10_buyer_36 (by decide) rfl ?_
            exact z_iret C dX10_buyer_38 h
        · have h := hf c9
          refine z_iconst (v := (-1)) (pc' := 26) C dX10_buyer_25 (by decide) rfl ?_
          exact z_iret C dX10_buyer_26 h
  exact fin
def vc_X10_isBuyer (σ : zMem) (a0 : Int32) (Q : Int32 → zMem → Prop) : Prop := ((a0 < 0) → Q 0 σ) ∧ ((¬ a0 < 0) → (((σ 0 0 8) ≤ a0) → Q 0 σ) ∧ ((¬ (σ 0 0 8) ≤ a0) → Q 1 σ))
set_option maxHeartbeats 4000000 in
set_option maxRecDepth 100000 in
theorem sc_X10_isBuyer (l : Launch) (E : zE) (σ : zMem) (a0 : Int32) (Q : Int32 → zMem → Prop) (h : vc_X10_isBuyer σ a0 Q) : zMi l yX10_isBuyer cX10_isBuyer 2 .boolean 0 0 E [.ref (E.2.2 0 0), .int a0] σ Q := by
  refine zMi_of (by decide) (Nat.le_of_ble_eq_true rfl) ?_
  intro p e s m args below meth c C
  unfold vc_X10_isBuyer at h
  have fin : zG p l e (zRm 0 0) s m args below meth c 2 E 0 0 (MQ below (va_Qi Q (zPost E) (zA E s.heap.size)) args s 0 0 (zA E s.heap.size)) σ 0 [(0, .ref (E.2.2 0 0)), (1, .int a0)] [] := by
    refine z_iload_n (pc' := 1) C dX10_isBuyer_0 rfl 1 rfl rfl ?_
    obtain ⟨ht, hf⟩ := h
    refine z_if_lt (tgt := 16) (pc' := 4) C dX10_isBuyer_1 (by decide) rfl (fun c1 => ?_) (fun c1 => ?_)
    · have h := ht c1
      refine z_iconst (v := 0) (pc' := 17) C dX10_isBuyer_16 (by decide) rfl ?_
      exact z_zret C rfl dX10_isBuyer_17 h
    · have h := hf c1
      refine z_iload_n (pc' := 5) C dX10_isBuyer_4 rfl 1 rfl rfl ?_
      refine z_aload_n (pc' := 6) C dX10_isBuyer_5 rfl 0 rfl rfl ?_
      refine zgX10_100 (pc' := 9) C zo0 dX10_isBuyer_6 rfl ?_
      obtain ⟨ht, hf⟩ := h
      refine z_icmp_ge (tgt := 16) (pc' := 12) C dX10_isBuyer_9 (by decide) rfl (fun c2 => ?_) (fun c2 => ?_)
      · have h := ht c2
        refine z_iconst (v := 0) (pc' := 17) C dX10_isBuyer_16 (by decide) rfl ?_
        exact z_zret C rfl dX10_isBuyer_17 h
      · have h := hf c2
        refine z_iconst (v := 1) (pc' := 13) C dX10_isBuyer_12 (by decide) rfl ?_
        refine z_goto (tgt := 17) C dX10_isBuyer_13 (by decide) ?_
        exact z_zret C rfl dX10_isBuyer_17 h
  exact fin
def vc_X10_purse (σ : zMem) (a0 : Int32) (a1 : Int32) (Q : Int32 → zMem → Prop) : Prop := vc_X10_isBuyer σ a0 (fun r2 σ1 => ((r2 = 0) → Q ((-1)) σ1) ∧ ((¬ r2 = 0) → vc_X10_within σ1 a1 100000 (fun r5 σ4 => ((¬ r5 = 0) → vp_in a0 10 ∧ vp_in a0 10 ∧ Q (σ4 6 a0.toNatClampNeg 1) (um σ4 6 a0.toNatClampNeg 1 a1)) ∧ ((r5 = 0) → Q ((-1)) σ4))))
set_option maxHeartbeats 4000000 in
set_option maxRecDepth 100000 in
theorem sc_X10_purse (l : Launch) (E : zE) (σ : zMem) (a0 : Int32) (a1 : Int32) (Q : Int32 → zMem → Prop) (h : vc_X10_purse σ a0 a1 Q) : zMi l yX10_purse cX10_purse 4 .int 1 21 E [.ref (E.2.2 0 0), .int a0, .int a1] σ Q := by
  refine zMi_of (by decide) (Nat.le_of_ble_eq_true rfl) ?_
  intro p e s m args below meth c C
  unfold vc_X10_purse at h
  have fin : zG p l e (zRm 1 21) s m args below meth c 4 E 0 0 (MQ below (va_Qi Q (zPost E) (zA E s.heap.size)) args s 0 0 (zA E s.heap.size)) σ 0 [(0, .ref (E.2.2 0 0)), (1, .int a0), (2, .int a1)] [] := by
    refine z_aload_n (pc' := 1) C dX10_purse_0 rfl 0 rfl rfl ?_
    refine z_iload_n (pc' := 2) C dX10_purse_1 rfl 1 rfl rfl ?_
    refine z_callVi (q := 0) (i := 0) (w9 := (RX10, TX10, 12)) (pc' := 5) (st := []) (As := [.int a0]) C (sc_X10_isBuyer l E σ a0 _ h) zwX10_112_X10_isBuyer zvX10_112_X10_isBuyer.1 zvX10_112_X10_isBuyer.2 (zL_mem (by decide) zo0) rfl rfl ⟨(Nat.le_of_ble_eq_true rfl), (Nat.le_of_ble_eq_true rfl)⟩ ⟨Nat.zero_le _, Nat.zero_le _⟩ rfl rfl (Nat.le_of_ble_eq_true rfl) dX10_purse_2 rfl (fun r2 σ1 h => ?_)
    obtain ⟨ht, hf⟩ := h
    refine z_if_eq (tgt := 17) (pc' := 8) C dX10_purse_5 (by decide) rfl (fun c3 => ?_) (fun c3 => ?_)
    · have h := ht c3
      refine z_iconst (v := (-1)) (pc' := 18) C dX10_purse_17 (by decide) rfl ?_
      exact z_iret C dX10_purse_18 h
    · have h := hf c3
      refine z_iload_n (pc' := 9) C dX10_purse_8 rfl 2 rfl rfl ?_
      refine z_ldc (v := 100000) (pc' := 11) C (zr8 _ (List.mem_of_getElem? (i := 12) rfl)) dX10_purse_9 rfl ?_
      refine z_callSi (pc' := 14) (st := []) (As := [.int a1, .int 100000]) C (sc_X10_within l E σ1 a1 100000 _ h) zwX10_81_X10_within ztX10_81_X10_within ⟨(Nat.le_of_ble_eq_true rfl), (Nat.le_of_ble_eq_true rfl)⟩ ⟨Nat.zero_le _, Nat.zero_le _⟩ rfl rfl (Nat.le_of_ble_eq_true rfl) dX10_purse_11 rfl (fun r5 σ4 h => ?_)
      obtain ⟨ht, hf⟩ := h
      refine z_if_ne (tgt := 19) (pc' := 17) C dX10_purse_14 (by decide) rfl (fun c6 => ?_) (fun c6 => ?_)
      · have h := ht c6
        refine z_aload_n (pc' := 20) C dX10_purse_19 rfl 0 rfl rfl ?_
        refine zgX10_23 (pc' := 23) C zo0 dX10_purse_20 rfl ?_
        refine z_iload_n (pc' := 24) C dX10_purse_23 rfl 1 rfl rfl ?_
        obtain ⟨hv7, h⟩ := h
        refine z_aald (n := 10) (t0 := 5) (q2 := 6) (pc' := 25) C (zL_mem (by decide) zo5) (fun _ => rfl) rfl hv7 dX10_purse_24 rfl ?_
        refine zgX10_106 (pc' := 28) C (zin hv7) dX10_purse_25 rfl ?_
        refine z_istore_n (pc' := 29) (lv' := [(3, .int (σ4 6 a0.toNatClampNeg 1)), (0, .ref (E.2.2 0 0)), (1, .int a0), (2, .int a1)]) C dX10_purse_28 rfl (by decide) rfl rfl ?_
        refine z_aload_n (pc' := 30) C dX10_purse_29 rfl 1 rfl rfl ?_
        refine zgX10_23 (pc' := 33) C zo0 dX10_purse_30 rfl ?_
        refine z_iload_n (pc' := 34) C dX10_purse_33 rfl 2 rfl rfl ?_
        obtain ⟨hv8, h⟩ := h
        refine z_aald (n := 10) (t0 := 5) (q2 := 6) (pc' := 35) C (zL_mem (by decide) zo5) (fun _ => rfl) rfl hv8 dX10_purse_34 rfl ?_
        refine z_iload_n (pc' := 36) C dX10_purse_35 rfl 3 rfl rfl ?_
        refine zpX10_106 (pc' := 39) C (zin hv8) dX10_purse_36 rfl ?_
        refine z_iload_n (pc' := 40) C dX10_purse_39 rfl 0 rfl rfl ?_
        exact z_iret C dX10_purse_40 h
      · have h := hf c6
        refine z_iconst (v := (-1)) (pc' := 18) C dX10_purse_17 (by decide) rfl ?_
        exact z_iret C dX10_purse_18 h
  exact fin
def vc_X10_oneIf (σ : zMem) (a0 : Int32) (Q : Int32 → zMem → Prop) : Prop := ((a0 = 0) → Q 0 σ) ∧ ((¬ a0 = 0) → Q 1 σ)
set_option maxHeartbeats 4000000 in
set_option maxRecDepth 100000 in
theorem sc_X10_oneIf (l : Launch) (E : zE) (σ : zMem) (a0 : Int32) (Q : Int32 → zMem → Prop) (h : vc_X10_oneIf σ a0 Q) : zMi l yX10_oneIf cX10_oneIf 1 .int 0 0 E [.int a0] σ Q := by
  refine zMi_of (by decide) (Nat.le_of_ble_eq_true rfl) ?_
  intro p e s m args below meth c C
  unfold vc_X10_oneIf at h
  have fin : zG p l e (zRm 0 0) s m args below meth c 1 E 0 0 (MQ below (va_Qi Q (zPost E) (zA E s.heap.size)) args s 0 0 (zA E s.heap.size)) σ 0 [(0, .int a0)] [] := by
    refine z_iload_n (pc' := 1) C dX10_oneIf_0 rfl 0 rfl rfl ?_
    obtain ⟨ht, hf⟩ := h
    refine z_if_eq (tgt := 8) (pc' := 4) C dX10_oneIf_1 (by decide) rfl (fun c1 => ?_) (fun c1 => ?_)
    · have h := ht c1
      refine z_iconst (v := 0) (pc' := 9) C dX10_oneIf_8 (by decide) rfl ?_
      exact z_iret C dX10_oneIf_9 h
    · have h := hf c1
      refine z_iconst (v := 1) (pc' := 5) C dX10_oneIf_4 (by decide) rfl ?_
      refine z_goto (tgt := 9) C dX10_oneIf_5 (by decide) ?_
      exact z_iret C dX10_oneIf_9 h
  exact fin
def vc_X10_waits (σ : zMem) (a0 : Int32) (a1 : Int32) (Q : Int32 → zMem → Prop) : Prop := vc_X10_isBuyer σ a0 (fun r2 σ1 => ((¬ r2 = 0) → vp_in a0 10 ∧ vp_in a0 10 ∧ zbool a1 ∧ (((σ1 6 a0.toNatClampNeg 5) = a1) → vc_X10_oneIf (um σ1 6 a0.toNatClampNeg 5 a1) 0 (fun r9 σ8 => Q r9 σ8)) ∧ ((¬ (σ1 6 a0.toNatClampNeg 5) = a1) → vc_X10_oneIf (um σ1 6 a0.toNatClampNeg 5 a1) 1 (fun r11 σ10 => Q r11 σ10))) ∧ ((r2 = 0) → Q ((-1)) σ1))
set_option maxHeartbeats 4000000 in
set_option maxRecDepth 100000 in
theorem sc_X10_waits (l : Launch) (E : zE) (σ : zMem) (a0 : Int32) (a1 : Int32) (Q : Int32 → zMem → Prop) (h : vc_X10_waits σ a0 a1 Q) : zMi l yX10_waits cX10_waits 4 .int 1 21 E [.ref (E.2.2 0 0), .int a0, .int a1] σ Q := by
  refine zMi_of (by decide) (Nat.le_of_ble_eq_true rfl) ?_
  intro p e s m args below meth c C
  unfold vc_X10_waits at h
  have fin : zG p l e (zRm 1 21) s m args below meth c 4 E 0 0 (MQ below (va_Qi Q (zPost E) (zA E s.heap.size)) args s 0 0 (zA E s.heap.size)) σ 0 [(0, .ref (E.2.2 0 0)), (1, .int a0), (2, .int a1)] [] := by
    refine z_aload_n (pc' := 1) C dX10_waits_0 rfl 0 rfl rfl ?_
    refine z_iload_n (pc' := 2) C dX10_waits_1 rfl 1 rfl rfl ?_
    refine z_callVi (q := 0) (i := 0) (w9 := (RX10, TX10, 12)) (pc' := 5) (st := []) (As := [.int a0]) C (sc_X10_isBuyer l E σ a0 _ h) zwX10_112_X10_isBuyer zvX10_112_X10_isBuyer.1 zvX10_112_X10_isBuyer.2 (zL_mem (by decide) zo0) rfl rfl ⟨(Nat.le_of_ble_eq_true rfl), (Nat.le_of_ble_eq_true rfl)⟩ ⟨Nat.zero_le _, Nat.zero_le _⟩ rfl rfl (Nat.le_of_ble_eq_true rfl) dX10_waits_2 rfl (fun r2 σ1 h => ?_)
    obtain ⟨ht, hf⟩ := h
    refine z_if_ne (tgt := 10) (pc' := 8) C dX10_waits_5 (by decide) rfl (fun c3 => ?_) (fun c3 => ?_)
    · have h := ht c3
      refine z_aload_n (pc' := 11) C dX10_waits_10 rfl 0 rfl rfl ?_
      refine zgX10_23 (pc' := 14) C zo0 dX10_waits_11 rfl ?_
      refine z_iload_n (pc' := 15) C dX10_waits_14 rfl 1 rfl rfl ?_
      obtain ⟨hv4, h⟩ := h
      refine z_aald (n := 10) (t0 := 5) (q2 := 6) (pc' := 16) C (zL_mem (by decide) zo5) (fun _ => rfl) rfl hv4 dX10_waits_15 rfl ?_
      refine zgX10_115 (pc' := 19) C (zin hv4) dX10_waits_16 rfl ?_
      refine z_istore_n (pc' := 20) (lv' := [(3, .int (σ1 6 a0.toNatClampNeg 5)), (0, .ref (E.2.2 0 0)), (1, .int a0), (2, .int a1)]) C dX10_waits_19 rfl (by decide) rfl rfl ?_
      refine z_aload_n (pc' := 21) C dX10_waits_20 rfl 1 rfl rfl ?_
      refine zgX10_23 (pc' := 24) C zo0 dX10_waits_21 rfl ?_
      refine z_iload_n (pc' := 25) C dX10_waits_24 rfl 2 rfl rfl ?_
      obtain ⟨hv5, h⟩ := h
      refine z_aald (n := 10) (t0 := 5) (q2 := 6) (pc' := 26) C (zL_mem (by decide) zo5) (fun _ => rfl) rfl hv5 dX10_waits_25 rfl ?_
      refine z_iload_n (pc' := 27) C dX10_waits_26 rfl 3 rfl rfl ?_
      obtain ⟨hb6, h⟩ := h
      refine zpX10_115 (pc' := 30) C (zin hv5) hb6 dX10_waits_27 rfl ?_
      refine z_iload_n (pc' := 31) C dX10_waits_30 rfl 0 rfl rfl ?_
      refine z_iload_n (pc' := 32) C dX10_waits_31 rfl 3 rfl rfl ?_
      obtain ⟨ht, hf⟩ := h
      refine z_icmp_eq (tgt := 39) (pc' := 35) C dX10_waits_32 (by decide) rfl (fun c7 => ?_) (fun c7 => ?_)
      · have h := ht c7
        refine z_iconst (v := 0) (pc' := 40) C dX10_waits_39 (by decide) rfl ?_
        refine z_callSi (pc' := 43) (st := []) (As := [.int 0]) C (sc_X10_oneIf l E (um σ1 6 a0.toNatClampNeg 5 a1) 0 _ h) zwX10_119_X10_oneIf ztX10_119_X10_oneIf ⟨(Nat.le_of_ble_eq_true rfl), (Nat.le_of_ble_eq_true rfl)⟩ ⟨Nat.zero_le _, Nat.zero_le _⟩ rfl rfl (Nat.le_of_ble_eq_true rfl) dX10_waits_40 rfl (fun r9 σ8 h => ?_)
        exact z_iret C dX10_waits_43 h
      · have h := hf c7
        refine z_iconst (v := 1) (pc' := 36) C dX10_waits_35 (by decide) rfl ?_
        refine z_goto (tgt := 40) C dX10_waits_36 (by decide) ?_
        refine z_callSi (pc' := 43) (st := []) (As := [.int 1]) C (sc_X10_oneIf l E (um σ1 6 a0.toNatClampNeg 5 a1) 1 _ h) zwX10_119_X10_oneIf ztX10_119_X10_oneIf ⟨(Nat.le_of_ble_eq_true rfl), (Nat.le_of_ble_eq_true rfl)⟩ ⟨Nat.zero_le _, Nat.zero_le _⟩ rfl rfl (Nat.le_of_ble_eq_true rfl) dX10_waits_40 rfl (fun r11 σ10 h => ?_)
        exact z_iret C dX10_waits_43 h
    · have h := hf c3
      refine z_iconst (v := (-1)) (pc' := 9) C dX10_waits_8 (by decide) rfl ?_
      exact z_iret C dX10_waits_9 h
  exact fin
def vc_X10_surety (σ : zMem) (a0 : Int32) (a1 : Int32) (Q : Int32 → zMem → Prop) : Prop := ((¬ a1 = ((-1))) → vc_X10_isBuyer σ a0 (fun r3 σ2 => ((r3 = 0) → Q ((-1)) σ2) ∧ ((¬ r3 = 0) → vc_X10_isBuyer σ2 a1 (fun r7 σ6 => ((r7 = 0) → Q ((-1)) σ6) ∧ ((¬ r7 = 0) → ((¬ a1 = a0) → vp_in a0 10 ∧ vp_in a0 10 ∧ Q (σ6 6 a0.toNatClampNeg 6) (um σ6 6 a0.toNatClampNeg 6 a1)) ∧ ((a1 = a0) → Q ((-1)) σ6)))))) ∧ ((a1 = ((-1))) → vc_X10_isBuyer σ a0 (fun r14 σ13 => ((r14 = 0) → Q ((-1)) σ13) ∧ ((¬ r14 = 0) → ((¬ a1 = a0) → vp_in a0 10 ∧ vp_in a0 10 ∧ Q (σ13 6 a0.toNatClampNeg 6) (um σ13 6 a0.toNatClampNeg 6 ((-2)))) ∧ ((a1 = a0) → Q ((-1)) σ13))))
set_option maxHeartbeats 4000000 in
set_option maxRecDepth 100000 in
theorem sc_X10_surety (l : Launch) (E : zE) (σ : zMem) (a0 : Int32) (a1 : Int32) (Q : Int32 → zMem → Prop) (h : vc_X10_surety σ a0 a1 Q) : zMi l yX10_surety cX10_surety 5 .int 1 21 E [.ref (E.2.2 0 0), .int a0, .int a1] σ Q := by
  refine zMi_of (by decide) (Nat.le_of_ble_eq_true rfl) ?_
  intro p e s m args below meth c C
  unfold vc_X10_surety at h
  have fin : zG p l e (zRm 1 21) s m args below meth c 5 E 0 0 (MQ below (va_Qi Q (zPost E) (zA E s.heap.size)) args s 0 0 (zA E s.heap.size)) σ 0 [(0, .ref (E.2.2 0 0)), (1, .int a0), (2, .int a1)] [] := by
    refine z_iload_n (pc' := 1) C dX10_surety_0 rfl 2 rfl rfl ?_
    refine z_iconst (v := (-1)) (pc' := 2) C dX10_surety_1 (by decide) rfl ?_
    obtain ⟨ht, hf⟩ := h
    refine z_icmp_ne (tgt := 9) (pc' := 5) C dX10_surety_2 (by decide) rfl (fun c1 => ?_) (fun c1 => ?_)
    · have h := ht c1
      refine z_iconst (v := 0) (pc' := 10) C dX10_surety_9 (by decide) rfl ?_
      refine z_istore_n (pc' := 11) (lv' := [(3, .int 0), (0, .ref (E.2.2 0 0)), (1, .int a0), (2, .int a1)]) C dX10_surety_10 rfl (by decide) rfl rfl ?_
      refine z_aload_n (pc' := 12) C dX10_surety_11 rfl 1 rfl rfl ?_
      refine z_iload_n (pc' := 13) C dX10_surety_12 rfl 2 rfl rfl ?_
      refine z_callVi (q := 0) (i := 0) (w9 := (RX10, TX10, 12)) (pc' := 16) (st := []) (As := [.int a0]) C (sc_X10_isBuyer l E σ a0 _ h) zwX10_112_X10_isBuyer zvX10_112_X10_isBuyer.1 zvX10_112_X10_isBuyer.2 (zL_mem (by decide) zo0) rfl rfl ⟨(Nat.le_of_ble_eq_true rfl), (Nat.le_of_ble_eq_true rfl)⟩ ⟨Nat.zero_le _, Nat.zero_le _⟩ rfl rfl (Nat.le_of_ble_eq_true rfl) dX10_surety_13 rfl (fun r3 σ2 h => ?_)
      obtain ⟨ht, hf⟩ := h
      refine z_if_eq (tgt := 36) (pc' := 19) C dX10_surety_16 (by decide) rfl (fun c4 => ?_) (fun c4 => ?_)
      · have h := ht c4
        refine z_iconst (v := (-1)) (pc' := 37) C dX10_surety_36 (by decide) rfl ?_
        exact z_iret C dX10_surety_37 h
      · have h := hf c4
        refine z_iload_n (pc' := 20) C dX10_surety_19 rfl 0 rfl rfl ?_
        refine z_if_ne (tgt := 31) (pc' := 23) C dX10_surety_20 (by decide) rfl (fun c5 => absurd c5 (by decide)) (fun _ => ?_)
        refine z_aload_n (pc' := 24) C dX10_surety_23 rfl 1 rfl rfl ?_
        refine z_iload_n (pc' := 25) C dX10_surety_24 rfl 3 rfl rfl ?_
        refine z_callVi (q := 0) (i := 0) (w9 := (RX10, TX10, 12)) (pc' := 28) (st := []) (As := [.int a1]) C (sc_X10_isBuyer l E σ2 a1 _ h) zwX10_112_X10_isBuyer zvX10_112_X10_isBuyer.1 zvX10_112_X10_isBuyer.2 (zL_mem (by decide) zo0) rfl rfl ⟨(Nat.le_of_ble_eq_true rfl), (Nat.le_of_ble_eq_true rfl)⟩ ⟨Nat.zero_le _, Nat.zero_le _⟩ rfl rfl (Nat.le_of_ble_eq_true rfl) dX10_surety_25 rfl (fun r7 σ6 h => ?_)
        obtain ⟨ht, hf⟩ := h
        refine z_if_eq (tgt := 36) (pc' := 31) C dX10_surety_28 (by decide) rfl (fun c8 => ?_) (fun c8 => ?_)
        · have h := ht c8
          refine z_iconst (v := (-1)) (pc' := 37) C dX10_surety_36 (by decide) rfl ?_
          exact z_iret C dX10_surety_37 h
        · have h := hf c8
          refine z_iload_n (pc' := 32) C dX10_surety_31 rfl 3 rfl rfl ?_
          refine z_iload_n (pc' := 33) C dX10_surety_32 rfl 2 rfl rfl ?_
          obtain ⟨ht, hf⟩ := h
          refine z_icmp_ne (tgt := 38) (pc' := 36) C dX10_surety_33 (by decide) rfl (fun c9 => ?_) (fun c9 => ?_)
          · have h := ht c9
            refine z_aload_n (pc' := 39) C dX10_surety_38 rfl 1 rfl rfl ?_
            refine zgX10_23 (pc' := 42) C zo0 dX10_surety_39 rfl ?_
            refine z_iload_n (pc' := 43) C dX10_surety_42 rfl 2 rfl rfl ?_
            obtain ⟨hv10, h⟩ := h
            refine z_aald (n := 10) (t0 := 5) (q2 := 6) (pc' := 44) C (zL_mem (by decide) zo5) (fun _ => rfl) rfl hv10 dX10_surety_43 rfl ?_
            refine zgX10_123 (pc' := 47) C (zin hv10) dX10_surety_44 rfl ?_
            refine z_istore (pc' := 49) (lv' := [(4, .int (σ6 6 a0.toNatClampNeg 6)), (3, .int 0), (0, .ref (E.2.2 0 0)), (1, .int a0), (2, .int a1)]) C dX10_surety_47 (by decide) rfl rfl ?_
            refine z_aload_n (pc' := 50) C dX10_surety_49 rfl 2 rfl rfl ?_
            refine zgX10_23 (pc' := 53) C zo0 dX10_surety_50 rfl ?_
            refine z_iload_n (pc' := 54) C dX10_surety_53 rfl 3 rfl rfl ?_
            obtain ⟨hv11, h⟩ := h
            refine z_aald (n := 10) (t0 := 5) (q2 := 6) (pc' := 55) C (zL_mem (by decide) zo5) (fun _ => rfl) rfl hv11 dX10_surety_54 rfl ?_
            refine z_iload_n (pc' := 56) C dX10_surety_55 rfl 1 rfl rfl ?_
            refine z_if_eq (tgt := 64) (pc' := 59) C dX10_surety_56 (by decide) rfl (fun _ => ?_) (fun c12 => absurd c12 (by decide))
            refine z_iload_n (pc' := 65) C dX10_surety_64 rfl 4 rfl rfl ?_
            refine zpX10_123 (pc' := 68) C (zin hv11) dX10_surety_65 rfl ?_
            refine z_iload (pc' := 70) C dX10_surety_68 0 rfl rfl ?_
            exact z_iret C dX10_surety_70 h
          · have h := hf c9
            refine z_iconst (v := (-1)) (pc' := 37) C dX10_surety_36 (by decide) rfl ?_
            exact z_iret C dX10_surety_37 h
    · have h := hf c1
      refine z_iconst (v := 1) (pc' := 6) C dX10_surety_5 (by decide) rfl ?_
      refine z_goto (tgt := 10) C dX10_surety_6 (by decide) ?_
      refine z_istore_n (pc' := 11) (lv' := [(3, .int 1), (0, .ref (E.2.2 0 0)), (1, .int a0), (2, .int a1)]) C dX10_surety_10 rfl (by decide) rfl rfl ?_
      refine z_aload_n (pc' := 12) C dX10_surety_11 rfl 1 rfl rfl ?_
      refine z_iload_n (pc' := 13) C dX10_surety_12 rfl 2 rfl rfl ?_
      refine z_callVi (q := 0) (i := 0) (w9 := (RX10, TX10, 12)) (pc' := 16) (st := []) (As := [.int a0]) C (sc_X10_isBuyer l E σ a0 _ h) zwX10_112_X10_isBuyer zvX10_112_X10_isBuyer.1 zvX10_112_X10_isBuyer.2 (zL_mem (by decide) zo0) rfl rfl ⟨(Nat.le_of_ble_eq_true rfl), (Nat.le_of_ble_eq_true rfl)⟩ ⟨Nat.zero_le _, Nat.zero_le _⟩ rfl rfl (Nat.le_of_ble_eq_true rfl) dX10_surety_13 rfl (fun r14 σ13 h => ?_)
      obtain ⟨ht, hf⟩ := h
      refine z_if_eq (tgt := 36) (pc' := 19) C dX10_surety_16 (by decide) rfl (fun c15 => ?_) (fun c15 => ?_)
      · have h := ht c15
        refine z_iconst (v := (-1)) (pc' := 37) C dX10_surety_36 (by decide) rfl ?_
        exact z_iret C dX10_surety_37 h
      · have h := hf c15
        refine z_iload_n (pc' := 20) C dX10_surety_19 rfl 0 rfl rfl ?_
        refine z_if_ne (tgt := 31) (pc' := 23) C dX10_surety_20 (by decide) rfl (fun _ => ?_) (fun c16 => absurd c16 (by decide))
        refine z_iload_n (pc' := 32) C dX10_surety_31 rfl 3 rfl rfl ?_
        refine z_iload_n (pc' := 33) C dX10_surety_32 rfl 2 rfl rfl ?_
        obtain ⟨ht, hf⟩ := h
        refine z_icmp_ne (tgt := 38) (pc' := 36) C dX10_surety_33 (by decide) rfl (fun c17 => ?_) (fun c17 => ?_)
        · have h := ht c17
          refine z_aload_n (pc' := 39) C dX10_surety_38 rfl 1 rfl rfl ?_
          refine zgX10_23 (pc' := 42) C zo0 dX10_surety_39 rfl ?_
          refine z_iload_n (pc' := 43) C dX10_surety_42 rfl 2 rfl rfl ?_
          obtain ⟨hv18, h⟩ := h
          refine z_aald (n := 10) (t0 := 5) (q2 := 6) (pc' := 44) C (zL_mem (by decide) zo5) (fun _ => rfl) rfl hv18 dX10_surety_43 rfl ?_
          refine zgX10_123 (pc' := 47) C (zin hv18) dX10_surety_44 rfl ?_
          refine z_istore (pc' := 49) (lv' := [(4, .int (σ13 6 a0.toNatClampNeg 6)), (3, .int 1), (0, .ref (E.2.2 0 0)), (1, .int a0), (2, .int a1)]) C dX10_surety_47 (by decide) rfl rfl ?_
          refine z_aload_n (pc' := 50) C dX10_surety_49 rfl 2 rfl rfl ?_
          refine zgX10_23 (pc' := 53) C zo0 dX10_surety_50 rfl ?_
          refine z_iload_n (pc' := 54) C dX10_surety_53 rfl 3 rfl rfl ?_
          obtain ⟨hv19, h⟩ := h
          refine z_aald (n := 10) (t0 := 5) (q2 := 6) (pc' := 55) C (zL_mem (by decide) zo5) (fun _ => rfl) rfl hv19 dX10_surety_54 rfl ?_
          refine z_iload_n (pc' := 56) C dX10_surety_55 rfl 1 rfl rfl ?_
          refine z_if_eq (tgt := 64) (pc' := 59) C dX10_surety_56 (by decide) rfl (fun c20 => absurd c20 (by decide)) (fun _ => ?_)
          refine z_bipush (v := (-2)) (pc' := 61) C dX10_surety_59 (by decide) rfl ?_
          refine z_goto (tgt := 65) C dX10_surety_61 (by decide) ?_
          refine zpX10_123 (pc' := 68) C (zin hv19) dX10_surety_65 rfl ?_
          refine z_iload (pc' := 70) C dX10_surety_68 0 rfl rfl ?_
          exact z_iret C dX10_surety_70 h
        · have h := hf c17
          refine z_iconst (v := (-1)) (pc' := 37) C dX10_surety_36 (by decide) rfl ?_
          exact z_iret C dX10_surety_37 h
  exact fin
def vc_X10_step (σ : zMem) (a0 : Int32) (Q : Int32 → zMem → Prop) : Prop := ((a0 < 1) → Q ((-1)) σ) ∧ ((¬ a0 < 1) → ((a0 ≤ 100) → Q (σ 0 0 9) (um σ 0 0 9 a0)) ∧ ((¬ a0 ≤ 100) → Q ((-1)) σ))
set_option maxHeartbeats 4000000 in
set_option maxRecDepth 100000 in
theorem sc_X10_step (l : Launch) (E : zE) (σ : zMem) (a0 : Int32) (Q : Int32 → zMem → Prop) (h : vc_X10_step σ a0 Q) : zMi l yX10_step cX10_step 3 .int 0 0 E [.ref (E.2.2 0 0), .int a0] σ Q := by
  refine zMi_of (by decide) (Nat.le_of_ble_eq_true rfl) ?_
  intro p e s m args below meth c C
  unfold vc_X10_step at h
  have fin : zG p l e (zRm 0 0) s m args below meth c 3 E 0 0 (MQ below (va_Qi Q (zPost E) (zA E s.heap.size)) args s 0 0 (zA E s.heap.size)) σ 0 [(0, .ref (E.2.2 0 0)), (1, .int a0)] [] := by
    refine z_iload_n (pc' := 1) C dX10_step_0 rfl 1 rfl rfl ?_
    refine z_iconst (v := 1) (pc' := 2) C dX10_step_1 (by decide) rfl ?_
    obtain ⟨ht, hf⟩ := h
    refine z_icmp_lt (tgt := 11) (pc' := 5) C dX10_step_2 (by decide) rfl (fun c1 => ?_) (fun c1 => ?_)
    · have h := ht c1
      refine z_iconst (v := (-1)) (pc' := 12) C dX10_step_11 (by decide) rfl ?_
      exact z_iret C dX10_step_12 h
    · have h := hf c1
      refine z_iload_n (pc' := 6) C dX10_step_5 rfl 1 rfl rfl ?_
      refine z_bipush (v := 100) (pc' := 8) C dX10_step_6 (by decide) rfl ?_
      obtain ⟨ht, hf⟩ := h
      refine z_icmp_le (tgt := 13) (pc' := 11) C dX10_step_8 (by decide) rfl (fun c2 => ?_) (fun c2 => ?_)
      · have h := ht c2
        refine z_aload_n (pc' := 14) C dX10_step_13 rfl 0 rfl rfl ?_
        refine zgX10_58 (pc' := 17) C zo0 dX10_step_14 rfl ?_
        refine z_istore_n (pc' := 18) (lv' := [(2, .int (σ 0 0 9)), (0, .ref (E.2.2 0 0)), (1, .int a0)]) C dX10_step_17 rfl (by decide) rfl rfl ?_
        refine z_aload_n (pc' := 19) C dX10_step_18 rfl 1 rfl rfl ?_
        refine z_iload_n (pc' := 20) C dX10_step_19 rfl 2 rfl rfl ?_
        refine zpX10_58 (pc' := 23) C zo0 dX10_step_20 rfl ?_
        refine z_iload_n (pc' := 24) C dX10_step_23 rfl 0 rfl rfl ?_
        exact z_iret C dX10_step_24 h
      · have h := hf c2
        refine z_iconst (v := (-1)) (pc' := 12) C dX10_step_11 (by decide) rfl ?_
        exact z_iret C dX10_step_12 h
  exact fin
def vc_X10_look (σ : zMem) (a0 : Int32) (a1 : Int32) (Q : Int32 → zMem → Prop) : Prop := vc_X10_isPlot σ a0 (fun r2 σ1 => ((¬ r2 = 0) → vp_in a0 24 ∧ ((a1 = 0) → Q (σ1 4 a0.toNatClampNeg 0) σ1) ∧ ((a1 = 1) → Q (σ1 4 a0.toNatClampNeg 2) σ1) ∧ ((a1 = 2) → (σ1 4 a0.toNatClampNeg 1).toNatClampNeg < zcnt 2 ∧ Q (zchance ((σ1 4 a0.toNatClampNeg 1).toNatClampNeg)) σ1) ∧ ((a1 = 3) → vc_X5_hay σ1 a0.toNatClampNeg (fun r11 σ10 => Q r11 σ10)) ∧ ((a1 = 4) → Q (σ1 4 a0.toNatClampNeg 3) σ1) ∧ ((a1 = 5) → Q (σ1 4 a0.toNatClampNeg 4) σ1) ∧ ((a1 = 6) → Q (σ1 4 a0.toNatClampNeg 5) σ1) ∧ ((a1 = 7) → vc_X5_stands σ1 a0.toNatClampNeg (fun r17 σ16 => vc_X10_oneIf σ16 r17 (fun r19 σ18 => Q r19 σ18))) ∧ (¬ a1 = 0 → ¬ a1 = 1 → ¬ a1 = 2 → ¬ a1 = 3 → ¬ a1 = 4 → ¬ a1 = 5 → ¬ a1 = 6 → ¬ a1 = 7 → Q ((-1)) σ1)) ∧ ((r2 = 0) → Q ((-1)) σ1))
set_option maxHeartbeats 4000000 in
set_option maxRecDepth 100000 in
theorem sc_X10_look (l : Launch) (E : zE) (σ : zMem) (a0 : Int32) (a1 : Int32) (Q : Int32 → zMem → Prop) (h : vc_X10_look σ a0 a1 Q) : zMi l yX10_look cX10_look 4 .int 2 40 E [.ref (E.2.2 0 0), .int a0, .int a1] σ Q := by
  refine zMi_of (by decide) (Nat.le_of_ble_eq_true rfl) ?_
  intro p e s m args below meth c C
  unfold vc_X10_look at h
  have fin : zG p l e (zRm 2 40) s m args below meth c 4 E 0 0 (MQ below (va_Qi Q (zPost E) (zA E s.heap.size)) args s 0 0 (zA E s.heap.size)) σ 0 [(0, .ref (E.2.2 0 0)), (1, .int a0), (2, .int a1)] [] := by
    refine z_iload_n (pc' := 1) C dX10_look_0 rfl 1 rfl rfl ?_
    refine z_callSi (pc' := 4) (st := []) (As := [.int a0]) C (sc_X10_isPlot l E σ a0 _ h) zwX10_77_X10_isPlot ztX10_77_X10_isPlot ⟨(Nat.le_of_ble_eq_true rfl), (Nat.le_of_ble_eq_true rfl)⟩ ⟨Nat.zero_le _, Nat.zero_le _⟩ rfl rfl (Nat.le_of_ble_eq_true rfl) dX10_look_1 rfl (fun r2 σ1 h => ?_)
    obtain ⟨ht, hf⟩ := h
    refine z_if_ne (tgt := 9) (pc' := 7) C dX10_look_4 (by decide) rfl (fun c3 => ?_) (fun c3 => ?_)
    · have h := ht c3
      refine z_aload_n (pc' := 10) C dX10_look_9 rfl 0 rfl rfl ?_
      refine zgX10_17 (pc' := 13) C zo0 dX10_look_10 rfl ?_
      refine z_iload_n (pc' := 14) C dX10_look_13 rfl 1 rfl rfl ?_
      obtain ⟨hv4, h⟩ := h
      refine z_aald (n := 24) (t0 := 4) (q2 := 4) (pc' := 15) C (zL_mem (by decide) zo3) (fun _ => rfl) rfl hv4 dX10_look_14 rfl ?_
      refine z_astore_n (pc' := 16) (lv' := [(3, .ref (E.2.2 4 a0.toNatClampNeg)), (0, .ref (E.2.2 0 0)), (1, .int a0), (2, .int a1)]) C dX10_look_15 rfl (by decide) rfl rfl ?_
      refine z_iload_n (pc' := 17) C dX10_look_16 rfl 3 rfl rfl ?_
      obtain ⟨hk, h⟩ := h
      by_cases c5 : a1 = 0
      · have h := hk c5
        refine z_tabIn (tgt := 64) C dX10_look_17 0 c5 (by decide) (by decide) rfl (by decide) ?_
        refine z_aload_n (pc' := 65) C dX10_look_64 rfl 0 rfl rfl ?_
        refine zgX10_92 (pc' := 68) C (zin hv4) dX10_look_65 rfl ?_
        exact z_iret C dX10_look_68 h
      obtain ⟨hk, h⟩ := h
      by_cases c6 : a1 = 1
      · have h := hk c6
        refine z_tabIn (tgt := 69) C dX10_look_17 1 c6 (by decide) (by decide) rfl (by decide) ?_
        refine z_aload_n (pc' := 70) C dX10_look_69 rfl 0 rfl rfl ?_
        refine zgX10_89 (pc' := 73) C (zin hv4) dX10_look_70 rfl ?_
        exact z_iret C dX10_look_73 h
      obtain ⟨hk, h⟩ := h
      by_cases c7 : a1 = 2
      · have h := hk c7
        refine z_tabIn (tgt := 74) C dX10_look_17 2 c7 (by decide) (by decide) rfl (by decide) ?_
        refine z_aload_n (pc' := 75) C dX10_look_74 rfl 0 rfl rfl ?_
        obtain ⟨hg8, h⟩ := h
        refine zgX10_95 (pc' := 78) C (zin hv4) dX10_look_75 rfl ?_
        refine zdX10_126 (pc' := 81) (st := []) C hg8 (Nat.le_of_ble_eq_true rfl) (Nat.le_of_ble_eq_true rfl) (Nat.zero_le _) (Nat.zero_le _) (Nat.le_of_ble_eq_true rfl) dX10_look_78 rfl ?_
        exact z_iret C dX10_look_81 h
      obtain ⟨hk, h⟩ := h
      by_cases c9 : a1 = 3
      · have h := hk c9
        refine z_tabIn (tgt := 82) C dX10_look_17 3 c9 (by decide) (by decide) rfl (by decide) ?_
        refine z_aload_n (pc' := 83) C dX10_look_82 rfl 0 rfl rfl ?_
        refine z_callVi (q := 4) (i := a0.toNatClampNeg) (w9 := (RX5, TX5, 6)) (pc' := 86) (st := []) (As := []) C (sc_X5_hay l E σ1 a0.toNatClampNeg _ (zin hv4) h) zwX10_130_X5_hay zvX10_130_X5_hay.1 zvX10_130_X5_hay.2 (zL_mem (by decide) (zin hv4)) rfl rfl ⟨(Nat.le_of_ble_eq_true rfl), (Nat.le_of_ble_eq_true rfl)⟩ ⟨Nat.zero_le _, Nat.zero_le _⟩ rfl rfl (Nat.le_of_ble_eq_true rfl) dX10_look_83 rfl (fun r11 σ10 h => ?_)
        exact z_iret C dX10_look_86 h
      obtain ⟨hk, h⟩ := h
      by_cases c12 : a1 = 4
      · have h := hk c12
        refine z_tabIn (tgt := 87) C dX10_look_17 4 c12 (by decide) (by decide) rfl (by decide) ?_
        refine z_aload_n (pc' := 88) C dX10_look_87 rfl 0 rfl rfl ?_
        refine zgX10_133 (pc' := 91) C (zin hv4) dX10_look_88 rfl ?_
        exact z_iret C dX10_look_91 h
      obtain ⟨hk, h⟩ := h
      by_cases c13 : a1 = 5
      · have h := hk c13
        refine z_tabIn (tgt := 92) C dX10_look_17 5 c13 (by decide) (by decide) rfl (by decide) ?_
        refine z_aload_n (pc' := 93) C dX10_look_92 rfl 0 rfl rfl ?_
        refine zgX10_136 (pc' := 96) C (zin hv4) dX10_look_93 rfl ?_
        exact z_iret C dX10_look_96 h
      obtain ⟨hk, h⟩ := h
      by_cases c14 : a1 = 6
      · have h := hk c14
        refine z_tabIn (tgt := 97) C dX10_look_17 6 c14 (by decide) (by decide) rfl (by decide) ?_
        refine z_aload_n (pc' := 98) C dX10_look_97 rfl 0 rfl rfl ?_
        refine zgX10_139 (pc' := 101) C (zin hv4) dX10_look_98 rfl ?_
        exact z_iret C dX10_look_101 h
      obtain ⟨hk, h⟩ := h
      by_cases c15 : a1 = 7
      · have h := hk c15
        refine z_tabIn (tgt := 102) C dX10_look_17 7 c15 (by decide) (by decide) rfl (by decide) ?_
        refine z_aload_n (pc' := 103) C dX10_look_102 rfl 0 rfl rfl ?_
        refine z_callVi (q := 4) (i := a0.toNatClampNeg) (w9 := (RX5, TX5, 6)) (pc' := 106) (st := []) (As := []) C (sc_X5_stands l E σ1 a0.toNatClampNeg _ (zin hv4) h) zwX10_142_X5_stands zvX10_142_X5_stands.1 zvX10_142_X5_stands.2 (zL_mem (by decide) (zin hv4)) rfl rfl ⟨(Nat.le_of_ble_eq_true rfl), (Nat.le_of_ble_eq_true rfl)⟩ ⟨Nat.zero_le _, Nat.zero_le _⟩ rfl rfl (Nat.le_of_ble_eq_true rfl) dX10_look_103 rfl (fun r17 σ16 h => ?_)
        refine z_callSi (pc' := 109) (st := []) (As := [.int r17]) C (sc_X10_oneIf l E σ16 r17 _ h) zwX10_119_X10_oneIf ztX10_119_X10_oneIf ⟨(Nat.le_of_ble_eq_true rfl), (Nat.le_of_ble_eq_true rfl)⟩ ⟨Nat.zero_le _, Nat.zero_le _⟩ rfl rfl (Nat.le_of_ble_eq_true rfl) dX10_look_106 rfl (fun r19 σ18 h => ?_)
        exact z_iret C dX10_look_109 h
      have h := h c5 c6 c7 c9 c12 c13 c14 c15
      refine z_tabOut (tgt := 110) C dX10_look_17 (by have ec5 := lv_neT (a := 0) c5 rfl; have ec6 := lv_neT (a := 1) c6 rfl; have ec7 := lv_neT (a := 2) c7 rfl; have ec9 := lv_neT (a := 3) c9 rfl; have ec12 := lv_neT (a := 4) c12 rfl; have ec13 := lv_neT (a := 5) c13 rfl; have ec14 := lv_neT (a := 6) c14 rfl; have ec15 := lv_neT (a := 7) c15 rfl; omega) (by decide) ?_
      refine z_iconst (v := (-1)) (pc' := 111) C dX10_look_110 (by decide) rfl ?_
      exact z_iret C dX10_look_111 h
    · have h := hf c3
      refine z_iconst (v := (-1)) (pc' := 8) C dX10_look_7 (by decide) rfl ?_
      exact z_iret C dX10_look_8 h
  exact fin
def vc_X10_hayOf_4 (x1 : Int32) (Q : Int32 → zMem → Prop) : Nat → zMem → Int32 → Int32 → Prop
  | 0, _, _, _ => False
  | n + 1, σ, x2, x3 => ((24 ≤ x3) → Q x2 σ) ∧ ((¬ 24 ≤ x3) → vp_in x3 24 ∧ ((¬ (σ 4 x3.toNatClampNeg 3) = x1) → vc_X10_hayOf_4 x1 Q n σ x2 (x3 + 1)) ∧ (((σ 4 x3.toNatClampNeg 3) = x1) → vp_in x3 24 ∧ vc_X5_hay σ x3.toNatClampNeg (fun r7 σ6 => vc_X10_hayOf_4 x1 Q n σ6 (x2 + r7) (x3 + 1))))
def vc_X10_hayOf (σ : zMem) (a0 : Int32) (Q : Int32 → zMem → Prop) : Prop := ∃ n1, vc_X10_hayOf_4 a0 Q n1 σ 0 0
set_option maxHeartbeats 4000000 in
set_option maxRecDepth 100000 in
theorem sl_X10_hayOf_4 {p : Program} {l : Launch} {e : Env} {s : State} {m : MethodId} {args : Array Value} {below : List Frame} {meth : Method} {c : Code} {E : zE} (C : zX p s m args meth c cX10_hayOf 4 RX10 (some .int) E) (x1 : Int32) (Q : Int32 → zMem → Prop) : ∀ (n : Nat) (σ : zMem) (x2 : Int32) (x3 : Int32), vc_X10_hayOf_4 x1 Q n σ x2 x3 → zG p l e (zRm 2 40) s m args below meth c 4 E 0 0 (MQ below (va_Qi Q (zPost E) (zA E s.heap.size)) args s 0 0 (zA E s.heap.size)) σ 4 [(0, .ref (E.2.2 0 0)), (1, .int x1), (2, .int x2), (3, .int x3)] [] := by
  intro n
  induction n with
  | zero =>
    intro σ x2 x3 h
    exact False.elim h
  | succ n ih =>
    intro σ x2 x3 h
    rw [vc_X10_hayOf_4] at h
    refine z_iload_n (pc' := 5) C dX10_hayOf_4 rfl 3 rfl rfl ?_
    refine z_bipush (v := 24) (pc' := 7) C dX10_hayOf_5 (by decide) rfl ?_
    obtain ⟨ht, hf⟩ := h
    refine z_icmp_ge (tgt := 41) (pc' := 10) C dX10_hayOf_7 (by decide) rfl (fun c2 => ?_) (fun c2 => ?_)
    · have h := ht c2
      refine z_iload_n (pc' := 42) C dX10_hayOf_41 rfl 2 rfl rfl ?_
      exact z_iret C dX10_hayOf_42 h
    · have h := hf c2
      refine z_aload_n (pc' := 11) C dX10_hayOf_10 rfl 0 rfl rfl ?_
      refine zgX10_17 (pc' := 14) C zo0 dX10_hayOf_11 rfl ?_
      refine z_iload_n (pc' := 15) C dX10_hayOf_14 rfl 3 rfl rfl ?_
      obtain ⟨hv3, h⟩ := h
      refine z_aald (n := 24) (t0 := 4) (q2 := 4) (pc' := 16) C (zL_mem (by decide) zo3) (fun _ => rfl) rfl hv3 dX10_hayOf_15 rfl ?_
      refine zgX10_133 (pc' := 19) C (zin hv3) dX10_hayOf_16 rfl ?_
      refine z_iload_n (pc' := 20) C dX10_hayOf_19 rfl 1 rfl rfl ?_
      obtain ⟨ht, hf⟩ := h
      refine z_icmp_ne (tgt := 35) (pc' := 23) C dX10_hayOf_20 (by decide) rfl (fun c4 => ?_) (fun c4 => ?_)
      · have h := ht c4
        refine z_iinc (j := 3) (v := x3 + 1) (pc' := 38) (lv' := [(3, .int (x3 + 1)), (0, .ref (E.2.2 0 0)), (1, .int x1), (2, .int x2)]) C dX10_hayOf_35 rfl rfl (by decide) rfl rfl ?_
        refine z_goto (tgt := 4) C dX10_hayOf_38 (by decide) ?_
        refine z_sub (lv' := [(0, .ref (E.2.2 0 0)), (1, .int x1), (2, .int x2), (3, .int (x3 + 1))]) [1, 2, 3, 0] rfl ?_
        exact ih _ _ _ h
      · have h := hf c4
        refine z_iload_n (pc' := 24) C dX10_hayOf_23 rfl 2 rfl rfl ?_
        refine z_aload_n (pc' := 25) C dX10_hayOf_24 rfl 0 rfl rfl ?_
        refine zgX10_17 (pc' := 28) C zo0 dX10_hayOf_25 rfl ?_
        refine z_iload_n (pc' := 29) C dX10_hayOf_28 rfl 3 rfl rfl ?_
        obtain ⟨hv5, h⟩ := h
        refine z_aald (n := 24) (t0 := 4) (q2 := 4) (pc' := 30) C (zL_mem (by decide) zo3) (fun _ => rfl) rfl hv5 dX10_hayOf_29 rfl ?_
        refine z_callVi (q := 4) (i := x3.toNatClampNeg) (w9 := (RX5, TX5, 6)) (pc' := 33) (st := [.int x2]) (As := []) C (sc_X5_hay l E σ x3.toNatClampNeg _ (zin hv5) h) zwX10_130_X5_hay zvX10_130_X5_hay.1 zvX10_130_X5_hay.2 (zL_mem (by decide) (zin hv5)) rfl rfl ⟨(Nat.le_of_ble_eq_true rfl), (Nat.le_of_ble_eq_true rfl)⟩ ⟨Nat.zero_le _, Nat.zero_le _⟩ rfl rfl (Nat.le_of_ble_eq_true rfl) dX10_hayOf_30 rfl (fun r7 σ6 h => ?_)
        refine z_iadd (pc' := 34) C dX10_hayOf_33 rfl ?_
        refine z_istore_n (pc' := 35) (lv' := [(2, .int (x2 + r7)), (0, .ref (E.2.2 0 0)), (1, .int x1), (3, .int x3)]) C dX10_hayOf_34 rfl (by decide) rfl rfl ?_
        refine z_iinc (j := 3) (v := x3 + 1) (pc' := 38) (lv' := [(3, .int (x3 + 1)), (2, .int (x2 + r7)), (0, .ref (E.2.2 0 0)), (1, .int x1)]) C dX10_hayOf_35 rfl rfl (by decide) rfl rfl ?_
        refine z_goto (tgt := 4) C dX10_hayOf_38 (by decide) ?_
        refine z_sub (lv' := [(0, .ref (E.2.2 0 0)), (1, .int x1), (2, .int (x2 + r7)), (3, .int (x3 + 1))]) [2, 3, 1, 0] rfl ?_
        exact ih _ _ _ h
set_option maxHeartbeats 4000000 in
set_option maxRecDepth 100000 in
theorem sc_X10_hayOf (l : Launch) (E : zE) (σ : zMem) (a0 : Int32) (Q : Int32 → zMem → Prop) (h : vc_X10_hayOf σ a0 Q) : zMi l yX10_hayOf cX10_hayOf 4 .int 2 40 E [.ref (E.2.2 0 0), .int a0] σ Q := by
  refine zMi_of (by decide) (Nat.le_of_ble_eq_true rfl) ?_
  intro p e s m args below meth c C
  unfold vc_X10_hayOf at h
  have fin : zG p l e (zRm 2 40) s m args below meth c 4 E 0 0 (MQ below (va_Qi Q (zPost E) (zA E s.heap.size)) args s 0 0 (zA E s.heap.size)) σ 0 [(0, .ref (E.2.2 0 0)), (1, .int a0)] [] := by
    refine z_iconst (v := 0) (pc' := 1) C dX10_hayOf_0 (by decide) rfl ?_
    refine z_istore_n (pc' := 2) (lv' := [(2, .int 0), (0, .ref (E.2.2 0 0)), (1, .int a0)]) C dX10_hayOf_1 rfl (by decide) rfl rfl ?_
    refine z_iconst (v := 0) (pc' := 3) C dX10_hayOf_2 (by decide) rfl ?_
    refine z_istore_n (pc' := 4) (lv' := [(3, .int 0), (2, .int 0), (0, .ref (E.2.2 0 0)), (1, .int a0)]) C dX10_hayOf_3 rfl (by decide) rfl rfl ?_
    obtain ⟨n1, h⟩ := h
    refine z_sub (lv' := [(0, .ref (E.2.2 0 0)), (1, .int a0), (2, .int 0), (3, .int 0)]) [2, 3, 1, 0] rfl ?_
    exact sl_X10_hayOf_4 C a0 Q n1 _ _ _ h
  exact fin
def vc_X10_about (σ : zMem) (a0 : Int32) (a1 : Int32) (Q : Int32 → zMem → Prop) : Prop := vc_X10_isBuyer σ a0 (fun r2 σ1 => ((¬ r2 = 0) → vp_in a0 10 ∧ ((a1 = 0) → Q (σ1 6 a0.toNatClampNeg 0) σ1) ∧ ((a1 = 1) → Q (σ1 6 a0.toNatClampNeg 1) σ1) ∧ ((a1 = 2) → Q (σ1 6 a0.toNatClampNeg 2) σ1) ∧ ((a1 = 3) → vc_X0_need σ1 a0.toNatClampNeg (fun r10 σ9 => Q r10 σ9)) ∧ ((a1 = 4) → vc_X10_hayOf σ1 a0 (fun r13 σ12 => Q r13 σ12)) ∧ ((a1 = 5) → Q (σ1 6 a0.toNatClampNeg 3) σ1) ∧ ((a1 = 6) → Q (σ1 6 a0.toNatClampNeg 4) σ1) ∧ ((a1 = 7) → vc_X10_oneIf σ1 (σ1 6 a0.toNatClampNeg 5) (fun r18 σ17 => Q r18 σ17)) ∧ (¬ a1 = 0 → ¬ a1 = 1 → ¬ a1 = 2 → ¬ a1 = 3 → ¬ a1 = 4 → ¬ a1 = 5 → ¬ a1 = 6 → ¬ a1 = 7 → Q ((-1)) σ1)) ∧ ((r2 = 0) → Q ((-1)) σ1))
set_option maxHeartbeats 4000000 in
set_option maxRecDepth 100000 in
theorem sc_X10_about (l : Launch) (E : zE) (σ : zMem) (a0 : Int32) (a1 : Int32) (Q : Int32 → zMem → Prop) (h : vc_X10_about σ a0 a1 Q) : zMi l yX10_about cX10_about 4 .int 3 63 E [.ref (E.2.2 0 0), .int a0, .int a1] σ Q := by
  refine zMi_of (by decide) (Nat.le_of_ble_eq_true rfl) ?_
  intro p e s m args below meth c C
  unfold vc_X10_about at h
  have fin : zG p l e (zRm 3 63) s m args below meth c 4 E 0 0 (MQ below (va_Qi Q (zPost E) (zA E s.heap.size)) args s 0 0 (zA E s.heap.size)) σ 0 [(0, .ref (E.2.2 0 0)), (1, .int a0), (2, .int a1)] [] := by
    refine z_aload_n (pc' := 1) C dX10_about_0 rfl 0 rfl rfl ?_
    refine z_iload_n (pc' := 2) C dX10_about_1 rfl 1 rfl rfl ?_
    refine z_callVi (q := 0) (i := 0) (w9 := (RX10, TX10, 12)) (pc' := 5) (st := []) (As := [.int a0]) C (sc_X10_isBuyer l E σ a0 _ h) zwX10_112_X10_isBuyer zvX10_112_X10_isBuyer.1 zvX10_112_X10_isBuyer.2 (zL_mem (by decide) zo0) rfl rfl ⟨(Nat.le_of_ble_eq_true rfl), (Nat.le_of_ble_eq_true rfl)⟩ ⟨Nat.zero_le _, Nat.zero_le _⟩ rfl rfl (Nat.le_of_ble_eq_true rfl) dX10_about_2 rfl (fun r2 σ1 h => ?_)
    obtain ⟨ht, hf⟩ := h
    refine z_if_ne (tgt := 10) (pc' := 8) C dX10_about_5 (by decide) rfl (fun c3 => ?_) (fun c3 => ?_)
    · have h := ht c3
      refine z_aload_n (pc' := 11) C dX10_about_10 rfl 0 rfl rfl ?_
      refine zgX10_23 (pc' := 14) C zo0 dX10_about_11 rfl ?_
      refine z_iload_n (pc' := 15) C dX10_about_14 rfl 1 rfl rfl ?_
      obtain ⟨hv4, h⟩ := h
      refine z_aald (n := 10) (t0 := 5) (q2 := 6) (pc' := 16) C (zL_mem (by decide) zo5) (fun _ => rfl) rfl hv4 dX10_about_15 rfl ?_
      refine z_astore_n (pc' := 17) (lv' := [(3, .ref (E.2.2 6 a0.toNatClampNeg)), (0, .ref (E.2.2 0 0)), (1, .int a0), (2, .int a1)]) C dX10_about_16 rfl (by decide) rfl rfl ?_
      refine z_iload_n (pc' := 18) C dX10_about_17 rfl 3 rfl rfl ?_
      obtain ⟨hk, h⟩ := h
      by_cases c5 : a1 = 0
      · have h := hk c5
        refine z_tabIn (tgt := 64) C dX10_about_18 0 c5 (by decide) (by decide) rfl (by decide) ?_
        refine z_aload_n (pc' := 65) C dX10_about_64 rfl 0 rfl rfl ?_
        refine zgX10_103 (pc' := 68) C (zin hv4) dX10_about_65 rfl ?_
        exact z_iret C dX10_about_68 h
      obtain ⟨hk, h⟩ := h
      by_cases c6 : a1 = 1
      · have h := hk c6
        refine z_tabIn (tgt := 69) C dX10_about_18 1 c6 (by decide) (by decide) rfl (by decide) ?_
        refine z_aload_n (pc' := 70) C dX10_about_69 rfl 0 rfl rfl ?_
        refine zgX10_106 (pc' := 73) C (zin hv4) dX10_about_70 rfl ?_
        exact z_iret C dX10_about_73 h
      obtain ⟨hk, h⟩ := h
      by_cases c7 : a1 = 2
      · have h := hk c7
        refine z_tabIn (tgt := 74) C dX10_about_18 2 c7 (by decide) (by decide) rfl (by decide) ?_
        refine z_aload_n (pc' := 75) C dX10_about_74 rfl 0 rfl rfl ?_
        refine zgX10_109 (pc' := 78) C (zin hv4) dX10_about_75 rfl ?_
        exact z_iret C dX10_about_78 h
      obtain ⟨hk, h⟩ := h
      by_cases c8 : a1 = 3
      · have h := hk c8
        refine z_tabIn (tgt := 79) C dX10_about_18 3 c8 (by decide) (by decide) rfl (by decide) ?_
        refine z_aload_n (pc' := 80) C dX10_about_79 rfl 0 rfl rfl ?_
        refine z_callVi (q := 6) (i := a0.toNatClampNeg) (w9 := (RX0, TX0, 7)) (pc' := 83) (st := []) (As := []) C (sc_X0_need l E σ1 a0.toNatClampNeg _ (zin hv4) h) zwX10_145_X0_need zvX10_145_X0_need.1 zvX10_145_X0_need.2 (zL_mem (by decide) (zin hv4)) rfl rfl ⟨(Nat.le_of_ble_eq_true rfl), (Nat.le_of_ble_eq_true rfl)⟩ ⟨Nat.zero_le _, Nat.zero_le _⟩ rfl rfl (Nat.le_of_ble_eq_true rfl) dX10_about_80 rfl (fun r10 σ9 h => ?_)
        exact z_iret C dX10_about_83 h
      obtain ⟨hk, h⟩ := h
      by_cases c11 : a1 = 4
      · have h := hk c11
        refine z_tabIn (tgt := 84) C dX10_about_18 4 c11 (by decide) (by decide) rfl (by decide) ?_
        refine z_aload_n (pc' := 85) C dX10_about_84 rfl 1 rfl rfl ?_
        refine z_iload_n (pc' := 86) C dX10_about_85 rfl 2 rfl rfl ?_
        refine z_callVi (q := 0) (i := 0) (w9 := (RX10, TX10, 12)) (pc' := 89) (st := []) (As := [.int a0]) C (sc_X10_hayOf l E σ1 a0 _ h) zwX10_148_X10_hayOf zvX10_148_X10_hayOf.1 zvX10_148_X10_hayOf.2 (zL_mem (by decide) zo0) rfl rfl ⟨(Nat.le_of_ble_eq_true rfl), (Nat.le_of_ble_eq_true rfl)⟩ ⟨Nat.zero_le _, Nat.zero_le _⟩ rfl rfl (Nat.le_of_ble_eq_true rfl) dX10_about_86 rfl (fun r13 σ12 h => ?_)
        exact z_iret C dX10_about_89 h
      obtain ⟨hk, h⟩ := h
      by_cases c14 : a1 = 5
      · have h := hk c14
        refine z_tabIn (tgt := 90) C dX10_about_18 5 c14 (by decide) (by decide) rfl (by decide) ?_
        refine z_aload_n (pc' := 91) C dX10_about_90 rfl 0 rfl rfl ?_
        refine zgX10_152 (pc' := 94) C (zin hv4) dX10_about_91 rfl ?_
        exact z_iret C dX10_about_94 h
      obtain ⟨hk, h⟩ := h
      by_cases c15 : a1 = 6
      · have h := hk c15
        refine z_tabIn (tgt := 95) C dX10_about_18 6 c15 (by decide) (by decide) rfl (by decide) ?_
        refine z_aload_n (pc' := 96) C dX10_about_95 rfl 0 rfl rfl ?_
        refine zgX10_155 (pc' := 99) C (zin hv4) dX10_about_96 rfl ?_
        exact z_iret C dX10_about_99 h
      obtain ⟨hk, h⟩ := h
      by_cases c16 : a1 = 7
      · have h := hk c16
        refine z_tabIn (tgt := 100) C dX10_about_18 7 c16 (by decide) (by decide) rfl (by decide) ?_
        refine z_aload_n (pc' := 101) C dX10_about_100 rfl 0 rfl rfl ?_
        refine zgX10_115 (pc' := 104) C (zin hv4) dX10_about_101 rfl ?_
        refine z_callSi (pc' := 107) (st := []) (As := [.int (σ1 6 a0.toNatClampNeg 5)]) C (sc_X10_oneIf l E σ1 (σ1 6 a0.toNatClampNeg 5) _ h) zwX10_119_X10_oneIf ztX10_119_X10_oneIf ⟨(Nat.le_of_ble_eq_true rfl), (Nat.le_of_ble_eq_true rfl)⟩ ⟨Nat.zero_le _, Nat.zero_le _⟩ rfl rfl (Nat.le_of_ble_eq_true rfl) dX10_about_104 rfl (fun r18 σ17 h => ?_)
        exact z_iret C dX10_about_107 h
      have h := h c5 c6 c7 c8 c11 c14 c15 c16
      refine z_tabOut (tgt := 108) C dX10_about_18 (by have ec5 := lv_neT (a := 0) c5 rfl; have ec6 := lv_neT (a := 1) c6 rfl; have ec7 := lv_neT (a := 2) c7 rfl; have ec8 := lv_neT (a := 3) c8 rfl; have ec11 := lv_neT (a := 4) c11 rfl; have ec14 := lv_neT (a := 5) c14 rfl; have ec15 := lv_neT (a := 6) c15 rfl; have ec16 := lv_neT (a := 7) c16 rfl; omega) (by decide) ?_
      refine z_iconst (v := (-1)) (pc' := 109) C dX10_about_108 (by decide) rfl ?_
      exact z_iret C dX10_about_109 h
    · have h := hf c3
      refine z_iconst (v := (-1)) (pc' := 9) C dX10_about_8 (by decide) rfl ?_
      exact z_iret C dX10_about_9 h
  exact fin
def vc_X10_ownsBeside_2 (x1 : Int32) (x2 : Int32) (Q : Int32 → zMem → Prop) : Nat → zMem → Int32 → Prop
  | 0, _, _ => False
  | n + 1, σ, x3 => ((4 ≤ x3) → Q 0 σ) ∧ ((¬ 4 ≤ x3) → vc_X5_beside σ x2 x3 (fun r4 σ3 => ((r4 < 0) → vc_X10_ownsBeside_2 x1 x2 Q n σ3 (x3 + 1)) ∧ ((¬ r4 < 0) → vp_in r4 24 ∧ ((¬ (σ3 4 r4.toNatClampNeg 3) = x1) → vc_X10_ownsBeside_2 x1 x2 Q n σ3 (x3 + 1)) ∧ (((σ3 4 r4.toNatClampNeg 3) = x1) → Q 1 σ3))))
def vc_X10_ownsBeside (σ : zMem) (a0 : Int32) (a1 : Int32) (Q : Int32 → zMem → Prop) : Prop := ∃ n1, vc_X10_ownsBeside_2 a0 a1 Q n1 σ 0
set_option maxHeartbeats 4000000 in
set_option maxRecDepth 100000 in
theorem sl_X10_ownsBeside_2 {p : Program} {l : Launch} {e : Env} {s : State} {m : MethodId} {args : Array Value} {below : List Frame} {meth : Method} {c : Code} {E : zE} (C : zX p s m args meth c cX10_ownsBeside 5 RX10 (some .boolean) E) (x1 : Int32) (x2 : Int32) (Q : Int32 → zMem → Prop) : ∀ (n : Nat) (σ : zMem) (x3 : Int32), vc_X10_ownsBeside_2 x1 x2 Q n σ x3 → zG p l e (zRm 1 22) s m args below meth c 5 E 0 0 (MQ below (va_Qi Q (zPost E) (zA E s.heap.size)) args s 0 0 (zA E s.heap.size)) σ 2 [(0, .ref (E.2.2 0 0)), (1, .int x1), (2, .int x2), (3, .int x3)] [] := by
  intro n
  induction n with
  | zero =>
    intro σ x3 h
    exact False.elim h
  | succ n ih =>
    intro σ x3 h
    rw [vc_X10_ownsBeside_2] at h
    refine z_iload_n (pc' := 3) C dX10_ownsBeside_2 rfl 3 rfl rfl ?_
    refine z_iconst (v := 4) (pc' := 4) C dX10_ownsBeside_3 (by decide) rfl ?_
    obtain ⟨ht, hf⟩ := h
    refine z_icmp_ge (tgt := 41) (pc' := 7) C dX10_ownsBeside_4 (by decide) rfl (fun c2 => ?_) (fun c2 => ?_)
    · have h := ht c2
      refine z_iconst (v := 0) (pc' := 42) C dX10_ownsBeside_41 (by decide) rfl ?_
      exact z_zret C rfl dX10_ownsBeside_42 h
    · have h := hf c2
      refine z_iload_n (pc' := 8) C dX10_ownsBeside_7 rfl 2 rfl rfl ?_
      refine z_iload_n (pc' := 9) C dX10_ownsBeside_8 rfl 3 rfl rfl ?_
      refine z_callSi (pc' := 12) (st := []) (As := [.int x2, .int x3]) C (sc_X5_beside l E σ x2 x3 _ h) zwX10_308_X5_beside ztX10_308_X5_beside ⟨(Nat.le_of_ble_eq_true rfl), (Nat.le_of_ble_eq_true rfl)⟩ ⟨Nat.zero_le _, Nat.zero_le _⟩ rfl rfl (Nat.le_of_ble_eq_true rfl) dX10_ownsBeside_9 rfl (fun r4 σ3 h => ?_)
      refine z_istore (pc' := 14) (lv' := [(4, .int r4), (0, .ref (E.2.2 0 0)), (1, .int x1), (2, .int x2), (3, .int x3)]) C dX10_ownsBeside_12 (by decide) rfl rfl ?_
      refine z_iload (pc' := 16) C dX10_ownsBeside_14 0 rfl rfl ?_
      obtain ⟨ht, hf⟩ := h
      refine z_if_lt (tgt := 35) (pc' := 19) C dX10_ownsBeside_16 (by decide) rfl (fun c5 => ?_) (fun c5 => ?_)
      · have h := ht c5
        refine z_iinc (j := 4) (v := x3 + 1) (pc' := 38) (lv' := [(3, .int (x3 + 1)), (4, .int r4), (0, .ref (E.2.2 0 0)), (1, .int x1), (2, .int x2)]) C dX10_ownsBeside_35 rfl rfl (by decide) rfl rfl ?_
        refine z_goto (tgt := 2) C dX10_ownsBeside_38 (by decide) ?_
        refine z_sub (lv' := [(0, .ref (E.2.2 0 0)), (1, .int x1), (2, .int x2), (3, .int (x3 + 1))]) [2, 3, 4, 0] rfl ?_
        exact ih _ _ h
      · have h := hf c5
        refine z_aload_n (pc' := 20) C dX10_ownsBeside_19 rfl 1 rfl rfl ?_
        refine zgX10_17 (pc' := 23) C zo0 dX10_ownsBeside_20 rfl ?_
        refine z_iload (pc' := 25) C dX10_ownsBeside_23 0 rfl rfl ?_
        obtain ⟨hv6, h⟩ := h
        refine z_aald (n := 24) (t0 := 4) (q2 := 4) (pc' := 26) C (zL_mem (by decide) zo3) (fun _ => rfl) rfl hv6 dX10_ownsBeside_25 rfl ?_
        refine zgX10_133 (pc' := 29) C (zin hv6) dX10_ownsBeside_26 rfl ?_
        refine z_iload_n (pc' := 30) C dX10_ownsBeside_29 rfl 2 rfl rfl ?_
        obtain ⟨ht, hf⟩ := h
        refine z_icmp_ne (tgt := 35) (pc' := 33) C dX10_ownsBeside_30 (by decide) rfl (fun c7 => ?_) (fun c7 => ?_)
        · have h := ht c7
          refine z_iinc (j := 4) (v := x3 + 1) (pc' := 38) (lv' := [(3, .int (x3 + 1)), (4, .int r4), (0, .ref (E.2.2 0 0)), (1, .int x1), (2, .int x2)]) C dX10_ownsBeside_35 rfl rfl (by decide) rfl rfl ?_
          refine z_goto (tgt := 2) C dX10_ownsBeside_38 (by decide) ?_
          refine z_sub (lv' := [(0, .ref (E.2.2 0 0)), (1, .int x1), (2, .int x2), (3, .int (x3 + 1))]) [2, 3, 4, 0] rfl ?_
          exact ih _ _ h
        · have h := hf c7
          refine z_iconst (v := 1) (pc' := 34) C dX10_ownsBeside_33 (by decide) rfl ?_
          exact z_zret C rfl dX10_ownsBeside_34 h
set_option maxHeartbeats 4000000 in
set_option maxRecDepth 100000 in
theorem sc_X10_ownsBeside (l : Launch) (E : zE) (σ : zMem) (a0 : Int32) (a1 : Int32) (Q : Int32 → zMem → Prop) (h : vc_X10_ownsBeside σ a0 a1 Q) : zMi l yX10_ownsBeside cX10_ownsBeside 5 .boolean 1 22 E [.ref (E.2.2 0 0), .int a0, .int a1] σ Q := by
  refine zMi_of (by decide) (Nat.le_of_ble_eq_true rfl) ?_
  intro p e s m args below meth c C
  unfold vc_X10_ownsBeside at h
  have fin : zG p l e (zRm 1 22) s m args below meth c 5 E 0 0 (MQ below (va_Qi Q (zPost E) (zA E s.heap.size)) args s 0 0 (zA E s.heap.size)) σ 0 [(0, .ref (E.2.2 0 0)), (1, .int a0), (2, .int a1)] [] := by
    refine z_iconst (v := 0) (pc' := 1) C dX10_ownsBeside_0 (by decide) rfl ?_
    refine z_istore_n (pc' := 2) (lv' := [(3, .int 0), (0, .ref (E.2.2 0 0)), (1, .int a0), (2, .int a1)]) C dX10_ownsBeside_1 rfl (by decide) rfl rfl ?_
    obtain ⟨n1, h⟩ := h
    refine z_sub (lv' := [(0, .ref (E.2.2 0 0)), (1, .int a0), (2, .int a1), (3, .int 0)]) [1, 2, 3, 0] rfl ?_
    exact sl_X10_ownsBeside_2 C a0 a1 Q n1 _ _ h
  exact fin
def vc_X10_worthTo (σ : zMem) (a0 : Int32) (a1 : Int32) (Q : Int32 → zMem → Prop) : Prop := vp_in a0 10 ∧ vp_in a1 24 ∧ vc_X5_hay σ a1.toNatClampNeg (fun r4 σ3 => vc_X5_steps σ3 a1 (σ3 6 a0.toNatClampNeg 2) (fun r6 σ5 => vc_X10_ownsBeside σ5 a0 a1 (fun r8 σ7 => ((r8 = 0) → vc_X10_hayOf σ7 a0 (fun r11 σ10 => vc_X0_need σ10 a0.toNatClampNeg (fun r13 σ12 => ((r13 ≤ r11) → Q ((if ((10 * r4) - (5 * r6)) < 0 then 0 else (10 * r4) - (5 * r6))) σ12) ∧ ((¬ r13 ≤ r11) → Q ((if (((10 * r4) - (5 * r6)) * 2) < 0 then 0 else ((10 * r4) - (5 * r6)) * 2)) σ12)))) ∧ ((¬ r8 = 0) → vc_X10_hayOf σ7 a0 (fun r16 σ15 => vc_X0_need σ15 a0.toNatClampNeg (fun r18 σ17 => ((r18 ≤ r16) → Q ((if (((10 * r4) - (5 * r6)) + 20) < 0 then 0 else ((10 * r4) - (5 * r6)) + 20)) σ17) ∧ ((¬ r18 ≤ r16) → Q ((if ((((10 * r4) - (5 * r6)) + 20) * 2) < 0 then 0 else (((10 * r4) - (5 * r6)) + 20) * 2)) σ17)))))))
set_option maxHeartbeats 4000000 in
set_option maxRecDepth 100000 in
theorem sc_X10_worthTo (l : Launch) (E : zE) (σ : zMem) (a0 : Int32) (a1 : Int32) (Q : Int32 → zMem → Prop) (h : vc_X10_worthTo σ a0 a1 Q) : zMi l yX10_worthTo cX10_worthTo 5 .int 3 63 E [.ref (E.2.2 0 0), .int a0, .int a1] σ Q := by
  refine zMi_of (by decide) (Nat.le_of_ble_eq_true rfl) ?_
  intro p e s m args below meth c C
  unfold vc_X10_worthTo at h
  have fin : zG p l e (zRm 3 63) s m args below meth c 5 E 0 0 (MQ below (va_Qi Q (zPost E) (zA E s.heap.size)) args s 0 0 (zA E s.heap.size)) σ 0 [(0, .ref (E.2.2 0 0)), (1, .int a0), (2, .int a1)] [] := by
    refine z_aload_n (pc' := 1) C dX10_worthTo_0 rfl 0 rfl rfl ?_
    refine zgX10_23 (pc' := 4) C zo0 dX10_worthTo_1 rfl ?_
    refine z_iload_n (pc' := 5) C dX10_worthTo_4 rfl 1 rfl rfl ?_
    obtain ⟨hv1, h⟩ := h
    refine z_aald (n := 10) (t0 := 5) (q2 := 6) (pc' := 6) C (zL_mem (by decide) zo5) (fun _ => rfl) rfl hv1 dX10_worthTo_5 rfl ?_
    refine z_astore_n (pc' := 7) (lv' := [(3, .ref (E.2.2 6 a0.toNatClampNeg)), (0, .ref (E.2.2 0 0)), (1, .int a0), (2, .int a1)]) C dX10_worthTo_6 rfl (by decide) rfl rfl ?_
    refine z_bipush (v := 10) (pc' := 9) C dX10_worthTo_7 (by decide) rfl ?_
    refine z_aload_n (pc' := 10) C dX10_worthTo_9 rfl 1 rfl rfl ?_
    refine zgX10_17 (pc' := 13) C zo0 dX10_worthTo_10 rfl ?_
    refine z_iload_n (pc' := 14) C dX10_worthTo_13 rfl 3 rfl rfl ?_
    obtain ⟨hv2, h⟩ := h
    refine z_aald (n := 24) (t0 := 4) (q2 := 4) (pc' := 15) C (zL_mem (by decide) zo3) (fun _ => rfl) rfl hv2 dX10_worthTo_14 rfl ?_
    refine z_callVi (q := 4) (i := a1.toNatClampNeg) (w9 := (RX5, TX5, 6)) (pc' := 18) (st := [.int 10]) (As := []) C (sc_X5_hay l E σ a1.toNatClampNeg _ (zin hv2) h) zwX10_130_X5_hay zvX10_130_X5_hay.1 zvX10_130_X5_hay.2 (zL_mem (by decide) (zin hv2)) rfl rfl ⟨(Nat.le_of_ble_eq_true rfl), (Nat.le_of_ble_eq_true rfl)⟩ ⟨Nat.zero_le _, Nat.zero_le _⟩ rfl rfl (Nat.le_of_ble_eq_true rfl) dX10_worthTo_15 rfl (fun r4 σ3 h => ?_)
    refine z_imul (pc' := 19) C dX10_worthTo_18 rfl ?_
    refine z_iconst (v := 5) (pc' := 20) C dX10_worthTo_19 (by decide) rfl ?_
    refine z_iload_n (pc' := 21) C dX10_worthTo_20 rfl 3 rfl rfl ?_
    refine z_aload_n (pc' := 22) C dX10_worthTo_21 rfl 0 rfl rfl ?_
    refine zgX10_109 (pc' := 25) C (zin hv1) dX10_worthTo_22 rfl ?_
    refine z_callSi (pc' := 28) (st := [.int 5, .int (10 * r4)]) (As := [.int a1, .int (σ3 6 a0.toNatClampNeg 2)]) C (sc_X5_steps l E σ3 a1 (σ3 6 a0.toNatClampNeg 2) _ h) zwX10_311_X5_steps ztX10_311_X5_steps ⟨(Nat.le_of_ble_eq_true rfl), (Nat.le_of_ble_eq_true rfl)⟩ ⟨Nat.zero_le _, Nat.zero_le _⟩ rfl rfl (Nat.le_of_ble_eq_true rfl) dX10_worthTo_25 rfl (fun r6 σ5 h => ?_)
    refine z_imul (pc' := 29) C dX10_worthTo_28 rfl ?_
    refine z_isub (pc' := 30) C dX10_worthTo_29 rfl ?_
    refine z_istore (pc' := 32) (lv' := [(4, .int ((10 * r4) - (5 * r6))), (3, .ref (E.2.2 6 a0.toNatClampNeg)), (0, .ref (E.2.2 0 0)), (1, .int a0), (2, .int a1)]) C dX10_worthTo_30 (by decide) rfl rfl ?_
    refine z_aload_n (pc' := 33) C dX10_worthTo_32 rfl 2 rfl rfl ?_
    refine z_iload_n (pc' := 34) C dX10_worthTo_33 rfl 3 rfl rfl ?_
    refine z_iload_n (pc' := 35) C dX10_worthTo_34 rfl 4 rfl rfl ?_
    refine z_callVi (q := 0) (i := 0) (w9 := (RX10, TX10, 12)) (pc' := 38) (st := []) (As := [.int a0, .int a1]) C (sc_X10_ownsBeside l E σ5 a0 a1 _ h) zwX10_314_X10_ownsBeside zvX10_314_X10_ownsBeside.1 zvX10_314_X10_ownsBeside.2 (zL_mem (by decide) zo0) rfl rfl ⟨(Nat.le_of_ble_eq_true rfl), (Nat.le_of_ble_eq_true rfl)⟩ ⟨Nat.zero_le _, Nat.zero_le _⟩ rfl rfl (Nat.le_of_ble_eq_true rfl) dX10_worthTo_35 rfl (fun r8 σ7 h => ?_)
    obtain ⟨ht, hf⟩ := h
    refine z_if_eq (tgt := 44) (pc' := 41) C dX10_worthTo_38 (by decide) rfl (fun c9 => ?_) (fun c9 => ?_)
    · have h := ht c9
      refine z_aload_n (pc' := 45) C dX10_worthTo_44 rfl 2 rfl rfl ?_
      refine z_iload_n (pc' := 46) C dX10_worthTo_45 rfl 3 rfl rfl ?_
      refine z_callVi (q := 0) (i := 0) (w9 := (RX10, TX10, 12)) (pc' := 49) (st := []) (As := [.int a0]) C (sc_X10_hayOf l E σ7 a0 _ h) zwX10_148_X10_hayOf zvX10_148_X10_hayOf.1 zvX10_148_X10_hayOf.2 (zL_mem (by decide) zo0) rfl rfl ⟨(Nat.le_of_ble_eq_true rfl), (Nat.le_of_ble_eq_true rfl)⟩ ⟨Nat.zero_le _, Nat.zero_le _⟩ rfl rfl (Nat.le_of_ble_eq_true rfl) dX10_worthTo_46 rfl (fun r11 σ10 h => ?_)
      refine z_aload_n (pc' := 50) C dX10_worthTo_49 rfl 1 rfl rfl ?_
      refine z_callVi (q := 6) (i := a0.toNatClampNeg) (w9 := (RX0, TX0, 7)) (pc' := 53) (st := [.int r11]) (As := []) C (sc_X0_need l E σ10 a0.toNatClampNeg _ (zin hv1) h) zwX10_145_X0_need zvX10_145_X0_need.1 zvX10_145_X0_need.2 (zL_mem (by decide) (zin hv1)) rfl rfl ⟨(Nat.le_of_ble_eq_true rfl), (Nat.le_of_ble_eq_true rfl)⟩ ⟨Nat.zero_le _, Nat.zero_le _⟩ rfl rfl (Nat.le_of_ble_eq_true rfl) dX10_worthTo_50 rfl (fun r13 σ12 h => ?_)
      obtain ⟨ht, hf⟩ := h
      refine z_icmp_ge (tgt := 62) (pc' := 56) C dX10_worthTo_53 (by decide) rfl (fun c14 => ?_) (fun c14 => ?_)
      · have h := ht c14
        refine z_iload (pc' := 64) C dX10_worthTo_62 0 rfl rfl ?_
        refine z_iconst (v := 0) (pc' := 65) C dX10_worthTo_64 (by decide) rfl ?_
        refine z_mmax (pc' := 68) C zmX10_317 (Nat.le_of_ble_eq_true rfl) (Nat.le_of_ble_eq_true rfl) (Nat.zero_le _) (Nat.zero_le _) dX10_worthTo_65 rfl ?_
        exact z_iret C dX10_worthTo_68 h
      · have h := hf c14
        refine z_iload (pc' := 58) C dX10_worthTo_56 0 rfl rfl ?_
        refine z_iconst (v := 2) (pc' := 59) C dX10_worthTo_58 (by decide) rfl ?_
        refine z_imul (pc' := 60) C dX10_worthTo_59 rfl ?_
        refine z_istore (pc' := 62) (lv' := [(4, .int (((10 * r4) - (5 * r6)) * 2)), (3, .ref (E.2.2 6 a0.toNatClampNeg)), (0, .ref (E.2.2 0 0)), (1, .int a0), (2, .int a1)]) C dX10_worthTo_60 (by decide) rfl rfl ?_
        refine z_iload (pc' := 64) C dX10_worthTo_62 0 rfl rfl ?_
        refine z_iconst (v := 0) (pc' := 65) C dX10_worthTo_64 (by decide) rfl ?_
        refine z_mmax (pc' := 68) C zmX10_317 (Nat.le_of_ble_eq_true rfl) (Nat.le_of_ble_eq_true rfl) (Nat.zero_le _) (Nat.zero_le _) dX10_worthTo_65 rfl ?_
        exact z_iret C dX10_worthTo_68 h
    · have h := hf c9
      refine z_iinc (j := 0) (v := ((10 * r4) - (5 * r6)) + 20) (pc' := 44) (lv' := [(4, .int (((10 * r4) - (5 * r6)) + 20)), (3, .ref (E.2.2 6 a0.toNatClampNeg)), (0, .ref (E.2.2 0 0)), (1, .int a0), (2, .int a1)]) C dX10_worthTo_41 rfl rfl (by decide) rfl rfl ?_
      refine z_aload_n (pc' := 45) C dX10_worthTo_44 rfl 2 rfl rfl ?_
      refine z_iload_n (pc' := 46) C dX10_worthTo_45 rfl 3 rfl rfl ?_
      refine z_callVi (q := 0) (i := 0) (w9 := (RX10, TX10, 12)) (pc' := 49) (st := []) (As := [.int a0]) C (sc_X10_hayOf l E σ7 a0 _ h) zwX10_148_X10_hayOf zvX10_148_X10_hayOf.1 zvX10_148_X10_hayOf.2 (zL_mem (by decide) zo0) rfl rfl ⟨(Nat.le_of_ble_eq_true rfl), (Nat.le_of_ble_eq_true rfl)⟩ ⟨Nat.zero_le _, Nat.zero_le _⟩ rfl rfl (Nat.le_of_ble_eq_true rfl) dX10_worthTo_46 rfl (fun r16 σ15 h => ?_)
      refine z_aload_n (pc' := 50) C dX10_worthTo_49 rfl 1 rfl rfl ?_
      refine z_callVi (q := 6) (i := a0.toNatClampNeg) (w9 := (RX0, TX0, 7)) (pc' := 53) (st := [.int r16]) (As := []) C (sc_X0_need l E σ15 a0.toNatClampNeg _ (zin hv1) h) zwX10_145_X0_need zvX10_145_X0_need.1 zvX10_145_X0_need.2 (zL_mem (by decide) (zin hv1)) rfl rfl ⟨(Nat.le_of_ble_eq_true rfl), (Nat.le_of_ble_eq_true rfl)⟩ ⟨Nat.zero_le _, Nat.zero_le _⟩ rfl rfl (Nat.le_of_ble_eq_true rfl) dX10_worthTo_50 rfl (fun r18 σ17 h => ?_)
      obtain ⟨ht, hf⟩ := h
      refine z_icmp_ge (tgt := 62) (pc' := 56) C dX10_worthTo_53 (by decide) rfl (fun c19 => ?_) (fun c19 => ?_)
      · have h := ht c19
        refine z_iload (pc' := 64) C dX10_worthTo_62 0 rfl rfl ?_
        refine z_iconst (v := 0) (pc' := 65) C dX10_worthTo_64 (by decide) rfl ?_
        refine z_mmax (pc' := 68) C zmX10_317 (Nat.le_of_ble_eq_true rfl) (Nat.le_of_ble_eq_true rfl) (Nat.zero_le _) (Nat.zero_le _) dX10_worthTo_65 rfl ?_
        exact z_iret C dX10_worthTo_68 h
      · have h := hf c19
        refine z_iload (pc' := 58) C dX10_worthTo_56 0 rfl rfl ?_
        refine z_iconst (v := 2) (pc' := 59) C dX10_worthTo_58 (by decide) rfl ?_
        refine z_imul (pc' := 60) C dX10_worthTo_59 rfl ?_
        refine z_istore (pc' := 62) (lv' := [(4, .int ((((10 * r4) - (5 * r6)) + 20) * 2)), (3, .ref (E.2.2 6 a0.toNatClampNeg)), (0, .ref (E.2.2 0 0)), (1, .int a0), (2, .int a1)]) C dX10_worthTo_60 (by decide) rfl rfl ?_
        refine z_iload (pc' := 64) C dX10_worthTo_62 0 rfl rfl ?_
        refine z_iconst (v := 0) (pc' := 65) C dX10_worthTo_64 (by decide) rfl ?_
        refine z_mmax (pc' := 68) C zmX10_317 (Nat.le_of_ble_eq_true rfl) (Nat.le_of_ble_eq_true rfl) (Nat.zero_le _) (Nat.zero_le _) dX10_worthTo_65 rfl ?_
        exact z_iret C dX10_worthTo_68 h
  exact fin
