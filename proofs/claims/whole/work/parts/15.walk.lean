def vc_X11_worth (σ : zMem) (a0 : Int32) (a1 : Int32) (Q : Int32 → zMem → Prop) : Prop := vc_X11_isPlot σ a0 (fun r2 σ1 => ((r2 = 0) → Q ((-1)) σ1) ∧ ((¬ r2 = 0) → vc_X11_isBuyer σ1 a1 (fun r5 σ4 => ((r5 = 0) → Q ((-1)) σ4) ∧ ((¬ r5 = 0) → vc_X11_worthOf σ4 a0 a1 (fun r8 σ7 => Q r8 σ7)))))
set_option maxHeartbeats 4000000 in
set_option maxRecDepth 100000 in
theorem sc_X11_worth (l : Launch) (E : zE) (σ : zMem) (a0 : Int32) (a1 : Int32) (Q : Int32 → zMem → Prop) (h : vc_X11_worth σ a0 a1 Q) : zMi l yX11_worth cX11_worth 3 .int 4 89 E [.ref (E.2.2 22 0), .int a0, .int a1] σ Q := by
  refine zMi_of (by decide) (Nat.le_of_ble_eq_true rfl) ?_
  intro p e s m args below meth c C
  unfold vc_X11_worth at h
  have fin : zG p l e (zRm 4 89) s m args below meth c 3 E 0 0 (MQ below (va_Qi Q (zPost E) (zA E s.heap.size)) args s 0 0 (zA E s.heap.size)) σ 0 [(0, .ref (E.2.2 22 0)), (1, .int a0), (2, .int a1)] [] := by
    refine z_iload_n (pc' := 1) C dX11_worth_0 rfl 1 rfl rfl ?_
    refine z_callSi (pc' := 4) (st := []) (As := [.int a0]) C (sc_X11_isPlot l E σ a0 _ h) zwX11_121_X11_isPlot ztX11_121_X11_isPlot ⟨(Nat.le_of_ble_eq_true rfl), (Nat.le_of_ble_eq_true rfl)⟩ ⟨Nat.zero_le _, Nat.zero_le _⟩ rfl rfl (Nat.le_of_ble_eq_true rfl) dX11_worth_1 rfl (fun r2 σ1 h => ?_)
    obtain ⟨ht, hf⟩ := h
    refine z_if_eq (tgt := 24) (pc' := 7) C dX11_worth_4 (by decide) rfl (fun c3 => ?_) (fun c3 => ?_)
    · have h := ht c3
      refine z_iconst (v := (-1)) (pc' := 25) C dX11_worth_24 (by decide) rfl ?_
      exact z_iret C dX11_worth_25 h
    · have h := hf c3
      refine z_aload_n (pc' := 8) C dX11_worth_7 rfl 0 rfl rfl ?_
      refine z_iload_n (pc' := 9) C dX11_worth_8 rfl 2 rfl rfl ?_
      refine z_callVi (q := 22) (i := 0) (w9 := (RX11, TX11, 40)) (pc' := 12) (st := []) (As := [.int a1]) C (sc_X11_isBuyer l E σ1 a1 _ h) zwX11_126_X11_isBuyer zvX11_126_X11_isBuyer.1 zvX11_126_X11_isBuyer.2 (zL_mem (by decide) zo22) rfl rfl ⟨(Nat.le_of_ble_eq_true rfl), (Nat.le_of_ble_eq_true rfl)⟩ ⟨Nat.zero_le _, Nat.zero_le _⟩ rfl rfl (Nat.le_of_ble_eq_true rfl) dX11_worth_9 rfl (fun r5 σ4 h => ?_)
      obtain ⟨ht, hf⟩ := h
      refine z_if_eq (tgt := 24) (pc' := 15) C dX11_worth_12 (by decide) rfl (fun c6 => ?_) (fun c6 => ?_)
      · have h := ht c6
        refine z_iconst (v := (-1)) (pc' := 25) C dX11_worth_24 (by decide) rfl ?_
        exact z_iret C dX11_worth_25 h
      · have h := hf c6
        refine z_aload_n (pc' := 16) C dX11_worth_15 rfl 0 rfl rfl ?_
        refine z_iload_n (pc' := 17) C dX11_worth_16 rfl 1 rfl rfl ?_
        refine z_iload_n (pc' := 18) C dX11_worth_17 rfl 2 rfl rfl ?_
        refine z_callVi (q := 22) (i := 0) (w9 := (RX11, TX11, 40)) (pc' := 21) (st := []) (As := [.int a0, .int a1]) C (sc_X11_worthOf l E σ4 a0 a1 _ h) zwX11_156_X11_worthOf zvX11_156_X11_worthOf.1 zvX11_156_X11_worthOf.2 (zL_mem (by decide) zo22) rfl rfl ⟨(Nat.le_of_ble_eq_true rfl), (Nat.le_of_ble_eq_true rfl)⟩ ⟨Nat.zero_le _, Nat.zero_le _⟩ rfl rfl (Nat.le_of_ble_eq_true rfl) dX11_worth_18 rfl (fun r8 σ7 h => ?_)
        refine z_goto (tgt := 25) C dX11_worth_21 (by decide) ?_
        exact z_iret C dX11_worth_25 h
  exact fin
def vc_X11_value_2 (x1 : Int32) (Q : zMem → Prop) : Nat → zMem → Int32 → Prop
  | 0, _, _ => False
  | n + 1, σ, x2 => (((σ 22 0 9) ≤ x2) → Q σ) ∧ ((¬ (σ 22 0 9) ≤ x2) → vc_X11_worthOf σ x1 x2 (fun r4 σ3 => vp_in x2 10 ∧ vp_in x2 10 ∧ vc_X11_debt (um σ3 37 0 x2.toNatClampNeg r4) x2 (fun r8 σ7 => vp_in x2 10 ∧ vc_X11_value_2 x1 Q n (um σ7 38 0 x2.toNatClampNeg (((um σ3 37 0 x2.toNatClampNeg r4) 32 0 x2.toNatClampNeg) - r8)) (x2 + 1))))
def vc_X11_value (σ : zMem) (a0 : Int32) (Q : zMem → Prop) : Prop := ∃ n1, vc_X11_value_2 a0 Q n1 σ 0
set_option maxHeartbeats 4000000 in
set_option maxRecDepth 100000 in
theorem sl_X11_value_2 {p : Program} {l : Launch} {e : Env} {s : State} {m : MethodId} {args : Array Value} {below : List Frame} {meth : Method} {c : Code} {E : zE} (C : zX p s m args meth c cX11_value 3 RX11 none E) (x1 : Int32) (Q : zMem → Prop) : ∀ (n : Nat) (σ : zMem) (x2 : Int32), vc_X11_value_2 x1 Q n σ x2 → zG p l e (zRm 4 89) s m args below meth c 3 E 0 0 (MQ below (va_Qv Q (zPost E) (zA E s.heap.size)) args s 0 0 (zA E s.heap.size)) σ 2 [(0, .ref (E.2.2 22 0)), (1, .int x1), (2, .int x2)] [] := by
  intro n
  induction n with
  | zero =>
    intro σ x2 h
    exact False.elim h
  | succ n ih =>
    intro σ x2 h
    rw [vc_X11_value_2] at h
    refine z_iload_n (pc' := 3) C dX11_value_2 rfl 2 rfl rfl ?_
    refine z_aload_n (pc' := 4) C dX11_value_3 rfl 0 rfl rfl ?_
    refine zgX11_118 (pc' := 7) C zo22 dX11_value_4 rfl ?_
    obtain ⟨ht, hf⟩ := h
    refine z_icmp_ge (tgt := 46) (pc' := 10) C dX11_value_7 (by decide) rfl (fun c2 => ?_) (fun c2 => ?_)
    · have h := ht c2
      exact z_vret C dX11_value_46 h
    · have h := hf c2
      refine z_aload_n (pc' := 11) C dX11_value_10 rfl 0 rfl rfl ?_
      refine zgX11_57 (pc' := 14) C zo22 dX11_value_11 rfl ?_
      refine z_iload_n (pc' := 15) C dX11_value_14 rfl 2 rfl rfl ?_
      refine z_aload_n (pc' := 16) C dX11_value_15 rfl 0 rfl rfl ?_
      refine z_iload_n (pc' := 17) C dX11_value_16 rfl 1 rfl rfl ?_
      refine z_iload_n (pc' := 18) C dX11_value_17 rfl 2 rfl rfl ?_
      refine z_callVi (q := 22) (i := 0) (w9 := (RX11, TX11, 40)) (pc' := 21) (st := [.int x2, .ref (E.2.2 37 0)]) (As := [.int x1, .int x2]) C (sc_X11_worthOf l E σ x1 x2 _ h) zwX11_156_X11_worthOf zvX11_156_X11_worthOf.1 zvX11_156_X11_worthOf.2 (zL_mem (by decide) zo22) rfl rfl ⟨(Nat.le_of_ble_eq_true rfl), (Nat.le_of_ble_eq_true rfl)⟩ ⟨Nat.zero_le _, Nat.zero_le _⟩ rfl rfl (Nat.le_of_ble_eq_true rfl) dX11_value_18 rfl (fun r4 σ3 h => ?_)
      obtain ⟨hv5, h⟩ := h
      refine z_iast (n := 10) (pc' := 22) C (zL_mem (by decide) zo37) (fun _ => rfl) hv5 dX11_value_21 rfl ?_
      refine z_aload_n (pc' := 23) C dX11_value_22 rfl 0 rfl rfl ?_
      refine zgX11_60 (pc' := 26) C zo22 dX11_value_23 rfl ?_
      refine z_iload_n (pc' := 27) C dX11_value_26 rfl 2 rfl rfl ?_
      refine z_aload_n (pc' := 28) C dX11_value_27 rfl 0 rfl rfl ?_
      refine zgX11_38 (pc' := 31) C zo22 dX11_value_28 rfl ?_
      refine z_iload_n (pc' := 32) C dX11_value_31 rfl 2 rfl rfl ?_
      obtain ⟨hv6, h⟩ := h
      refine z_iald (n := 10) (pc' := 33) C (zL_mem (by decide) zo32) (fun _ => rfl) hv6 dX11_value_32 rfl ?_
      refine z_aload_n (pc' := 34) C dX11_value_33 rfl 0 rfl rfl ?_
      refine z_iload_n (pc' := 35) C dX11_value_34 rfl 2 rfl rfl ?_
      refine z_callVi (q := 22) (i := 0) (w9 := (RX11, TX11, 40)) (pc' := 38) (st := [.int ((um σ3 37 0 x2.toNatClampNeg r4) 32 0 x2.toNatClampNeg), .int x2, .ref (E.2.2 38 0)]) (As := [.int x2]) C (sc_X11_debt l E (um σ3 37 0 x2.toNatClampNeg r4) x2 _ h) zwX11_146_X11_debt zvX11_146_X11_debt.1 zvX11_146_X11_debt.2 (zL_mem (by decide) zo22) rfl rfl ⟨(Nat.le_of_ble_eq_true rfl), (Nat.le_of_ble_eq_true rfl)⟩ ⟨Nat.zero_le _, Nat.zero_le _⟩ rfl rfl (Nat.le_of_ble_eq_true rfl) dX11_value_35 rfl (fun r8 σ7 h => ?_)
      refine z_isub (pc' := 39) C dX11_value_38 rfl ?_
      obtain ⟨hv9, h⟩ := h
      refine z_iast (n := 10) (pc' := 40) C (zL_mem (by decide) zo38) (fun _ => rfl) hv9 dX11_value_39 rfl ?_
      refine z_iinc (j := 2) (v := x2 + 1) (pc' := 43) (lv' := [(2, .int (x2 + 1)), (0, .ref (E.2.2 22 0)), (1, .int x1)]) C dX11_value_40 rfl rfl (by decide) rfl rfl ?_
      refine z_goto (tgt := 2) C dX11_value_43 (by decide) ?_
      refine z_sub (lv' := [(0, .ref (E.2.2 22 0)), (1, .int x1), (2, .int (x2 + 1))]) [1, 2, 0] rfl ?_
      exact ih _ _ h
set_option maxHeartbeats 4000000 in
set_option maxRecDepth 100000 in
theorem sc_X11_value (l : Launch) (E : zE) (σ : zMem) (a0 : Int32) (Q : zMem → Prop) (h : vc_X11_value σ a0 Q) : zMv l yX11_value cX11_value 3 4 89 E [.ref (E.2.2 22 0), .int a0] σ Q := by
  refine zMv_of (by decide) (Nat.le_of_ble_eq_true rfl) ?_
  intro p e s m args below meth c C
  unfold vc_X11_value at h
  have fin : zG p l e (zRm 4 89) s m args below meth c 3 E 0 0 (MQ below (va_Qv Q (zPost E) (zA E s.heap.size)) args s 0 0 (zA E s.heap.size)) σ 0 [(0, .ref (E.2.2 22 0)), (1, .int a0)] [] := by
    refine z_iconst (v := 0) (pc' := 1) C dX11_value_0 (by decide) rfl ?_
    refine z_istore_n (pc' := 2) (lv' := [(2, .int 0), (0, .ref (E.2.2 22 0)), (1, .int a0)]) C dX11_value_1 rfl (by decide) rfl rfl ?_
    obtain ⟨n1, h⟩ := h
    refine z_sub (lv' := [(0, .ref (E.2.2 22 0)), (1, .int a0), (2, .int 0)]) [1, 2, 0] rfl ?_
    exact sl_X11_value_2 C a0 Q n1 _ _ h
  exact fin
def vc_X11_burn_11 (x1 : Int32) (x2 : Int32) (Q : Int32 → zMem → Prop) : Nat → zMem → Int32 → Int32 → Prop
  | 0, _, _, _ => False
  | n + 1, σ, x3, x4 => ((x1 ≤ x4) → Q x3 σ) ∧ ((¬ x1 ≤ x4) → (¬ σ 22 0 9 = 0) ∧ ((((x2 + x4) - (x2 + x4) / (σ 22 0 9) * (σ 22 0 9)) = x3) → vc_X11_burn_11 x1 x2 Q n σ x3 (x4 + 1)) ∧ ((¬ ((x2 + x4) - (x2 + x4) / (σ 22 0 9) * (σ 22 0 9)) = x3) → vp_in ((x2 + x4) - (x2 + x4) / (σ 22 0 9) * (σ 22 0 9)) 10 ∧ (((σ 37 0 ((x2 + x4) - (x2 + x4) / (σ 22 0 9) * (σ 22 0 9)).toNatClampNeg) < ((σ 22 0 19) + (σ 22 0 16))) → vc_X11_burn_11 x1 x2 Q n σ x3 (x4 + 1)) ∧ ((¬ (σ 37 0 ((x2 + x4) - (x2 + x4) / (σ 22 0 9) * (σ 22 0 9)).toNatClampNeg) < ((σ 22 0 19) + (σ 22 0 16))) → vp_in ((x2 + x4) - (x2 + x4) / (σ 22 0 9) * (σ 22 0 9)) 10 ∧ (((σ 38 0 ((x2 + x4) - (x2 + x4) / (σ 22 0 9) * (σ 22 0 9)).toNatClampNeg) < ((σ 22 0 19) + (σ 22 0 16))) → vc_X11_burn_11 x1 x2 Q n σ x3 (x4 + 1)) ∧ ((¬ (σ 38 0 ((x2 + x4) - (x2 + x4) / (σ 22 0 9) * (σ 22 0 9)).toNatClampNeg) < ((σ 22 0 19) + (σ 22 0 16))) → vp_in ((x2 + x4) - (x2 + x4) / (σ 22 0 9) * (σ 22 0 9)) 10 ∧ (((σ 34 0 ((x2 + x4) - (x2 + x4) / (σ 22 0 9) * (σ 22 0 9)).toNatClampNeg) = 0) → vc_X11_burn_11 x1 x2 Q n (um σ 22 0 19 ((σ 22 0 19) + (σ 22 0 16))) ((x2 + x4) - (x2 + x4) / (σ 22 0 9) * (σ 22 0 9)) (x4 + 1)) ∧ ((¬ (σ 34 0 ((x2 + x4) - (x2 + x4) / (σ 22 0 9) * (σ 22 0 9)).toNatClampNeg) = 0) → (((x1 - x4) ≤ (3 * (σ 22 0 9))) → vc_X11_burn_11 x1 x2 Q n (um σ 22 0 19 ((σ 22 0 19) + (σ 22 0 16))) ((x2 + x4) - (x2 + x4) / (σ 22 0 9) * (σ 22 0 9)) (x4 + 1)) ∧ ((¬ (x1 - x4) ≤ (3 * (σ 22 0 9))) → vc_X11_burn_11 x1 x2 Q n σ x3 (x4 + 1)))))))
def vc_X11_burn (σ : zMem) (a0 : Int32) (a1 : Int32) (Q : Int32 → zMem → Prop) : Prop := ∃ n1, vc_X11_burn_11 a0 a1 Q n1 (um σ 22 0 19 0) ((-4)) 0
set_option maxHeartbeats 4000000 in
set_option maxRecDepth 100000 in
theorem sl_X11_burn_11 {p : Program} {l : Launch} {e : Env} {s : State} {m : MethodId} {args : Array Value} {below : List Frame} {meth : Method} {c : Code} {E : zE} (C : zX p s m args meth c cX11_burn 7 RX11 (some .int) E) (x1 : Int32) (x2 : Int32) (Q : Int32 → zMem → Prop) : ∀ (n : Nat) (σ : zMem) (x3 : Int32) (x4 : Int32), vc_X11_burn_11 x1 x2 Q n σ x3 x4 → zG p l e (zRm 0 0) s m args below meth c 7 E 0 0 (MQ below (va_Qi Q (zPost E) (zA E s.heap.size)) args s 0 0 (zA E s.heap.size)) σ 11 [(0, .ref (E.2.2 22 0)), (1, .int x1), (2, .int x2), (3, .int x3), (4, .int x4)] [] := by
  intro n
  induction n with
  | zero =>
    intro σ x3 x4 h
    exact False.elim h
  | succ n ih =>
    intro σ x3 x4 h
    rw [vc_X11_burn_11] at h
    refine z_iload (pc' := 13) C dX11_burn_11 4 rfl rfl ?_
    refine z_iload_n (pc' := 14) C dX11_burn_13 rfl 1 rfl rfl ?_
    obtain ⟨ht, hf⟩ := h
    refine z_icmp_ge (tgt := 110) (pc' := 17) C dX11_burn_14 (by decide) rfl (fun c2 => ?_) (fun c2 => ?_)
    · have h := ht c2
      refine z_iload_n (pc' := 111) C dX11_burn_110 rfl 3 rfl rfl ?_
      exact z_iret C dX11_burn_111 h
    · have h := hf c2
      refine z_iload_n (pc' := 18) C dX11_burn_17 rfl 2 rfl rfl ?_
      refine z_iload (pc' := 20) C dX11_burn_18 4 rfl rfl ?_
      refine z_iadd (pc' := 21) C dX11_burn_20 rfl ?_
      refine z_aload_n (pc' := 22) C dX11_burn_21 rfl 0 rfl rfl ?_
      refine zgX11_118 (pc' := 25) C zo22 dX11_burn_22 rfl ?_
      obtain ⟨hz3, h⟩ := h
      refine z_irem (pc' := 26) C dX11_burn_25 hz3 rfl ?_
      refine z_istore (pc' := 28) (lv' := [(5, .int ((x2 + x4) - (x2 + x4) / (σ 22 0 9) * (σ 22 0 9))), (0, .ref (E.2.2 22 0)), (1, .int x1), (2, .int x2), (3, .int x3), (4, .int x4)]) C dX11_burn_26 (by decide) rfl rfl ?_
      refine z_aload_n (pc' := 29) C dX11_burn_28 rfl 1 rfl rfl ?_
      refine zgX11_159 (pc' := 32) C zo22 dX11_burn_29 rfl ?_
      refine z_aload_n (pc' := 33) C dX11_burn_32 rfl 1 rfl rfl ?_
      refine zgX11_53 (pc' := 36) C zo22 dX11_burn_33 rfl ?_
      refine z_iadd (pc' := 37) C dX11_burn_36 rfl ?_
      refine z_istore (pc' := 39) (lv' := [(6, .int ((σ 22 0 19) + (σ 22 0 16))), (5, .int ((x2 + x4) - (x2 + x4) / (σ 22 0 9) * (σ 22 0 9))), (0, .ref (E.2.2 22 0)), (1, .int x1), (2, .int x2), (3, .int x3), (4, .int x4)]) C dX11_burn_37 (by decide) rfl rfl ?_
      refine z_iload (pc' := 41) C dX11_burn_39 1 rfl rfl ?_
      refine z_iload_n (pc' := 42) C dX11_burn_41 rfl 5 rfl rfl ?_
      obtain ⟨ht, hf⟩ := h
      refine z_icmp_eq (tgt := 104) (pc' := 45) C dX11_burn_42 (by decide) rfl (fun c4 => ?_) (fun c4 => ?_)
      · have h := ht c4
        refine z_iinc (j := 6) (v := x4 + 1) (pc' := 107) (lv' := [(4, .int (x4 + 1)), (6, .int ((σ 22 0 19) + (σ 22 0 16))), (5, .int ((x2 + x4) - (x2 + x4) / (σ 22 0 9) * (σ 22 0 9))), (0, .ref (E.2.2 22 0)), (1, .int x1), (2, .int x2), (3, .int x3)]) C dX11_burn_104 rfl rfl (by decide) rfl rfl ?_
        refine z_goto (tgt := 11) C dX11_burn_107 (by decide) ?_
        refine z_sub (lv' := [(0, .ref (E.2.2 22 0)), (1, .int x1), (2, .int x2), (3, .int x3), (4, .int (x4 + 1))]) [3, 4, 5, 6, 0] rfl ?_
        exact ih _ _ _ h
      · have h := hf c4
        refine z_iload (pc' := 47) C dX11_burn_45 0 rfl rfl ?_
        refine z_aload_n (pc' := 48) C dX11_burn_47 rfl 2 rfl rfl ?_
        refine zgX11_57 (pc' := 51) C zo22 dX11_burn_48 rfl ?_
        refine z_iload (pc' := 53) C dX11_burn_51 1 rfl rfl ?_
        obtain ⟨hv5, h⟩ := h
        refine z_iald (n := 10) (pc' := 54) C (zL_mem (by decide) zo37) (fun _ => rfl) hv5 dX11_burn_53 rfl ?_
        obtain ⟨ht, hf⟩ := h
        refine z_icmp_gt (tgt := 104) (pc' := 57) C dX11_burn_54 (by decide) rfl (fun c6 => ?_) (fun c6 => ?_)
        · have h := ht c6
          refine z_iinc (j := 6) (v := x4 + 1) (pc' := 107) (lv' := [(4, .int (x4 + 1)), (6, .int ((σ 22 0 19) + (σ 22 0 16))), (5, .int ((x2 + x4) - (x2 + x4) / (σ 22 0 9) * (σ 22 0 9))), (0, .ref (E.2.2 22 0)), (1, .int x1), (2, .int x2), (3, .int x3)]) C dX11_burn_104 rfl rfl (by decide) rfl rfl ?_
          refine z_goto (tgt := 11) C dX11_burn_107 (by decide) ?_
          refine z_sub (lv' := [(0, .ref (E.2.2 22 0)), (1, .int x1), (2, .int x2), (3, .int x3), (4, .int (x4 + 1))]) [3, 4, 5, 6, 0] rfl ?_
          exact ih _ _ _ h
        · have h := hf c6
          refine z_iload (pc' := 59) C dX11_burn_57 0 rfl rfl ?_
          refine z_aload_n (pc' := 60) C dX11_burn_59 rfl 2 rfl rfl ?_
          refine zgX11_60 (pc' := 63) C zo22 dX11_burn_60 rfl ?_
          refine z_iload (pc' := 65) C dX11_burn_63 1 rfl rfl ?_
          obtain ⟨hv7, h⟩ := h
          refine z_iald (n := 10) (pc' := 66) C (zL_mem (by decide) zo38) (fun _ => rfl) hv7 dX11_burn_65 rfl ?_
          obtain ⟨ht, hf⟩ := h
          refine z_icmp_gt (tgt := 104) (pc' := 69) C dX11_burn_66 (by decide) rfl (fun c8 => ?_) (fun c8 => ?_)
          · have h := ht c8
            refine z_iinc (j := 6) (v := x4 + 1) (pc' := 107) (lv' := [(4, .int (x4 + 1)), (6, .int ((σ 22 0 19) + (σ 22 0 16))), (5, .int ((x2 + x4) - (x2 + x4) / (σ 22 0 9) * (σ 22 0 9))), (0, .ref (E.2.2 22 0)), (1, .int x1), (2, .int x2), (3, .int x3)]) C dX11_burn_104 rfl rfl (by decide) rfl rfl ?_
            refine z_goto (tgt := 11) C dX11_burn_107 (by decide) ?_
            refine z_sub (lv' := [(0, .ref (E.2.2 22 0)), (1, .int x1), (2, .int x2), (3, .int x3), (4, .int (x4 + 1))]) [3, 4, 5, 6, 0] rfl ?_
            exact ih _ _ _ h
          · have h := hf c8
            refine z_aload_n (pc' := 70) C dX11_burn_69 rfl 2 rfl rfl ?_
            refine zgX11_44 (pc' := 73) C zo22 dX11_burn_70 rfl ?_
            refine z_iload (pc' := 75) C dX11_burn_73 1 rfl rfl ?_
            obtain ⟨hv9, h⟩ := h
            refine z_zald (n := 10) (pc' := 76) C (zL_mem (by decide) zo34) (fun _ => rfl) hv9 dX11_burn_75 rfl ?_
            obtain ⟨ht, hf⟩ := h
            refine z_if_eq (tgt := 95) (pc' := 79) C dX11_burn_76 (by decide) rfl (fun c10 => ?_) (fun c10 => ?_)
            · have h := ht c10
              refine z_iload (pc' := 97) C dX11_burn_95 1 rfl rfl ?_
              refine z_istore_n (pc' := 98) (lv' := [(3, .int ((x2 + x4) - (x2 + x4) / (σ 22 0 9) * (σ 22 0 9))), (6, .int ((σ 22 0 19) + (σ 22 0 16))), (5, .int ((x2 + x4) - (x2 + x4) / (σ 22 0 9) * (σ 22 0 9))), (0, .ref (E.2.2 22 0)), (1, .int x1), (2, .int x2), (4, .int x4)]) C dX11_burn_97 rfl (by decide) rfl rfl ?_
              refine z_aload_n (pc' := 99) C dX11_burn_98 rfl 3 rfl rfl ?_
              refine z_iload (pc' := 101) C dX11_burn_99 1 rfl rfl ?_
              refine zpX11_159 (pc' := 104) C zo22 dX11_burn_101 rfl ?_
              refine z_iinc (j := 6) (v := x4 + 1) (pc' := 107) (lv' := [(4, .int (x4 + 1)), (3, .int ((x2 + x4) - (x2 + x4) / (σ 22 0 9) * (σ 22 0 9))), (6, .int ((σ 22 0 19) + (σ 22 0 16))), (5, .int ((x2 + x4) - (x2 + x4) / (σ 22 0 9) * (σ 22 0 9))), (0, .ref (E.2.2 22 0)), (1, .int x1), (2, .int x2)]) C dX11_burn_104 rfl rfl (by decide) rfl rfl ?_
              refine z_goto (tgt := 11) C dX11_burn_107 (by decide) ?_
              refine z_sub (lv' := [(0, .ref (E.2.2 22 0)), (1, .int x1), (2, .int x2), (3, .int ((x2 + x4) - (x2 + x4) / (σ 22 0 9) * (σ 22 0 9))), (4, .int (x4 + 1))]) [4, 5, 6, 1, 0] rfl ?_
              exact ih _ _ _ h
            · have h := hf c10
              refine z_iload_n (pc' := 80) C dX11_burn_79 rfl 3 rfl rfl ?_
              refine z_iload (pc' := 82) C dX11_burn_80 6 rfl rfl ?_
              refine z_isub (pc' := 83) C dX11_burn_82 rfl ?_
              refine z_iconst (v := 3) (pc' := 84) C dX11_burn_83 (by decide) rfl ?_
              refine z_aload_n (pc' := 85) C dX11_burn_84 rfl 2 rfl rfl ?_
              refine zgX11_118 (pc' := 88) C zo22 dX11_burn_85 rfl ?_
              refine z_imul (pc' := 89) C dX11_burn_88 rfl ?_
              obtain ⟨ht, hf⟩ := h
              refine z_icmp_le (tgt := 95) (pc' := 92) C dX11_burn_89 (by decide) rfl (fun c11 => ?_) (fun c11 => ?_)
              · have h := ht c11
                refine z_iload (pc' := 97) C dX11_burn_95 1 rfl rfl ?_
                refine z_istore_n (pc' := 98) (lv' := [(3, .int ((x2 + x4) - (x2 + x4) / (σ 22 0 9) * (σ 22 0 9))), (6, .int ((σ 22 0 19) + (σ 22 0 16))), (5, .int ((x2 + x4) - (x2 + x4) / (σ 22 0 9) * (σ 22 0 9))), (0, .ref (E.2.2 22 0)), (1, .int x1), (2, .int x2), (4, .int x4)]) C dX11_burn_97 rfl (by decide) rfl rfl ?_
                refine z_aload_n (pc' := 99) C dX11_burn_98 rfl 3 rfl rfl ?_
                refine z_iload (pc' := 101) C dX11_burn_99 1 rfl rfl ?_
                refine zpX11_159 (pc' := 104) C zo22 dX11_burn_101 rfl ?_
                refine z_iinc (j := 6) (v := x4 + 1) (pc' := 107) (lv' := [(4, .int (x4 + 1)), (3, .int ((x2 + x4) - (x2 + x4) / (σ 22 0 9) * (σ 22 0 9))), (6, .int ((σ 22 0 19) + (σ 22 0 16))), (5, .int ((x2 + x4) - (x2 + x4) / (σ 22 0 9) * (σ 22 0 9))), (0, .ref (E.2.2 22 0)), (1, .int x1), (2, .int x2)]) C dX11_burn_104 rfl rfl (by decide) rfl rfl ?_
                refine z_goto (tgt := 11) C dX11_burn_107 (by decide) ?_
                refine z_sub (lv' := [(0, .ref (E.2.2 22 0)), (1, .int x1), (2, .int x2), (3, .int ((x2 + x4) - (x2 + x4) / (σ 22 0 9) * (σ 22 0 9))), (4, .int (x4 + 1))]) [4, 5, 6, 1, 0] rfl ?_
                exact ih _ _ _ h
              · have h := hf c11
                refine z_goto (tgt := 104) C dX11_burn_92 (by decide) ?_
                refine z_iinc (j := 6) (v := x4 + 1) (pc' := 107) (lv' := [(4, .int (x4 + 1)), (6, .int ((σ 22 0 19) + (σ 22 0 16))), (5, .int ((x2 + x4) - (x2 + x4) / (σ 22 0 9) * (σ 22 0 9))), (0, .ref (E.2.2 22 0)), (1, .int x1), (2, .int x2), (3, .int x3)]) C dX11_burn_104 rfl rfl (by decide) rfl rfl ?_
                refine z_goto (tgt := 11) C dX11_burn_107 (by decide) ?_
                refine z_sub (lv' := [(0, .ref (E.2.2 22 0)), (1, .int x1), (2, .int x2), (3, .int x3), (4, .int (x4 + 1))]) [3, 4, 5, 6, 0] rfl ?_
                exact ih _ _ _ h
set_option maxHeartbeats 4000000 in
set_option maxRecDepth 100000 in
theorem sc_X11_burn (l : Launch) (E : zE) (σ : zMem) (a0 : Int32) (a1 : Int32) (Q : Int32 → zMem → Prop) (h : vc_X11_burn σ a0 a1 Q) : zMi l yX11_burn cX11_burn 7 .int 0 0 E [.ref (E.2.2 22 0), .int a0, .int a1] σ Q := by
  refine zMi_of (by decide) (Nat.le_of_ble_eq_true rfl) ?_
  intro p e s m args below meth c C
  unfold vc_X11_burn at h
  have fin : zG p l e (zRm 0 0) s m args below meth c 7 E 0 0 (MQ below (va_Qi Q (zPost E) (zA E s.heap.size)) args s 0 0 (zA E s.heap.size)) σ 0 [(0, .ref (E.2.2 22 0)), (1, .int a0), (2, .int a1)] [] := by
    refine z_bipush (v := (-4)) (pc' := 2) C dX11_burn_0 (by decide) rfl ?_
    refine z_istore_n (pc' := 3) (lv' := [(3, .int ((-4))), (0, .ref (E.2.2 22 0)), (1, .int a0), (2, .int a1)]) C dX11_burn_2 rfl (by decide) rfl rfl ?_
    refine z_aload_n (pc' := 4) C dX11_burn_3 rfl 1 rfl rfl ?_
    refine z_iconst (v := 0) (pc' := 5) C dX11_burn_4 (by decide) rfl ?_
    refine zpX11_159 (pc' := 8) C zo22 dX11_burn_5 rfl ?_
    refine z_iconst (v := 0) (pc' := 9) C dX11_burn_8 (by decide) rfl ?_
    refine z_istore (pc' := 11) (lv' := [(4, .int 0), (3, .int ((-4))), (0, .ref (E.2.2 22 0)), (1, .int a0), (2, .int a1)]) C dX11_burn_9 (by decide) rfl rfl ?_
    obtain ⟨n1, h⟩ := h
    refine z_sub (lv' := [(0, .ref (E.2.2 22 0)), (1, .int a0), (2, .int a1), (3, .int ((-4))), (4, .int 0)]) [2, 3, 4, 1, 0] rfl ?_
    exact sl_X11_burn_11 C a0 a1 Q n1 _ _ _ h
  exact fin
def vc_X11_capOf (σ : zMem) (a0 : Int32) (Q : Int32 → zMem → Prop) : Prop := vp_in a0 10 ∧ vp_in a0 10 ∧ (((σ 38 0 a0.toNatClampNeg) ≤ (σ 37 0 a0.toNatClampNeg)) → vp_in a0 10 ∧ Q (σ 38 0 a0.toNatClampNeg) σ) ∧ ((¬ (σ 38 0 a0.toNatClampNeg) ≤ (σ 37 0 a0.toNatClampNeg)) → vp_in a0 10 ∧ Q (σ 37 0 a0.toNatClampNeg) σ)
set_option maxHeartbeats 4000000 in
set_option maxRecDepth 100000 in
theorem sc_X11_capOf (l : Launch) (E : zE) (σ : zMem) (a0 : Int32) (Q : Int32 → zMem → Prop) (h : vc_X11_capOf σ a0 Q) : zMi l yX11_capOf cX11_capOf 2 .int 0 0 E [.ref (E.2.2 22 0), .int a0] σ Q := by
  refine zMi_of (by decide) (Nat.le_of_ble_eq_true rfl) ?_
  intro p e s m args below meth c C
  unfold vc_X11_capOf at h
  have fin : zG p l e (zRm 0 0) s m args below meth c 2 E 0 0 (MQ below (va_Qi Q (zPost E) (zA E s.heap.size)) args s 0 0 (zA E s.heap.size)) σ 0 [(0, .ref (E.2.2 22 0)), (1, .int a0)] [] := by
    refine z_aload_n (pc' := 1) C dX11_capOf_0 rfl 0 rfl rfl ?_
    refine zgX11_57 (pc' := 4) C zo22 dX11_capOf_1 rfl ?_
    refine z_iload_n (pc' := 5) C dX11_capOf_4 rfl 1 rfl rfl ?_
    obtain ⟨hv1, h⟩ := h
    refine z_iald (n := 10) (pc' := 6) C (zL_mem (by decide) zo37) (fun _ => rfl) hv1 dX11_capOf_5 rfl ?_
    refine z_aload_n (pc' := 7) C dX11_capOf_6 rfl 0 rfl rfl ?_
    refine zgX11_60 (pc' := 10) C zo22 dX11_capOf_7 rfl ?_
    refine z_iload_n (pc' := 11) C dX11_capOf_10 rfl 1 rfl rfl ?_
    obtain ⟨hv2, h⟩ := h
    refine z_iald (n := 10) (pc' := 12) C (zL_mem (by decide) zo38) (fun _ => rfl) hv2 dX11_capOf_11 rfl ?_
    obtain ⟨ht, hf⟩ := h
    refine z_icmp_ge (tgt := 24) (pc' := 15) C dX11_capOf_12 (by decide) rfl (fun c3 => ?_) (fun c3 => ?_)
    · have h := ht c3
      refine z_aload_n (pc' := 25) C dX11_capOf_24 rfl 0 rfl rfl ?_
      refine zgX11_60 (pc' := 28) C zo22 dX11_capOf_25 rfl ?_
      refine z_iload_n (pc' := 29) C dX11_capOf_28 rfl 1 rfl rfl ?_
      obtain ⟨hv4, h⟩ := h
      refine z_iald (n := 10) (pc' := 30) C (zL_mem (by decide) zo38) (fun _ => rfl) hv4 dX11_capOf_29 rfl ?_
      exact z_iret C dX11_capOf_30 h
    · have h := hf c3
      refine z_aload_n (pc' := 16) C dX11_capOf_15 rfl 0 rfl rfl ?_
      refine zgX11_57 (pc' := 19) C zo22 dX11_capOf_16 rfl ?_
      refine z_iload_n (pc' := 20) C dX11_capOf_19 rfl 1 rfl rfl ?_
      obtain ⟨hv5, h⟩ := h
      refine z_iald (n := 10) (pc' := 21) C (zL_mem (by decide) zo37) (fun _ => rfl) hv5 dX11_capOf_20 rfl ?_
      refine z_goto (tgt := 30) C dX11_capOf_21 (by decide) ?_
      exact z_iret C dX11_capOf_30 h
  exact fin
def vc_X11_lotFor_80 (Q : Int32 → zMem → Prop) : Nat → zMem → Int32 → Int32 → Prop
  | 0, _, _, _ => False
  | n + 1, σ, x1, x2 => (((σ 22 0 9) ≤ x2) → vc_X11_capOf σ (σ 22 0 20) (fun r7 σ6 => ((r7 ≤ (x1 + (σ 22 0 16))) → vc_X11_capOf σ6 (σ6 22 0 20) (fun r10 σ9 => Q r10 σ9)) ∧ ((¬ r7 ≤ (x1 + (σ 22 0 16))) → Q (x1 + (σ 22 0 16)) σ6))) ∧ ((¬ (σ 22 0 9) ≤ x2) → ((x2 = (σ 22 0 20)) → vc_X11_lotFor_80 Q n σ x1 (x2 + 1)) ∧ ((¬ x2 = (σ 22 0 20)) → vc_X11_capOf σ x2 (fun r13 σ12 => ((r13 < (σ12 22 0 16)) → vc_X11_lotFor_80 Q n σ12 x1 (x2 + 1)) ∧ ((¬ r13 < (σ12 22 0 16)) → vc_X11_capOf σ12 x2 (fun r16 σ15 => ((r16 ≤ x1) → vc_X11_lotFor_80 Q n σ15 x1 (x2 + 1)) ∧ ((¬ r16 ≤ x1) → vc_X11_capOf σ15 x2 (fun r19 σ18 => vc_X11_lotFor_80 Q n σ18 r19 (x2 + 1))))))))
def vc_X11_lotFor_8 (Q : Int32 → zMem → Prop) : Nat → zMem → Int32 → Prop
  | 0, _, _ => False
  | n + 1, σ, x1 => (((σ 22 0 9) ≤ x1) → ((¬ (σ 22 0 20) = ((-4))) → ∃ n4, vc_X11_lotFor_80 Q n4 σ 0 0) ∧ (((σ 22 0 20) = ((-4))) → Q ((-4)) σ)) ∧ ((¬ (σ 22 0 9) ≤ x1) → vc_X11_capOf σ x1 (fun r21 σ20 => ((r21 < (σ20 22 0 16)) → vc_X11_lotFor_8 Q n σ20 (x1 + 1)) ∧ ((¬ r21 < (σ20 22 0 16)) → (((σ20 22 0 20) = ((-4))) → vc_X11_lotFor_8 Q n (um σ20 22 0 20 x1) (x1 + 1)) ∧ ((¬ (σ20 22 0 20) = ((-4))) → vc_X11_capOf σ20 x1 (fun r25 σ24 => vc_X11_capOf σ24 (σ24 22 0 20) (fun r27 σ26 => ((r25 ≤ r27) → vc_X11_lotFor_8 Q n σ26 (x1 + 1)) ∧ ((¬ r25 ≤ r27) → vc_X11_lotFor_8 Q n (um σ26 22 0 20 x1) (x1 + 1))))))))
def vc_X11_lotFor (σ : zMem) (Q : Int32 → zMem → Prop) : Prop := ∃ n1, vc_X11_lotFor_8 Q n1 (um σ 22 0 20 ((-4))) 0
set_option maxHeartbeats 4000000 in
set_option maxRecDepth 100000 in
theorem sl_X11_lotFor_80 {p : Program} {l : Launch} {e : Env} {s : State} {m : MethodId} {args : Array Value} {below : List Frame} {meth : Method} {c : Code} {E : zE} (C : zX p s m args meth c cX11_lotFor 3 RX11 (some .int) E) (Q : Int32 → zMem → Prop) : ∀ (n : Nat) (σ : zMem) (x1 : Int32) (x2 : Int32), vc_X11_lotFor_80 Q n σ x1 x2 → zG p l e (zRm 1 21) s m args below meth c 3 E 0 0 (MQ below (va_Qi Q (zPost E) (zA E s.heap.size)) args s 0 0 (zA E s.heap.size)) σ 80 [(0, .ref (E.2.2 22 0)), (1, .int x1), (2, .int x2)] [] := by
  intro n
  induction n with
  | zero =>
    intro σ x1 x2 h
    exact False.elim h
  | succ n ih =>
    intro σ x1 x2 h
    rw [vc_X11_lotFor_80] at h
    refine z_iload_n (pc' := 81) C dX11_lotFor_80 rfl 2 rfl rfl ?_
    refine z_aload_n (pc' := 82) C dX11_lotFor_81 rfl 0 rfl rfl ?_
    refine zgX11_118 (pc' := 85) C zo22 dX11_lotFor_82 rfl ?_
    obtain ⟨ht, hf⟩ := h
    refine z_icmp_ge (tgt := 129) (pc' := 88) C dX11_lotFor_85 (by decide) rfl (fun c5 => ?_) (fun c5 => ?_)
    · have h := ht c5
      refine z_iload_n (pc' := 130) C dX11_lotFor_129 rfl 1 rfl rfl ?_
      refine z_aload_n (pc' := 131) C dX11_lotFor_130 rfl 0 rfl rfl ?_
      refine zgX11_53 (pc' := 134) C zo22 dX11_lotFor_131 rfl ?_
      refine z_iadd (pc' := 135) C dX11_lotFor_134 rfl ?_
      refine z_istore_n (pc' := 136) (lv' := [(2, .int (x1 + (σ 22 0 16))), (0, .ref (E.2.2 22 0)), (1, .int x1)]) C dX11_lotFor_135 rfl (by decide) rfl rfl ?_
      refine z_iload_n (pc' := 137) C dX11_lotFor_136 rfl 0 rfl rfl ?_
      refine z_aload_n (pc' := 138) C dX11_lotFor_137 rfl 1 rfl rfl ?_
      refine z_aload_n (pc' := 139) C dX11_lotFor_138 rfl 1 rfl rfl ?_
      refine zgX11_162 (pc' := 142) C zo22 dX11_lotFor_139 rfl ?_
      refine z_callVi (q := 22) (i := 0) (w9 := (RX11, TX11, 40)) (pc' := 145) (st := [.int (x1 + (σ 22 0 16))]) (As := [.int (σ 22 0 20)]) C (sc_X11_capOf l E σ (σ 22 0 20) _ h) zwX11_165_X11_capOf zvX11_165_X11_capOf.1 zvX11_165_X11_capOf.2 (zL_mem (by decide) zo22) rfl rfl ⟨(Nat.le_of_ble_eq_true rfl), (Nat.le_of_ble_eq_true rfl)⟩ ⟨Nat.zero_le _, Nat.zero_le _⟩ rfl rfl (Nat.le_of_ble_eq_true rfl) dX11_lotFor_142 rfl (fun r7 σ6 h => ?_)
      obtain ⟨ht, hf⟩ := h
      refine z_icmp_ge (tgt := 152) (pc' := 148) C dX11_lotFor_145 (by decide) rfl (fun c8 => ?_) (fun c8 => ?_)
      · have h := ht c8
        refine z_aload_n (pc' := 153) C dX11_lotFor_152 rfl 1 rfl rfl ?_
        refine z_aload_n (pc' := 154) C dX11_lotFor_153 rfl 1 rfl rfl ?_
        refine zgX11_162 (pc' := 157) C zo22 dX11_lotFor_154 rfl ?_
        refine z_callVi (q := 22) (i := 0) (w9 := (RX11, TX11, 40)) (pc' := 160) (st := []) (As := [.int (σ6 22 0 20)]) C (sc_X11_capOf l E σ6 (σ6 22 0 20) _ h) zwX11_165_X11_capOf zvX11_165_X11_capOf.1 zvX11_165_X11_capOf.2 (zL_mem (by decide) zo22) rfl rfl ⟨(Nat.le_of_ble_eq_true rfl), (Nat.le_of_ble_eq_true rfl)⟩ ⟨Nat.zero_le _, Nat.zero_le _⟩ rfl rfl (Nat.le_of_ble_eq_true rfl) dX11_lotFor_157 rfl (fun r10 σ9 h => ?_)
        exact z_iret C dX11_lotFor_160 h
      · have h := hf c8
        refine z_iload_n (pc' := 149) C dX11_lotFor_148 rfl 0 rfl rfl ?_
        refine z_goto (tgt := 160) C dX11_lotFor_149 (by decide) ?_
        exact z_iret C dX11_lotFor_160 h
    · have h := hf c5
      refine z_iload_n (pc' := 89) C dX11_lotFor_88 rfl 2 rfl rfl ?_
      refine z_aload_n (pc' := 90) C dX11_lotFor_89 rfl 0 rfl rfl ?_
      refine zgX11_162 (pc' := 93) C zo22 dX11_lotFor_90 rfl ?_
      obtain ⟨ht, hf⟩ := h
      refine z_icmp_eq (tgt := 123) (pc' := 96) C dX11_lotFor_93 (by decide) rfl (fun c11 => ?_) (fun c11 => ?_)
      · have h := ht c11
        refine z_iinc (j := 2) (v := x2 + 1) (pc' := 126) (lv' := [(2, .int (x2 + 1)), (0, .ref (E.2.2 22 0)), (1, .int x1)]) C dX11_lotFor_123 rfl rfl (by decide) rfl rfl ?_
        refine z_goto (tgt := 80) C dX11_lotFor_126 (by decide) ?_
        refine z_sub (lv' := [(0, .ref (E.2.2 22 0)), (1, .int x1), (2, .int (x2 + 1))]) [1, 2, 0] rfl ?_
        exact ih _ _ _ h
      · have h := hf c11
        refine z_aload_n (pc' := 97) C dX11_lotFor_96 rfl 0 rfl rfl ?_
        refine z_iload_n (pc' := 98) C dX11_lotFor_97 rfl 2 rfl rfl ?_
        refine z_callVi (q := 22) (i := 0) (w9 := (RX11, TX11, 40)) (pc' := 101) (st := []) (As := [.int x2]) C (sc_X11_capOf l E σ x2 _ h) zwX11_165_X11_capOf zvX11_165_X11_capOf.1 zvX11_165_X11_capOf.2 (zL_mem (by decide) zo22) rfl rfl ⟨(Nat.le_of_ble_eq_true rfl), (Nat.le_of_ble_eq_true rfl)⟩ ⟨Nat.zero_le _, Nat.zero_le _⟩ rfl rfl (Nat.le_of_ble_eq_true rfl) dX11_lotFor_98 rfl (fun r13 σ12 h => ?_)
        refine z_aload_n (pc' := 102) C dX11_lotFor_101 rfl 0 rfl rfl ?_
        refine zgX11_53 (pc' := 105) C zo22 dX11_lotFor_102 rfl ?_
        obtain ⟨ht, hf⟩ := h
        refine z_icmp_lt (tgt := 123) (pc' := 108) C dX11_lotFor_105 (by decide) rfl (fun c14 => ?_) (fun c14 => ?_)
        · have h := ht c14
          refine z_iinc (j := 2) (v := x2 + 1) (pc' := 126) (lv' := [(2, .int (x2 + 1)), (0, .ref (E.2.2 22 0)), (1, .int x1)]) C dX11_lotFor_123 rfl rfl (by decide) rfl rfl ?_
          refine z_goto (tgt := 80) C dX11_lotFor_126 (by decide) ?_
          refine z_sub (lv' := [(0, .ref (E.2.2 22 0)), (1, .int x1), (2, .int (x2 + 1))]) [1, 2, 0] rfl ?_
          exact ih _ _ _ h
        · have h := hf c14
          refine z_aload_n (pc' := 109) C dX11_lotFor_108 rfl 0 rfl rfl ?_
          refine z_iload_n (pc' := 110) C dX11_lotFor_109 rfl 2 rfl rfl ?_
          refine z_callVi (q := 22) (i := 0) (w9 := (RX11, TX11, 40)) (pc' := 113) (st := []) (As := [.int x2]) C (sc_X11_capOf l E σ12 x2 _ h) zwX11_165_X11_capOf zvX11_165_X11_capOf.1 zvX11_165_X11_capOf.2 (zL_mem (by decide) zo22) rfl rfl ⟨(Nat.le_of_ble_eq_true rfl), (Nat.le_of_ble_eq_true rfl)⟩ ⟨Nat.zero_le _, Nat.zero_le _⟩ rfl rfl (Nat.le_of_ble_eq_true rfl) dX11_lotFor_110 rfl (fun r16 σ15 h => ?_)
          refine z_iload_n (pc' := 114) C dX11_lotFor_113 rfl 1 rfl rfl ?_
          obtain ⟨ht, hf⟩ := h
          refine z_icmp_le (tgt := 123) (pc' := 117) C dX11_lotFor_114 (by decide) rfl (fun c17 => ?_) (fun c17 => ?_)
          · have h := ht c17
            refine z_iinc (j := 2) (v := x2 + 1) (pc' := 126) (lv' := [(2, .int (x2 + 1)), (0, .ref (E.2.2 22 0)), (1, .int x1)]) C dX11_lotFor_123 rfl rfl (by decide) rfl rfl ?_
            refine z_goto (tgt := 80) C dX11_lotFor_126 (by decide) ?_
            refine z_sub (lv' := [(0, .ref (E.2.2 22 0)), (1, .int x1), (2, .int (x2 + 1))]) [1, 2, 0] rfl ?_
            exact ih _ _ _ h
          · have h := hf c17
            refine z_aload_n (pc' := 118) C dX11_lotFor_117 rfl 0 rfl rfl ?_
            refine z_iload_n (pc' := 119) C dX11_lotFor_118 rfl 2 rfl rfl ?_
            refine z_callVi (q := 22) (i := 0) (w9 := (RX11, TX11, 40)) (pc' := 122) (st := []) (As := [.int x2]) C (sc_X11_capOf l E σ15 x2 _ h) zwX11_165_X11_capOf zvX11_165_X11_capOf.1 zvX11_165_X11_capOf.2 (zL_mem (by decide) zo22) rfl rfl ⟨(Nat.le_of_ble_eq_true rfl), (Nat.le_of_ble_eq_true rfl)⟩ ⟨Nat.zero_le _, Nat.zero_le _⟩ rfl rfl (Nat.le_of_ble_eq_true rfl) dX11_lotFor_119 rfl (fun r19 σ18 h => ?_)
            refine z_istore_n (pc' := 123) (lv' := [(1, .int r19), (0, .ref (E.2.2 22 0)), (2, .int x2)]) C dX11_lotFor_122 rfl (by decide) rfl rfl ?_
            refine z_iinc (j := 2) (v := x2 + 1) (pc' := 126) (lv' := [(2, .int (x2 + 1)), (1, .int r19), (0, .ref (E.2.2 22 0))]) C dX11_lotFor_123 rfl rfl (by decide) rfl rfl ?_
            refine z_goto (tgt := 80) C dX11_lotFor_126 (by decide) ?_
            refine z_sub (lv' := [(0, .ref (E.2.2 22 0)), (1, .int r19), (2, .int (x2 + 1))]) [2, 1, 0] rfl ?_
            exact ih _ _ _ h
set_option maxHeartbeats 4000000 in
set_option maxRecDepth 100000 in
theorem sl_X11_lotFor_8 {p : Program} {l : Launch} {e : Env} {s : State} {m : MethodId} {args : Array Value} {below : List Frame} {meth : Method} {c : Code} {E : zE} (C : zX p s m args meth c cX11_lotFor 3 RX11 (some .int) E) (Q : Int32 → zMem → Prop) : ∀ (n : Nat) (σ : zMem) (x1 : Int32), vc_X11_lotFor_8 Q n σ x1 → zG p l e (zRm 1 21) s m args below meth c 3 E 0 0 (MQ below (va_Qi Q (zPost E) (zA E s.heap.size)) args s 0 0 (zA E s.heap.size)) σ 8 [(0, .ref (E.2.2 22 0)), (1, .int x1)] [] := by
  intro n
  induction n with
  | zero =>
    intro σ x1 h
    exact False.elim h
  | succ n ih =>
    intro σ x1 h
    rw [vc_X11_lotFor_8] at h
    refine z_iload_n (pc' := 9) C dX11_lotFor_8 rfl 1 rfl rfl ?_
    refine z_aload_n (pc' := 10) C dX11_lotFor_9 rfl 0 rfl rfl ?_
    refine zgX11_118 (pc' := 13) C zo22 dX11_lotFor_10 rfl ?_
    obtain ⟨ht, hf⟩ := h
    refine z_icmp_ge (tgt := 64) (pc' := 16) C dX11_lotFor_13 (by decide) rfl (fun c2 => ?_) (fun c2 => ?_)
    · have h := ht c2
      refine z_aload_n (pc' := 65) C dX11_lotFor_64 rfl 0 rfl rfl ?_
      refine zgX11_162 (pc' := 68) C zo22 dX11_lotFor_65 rfl ?_
      refine z_bipush (v := (-4)) (pc' := 70) C dX11_lotFor_68 (by decide) rfl ?_
      obtain ⟨ht, hf⟩ := h
      refine z_icmp_ne (tgt := 76) (pc' := 73) C dX11_lotFor_70 (by decide) rfl (fun c3 => ?_) (fun c3 => ?_)
      · have h := ht c3
        refine z_iconst (v := 0) (pc' := 77) C dX11_lotFor_76 (by decide) rfl ?_
        refine z_istore_n (pc' := 78) (lv' := [(1, .int 0), (0, .ref (E.2.2 22 0))]) C dX11_lotFor_77 rfl (by decide) rfl rfl ?_
        refine z_iconst (v := 0) (pc' := 79) C dX11_lotFor_78 (by decide) rfl ?_
        refine z_istore_n (pc' := 80) (lv' := [(2, .int 0), (1, .int 0), (0, .ref (E.2.2 22 0))]) C dX11_lotFor_79 rfl (by decide) rfl rfl ?_
        obtain ⟨n4, h⟩ := h
        refine z_sub (lv' := [(0, .ref (E.2.2 22 0)), (1, .int 0), (2, .int 0)]) [2, 1, 0] rfl ?_
        exact sl_X11_lotFor_80 C Q n4 _ _ _ h
      · have h := hf c3
        refine z_bipush (v := (-4)) (pc' := 75) C dX11_lotFor_73 (by decide) rfl ?_
        exact z_iret C dX11_lotFor_75 h
    · have h := hf c2
      refine z_aload_n (pc' := 17) C dX11_lotFor_16 rfl 0 rfl rfl ?_
      refine z_iload_n (pc' := 18) C dX11_lotFor_17 rfl 1 rfl rfl ?_
      refine z_callVi (q := 22) (i := 0) (w9 := (RX11, TX11, 40)) (pc' := 21) (st := []) (As := [.int x1]) C (sc_X11_capOf l E σ x1 _ h) zwX11_165_X11_capOf zvX11_165_X11_capOf.1 zvX11_165_X11_capOf.2 (zL_mem (by decide) zo22) rfl rfl ⟨(Nat.le_of_ble_eq_true rfl), (Nat.le_of_ble_eq_true rfl)⟩ ⟨Nat.zero_le _, Nat.zero_le _⟩ rfl rfl (Nat.le_of_ble_eq_true rfl) dX11_lotFor_18 rfl (fun r21 σ20 h => ?_)
      refine z_aload_n (pc' := 22) C dX11_lotFor_21 rfl 0 rfl rfl ?_
      refine zgX11_53 (pc' := 25) C zo22 dX11_lotFor_22 rfl ?_
      obtain ⟨ht, hf⟩ := h
      refine z_icmp_lt (tgt := 58) (pc' := 28) C dX11_lotFor_25 (by decide) rfl (fun c22 => ?_) (fun c22 => ?_)
      · have h := ht c22
        refine z_iinc (j := 1) (v := x1 + 1) (pc' := 61) (lv' := [(1, .int (x1 + 1)), (0, .ref (E.2.2 22 0))]) C dX11_lotFor_58 rfl rfl (by decide) rfl rfl ?_
        refine z_goto (tgt := 8) C dX11_lotFor_61 (by decide) ?_
        refine z_sub (lv' := [(0, .ref (E.2.2 22 0)), (1, .int (x1 + 1))]) [1, 0] rfl ?_
        exact ih _ _ h
      · have h := hf c22
        refine z_aload_n (pc' := 29) C dX11_lotFor_28 rfl 0 rfl rfl ?_
        refine zgX11_162 (pc' := 32) C zo22 dX11_lotFor_29 rfl ?_
        refine z_bipush (v := (-4)) (pc' := 34) C dX11_lotFor_32 (by decide) rfl ?_
        obtain ⟨ht, hf⟩ := h
        refine z_icmp_eq (tgt := 53) (pc' := 37) C dX11_lotFor_34 (by decide) rfl (fun c23 => ?_) (fun c23 => ?_)
        · have h := ht c23
          refine z_aload_n (pc' := 54) C dX11_lotFor_53 rfl 0 rfl rfl ?_
          refine z_iload_n (pc' := 55) C dX11_lotFor_54 rfl 1 rfl rfl ?_
          refine zpX11_162 (pc' := 58) C zo22 dX11_lotFor_55 rfl ?_
          refine z_iinc (j := 1) (v := x1 + 1) (pc' := 61) (lv' := [(1, .int (x1 + 1)), (0, .ref (E.2.2 22 0))]) C dX11_lotFor_58 rfl rfl (by decide) rfl rfl ?_
          refine z_goto (tgt := 8) C dX11_lotFor_61 (by decide) ?_
          refine z_sub (lv' := [(0, .ref (E.2.2 22 0)), (1, .int (x1 + 1))]) [1, 0] rfl ?_
          exact ih _ _ h
        · have h := hf c23
          refine z_aload_n (pc' := 38) C dX11_lotFor_37 rfl 0 rfl rfl ?_
          refine z_iload_n (pc' := 39) C dX11_lotFor_38 rfl 1 rfl rfl ?_
          refine z_callVi (q := 22) (i := 0) (w9 := (RX11, TX11, 40)) (pc' := 42) (st := []) (As := [.int x1]) C (sc_X11_capOf l E σ20 x1 _ h) zwX11_165_X11_capOf zvX11_165_X11_capOf.1 zvX11_165_X11_capOf.2 (zL_mem (by decide) zo22) rfl rfl ⟨(Nat.le_of_ble_eq_true rfl), (Nat.le_of_ble_eq_true rfl)⟩ ⟨Nat.zero_le _, Nat.zero_le _⟩ rfl rfl (Nat.le_of_ble_eq_true rfl) dX11_lotFor_39 rfl (fun r25 σ24 h => ?_)
          refine z_aload_n (pc' := 43) C dX11_lotFor_42 rfl 0 rfl rfl ?_
          refine z_aload_n (pc' := 44) C dX11_lotFor_43 rfl 0 rfl rfl ?_
          refine zgX11_162 (pc' := 47) C zo22 dX11_lotFor_44 rfl ?_
          refine z_callVi (q := 22) (i := 0) (w9 := (RX11, TX11, 40)) (pc' := 50) (st := [.int r25]) (As := [.int (σ24 22 0 20)]) C (sc_X11_capOf l E σ24 (σ24 22 0 20) _ h) zwX11_165_X11_capOf zvX11_165_X11_capOf.1 zvX11_165_X11_capOf.2 (zL_mem (by decide) zo22) rfl rfl ⟨(Nat.le_of_ble_eq_true rfl), (Nat.le_of_ble_eq_true rfl)⟩ ⟨Nat.zero_le _, Nat.zero_le _⟩ rfl rfl (Nat.le_of_ble_eq_true rfl) dX11_lotFor_47 rfl (fun r27 σ26 h => ?_)
          obtain ⟨ht, hf⟩ := h
          refine z_icmp_le (tgt := 58) (pc' := 53) C dX11_lotFor_50 (by decide) rfl (fun c28 => ?_) (fun c28 => ?_)
          · have h := ht c28
            refine z_iinc (j := 1) (v := x1 + 1) (pc' := 61) (lv' := [(1, .int (x1 + 1)), (0, .ref (E.2.2 22 0))]) C dX11_lotFor_58 rfl rfl (by decide) rfl rfl ?_
            refine z_goto (tgt := 8) C dX11_lotFor_61 (by decide) ?_
            refine z_sub (lv' := [(0, .ref (E.2.2 22 0)), (1, .int (x1 + 1))]) [1, 0] rfl ?_
            exact ih _ _ h
          · have h := hf c28
            refine z_aload_n (pc' := 54) C dX11_lotFor_53 rfl 0 rfl rfl ?_
            refine z_iload_n (pc' := 55) C dX11_lotFor_54 rfl 1 rfl rfl ?_
            refine zpX11_162 (pc' := 58) C zo22 dX11_lotFor_55 rfl ?_
            refine z_iinc (j := 1) (v := x1 + 1) (pc' := 61) (lv' := [(1, .int (x1 + 1)), (0, .ref (E.2.2 22 0))]) C dX11_lotFor_58 rfl rfl (by decide) rfl rfl ?_
            refine z_goto (tgt := 8) C dX11_lotFor_61 (by decide) ?_
            refine z_sub (lv' := [(0, .ref (E.2.2 22 0)), (1, .int (x1 + 1))]) [1, 0] rfl ?_
            exact ih _ _ h
set_option maxHeartbeats 4000000 in
set_option maxRecDepth 100000 in
theorem sc_X11_lotFor (l : Launch) (E : zE) (σ : zMem) (Q : Int32 → zMem → Prop) (h : vc_X11_lotFor σ Q) : zMi l yX11_lotFor cX11_lotFor 3 .int 1 21 E [.ref (E.2.2 22 0)] σ Q := by
  refine zMi_of (by decide) (Nat.le_of_ble_eq_true rfl) ?_
  intro p e s m args below meth c C
  unfold vc_X11_lotFor at h
  have fin : zG p l e (zRm 1 21) s m args below meth c 3 E 0 0 (MQ below (va_Qi Q (zPost E) (zA E s.heap.size)) args s 0 0 (zA E s.heap.size)) σ 0 [(0, .ref (E.2.2 22 0))] [] := by
    refine z_aload_n (pc' := 1) C dX11_lotFor_0 rfl 0 rfl rfl ?_
    refine z_bipush (v := (-4)) (pc' := 3) C dX11_lotFor_1 (by decide) rfl ?_
    refine zpX11_162 (pc' := 6) C zo22 dX11_lotFor_3 rfl ?_
    refine z_iconst (v := 0) (pc' := 7) C dX11_lotFor_6 (by decide) rfl ?_
    refine z_istore_n (pc' := 8) (lv' := [(1, .int 0), (0, .ref (E.2.2 22 0))]) C dX11_lotFor_7 rfl (by decide) rfl rfl ?_
    obtain ⟨n1, h⟩ := h
    refine z_sub (lv' := [(0, .ref (E.2.2 22 0)), (1, .int 0)]) [1, 0] rfl ?_
    exact sl_X11_lotFor_8 C Q n1 _ _ h
  exact fin
def vc_X11_candle (σ : zMem) (a0 : Int32) (a1 : Int32) (a2 : Int32) (Q : Int32 → zMem → Prop) : Prop := vc_X11_isPlot σ a0 (fun r2 σ1 => ((r2 = 0) → Q ((-1)) σ1) ∧ ((¬ r2 = 0) → vc_X11_in σ1 a1 1 60 (fun r5 σ4 => ((r5 = 0) → Q ((-1)) σ4) ∧ ((¬ r5 = 0) → vc_X11_isBuyer σ4 a2 (fun r8 σ7 => ((¬ r8 = 0) → vp_in a0 24 ∧ (((σ7 25 0 a0.toNatClampNeg) = 0) → vc_X11_value σ7 a0 (fun σ12 => vc_X11_burn σ12 a1 a2 (fun r14 σ13 => ((¬ r14 = ((-4))) → vc_X11_lotFor σ13 (fun r17 σ16 => vp_in a0 24 ∧ vp_in a0 24 ∧ vp_in a0 24 ∧ ((0 ≤ r17) → vp_in a0 24 ∧ Q ((um (um (um (um σ16 25 0 a0.toNatClampNeg (vp_nar .boolean 1)) 26 0 a0.toNatClampNeg r14) 27 0 a0.toNatClampNeg ((um (um σ16 25 0 a0.toNatClampNeg (vp_nar .boolean 1)) 26 0 a0.toNatClampNeg r14) 22 0 19)) 28 0 a0.toNatClampNeg r17) 22 0 19) (um (um (um (um σ16 25 0 a0.toNatClampNeg (vp_nar .boolean 1)) 26 0 a0.toNatClampNeg r14) 27 0 a0.toNatClampNeg ((um (um σ16 25 0 a0.toNatClampNeg (vp_nar .boolean 1)) 26 0 a0.toNatClampNeg r14) 22 0 19)) 28 0 a0.toNatClampNeg r17)) ∧ ((¬ 0 ≤ r17) → vp_in a0 24 ∧ Q ((um (um (um (um σ16 25 0 a0.toNatClampNeg (vp_nar .boolean 1)) 26 0 a0.toNatClampNeg r14) 27 0 a0.toNatClampNeg ((um (um σ16 25 0 a0.toNatClampNeg (vp_nar .boolean 1)) 26 0 a0.toNatClampNeg r14) 22 0 19)) 28 0 a0.toNatClampNeg 0) 22 0 19) (um (um (um (um σ16 25 0 a0.toNatClampNeg (vp_nar .boolean 1)) 26 0 a0.toNatClampNeg r14) 27 0 a0.toNatClampNeg ((um (um σ16 25 0 a0.toNatClampNeg (vp_nar .boolean 1)) 26 0 a0.toNatClampNeg r14) 22 0 19)) 28 0 a0.toNatClampNeg 0)))) ∧ ((r14 = ((-4))) → Q ((-4)) σ13)))) ∧ ((¬ (σ7 25 0 a0.toNatClampNeg) = 0) → Q ((-3)) σ7)) ∧ ((r8 = 0) → Q ((-1)) σ7))))))
set_option maxHeartbeats 4000000 in
set_option maxRecDepth 100000 in
theorem sc_X11_candle (l : Launch) (E : zE) (σ : zMem) (a0 : Int32) (a1 : Int32) (a2 : Int32) (Q : Int32 → zMem → Prop) (h : vc_X11_candle σ a0 a1 a2 Q) : zMi l yX11_candle cX11_candle 6 .int 5 111 E [.ref (E.2.2 22 0), .int a0, .int a1, .int a2] σ Q := by
  refine zMi_of (by decide) (Nat.le_of_ble_eq_true rfl) ?_
  intro p e s m args below meth c C
  unfold vc_X11_candle at h
  have fin : zG p l e (zRm 5 111) s m args below meth c 6 E 0 0 (MQ below (va_Qi Q (zPost E) (zA E s.heap.size)) args s 0 0 (zA E s.heap.size)) σ 0 [(0, .ref (E.2.2 22 0)), (1, .int a0), (2, .int a1), (3, .int a2)] [] := by
    refine z_iload_n (pc' := 1) C dX11_candle_0 rfl 1 rfl rfl ?_
    refine z_callSi (pc' := 4) (st := []) (As := [.int a0]) C (sc_X11_isPlot l E σ a0 _ h) zwX11_121_X11_isPlot ztX11_121_X11_isPlot ⟨(Nat.le_of_ble_eq_true rfl), (Nat.le_of_ble_eq_true rfl)⟩ ⟨Nat.zero_le _, Nat.zero_le _⟩ rfl rfl (Nat.le_of_ble_eq_true rfl) dX11_candle_1 rfl (fun r2 σ1 h => ?_)
    obtain ⟨ht, hf⟩ := h
    refine z_if_eq (tgt := 25) (pc' := 7) C dX11_candle_4 (by decide) rfl (fun c3 => ?_) (fun c3 => ?_)
    · have h := ht c3
      refine z_iconst (v := (-1)) (pc' := 26) C dX11_candle_25 (by decide) rfl ?_
      exact z_iret C dX11_candle_26 h
    · have h := hf c3
      refine z_iload_n (pc' := 8) C dX11_candle_7 rfl 2 rfl rfl ?_
      refine z_iconst (v := 1) (pc' := 9) C dX11_candle_8 (by decide) rfl ?_
      refine z_bipush (v := 60) (pc' := 11) C dX11_candle_9 (by decide) rfl ?_
      refine z_callSi (pc' := 14) (st := []) (As := [.int a1, .int 1, .int 60]) C (sc_X11_in l E σ1 a1 1 60 _ h) zwX11_114_X11_in ztX11_114_X11_in ⟨(Nat.le_of_ble_eq_true rfl), (Nat.le_of_ble_eq_true rfl)⟩ ⟨Nat.zero_le _, Nat.zero_le _⟩ rfl rfl (Nat.le_of_ble_eq_true rfl) dX11_candle_11 rfl (fun r5 σ4 h => ?_)
      obtain ⟨ht, hf⟩ := h
      refine z_if_eq (tgt := 25) (pc' := 17) C dX11_candle_14 (by decide) rfl (fun c6 => ?_) (fun c6 => ?_)
      · have h := ht c6
        refine z_iconst (v := (-1)) (pc' := 26) C dX11_candle_25 (by decide) rfl ?_
        exact z_iret C dX11_candle_26 h
      · have h := hf c6
        refine z_aload_n (pc' := 18) C dX11_candle_17 rfl 0 rfl rfl ?_
        refine z_iload_n (pc' := 19) C dX11_candle_18 rfl 3 rfl rfl ?_
        refine z_callVi (q := 22) (i := 0) (w9 := (RX11, TX11, 40)) (pc' := 22) (st := []) (As := [.int a2]) C (sc_X11_isBuyer l E σ4 a2 _ h) zwX11_126_X11_isBuyer zvX11_126_X11_isBuyer.1 zvX11_126_X11_isBuyer.2 (zL_mem (by decide) zo22) rfl rfl ⟨(Nat.le_of_ble_eq_true rfl), (Nat.le_of_ble_eq_true rfl)⟩ ⟨Nat.zero_le _, Nat.zero_le _⟩ rfl rfl (Nat.le_of_ble_eq_true rfl) dX11_candle_19 rfl (fun r8 σ7 h => ?_)
        obtain ⟨ht, hf⟩ := h
        refine z_if_ne (tgt := 27) (pc' := 25) C dX11_candle_22 (by decide) rfl (fun c9 => ?_) (fun c9 => ?_)
        · have h := ht c9
          refine z_aload_n (pc' := 28) C dX11_candle_27 rfl 0 rfl rfl ?_
          refine zgX11_16 (pc' := 31) C zo22 dX11_candle_28 rfl ?_
          refine z_iload_n (pc' := 32) C dX11_candle_31 rfl 1 rfl rfl ?_
          obtain ⟨hv10, h⟩ := h
          refine z_zald (n := 24) (pc' := 33) C (zL_mem (by decide) zo25) (fun _ => rfl) hv10 dX11_candle_32 rfl ?_
          obtain ⟨ht, hf⟩ := h
          refine z_if_eq (tgt := 39) (pc' := 36) C dX11_candle_33 (by decide) rfl (fun c11 => ?_) (fun c11 => ?_)
          · have h := ht c11
            refine z_aload_n (pc' := 40) C dX11_candle_39 rfl 0 rfl rfl ?_
            refine z_iload_n (pc' := 41) C dX11_candle_40 rfl 1 rfl rfl ?_
            refine z_callVv (q := 22) (i := 0) (w9 := (RX11, TX11, 40)) (pc' := 44) (st := []) (As := [.int a0]) C (sc_X11_value l E σ7 a0 _ h) zwX11_168_X11_value zvX11_168_X11_value.1 zvX11_168_X11_value.2 (zL_mem (by decide) zo22) rfl rfl ⟨(Nat.le_of_ble_eq_true rfl), (Nat.le_of_ble_eq_true rfl)⟩ ⟨Nat.zero_le _, Nat.zero_le _⟩ rfl rfl (Nat.le_of_ble_eq_true rfl) dX11_candle_41 rfl (fun σ12 h => ?_)
            refine z_aload_n (pc' := 45) C dX11_candle_44 rfl 0 rfl rfl ?_
            refine z_iload_n (pc' := 46) C dX11_candle_45 rfl 2 rfl rfl ?_
            refine z_iload_n (pc' := 47) C dX11_candle_46 rfl 3 rfl rfl ?_
            refine z_callVi (q := 22) (i := 0) (w9 := (RX11, TX11, 40)) (pc' := 50) (st := []) (As := [.int a1, .int a2]) C (sc_X11_burn l E σ12 a1 a2 _ h) zwX11_172_X11_burn zvX11_172_X11_burn.1 zvX11_172_X11_burn.2 (zL_mem (by decide) zo22) rfl rfl ⟨(Nat.le_of_ble_eq_true rfl), (Nat.le_of_ble_eq_true rfl)⟩ ⟨Nat.zero_le _, Nat.zero_le _⟩ rfl rfl (Nat.le_of_ble_eq_true rfl) dX11_candle_47 rfl (fun r14 σ13 h => ?_)
            refine z_istore (pc' := 52) (lv' := [(4, .int r14), (0, .ref (E.2.2 22 0)), (1, .int a0), (2, .int a1), (3, .int a2)]) C dX11_candle_50 (by decide) rfl rfl ?_
            refine z_iload (pc' := 54) C dX11_candle_52 0 rfl rfl ?_
            refine z_bipush (v := (-4)) (pc' := 56) C dX11_candle_54 (by decide) rfl ?_
            obtain ⟨ht, hf⟩ := h
            refine z_icmp_ne (tgt := 62) (pc' := 59) C dX11_candle_56 (by decide) rfl (fun c15 => ?_) (fun c15 => ?_)
            · have h := ht c15
              refine z_aload_n (pc' := 63) C dX11_candle_62 rfl 1 rfl rfl ?_
              refine z_callVi (q := 22) (i := 0) (w9 := (RX11, TX11, 40)) (pc' := 66) (st := []) (As := []) C (sc_X11_lotFor l E σ13  _ h) zwX11_175_X11_lotFor zvX11_175_X11_lotFor.1 zvX11_175_X11_lotFor.2 (zL_mem (by decide) zo22) rfl rfl ⟨(Nat.le_of_ble_eq_true rfl), (Nat.le_of_ble_eq_true rfl)⟩ ⟨Nat.zero_le _, Nat.zero_le _⟩ rfl rfl (Nat.le_of_ble_eq_true rfl) dX11_candle_63 rfl (fun r17 σ16 h => ?_)
              refine z_istore (pc' := 68) (lv' := [(5, .int r17), (4, .int r14), (0, .ref (E.2.2 22 0)), (1, .int a0), (2, .int a1), (3, .int a2)]) C dX11_candle_66 (by decide) rfl rfl ?_
              refine z_aload_n (pc' := 69) C dX11_candle_68 rfl 2 rfl rfl ?_
              refine zgX11_16 (pc' := 72) C zo22 dX11_candle_69 rfl ?_
              refine z_iload_n (pc' := 73) C dX11_candle_72 rfl 3 rfl rfl ?_
              refine z_iconst (v := 1) (pc' := 74) C dX11_candle_73 (by decide) rfl ?_
              obtain ⟨hv18, h⟩ := h
              refine z_zast (n := 24) (pc' := 75) C (zL_mem (by decide) zo25) (fun _ => rfl) hv18 dX11_candle_74 rfl ?_
              refine z_aload_n (pc' := 76) C dX11_candle_75 rfl 2 rfl rfl ?_
              refine zgX11_20 (pc' := 79) C zo22 dX11_candle_76 rfl ?_
              refine z_iload_n (pc' := 80) C dX11_candle_79 rfl 3 rfl rfl ?_
              refine z_iload (pc' := 82) C dX11_candle_80 1 rfl rfl ?_
              obtain ⟨hv19, h⟩ := h
              refine z_iast (n := 24) (pc' := 83) C (zL_mem (by decide) zo26) (fun _ => rfl) hv19 dX11_candle_82 rfl ?_
              refine z_aload_n (pc' := 84) C dX11_candle_83 rfl 2 rfl rfl ?_
              refine zgX11_23 (pc' := 87) C zo22 dX11_candle_84 rfl ?_
              refine z_iload_n (pc' := 88) C dX11_candle_87 rfl 3 rfl rfl ?_
              refine z_aload_n (pc' := 89) C dX11_candle_88 rfl 2 rfl rfl ?_
              refine zgX11_159 (pc' := 92) C zo22 dX11_candle_89 rfl ?_
              obtain ⟨hv20, h⟩ := h
              refine z_iast (n := 24) (pc' := 93) C (zL_mem (by decide) zo27) (fun _ => rfl) hv20 dX11_candle_92 rfl ?_
              refine z_aload_n (pc' := 94) C dX11_candle_93 rfl 2 rfl rfl ?_
              refine zgX11_26 (pc' := 97) C zo22 dX11_candle_94 rfl ?_
              refine z_iload_n (pc' := 98) C dX11_candle_97 rfl 3 rfl rfl ?_
              refine z_iload (pc' := 100) C dX11_candle_98 0 rfl rfl ?_
              obtain ⟨ht, hf⟩ := h
              refine z_if_ge (tgt := 107) (pc' := 103) C dX11_candle_100 (by decide) rfl (fun c21 => ?_) (fun c21 => ?_)
              · have h := ht c21
                refine z_iload (pc' := 109) C dX11_candle_107 0 rfl rfl ?_
                obtain ⟨hv22, h⟩ := h
                refine z_iast (n := 24) (pc' := 110) C (zL_mem (by decide) zo28) (fun _ => rfl) hv22 dX11_candle_109 rfl ?_
                refine z_aload_n (pc' := 111) C dX11_candle_110 rfl 2 rfl rfl ?_
                refine zgX11_159 (pc' := 114) C zo22 dX11_candle_111 rfl ?_
                exact z_iret C dX11_candle_114 h
              · have h := hf c21
                refine z_iconst (v := 0) (pc' := 104) C dX11_candle_103 (by decide) rfl ?_
                refine z_goto (tgt := 109) C dX11_candle_104 (by decide) ?_
                obtain ⟨hv23, h⟩ := h
                refine z_iast (n := 24) (pc' := 110) C (zL_mem (by decide) zo28) (fun _ => rfl) hv23 dX11_candle_109 rfl ?_
                refine z_aload_n (pc' := 111) C dX11_candle_110 rfl 2 rfl rfl ?_
                refine zgX11_159 (pc' := 114) C zo22 dX11_candle_111 rfl ?_
                exact z_iret C dX11_candle_114 h
            · have h := hf c15
              refine z_bipush (v := (-4)) (pc' := 61) C dX11_candle_59 (by decide) rfl ?_
              exact z_iret C dX11_candle_61 h
          · have h := hf c11
            refine z_bipush (v := (-3)) (pc' := 38) C dX11_candle_36 (by decide) rfl ?_
            exact z_iret C dX11_candle_38 h
        · have h := hf c9
          refine z_iconst (v := (-1)) (pc' := 26) C dX11_candle_25 (by decide) rfl ?_
          exact z_iret C dX11_candle_26 h
  exact fin
def vc_X11_wins_48 (x2 : Int32) (x3 : Int32) (Q : Int32 → zMem → Prop) : Nat → zMem → Int32 → Int32 → Prop
  | 0, _, _, _ => False
  | n + 1, σ, x4, x5 => ((60 < x5) → Q x4 σ) ∧ ((¬ 60 < x5) → vc_X11_burn σ x5 x2 (fun r16 σ15 => ((¬ r16 = x3) → vc_X11_wins_48 x2 x3 Q n σ15 (x4 + 0) (x5 + 1)) ∧ ((r16 = x3) → vc_X11_wins_48 x2 x3 Q n σ15 (x4 + 1) (x5 + 1))))
def vc_X11_wins (σ : zMem) (a0 : Int32) (a1 : Int32) (a2 : Int32) (Q : Int32 → zMem → Prop) : Prop := vc_X11_isPlot σ a0 (fun r2 σ1 => ((r2 = 0) → Q ((-1)) σ1) ∧ ((¬ r2 = 0) → vc_X11_isBuyer σ1 a1 (fun r5 σ4 => ((r5 = 0) → Q ((-1)) σ4) ∧ ((¬ r5 = 0) → vc_X11_isBuyer σ4 a2 (fun r8 σ7 => ((¬ r8 = 0) → vp_in a0 24 ∧ (((σ7 25 0 a0.toNatClampNeg) = 0) → vc_X11_value σ7 a0 (fun σ12 => ∃ n13, vc_X11_wins_48 a1 a2 Q n13 σ12 0 1)) ∧ ((¬ (σ7 25 0 a0.toNatClampNeg) = 0) → Q ((-3)) σ7)) ∧ ((r8 = 0) → Q ((-1)) σ7))))))
set_option maxHeartbeats 4000000 in
set_option maxRecDepth 100000 in
theorem sl_X11_wins_48 {p : Program} {l : Launch} {e : Env} {s : State} {m : MethodId} {args : Array Value} {below : List Frame} {meth : Method} {c : Code} {E : zE} (C : zX p s m args meth c cX11_wins 6 RX11 (some .int) E) (x2 : Int32) (x3 : Int32) (Q : Int32 → zMem → Prop) : ∀ (n : Nat) (σ : zMem) (x4 : Int32) (x5 : Int32), vc_X11_wins_48 x2 x3 Q n σ x4 x5 → zG p l e (zRm 5 111) s m args below meth c 6 E 0 0 (MQ below (va_Qi Q (zPost E) (zA E s.heap.size)) args s 0 0 (zA E s.heap.size)) σ 48 [(0, .ref (E.2.2 22 0)), (2, .int x2), (3, .int x3), (4, .int x4), (5, .int x5)] [] := by
  intro n
  induction n with
  | zero =>
    intro σ x4 x5 h
    exact False.elim h
  | succ n ih =>
    intro σ x4 x5 h
    rw [vc_X11_wins_48] at h
    refine z_iload (pc' := 50) C dX11_wins_48 4 rfl rfl ?_
    refine z_bipush (v := 60) (pc' := 52) C dX11_wins_50 (by decide) rfl ?_
    obtain ⟨ht, hf⟩ := h
    refine z_icmp_gt (tgt := 82) (pc' := 55) C dX11_wins_52 (by decide) rfl (fun c14 => ?_) (fun c14 => ?_)
    · have h := ht c14
      refine z_iload (pc' := 84) C dX11_wins_82 3 rfl rfl ?_
      exact z_iret C dX11_wins_84 h
    · have h := hf c14
      refine z_iload (pc' := 57) C dX11_wins_55 3 rfl rfl ?_
      refine z_aload_n (pc' := 58) C dX11_wins_57 rfl 0 rfl rfl ?_
      refine z_iload (pc' := 60) C dX11_wins_58 4 rfl rfl ?_
      refine z_iload_n (pc' := 61) C dX11_wins_60 rfl 1 rfl rfl ?_
      refine z_callVi (q := 22) (i := 0) (w9 := (RX11, TX11, 40)) (pc' := 64) (st := [.int x4]) (As := [.int x5, .int x2]) C (sc_X11_burn l E σ x5 x2 _ h) zwX11_172_X11_burn zvX11_172_X11_burn.1 zvX11_172_X11_burn.2 (zL_mem (by decide) zo22) rfl rfl ⟨(Nat.le_of_ble_eq_true rfl), (Nat.le_of_ble_eq_true rfl)⟩ ⟨Nat.zero_le _, Nat.zero_le _⟩ rfl rfl (Nat.le_of_ble_eq_true rfl) dX11_wins_61 rfl (fun r16 σ15 h => ?_)
      refine z_iload_n (pc' := 65) C dX11_wins_64 rfl 2 rfl rfl ?_
      obtain ⟨ht, hf⟩ := h
      refine z_icmp_ne (tgt := 72) (pc' := 68) C dX11_wins_65 (by decide) rfl (fun c17 => ?_) (fun c17 => ?_)
      · have h := ht c17
        refine z_iconst (v := 0) (pc' := 73) C dX11_wins_72 (by decide) rfl ?_
        refine z_iadd (pc' := 74) C dX11_wins_73 rfl ?_
        refine z_istore (pc' := 76) (lv' := [(4, .int (x4 + 0)), (0, .ref (E.2.2 22 0)), (2, .int x2), (3, .int x3), (5, .int x5)]) C dX11_wins_74 (by decide) rfl rfl ?_
        refine z_iinc (j := 4) (v := x5 + 1) (pc' := 79) (lv' := [(5, .int (x5 + 1)), (4, .int (x4 + 0)), (0, .ref (E.2.2 22 0)), (2, .int x2), (3, .int x3)]) C dX11_wins_76 rfl rfl (by decide) rfl rfl ?_
        refine z_goto (tgt := 48) C dX11_wins_79 (by decide) ?_
        refine z_sub (lv' := [(0, .ref (E.2.2 22 0)), (2, .int x2), (3, .int x3), (4, .int (x4 + 0)), (5, .int (x5 + 1))]) [2, 3, 4, 1, 0] rfl ?_
        exact ih _ _ _ h
      · have h := hf c17
        refine z_iconst (v := 1) (pc' := 69) C dX11_wins_68 (by decide) rfl ?_
        refine z_goto (tgt := 73) C dX11_wins_69 (by decide) ?_
        refine z_iadd (pc' := 74) C dX11_wins_73 rfl ?_
        refine z_istore (pc' := 76) (lv' := [(4, .int (x4 + 1)), (0, .ref (E.2.2 22 0)), (2, .int x2), (3, .int x3), (5, .int x5)]) C dX11_wins_74 (by decide) rfl rfl ?_
        refine z_iinc (j := 4) (v := x5 + 1) (pc' := 79) (lv' := [(5, .int (x5 + 1)), (4, .int (x4 + 1)), (0, .ref (E.2.2 22 0)), (2, .int x2), (3, .int x3)]) C dX11_wins_76 rfl rfl (by decide) rfl rfl ?_
        refine z_goto (tgt := 48) C dX11_wins_79 (by decide) ?_
        refine z_sub (lv' := [(0, .ref (E.2.2 22 0)), (2, .int x2), (3, .int x3), (4, .int (x4 + 1)), (5, .int (x5 + 1))]) [2, 3, 4, 1, 0] rfl ?_
        exact ih _ _ _ h
set_option maxHeartbeats 4000000 in
set_option maxRecDepth 100000 in
theorem sc_X11_wins (l : Launch) (E : zE) (σ : zMem) (a0 : Int32) (a1 : Int32) (a2 : Int32) (Q : Int32 → zMem → Prop) (h : vc_X11_wins σ a0 a1 a2 Q) : zMi l yX11_wins cX11_wins 6 .int 5 111 E [.ref (E.2.2 22 0), .int a0, .int a1, .int a2] σ Q := by
  refine zMi_of (by decide) (Nat.le_of_ble_eq_true rfl) ?_
  intro p e s m args below meth c C
  unfold vc_X11_wins at h
  have fin : zG p l e (zRm 5 111) s m args below meth c 6 E 0 0 (MQ below (va_Qi Q (zPost E) (zA E s.heap.size)) args s 0 0 (zA E s.heap.size)) σ 0 [(0, .ref (E.2.2 22 0)), (1, .int a0), (2, .int a1), (3, .int a2)] [] := by
    refine z_iload_n (pc' := 1) C dX11_wins_0 rfl 1 rfl rfl ?_
    refine z_callSi (pc' := 4) (st := []) (As := [.int a0]) C (sc_X11_isPlot l E σ a0 _ h) zwX11_121_X11_isPlot ztX11_121_X11_isPlot ⟨(Nat.le_of_ble_eq_true rfl), (Nat.le_of_ble_eq_true rfl)⟩ ⟨Nat.zero_le _, Nat.zero_le _⟩ rfl rfl (Nat.le_of_ble_eq_true rfl) dX11_wins_1 rfl (fun r2 σ1 h => ?_)
    obtain ⟨ht, hf⟩ := h
    refine z_if_eq (tgt := 23) (pc' := 7) C dX11_wins_4 (by decide) rfl (fun c3 => ?_) (fun c3 => ?_)
    · have h := ht c3
      refine z_iconst (v := (-1)) (pc' := 24) C dX11_wins_23 (by decide) rfl ?_
      exact z_iret C dX11_wins_24 h
    · have h := hf c3
      refine z_aload_n (pc' := 8) C dX11_wins_7 rfl 0 rfl rfl ?_
      refine z_iload_n (pc' := 9) C dX11_wins_8 rfl 2 rfl rfl ?_
      refine z_callVi (q := 22) (i := 0) (w9 := (RX11, TX11, 40)) (pc' := 12) (st := []) (As := [.int a1]) C (sc_X11_isBuyer l E σ1 a1 _ h) zwX11_126_X11_isBuyer zvX11_126_X11_isBuyer.1 zvX11_126_X11_isBuyer.2 (zL_mem (by decide) zo22) rfl rfl ⟨(Nat.le_of_ble_eq_true rfl), (Nat.le_of_ble_eq_true rfl)⟩ ⟨Nat.zero_le _, Nat.zero_le _⟩ rfl rfl (Nat.le_of_ble_eq_true rfl) dX11_wins_9 rfl (fun r5 σ4 h => ?_)
      obtain ⟨ht, hf⟩ := h
      refine z_if_eq (tgt := 23) (pc' := 15) C dX11_wins_12 (by decide) rfl (fun c6 => ?_) (fun c6 => ?_)
      · have h := ht c6
        refine z_iconst (v := (-1)) (pc' := 24) C dX11_wins_23 (by decide) rfl ?_
        exact z_iret C dX11_wins_24 h
      · have h := hf c6
        refine z_aload_n (pc' := 16) C dX11_wins_15 rfl 0 rfl rfl ?_
        refine z_iload_n (pc' := 17) C dX11_wins_16 rfl 3 rfl rfl ?_
        refine z_callVi (q := 22) (i := 0) (w9 := (RX11, TX11, 40)) (pc' := 20) (st := []) (As := [.int a2]) C (sc_X11_isBuyer l E σ4 a2 _ h) zwX11_126_X11_isBuyer zvX11_126_X11_isBuyer.1 zvX11_126_X11_isBuyer.2 (zL_mem (by decide) zo22) rfl rfl ⟨(Nat.le_of_ble_eq_true rfl), (Nat.le_of_ble_eq_true rfl)⟩ ⟨Nat.zero_le _, Nat.zero_le _⟩ rfl rfl (Nat.le_of_ble_eq_true rfl) dX11_wins_17 rfl (fun r8 σ7 h => ?_)
        obtain ⟨ht, hf⟩ := h
        refine z_if_ne (tgt := 25) (pc' := 23) C dX11_wins_20 (by decide) rfl (fun c9 => ?_) (fun c9 => ?_)
        · have h := ht c9
          refine z_aload_n (pc' := 26) C dX11_wins_25 rfl 0 rfl rfl ?_
          refine zgX11_16 (pc' := 29) C zo22 dX11_wins_26 rfl ?_
          refine z_iload_n (pc' := 30) C dX11_wins_29 rfl 1 rfl rfl ?_
          obtain ⟨hv10, h⟩ := h
          refine z_zald (n := 24) (pc' := 31) C (zL_mem (by decide) zo25) (fun _ => rfl) hv10 dX11_wins_30 rfl ?_
          obtain ⟨ht, hf⟩ := h
          refine z_if_eq (tgt := 37) (pc' := 34) C dX11_wins_31 (by decide) rfl (fun c11 => ?_) (fun c11 => ?_)
          · have h := ht c11
            refine z_aload_n (pc' := 38) C dX11_wins_37 rfl 0 rfl rfl ?_
            refine z_iload_n (pc' := 39) C dX11_wins_38 rfl 1 rfl rfl ?_
            refine z_callVv (q := 22) (i := 0) (w9 := (RX11, TX11, 40)) (pc' := 42) (st := []) (As := [.int a0]) C (sc_X11_value l E σ7 a0 _ h) zwX11_168_X11_value zvX11_168_X11_value.1 zvX11_168_X11_value.2 (zL_mem (by decide) zo22) rfl rfl ⟨(Nat.le_of_ble_eq_true rfl), (Nat.le_of_ble_eq_true rfl)⟩ ⟨Nat.zero_le _, Nat.zero_le _⟩ rfl rfl (Nat.le_of_ble_eq_true rfl) dX11_wins_39 rfl (fun σ12 h => ?_)
            refine z_iconst (v := 0) (pc' := 43) C dX11_wins_42 (by decide) rfl ?_
            refine z_istore (pc' := 45) (lv' := [(4, .int 0), (0, .ref (E.2.2 22 0)), (1, .int a0), (2, .int a1), (3, .int a2)]) C dX11_wins_43 (by decide) rfl rfl ?_
            refine z_iconst (v := 1) (pc' := 46) C dX11_wins_45 (by decide) rfl ?_
            refine z_istore (pc' := 48) (lv' := [(5, .int 1), (4, .int 0), (0, .ref (E.2.2 22 0)), (1, .int a0), (2, .int a1), (3, .int a2)]) C dX11_wins_46 (by decide) rfl rfl ?_
            obtain ⟨n13, h⟩ := h
            refine z_sub (lv' := [(0, .ref (E.2.2 22 0)), (2, .int a1), (3, .int a2), (4, .int 0), (5, .int 1)]) [2, 4, 5, 1, 0] rfl ?_
            exact sl_X11_wins_48 C a1 a2 Q n13 _ _ _ h
          · have h := hf c11
            refine z_bipush (v := (-3)) (pc' := 36) C dX11_wins_34 (by decide) rfl ?_
            exact z_iret C dX11_wins_36 h
        · have h := hf c9
          refine z_iconst (v := (-1)) (pc' := 24) C dX11_wins_23 (by decide) rfl ?_
          exact z_iret C dX11_wins_24 h
  exact fin
def vc_X11_lots (σ : zMem) (a0 : Int32) (Q : Int32 → zMem → Prop) : Prop := vc_X11_isPlot σ a0 (fun r2 σ1 => ((¬ r2 = 0) → vp_in a0 24 ∧ (((σ1 25 0 a0.toNatClampNeg) = 0) → vc_X11_value σ1 a0 (fun σ6 => vc_X11_lotFor σ6 (fun r8 σ7 => Q r8 σ7))) ∧ ((¬ (σ1 25 0 a0.toNatClampNeg) = 0) → Q ((-3)) σ1)) ∧ ((r2 = 0) → Q ((-1)) σ1))
set_option maxHeartbeats 4000000 in
set_option maxRecDepth 100000 in
theorem sc_X11_lots (l : Launch) (E : zE) (σ : zMem) (a0 : Int32) (Q : Int32 → zMem → Prop) (h : vc_X11_lots σ a0 Q) : zMi l yX11_lots cX11_lots 2 .int 5 111 E [.ref (E.2.2 22 0), .int a0] σ Q := by
  refine zMi_of (by decide) (Nat.le_of_ble_eq_true rfl) ?_
  intro p e s m args below meth c C
  unfold vc_X11_lots at h
  have fin : zG p l e (zRm 5 111) s m args below meth c 2 E 0 0 (MQ below (va_Qi Q (zPost E) (zA E s.heap.size)) args s 0 0 (zA E s.heap.size)) σ 0 [(0, .ref (E.2.2 22 0)), (1, .int a0)] [] := by
    refine z_iload_n (pc' := 1) C dX11_lots_0 rfl 1 rfl rfl ?_
    refine z_callSi (pc' := 4) (st := []) (As := [.int a0]) C (sc_X11_isPlot l E σ a0 _ h) zwX11_121_X11_isPlot ztX11_121_X11_isPlot ⟨(Nat.le_of_ble_eq_true rfl), (Nat.le_of_ble_eq_true rfl)⟩ ⟨Nat.zero_le _, Nat.zero_le _⟩ rfl rfl (Nat.le_of_ble_eq_true rfl) dX11_lots_1 rfl (fun r2 σ1 h => ?_)
    obtain ⟨ht, hf⟩ := h
    refine z_if_ne (tgt := 9) (pc' := 7) C dX11_lots_4 (by decide) rfl (fun c3 => ?_) (fun c3 => ?_)
    · have h := ht c3
      refine z_aload_n (pc' := 10) C dX11_lots_9 rfl 0 rfl rfl ?_
      refine zgX11_16 (pc' := 13) C zo22 dX11_lots_10 rfl ?_
      refine z_iload_n (pc' := 14) C dX11_lots_13 rfl 1 rfl rfl ?_
      obtain ⟨hv4, h⟩ := h
      refine z_zald (n := 24) (pc' := 15) C (zL_mem (by decide) zo25) (fun _ => rfl) hv4 dX11_lots_14 rfl ?_
      obtain ⟨ht, hf⟩ := h
      refine z_if_eq (tgt := 21) (pc' := 18) C dX11_lots_15 (by decide) rfl (fun c5 => ?_) (fun c5 => ?_)
      · have h := ht c5
        refine z_aload_n (pc' := 22) C dX11_lots_21 rfl 0 rfl rfl ?_
        refine z_iload_n (pc' := 23) C dX11_lots_22 rfl 1 rfl rfl ?_
        refine z_callVv (q := 22) (i := 0) (w9 := (RX11, TX11, 40)) (pc' := 26) (st := []) (As := [.int a0]) C (sc_X11_value l E σ1 a0 _ h) zwX11_168_X11_value zvX11_168_X11_value.1 zvX11_168_X11_value.2 (zL_mem (by decide) zo22) rfl rfl ⟨(Nat.le_of_ble_eq_true rfl), (Nat.le_of_ble_eq_true rfl)⟩ ⟨Nat.zero_le _, Nat.zero_le _⟩ rfl rfl (Nat.le_of_ble_eq_true rfl) dX11_lots_23 rfl (fun σ6 h => ?_)
        refine z_aload_n (pc' := 27) C dX11_lots_26 rfl 0 rfl rfl ?_
        refine z_callVi (q := 22) (i := 0) (w9 := (RX11, TX11, 40)) (pc' := 30) (st := []) (As := []) C (sc_X11_lotFor l E σ6  _ h) zwX11_175_X11_lotFor zvX11_175_X11_lotFor.1 zvX11_175_X11_lotFor.2 (zL_mem (by decide) zo22) rfl rfl ⟨(Nat.le_of_ble_eq_true rfl), (Nat.le_of_ble_eq_true rfl)⟩ ⟨Nat.zero_le _, Nat.zero_le _⟩ rfl rfl (Nat.le_of_ble_eq_true rfl) dX11_lots_27 rfl (fun r8 σ7 h => ?_)
        exact z_iret C dX11_lots_30 h
      · have h := hf c5
        refine z_bipush (v := (-3)) (pc' := 20) C dX11_lots_18 (by decide) rfl ?_
        exact z_iret C dX11_lots_20 h
    · have h := hf c3
      refine z_iconst (v := (-1)) (pc' := 8) C dX11_lots_7 (by decide) rfl ?_
      exact z_iret C dX11_lots_8 h
  exact fin
def vc_X11_lotter (σ : zMem) (a0 : Int32) (Q : Int32 → zMem → Prop) : Prop := vc_X11_isPlot σ a0 (fun r2 σ1 => ((¬ r2 = 0) → vp_in a0 24 ∧ (((σ1 25 0 a0.toNatClampNeg) = 0) → vc_X11_value σ1 a0 (fun σ6 => vc_X11_lotFor σ6 (fun r8 σ7 => Q (σ7 22 0 20) σ7))) ∧ ((¬ (σ1 25 0 a0.toNatClampNeg) = 0) → Q ((-3)) σ1)) ∧ ((r2 = 0) → Q ((-1)) σ1))
set_option maxHeartbeats 4000000 in
set_option maxRecDepth 100000 in
theorem sc_X11_lotter (l : Launch) (E : zE) (σ : zMem) (a0 : Int32) (Q : Int32 → zMem → Prop) (h : vc_X11_lotter σ a0 Q) : zMi l yX11_lotter cX11_lotter 3 .int 5 111 E [.ref (E.2.2 22 0), .int a0] σ Q := by
  refine zMi_of (by decide) (Nat.le_of_ble_eq_true rfl) ?_
  intro p e s m args below meth c C
  unfold vc_X11_lotter at h
  have fin : zG p l e (zRm 5 111) s m args below meth c 3 E 0 0 (MQ below (va_Qi Q (zPost E) (zA E s.heap.size)) args s 0 0 (zA E s.heap.size)) σ 0 [(0, .ref (E.2.2 22 0)), (1, .int a0)] [] := by
    refine z_iload_n (pc' := 1) C dX11_lotter_0 rfl 1 rfl rfl ?_
    refine z_callSi (pc' := 4) (st := []) (As := [.int a0]) C (sc_X11_isPlot l E σ a0 _ h) zwX11_121_X11_isPlot ztX11_121_X11_isPlot ⟨(Nat.le_of_ble_eq_true rfl), (Nat.le_of_ble_eq_true rfl)⟩ ⟨Nat.zero_le _, Nat.zero_le _⟩ rfl rfl (Nat.le_of_ble_eq_true rfl) dX11_lotter_1 rfl (fun r2 σ1 h => ?_)
    obtain ⟨ht, hf⟩ := h
    refine z_if_ne (tgt := 9) (pc' := 7) C dX11_lotter_4 (by decide) rfl (fun c3 => ?_) (fun c3 => ?_)
    · have h := ht c3
      refine z_aload_n (pc' := 10) C dX11_lotter_9 rfl 0 rfl rfl ?_
      refine zgX11_16 (pc' := 13) C zo22 dX11_lotter_10 rfl ?_
      refine z_iload_n (pc' := 14) C dX11_lotter_13 rfl 1 rfl rfl ?_
      obtain ⟨hv4, h⟩ := h
      refine z_zald (n := 24) (pc' := 15) C (zL_mem (by decide) zo25) (fun _ => rfl) hv4 dX11_lotter_14 rfl ?_
      obtain ⟨ht, hf⟩ := h
      refine z_if_eq (tgt := 21) (pc' := 18) C dX11_lotter_15 (by decide) rfl (fun c5 => ?_) (fun c5 => ?_)
      · have h := ht c5
        refine z_aload_n (pc' := 22) C dX11_lotter_21 rfl 0 rfl rfl ?_
        refine z_iload_n (pc' := 23) C dX11_lotter_22 rfl 1 rfl rfl ?_
        refine z_callVv (q := 22) (i := 0) (w9 := (RX11, TX11, 40)) (pc' := 26) (st := []) (As := [.int a0]) C (sc_X11_value l E σ1 a0 _ h) zwX11_168_X11_value zvX11_168_X11_value.1 zvX11_168_X11_value.2 (zL_mem (by decide) zo22) rfl rfl ⟨(Nat.le_of_ble_eq_true rfl), (Nat.le_of_ble_eq_true rfl)⟩ ⟨Nat.zero_le _, Nat.zero_le _⟩ rfl rfl (Nat.le_of_ble_eq_true rfl) dX11_lotter_23 rfl (fun σ6 h => ?_)
        refine z_aload_n (pc' := 27) C dX11_lotter_26 rfl 0 rfl rfl ?_
        refine z_callVi (q := 22) (i := 0) (w9 := (RX11, TX11, 40)) (pc' := 30) (st := []) (As := []) C (sc_X11_lotFor l E σ6  _ h) zwX11_175_X11_lotFor zvX11_175_X11_lotFor.1 zvX11_175_X11_lotFor.2 (zL_mem (by decide) zo22) rfl rfl ⟨(Nat.le_of_ble_eq_true rfl), (Nat.le_of_ble_eq_true rfl)⟩ ⟨Nat.zero_le _, Nat.zero_le _⟩ rfl rfl (Nat.le_of_ble_eq_true rfl) dX11_lotter_27 rfl (fun r8 σ7 h => ?_)
        refine z_istore_n (pc' := 31) (lv' := [(2, .int r8), (0, .ref (E.2.2 22 0)), (1, .int a0)]) C dX11_lotter_30 rfl (by decide) rfl rfl ?_
        refine z_aload_n (pc' := 32) C dX11_lotter_31 rfl 1 rfl rfl ?_
        refine zgX11_162 (pc' := 35) C zo22 dX11_lotter_32 rfl ?_
        exact z_iret C dX11_lotter_35 h
      · have h := hf c5
        refine z_bipush (v := (-3)) (pc' := 20) C dX11_lotter_18 (by decide) rfl ?_
        exact z_iret C dX11_lotter_20 h
    · have h := hf c3
      refine z_iconst (v := (-1)) (pc' := 8) C dX11_lotter_7 (by decide) rfl ?_
      exact z_iret C dX11_lotter_8 h
  exact fin
def vc_X11_ring_4 (Q : Int32 → zMem → Prop) : Nat → zMem → Int32 → Int32 → Prop
  | 0, _, _, _ => False
  | n + 1, σ, x1, x2 => ((24 ≤ x2) → Q x1 σ) ∧ ((¬ 24 ≤ x2) → vp_in x2 24 ∧ (((σ 25 0 x2.toNatClampNeg) = 0) → vc_X11_ring_4 Q n σ (x1 + 0) (x2 + 1)) ∧ ((¬ (σ 25 0 x2.toNatClampNeg) = 0) → vp_in x2 24 ∧ vp_in x2 24 ∧ vc_X11_ring_4 Q n σ (x1 + ((σ 27 0 x2.toNatClampNeg) - (σ 28 0 x2.toNatClampNeg))) (x2 + 1)))
def vc_X11_ring (σ : zMem) (Q : Int32 → zMem → Prop) : Prop := ∃ n1, vc_X11_ring_4 Q n1 σ 0 0
set_option maxHeartbeats 4000000 in
set_option maxRecDepth 100000 in
theorem sl_X11_ring_4 {p : Program} {l : Launch} {e : Env} {s : State} {m : MethodId} {args : Array Value} {below : List Frame} {meth : Method} {c : Code} {E : zE} (C : zX p s m args meth c cX11_ring 3 RX11 (some .int) E) (Q : Int32 → zMem → Prop) : ∀ (n : Nat) (σ : zMem) (x1 : Int32) (x2 : Int32), vc_X11_ring_4 Q n σ x1 x2 → zG p l e (zRm 0 0) s m args below meth c 3 E 0 0 (MQ below (va_Qi Q (zPost E) (zA E s.heap.size)) args s 0 0 (zA E s.heap.size)) σ 4 [(0, .ref (E.2.2 22 0)), (1, .int x1), (2, .int x2)] [] := by
  intro n
  induction n with
  | zero =>
    intro σ x1 x2 h
    exact False.elim h
  | succ n ih =>
    intro σ x1 x2 h
    rw [vc_X11_ring_4] at h
    refine z_iload_n (pc' := 5) C dX11_ring_4 rfl 2 rfl rfl ?_
    refine z_bipush (v := 24) (pc' := 7) C dX11_ring_5 (by decide) rfl ?_
    obtain ⟨ht, hf⟩ := h
    refine z_icmp_ge (tgt := 45) (pc' := 10) C dX11_ring_7 (by decide) rfl (fun c2 => ?_) (fun c2 => ?_)
    · have h := ht c2
      refine z_iload_n (pc' := 46) C dX11_ring_45 rfl 1 rfl rfl ?_
      exact z_iret C dX11_ring_46 h
    · have h := hf c2
      refine z_iload_n (pc' := 11) C dX11_ring_10 rfl 1 rfl rfl ?_
      refine z_aload_n (pc' := 12) C dX11_ring_11 rfl 0 rfl rfl ?_
      refine zgX11_16 (pc' := 15) C zo22 dX11_ring_12 rfl ?_
      refine z_iload_n (pc' := 16) C dX11_ring_15 rfl 2 rfl rfl ?_
      obtain ⟨hv3, h⟩ := h
      refine z_zald (n := 24) (pc' := 17) C (zL_mem (by decide) zo25) (fun _ => rfl) hv3 dX11_ring_16 rfl ?_
      obtain ⟨ht, hf⟩ := h
      refine z_if_eq (tgt := 36) (pc' := 20) C dX11_ring_17 (by decide) rfl (fun c4 => ?_) (fun c4 => ?_)
      · have h := ht c4
        refine z_iconst (v := 0) (pc' := 37) C dX11_ring_36 (by decide) rfl ?_
        refine z_iadd (pc' := 38) C dX11_ring_37 rfl ?_
        refine z_istore_n (pc' := 39) (lv' := [(1, .int (x1 + 0)), (0, .ref (E.2.2 22 0)), (2, .int x2)]) C dX11_ring_38 rfl (by decide) rfl rfl ?_
        refine z_iinc (j := 2) (v := x2 + 1) (pc' := 42) (lv' := [(2, .int (x2 + 1)), (1, .int (x1 + 0)), (0, .ref (E.2.2 22 0))]) C dX11_ring_39 rfl rfl (by decide) rfl rfl ?_
        refine z_goto (tgt := 4) C dX11_ring_42 (by decide) ?_
        refine z_sub (lv' := [(0, .ref (E.2.2 22 0)), (1, .int (x1 + 0)), (2, .int (x2 + 1))]) [2, 1, 0] rfl ?_
        exact ih _ _ _ h
      · have h := hf c4
        refine z_aload_n (pc' := 21) C dX11_ring_20 rfl 0 rfl rfl ?_
        refine zgX11_23 (pc' := 24) C zo22 dX11_ring_21 rfl ?_
        refine z_iload_n (pc' := 25) C dX11_ring_24 rfl 2 rfl rfl ?_
        obtain ⟨hv5, h⟩ := h
        refine z_iald (n := 24) (pc' := 26) C (zL_mem (by decide) zo27) (fun _ => rfl) hv5 dX11_ring_25 rfl ?_
        refine z_aload_n (pc' := 27) C dX11_ring_26 rfl 0 rfl rfl ?_
        refine zgX11_26 (pc' := 30) C zo22 dX11_ring_27 rfl ?_
        refine z_iload_n (pc' := 31) C dX11_ring_30 rfl 2 rfl rfl ?_
        obtain ⟨hv6, h⟩ := h
        refine z_iald (n := 24) (pc' := 32) C (zL_mem (by decide) zo28) (fun _ => rfl) hv6 dX11_ring_31 rfl ?_
        refine z_isub (pc' := 33) C dX11_ring_32 rfl ?_
        refine z_goto (tgt := 37) C dX11_ring_33 (by decide) ?_
        refine z_iadd (pc' := 38) C dX11_ring_37 rfl ?_
        refine z_istore_n (pc' := 39) (lv' := [(1, .int (x1 + ((σ 27 0 x2.toNatClampNeg) - (σ 28 0 x2.toNatClampNeg)))), (0, .ref (E.2.2 22 0)), (2, .int x2)]) C dX11_ring_38 rfl (by decide) rfl rfl ?_
        refine z_iinc (j := 2) (v := x2 + 1) (pc' := 42) (lv' := [(2, .int (x2 + 1)), (1, .int (x1 + ((σ 27 0 x2.toNatClampNeg) - (σ 28 0 x2.toNatClampNeg)))), (0, .ref (E.2.2 22 0))]) C dX11_ring_39 rfl rfl (by decide) rfl rfl ?_
        refine z_goto (tgt := 4) C dX11_ring_42 (by decide) ?_
        refine z_sub (lv' := [(0, .ref (E.2.2 22 0)), (1, .int (x1 + ((σ 27 0 x2.toNatClampNeg) - (σ 28 0 x2.toNatClampNeg)))), (2, .int (x2 + 1))]) [2, 1, 0] rfl ?_
        exact ih _ _ _ h
set_option maxHeartbeats 4000000 in
set_option maxRecDepth 100000 in
theorem sc_X11_ring (l : Launch) (E : zE) (σ : zMem) (Q : Int32 → zMem → Prop) (h : vc_X11_ring σ Q) : zMi l yX11_ring cX11_ring 3 .int 0 0 E [.ref (E.2.2 22 0)] σ Q := by
  refine zMi_of (by decide) (Nat.le_of_ble_eq_true rfl) ?_
  intro p e s m args below meth c C
  unfold vc_X11_ring at h
  have fin : zG p l e (zRm 0 0) s m args below meth c 3 E 0 0 (MQ below (va_Qi Q (zPost E) (zA E s.heap.size)) args s 0 0 (zA E s.heap.size)) σ 0 [(0, .ref (E.2.2 22 0))] [] := by
    refine z_iconst (v := 0) (pc' := 1) C dX11_ring_0 (by decide) rfl ?_
    refine z_istore_n (pc' := 2) (lv' := [(1, .int 0), (0, .ref (E.2.2 22 0))]) C dX11_ring_1 rfl (by decide) rfl rfl ?_
    refine z_iconst (v := 0) (pc' := 3) C dX11_ring_2 (by decide) rfl ?_
    refine z_istore_n (pc' := 4) (lv' := [(2, .int 0), (1, .int 0), (0, .ref (E.2.2 22 0))]) C dX11_ring_3 rfl (by decide) rfl rfl ?_
    obtain ⟨n1, h⟩ := h
    refine z_sub (lv' := [(0, .ref (E.2.2 22 0)), (1, .int 0), (2, .int 0)]) [2, 1, 0] rfl ?_
    exact sl_X11_ring_4 C Q n1 _ _ _ h
  exact fin
def vc_X11_standUp_2 (Q : zMem → Prop) : Nat → zMem → Int32 → Prop
  | 0, _, _ => False
  | n + 1, σ, x1 => ((24 ≤ x1) → Q σ) ∧ ((¬ 24 ≤ x1) → vc_X11_stands σ x1 (fun r4 σ3 => vp_in x1 24 ∧ vc_X11_standUp_2 Q n (um σ3 41 0 x1.toNatClampNeg (vp_nar .boolean r4)) (x1 + 1)))
def vc_X11_standUp (σ : zMem) (Q : zMem → Prop) : Prop := ∃ n1, vc_X11_standUp_2 Q n1 σ 0
set_option maxHeartbeats 4000000 in
set_option maxRecDepth 100000 in
theorem sl_X11_standUp_2 {p : Program} {l : Launch} {e : Env} {s : State} {m : MethodId} {args : Array Value} {below : List Frame} {meth : Method} {c : Code} {E : zE} (C : zX p s m args meth c cX11_standUp 2 RX11 none E) (Q : zMem → Prop) : ∀ (n : Nat) (σ : zMem) (x1 : Int32), vc_X11_standUp_2 Q n σ x1 → zG p l e (zRm 1 21) s m args below meth c 2 E 0 0 (MQ below (va_Qv Q (zPost E) (zA E s.heap.size)) args s 0 0 (zA E s.heap.size)) σ 2 [(0, .ref (E.2.2 22 0)), (1, .int x1)] [] := by
  intro n
  induction n with
  | zero =>
    intro σ x1 h
    exact False.elim h
  | succ n ih =>
    intro σ x1 h
    rw [vc_X11_standUp_2] at h
    refine z_iload_n (pc' := 3) C dX11_standUp_2 rfl 1 rfl rfl ?_
    refine z_bipush (v := 24) (pc' := 5) C dX11_standUp_3 (by decide) rfl ?_
    obtain ⟨ht, hf⟩ := h
    refine z_icmp_ge (tgt := 25) (pc' := 8) C dX11_standUp_5 (by decide) rfl (fun c2 => ?_) (fun c2 => ?_)
    · have h := ht c2
      exact z_vret C dX11_standUp_25 h
    · have h := hf c2
      refine z_aload_n (pc' := 9) C dX11_standUp_8 rfl 0 rfl rfl ?_
      refine zgX11_69 (pc' := 12) C zo22 dX11_standUp_9 rfl ?_
      refine z_iload_n (pc' := 13) C dX11_standUp_12 rfl 1 rfl rfl ?_
      refine z_aload_n (pc' := 14) C dX11_standUp_13 rfl 0 rfl rfl ?_
      refine z_iload_n (pc' := 15) C dX11_standUp_14 rfl 1 rfl rfl ?_
      refine z_callVi (q := 22) (i := 0) (w9 := (RX11, TX11, 40)) (pc' := 18) (st := [.int x1, .ref (E.2.2 41 0)]) (As := [.int x1]) C (sc_X11_stands l E σ x1 _ h) zwX11_136_X11_stands zvX11_136_X11_stands.1 zvX11_136_X11_stands.2 (zL_mem (by decide) zo22) rfl rfl ⟨(Nat.le_of_ble_eq_true rfl), (Nat.le_of_ble_eq_true rfl)⟩ ⟨Nat.zero_le _, Nat.zero_le _⟩ rfl rfl (Nat.le_of_ble_eq_true rfl) dX11_standUp_15 rfl (fun r4 σ3 h => ?_)
      obtain ⟨hv5, h⟩ := h
      refine z_zast (n := 24) (pc' := 19) C (zL_mem (by decide) zo41) (fun _ => rfl) hv5 dX11_standUp_18 rfl ?_
      refine z_iinc (j := 1) (v := x1 + 1) (pc' := 22) (lv' := [(1, .int (x1 + 1)), (0, .ref (E.2.2 22 0))]) C dX11_standUp_19 rfl rfl (by decide) rfl rfl ?_
      refine z_goto (tgt := 2) C dX11_standUp_22 (by decide) ?_
      refine z_sub (lv' := [(0, .ref (E.2.2 22 0)), (1, .int (x1 + 1))]) [1, 0] rfl ?_
      exact ih _ _ h
set_option maxHeartbeats 4000000 in
set_option maxRecDepth 100000 in
theorem sc_X11_standUp (l : Launch) (E : zE) (σ : zMem) (Q : zMem → Prop) (h : vc_X11_standUp σ Q) : zMv l yX11_standUp cX11_standUp 2 1 21 E [.ref (E.2.2 22 0)] σ Q := by
  refine zMv_of (by decide) (Nat.le_of_ble_eq_true rfl) ?_
  intro p e s m args below meth c C
  unfold vc_X11_standUp at h
  have fin : zG p l e (zRm 1 21) s m args below meth c 2 E 0 0 (MQ below (va_Qv Q (zPost E) (zA E s.heap.size)) args s 0 0 (zA E s.heap.size)) σ 0 [(0, .ref (E.2.2 22 0))] [] := by
    refine z_iconst (v := 0) (pc' := 1) C dX11_standUp_0 (by decide) rfl ?_
    refine z_istore_n (pc' := 2) (lv' := [(1, .int 0), (0, .ref (E.2.2 22 0))]) C dX11_standUp_1 rfl (by decide) rfl rfl ?_
    obtain ⟨n1, h⟩ := h
    refine z_sub (lv' := [(0, .ref (E.2.2 22 0)), (1, .int 0)]) [1, 0] rfl ?_
    exact sl_X11_standUp_2 C Q n1 _ _ h
  exact fin
def vc_X11_wayFrom_50 (x1 : Int32) (x3 : Int32) (Q : Int32 → zMem → Prop) (K33 : zMem → Int32 → Prop) (K41 : zMem → Int32 → Int32 → Prop) : Nat → zMem → Int32 → Int32 → Prop
  | 0, _, _, _ => False
  | n + 1, σ, x2, x4 => ((24 ≤ x4) → K41 σ x2 (x3 + 1)) ∧ ((¬ 24 ≤ x4) → vc_X11_steps σ x3 x4 (fun r11 σ10 => ((r11 = 1) → vp_in x3 24 ∧ vp_in x4 24 ∧ (((σ10 41 0 x4.toNatClampNeg) = 0) → ((x4 = x1) → vc_X11_wayFrom_50 x1 x3 Q K33 K41 n σ10 x2 (x4 + 1)) ∧ ((¬ x4 = x1) → vp_in x4 24 ∧ (((σ10 40 0 x4.toNatClampNeg) ≤ ((σ10 40 0 x3.toNatClampNeg) + 0)) → vc_X11_wayFrom_50 x1 x3 Q K33 K41 n σ10 x2 (x4 + 1)) ∧ ((¬ (σ10 40 0 x4.toNatClampNeg) ≤ ((σ10 40 0 x3.toNatClampNeg) + 0)) → vp_in x4 24 ∧ vc_X11_wayFrom_50 x1 x3 Q K33 K41 n (um σ10 40 0 x4.toNatClampNeg ((σ10 40 0 x3.toNatClampNeg) + 0)) 1 (x4 + 1)))) ∧ ((¬ (σ10 41 0 x4.toNatClampNeg) = 0) → vp_in x4 24 ∧ ((x4 = x1) → vc_X11_wayFrom_50 x1 x3 Q K33 K41 n σ10 x2 (x4 + 1)) ∧ ((¬ x4 = x1) → vp_in x4 24 ∧ (((σ10 40 0 x4.toNatClampNeg) ≤ ((σ10 40 0 x3.toNatClampNeg) + ((σ10 24 0 x4.toNatClampNeg) / 10))) → vc_X11_wayFrom_50 x1 x3 Q K33 K41 n σ10 x2 (x4 + 1)) ∧ ((¬ (σ10 40 0 x4.toNatClampNeg) ≤ ((σ10 40 0 x3.toNatClampNeg) + ((σ10 24 0 x4.toNatClampNeg) / 10))) → vp_in x4 24 ∧ vc_X11_wayFrom_50 x1 x3 Q K33 K41 n (um σ10 40 0 x4.toNatClampNeg ((σ10 40 0 x3.toNatClampNeg) + ((σ10 24 0 x4.toNatClampNeg) / 10))) 1 (x4 + 1))))) ∧ ((¬ r11 = 1) → vc_X11_wayFrom_50 x1 x3 Q K33 K41 n σ10 x2 (x4 + 1))))
def vc_X11_wayFrom_41 (x1 : Int32) (Q : Int32 → zMem → Prop) (K33 : zMem → Int32 → Prop) : Nat → zMem → Int32 → Int32 → Prop
  | 0, _, _, _ => False
  | n + 1, σ, x2, x3 => ((24 ≤ x3) → K33 σ x2) ∧ ((¬ 24 ≤ x3) → ∃ n8, vc_X11_wayFrom_50 x1 x3 Q (K33) (vc_X11_wayFrom_41 x1 Q K33 n) n8 σ x2 0)
def vc_X11_wayFrom_33 (x1 : Int32) (Q : Int32 → zMem → Prop) : Nat → zMem → Int32 → Prop
  | 0, _, _ => False
  | n + 1, σ, x2 => ((x2 = 0) → vp_in 0 24 ∧ Q (σ 40 0 (0 : Int32).toNatClampNeg) σ) ∧ ((¬ x2 = 0) → ∃ n6, vc_X11_wayFrom_41 x1 Q (vc_X11_wayFrom_33 x1 Q n) n6 σ 0 0)
def vc_X11_wayFrom_2 (x1 : Int32) (Q : Int32 → zMem → Prop) : Nat → zMem → Int32 → Prop
  | 0, _, _ => False
  | n + 1, σ, x2 => ((24 ≤ x2) → ∃ n3, vc_X11_wayFrom_33 x1 Q n3 σ 1) ∧ ((¬ 24 ≤ x2) → ((¬ x2 = x1) → vp_in x2 24 ∧ vc_X11_wayFrom_2 x1 Q n (um σ 40 0 x2.toNatClampNeg 1000000) (x2 + 1)) ∧ ((x2 = x1) → vp_in x2 24 ∧ vc_X11_wayFrom_2 x1 Q n (um σ 40 0 x2.toNatClampNeg 0) (x2 + 1)))
def vc_X11_wayFrom (σ : zMem) (a0 : Int32) (Q : Int32 → zMem → Prop) : Prop := ∃ n1, vc_X11_wayFrom_2 a0 Q n1 σ 0
set_option maxHeartbeats 4000000 in
set_option maxRecDepth 100000 in
theorem sl_X11_wayFrom_50 {p : Program} {l : Launch} {e : Env} {s : State} {m : MethodId} {args : Array Value} {below : List Frame} {meth : Method} {c : Code} {E : zE} (C : zX p s m args meth c cX11_wayFrom 6 RX11 (some .int) E) (x1 : Int32) (x3 : Int32) (Q : Int32 → zMem → Prop) {K33 : zMem → Int32 → Prop} {K41 : zMem → Int32 → Int32 → Prop} (hK33 : ∀ (σ : zMem) (y2 : Int32), K33 σ y2 → zG p l e (zRm 2 42) s m args below meth c 6 E 0 0 (MQ below (va_Qi Q (zPost E) (zA E s.heap.size)) args s 0 0 (zA E s.heap.size)) σ 33 [(0, .ref (E.2.2 22 0)), (1, .int x1), (2, .int y2)] []) (hK41 : ∀ (σ : zMem) (y2 : Int32) (y3 : Int32), K41 σ y2 y3 → zG p l e (zRm 2 42) s m args below meth c 6 E 0 0 (MQ below (va_Qi Q (zPost E) (zA E s.heap.size)) args s 0 0 (zA E s.heap.size)) σ 41 [(0, .ref (E.2.2 22 0)), (1, .int x1), (2, .int y2), (3, .int y3)] []) : ∀ (n : Nat) (σ : zMem) (x2 : Int32) (x4 : Int32), vc_X11_wayFrom_50 x1 x3 Q K33 K41 n σ x2 x4 → zG p l e (zRm 2 42) s m args below meth c 6 E 0 0 (MQ below (va_Qi Q (zPost E) (zA E s.heap.size)) args s 0 0 (zA E s.heap.size)) σ 50 [(0, .ref (E.2.2 22 0)), (1, .int x1), (2, .int x2), (3, .int x3), (4, .int x4)] [] := by
  intro n
  induction n with
  | zero =>
    intro σ x2 x4 h
    exact False.elim h
  | succ n ih =>
    intro σ x2 x4 h
    rw [vc_X11_wayFrom_50] at h
    refine z_iload (pc' := 52) C dX11_wayFrom_50 4 rfl rfl ?_
    refine z_bipush (v := 24) (pc' := 54) C dX11_wayFrom_52 (by decide) rfl ?_
    obtain ⟨ht, hf⟩ := h
    refine z_icmp_ge (tgt := 138) (pc' := 57) C dX11_wayFrom_54 (by decide) rfl (fun c9 => ?_) (fun c9 => ?_)
    · have h := ht c9
      refine z_iinc (j := 3) (v := x3 + 1) (pc' := 141) (lv' := [(3, .int (x3 + 1)), (0, .ref (E.2.2 22 0)), (1, .int x1), (2, .int x2), (4, .int x4)]) C dX11_wayFrom_138 rfl rfl (by decide) rfl rfl ?_
      refine z_goto (tgt := 41) C dX11_wayFrom_141 (by decide) ?_
      refine z_sub (lv' := [(0, .ref (E.2.2 22 0)), (1, .int x1), (2, .int x2), (3, .int (x3 + 1))]) [1, 2, 3, 0] rfl ?_
      exact hK41 _ _ _ h
    · have h := hf c9
      refine z_iload_n (pc' := 58) C dX11_wayFrom_57 rfl 3 rfl rfl ?_
      refine z_iload (pc' := 60) C dX11_wayFrom_58 4 rfl rfl ?_
      refine z_callSi (pc' := 63) (st := []) (As := [.int x3, .int x4]) C (sc_X11_steps l E σ x3 x4 _ h) zwX11_153_X11_steps ztX11_153_X11_steps ⟨(Nat.le_of_ble_eq_true rfl), (Nat.le_of_ble_eq_true rfl)⟩ ⟨Nat.zero_le _, Nat.zero_le _⟩ rfl rfl (Nat.le_of_ble_eq_true rfl) dX11_wayFrom_60 rfl (fun r11 σ10 h => ?_)
      refine z_iconst (v := 1) (pc' := 64) C dX11_wayFrom_63 (by decide) rfl ?_
      obtain ⟨ht, hf⟩ := h
      refine z_icmp_eq (tgt := 70) (pc' := 67) C dX11_wayFrom_64 (by decide) rfl (fun c12 => ?_) (fun c12 => ?_)
      · have h := ht c12
        refine z_aload_n (pc' := 71) C dX11_wayFrom_70 rfl 0 rfl rfl ?_
        refine zgX11_66 (pc' := 74) C zo22 dX11_wayFrom_71 rfl ?_
        refine z_iload_n (pc' := 75) C dX11_wayFrom_74 rfl 3 rfl rfl ?_
        obtain ⟨hv13, h⟩ := h
        refine z_iald (n := 24) (pc' := 76) C (zL_mem (by decide) zo40) (fun _ => rfl) hv13 dX11_wayFrom_75 rfl ?_
        refine z_aload_n (pc' := 77) C dX11_wayFrom_76 rfl 0 rfl rfl ?_
        refine zgX11_69 (pc' := 80) C zo22 dX11_wayFrom_77 rfl ?_
        refine z_iload (pc' := 82) C dX11_wayFrom_80 4 rfl rfl ?_
        obtain ⟨hv14, h⟩ := h
        refine z_zald (n := 24) (pc' := 83) C (zL_mem (by decide) zo41) (fun _ => rfl) hv14 dX11_wayFrom_82 rfl ?_
        obtain ⟨ht, hf⟩ := h
        refine z_if_eq (tgt := 99) (pc' := 86) C dX11_wayFrom_83 (by decide) rfl (fun c15 => ?_) (fun c15 => ?_)
        · have h := ht c15
          refine z_iconst (v := 0) (pc' := 100) C dX11_wayFrom_99 (by decide) rfl ?_
          refine z_iadd (pc' := 101) C dX11_wayFrom_100 rfl ?_
          refine z_istore (pc' := 103) (lv' := [(5, .int ((σ10 40 0 x3.toNatClampNeg) + 0)), (0, .ref (E.2.2 22 0)), (1, .int x1), (2, .int x2), (3, .int x3), (4, .int x4)]) C dX11_wayFrom_101 (by decide) rfl rfl ?_
          refine z_iload (pc' := 105) C dX11_wayFrom_103 5 rfl rfl ?_
          refine z_iload_n (pc' := 106) C dX11_wayFrom_105 rfl 2 rfl rfl ?_
          obtain ⟨ht, hf⟩ := h
          refine z_icmp_eq (tgt := 132) (pc' := 109) C dX11_wayFrom_106 (by decide) rfl (fun c16 => ?_) (fun c16 => ?_)
          · have h := ht c16
            refine z_iinc (j := 5) (v := x4 + 1) (pc' := 135) (lv' := [(4, .int (x4 + 1)), (5, .int ((σ10 40 0 x3.toNatClampNeg) + 0)), (0, .ref (E.2.2 22 0)), (1, .int x1), (2, .int x2), (3, .int x3)]) C dX11_wayFrom_132 rfl rfl (by decide) rfl rfl ?_
            refine z_goto (tgt := 50) C dX11_wayFrom_135 (by decide) ?_
            refine z_sub (lv' := [(0, .ref (E.2.2 22 0)), (1, .int x1), (2, .int x2), (3, .int x3), (4, .int (x4 + 1))]) [2, 3, 4, 5, 0] rfl ?_
            exact ih _ _ _ h
          · have h := hf c16
            refine z_iload (pc' := 111) C dX11_wayFrom_109 0 rfl rfl ?_
            refine z_aload_n (pc' := 112) C dX11_wayFrom_111 rfl 1 rfl rfl ?_
            refine zgX11_66 (pc' := 115) C zo22 dX11_wayFrom_112 rfl ?_
            refine z_iload (pc' := 117) C dX11_wayFrom_115 5 rfl rfl ?_
            obtain ⟨hv17, h⟩ := h
            refine z_iald (n := 24) (pc' := 118) C (zL_mem (by decide) zo40) (fun _ => rfl) hv17 dX11_wayFrom_117 rfl ?_
            obtain ⟨ht, hf⟩ := h
            refine z_icmp_ge (tgt := 132) (pc' := 121) C dX11_wayFrom_118 (by decide) rfl (fun c18 => ?_) (fun c18 => ?_)
            · have h := ht c18
              refine z_iinc (j := 5) (v := x4 + 1) (pc' := 135) (lv' := [(4, .int (x4 + 1)), (5, .int ((σ10 40 0 x3.toNatClampNeg) + 0)), (0, .ref (E.2.2 22 0)), (1, .int x1), (2, .int x2), (3, .int x3)]) C dX11_wayFrom_132 rfl rfl (by decide) rfl rfl ?_
              refine z_goto (tgt := 50) C dX11_wayFrom_135 (by decide) ?_
              refine z_sub (lv' := [(0, .ref (E.2.2 22 0)), (1, .int x1), (2, .int x2), (3, .int x3), (4, .int (x4 + 1))]) [2, 3, 4, 5, 0] rfl ?_
              exact ih _ _ _ h
            · have h := hf c18
              refine z_aload_n (pc' := 122) C dX11_wayFrom_121 rfl 1 rfl rfl ?_
              refine zgX11_66 (pc' := 125) C zo22 dX11_wayFrom_122 rfl ?_
              refine z_iload (pc' := 127) C dX11_wayFrom_125 5 rfl rfl ?_
              refine z_iload (pc' := 129) C dX11_wayFrom_127 0 rfl rfl ?_
              obtain ⟨hv19, h⟩ := h
              refine z_iast (n := 24) (pc' := 130) C (zL_mem (by decide) zo40) (fun _ => rfl) hv19 dX11_wayFrom_129 rfl ?_
              refine z_iconst (v := 1) (pc' := 131) C dX11_wayFrom_130 (by decide) rfl ?_
              refine z_istore_n (pc' := 132) (lv' := [(2, .int 1), (5, .int ((σ10 40 0 x3.toNatClampNeg) + 0)), (0, .ref (E.2.2 22 0)), (1, .int x1), (3, .int x3), (4, .int x4)]) C dX11_wayFrom_131 rfl (by decide) rfl rfl ?_
              refine z_iinc (j := 5) (v := x4 + 1) (pc' := 135) (lv' := [(4, .int (x4 + 1)), (2, .int 1), (5, .int ((σ10 40 0 x3.toNatClampNeg) + 0)), (0, .ref (E.2.2 22 0)), (1, .int x1), (3, .int x3)]) C dX11_wayFrom_132 rfl rfl (by decide) rfl rfl ?_
              refine z_goto (tgt := 50) C dX11_wayFrom_135 (by decide) ?_
              refine z_sub (lv' := [(0, .ref (E.2.2 22 0)), (1, .int x1), (2, .int 1), (3, .int x3), (4, .int (x4 + 1))]) [3, 4, 1, 5, 0] rfl ?_
              exact ih _ _ _ h
        · have h := hf c15
          refine z_aload_n (pc' := 87) C dX11_wayFrom_86 rfl 0 rfl rfl ?_
          refine zgX11_13 (pc' := 90) C zo22 dX11_wayFrom_87 rfl ?_
          refine z_iload (pc' := 92) C dX11_wayFrom_90 4 rfl rfl ?_
          obtain ⟨hv20, h⟩ := h
          refine z_iald (n := 24) (pc' := 93) C (zL_mem (by decide) zo24) (fun _ => rfl) hv20 dX11_wayFrom_92 rfl ?_
          refine z_bipush (v := 10) (pc' := 95) C dX11_wayFrom_93 (by decide) rfl ?_
          refine z_idiv (pc' := 96) C dX11_wayFrom_95 (by decide) rfl ?_
          refine z_goto (tgt := 100) C dX11_wayFrom_96 (by decide) ?_
          refine z_iadd (pc' := 101) C dX11_wayFrom_100 rfl ?_
          refine z_istore (pc' := 103) (lv' := [(5, .int ((σ10 40 0 x3.toNatClampNeg) + ((σ10 24 0 x4.toNatClampNeg) / 10))), (0, .ref (E.2.2 22 0)), (1, .int x1), (2, .int x2), (3, .int x3), (4, .int x4)]) C dX11_wayFrom_101 (by decide) rfl rfl ?_
          refine z_iload (pc' := 105) C dX11_wayFrom_103 5 rfl rfl ?_
          refine z_iload_n (pc' := 106) C dX11_wayFrom_105 rfl 2 rfl rfl ?_
          obtain ⟨ht, hf⟩ := h
          refine z_icmp_eq (tgt := 132) (pc' := 109) C dX11_wayFrom_106 (by decide) rfl (fun c21 => ?_) (fun c21 => ?_)
          · have h := ht c21
            refine z_iinc (j := 5) (v := x4 + 1) (pc' := 135) (lv' := [(4, .int (x4 + 1)), (5, .int ((σ10 40 0 x3.toNatClampNeg) + ((σ10 24 0 x4.toNatClampNeg) / 10))), (0, .ref (E.2.2 22 0)), (1, .int x1), (2, .int x2), (3, .int x3)]) C dX11_wayFrom_132 rfl rfl (by decide) rfl rfl ?_
            refine z_goto (tgt := 50) C dX11_wayFrom_135 (by decide) ?_
            refine z_sub (lv' := [(0, .ref (E.2.2 22 0)), (1, .int x1), (2, .int x2), (3, .int x3), (4, .int (x4 + 1))]) [2, 3, 4, 5, 0] rfl ?_
            exact ih _ _ _ h
          · have h := hf c21
            refine z_iload (pc' := 111) C dX11_wayFrom_109 0 rfl rfl ?_
            refine z_aload_n (pc' := 112) C dX11_wayFrom_111 rfl 1 rfl rfl ?_
            refine zgX11_66 (pc' := 115) C zo22 dX11_wayFrom_112 rfl ?_
            refine z_iload (pc' := 117) C dX11_wayFrom_115 5 rfl rfl ?_
            obtain ⟨hv22, h⟩ := h
            refine z_iald (n := 24) (pc' := 118) C (zL_mem (by decide) zo40) (fun _ => rfl) hv22 dX11_wayFrom_117 rfl ?_
            obtain ⟨ht, hf⟩ := h
            refine z_icmp_ge (tgt := 132) (pc' := 121) C dX11_wayFrom_118 (by decide) rfl (fun c23 => ?_) (fun c23 => ?_)
            · have h := ht c23
              refine z_iinc (j := 5) (v := x4 + 1) (pc' := 135) (lv' := [(4, .int (x4 + 1)), (5, .int ((σ10 40 0 x3.toNatClampNeg) + ((σ10 24 0 x4.toNatClampNeg) / 10))), (0, .ref (E.2.2 22 0)), (1, .int x1), (2, .int x2), (3, .int x3)]) C dX11_wayFrom_132 rfl rfl (by decide) rfl rfl ?_
              refine z_goto (tgt := 50) C dX11_wayFrom_135 (by decide) ?_
              refine z_sub (lv' := [(0, .ref (E.2.2 22 0)), (1, .int x1), (2, .int x2), (3, .int x3), (4, .int (x4 + 1))]) [2, 3, 4, 5, 0] rfl ?_
              exact ih _ _ _ h
            · have h := hf c23
              refine z_aload_n (pc' := 122) C dX11_wayFrom_121 rfl 1 rfl rfl ?_
              refine zgX11_66 (pc' := 125) C zo22 dX11_wayFrom_122 rfl ?_
              refine z_iload (pc' := 127) C dX11_wayFrom_125 5 rfl rfl ?_
              refine z_iload (pc' := 129) C dX11_wayFrom_127 0 rfl rfl ?_
              obtain ⟨hv24, h⟩ := h
              refine z_iast (n := 24) (pc' := 130) C (zL_mem (by decide) zo40) (fun _ => rfl) hv24 dX11_wayFrom_129 rfl ?_
              refine z_iconst (v := 1) (pc' := 131) C dX11_wayFrom_130 (by decide) rfl ?_
              refine z_istore_n (pc' := 132) (lv' := [(2, .int 1), (5, .int ((σ10 40 0 x3.toNatClampNeg) + ((σ10 24 0 x4.toNatClampNeg) / 10))), (0, .ref (E.2.2 22 0)), (1, .int x1), (3, .int x3), (4, .int x4)]) C dX11_wayFrom_131 rfl (by decide) rfl rfl ?_
              refine z_iinc (j := 5) (v := x4 + 1) (pc' := 135) (lv' := [(4, .int (x4 + 1)), (2, .int 1), (5, .int ((σ10 40 0 x3.toNatClampNeg) + ((σ10 24 0 x4.toNatClampNeg) / 10))), (0, .ref (E.2.2 22 0)), (1, .int x1), (3, .int x3)]) C dX11_wayFrom_132 rfl rfl (by decide) rfl rfl ?_
              refine z_goto (tgt := 50) C dX11_wayFrom_135 (by decide) ?_
              refine z_sub (lv' := [(0, .ref (E.2.2 22 0)), (1, .int x1), (2, .int 1), (3, .int x3), (4, .int (x4 + 1))]) [3, 4, 1, 5, 0] rfl ?_
              exact ih _ _ _ h
      · have h := hf c12
        refine z_goto (tgt := 132) C dX11_wayFrom_67 (by decide) ?_
        refine z_iinc (j := 4) (v := x4 + 1) (pc' := 135) (lv' := [(4, .int (x4 + 1)), (0, .ref (E.2.2 22 0)), (1, .int x1), (2, .int x2), (3, .int x3)]) C dX11_wayFrom_132 rfl rfl (by decide) rfl rfl ?_
        refine z_goto (tgt := 50) C dX11_wayFrom_135 (by decide) ?_
        refine z_sub (lv' := [(0, .ref (E.2.2 22 0)), (1, .int x1), (2, .int x2), (3, .int x3), (4, .int (x4 + 1))]) [1, 2, 3, 4, 0] rfl ?_
        exact ih _ _ _ h
set_option maxHeartbeats 4000000 in
set_option maxRecDepth 100000 in
theorem sl_X11_wayFrom_41 {p : Program} {l : Launch} {e : Env} {s : State} {m : MethodId} {args : Array Value} {below : List Frame} {meth : Method} {c : Code} {E : zE} (C : zX p s m args meth c cX11_wayFrom 6 RX11 (some .int) E) (x1 : Int32) (Q : Int32 → zMem → Prop) {K33 : zMem → Int32 → Prop} (hK33 : ∀ (σ : zMem) (y2 : Int32), K33 σ y2 → zG p l e (zRm 2 42) s m args below meth c 6 E 0 0 (MQ below (va_Qi Q (zPost E) (zA E s.heap.size)) args s 0 0 (zA E s.heap.size)) σ 33 [(0, .ref (E.2.2 22 0)), (1, .int x1), (2, .int y2)] []) : ∀ (n : Nat) (σ : zMem) (x2 : Int32) (x3 : Int32), vc_X11_wayFrom_41 x1 Q K33 n σ x2 x3 → zG p l e (zRm 2 42) s m args below meth c 6 E 0 0 (MQ below (va_Qi Q (zPost E) (zA E s.heap.size)) args s 0 0 (zA E s.heap.size)) σ 41 [(0, .ref (E.2.2 22 0)), (1, .int x1), (2, .int x2), (3, .int x3)] [] := by
  intro n
  induction n with
  | zero =>
    intro σ x2 x3 h
    exact False.elim h
  | succ n ih =>
    intro σ x2 x3 h
    rw [vc_X11_wayFrom_41] at h
    refine z_iload_n (pc' := 42) C dX11_wayFrom_41 rfl 3 rfl rfl ?_
    refine z_bipush (v := 24) (pc' := 44) C dX11_wayFrom_42 (by decide) rfl ?_
    obtain ⟨ht, hf⟩ := h
    refine z_icmp_ge (tgt := 144) (pc' := 47) C dX11_wayFrom_44 (by decide) rfl (fun c7 => ?_) (fun c7 => ?_)
    · have h := ht c7
      refine z_goto (tgt := 33) C dX11_wayFrom_144 (by decide) ?_
      refine z_sub (lv' := [(0, .ref (E.2.2 22 0)), (1, .int x1), (2, .int x2)]) [0, 1, 2] rfl ?_
      exact hK33 _ _ h
    · have h := hf c7
      refine z_iconst (v := 0) (pc' := 48) C dX11_wayFrom_47 (by decide) rfl ?_
      refine z_istore (pc' := 50) (lv' := [(4, .int 0), (0, .ref (E.2.2 22 0)), (1, .int x1), (2, .int x2), (3, .int x3)]) C dX11_wayFrom_48 (by decide) rfl rfl ?_
      obtain ⟨n8, h⟩ := h
      refine z_sub (lv' := [(0, .ref (E.2.2 22 0)), (1, .int x1), (2, .int x2), (3, .int x3), (4, .int 0)]) [1, 2, 3, 4, 0] rfl ?_
      exact sl_X11_wayFrom_50 C x1 x3 Q (fun y0 y1 h => hK33 y0 y1 h) (fun y0 y1 y2 h => ih y0 y1 y2 h) n8 _ _ _ h
set_option maxHeartbeats 4000000 in
set_option maxRecDepth 100000 in
theorem sl_X11_wayFrom_33 {p : Program} {l : Launch} {e : Env} {s : State} {m : MethodId} {args : Array Value} {below : List Frame} {meth : Method} {c : Code} {E : zE} (C : zX p s m args meth c cX11_wayFrom 6 RX11 (some .int) E) (x1 : Int32) (Q : Int32 → zMem → Prop) : ∀ (n : Nat) (σ : zMem) (x2 : Int32), vc_X11_wayFrom_33 x1 Q n σ x2 → zG p l e (zRm 2 42) s m args below meth c 6 E 0 0 (MQ below (va_Qi Q (zPost E) (zA E s.heap.size)) args s 0 0 (zA E s.heap.size)) σ 33 [(0, .ref (E.2.2 22 0)), (1, .int x1), (2, .int x2)] [] := by
  intro n
  induction n with
  | zero =>
    intro σ x2 h
    exact False.elim h
  | succ n ih =>
    intro σ x2 h
    rw [vc_X11_wayFrom_33] at h
    refine z_iload_n (pc' := 34) C dX11_wayFrom_33 rfl 2 rfl rfl ?_
    obtain ⟨ht, hf⟩ := h
    refine z_if_eq (tgt := 147) (pc' := 37) C dX11_wayFrom_34 (by decide) rfl (fun c4 => ?_) (fun c4 => ?_)
    · have h := ht c4
      refine z_aload_n (pc' := 148) C dX11_wayFrom_147 rfl 0 rfl rfl ?_
      refine zgX11_66 (pc' := 151) C zo22 dX11_wayFrom_148 rfl ?_
      refine z_iconst (v := 0) (pc' := 152) C dX11_wayFrom_151 (by decide) rfl ?_
      obtain ⟨hv5, h⟩ := h
      refine z_iald (n := 24) (pc' := 153) C (zL_mem (by decide) zo40) (fun _ => rfl) hv5 dX11_wayFrom_152 rfl ?_
      exact z_iret C dX11_wayFrom_153 h
    · have h := hf c4
      refine z_iconst (v := 0) (pc' := 38) C dX11_wayFrom_37 (by decide) rfl ?_
      refine z_istore_n (pc' := 39) (lv' := [(2, .int 0), (0, .ref (E.2.2 22 0)), (1, .int x1)]) C dX11_wayFrom_38 rfl (by decide) rfl rfl ?_
      refine z_iconst (v := 0) (pc' := 40) C dX11_wayFrom_39 (by decide) rfl ?_
      refine z_istore_n (pc' := 41) (lv' := [(3, .int 0), (2, .int 0), (0, .ref (E.2.2 22 0)), (1, .int x1)]) C dX11_wayFrom_40 rfl (by decide) rfl rfl ?_
      obtain ⟨n6, h⟩ := h
      refine z_sub (lv' := [(0, .ref (E.2.2 22 0)), (1, .int x1), (2, .int 0), (3, .int 0)]) [2, 3, 1, 0] rfl ?_
      exact sl_X11_wayFrom_41 C x1 Q (fun y0 y1 h => ih y0 y1 h) n6 _ _ _ h
set_option maxHeartbeats 4000000 in
set_option maxRecDepth 100000 in
theorem sl_X11_wayFrom_2 {p : Program} {l : Launch} {e : Env} {s : State} {m : MethodId} {args : Array Value} {below : List Frame} {meth : Method} {c : Code} {E : zE} (C : zX p s m args meth c cX11_wayFrom 6 RX11 (some .int) E) (x1 : Int32) (Q : Int32 → zMem → Prop) : ∀ (n : Nat) (σ : zMem) (x2 : Int32), vc_X11_wayFrom_2 x1 Q n σ x2 → zG p l e (zRm 2 42) s m args below meth c 6 E 0 0 (MQ below (va_Qi Q (zPost E) (zA E s.heap.size)) args s 0 0 (zA E s.heap.size)) σ 2 [(0, .ref (E.2.2 22 0)), (1, .int x1), (2, .int x2)] [] := by
  intro n
  induction n with
  | zero =>
    intro σ x2 h
    exact False.elim h
  | succ n ih =>
    intro σ x2 h
    rw [vc_X11_wayFrom_2] at h
    refine z_iload_n (pc' := 3) C dX11_wayFrom_2 rfl 2 rfl rfl ?_
    refine z_bipush (v := 24) (pc' := 5) C dX11_wayFrom_3 (by decide) rfl ?_
    obtain ⟨ht, hf⟩ := h
    refine z_icmp_ge (tgt := 31) (pc' := 8) C dX11_wayFrom_5 (by decide) rfl (fun c2 => ?_) (fun c2 => ?_)
    · have h := ht c2
      refine z_iconst (v := 1) (pc' := 32) C dX11_wayFrom_31 (by decide) rfl ?_
      refine z_istore_n (pc' := 33) (lv' := [(2, .int 1), (0, .ref (E.2.2 22 0)), (1, .int x1)]) C dX11_wayFrom_32 rfl (by decide) rfl rfl ?_
      obtain ⟨n3, h⟩ := h
      refine z_sub (lv' := [(0, .ref (E.2.2 22 0)), (1, .int x1), (2, .int 1)]) [1, 2, 0] rfl ?_
      exact sl_X11_wayFrom_33 C x1 Q n3 _ _ h
    · have h := hf c2
      refine z_aload_n (pc' := 9) C dX11_wayFrom_8 rfl 0 rfl rfl ?_
      refine zgX11_66 (pc' := 12) C zo22 dX11_wayFrom_9 rfl ?_
      refine z_iload_n (pc' := 13) C dX11_wayFrom_12 rfl 2 rfl rfl ?_
      refine z_iload_n (pc' := 14) C dX11_wayFrom_13 rfl 2 rfl rfl ?_
      refine z_iload_n (pc' := 15) C dX11_wayFrom_14 rfl 1 rfl rfl ?_
      obtain ⟨ht, hf⟩ := h
      refine z_icmp_ne (tgt := 22) (pc' := 18) C dX11_wayFrom_15 (by decide) rfl (fun c25 => ?_) (fun c25 => ?_)
      · have h := ht c25
        refine z_ldc (v := 1000000) (pc' := 24) C (zr22 _ (List.mem_of_getElem? (i := 11) rfl)) dX11_wayFrom_22 rfl ?_
        obtain ⟨hv26, h⟩ := h
        refine z_iast (n := 24) (pc' := 25) C (zL_mem (by decide) zo40) (fun _ => rfl) hv26 dX11_wayFrom_24 rfl ?_
        refine z_iinc (j := 2) (v := x2 + 1) (pc' := 28) (lv' := [(2, .int (x2 + 1)), (0, .ref (E.2.2 22 0)), (1, .int x1)]) C dX11_wayFrom_25 rfl rfl (by decide) rfl rfl ?_
        refine z_goto (tgt := 2) C dX11_wayFrom_28 (by decide) ?_
        refine z_sub (lv' := [(0, .ref (E.2.2 22 0)), (1, .int x1), (2, .int (x2 + 1))]) [1, 2, 0] rfl ?_
        exact ih _ _ h
      · have h := hf c25
        refine z_iconst (v := 0) (pc' := 19) C dX11_wayFrom_18 (by decide) rfl ?_
        refine z_goto (tgt := 24) C dX11_wayFrom_19 (by decide) ?_
        obtain ⟨hv27, h⟩ := h
        refine z_iast (n := 24) (pc' := 25) C (zL_mem (by decide) zo40) (fun _ => rfl) hv27 dX11_wayFrom_24 rfl ?_
        refine z_iinc (j := 2) (v := x2 + 1) (pc' := 28) (lv' := [(2, .int (x2 + 1)), (0, .ref (E.2.2 22 0)), (1, .int x1)]) C dX11_wayFrom_25 rfl rfl (by decide) rfl rfl ?_
        refine z_goto (tgt := 2) C dX11_wayFrom_28 (by decide) ?_
        refine z_sub (lv' := [(0, .ref (E.2.2 22 0)), (1, .int x1), (2, .int (x2 + 1))]) [1, 2, 0] rfl ?_
        exact ih _ _ h
set_option maxHeartbeats 4000000 in
set_option maxRecDepth 100000 in
theorem sc_X11_wayFrom (l : Launch) (E : zE) (σ : zMem) (a0 : Int32) (Q : Int32 → zMem → Prop) (h : vc_X11_wayFrom σ a0 Q) : zMi l yX11_wayFrom cX11_wayFrom 6 .int 2 42 E [.ref (E.2.2 22 0), .int a0] σ Q := by
  refine zMi_of (by decide) (Nat.le_of_ble_eq_true rfl) ?_
  intro p e s m args below meth c C
  unfold vc_X11_wayFrom at h
  have fin : zG p l e (zRm 2 42) s m args below meth c 6 E 0 0 (MQ below (va_Qi Q (zPost E) (zA E s.heap.size)) args s 0 0 (zA E s.heap.size)) σ 0 [(0, .ref (E.2.2 22 0)), (1, .int a0)] [] := by
    refine z_iconst (v := 0) (pc' := 1) C dX11_wayFrom_0 (by decide) rfl ?_
    refine z_istore_n (pc' := 2) (lv' := [(2, .int 0), (0, .ref (E.2.2 22 0)), (1, .int a0)]) C dX11_wayFrom_1 rfl (by decide) rfl rfl ?_
    obtain ⟨n1, h⟩ := h
    refine z_sub (lv' := [(0, .ref (E.2.2 22 0)), (1, .int a0), (2, .int 0)]) [1, 2, 0] rfl ?_
    exact sl_X11_wayFrom_2 C a0 Q n1 _ _ h
  exact fin
