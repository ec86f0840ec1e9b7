def vc_X11_pays (σ : zMem) (a0 : Int32) (a1 : Int32) (Q : Int32 → zMem → Prop) : Prop := vc_X11_isBuyer σ a0 (fun r2 σ1 => ((r2 = 0) → Q ((-1)) σ1) ∧ ((¬ r2 = 0) → vc_X11_in σ1 a1 0 3 (fun r5 σ4 => ((¬ r5 = 0) → vc_X11_settle σ4 (fun σ7 => ((¬ a1 = 0) → ((¬ a1 = 1) → ((¬ a1 = 2) → vp_in a0 10 ∧ vp_in a0 10 ∧ vp_in a0 10 ∧ Q (((σ7 45 0 a0.toNatClampNeg) - (σ7 46 0 a0.toNatClampNeg)) - (σ7 47 0 a0.toNatClampNeg)) σ7) ∧ ((a1 = 2) → vp_in a0 10 ∧ Q (σ7 47 0 a0.toNatClampNeg) σ7)) ∧ ((a1 = 1) → vp_in a0 10 ∧ Q (σ7 46 0 a0.toNatClampNeg) σ7)) ∧ ((a1 = 0) → vp_in a0 10 ∧ Q (σ7 45 0 a0.toNatClampNeg) σ7))) ∧ ((r5 = 0) → Q ((-1)) σ4))))
set_option maxHeartbeats 4000000 in
set_option maxRecDepth 100000 in
theorem sc_X11_pays (l : Launch) (E : zE) (σ : zMem) (a0 : Int32) (a1 : Int32) (Q : Int32 → zMem → Prop) (h : vc_X11_pays σ a0 a1 Q) : zMi l yX11_pays cX11_pays 3 .int 3 68 E [.ref (E.2.2 22 0), .int a0, .int a1] σ Q := by
  refine zMi_of (by decide) (Nat.le_of_ble_eq_true rfl) ?_
  intro p e s m args below meth c C
  unfold vc_X11_pays at h
  have fin : zG p l e (zRm 3 68) s m args below meth c 3 E 0 0 (MQ below (va_Qi Q (zPost E) (zA E s.heap.size)) args s 0 0 (zA E s.heap.size)) σ 0 [(0, .ref (E.2.2 22 0)), (1, .int a0), (2, .int a1)] [] := by
    refine z_aload_n (pc' := 1) C dX11_pays_0 rfl 0 rfl rfl ?_
    refine z_iload_n (pc' := 2) C dX11_pays_1 rfl 1 rfl rfl ?_
    refine z_callVi (q := 22) (i := 0) (w9 := (RX11, TX11, 40)) (pc' := 5) (st := []) (As := [.int a0]) C (sc_X11_isBuyer l E σ a0 _ h) zwX11_126_X11_isBuyer zvX11_126_X11_isBuyer.1 zvX11_126_X11_isBuyer.2 (zL_mem (by decide) zo22) rfl rfl ⟨(Nat.le_of_ble_eq_true rfl), (Nat.le_of_ble_eq_true rfl)⟩ ⟨Nat.zero_le _, Nat.zero_le _⟩ rfl rfl (Nat.le_of_ble_eq_true rfl) dX11_pays_2 rfl (fun r2 σ1 h => ?_)
    obtain ⟨ht, hf⟩ := h
    refine z_if_eq (tgt := 17) (pc' := 8) C dX11_pays_5 (by decide) rfl (fun c3 => ?_) (fun c3 => ?_)
    · have h := ht c3
      refine z_iconst (v := (-1)) (pc' := 18) C dX11_pays_17 (by decide) rfl ?_
      exact z_iret C dX11_pays_18 h
    · have h := hf c3
      refine z_iload_n (pc' := 9) C dX11_pays_8 rfl 2 rfl rfl ?_
      refine z_iconst (v := 0) (pc' := 10) C dX11_pays_9 (by decide) rfl ?_
      refine z_iconst (v := 3) (pc' := 11) C dX11_pays_10 (by decide) rfl ?_
      refine z_callSi (pc' := 14) (st := []) (As := [.int a1, .int 0, .int 3]) C (sc_X11_in l E σ1 a1 0 3 _ h) zwX11_114_X11_in ztX11_114_X11_in ⟨(Nat.le_of_ble_eq_true rfl), (Nat.le_of_ble_eq_true rfl)⟩ ⟨Nat.zero_le _, Nat.zero_le _⟩ rfl rfl (Nat.le_of_ble_eq_true rfl) dX11_pays_11 rfl (fun r5 σ4 h => ?_)
      obtain ⟨ht, hf⟩ := h
      refine z_if_ne (tgt := 19) (pc' := 17) C dX11_pays_14 (by decide) rfl (fun c6 => ?_) (fun c6 => ?_)
      · have h := ht c6
        refine z_aload_n (pc' := 20) C dX11_pays_19 rfl 0 rfl rfl ?_
        refine z_callVv (q := 22) (i := 0) (w9 := (RX11, TX11, 40)) (pc' := 23) (st := []) (As := []) C (sc_X11_settle l E σ4  _ h) zwX11_205_X11_settle zvX11_205_X11_settle.1 zvX11_205_X11_settle.2 (zL_mem (by decide) zo22) rfl rfl ⟨(Nat.le_of_ble_eq_true rfl), (Nat.le_of_ble_eq_true rfl)⟩ ⟨Nat.zero_le _, Nat.zero_le _⟩ rfl rfl (Nat.le_of_ble_eq_true rfl) dX11_pays_20 rfl (fun σ7 h => ?_)
        refine z_iload_n (pc' := 24) C dX11_pays_23 rfl 2 rfl rfl ?_
        obtain ⟨ht, hf⟩ := h
        refine z_if_ne (tgt := 36) (pc' := 27) C dX11_pays_24 (by decide) rfl (fun c8 => ?_) (fun c8 => ?_)
        · have h := ht c8
          refine z_iload_n (pc' := 37) C dX11_pays_36 rfl 2 rfl rfl ?_
          refine z_iconst (v := 1) (pc' := 38) C dX11_pays_37 (by decide) rfl ?_
          obtain ⟨ht, hf⟩ := h
          refine z_icmp_ne (tgt := 50) (pc' := 41) C dX11_pays_38 (by decide) rfl (fun c9 => ?_) (fun c9 => ?_)
          · have h := ht c9
            refine z_iload_n (pc' := 51) C dX11_pays_50 rfl 2 rfl rfl ?_
            refine z_iconst (v := 2) (pc' := 52) C dX11_pays_51 (by decide) rfl ?_
            obtain ⟨ht, hf⟩ := h
            refine z_icmp_ne (tgt := 64) (pc' := 55) C dX11_pays_52 (by decide) rfl (fun c10 => ?_) (fun c10 => ?_)
            · have h := ht c10
              refine z_aload_n (pc' := 65) C dX11_pays_64 rfl 0 rfl rfl ?_
              refine zgX11_81 (pc' := 68) C zo22 dX11_pays_65 rfl ?_
              refine z_iload_n (pc' := 69) C dX11_pays_68 rfl 1 rfl rfl ?_
              obtain ⟨hv11, h⟩ := h
              refine z_iald (n := 10) (pc' := 70) C (zL_mem (by decide) zo45) (fun _ => rfl) hv11 dX11_pays_69 rfl ?_
              refine z_aload_n (pc' := 71) C dX11_pays_70 rfl 0 rfl rfl ?_
              refine zgX11_84 (pc' := 74) C zo22 dX11_pays_71 rfl ?_
              refine z_iload_n (pc' := 75) C dX11_pays_74 rfl 1 rfl rfl ?_
              obtain ⟨hv12, h⟩ := h
              refine z_iald (n := 10) (pc' := 76) C (zL_mem (by decide) zo46) (fun _ => rfl) hv12 dX11_pays_75 rfl ?_
              refine z_isub (pc' := 77) C dX11_pays_76 rfl ?_
              refine z_aload_n (pc' := 78) C dX11_pays_77 rfl 0 rfl rfl ?_
              refine zgX11_87 (pc' := 81) C zo22 dX11_pays_78 rfl ?_
              refine z_iload_n (pc' := 82) C dX11_pays_81 rfl 1 rfl rfl ?_
              obtain ⟨hv13, h⟩ := h
              refine z_iald (n := 10) (pc' := 83) C (zL_mem (by decide) zo47) (fun _ => rfl) hv13 dX11_pays_82 rfl ?_
              refine z_isub (pc' := 84) C dX11_pays_83 rfl ?_
              exact z_iret C dX11_pays_84 h
            · have h := hf c10
              refine z_aload_n (pc' := 56) C dX11_pays_55 rfl 0 rfl rfl ?_
              refine zgX11_87 (pc' := 59) C zo22 dX11_pays_56 rfl ?_
              refine z_iload_n (pc' := 60) C dX11_pays_59 rfl 1 rfl rfl ?_
              obtain ⟨hv14, h⟩ := h
              refine z_iald (n := 10) (pc' := 61) C (zL_mem (by decide) zo47) (fun _ => rfl) hv14 dX11_pays_60 rfl ?_
              refine z_goto (tgt := 84) C dX11_pays_61 (by decide) ?_
              exact z_iret C dX11_pays_84 h
          · have h := hf c9
            refine z_aload_n (pc' := 42) C dX11_pays_41 rfl 0 rfl rfl ?_
            refine zgX11_84 (pc' := 45) C zo22 dX11_pays_42 rfl ?_
            refine z_iload_n (pc' := 46) C dX11_pays_45 rfl 1 rfl rfl ?_
            obtain ⟨hv15, h⟩ := h
            refine z_iald (n := 10) (pc' := 47) C (zL_mem (by decide) zo46) (fun _ => rfl) hv15 dX11_pays_46 rfl ?_
            refine z_goto (tgt := 84) C dX11_pays_47 (by decide) ?_
            exact z_iret C dX11_pays_84 h
        · have h := hf c8
          refine z_aload_n (pc' := 28) C dX11_pays_27 rfl 0 rfl rfl ?_
          refine zgX11_81 (pc' := 31) C zo22 dX11_pays_28 rfl ?_
          refine z_iload_n (pc' := 32) C dX11_pays_31 rfl 1 rfl rfl ?_
          obtain ⟨hv16, h⟩ := h
          refine z_iald (n := 10) (pc' := 33) C (zL_mem (by decide) zo45) (fun _ => rfl) hv16 dX11_pays_32 rfl ?_
          refine z_goto (tgt := 84) C dX11_pays_33 (by decide) ?_
          exact z_iret C dX11_pays_84 h
      · have h := hf c6
        refine z_iconst (v := (-1)) (pc' := 18) C dX11_pays_17 (by decide) rfl ?_
        exact z_iret C dX11_pays_18 h
  exact fin
def vc_X11_count_51 (Q : Int32 → zMem → Prop) : Nat → zMem → Int32 → Int32 → Prop
  | 0, _, _, _ => False
  | n + 1, σ, x2, x3 => ((24 ≤ x3) → Q x2 σ) ∧ ((¬ 24 ≤ x3) → vp_in x3 24 ∧ (((σ 25 0 x3.toNatClampNeg) = 0) → vc_X11_count_51 Q n σ (x2 + 0) (x3 + 1)) ∧ ((¬ (σ 25 0 x3.toNatClampNeg) = 0) → vc_X11_count_51 Q n σ (x2 + 1) (x3 + 1)))
def vc_X11_count_84 (Q : Int32 → zMem → Prop) : Nat → zMem → Int32 → Int32 → Prop
  | 0, _, _, _ => False
  | n + 1, σ, x2, x3 => ((24 ≤ x3) → Q x2 σ) ∧ ((¬ 24 ≤ x3) → vc_X11_stands σ x3 (fun r11 σ10 => ((r11 = 0) → vc_X11_count_84 Q n σ10 (x2 + 0) (x3 + 1)) ∧ ((¬ r11 = 0) → vc_X11_count_84 Q n σ10 (x2 + 1) (x3 + 1))))
def vc_X11_count_126 (Q : Int32 → zMem → Prop) : Nat → zMem → Int32 → Int32 → Prop
  | 0, _, _, _ => False
  | n + 1, σ, x2, x3 => ((24 ≤ x3) → Q x2 σ) ∧ ((¬ 24 ≤ x3) → vc_X11_hayOf σ x3 (fun r19 σ18 => vc_X11_count_126 Q n σ18 (x2 + r19) (x3 + 1)))
def vc_X11_count_150 (Q : Int32 → zMem → Prop) : Nat → zMem → Int32 → Int32 → Prop
  | 0, _, _, _ => False
  | n + 1, σ, x2, x3 => ((30 < x3) → Q x2 σ) ∧ ((¬ 30 < x3) → vp_in x3 31 ∧ (((σ 39 0 x3.toNatClampNeg) = 0) → vc_X11_count_150 Q n σ (x2 + 0) (x3 + 1)) ∧ ((¬ (σ 39 0 x3.toNatClampNeg) = 0) → vc_X11_count_150 Q n σ (x2 + 1) (x3 + 1)))
def vc_X11_count (σ : zMem) (a0 : Int32) (Q : Int32 → zMem → Prop) : Prop := ((a0 = 0) → Q (σ 22 0 9) σ) ∧ ((a0 = 1) → ∃ n3, vc_X11_count_51 Q n3 σ 0 0) ∧ ((a0 = 2) → ∃ n8, vc_X11_count_84 Q n8 σ 0 0) ∧ ((a0 = 3) → Q (σ 22 0 21) σ) ∧ ((a0 = 4) → Q (σ 22 0 16) σ) ∧ ((a0 = 5) → ∃ n16, vc_X11_count_126 Q n16 σ 0 0) ∧ ((a0 = 6) → ∃ n21, vc_X11_count_150 Q n21 σ 0 0) ∧ (¬ a0 = 0 → ¬ a0 = 1 → ¬ a0 = 2 → ¬ a0 = 3 → ¬ a0 = 4 → ¬ a0 = 5 → ¬ a0 = 6 → Q ((-1)) σ)
set_option maxHeartbeats 4000000 in
set_option maxRecDepth 100000 in
theorem sl_X11_count_51 {p : Program} {l : Launch} {e : Env} {s : State} {m : MethodId} {args : Array Value} {below : List Frame} {meth : Method} {c : Code} {E : zE} (C : zX p s m args meth c cX11_count 4 RX11 (some .int) E) (Q : Int32 → zMem → Prop) : ∀ (n : Nat) (σ : zMem) (x2 : Int32) (x3 : Int32), vc_X11_count_51 Q n σ x2 x3 → zG p l e (zRm 2 41) s m args below meth c 4 E 0 0 (MQ below (va_Qi Q (zPost E) (zA E s.heap.size)) args s 0 0 (zA E s.heap.size)) σ 51 [(0, .ref (E.2.2 22 0)), (2, .int x2), (3, .int x3)] [] := by
  intro n
  induction n with
  | zero =>
    intro σ x2 x3 h
    exact False.elim h
  | succ n ih =>
    intro σ x2 x3 h
    rw [vc_X11_count_51] at h
    refine z_iload_n (pc' := 52) C dX11_count_51 rfl 2 rfl rfl ?_
    refine z_bipush (v := 24) (pc' := 54) C dX11_count_52 (by decide) rfl ?_
    obtain ⟨ht, hf⟩ := h
    refine z_icmp_ge (tgt := 80) (pc' := 57) C dX11_count_54 (by decide) rfl (fun c4 => ?_) (fun c4 => ?_)
    · have h := ht c4
      refine z_iload_n (pc' := 81) C dX11_count_80 rfl 1 rfl rfl ?_
      exact z_iret C dX11_count_81 h
    · have h := hf c4
      refine z_iload_n (pc' := 58) C dX11_count_57 rfl 1 rfl rfl ?_
      refine z_aload_n (pc' := 59) C dX11_count_58 rfl 0 rfl rfl ?_
      refine zgX11_16 (pc' := 62) C zo22 dX11_count_59 rfl ?_
      refine z_iload_n (pc' := 63) C dX11_count_62 rfl 2 rfl rfl ?_
      obtain ⟨hv5, h⟩ := h
      refine z_zald (n := 24) (pc' := 64) C (zL_mem (by decide) zo25) (fun _ => rfl) hv5 dX11_count_63 rfl ?_
      obtain ⟨ht, hf⟩ := h
      refine z_if_eq (tgt := 71) (pc' := 67) C dX11_count_64 (by decide) rfl (fun c6 => ?_) (fun c6 => ?_)
      · have h := ht c6
        refine z_iconst (v := 0) (pc' := 72) C dX11_count_71 (by decide) rfl ?_
        refine z_iadd (pc' := 73) C dX11_count_72 rfl ?_
        refine z_istore_n (pc' := 74) (lv' := [(2, .int (x2 + 0)), (0, .ref (E.2.2 22 0)), (3, .int x3)]) C dX11_count_73 rfl (by decide) rfl rfl ?_
        refine z_iinc (j := 2) (v := x3 + 1) (pc' := 77) (lv' := [(3, .int (x3 + 1)), (2, .int (x2 + 0)), (0, .ref (E.2.2 22 0))]) C dX11_count_74 rfl rfl (by decide) rfl rfl ?_
        refine z_goto (tgt := 51) C dX11_count_77 (by decide) ?_
        refine z_sub (lv' := [(0, .ref (E.2.2 22 0)), (2, .int (x2 + 0)), (3, .int (x3 + 1))]) [2, 1, 0] rfl ?_
        exact ih _ _ _ h
      · have h := hf c6
        refine z_iconst (v := 1) (pc' := 68) C dX11_count_67 (by decide) rfl ?_
        refine z_goto (tgt := 72) C dX11_count_68 (by decide) ?_
        refine z_iadd (pc' := 73) C dX11_count_72 rfl ?_
        refine z_istore_n (pc' := 74) (lv' := [(2, .int (x2 + 1)), (0, .ref (E.2.2 22 0)), (3, .int x3)]) C dX11_count_73 rfl (by decide) rfl rfl ?_
        refine z_iinc (j := 2) (v := x3 + 1) (pc' := 77) (lv' := [(3, .int (x3 + 1)), (2, .int (x2 + 1)), (0, .ref (E.2.2 22 0))]) C dX11_count_74 rfl rfl (by decide) rfl rfl ?_
        refine z_goto (tgt := 51) C dX11_count_77 (by decide) ?_
        refine z_sub (lv' := [(0, .ref (E.2.2 22 0)), (2, .int (x2 + 1)), (3, .int (x3 + 1))]) [2, 1, 0] rfl ?_
        exact ih _ _ _ h
set_option maxHeartbeats 4000000 in
set_option maxRecDepth 100000 in
theorem sl_X11_count_84 {p : Program} {l : Launch} {e : Env} {s : State} {m : MethodId} {args : Array Value} {below : List Frame} {meth : Method} {c : Code} {E : zE} (C : zX p s m args meth c cX11_count 4 RX11 (some .int) E) (Q : Int32 → zMem → Prop) : ∀ (n : Nat) (σ : zMem) (x2 : Int32) (x3 : Int32), vc_X11_count_84 Q n σ x2 x3 → zG p l e (zRm 2 41) s m args below meth c 4 E 0 0 (MQ below (va_Qi Q (zPost E) (zA E s.heap.size)) args s 0 0 (zA E s.heap.size)) σ 84 [(0, .ref (E.2.2 22 0)), (2, .int x2), (3, .int x3)] [] := by
  intro n
  induction n with
  | zero =>
    intro σ x2 x3 h
    exact False.elim h
  | succ n ih =>
    intro σ x2 x3 h
    rw [vc_X11_count_84] at h
    refine z_iload_n (pc' := 85) C dX11_count_84 rfl 2 rfl rfl ?_
    refine z_bipush (v := 24) (pc' := 87) C dX11_count_85 (by decide) rfl ?_
    obtain ⟨ht, hf⟩ := h
    refine z_icmp_ge (tgt := 112) (pc' := 90) C dX11_count_87 (by decide) rfl (fun c9 => ?_) (fun c9 => ?_)
    · have h := ht c9
      refine z_iload_n (pc' := 113) C dX11_count_112 rfl 1 rfl rfl ?_
      exact z_iret C dX11_count_113 h
    · have h := hf c9
      refine z_iload_n (pc' := 91) C dX11_count_90 rfl 1 rfl rfl ?_
      refine z_aload_n (pc' := 92) C dX11_count_91 rfl 0 rfl rfl ?_
      refine z_iload_n (pc' := 93) C dX11_count_92 rfl 2 rfl rfl ?_
      refine z_callVi (q := 22) (i := 0) (w9 := (RX11, TX11, 40)) (pc' := 96) (st := [.int x2]) (As := [.int x3]) C (sc_X11_stands l E σ x3 _ h) zwX11_136_X11_stands zvX11_136_X11_stands.1 zvX11_136_X11_stands.2 (zL_mem (by decide) zo22) rfl rfl ⟨(Nat.le_of_ble_eq_true rfl), (Nat.le_of_ble_eq_true rfl)⟩ ⟨Nat.zero_le _, Nat.zero_le _⟩ rfl rfl (Nat.le_of_ble_eq_true rfl) dX11_count_93 rfl (fun r11 σ10 h => ?_)
      obtain ⟨ht, hf⟩ := h
      refine z_if_eq (tgt := 103) (pc' := 99) C dX11_count_96 (by decide) rfl (fun c12 => ?_) (fun c12 => ?_)
      · have h := ht c12
        refine z_iconst (v := 0) (pc' := 104) C dX11_count_103 (by decide) rfl ?_
        refine z_iadd (pc' := 105) C dX11_count_104 rfl ?_
        refine z_istore_n (pc' := 106) (lv' := [(2, .int (x2 + 0)), (0, .ref (E.2.2 22 0)), (3, .int x3)]) C dX11_count_105 rfl (by decide) rfl rfl ?_
        refine z_iinc (j := 2) (v := x3 + 1) (pc' := 109) (lv' := [(3, .int (x3 + 1)), (2, .int (x2 + 0)), (0, .ref (E.2.2 22 0))]) C dX11_count_106 rfl rfl (by decide) rfl rfl ?_
        refine z_goto (tgt := 84) C dX11_count_109 (by decide) ?_
        refine z_sub (lv' := [(0, .ref (E.2.2 22 0)), (2, .int (x2 + 0)), (3, .int (x3 + 1))]) [2, 1, 0] rfl ?_
        exact ih _ _ _ h
      · have h := hf c12
        refine z_iconst (v := 1) (pc' := 100) C dX11_count_99 (by decide) rfl ?_
        refine z_goto (tgt := 104) C dX11_count_100 (by decide) ?_
        refine z_iadd (pc' := 105) C dX11_count_104 rfl ?_
        refine z_istore_n (pc' := 106) (lv' := [(2, .int (x2 + 1)), (0, .ref (E.2.2 22 0)), (3, .int x3)]) C dX11_count_105 rfl (by decide) rfl rfl ?_
        refine z_iinc (j := 2) (v := x3 + 1) (pc' := 109) (lv' := [(3, .int (x3 + 1)), (2, .int (x2 + 1)), (0, .ref (E.2.2 22 0))]) C dX11_count_106 rfl rfl (by decide) rfl rfl ?_
        refine z_goto (tgt := 84) C dX11_count_109 (by decide) ?_
        refine z_sub (lv' := [(0, .ref (E.2.2 22 0)), (2, .int (x2 + 1)), (3, .int (x3 + 1))]) [2, 1, 0] rfl ?_
        exact ih _ _ _ h
set_option maxHeartbeats 4000000 in
set_option maxRecDepth 100000 in
theorem sl_X11_count_126 {p : Program} {l : Launch} {e : Env} {s : State} {m : MethodId} {args : Array Value} {below : List Frame} {meth : Method} {c : Code} {E : zE} (C : zX p s m args meth c cX11_count 4 RX11 (some .int) E) (Q : Int32 → zMem → Prop) : ∀ (n : Nat) (σ : zMem) (x2 : Int32) (x3 : Int32), vc_X11_count_126 Q n σ x2 x3 → zG p l e (zRm 2 41) s m args below meth c 4 E 0 0 (MQ below (va_Qi Q (zPost E) (zA E s.heap.size)) args s 0 0 (zA E s.heap.size)) σ 126 [(0, .ref (E.2.2 22 0)), (2, .int x2), (3, .int x3)] [] := by
  intro n
  induction n with
  | zero =>
    intro σ x2 x3 h
    exact False.elim h
  | succ n ih =>
    intro σ x2 x3 h
    rw [vc_X11_count_126] at h
    refine z_iload_n (pc' := 127) C dX11_count_126 rfl 2 rfl rfl ?_
    refine z_bipush (v := 24) (pc' := 129) C dX11_count_127 (by decide) rfl ?_
    obtain ⟨ht, hf⟩ := h
    refine z_icmp_ge (tgt := 146) (pc' := 132) C dX11_count_129 (by decide) rfl (fun c17 => ?_) (fun c17 => ?_)
    · have h := ht c17
      refine z_iload_n (pc' := 147) C dX11_count_146 rfl 1 rfl rfl ?_
      exact z_iret C dX11_count_147 h
    · have h := hf c17
      refine z_iload_n (pc' := 133) C dX11_count_132 rfl 1 rfl rfl ?_
      refine z_aload_n (pc' := 134) C dX11_count_133 rfl 0 rfl rfl ?_
      refine z_iload_n (pc' := 135) C dX11_count_134 rfl 2 rfl rfl ?_
      refine z_callVi (q := 22) (i := 0) (w9 := (RX11, TX11, 40)) (pc' := 138) (st := [.int x2]) (As := [.int x3]) C (sc_X11_hayOf l E σ x3 _ h) zwX11_133_X11_hayOf zvX11_133_X11_hayOf.1 zvX11_133_X11_hayOf.2 (zL_mem (by decide) zo22) rfl rfl ⟨(Nat.le_of_ble_eq_true rfl), (Nat.le_of_ble_eq_true rfl)⟩ ⟨Nat.zero_le _, Nat.zero_le _⟩ rfl rfl (Nat.le_of_ble_eq_true rfl) dX11_count_135 rfl (fun r19 σ18 h => ?_)
      refine z_iadd (pc' := 139) C dX11_count_138 rfl ?_
      refine z_istore_n (pc' := 140) (lv' := [(2, .int (x2 + r19)), (0, .ref (E.2.2 22 0)), (3, .int x3)]) C dX11_count_139 rfl (by decide) rfl rfl ?_
      refine z_iinc (j := 2) (v := x3 + 1) (pc' := 143) (lv' := [(3, .int (x3 + 1)), (2, .int (x2 + r19)), (0, .ref (E.2.2 22 0))]) C dX11_count_140 rfl rfl (by decide) rfl rfl ?_
      refine z_goto (tgt := 126) C dX11_count_143 (by decide) ?_
      refine z_sub (lv' := [(0, .ref (E.2.2 22 0)), (2, .int (x2 + r19)), (3, .int (x3 + 1))]) [2, 1, 0] rfl ?_
      exact ih _ _ _ h
set_option maxHeartbeats 4000000 in
set_option maxRecDepth 100000 in
theorem sl_X11_count_150 {p : Program} {l : Launch} {e : Env} {s : State} {m : MethodId} {args : Array Value} {below : List Frame} {meth : Method} {c : Code} {E : zE} (C : zX p s m args meth c cX11_count 4 RX11 (some .int) E) (Q : Int32 → zMem → Prop) : ∀ (n : Nat) (σ : zMem) (x2 : Int32) (x3 : Int32), vc_X11_count_150 Q n σ x2 x3 → zG p l e (zRm 2 41) s m args below meth c 4 E 0 0 (MQ below (va_Qi Q (zPost E) (zA E s.heap.size)) args s 0 0 (zA E s.heap.size)) σ 150 [(0, .ref (E.2.2 22 0)), (2, .int x2), (3, .int x3)] [] := by
  intro n
  induction n with
  | zero =>
    intro σ x2 x3 h
    exact False.elim h
  | succ n ih =>
    intro σ x2 x3 h
    rw [vc_X11_count_150] at h
    refine z_iload_n (pc' := 151) C dX11_count_150 rfl 2 rfl rfl ?_
    refine z_bipush (v := 30) (pc' := 153) C dX11_count_151 (by decide) rfl ?_
    obtain ⟨ht, hf⟩ := h
    refine z_icmp_gt (tgt := 179) (pc' := 156) C dX11_count_153 (by decide) rfl (fun c22 => ?_) (fun c22 => ?_)
    · have h := ht c22
      refine z_iload_n (pc' := 180) C dX11_count_179 rfl 1 rfl rfl ?_
      exact z_iret C dX11_count_180 h
    · have h := hf c22
      refine z_iload_n (pc' := 157) C dX11_count_156 rfl 1 rfl rfl ?_
      refine z_aload_n (pc' := 158) C dX11_count_157 rfl 0 rfl rfl ?_
      refine zgX11_63 (pc' := 161) C zo22 dX11_count_158 rfl ?_
      refine z_iload_n (pc' := 162) C dX11_count_161 rfl 2 rfl rfl ?_
      obtain ⟨hv23, h⟩ := h
      refine z_zald (n := 31) (pc' := 163) C (zL_mem (by decide) zo39) (fun _ => rfl) hv23 dX11_count_162 rfl ?_
      obtain ⟨ht, hf⟩ := h
      refine z_if_eq (tgt := 170) (pc' := 166) C dX11_count_163 (by decide) rfl (fun c24 => ?_) (fun c24 => ?_)
      · have h := ht c24
        refine z_iconst (v := 0) (pc' := 171) C dX11_count_170 (by decide) rfl ?_
        refine z_iadd (pc' := 172) C dX11_count_171 rfl ?_
        refine z_istore_n (pc' := 173) (lv' := [(2, .int (x2 + 0)), (0, .ref (E.2.2 22 0)), (3, .int x3)]) C dX11_count_172 rfl (by decide) rfl rfl ?_
        refine z_iinc (j := 2) (v := x3 + 1) (pc' := 176) (lv' := [(3, .int (x3 + 1)), (2, .int (x2 + 0)), (0, .ref (E.2.2 22 0))]) C dX11_count_173 rfl rfl (by decide) rfl rfl ?_
        refine z_goto (tgt := 150) C dX11_count_176 (by decide) ?_
        refine z_sub (lv' := [(0, .ref (E.2.2 22 0)), (2, .int (x2 + 0)), (3, .int (x3 + 1))]) [2, 1, 0] rfl ?_
        exact ih _ _ _ h
      · have h := hf c24
        refine z_iconst (v := 1) (pc' := 167) C dX11_count_166 (by decide) rfl ?_
        refine z_goto (tgt := 171) C dX11_count_167 (by decide) ?_
        refine z_iadd (pc' := 172) C dX11_count_171 rfl ?_
        refine z_istore_n (pc' := 173) (lv' := [(2, .int (x2 + 1)), (0, .ref (E.2.2 22 0)), (3, .int x3)]) C dX11_count_172 rfl (by decide) rfl rfl ?_
        refine z_iinc (j := 2) (v := x3 + 1) (pc' := 176) (lv' := [(3, .int (x3 + 1)), (2, .int (x2 + 1)), (0, .ref (E.2.2 22 0))]) C dX11_count_173 rfl rfl (by decide) rfl rfl ?_
        refine z_goto (tgt := 150) C dX11_count_176 (by decide) ?_
        refine z_sub (lv' := [(0, .ref (E.2.2 22 0)), (2, .int (x2 + 1)), (3, .int (x3 + 1))]) [2, 1, 0] rfl ?_
        exact ih _ _ _ h
set_option maxHeartbeats 4000000 in
set_option maxRecDepth 100000 in
theorem sc_X11_count (l : Launch) (E : zE) (σ : zMem) (a0 : Int32) (Q : Int32 → zMem → Prop) (h : vc_X11_count σ a0 Q) : zMi l yX11_count cX11_count 4 .int 2 41 E [.ref (E.2.2 22 0), .int a0] σ Q := by
  refine zMi_of (by decide) (Nat.le_of_ble_eq_true rfl) ?_
  intro p e s m args below meth c C
  unfold vc_X11_count at h
  have fin : zG p l e (zRm 2 41) s m args below meth c 4 E 0 0 (MQ below (va_Qi Q (zPost E) (zA E s.heap.size)) args s 0 0 (zA E s.heap.size)) σ 0 [(0, .ref (E.2.2 22 0)), (1, .int a0)] [] := by
    refine z_iconst (v := 0) (pc' := 1) C dX11_count_0 (by decide) rfl ?_
    refine z_istore_n (pc' := 2) (lv' := [(2, .int 0), (0, .ref (E.2.2 22 0)), (1, .int a0)]) C dX11_count_1 rfl (by decide) rfl rfl ?_
    refine z_iload_n (pc' := 3) C dX11_count_2 rfl 2 rfl rfl ?_
    obtain ⟨hk, h⟩ := h
    by_cases c1 : a0 = 0
    · have h := hk c1
      refine z_tabIn (tgt := 44) C dX11_count_3 0 c1 (by decide) (by decide) rfl (by decide) ?_
      refine z_aload_n (pc' := 45) C dX11_count_44 rfl 1 rfl rfl ?_
      refine zgX11_118 (pc' := 48) C zo22 dX11_count_45 rfl ?_
      exact z_iret C dX11_count_48 h
    obtain ⟨hk, h⟩ := h
    by_cases c2 : a0 = 1
    · have h := hk c2
      refine z_tabIn (tgt := 49) C dX11_count_3 1 c2 (by decide) (by decide) rfl (by decide) ?_
      refine z_iconst (v := 0) (pc' := 50) C dX11_count_49 (by decide) rfl ?_
      refine z_istore_n (pc' := 51) (lv' := [(3, .int 0), (2, .int 0), (0, .ref (E.2.2 22 0)), (1, .int a0)]) C dX11_count_50 rfl (by decide) rfl rfl ?_
      obtain ⟨n3, h⟩ := h
      refine z_sub (lv' := [(0, .ref (E.2.2 22 0)), (2, .int 0), (3, .int 0)]) [2, 1, 0] rfl ?_
      exact sl_X11_count_51 C Q n3 _ _ _ h
    obtain ⟨hk, h⟩ := h
    by_cases c7 : a0 = 2
    · have h := hk c7
      refine z_tabIn (tgt := 82) C dX11_count_3 2 c7 (by decide) (by decide) rfl (by decide) ?_
      refine z_iconst (v := 0) (pc' := 83) C dX11_count_82 (by decide) rfl ?_
      refine z_istore_n (pc' := 84) (lv' := [(3, .int 0), (2, .int 0), (0, .ref (E.2.2 22 0)), (1, .int a0)]) C dX11_count_83 rfl (by decide) rfl rfl ?_
      obtain ⟨n8, h⟩ := h
      refine z_sub (lv' := [(0, .ref (E.2.2 22 0)), (2, .int 0), (3, .int 0)]) [2, 1, 0] rfl ?_
      exact sl_X11_count_84 C Q n8 _ _ _ h
    obtain ⟨hk, h⟩ := h
    by_cases c13 : a0 = 3
    · have h := hk c13
      refine z_tabIn (tgt := 114) C dX11_count_3 3 c13 (by decide) (by decide) rfl (by decide) ?_
      refine z_aload_n (pc' := 115) C dX11_count_114 rfl 1 rfl rfl ?_
      refine zgX11_180 (pc' := 118) C zo22 dX11_count_115 rfl ?_
      exact z_iret C dX11_count_118 h
    obtain ⟨hk, h⟩ := h
    by_cases c14 : a0 = 4
    · have h := hk c14
      refine z_tabIn (tgt := 119) C dX11_count_3 4 c14 (by decide) (by decide) rfl (by decide) ?_
      refine z_aload_n (pc' := 120) C dX11_count_119 rfl 1 rfl rfl ?_
      refine zgX11_53 (pc' := 123) C zo22 dX11_count_120 rfl ?_
      exact z_iret C dX11_count_123 h
    obtain ⟨hk, h⟩ := h
    by_cases c15 : a0 = 5
    · have h := hk c15
      refine z_tabIn (tgt := 124) C dX11_count_3 5 c15 (by decide) (by decide) rfl (by decide) ?_
      refine z_iconst (v := 0) (pc' := 125) C dX11_count_124 (by decide) rfl ?_
      refine z_istore_n (pc' := 126) (lv' := [(3, .int 0), (2, .int 0), (0, .ref (E.2.2 22 0)), (1, .int a0)]) C dX11_count_125 rfl (by decide) rfl rfl ?_
      obtain ⟨n16, h⟩ := h
      refine z_sub (lv' := [(0, .ref (E.2.2 22 0)), (2, .int 0), (3, .int 0)]) [2, 1, 0] rfl ?_
      exact sl_X11_count_126 C Q n16 _ _ _ h
    obtain ⟨hk, h⟩ := h
    by_cases c20 : a0 = 6
    · have h := hk c20
      refine z_tabIn (tgt := 148) C dX11_count_3 6 c20 (by decide) (by decide) rfl (by decide) ?_
      refine z_iconst (v := 0) (pc' := 149) C dX11_count_148 (by decide) rfl ?_
      refine z_istore_n (pc' := 150) (lv' := [(3, .int 0), (2, .int 0), (0, .ref (E.2.2 22 0)), (1, .int a0)]) C dX11_count_149 rfl (by decide) rfl rfl ?_
      obtain ⟨n21, h⟩ := h
      refine z_sub (lv' := [(0, .ref (E.2.2 22 0)), (2, .int 0), (3, .int 0)]) [2, 1, 0] rfl ?_
      exact sl_X11_count_150 C Q n21 _ _ _ h
    have h := h c1 c2 c7 c13 c14 c15 c20
    refine z_tabOut (tgt := 181) C dX11_count_3 (by have ec1 := lv_neT (a := 0) c1 rfl; have ec2 := lv_neT (a := 1) c2 rfl; have ec7 := lv_neT (a := 2) c7 rfl; have ec13 := lv_neT (a := 3) c13 rfl; have ec14 := lv_neT (a := 4) c14 rfl; have ec15 := lv_neT (a := 5) c15 rfl; have ec20 := lv_neT (a := 6) c20 rfl; omega) (by decide) ?_
    refine z_iconst (v := (-1)) (pc' := 182) C dX11_count_181 (by decide) rfl ?_
    exact z_iret C dX11_count_182 h
  exact fin
def vc_X11_isShelf (σ : zMem) (a0 : Int32) (Q : Int32 → zMem → Prop) : Prop := vc_X11_in σ a0 0 7 (fun r2 σ1 => zbool r2 ∧ Q r2 σ1)
set_option maxHeartbeats 4000000 in
set_option maxRecDepth 100000 in
theorem sc_X11_isShelf (l : Launch) (E : zE) (σ : zMem) (a0 : Int32) (Q : Int32 → zMem → Prop) (h : vc_X11_isShelf σ a0 Q) : zMi l yX11_isShelf cX11_isShelf 1 .boolean 1 22 E [.int a0] σ Q := by
  refine zMi_of (by decide) (Nat.le_of_ble_eq_true rfl) ?_
  intro p e s m args below meth c C
  unfold vc_X11_isShelf at h
  have fin : zG p l e (zRm 1 22) s m args below meth c 1 E 0 0 (MQ below (va_Qi Q (zPost E) (zA E s.heap.size)) args s 0 0 (zA E s.heap.size)) σ 0 [(0, .int a0)] [] := by
    refine z_iload_n (pc' := 1) C dX11_isShelf_0 rfl 0 rfl rfl ?_
    refine z_iconst (v := 0) (pc' := 2) C dX11_isShelf_1 (by decide) rfl ?_
    refine z_bipush (v := 7) (pc' := 4) C dX11_isShelf_2 (by decide) rfl ?_
    refine z_callSi (pc' := 7) (st := []) (As := [.int a0, .int 0, .int 7]) C (sc_X11_in l E σ a0 0 7 _ h) zwX11_114_X11_in ztX11_114_X11_in ⟨(Nat.le_of_ble_eq_true rfl), (Nat.le_of_ble_eq_true rfl)⟩ ⟨Nat.zero_le _, Nat.zero_le _⟩ rfl rfl (Nat.le_of_ble_eq_true rfl) dX11_isShelf_4 rfl (fun r2 σ1 h => ?_)
    exact z_zret C (zbn h.1) dX11_isShelf_7 h.2
  exact fin
def vc_X11_keep_109 (x1 : Int32) (x2 : Int32) (x3 : Int32) (Q : Int32 → zMem → Prop) : Nat → zMem → Int32 → Prop
  | 0, _, _ => False
  | n + 1, σ, x4 => ((24 ≤ x4) → Q 0 σ) ∧ ((¬ 24 ≤ x4) → ((¬ x2 = 3) → vp_in x4 24 ∧ (((σ 25 0 x4.toNatClampNeg) = 0) → vp_in ((60 * x1) + x4) 480 ∧ vc_X11_keep_109 x1 x2 x3 Q n (um σ 54 0 ((60 * x1) + x4).toNatClampNeg ((-1))) (x4 + 1)) ∧ ((¬ (σ 25 0 x4.toNatClampNeg) = 0) → vp_in x4 24 ∧ vp_in ((60 * x1) + x4) 480 ∧ vc_X11_keep_109 x1 x2 x3 Q n (um σ 54 0 ((60 * x1) + x4).toNatClampNeg (σ 26 0 x4.toNatClampNeg)) (x4 + 1))) ∧ ((x2 = 3) → vc_X11_worthOf σ x4 x3 (fun r23 σ22 => vp_in ((60 * x1) + x4) 480 ∧ vc_X11_keep_109 x1 x2 x3 Q n (um σ22 54 0 ((60 * x1) + x4).toNatClampNeg r23) (x4 + 1))))
def vc_X11_keep (σ : zMem) (a0 : Int32) (a1 : Int32) (a2 : Int32) (Q : Int32 → zMem → Prop) : Prop := vc_X11_isShelf σ a0 (fun r2 σ1 => ((r2 = 0) → Q ((-1)) σ1) ∧ ((¬ r2 = 0) → vc_X11_in σ1 a1 0 4 (fun r5 σ4 => ((r5 = 0) → Q ((-1)) σ4) ∧ ((¬ r5 = 0) → ((a1 = 2) → Q ((-1)) σ4) ∧ ((¬ a1 = 2) → ((¬ a1 = 1) → ((¬ a1 = 3) → vp_in a0 8 ∧ ((¬ a1 = 1) → ((3 ≤ a1) → vp_in a0 8 ∧ ∃ n14, vc_X11_keep_109 a0 a1 a2 Q n14 (um (um σ4 49 0 a0.toNatClampNeg a1) 53 0 a0.toNatClampNeg 24) 0) ∧ ((¬ 3 ≤ a1) → Q 0 (um σ4 49 0 a0.toNatClampNeg a1))) ∧ ((a1 = 1) → vp_in a0 8 ∧ vp_in a2 24 ∧ vp_in a0 8 ∧ vp_in a2 24 ∧ vp_in a0 8 ∧ ((3 ≤ a1) → vp_in a0 8 ∧ ∃ n32, vc_X11_keep_109 a0 a1 a2 Q n32 (um (um (um (um (um σ4 49 0 a0.toNatClampNeg a1) 50 0 a0.toNatClampNeg a2) 51 0 a0.toNatClampNeg ((um (um σ4 49 0 a0.toNatClampNeg a1) 50 0 a0.toNatClampNeg a2) 23 0 a2.toNatClampNeg)) 52 0 a0.toNatClampNeg ((um (um (um σ4 49 0 a0.toNatClampNeg a1) 50 0 a0.toNatClampNeg a2) 51 0 a0.toNatClampNeg ((um (um σ4 49 0 a0.toNatClampNeg a1) 50 0 a0.toNatClampNeg a2) 23 0 a2.toNatClampNeg)) 24 0 a2.toNatClampNeg)) 53 0 a0.toNatClampNeg 24) 0) ∧ ((¬ 3 ≤ a1) → Q 0 (um (um (um (um σ4 49 0 a0.toNatClampNeg a1) 50 0 a0.toNatClampNeg a2) 51 0 a0.toNatClampNeg ((um (um σ4 49 0 a0.toNatClampNeg a1) 50 0 a0.toNatClampNeg a2) 23 0 a2.toNatClampNeg)) 52 0 a0.toNatClampNeg ((um (um (um σ4 49 0 a0.toNatClampNeg a1) 50 0 a0.toNatClampNeg a2) 51 0 a0.toNatClampNeg ((um (um σ4 49 0 a0.toNatClampNeg a1) 50 0 a0.toNatClampNeg a2) 23 0 a2.toNatClampNeg)) 24 0 a2.toNatClampNeg))))) ∧ ((a1 = 3) → vc_X11_isBuyer σ4 a2 (fun r34 σ33 => ((¬ r34 = 0) → vp_in a0 8 ∧ ((¬ a1 = 1) → ((3 ≤ a1) → vp_in a0 8 ∧ ∃ n40, vc_X11_keep_109 a0 a1 a2 Q n40 (um (um σ33 49 0 a0.toNatClampNeg a1) 53 0 a0.toNatClampNeg 24) 0) ∧ ((¬ 3 ≤ a1) → Q 0 (um σ33 49 0 a0.toNatClampNeg a1))) ∧ ((a1 = 1) → vp_in a0 8 ∧ vp_in a2 24 ∧ vp_in a0 8 ∧ vp_in a2 24 ∧ vp_in a0 8 ∧ ((3 ≤ a1) → vp_in a0 8 ∧ ∃ n48, vc_X11_keep_109 a0 a1 a2 Q n48 (um (um (um (um (um σ33 49 0 a0.toNatClampNeg a1) 50 0 a0.toNatClampNeg a2) 51 0 a0.toNatClampNeg ((um (um σ33 49 0 a0.toNatClampNeg a1) 50 0 a0.toNatClampNeg a2) 23 0 a2.toNatClampNeg)) 52 0 a0.toNatClampNeg ((um (um (um σ33 49 0 a0.toNatClampNeg a1) 50 0 a0.toNatClampNeg a2) 51 0 a0.toNatClampNeg ((um (um σ33 49 0 a0.toNatClampNeg a1) 50 0 a0.toNatClampNeg a2) 23 0 a2.toNatClampNeg)) 24 0 a2.toNatClampNeg)) 53 0 a0.toNatClampNeg 24) 0) ∧ ((¬ 3 ≤ a1) → Q 0 (um (um (um (um σ33 49 0 a0.toNatClampNeg a1) 50 0 a0.toNatClampNeg a2) 51 0 a0.toNatClampNeg ((um (um σ33 49 0 a0.toNatClampNeg a1) 50 0 a0.toNatClampNeg a2) 23 0 a2.toNatClampNeg)) 52 0 a0.toNatClampNeg ((um (um (um σ33 49 0 a0.toNatClampNeg a1) 50 0 a0.toNatClampNeg a2) 51 0 a0.toNatClampNeg ((um (um σ33 49 0 a0.toNatClampNeg a1) 50 0 a0.toNatClampNeg a2) 23 0 a2.toNatClampNeg)) 24 0 a2.toNatClampNeg))))) ∧ ((r34 = 0) → Q ((-1)) σ33)))) ∧ ((a1 = 1) → vc_X11_isPlot σ4 a2 (fun r50 σ49 => ((r50 = 0) → Q ((-1)) σ49) ∧ ((¬ r50 = 0) → ((¬ a1 = 3) → vp_in a0 8 ∧ ((¬ a1 = 1) → ((3 ≤ a1) → vp_in a0 8 ∧ ∃ n57, vc_X11_keep_109 a0 a1 a2 Q n57 (um (um σ49 49 0 a0.toNatClampNeg a1) 53 0 a0.toNatClampNeg 24) 0) ∧ ((¬ 3 ≤ a1) → Q 0 (um σ49 49 0 a0.toNatClampNeg a1))) ∧ ((a1 = 1) → vp_in a0 8 ∧ vp_in a2 24 ∧ vp_in a0 8 ∧ vp_in a2 24 ∧ vp_in a0 8 ∧ ((3 ≤ a1) → vp_in a0 8 ∧ ∃ n65, vc_X11_keep_109 a0 a1 a2 Q n65 (um (um (um (um (um σ49 49 0 a0.toNatClampNeg a1) 50 0 a0.toNatClampNeg a2) 51 0 a0.toNatClampNeg ((um (um σ49 49 0 a0.toNatClampNeg a1) 50 0 a0.toNatClampNeg a2) 23 0 a2.toNatClampNeg)) 52 0 a0.toNatClampNeg ((um (um (um σ49 49 0 a0.toNatClampNeg a1) 50 0 a0.toNatClampNeg a2) 51 0 a0.toNatClampNeg ((um (um σ49 49 0 a0.toNatClampNeg a1) 50 0 a0.toNatClampNeg a2) 23 0 a2.toNatClampNeg)) 24 0 a2.toNatClampNeg)) 53 0 a0.toNatClampNeg 24) 0) ∧ ((¬ 3 ≤ a1) → Q 0 (um (um (um (um σ49 49 0 a0.toNatClampNeg a1) 50 0 a0.toNatClampNeg a2) 51 0 a0.toNatClampNeg ((um (um σ49 49 0 a0.toNatClampNeg a1) 50 0 a0.toNatClampNeg a2) 23 0 a2.toNatClampNeg)) 52 0 a0.toNatClampNeg ((um (um (um σ49 49 0 a0.toNatClampNeg a1) 50 0 a0.toNatClampNeg a2) 51 0 a0.toNatClampNeg ((um (um σ49 49 0 a0.toNatClampNeg a1) 50 0 a0.toNatClampNeg a2) 23 0 a2.toNatClampNeg)) 24 0 a2.toNatClampNeg))))) ∧ ((a1 = 3) → vc_X11_isBuyer σ49 a2 (fun r67 σ66 => ((¬ r67 = 0) → vp_in a0 8 ∧ ((¬ a1 = 1) → ((3 ≤ a1) → vp_in a0 8 ∧ ∃ n73, vc_X11_keep_109 a0 a1 a2 Q n73 (um (um σ66 49 0 a0.toNatClampNeg a1) 53 0 a0.toNatClampNeg 24) 0) ∧ ((¬ 3 ≤ a1) → Q 0 (um σ66 49 0 a0.toNatClampNeg a1))) ∧ ((a1 = 1) → vp_in a0 8 ∧ vp_in a2 24 ∧ vp_in a0 8 ∧ vp_in a2 24 ∧ vp_in a0 8 ∧ ((3 ≤ a1) → vp_in a0 8 ∧ ∃ n81, vc_X11_keep_109 a0 a1 a2 Q n81 (um (um (um (um (um σ66 49 0 a0.toNatClampNeg a1) 50 0 a0.toNatClampNeg a2) 51 0 a0.toNatClampNeg ((um (um σ66 49 0 a0.toNatClampNeg a1) 50 0 a0.toNatClampNeg a2) 23 0 a2.toNatClampNeg)) 52 0 a0.toNatClampNeg ((um (um (um σ66 49 0 a0.toNatClampNeg a1) 50 0 a0.toNatClampNeg a2) 51 0 a0.toNatClampNeg ((um (um σ66 49 0 a0.toNatClampNeg a1) 50 0 a0.toNatClampNeg a2) 23 0 a2.toNatClampNeg)) 24 0 a2.toNatClampNeg)) 53 0 a0.toNatClampNeg 24) 0) ∧ ((¬ 3 ≤ a1) → Q 0 (um (um (um (um σ66 49 0 a0.toNatClampNeg a1) 50 0 a0.toNatClampNeg a2) 51 0 a0.toNatClampNeg ((um (um σ66 49 0 a0.toNatClampNeg a1) 50 0 a0.toNatClampNeg a2) 23 0 a2.toNatClampNeg)) 52 0 a0.toNatClampNeg ((um (um (um σ66 49 0 a0.toNatClampNeg a1) 50 0 a0.toNatClampNeg a2) 51 0 a0.toNatClampNeg ((um (um σ66 49 0 a0.toNatClampNeg a1) 50 0 a0.toNatClampNeg a2) 23 0 a2.toNatClampNeg)) 24 0 a2.toNatClampNeg))))) ∧ ((r67 = 0) → Q ((-1)) σ66)))))))))))
set_option maxHeartbeats 4000000 in
set_option maxRecDepth 100000 in
theorem sl_X11_keep_109 {p : Program} {l : Launch} {e : Env} {s : State} {m : MethodId} {args : Array Value} {below : List Frame} {meth : Method} {c : Code} {E : zE} (C : zX p s m args meth c cX11_keep 5 RX11 (some .int) E) (x1 : Int32) (x2 : Int32) (x3 : Int32) (Q : Int32 → zMem → Prop) : ∀ (n : Nat) (σ : zMem) (x4 : Int32), vc_X11_keep_109 x1 x2 x3 Q n σ x4 → zG p l e (zRm 4 89) s m args below meth c 5 E 0 0 (MQ below (va_Qi Q (zPost E) (zA E s.heap.size)) args s 0 0 (zA E s.heap.size)) σ 109 [(0, .ref (E.2.2 22 0)), (1, .int x1), (2, .int x2), (3, .int x3), (4, .int x4)] [] := by
  intro n
  induction n with
  | zero =>
    intro σ x4 h
    exact False.elim h
  | succ n ih =>
    intro σ x4 h
    rw [vc_X11_keep_109] at h
    refine z_iload (pc' := 111) C dX11_keep_109 4 rfl rfl ?_
    refine z_bipush (v := 24) (pc' := 113) C dX11_keep_111 (by decide) rfl ?_
    obtain ⟨ht, hf⟩ := h
    refine z_icmp_ge (tgt := 170) (pc' := 116) C dX11_keep_113 (by decide) rfl (fun c15 => ?_) (fun c15 => ?_)
    · have h := ht c15
      refine z_iconst (v := 0) (pc' := 171) C dX11_keep_170 (by decide) rfl ?_
      exact z_iret C dX11_keep_171 h
    · have h := hf c15
      refine z_aload_n (pc' := 117) C dX11_keep_116 rfl 0 rfl rfl ?_
      refine zgX11_108 (pc' := 120) C zo22 dX11_keep_117 rfl ?_
      refine z_bipush (v := 60) (pc' := 122) C dX11_keep_120 (by decide) rfl ?_
      refine z_iload_n (pc' := 123) C dX11_keep_122 rfl 1 rfl rfl ?_
      refine z_imul (pc' := 124) C dX11_keep_123 rfl ?_
      refine z_iload (pc' := 126) C dX11_keep_124 4 rfl rfl ?_
      refine z_iadd (pc' := 127) C dX11_keep_126 rfl ?_
      refine z_iload_n (pc' := 128) C dX11_keep_127 rfl 2 rfl rfl ?_
      refine z_iconst (v := 3) (pc' := 129) C dX11_keep_128 (by decide) rfl ?_
      obtain ⟨ht, hf⟩ := h
      refine z_icmp_ne (tgt := 142) (pc' := 132) C dX11_keep_129 (by decide) rfl (fun c16 => ?_) (fun c16 => ?_)
      · have h := ht c16
        refine z_aload_n (pc' := 143) C dX11_keep_142 rfl 0 rfl rfl ?_
        refine zgX11_16 (pc' := 146) C zo22 dX11_keep_143 rfl ?_
        refine z_iload (pc' := 148) C dX11_keep_146 4 rfl rfl ?_
        obtain ⟨hv17, h⟩ := h
        refine z_zald (n := 24) (pc' := 149) C (zL_mem (by decide) zo25) (fun _ => rfl) hv17 dX11_keep_148 rfl ?_
        obtain ⟨ht, hf⟩ := h
        refine z_if_eq (tgt := 162) (pc' := 152) C dX11_keep_149 (by decide) rfl (fun c18 => ?_) (fun c18 => ?_)
        · have h := ht c18
          refine z_iconst (v := (-1)) (pc' := 163) C dX11_keep_162 (by decide) rfl ?_
          obtain ⟨hv19, h⟩ := h
          refine z_iast (n := 480) (pc' := 164) C (zL_mem (by decide) zo54) (fun _ => rfl) hv19 dX11_keep_163 rfl ?_
          refine z_iinc (j := 4) (v := x4 + 1) (pc' := 167) (lv' := [(4, .int (x4 + 1)), (0, .ref (E.2.2 22 0)), (1, .int x1), (2, .int x2), (3, .int x3)]) C dX11_keep_164 rfl rfl (by decide) rfl rfl ?_
          refine z_goto (tgt := 109) C dX11_keep_167 (by decide) ?_
          refine z_sub (lv' := [(0, .ref (E.2.2 22 0)), (1, .int x1), (2, .int x2), (3, .int x3), (4, .int (x4 + 1))]) [1, 2, 3, 4, 0] rfl ?_
          exact ih _ _ h
        · have h := hf c18
          refine z_aload_n (pc' := 153) C dX11_keep_152 rfl 0 rfl rfl ?_
          refine zgX11_20 (pc' := 156) C zo22 dX11_keep_153 rfl ?_
          refine z_iload (pc' := 158) C dX11_keep_156 4 rfl rfl ?_
          obtain ⟨hv20, h⟩ := h
          refine z_iald (n := 24) (pc' := 159) C (zL_mem (by decide) zo26) (fun _ => rfl) hv20 dX11_keep_158 rfl ?_
          refine z_goto (tgt := 163) C dX11_keep_159 (by decide) ?_
          obtain ⟨hv21, h⟩ := h
          refine z_iast (n := 480) (pc' := 164) C (zL_mem (by decide) zo54) (fun _ => rfl) hv21 dX11_keep_163 rfl ?_
          refine z_iinc (j := 4) (v := x4 + 1) (pc' := 167) (lv' := [(4, .int (x4 + 1)), (0, .ref (E.2.2 22 0)), (1, .int x1), (2, .int x2), (3, .int x3)]) C dX11_keep_164 rfl rfl (by decide) rfl rfl ?_
          refine z_goto (tgt := 109) C dX11_keep_167 (by decide) ?_
          refine z_sub (lv' := [(0, .ref (E.2.2 22 0)), (1, .int x1), (2, .int x2), (3, .int x3), (4, .int (x4 + 1))]) [1, 2, 3, 4, 0] rfl ?_
          exact ih _ _ h
      · have h := hf c16
        refine z_aload_n (pc' := 133) C dX11_keep_132 rfl 0 rfl rfl ?_
        refine z_iload (pc' := 135) C dX11_keep_133 4 rfl rfl ?_
        refine z_iload_n (pc' := 136) C dX11_keep_135 rfl 3 rfl rfl ?_
        refine z_callVi (q := 22) (i := 0) (w9 := (RX11, TX11, 40)) (pc' := 139) (st := [.int ((60 * x1) + x4), .ref (E.2.2 54 0)]) (As := [.int x4, .int x3]) C (sc_X11_worthOf l E σ x4 x3 _ h) zwX11_156_X11_worthOf zvX11_156_X11_worthOf.1 zvX11_156_X11_worthOf.2 (zL_mem (by decide) zo22) rfl rfl ⟨(Nat.le_of_ble_eq_true rfl), (Nat.le_of_ble_eq_true rfl)⟩ ⟨Nat.zero_le _, Nat.zero_le _⟩ rfl rfl (Nat.le_of_ble_eq_true rfl) dX11_keep_136 rfl (fun r23 σ22 h => ?_)
        refine z_goto (tgt := 163) C dX11_keep_139 (by decide) ?_
        obtain ⟨hv24, h⟩ := h
        refine z_iast (n := 480) (pc' := 164) C (zL_mem (by decide) zo54) (fun _ => rfl) hv24 dX11_keep_163 rfl ?_
        refine z_iinc (j := 4) (v := x4 + 1) (pc' := 167) (lv' := [(4, .int (x4 + 1)), (0, .ref (E.2.2 22 0)), (1, .int x1), (2, .int x2), (3, .int x3)]) C dX11_keep_164 rfl rfl (by decide) rfl rfl ?_
        refine z_goto (tgt := 109) C dX11_keep_167 (by decide) ?_
        refine z_sub (lv' := [(0, .ref (E.2.2 22 0)), (1, .int x1), (2, .int x2), (3, .int x3), (4, .int (x4 + 1))]) [1, 2, 3, 4, 0] rfl ?_
        exact ih _ _ h
set_option maxHeartbeats 4000000 in
set_option maxRecDepth 100000 in
theorem sc_X11_keep (l : Launch) (E : zE) (σ : zMem) (a0 : Int32) (a1 : Int32) (a2 : Int32) (Q : Int32 → zMem → Prop) (h : vc_X11_keep σ a0 a1 a2 Q) : zMi l yX11_keep cX11_keep 5 .int 4 89 E [.ref (E.2.2 22 0), .int a0, .int a1, .int a2] σ Q := by
  refine zMi_of (by decide) (Nat.le_of_ble_eq_true rfl) ?_
  intro p e s m args below meth c C
  unfold vc_X11_keep at h
  have fin : zG p l e (zRm 4 89) s m args below meth c 5 E 0 0 (MQ below (va_Qi Q (zPost E) (zA E s.heap.size)) args s 0 0 (zA E s.heap.size)) σ 0 [(0, .ref (E.2.2 22 0)), (1, .int a0), (2, .int a1), (3, .int a2)] [] := by
    refine z_iload_n (pc' := 1) C dX11_keep_0 rfl 1 rfl rfl ?_
    refine z_callSi (pc' := 4) (st := []) (As := [.int a0]) C (sc_X11_isShelf l E σ a0 _ h) zwX11_208_X11_isShelf ztX11_208_X11_isShelf ⟨(Nat.le_of_ble_eq_true rfl), (Nat.le_of_ble_eq_true rfl)⟩ ⟨Nat.zero_le _, Nat.zero_le _⟩ rfl rfl (Nat.le_of_ble_eq_true rfl) dX11_keep_1 rfl (fun r2 σ1 h => ?_)
    obtain ⟨ht, hf⟩ := h
    refine z_if_eq (tgt := 46) (pc' := 7) C dX11_keep_4 (by decide) rfl (fun c3 => ?_) (fun c3 => ?_)
    · have h := ht c3
      refine z_iconst (v := (-1)) (pc' := 47) C dX11_keep_46 (by decide) rfl ?_
      exact z_iret C dX11_keep_47 h
    · have h := hf c3
      refine z_iload_n (pc' := 8) C dX11_keep_7 rfl 2 rfl rfl ?_
      refine z_iconst (v := 0) (pc' := 9) C dX11_keep_8 (by decide) rfl ?_
      refine z_iconst (v := 4) (pc' := 10) C dX11_keep_9 (by decide) rfl ?_
      refine z_callSi (pc' := 13) (st := []) (As := [.int a1, .int 0, .int 4]) C (sc_X11_in l E σ1 a1 0 4 _ h) zwX11_114_X11_in ztX11_114_X11_in ⟨(Nat.le_of_ble_eq_true rfl), (Nat.le_of_ble_eq_true rfl)⟩ ⟨Nat.zero_le _, Nat.zero_le _⟩ rfl rfl (Nat.le_of_ble_eq_true rfl) dX11_keep_10 rfl (fun r5 σ4 h => ?_)
      obtain ⟨ht, hf⟩ := h
      refine z_if_eq (tgt := 46) (pc' := 16) C dX11_keep_13 (by decide) rfl (fun c6 => ?_) (fun c6 => ?_)
      · have h := ht c6
        refine z_iconst (v := (-1)) (pc' := 47) C dX11_keep_46 (by decide) rfl ?_
        exact z_iret C dX11_keep_47 h
      · have h := hf c6
        refine z_iload_n (pc' := 17) C dX11_keep_16 rfl 2 rfl rfl ?_
        refine z_iconst (v := 2) (pc' := 18) C dX11_keep_17 (by decide) rfl ?_
        obtain ⟨ht, hf⟩ := h
        refine z_icmp_eq (tgt := 46) (pc' := 21) C dX11_keep_18 (by decide) rfl (fun c7 => ?_) (fun c7 => ?_)
        · have h := ht c7
          refine z_iconst (v := (-1)) (pc' := 47) C dX11_keep_46 (by decide) rfl ?_
          exact z_iret C dX11_keep_47 h
        · have h := hf c7
          refine z_iload_n (pc' := 22) C dX11_keep_21 rfl 2 rfl rfl ?_
          refine z_iconst (v := 1) (pc' := 23) C dX11_keep_22 (by decide) rfl ?_
          obtain ⟨ht, hf⟩ := h
          refine z_icmp_ne (tgt := 33) (pc' := 26) C dX11_keep_23 (by decide) rfl (fun c8 => ?_) (fun c8 => ?_)
          · have h := ht c8
            refine z_iload_n (pc' := 34) C dX11_keep_33 rfl 2 rfl rfl ?_
            refine z_iconst (v := 3) (pc' := 35) C dX11_keep_34 (by decide) rfl ?_
            obtain ⟨ht, hf⟩ := h
            refine z_icmp_ne (tgt := 48) (pc' := 38) C dX11_keep_35 (by decide) rfl (fun c9 => ?_) (fun c9 => ?_)
            · have h := ht c9
              refine z_aload_n (pc' := 49) C dX11_keep_48 rfl 0 rfl rfl ?_
              refine zgX11_93 (pc' := 52) C zo22 dX11_keep_49 rfl ?_
              refine z_iload_n (pc' := 53) C dX11_keep_52 rfl 1 rfl rfl ?_
              refine z_iload_n (pc' := 54) C dX11_keep_53 rfl 2 rfl rfl ?_
              obtain ⟨hv10, h⟩ := h
              refine z_iast (n := 8) (pc' := 55) C (zL_mem (by decide) zo49) (fun _ => rfl) hv10 dX11_keep_54 rfl ?_
              refine z_iload_n (pc' := 56) C dX11_keep_55 rfl 2 rfl rfl ?_
              refine z_iconst (v := 1) (pc' := 57) C dX11_keep_56 (by decide) rfl ?_
              obtain ⟨ht, hf⟩ := h
              refine z_icmp_ne (tgt := 91) (pc' := 60) C dX11_keep_57 (by decide) rfl (fun c11 => ?_) (fun c11 => ?_)
              · have h := ht c11
                refine z_iload_n (pc' := 92) C dX11_keep_91 rfl 2 rfl rfl ?_
                refine z_iconst (v := 3) (pc' := 93) C dX11_keep_92 (by decide) rfl ?_
                obtain ⟨ht, hf⟩ := h
                refine z_icmp_ge (tgt := 98) (pc' := 96) C dX11_keep_93 (by decide) rfl (fun c12 => ?_) (fun c12 => ?_)
                · have h := ht c12
                  refine z_aload_n (pc' := 99) C dX11_keep_98 rfl 0 rfl rfl ?_
                  refine zgX11_105 (pc' := 102) C zo22 dX11_keep_99 rfl ?_
                  refine z_iload_n (pc' := 103) C dX11_keep_102 rfl 1 rfl rfl ?_
                  refine z_bipush (v := 24) (pc' := 105) C dX11_keep_103 (by decide) rfl ?_
                  obtain ⟨hv13, h⟩ := h
                  refine z_iast (n := 8) (pc' := 106) C (zL_mem (by decide) zo53) (fun _ => rfl) hv13 dX11_keep_105 rfl ?_
                  refine z_iconst (v := 0) (pc' := 107) C dX11_keep_106 (by decide) rfl ?_
                  refine z_istore (pc' := 109) (lv' := [(4, .int 0), (0, .ref (E.2.2 22 0)), (1, .int a0), (2, .int a1), (3, .int a2)]) C dX11_keep_107 (by decide) rfl rfl ?_
                  obtain ⟨n14, h⟩ := h
                  refine z_sub (lv' := [(0, .ref (E.2.2 22 0)), (1, .int a0), (2, .int a1), (3, .int a2), (4, .int 0)]) [1, 2, 3, 4, 0] rfl ?_
                  exact sl_X11_keep_109 C a0 a1 a2 Q n14 _ _ h
                · have h := hf c12
                  refine z_iconst (v := 0) (pc' := 97) C dX11_keep_96 (by decide) rfl ?_
                  exact z_iret C dX11_keep_97 h
              · have h := hf c11
                refine z_aload_n (pc' := 61) C dX11_keep_60 rfl 0 rfl rfl ?_
                refine zgX11_96 (pc' := 64) C zo22 dX11_keep_61 rfl ?_
                refine z_iload_n (pc' := 65) C dX11_keep_64 rfl 1 rfl rfl ?_
                refine z_iload_n (pc' := 66) C dX11_keep_65 rfl 3 rfl rfl ?_
                obtain ⟨hv25, h⟩ := h
                refine z_iast (n := 8) (pc' := 67) C (zL_mem (by decide) zo50) (fun _ => rfl) hv25 dX11_keep_66 rfl ?_
                refine z_aload_n (pc' := 68) C dX11_keep_67 rfl 0 rfl rfl ?_
                refine zgX11_99 (pc' := 71) C zo22 dX11_keep_68 rfl ?_
                refine z_iload_n (pc' := 72) C dX11_keep_71 rfl 1 rfl rfl ?_
                refine z_aload_n (pc' := 73) C dX11_keep_72 rfl 0 rfl rfl ?_
                refine zgX11_7 (pc' := 76) C zo22 dX11_keep_73 rfl ?_
                refine z_iload_n (pc' := 77) C dX11_keep_76 rfl 3 rfl rfl ?_
                obtain ⟨hv26, h⟩ := h
                refine z_iald (n := 24) (pc' := 78) C (zL_mem (by decide) zo23) (fun _ => rfl) hv26 dX11_keep_77 rfl ?_
                obtain ⟨hv27, h⟩ := h
                refine z_iast (n := 8) (pc' := 79) C (zL_mem (by decide) zo51) (fun _ => rfl) hv27 dX11_keep_78 rfl ?_
                refine z_aload_n (pc' := 80) C dX11_keep_79 rfl 0 rfl rfl ?_
                refine zgX11_102 (pc' := 83) C zo22 dX11_keep_80 rfl ?_
                refine z_iload_n (pc' := 84) C dX11_keep_83 rfl 1 rfl rfl ?_
                refine z_aload_n (pc' := 85) C dX11_keep_84 rfl 0 rfl rfl ?_
                refine zgX11_13 (pc' := 88) C zo22 dX11_keep_85 rfl ?_
                refine z_iload_n (pc' := 89) C dX11_keep_88 rfl 3 rfl rfl ?_
                obtain ⟨hv28, h⟩ := h
                refine z_iald (n := 24) (pc' := 90) C (zL_mem (by decide) zo24) (fun _ => rfl) hv28 dX11_keep_89 rfl ?_
                obtain ⟨hv29, h⟩ := h
                refine z_iast (n := 8) (pc' := 91) C (zL_mem (by decide) zo52) (fun _ => rfl) hv29 dX11_keep_90 rfl ?_
                refine z_iload_n (pc' := 92) C dX11_keep_91 rfl 2 rfl rfl ?_
                refine z_iconst (v := 3) (pc' := 93) C dX11_keep_92 (by decide) rfl ?_
                obtain ⟨ht, hf⟩ := h
                refine z_icmp_ge (tgt := 98) (pc' := 96) C dX11_keep_93 (by decide) rfl (fun c30 => ?_) (fun c30 => ?_)
                · have h := ht c30
                  refine z_aload_n (pc' := 99) C dX11_keep_98 rfl 0 rfl rfl ?_
                  refine zgX11_105 (pc' := 102) C zo22 dX11_keep_99 rfl ?_
                  refine z_iload_n (pc' := 103) C dX11_keep_102 rfl 1 rfl rfl ?_
                  refine z_bipush (v := 24) (pc' := 105) C dX11_keep_103 (by decide) rfl ?_
                  obtain ⟨hv31, h⟩ := h
                  refine z_iast (n := 8) (pc' := 106) C (zL_mem (by decide) zo53) (fun _ => rfl) hv31 dX11_keep_105 rfl ?_
                  refine z_iconst (v := 0) (pc' := 107) C dX11_keep_106 (by decide) rfl ?_
                  refine z_istore (pc' := 109) (lv' := [(4, .int 0), (0, .ref (E.2.2 22 0)), (1, .int a0), (2, .int a1), (3, .int a2)]) C dX11_keep_107 (by decide) rfl rfl ?_
                  obtain ⟨n32, h⟩ := h
                  refine z_sub (lv' := [(0, .ref (E.2.2 22 0)), (1, .int a0), (2, .int a1), (3, .int a2), (4, .int 0)]) [1, 2, 3, 4, 0] rfl ?_
                  exact sl_X11_keep_109 C a0 a1 a2 Q n32 _ _ h
                · have h := hf c30
                  refine z_iconst (v := 0) (pc' := 97) C dX11_keep_96 (by decide) rfl ?_
                  exact z_iret C dX11_keep_97 h
            · have h := hf c9
              refine z_aload_n (pc' := 39) C dX11_keep_38 rfl 0 rfl rfl ?_
              refine z_iload_n (pc' := 40) C dX11_keep_39 rfl 3 rfl rfl ?_
              refine z_callVi (q := 22) (i := 0) (w9 := (RX11, TX11, 40)) (pc' := 43) (st := []) (As := [.int a2]) C (sc_X11_isBuyer l E σ4 a2 _ h) zwX11_126_X11_isBuyer zvX11_126_X11_isBuyer.1 zvX11_126_X11_isBuyer.2 (zL_mem (by decide) zo22) rfl rfl ⟨(Nat.le_of_ble_eq_true rfl), (Nat.le_of_ble_eq_true rfl)⟩ ⟨Nat.zero_le _, Nat.zero_le _⟩ rfl rfl (Nat.le_of_ble_eq_true rfl) dX11_keep_40 rfl (fun r34 σ33 h => ?_)
              obtain ⟨ht, hf⟩ := h
              refine z_if_ne (tgt := 48) (pc' := 46) C dX11_keep_43 (by decide) rfl (fun c35 => ?_) (fun c35 => ?_)
              · have h := ht c35
                refine z_aload_n (pc' := 49) C dX11_keep_48 rfl 0 rfl rfl ?_
                refine zgX11_93 (pc' := 52) C zo22 dX11_keep_49 rfl ?_
                refine z_iload_n (pc' := 53) C dX11_keep_52 rfl 1 rfl rfl ?_
                refine z_iload_n (pc' := 54) C dX11_keep_53 rfl 2 rfl rfl ?_
                obtain ⟨hv36, h⟩ := h
                refine z_iast (n := 8) (pc' := 55) C (zL_mem (by decide) zo49) (fun _ => rfl) hv36 dX11_keep_54 rfl ?_
                refine z_iload_n (pc' := 56) C dX11_keep_55 rfl 2 rfl rfl ?_
                refine z_iconst (v := 1) (pc' := 57) C dX11_keep_56 (by decide) rfl ?_
                obtain ⟨ht, hf⟩ := h
                refine z_icmp_ne (tgt := 91) (pc' := 60) C dX11_keep_57 (by decide) rfl (fun c37 => ?_) (fun c37 => ?_)
                · have h := ht c37
                  refine z_iload_n (pc' := 92) C dX11_keep_91 rfl 2 rfl rfl ?_
                  refine z_iconst (v := 3) (pc' := 93) C dX11_keep_92 (by decide) rfl ?_
                  obtain ⟨ht, hf⟩ := h
                  refine z_icmp_ge (tgt := 98) (pc' := 96) C dX11_keep_93 (by decide) rfl (fun c38 => ?_) (fun c38 => ?_)
                  · have h := ht c38
                    refine z_aload_n (pc' := 99) C dX11_keep_98 rfl 0 rfl rfl ?_
                    refine zgX11_105 (pc' := 102) C zo22 dX11_keep_99 rfl ?_
                    refine z_iload_n (pc' := 103) C dX11_keep_102 rfl 1 rfl rfl ?_
                    refine z_bipush (v := 24) (pc' := 105) C dX11_keep_103 (by decide) rfl ?_
                    obtain ⟨hv39, h⟩ := h
                    refine z_iast (n := 8) (pc' := 106) C (zL_mem (by decide) zo53) (fun _ => rfl) hv39 dX11_keep_105 rfl ?_
                    refine z_iconst (v := 0) (pc' := 107) C dX11_keep_106 (by decide) rfl ?_
                    refine z_istore (pc' := 109) (lv' := [(4, .int 0), (0, .ref (E.2.2 22 0)), (1, .int a0), (2, .int a1), (3, .int a2)]) C dX11_keep_107 (by decide) rfl rfl ?_
                    obtain ⟨n40, h⟩ := h
                    refine z_sub (lv' := [(0, .ref (E.2.2 22 0)), (1, .int a0), (2, .int a1), (3, .int a2), (4, .int 0)]) [1, 2, 3, 4, 0] rfl ?_
                    exact sl_X11_keep_109 C a0 a1 a2 Q n40 _ _ h
                  · have h := hf c38
                    refine z_iconst (v := 0) (pc' := 97) C dX11_keep_96 (by decide) rfl ?_
                    exact z_iret C dX11_keep_97 h
                · have h := hf c37
                  refine z_aload_n (pc' := 61) C dX11_keep_60 rfl 0 rfl rfl ?_
                  refine zgX11_96 (pc' := 64) C zo22 dX11_keep_61 rfl ?_
                  refine z_iload_n (pc' := 65) C dX11_keep_64 rfl 1 rfl rfl ?_
                  refine z_iload_n (pc' := 66) C dX11_keep_65 rfl 3 rfl rfl ?_
                  obtain ⟨hv41, h⟩ := h
                  refine z_iast (n := 8) (pc' := 67) C (zL_mem (by decide) zo50) (fun _ => rfl) hv41 dX11_keep_66 rfl ?_
                  refine z_aload_n (pc' := 68) C dX11_keep_67 rfl 0 rfl rfl ?_
                  refine zgX11_99 (pc' := 71) C zo22 dX11_keep_68 rfl ?_
                  refine z_iload_n (pc' := 72) C dX11_keep_71 rfl 1 rfl rfl ?_
                  refine z_aload_n (pc' := 73) C dX11_keep_72 rfl 0 rfl rfl ?_
                  refine zgX11_7 (pc' := 76) C zo22 dX11_keep_73 rfl ?_
                  refine z_iload_n (pc' := 77) C dX11_keep_76 rfl 3 rfl rfl ?_
                  obtain ⟨hv42, h⟩ := h
                  refine z_iald (n := 24) (pc' := 78) C (zL_mem (by decide) zo23) (fun _ => rfl) hv42 dX11_keep_77 rfl ?_
                  obtain ⟨hv43, h⟩ := h
                  refine z_iast (n := 8) (pc' := 79) C (zL_mem (by decide) zo51) (fun _ => rfl) hv43 dX11_keep_78 rfl ?_
                  refine z_aload_n (pc' := 80) C dX11_keep_79 rfl 0 rfl rfl ?_
                  refine zgX11_102 (pc' := 83) C zo22 dX11_keep_80 rfl ?_
                  refine z_iload_n (pc' := 84) C dX11_keep_83 rfl 1 rfl rfl ?_
                  refine z_aload_n (pc' := 85) C dX11_keep_84 rfl 0 rfl rfl ?_
                  refine zgX11_13 (pc' := 88) C zo22 dX11_keep_85 rfl ?_
                  refine z_iload_n (pc' := 89) C dX11_keep_88 rfl 3 rfl rfl ?_
                  obtain ⟨hv44, h⟩ := h
                  refine z_iald (n := 24) (pc' := 90) C (zL_mem (by decide) zo24) (fun _ => rfl) hv44 dX11_keep_89 rfl ?_
                  obtain ⟨hv45, h⟩ := h
                  refine z_iast (n := 8) (pc' := 91) C (zL_mem (by decide) zo52) (fun _ => rfl) hv45 dX11_keep_90 rfl ?_
                  refine z_iload_n (pc' := 92) C dX11_keep_91 rfl 2 rfl rfl ?_
                  refine z_iconst (v := 3) (pc' := 93) C dX11_keep_92 (by decide) rfl ?_
                  obtain ⟨ht, hf⟩ := h
                  refine z_icmp_ge (tgt := 98) (pc' := 96) C dX11_keep_93 (by decide) rfl (fun c46 => ?_) (fun c46 => ?_)
                  · have h := ht c46
                    refine z_aload_n (pc' := 99) C dX11_keep_98 rfl 0 rfl rfl ?_
                    refine zgX11_105 (pc' := 102) C zo22 dX11_keep_99 rfl ?_
                    refine z_iload_n (pc' := 103) C dX11_keep_102 rfl 1 rfl rfl ?_
                    refine z_bipush (v := 24) (pc' := 105) C dX11_keep_103 (by decide) rfl ?_
                    obtain ⟨hv47, h⟩ := h
                    refine z_iast (n := 8) (pc' := 106) C (zL_mem (by decide) zo53) (fun _ => rfl) hv47 dX11_keep_105 rfl ?_
                    refine z_iconst (v := 0) (pc' := 107) C dX11_keep_106 (by decide) rfl ?_
                    refine z_istore (pc' := 109) (lv' := [(4, .int 0), (0, .ref (E.2.2 22 0)), (1, .int a0), (2, .int a1), (3, .int a2)]) C dX11_keep_107 (by decide) rfl rfl ?_
                    obtain ⟨n48, h⟩ := h
                    refine z_sub (lv' := [(0, .ref (E.2.2 22 0)), (1, .int a0), (2, .int a1), (3, .int a2), (4, .int 0)]) [1, 2, 3, 4, 0] rfl ?_
                    exact sl_X11_keep_109 C a0 a1 a2 Q n48 _ _ h
                  · have h := hf c46
                    refine z_iconst (v := 0) (pc' := 97) C dX11_keep_96 (by decide) rfl ?_
                    exact z_iret C dX11_keep_97 h
              · have h := hf c35
                refine z_iconst (v := (-1)) (pc' := 47) C dX11_keep_46 (by decide) rfl ?_
                exact z_iret C dX11_keep_47 h
          · have h := hf c8
            refine z_iload_n (pc' := 27) C dX11_keep_26 rfl 3 rfl rfl ?_
            refine z_callSi (pc' := 30) (st := []) (As := [.int a2]) C (sc_X11_isPlot l E σ4 a2 _ h) zwX11_121_X11_isPlot ztX11_121_X11_isPlot ⟨(Nat.le_of_ble_eq_true rfl), (Nat.le_of_ble_eq_true rfl)⟩ ⟨Nat.zero_le _, Nat.zero_le _⟩ rfl rfl (Nat.le_of_ble_eq_true rfl) dX11_keep_27 rfl (fun r50 σ49 h => ?_)
            obtain ⟨ht, hf⟩ := h
            refine z_if_eq (tgt := 46) (pc' := 33) C dX11_keep_30 (by decide) rfl (fun c51 => ?_) (fun c51 => ?_)
            · have h := ht c51
              refine z_iconst (v := (-1)) (pc' := 47) C dX11_keep_46 (by decide) rfl ?_
              exact z_iret C dX11_keep_47 h
            · have h := hf c51
              refine z_iload_n (pc' := 34) C dX11_keep_33 rfl 2 rfl rfl ?_
              refine z_iconst (v := 3) (pc' := 35) C dX11_keep_34 (by decide) rfl ?_
              obtain ⟨ht, hf⟩ := h
              refine z_icmp_ne (tgt := 48) (pc' := 38) C dX11_keep_35 (by decide) rfl (fun c52 => ?_) (fun c52 => ?_)
              · have h := ht c52
                refine z_aload_n (pc' := 49) C dX11_keep_48 rfl 0 rfl rfl ?_
                refine zgX11_93 (pc' := 52) C zo22 dX11_keep_49 rfl ?_
                refine z_iload_n (pc' := 53) C dX11_keep_52 rfl 1 rfl rfl ?_
                refine z_iload_n (pc' := 54) C dX11_keep_53 rfl 2 rfl rfl ?_
                obtain ⟨hv53, h⟩ := h
                refine z_iast (n := 8) (pc' := 55) C (zL_mem (by decide) zo49) (fun _ => rfl) hv53 dX11_keep_54 rfl ?_
                refine z_iload_n (pc' := 56) C dX11_keep_55 rfl 2 rfl rfl ?_
                refine z_iconst (v := 1) (pc' := 57) C dX11_keep_56 (by decide) rfl ?_
                obtain ⟨ht, hf⟩ := h
                refine z_icmp_ne (tgt := 91) (pc' := 60) C dX11_keep_57 (by decide) rfl (fun c54 => ?_) (fun c54 => ?_)
                · have h := ht c54
                  refine z_iload_n (pc' := 92) C dX11_keep_91 rfl 2 rfl rfl ?_
                  refine z_iconst (v := 3) (pc' := 93) C dX11_keep_92 (by decide) rfl ?_
                  obtain ⟨ht, hf⟩ := h
                  refine z_icmp_ge (tgt := 98) (pc' := 96) C dX11_keep_93 (by decide) rfl (fun c55 => ?_) (fun c55 => ?_)
                  · have h := ht c55
                    refine z_aload_n (pc' := 99) C dX11_keep_98 rfl 0 rfl rfl ?_
                    refine zgX11_105 (pc' := 102) C zo22 dX11_keep_99 rfl ?_
                    refine z_iload_n (pc' := 103) C dX11_keep_102 rfl 1 rfl rfl ?_
                    refine z_bipush (v := 24) (pc' := 105) C dX11_keep_103 (by decide) rfl ?_
                    obtain ⟨hv56, h⟩ := h
                    refine z_iast (n := 8) (pc' := 106) C (zL_mem (by decide) zo53) (fun _ => rfl) hv56 dX11_keep_105 rfl ?_
                    refine z_iconst (v := 0) (pc' := 107) C dX11_keep_106 (by decide) rfl ?_
                    refine z_istore (pc' := 109) (lv' := [(4, .int 0), (0, .ref (E.2.2 22 0)), (1, .int a0), (2, .int a1), (3, .int a2)]) C dX11_keep_107 (by decide) rfl rfl ?_
                    obtain ⟨n57, h⟩ := h
                    refine z_sub (lv' := [(0, .ref (E.2.2 22 0)), (1, .int a0), (2, .int a1), (3, .int a2), (4, .int 0)]) [1, 2, 3, 4, 0] rfl ?_
                    exact sl_X11_keep_109 C a0 a1 a2 Q n57 _ _ h
                  · have h := hf c55
                    refine z_iconst (v := 0) (pc' := 97) C dX11_keep_96 (by decide) rfl ?_
                    exact z_iret C dX11_keep_97 h
                · have h := hf c54
                  refine z_aload_n (pc' := 61) C dX11_keep_60 rfl 0 rfl rfl ?_
                  refine zgX11_96 (pc' := 64) C zo22 dX11_keep_61 rfl ?_
                  refine z_iload_n (pc' := 65) C dX11_keep_64 rfl 1 rfl rfl ?_
                  refine z_iload_n (pc' := 66) C dX11_keep_65 rfl 3 rfl rfl ?_
                  obtain ⟨hv58, h⟩ := h
                  refine z_iast (n := 8) (pc' := 67) C (zL_mem (by decide) zo50) (fun _ => rfl) hv58 dX11_keep_66 rfl ?_
                  refine z_aload_n (pc' := 68) C dX11_keep_67 rfl 0 rfl rfl ?_
                  refine zgX11_99 (pc' := 71) C zo22 dX11_keep_68 rfl ?_
                  refine z_iload_n (pc' := 72) C dX11_keep_71 rfl 1 rfl rfl ?_
                  refine z_aload_n (pc' := 73) C dX11_keep_72 rfl 0 rfl rfl ?_
                  refine zgX11_7 (pc' := 76) C zo22 dX11_keep_73 rfl ?_
                  refine z_iload_n (pc' := 77) C dX11_keep_76 rfl 3 rfl rfl ?_
                  obtain ⟨hv59, h⟩ := h
                  refine z_iald (n := 24) (pc' := 78) C (zL_mem (by decide) zo23) (fun _ => rfl) hv59 dX11_keep_77 rfl ?_
                  obtain ⟨hv60, h⟩ := h
                  refine z_iast (n := 8) (pc' := 79) C (zL_mem (by decide) zo51) (fun _ => rfl) hv60 dX11_keep_78 rfl ?_
                  refine z_aload_n (pc' := 80) C dX11_keep_79 rfl 0 rfl rfl ?_
                  refine zgX11_102 (pc' := 83) C zo22 dX11_keep_80 rfl ?_
                  refine z_iload_n (pc' := 84) C dX11_keep_83 rfl 1 rfl rfl ?_
                  refine z_aload_n (pc' := 85) C dX11_keep_84 rfl 0 rfl rfl ?_
                  refine zgX11_13 (pc' := 88) C zo22 dX11_keep_85 rfl ?_
                  refine z_iload_n (pc' := 89) C dX11_keep_88 rfl 3 rfl rfl ?_
                  obtain ⟨hv61, h⟩ := h
                  refine z_iald (n := 24) (pc' := 90) C (zL_mem (by decide) zo24) (fun _ => rfl) hv61 dX11_keep_89 rfl ?_
                  obtain ⟨hv62, h⟩ := h
                  refine z_iast (n := 8) (pc' := 91) C (zL_mem (by decide) zo52) (fun _ => rfl) hv62 dX11_keep_90 rfl ?_
                  refine z_iload_n (pc' := 92) C dX11_keep_91 rfl 2 rfl rfl ?_
                  refine z_iconst (v := 3) (pc' := 93) C dX11_keep_92 (by decide) rfl ?_
                  obtain ⟨ht, hf⟩ := h
                  refine z_icmp_ge (tgt := 98) (pc' := 96) C dX11_keep_93 (by decide) rfl (fun c63 => ?_) (fun c63 => ?_)
                  · have h := ht c63
                    refine z_aload_n (pc' := 99) C dX11_keep_98 rfl 0 rfl rfl ?_
                    refine zgX11_105 (pc' := 102) C zo22 dX11_keep_99 rfl ?_
                    refine z_iload_n (pc' := 103) C dX11_keep_102 rfl 1 rfl rfl ?_
                    refine z_bipush (v := 24) (pc' := 105) C dX11_keep_103 (by decide) rfl ?_
                    obtain ⟨hv64, h⟩ := h
                    refine z_iast (n := 8) (pc' := 106) C (zL_mem (by decide) zo53) (fun _ => rfl) hv64 dX11_keep_105 rfl ?_
                    refine z_iconst (v := 0) (pc' := 107) C dX11_keep_106 (by decide) rfl ?_
                    refine z_istore (pc' := 109) (lv' := [(4, .int 0), (0, .ref (E.2.2 22 0)), (1, .int a0), (2, .int a1), (3, .int a2)]) C dX11_keep_107 (by decide) rfl rfl ?_
                    obtain ⟨n65, h⟩ := h
                    refine z_sub (lv' := [(0, .ref (E.2.2 22 0)), (1, .int a0), (2, .int a1), (3, .int a2), (4, .int 0)]) [1, 2, 3, 4, 0] rfl ?_
                    exact sl_X11_keep_109 C a0 a1 a2 Q n65 _ _ h
                  · have h := hf c63
                    refine z_iconst (v := 0) (pc' := 97) C dX11_keep_96 (by decide) rfl ?_
                    exact z_iret C dX11_keep_97 h
              · have h := hf c52
                refine z_aload_n (pc' := 39) C dX11_keep_38 rfl 0 rfl rfl ?_
                refine z_iload_n (pc' := 40) C dX11_keep_39 rfl 3 rfl rfl ?_
                refine z_callVi (q := 22) (i := 0) (w9 := (RX11, TX11, 40)) (pc' := 43) (st := []) (As := [.int a2]) C (sc_X11_isBuyer l E σ49 a2 _ h) zwX11_126_X11_isBuyer zvX11_126_X11_isBuyer.1 zvX11_126_X11_isBuyer.2 (zL_mem (by decide) zo22) rfl rfl ⟨(Nat.le_of_ble_eq_true rfl), (Nat.le_of_ble_eq_true rfl)⟩ ⟨Nat.zero_le _, Nat.zero_le _⟩ rfl rfl (Nat.le_of_ble_eq_true rfl) dX11_keep_40 rfl (fun r67 σ66 h => ?_)
                obtain ⟨ht, hf⟩ := h
                refine z_if_ne (tgt := 48) (pc' := 46) C dX11_keep_43 (by decide) rfl (fun c68 => ?_) (fun c68 => ?_)
                · have h := ht c68
                  refine z_aload_n (pc' := 49) C dX11_keep_48 rfl 0 rfl rfl ?_
                  refine zgX11_93 (pc' := 52) C zo22 dX11_keep_49 rfl ?_
                  refine z_iload_n (pc' := 53) C dX11_keep_52 rfl 1 rfl rfl ?_
                  refine z_iload_n (pc' := 54) C dX11_keep_53 rfl 2 rfl rfl ?_
                  obtain ⟨hv69, h⟩ := h
                  refine z_iast (n := 8) (pc' := 55) C (zL_mem (by decide) zo49) (fun _ => rfl) hv69 dX11_keep_54 rfl ?_
                  refine z_iload_n (pc' := 56) C dX11_keep_55 rfl 2 rfl rfl ?_
                  refine z_iconst (v := 1) (pc' := 57) C dX11_keep_56 (by decide) rfl ?_
                  obtain ⟨ht, hf⟩ := h
                  refine z_icmp_ne (tgt := 91) (pc' := 60) C dX11_keep_57 (by decide) rfl (fun c70 => ?_) (fun c70 => ?_)
                  · have h := ht c70
                    refine z_iload_n (pc' := 92) C dX11_keep_91 rfl 2 rfl rfl ?_
                    refine z_iconst (v := 3) (pc' := 93) C dX11_keep_92 (by decide) rfl ?_
                    obtain ⟨ht, hf⟩ := h
                    refine z_icmp_ge (tgt := 98) (pc' := 96) C dX11_keep_93 (by decide) rfl (fun c71 => ?_) (fun c71 => ?_)
                    · have h := ht c71
                      refine z_aload_n (pc' := 99) C dX11_keep_98 rfl 0 rfl rfl ?_
                      refine zgX11_105 (pc' := 102) C zo22 dX11_keep_99 rfl ?_
                      refine z_iload_n (pc' := 103) C dX11_keep_102 rfl 1 rfl rfl ?_
                      refine z_bipush (v := 24) (pc' := 105) C dX11_keep_103 (by decide) rfl ?_
                      obtain ⟨hv72, h⟩ := h
                      refine z_iast (n := 8) (pc' := 106) C (zL_mem (by decide) zo53) (fun _ => rfl) hv72 dX11_keep_105 rfl ?_
                      refine z_iconst (v := 0) (pc' := 107) C dX11_keep_106 (by decide) rfl ?_
                      refine z_istore (pc' := 109) (lv' := [(4, .int 0), (0, .ref (E.2.2 22 0)), (1, .int a0), (2, .int a1), (3, .int a2)]) C dX11_keep_107 (by decide) rfl rfl ?_
                      obtain ⟨n73, h⟩ := h
                      refine z_sub (lv' := [(0, .ref (E.2.2 22 0)), (1, .int a0), (2, .int a1), (3, .int a2), (4, .int 0)]) [1, 2, 3, 4, 0] rfl ?_
                      exact sl_X11_keep_109 C a0 a1 a2 Q n73 _ _ h
                    · have h := hf c71
                      refine z_iconst (v := 0) (pc' := 97) C dX11_keep_96 (by decide) rfl ?_
                      exact z_iret C dX11_keep_97 h
                  · have h := hf c70
                    refine z_aload_n (pc' := 61) C dX11_keep_60 rfl 0 rfl rfl ?_
                    refine zgX11_96 (pc' := 64) C zo22 dX11_keep_61 rfl ?_
                    refine z_iload_n (pc' := 65) C dX11_keep_64 rfl 1 rfl rfl ?_
                    refine z_iload_n (pc' := 66) C dX11_keep_65 rfl 3 rfl rfl ?_
                    obtain ⟨hv74, h⟩ := h
                    refine z_iast (n := 8) (pc' := 67) C (zL_mem (by decide) zo50) (fun _ => rfl) hv74 dX11_keep_66 rfl ?_
                    refine z_aload_n (pc' := 68) C dX11_keep_67 rfl 0 rfl rfl ?_
                    refine zgX11_99 (pc' := 71) C zo22 dX11_keep_68 rfl ?_
                    refine z_iload_n (pc' := 72) C dX11_keep_71 rfl 1 rfl rfl ?_
                    refine z_aload_n (pc' := 73) C dX11_keep_72 rfl 0 rfl rfl ?_
                    refine zgX11_7 (pc' := 76) C zo22 dX11_keep_73 rfl ?_
                    refine z_iload_n (pc' := 77) C dX11_keep_76 rfl 3 rfl rfl ?_
                    obtain ⟨hv75, h⟩ := h
                    refine z_iald (n := 24) (pc' := 78) C (zL_mem (by decide) zo23) (fun _ => rfl) hv75 dX11_keep_77 rfl ?_
                    obtain ⟨hv76, h⟩ := h
                    refine z_iast (n := 8) (pc' := 79) C (zL_mem (by decide) zo51) (fun _ => rfl) hv76 dX11_keep_78 rfl ?_
                    refine z_aload_n (pc' := 80) C dX11_keep_79 rfl 0 rfl rfl ?_
                    refine zgX11_102 (pc' := 83) C zo22 dX11_keep_80 rfl ?_
                    refine z_iload_n (pc' := 84) C dX11_keep_83 rfl 1 rfl rfl ?_
                    refine z_aload_n (pc' := 85) C dX11_keep_84 rfl 0 rfl rfl ?_
                    refine zgX11_13 (pc' := 88) C zo22 dX11_keep_85 rfl ?_
                    refine z_iload_n (pc' := 89) C dX11_keep_88 rfl 3 rfl rfl ?_
                    obtain ⟨hv77, h⟩ := h
                    refine z_iald (n := 24) (pc' := 90) C (zL_mem (by decide) zo24) (fun _ => rfl) hv77 dX11_keep_89 rfl ?_
                    obtain ⟨hv78, h⟩ := h
                    refine z_iast (n := 8) (pc' := 91) C (zL_mem (by decide) zo52) (fun _ => rfl) hv78 dX11_keep_90 rfl ?_
                    refine z_iload_n (pc' := 92) C dX11_keep_91 rfl 2 rfl rfl ?_
                    refine z_iconst (v := 3) (pc' := 93) C dX11_keep_92 (by decide) rfl ?_
                    obtain ⟨ht, hf⟩ := h
                    refine z_icmp_ge (tgt := 98) (pc' := 96) C dX11_keep_93 (by decide) rfl (fun c79 => ?_) (fun c79 => ?_)
                    · have h := ht c79
                      refine z_aload_n (pc' := 99) C dX11_keep_98 rfl 0 rfl rfl ?_
                      refine zgX11_105 (pc' := 102) C zo22 dX11_keep_99 rfl ?_
                      refine z_iload_n (pc' := 103) C dX11_keep_102 rfl 1 rfl rfl ?_
                      refine z_bipush (v := 24) (pc' := 105) C dX11_keep_103 (by decide) rfl ?_
                      obtain ⟨hv80, h⟩ := h
                      refine z_iast (n := 8) (pc' := 106) C (zL_mem (by decide) zo53) (fun _ => rfl) hv80 dX11_keep_105 rfl ?_
                      refine z_iconst (v := 0) (pc' := 107) C dX11_keep_106 (by decide) rfl ?_
                      refine z_istore (pc' := 109) (lv' := [(4, .int 0), (0, .ref (E.2.2 22 0)), (1, .int a0), (2, .int a1), (3, .int a2)]) C dX11_keep_107 (by decide) rfl rfl ?_
                      obtain ⟨n81, h⟩ := h
                      refine z_sub (lv' := [(0, .ref (E.2.2 22 0)), (1, .int a0), (2, .int a1), (3, .int a2), (4, .int 0)]) [1, 2, 3, 4, 0] rfl ?_
                      exact sl_X11_keep_109 C a0 a1 a2 Q n81 _ _ h
                    · have h := hf c79
                      refine z_iconst (v := 0) (pc' := 97) C dX11_keep_96 (by decide) rfl ?_
                      exact z_iret C dX11_keep_97 h
                · have h := hf c68
                  refine z_iconst (v := (-1)) (pc' := 47) C dX11_keep_46 (by decide) rfl ?_
                  exact z_iret C dX11_keep_47 h
  exact fin
def vc_X11_make_48 (x1 : Int32) (x3 : Int32) (Q : Int32 → zMem → Prop) : Nat → zMem → Int32 → Prop
  | 0, _, _ => False
  | n + 1, σ, x4 => ((x3 ≤ x4) → Q 0 σ) ∧ ((¬ x3 ≤ x4) → vp_in ((60 * x1) + x4) 480 ∧ vc_X11_make_48 x1 x3 Q n (um σ 54 0 ((60 * x1) + x4).toNatClampNeg 0) (x4 + 1))
def vc_X11_make (σ : zMem) (a0 : Int32) (a1 : Int32) (a2 : Int32) (Q : Int32 → zMem → Prop) : Prop := vc_X11_isShelf σ a0 (fun r2 σ1 => ((r2 = 0) → Q ((-1)) σ1) ∧ ((¬ r2 = 0) → vc_X11_in σ1 a1 3 4 (fun r5 σ4 => ((r5 = 0) → Q ((-1)) σ4) ∧ ((¬ r5 = 0) → ((a2 ≤ 60) → ((0 ≤ a2) → vp_in a0 8 ∧ vp_in a0 8 ∧ ∃ n11, vc_X11_make_48 a0 a2 Q n11 (um (um σ4 49 0 a0.toNatClampNeg a1) 53 0 a0.toNatClampNeg a2) 0) ∧ ((¬ 0 ≤ a2) → Q ((-14)) σ4)) ∧ ((¬ a2 ≤ 60) → Q ((-1)) σ4)))))
set_option maxHeartbeats 4000000 in
set_option maxRecDepth 100000 in
theorem sl_X11_make_48 {p : Program} {l : Launch} {e : Env} {s : State} {m : MethodId} {args : Array Value} {below : List Frame} {meth : Method} {c : Code} {E : zE} (C : zX p s m args meth c cX11_make 5 RX11 (some .int) E) (x1 : Int32) (x3 : Int32) (Q : Int32 → zMem → Prop) : ∀ (n : Nat) (σ : zMem) (x4 : Int32), vc_X11_make_48 x1 x3 Q n σ x4 → zG p l e (zRm 2 42) s m args below meth c 5 E 0 0 (MQ below (va_Qi Q (zPost E) (zA E s.heap.size)) args s 0 0 (zA E s.heap.size)) σ 48 [(0, .ref (E.2.2 22 0)), (1, .int x1), (3, .int x3), (4, .int x4)] [] := by
  intro n
  induction n with
  | zero =>
    intro σ x4 h
    exact False.elim h
  | succ n ih =>
    intro σ x4 h
    rw [vc_X11_make_48] at h
    refine z_iload (pc' := 50) C dX11_make_48 3 rfl rfl ?_
    refine z_iload_n (pc' := 51) C dX11_make_50 rfl 2 rfl rfl ?_
    obtain ⟨ht, hf⟩ := h
    refine z_icmp_ge (tgt := 73) (pc' := 54) C dX11_make_51 (by decide) rfl (fun c12 => ?_) (fun c12 => ?_)
    · have h := ht c12
      refine z_iconst (v := 0) (pc' := 74) C dX11_make_73 (by decide) rfl ?_
      exact z_iret C dX11_make_74 h
    · have h := hf c12
      refine z_aload_n (pc' := 55) C dX11_make_54 rfl 0 rfl rfl ?_
      refine zgX11_108 (pc' := 58) C zo22 dX11_make_55 rfl ?_
      refine z_bipush (v := 60) (pc' := 60) C dX11_make_58 (by decide) rfl ?_
      refine z_iload_n (pc' := 61) C dX11_make_60 rfl 1 rfl rfl ?_
      refine z_imul (pc' := 62) C dX11_make_61 rfl ?_
      refine z_iload (pc' := 64) C dX11_make_62 3 rfl rfl ?_
      refine z_iadd (pc' := 65) C dX11_make_64 rfl ?_
      refine z_iconst (v := 0) (pc' := 66) C dX11_make_65 (by decide) rfl ?_
      obtain ⟨hv13, h⟩ := h
      refine z_iast (n := 480) (pc' := 67) C (zL_mem (by decide) zo54) (fun _ => rfl) hv13 dX11_make_66 rfl ?_
      refine z_iinc (j := 3) (v := x4 + 1) (pc' := 70) (lv' := [(4, .int (x4 + 1)), (0, .ref (E.2.2 22 0)), (1, .int x1), (3, .int x3)]) C dX11_make_67 rfl rfl (by decide) rfl rfl ?_
      refine z_goto (tgt := 48) C dX11_make_70 (by decide) ?_
      refine z_sub (lv' := [(0, .ref (E.2.2 22 0)), (1, .int x1), (3, .int x3), (4, .int (x4 + 1))]) [1, 2, 3, 0] rfl ?_
      exact ih _ _ h
set_option maxHeartbeats 4000000 in
set_option maxRecDepth 100000 in
theorem sc_X11_make (l : Launch) (E : zE) (σ : zMem) (a0 : Int32) (a1 : Int32) (a2 : Int32) (Q : Int32 → zMem → Prop) (h : vc_X11_make σ a0 a1 a2 Q) : zMi l yX11_make cX11_make 5 .int 2 42 E [.ref (E.2.2 22 0), .int a0, .int a1, .int a2] σ Q := by
  refine zMi_of (by decide) (Nat.le_of_ble_eq_true rfl) ?_
  intro p e s m args below meth c C
  unfold vc_X11_make at h
  have fin : zG p l e (zRm 2 42) s m args below meth c 5 E 0 0 (MQ below (va_Qi Q (zPost E) (zA E s.heap.size)) args s 0 0 (zA E s.heap.size)) σ 0 [(0, .ref (E.2.2 22 0)), (1, .int a0), (2, .int a1), (3, .int a2)] [] := by
    refine z_iload_n (pc' := 1) C dX11_make_0 rfl 1 rfl rfl ?_
    refine z_callSi (pc' := 4) (st := []) (As := [.int a0]) C (sc_X11_isShelf l E σ a0 _ h) zwX11_208_X11_isShelf ztX11_208_X11_isShelf ⟨(Nat.le_of_ble_eq_true rfl), (Nat.le_of_ble_eq_true rfl)⟩ ⟨Nat.zero_le _, Nat.zero_le _⟩ rfl rfl (Nat.le_of_ble_eq_true rfl) dX11_make_1 rfl (fun r2 σ1 h => ?_)
    obtain ⟨ht, hf⟩ := h
    refine z_if_eq (tgt := 22) (pc' := 7) C dX11_make_4 (by decide) rfl (fun c3 => ?_) (fun c3 => ?_)
    · have h := ht c3
      refine z_iconst (v := (-1)) (pc' := 23) C dX11_make_22 (by decide) rfl ?_
      exact z_iret C dX11_make_23 h
    · have h := hf c3
      refine z_iload_n (pc' := 8) C dX11_make_7 rfl 2 rfl rfl ?_
      refine z_iconst (v := 3) (pc' := 9) C dX11_make_8 (by decide) rfl ?_
      refine z_iconst (v := 4) (pc' := 10) C dX11_make_9 (by decide) rfl ?_
      refine z_callSi (pc' := 13) (st := []) (As := [.int a1, .int 3, .int 4]) C (sc_X11_in l E σ1 a1 3 4 _ h) zwX11_114_X11_in ztX11_114_X11_in ⟨(Nat.le_of_ble_eq_true rfl), (Nat.le_of_ble_eq_true rfl)⟩ ⟨Nat.zero_le _, Nat.zero_le _⟩ rfl rfl (Nat.le_of_ble_eq_true rfl) dX11_make_10 rfl (fun r5 σ4 h => ?_)
      obtain ⟨ht, hf⟩ := h
      refine z_if_eq (tgt := 22) (pc' := 16) C dX11_make_13 (by decide) rfl (fun c6 => ?_) (fun c6 => ?_)
      · have h := ht c6
        refine z_iconst (v := (-1)) (pc' := 23) C dX11_make_22 (by decide) rfl ?_
        exact z_iret C dX11_make_23 h
      · have h := hf c6
        refine z_iload_n (pc' := 17) C dX11_make_16 rfl 3 rfl rfl ?_
        refine z_bipush (v := 60) (pc' := 19) C dX11_make_17 (by decide) rfl ?_
        obtain ⟨ht, hf⟩ := h
        refine z_icmp_le (tgt := 24) (pc' := 22) C dX11_make_19 (by decide) rfl (fun c7 => ?_) (fun c7 => ?_)
        · have h := ht c7
          refine z_iload_n (pc' := 25) C dX11_make_24 rfl 3 rfl rfl ?_
          obtain ⟨ht, hf⟩ := h
          refine z_if_ge (tgt := 31) (pc' := 28) C dX11_make_25 (by decide) rfl (fun c8 => ?_) (fun c8 => ?_)
          · have h := ht c8
            refine z_aload_n (pc' := 32) C dX11_make_31 rfl 0 rfl rfl ?_
            refine zgX11_93 (pc' := 35) C zo22 dX11_make_32 rfl ?_
            refine z_iload_n (pc' := 36) C dX11_make_35 rfl 1 rfl rfl ?_
            refine z_iload_n (pc' := 37) C dX11_make_36 rfl 2 rfl rfl ?_
            obtain ⟨hv9, h⟩ := h
            refine z_iast (n := 8) (pc' := 38) C (zL_mem (by decide) zo49) (fun _ => rfl) hv9 dX11_make_37 rfl ?_
            refine z_aload_n (pc' := 39) C dX11_make_38 rfl 0 rfl rfl ?_
            refine zgX11_105 (pc' := 42) C zo22 dX11_make_39 rfl ?_
            refine z_iload_n (pc' := 43) C dX11_make_42 rfl 1 rfl rfl ?_
            refine z_iload_n (pc' := 44) C dX11_make_43 rfl 3 rfl rfl ?_
            obtain ⟨hv10, h⟩ := h
            refine z_iast (n := 8) (pc' := 45) C (zL_mem (by decide) zo53) (fun _ => rfl) hv10 dX11_make_44 rfl ?_
            refine z_iconst (v := 0) (pc' := 46) C dX11_make_45 (by decide) rfl ?_
            refine z_istore (pc' := 48) (lv' := [(4, .int 0), (0, .ref (E.2.2 22 0)), (1, .int a0), (2, .int a1), (3, .int a2)]) C dX11_make_46 (by decide) rfl rfl ?_
            obtain ⟨n11, h⟩ := h
            refine z_sub (lv' := [(0, .ref (E.2.2 22 0)), (1, .int a0), (3, .int a2), (4, .int 0)]) [1, 2, 4, 0] rfl ?_
            exact sl_X11_make_48 C a0 a2 Q n11 _ _ h
          · have h := hf c8
            refine z_bipush (v := (-14)) (pc' := 30) C dX11_make_28 (by decide) rfl ?_
            exact z_iret C dX11_make_30 h
        · have h := hf c7
          refine z_iconst (v := (-1)) (pc' := 23) C dX11_make_22 (by decide) rfl ?_
          exact z_iret C dX11_make_23 h
  exact fin
def vc_X11_element (σ : zMem) (a0 : Int32) (a1 : Int32) (Q : Int64 → zMem → Prop) : Prop := vc_X11_isShelf σ a0 (fun r2 σ1 => ((¬ r2 = 0) → vp_in a0 8 ∧ (((σ1 49 0 a0.toNatClampNeg) < 3) → ((((um σ1 22 0 0 2) 22 0 0) ≤ 0) → vp_in ((60 * a0) + a1) 480 ∧ Q (((um σ1 22 0 0 2) 54 0 ((60 * a0) + a1).toNatClampNeg).toInt64) (um σ1 22 0 0 2)) ∧ ((¬ ((um σ1 22 0 0 2) 22 0 0) ≤ 0) → Q 0 (um σ1 22 0 0 2))) ∧ ((¬ (σ1 49 0 a0.toNatClampNeg) < 3) → vp_in a0 8 ∧ vc_X11_in σ1 a1 0 ((σ1 53 0 a0.toNatClampNeg) - 1) (fun r10 σ9 => ((¬ r10 = 0) → ((((um σ9 22 0 0 0) 22 0 0) ≤ 0) → vp_in ((60 * a0) + a1) 480 ∧ Q (((um σ9 22 0 0 0) 54 0 ((60 * a0) + a1).toNatClampNeg).toInt64) (um σ9 22 0 0 0)) ∧ ((¬ ((um σ9 22 0 0 0) 22 0 0) ≤ 0) → Q 0 (um σ9 22 0 0 0))) ∧ ((r10 = 0) → ((((um σ9 22 0 0 2) 22 0 0) ≤ 0) → vp_in ((60 * a0) + a1) 480 ∧ Q (((um σ9 22 0 0 2) 54 0 ((60 * a0) + a1).toNatClampNeg).toInt64) (um σ9 22 0 0 2)) ∧ ((¬ ((um σ9 22 0 0 2) 22 0 0) ≤ 0) → Q 0 (um σ9 22 0 0 2)))))) ∧ ((r2 = 0) → ((((um σ1 22 0 0 1) 22 0 0) ≤ 0) → vp_in ((60 * a0) + a1) 480 ∧ Q (((um σ1 22 0 0 1) 54 0 ((60 * a0) + a1).toNatClampNeg).toInt64) (um σ1 22 0 0 1)) ∧ ((¬ ((um σ1 22 0 0 1) 22 0 0) ≤ 0) → Q 0 (um σ1 22 0 0 1))))
set_option maxHeartbeats 4000000 in
set_option maxRecDepth 100000 in
theorem sc_X11_element (l : Launch) (E : zE) (σ : zMem) (a0 : Int32) (a1 : Int32) (Q : Int64 → zMem → Prop) (h : vc_X11_element σ a0 a1 Q) : zMl l yX11_element cX11_element 3 2 42 E [.ref (E.2.2 22 0), .int a0, .int a1] σ Q := by
  refine zMl_of (by decide) (Nat.le_of_ble_eq_true rfl) ?_
  intro p e s m args below meth c C
  unfold vc_X11_element at h
  have fin : zG p l e (zRm 2 42) s m args below meth c 3 E 0 0 (MQ below (va_Ql Q (zPost E) (zA E s.heap.size)) args s 0 0 (zA E s.heap.size)) σ 0 [(0, .ref (E.2.2 22 0)), (1, .int a0), (2, .int a1)] [] := by
    refine z_aload_n (pc' := 1) C dX11_element_0 rfl 0 rfl rfl ?_
    refine z_iload_n (pc' := 2) C dX11_element_1 rfl 1 rfl rfl ?_
    refine z_callSi (pc' := 5) (st := [.ref (E.2.2 22 0)]) (As := [.int a0]) C (sc_X11_isShelf l E σ a0 _ h) zwX11_208_X11_isShelf ztX11_208_X11_isShelf ⟨(Nat.le_of_ble_eq_true rfl), (Nat.le_of_ble_eq_true rfl)⟩ ⟨Nat.zero_le _, Nat.zero_le _⟩ rfl rfl (Nat.le_of_ble_eq_true rfl) dX11_element_2 rfl (fun r2 σ1 h => ?_)
    obtain ⟨ht, hf⟩ := h
    refine z_if_ne (tgt := 12) (pc' := 8) C dX11_element_5 (by decide) rfl (fun c3 => ?_) (fun c3 => ?_)
    · have h := ht c3
      refine z_aload_n (pc' := 13) C dX11_element_12 rfl 0 rfl rfl ?_
      refine zgX11_93 (pc' := 16) C zo22 dX11_element_13 rfl ?_
      refine z_iload_n (pc' := 17) C dX11_element_16 rfl 1 rfl rfl ?_
      obtain ⟨hv4, h⟩ := h
      refine z_iald (n := 8) (pc' := 18) C (zL_mem (by decide) zo49) (fun _ => rfl) hv4 dX11_element_17 rfl ?_
      refine z_iconst (v := 3) (pc' := 19) C dX11_element_18 (by decide) rfl ?_
      obtain ⟨ht, hf⟩ := h
      refine z_icmp_lt (tgt := 38) (pc' := 22) C dX11_element_19 (by decide) rfl (fun c5 => ?_) (fun c5 => ?_)
      · have h := ht c5
        refine z_iconst (v := 2) (pc' := 39) C dX11_element_38 (by decide) rfl ?_
        refine z_goto (tgt := 43) C dX11_element_39 (by decide) ?_
        refine zpX11_111 (pc' := 46) C zo22 dX11_element_43 rfl ?_
        refine z_aload_n (pc' := 47) C dX11_element_46 rfl 0 rfl rfl ?_
        refine zgX11_111 (pc' := 50) C zo22 dX11_element_47 rfl ?_
        obtain ⟨ht, hf⟩ := h
        refine z_if_le (tgt := 57) (pc' := 53) C dX11_element_50 (by decide) rfl (fun c6 => ?_) (fun c6 => ?_)
        · have h := ht c6
          refine z_aload_n (pc' := 58) C dX11_element_57 rfl 0 rfl rfl ?_
          refine zgX11_108 (pc' := 61) C zo22 dX11_element_58 rfl ?_
          refine z_bipush (v := 60) (pc' := 63) C dX11_element_61 (by decide) rfl ?_
          refine z_iload_n (pc' := 64) C dX11_element_63 rfl 1 rfl rfl ?_
          refine z_imul (pc' := 65) C dX11_element_64 rfl ?_
          refine z_iload_n (pc' := 66) C dX11_element_65 rfl 2 rfl rfl ?_
          refine z_iadd (pc' := 67) C dX11_element_66 rfl ?_
          obtain ⟨hv7, h⟩ := h
          refine z_iald (n := 480) (pc' := 68) C (zL_mem (by decide) zo54) (fun _ => rfl) hv7 dX11_element_67 rfl ?_
          refine z_i2l (pc' := 69) C dX11_element_68 rfl ?_
          exact z_lret C dX11_element_69 h
        · have h := hf c6
          refine z_lconst (v := 0) (pc' := 54) C dX11_element_53 (by decide) rfl ?_
          refine z_goto (tgt := 69) C dX11_element_54 (by decide) ?_
          exact z_lret C dX11_element_69 h
      · have h := hf c5
        refine z_iload_n (pc' := 23) C dX11_element_22 rfl 2 rfl rfl ?_
        refine z_iconst (v := 0) (pc' := 24) C dX11_element_23 (by decide) rfl ?_
        refine z_aload_n (pc' := 25) C dX11_element_24 rfl 0 rfl rfl ?_
        refine zgX11_105 (pc' := 28) C zo22 dX11_element_25 rfl ?_
        refine z_iload_n (pc' := 29) C dX11_element_28 rfl 1 rfl rfl ?_
        obtain ⟨hv8, h⟩ := h
        refine z_iald (n := 8) (pc' := 30) C (zL_mem (by decide) zo53) (fun _ => rfl) hv8 dX11_element_29 rfl ?_
        refine z_iconst (v := 1) (pc' := 31) C dX11_element_30 (by decide) rfl ?_
        refine z_isub (pc' := 32) C dX11_element_31 rfl ?_
        refine z_callSi (pc' := 35) (st := [.ref (E.2.2 22 0)]) (As := [.int a1, .int 0, .int ((σ1 53 0 a0.toNatClampNeg) - 1)]) C (sc_X11_in l E σ1 a1 0 ((σ1 53 0 a0.toNatClampNeg) - 1) _ h) zwX11_114_X11_in ztX11_114_X11_in ⟨(Nat.le_of_ble_eq_true rfl), (Nat.le_of_ble_eq_true rfl)⟩ ⟨Nat.zero_le _, Nat.zero_le _⟩ rfl rfl (Nat.le_of_ble_eq_true rfl) dX11_element_32 rfl (fun r10 σ9 h => ?_)
        obtain ⟨ht, hf⟩ := h
        refine z_if_ne (tgt := 42) (pc' := 38) C dX11_element_35 (by decide) rfl (fun c11 => ?_) (fun c11 => ?_)
        · have h := ht c11
          refine z_iconst (v := 0) (pc' := 43) C dX11_element_42 (by decide) rfl ?_
          refine zpX11_111 (pc' := 46) C zo22 dX11_element_43 rfl ?_
          refine z_aload_n (pc' := 47) C dX11_element_46 rfl 0 rfl rfl ?_
          refine zgX11_111 (pc' := 50) C zo22 dX11_element_47 rfl ?_
          obtain ⟨ht, hf⟩ := h
          refine z_if_le (tgt := 57) (pc' := 53) C dX11_element_50 (by decide) rfl (fun c12 => ?_) (fun c12 => ?_)
          · have h := ht c12
            refine z_aload_n (pc' := 58) C dX11_element_57 rfl 0 rfl rfl ?_
            refine zgX11_108 (pc' := 61) C zo22 dX11_element_58 rfl ?_
            refine z_bipush (v := 60) (pc' := 63) C dX11_element_61 (by decide) rfl ?_
            refine z_iload_n (pc' := 64) C dX11_element_63 rfl 1 rfl rfl ?_
            refine z_imul (pc' := 65) C dX11_element_64 rfl ?_
            refine z_iload_n (pc' := 66) C dX11_element_65 rfl 2 rfl rfl ?_
            refine z_iadd (pc' := 67) C dX11_element_66 rfl ?_
            obtain ⟨hv13, h⟩ := h
            refine z_iald (n := 480) (pc' := 68) C (zL_mem (by decide) zo54) (fun _ => rfl) hv13 dX11_element_67 rfl ?_
            refine z_i2l (pc' := 69) C dX11_element_68 rfl ?_
            exact z_lret C dX11_element_69 h
          · have h := hf c12
            refine z_lconst (v := 0) (pc' := 54) C dX11_element_53 (by decide) rfl ?_
            refine z_goto (tgt := 69) C dX11_element_54 (by decide) ?_
            exact z_lret C dX11_element_69 h
        · have h := hf c11
          refine z_iconst (v := 2) (pc' := 39) C dX11_element_38 (by decide) rfl ?_
          refine z_goto (tgt := 43) C dX11_element_39 (by decide) ?_
          refine zpX11_111 (pc' := 46) C zo22 dX11_element_43 rfl ?_
          refine z_aload_n (pc' := 47) C dX11_element_46 rfl 0 rfl rfl ?_
          refine zgX11_111 (pc' := 50) C zo22 dX11_element_47 rfl ?_
          obtain ⟨ht, hf⟩ := h
          refine z_if_le (tgt := 57) (pc' := 53) C dX11_element_50 (by decide) rfl (fun c14 => ?_) (fun c14 => ?_)
          · have h := ht c14
            refine z_aload_n (pc' := 58) C dX11_element_57 rfl 0 rfl rfl ?_
            refine zgX11_108 (pc' := 61) C zo22 dX11_element_58 rfl ?_
            refine z_bipush (v := 60) (pc' := 63) C dX11_element_61 (by decide) rfl ?_
            refine z_iload_n (pc' := 64) C dX11_element_63 rfl 1 rfl rfl ?_
            refine z_imul (pc' := 65) C dX11_element_64 rfl ?_
            refine z_iload_n (pc' := 66) C dX11_element_65 rfl 2 rfl rfl ?_
            refine z_iadd (pc' := 67) C dX11_element_66 rfl ?_
            obtain ⟨hv15, h⟩ := h
            refine z_iald (n := 480) (pc' := 68) C (zL_mem (by decide) zo54) (fun _ => rfl) hv15 dX11_element_67 rfl ?_
            refine z_i2l (pc' := 69) C dX11_element_68 rfl ?_
            exact z_lret C dX11_element_69 h
          · have h := hf c14
            refine z_lconst (v := 0) (pc' := 54) C dX11_element_53 (by decide) rfl ?_
            refine z_goto (tgt := 69) C dX11_element_54 (by decide) ?_
            exact z_lret C dX11_element_69 h
    · have h := hf c3
      refine z_iconst (v := 1) (pc' := 9) C dX11_element_8 (by decide) rfl ?_
      refine z_goto (tgt := 43) C dX11_element_9 (by decide) ?_
      refine zpX11_111 (pc' := 46) C zo22 dX11_element_43 rfl ?_
      refine z_aload_n (pc' := 47) C dX11_element_46 rfl 0 rfl rfl ?_
      refine zgX11_111 (pc' := 50) C zo22 dX11_element_47 rfl ?_
      obtain ⟨ht, hf⟩ := h
      refine z_if_le (tgt := 57) (pc' := 53) C dX11_element_50 (by decide) rfl (fun c16 => ?_) (fun c16 => ?_)
      · have h := ht c16
        refine z_aload_n (pc' := 58) C dX11_element_57 rfl 0 rfl rfl ?_
        refine zgX11_108 (pc' := 61) C zo22 dX11_element_58 rfl ?_
        refine z_bipush (v := 60) (pc' := 63) C dX11_element_61 (by decide) rfl ?_
        refine z_iload_n (pc' := 64) C dX11_element_63 rfl 1 rfl rfl ?_
        refine z_imul (pc' := 65) C dX11_element_64 rfl ?_
        refine z_iload_n (pc' := 66) C dX11_element_65 rfl 2 rfl rfl ?_
        refine z_iadd (pc' := 67) C dX11_element_66 rfl ?_
        obtain ⟨hv17, h⟩ := h
        refine z_iald (n := 480) (pc' := 68) C (zL_mem (by decide) zo54) (fun _ => rfl) hv17 dX11_element_67 rfl ?_
        refine z_i2l (pc' := 69) C dX11_element_68 rfl ?_
        exact z_lret C dX11_element_69 h
      · have h := hf c16
        refine z_lconst (v := 0) (pc' := 54) C dX11_element_53 (by decide) rfl ?_
        refine z_goto (tgt := 69) C dX11_element_54 (by decide) ?_
        exact z_lret C dX11_element_69 h
  exact fin
def vc_X11_copy_171 (x1 : Int32) (x2 : Int32) (x3 : Int32) (x4 : Int32) (x5 : Int32) (Q : Int32 → zMem → Prop) : Nat → zMem → Int32 → Prop
  | 0, _, _ => False
  | n + 1, σ, x6 => ((x6 < 0) → Q x5 σ) ∧ ((¬ x6 < 0) → ((¬ x1 = x3) → Q x5 σ) ∧ ((x1 = x3) → ((x4 ≤ x2) → Q x5 σ) ∧ ((¬ x4 ≤ x2) → vp_in (((60 * x1) + x2) + x6) 480 ∧ vp_in (((60 * x3) + x4) + x6) 480 ∧ vc_X11_copy_171 x1 x2 x3 x4 x5 Q n (um σ 54 0 (((60 * x3) + x4) + x6).toNatClampNeg (σ 54 0 (((60 * x1) + x2) + x6).toNatClampNeg)) (x6 + (-1)))))
def vc_X11_copy_112 (x1 : Int32) (x2 : Int32) (x3 : Int32) (x4 : Int32) (x5 : Int32) (Q : Int32 → zMem → Prop) : Nat → zMem → Int32 → Prop
  | 0, _, _ => False
  | n + 1, σ, x6 => ((x5 ≤ x6) → ∃ n25, vc_X11_copy_171 x1 x2 x3 x4 x5 Q n25 σ (x5 - 1)) ∧ ((¬ x5 ≤ x6) → ((¬ x1 = x3) → vp_in (((60 * x1) + x2) + x6) 480 ∧ vp_in (((60 * x3) + x4) + x6) 480 ∧ vc_X11_copy_112 x1 x2 x3 x4 x5 Q n (um σ 54 0 (((60 * x3) + x4) + x6).toNatClampNeg (σ 54 0 (((60 * x1) + x2) + x6).toNatClampNeg)) (x6 + 1)) ∧ ((x1 = x3) → ((x2 < x4) → ∃ n35, vc_X11_copy_171 x1 x2 x3 x4 x5 Q n35 σ (x5 - 1)) ∧ ((¬ x2 < x4) → vp_in (((60 * x1) + x2) + x6) 480 ∧ vp_in (((60 * x3) + x4) + x6) 480 ∧ vc_X11_copy_112 x1 x2 x3 x4 x5 Q n (um σ 54 0 (((60 * x3) + x4) + x6).toNatClampNeg (σ 54 0 (((60 * x1) + x2) + x6).toNatClampNeg)) (x6 + 1))))
def vc_X11_copy (σ : zMem) (a0 : Int32) (a1 : Int32) (a2 : Int32) (a3 : Int32) (a4 : Int32) (Q : Int32 → zMem → Prop) : Prop := vc_X11_isShelf σ a0 (fun r2 σ1 => ((r2 = 0) → Q ((-1)) σ1) ∧ ((¬ r2 = 0) → vc_X11_isShelf σ1 a2 (fun r5 σ4 => ((¬ r5 = 0) → vp_in a0 8 ∧ (((σ4 49 0 a0.toNatClampNeg) = 0) → Q ((-11)) σ4) ∧ ((¬ (σ4 49 0 a0.toNatClampNeg) = 0) → vp_in a2 8 ∧ ((¬ (σ4 49 0 a2.toNatClampNeg) = 0) → vp_in a0 8 ∧ (((σ4 49 0 a0.toNatClampNeg) < 3) → Q ((-12)) σ4) ∧ ((¬ (σ4 49 0 a0.toNatClampNeg) < 3) → vp_in a0 8 ∧ vp_in a2 8 ∧ (((σ4 49 0 a0.toNatClampNeg) = (σ4 49 0 a2.toNatClampNeg)) → ((a4 < 0) → Q ((-13)) σ4) ∧ ((¬ a4 < 0) → ((a1 < 0) → Q ((-13)) σ4) ∧ ((¬ a1 < 0) → ((a3 < 0) → Q ((-13)) σ4) ∧ ((¬ a3 < 0) → vp_in a0 8 ∧ ((((σ4 53 0 a0.toNatClampNeg) - a4) < a1) → Q ((-13)) σ4) ∧ ((¬ ((σ4 53 0 a0.toNatClampNeg) - a4) < a1) → vp_in a2 8 ∧ ((a3 ≤ ((σ4 53 0 a2.toNatClampNeg) - a4)) → ∃ n23, vc_X11_copy_112 a0 a1 a2 a3 a4 Q n23 σ4 0) ∧ ((¬ a3 ≤ ((σ4 53 0 a2.toNatClampNeg) - a4)) → Q ((-13)) σ4)))))) ∧ ((¬ (σ4 49 0 a0.toNatClampNeg) = (σ4 49 0 a2.toNatClampNeg)) → Q ((-12)) σ4))) ∧ (((σ4 49 0 a2.toNatClampNeg) = 0) → Q ((-11)) σ4))) ∧ ((r5 = 0) → Q ((-1)) σ4))))
set_option maxHeartbeats 4000000 in
set_option maxRecDepth 100000 in
theorem sl_X11_copy_171 {p : Program} {l : Launch} {e : Env} {s : State} {m : MethodId} {args : Array Value} {below : List Frame} {meth : Method} {c : Code} {E : zE} (C : zX p s m args meth c cX11_copy 7 RX11 (some .int) E) (x1 : Int32) (x2 : Int32) (x3 : Int32) (x4 : Int32) (x5 : Int32) (Q : Int32 → zMem → Prop) : ∀ (n : Nat) (σ : zMem) (x6 : Int32), vc_X11_copy_171 x1 x2 x3 x4 x5 Q n σ x6 → zG p l e (zRm 2 42) s m args below meth c 7 E 0 0 (MQ below (va_Qi Q (zPost E) (zA E s.heap.size)) args s 0 0 (zA E s.heap.size)) σ 171 [(0, .ref (E.2.2 22 0)), (1, .int x1), (2, .int x2), (3, .int x3), (4, .int x4), (5, .int x5), (6, .int x6)] [] := by
  intro n
  induction n with
  | zero =>
    intro σ x6 h
    exact False.elim h
  | succ n ih =>
    intro σ x6 h
    rw [vc_X11_copy_171] at h
    refine z_iload (pc' := 173) C dX11_copy_171 6 rfl rfl ?_
    obtain ⟨ht, hf⟩ := h
    refine z_if_lt (tgt := 222) (pc' := 176) C dX11_copy_173 (by decide) rfl (fun c26 => ?_) (fun c26 => ?_)
    · have h := ht c26
      refine z_iload (pc' := 224) C dX11_copy_222 5 rfl rfl ?_
      exact z_iret C dX11_copy_224 h
    · have h := hf c26
      refine z_iload_n (pc' := 177) C dX11_copy_176 rfl 1 rfl rfl ?_
      refine z_iload_n (pc' := 178) C dX11_copy_177 rfl 3 rfl rfl ?_
      obtain ⟨ht, hf⟩ := h
      refine z_icmp_ne (tgt := 222) (pc' := 181) C dX11_copy_178 (by decide) rfl (fun c27 => ?_) (fun c27 => ?_)
      · have h := ht c27
        refine z_iload (pc' := 224) C dX11_copy_222 5 rfl rfl ?_
        exact z_iret C dX11_copy_224 h
      · have h := hf c27
        refine z_iload_n (pc' := 182) C dX11_copy_181 rfl 2 rfl rfl ?_
        refine z_iload (pc' := 184) C dX11_copy_182 4 rfl rfl ?_
        obtain ⟨ht, hf⟩ := h
        refine z_icmp_ge (tgt := 222) (pc' := 187) C dX11_copy_184 (by decide) rfl (fun c28 => ?_) (fun c28 => ?_)
        · have h := ht c28
          refine z_iload (pc' := 224) C dX11_copy_222 5 rfl rfl ?_
          exact z_iret C dX11_copy_224 h
        · have h := hf c28
          refine z_aload_n (pc' := 188) C dX11_copy_187 rfl 0 rfl rfl ?_
          refine zgX11_108 (pc' := 191) C zo22 dX11_copy_188 rfl ?_
          refine z_bipush (v := 60) (pc' := 193) C dX11_copy_191 (by decide) rfl ?_
          refine z_iload_n (pc' := 194) C dX11_copy_193 rfl 3 rfl rfl ?_
          refine z_imul (pc' := 195) C dX11_copy_194 rfl ?_
          refine z_iload (pc' := 197) C dX11_copy_195 4 rfl rfl ?_
          refine z_iadd (pc' := 198) C dX11_copy_197 rfl ?_
          refine z_iload (pc' := 200) C dX11_copy_198 6 rfl rfl ?_
          refine z_iadd (pc' := 201) C dX11_copy_200 rfl ?_
          refine z_aload_n (pc' := 202) C dX11_copy_201 rfl 0 rfl rfl ?_
          refine zgX11_108 (pc' := 205) C zo22 dX11_copy_202 rfl ?_
          refine z_bipush (v := 60) (pc' := 207) C dX11_copy_205 (by decide) rfl ?_
          refine z_iload_n (pc' := 208) C dX11_copy_207 rfl 1 rfl rfl ?_
          refine z_imul (pc' := 209) C dX11_copy_208 rfl ?_
          refine z_iload_n (pc' := 210) C dX11_copy_209 rfl 2 rfl rfl ?_
          refine z_iadd (pc' := 211) C dX11_copy_210 rfl ?_
          refine z_iload (pc' := 213) C dX11_copy_211 6 rfl rfl ?_
          refine z_iadd (pc' := 214) C dX11_copy_213 rfl ?_
          obtain ⟨hv29, h⟩ := h
          refine z_iald (n := 480) (pc' := 215) C (zL_mem (by decide) zo54) (fun _ => rfl) hv29 dX11_copy_214 rfl ?_
          obtain ⟨hv30, h⟩ := h
          refine z_iast (n := 480) (pc' := 216) C (zL_mem (by decide) zo54) (fun _ => rfl) hv30 dX11_copy_215 rfl ?_
          refine z_iinc (j := 6) (v := x6 + (-1)) (pc' := 219) (lv' := [(6, .int (x6 + (-1))), (0, .ref (E.2.2 22 0)), (1, .int x1), (2, .int x2), (3, .int x3), (4, .int x4), (5, .int x5)]) C dX11_copy_216 rfl rfl (by decide) rfl rfl ?_
          refine z_goto (tgt := 171) C dX11_copy_219 (by decide) ?_
          refine z_sub (lv' := [(0, .ref (E.2.2 22 0)), (1, .int x1), (2, .int x2), (3, .int x3), (4, .int x4), (5, .int x5), (6, .int (x6 + (-1)))]) [1, 2, 3, 4, 5, 6, 0] rfl ?_
          exact ih _ _ h
set_option maxHeartbeats 4000000 in
set_option maxRecDepth 100000 in
theorem sl_X11_copy_112 {p : Program} {l : Launch} {e : Env} {s : State} {m : MethodId} {args : Array Value} {below : List Frame} {meth : Method} {c : Code} {E : zE} (C : zX p s m args meth c cX11_copy 7 RX11 (some .int) E) (x1 : Int32) (x2 : Int32) (x3 : Int32) (x4 : Int32) (x5 : Int32) (Q : Int32 → zMem → Prop) : ∀ (n : Nat) (σ : zMem) (x6 : Int32), vc_X11_copy_112 x1 x2 x3 x4 x5 Q n σ x6 → zG p l e (zRm 2 42) s m args below meth c 7 E 0 0 (MQ below (va_Qi Q (zPost E) (zA E s.heap.size)) args s 0 0 (zA E s.heap.size)) σ 112 [(0, .ref (E.2.2 22 0)), (1, .int x1), (2, .int x2), (3, .int x3), (4, .int x4), (5, .int x5), (6, .int x6)] [] := by
  intro n
  induction n with
  | zero =>
    intro σ x6 h
    exact False.elim h
  | succ n ih =>
    intro σ x6 h
    rw [vc_X11_copy_112] at h
    refine z_iload (pc' := 114) C dX11_copy_112 6 rfl rfl ?_
    refine z_iload (pc' := 116) C dX11_copy_114 5 rfl rfl ?_
    obtain ⟨ht, hf⟩ := h
    refine z_icmp_ge (tgt := 165) (pc' := 119) C dX11_copy_116 (by decide) rfl (fun c24 => ?_) (fun c24 => ?_)
    · have h := ht c24
      refine z_iload (pc' := 167) C dX11_copy_165 5 rfl rfl ?_
      refine z_iconst (v := 1) (pc' := 168) C dX11_copy_167 (by decide) rfl ?_
      refine z_isub (pc' := 169) C dX11_copy_168 rfl ?_
      refine z_istore (pc' := 171) (lv' := [(6, .int (x5 - 1)), (0, .ref (E.2.2 22 0)), (1, .int x1), (2, .int x2), (3, .int x3), (4, .int x4), (5, .int x5)]) C dX11_copy_169 (by decide) rfl rfl ?_
      obtain ⟨n25, h⟩ := h
      refine z_sub (lv' := [(0, .ref (E.2.2 22 0)), (1, .int x1), (2, .int x2), (3, .int x3), (4, .int x4), (5, .int x5), (6, .int (x5 - 1))]) [1, 2, 3, 4, 5, 6, 0] rfl ?_
      exact sl_X11_copy_171 C x1 x2 x3 x4 x5 Q n25 _ _ h
    · have h := hf c24
      refine z_iload_n (pc' := 120) C dX11_copy_119 rfl 1 rfl rfl ?_
      refine z_iload_n (pc' := 121) C dX11_copy_120 rfl 3 rfl rfl ?_
      obtain ⟨ht, hf⟩ := h
      refine z_icmp_ne (tgt := 130) (pc' := 124) C dX11_copy_121 (by decide) rfl (fun c31 => ?_) (fun c31 => ?_)
      · have h := ht c31
        refine z_aload_n (pc' := 131) C dX11_copy_130 rfl 0 rfl rfl ?_
        refine zgX11_108 (pc' := 134) C zo22 dX11_copy_131 rfl ?_
        refine z_bipush (v := 60) (pc' := 136) C dX11_copy_134 (by decide) rfl ?_
        refine z_iload_n (pc' := 137) C dX11_copy_136 rfl 3 rfl rfl ?_
        refine z_imul (pc' := 138) C dX11_copy_137 rfl ?_
        refine z_iload (pc' := 140) C dX11_copy_138 4 rfl rfl ?_
        refine z_iadd (pc' := 141) C dX11_copy_140 rfl ?_
        refine z_iload (pc' := 143) C dX11_copy_141 6 rfl rfl ?_
        refine z_iadd (pc' := 144) C dX11_copy_143 rfl ?_
        refine z_aload_n (pc' := 145) C dX11_copy_144 rfl 0 rfl rfl ?_
        refine zgX11_108 (pc' := 148) C zo22 dX11_copy_145 rfl ?_
        refine z_bipush (v := 60) (pc' := 150) C dX11_copy_148 (by decide) rfl ?_
        refine z_iload_n (pc' := 151) C dX11_copy_150 rfl 1 rfl rfl ?_
        refine z_imul (pc' := 152) C dX11_copy_151 rfl ?_
        refine z_iload_n (pc' := 153) C dX11_copy_152 rfl 2 rfl rfl ?_
        refine z_iadd (pc' := 154) C dX11_copy_153 rfl ?_
        refine z_iload (pc' := 156) C dX11_copy_154 6 rfl rfl ?_
        refine z_iadd (pc' := 157) C dX11_copy_156 rfl ?_
        obtain ⟨hv32, h⟩ := h
        refine z_iald (n := 480) (pc' := 158) C (zL_mem (by decide) zo54) (fun _ => rfl) hv32 dX11_copy_157 rfl ?_
        obtain ⟨hv33, h⟩ := h
        refine z_iast (n := 480) (pc' := 159) C (zL_mem (by decide) zo54) (fun _ => rfl) hv33 dX11_copy_158 rfl ?_
        refine z_iinc (j := 6) (v := x6 + 1) (pc' := 162) (lv' := [(6, .int (x6 + 1)), (0, .ref (E.2.2 22 0)), (1, .int x1), (2, .int x2), (3, .int x3), (4, .int x4), (5, .int x5)]) C dX11_copy_159 rfl rfl (by decide) rfl rfl ?_
        refine z_goto (tgt := 112) C dX11_copy_162 (by decide) ?_
        refine z_sub (lv' := [(0, .ref (E.2.2 22 0)), (1, .int x1), (2, .int x2), (3, .int x3), (4, .int x4), (5, .int x5), (6, .int (x6 + 1))]) [1, 2, 3, 4, 5, 6, 0] rfl ?_
        exact ih _ _ h
      · have h := hf c31
        refine z_iload_n (pc' := 125) C dX11_copy_124 rfl 2 rfl rfl ?_
        refine z_iload (pc' := 127) C dX11_copy_125 4 rfl rfl ?_
        obtain ⟨ht, hf⟩ := h
        refine z_icmp_lt (tgt := 165) (pc' := 130) C dX11_copy_127 (by decide) rfl (fun c34 => ?_) (fun c34 => ?_)
        · have h := ht c34
          refine z_iload (pc' := 167) C dX11_copy_165 5 rfl rfl ?_
          refine z_iconst (v := 1) (pc' := 168) C dX11_copy_167 (by decide) rfl ?_
          refine z_isub (pc' := 169) C dX11_copy_168 rfl ?_
          refine z_istore (pc' := 171) (lv' := [(6, .int (x5 - 1)), (0, .ref (E.2.2 22 0)), (1, .int x1), (2, .int x2), (3, .int x3), (4, .int x4), (5, .int x5)]) C dX11_copy_169 (by decide) rfl rfl ?_
          obtain ⟨n35, h⟩ := h
          refine z_sub (lv' := [(0, .ref (E.2.2 22 0)), (1, .int x1), (2, .int x2), (3, .int x3), (4, .int x4), (5, .int x5), (6, .int (x5 - 1))]) [1, 2, 3, 4, 5, 6, 0] rfl ?_
          exact sl_X11_copy_171 C x1 x2 x3 x4 x5 Q n35 _ _ h
        · have h := hf c34
          refine z_aload_n (pc' := 131) C dX11_copy_130 rfl 0 rfl rfl ?_
          refine zgX11_108 (pc' := 134) C zo22 dX11_copy_131 rfl ?_
          refine z_bipush (v := 60) (pc' := 136) C dX11_copy_134 (by decide) rfl ?_
          refine z_iload_n (pc' := 137) C dX11_copy_136 rfl 3 rfl rfl ?_
          refine z_imul (pc' := 138) C dX11_copy_137 rfl ?_
          refine z_iload (pc' := 140) C dX11_copy_138 4 rfl rfl ?_
          refine z_iadd (pc' := 141) C dX11_copy_140 rfl ?_
          refine z_iload (pc' := 143) C dX11_copy_141 6 rfl rfl ?_
          refine z_iadd (pc' := 144) C dX11_copy_143 rfl ?_
          refine z_aload_n (pc' := 145) C dX11_copy_144 rfl 0 rfl rfl ?_
          refine zgX11_108 (pc' := 148) C zo22 dX11_copy_145 rfl ?_
          refine z_bipush (v := 60) (pc' := 150) C dX11_copy_148 (by decide) rfl ?_
          refine z_iload_n (pc' := 151) C dX11_copy_150 rfl 1 rfl rfl ?_
          refine z_imul (pc' := 152) C dX11_copy_151 rfl ?_
          refine z_iload_n (pc' := 153) C dX11_copy_152 rfl 2 rfl rfl ?_
          refine z_iadd (pc' := 154) C dX11_copy_153 rfl ?_
          refine z_iload (pc' := 156) C dX11_copy_154 6 rfl rfl ?_
          refine z_iadd (pc' := 157) C dX11_copy_156 rfl ?_
          obtain ⟨hv36, h⟩ := h
          refine z_iald (n := 480) (pc' := 158) C (zL_mem (by decide) zo54) (fun _ => rfl) hv36 dX11_copy_157 rfl ?_
          obtain ⟨hv37, h⟩ := h
          refine z_iast (n := 480) (pc' := 159) C (zL_mem (by decide) zo54) (fun _ => rfl) hv37 dX11_copy_158 rfl ?_
          refine z_iinc (j := 6) (v := x6 + 1) (pc' := 162) (lv' := [(6, .int (x6 + 1)), (0, .ref (E.2.2 22 0)), (1, .int x1), (2, .int x2), (3, .int x3), (4, .int x4), (5, .int x5)]) C dX11_copy_159 rfl rfl (by decide) rfl rfl ?_
          refine z_goto (tgt := 112) C dX11_copy_162 (by decide) ?_
          refine z_sub (lv' := [(0, .ref (E.2.2 22 0)), (1, .int x1), (2, .int x2), (3, .int x3), (4, .int x4), (5, .int x5), (6, .int (x6 + 1))]) [1, 2, 3, 4, 5, 6, 0] rfl ?_
          exact ih _ _ h
set_option maxHeartbeats 4000000 in
set_option maxRecDepth 100000 in
theorem sc_X11_copy (l : Launch) (E : zE) (σ : zMem) (a0 : Int32) (a1 : Int32) (a2 : Int32) (a3 : Int32) (a4 : Int32) (Q : Int32 → zMem → Prop) (h : vc_X11_copy σ a0 a1 a2 a3 a4 Q) : zMi l yX11_copy cX11_copy 7 .int 2 42 E [.ref (E.2.2 22 0), .int a0, .int a1, .int a2, .int a3, .int a4] σ Q := by
  refine zMi_of (by decide) (Nat.le_of_ble_eq_true rfl) ?_
  intro p e s m args below meth c C
  unfold vc_X11_copy at h
  have fin : zG p l e (zRm 2 42) s m args below meth c 7 E 0 0 (MQ below (va_Qi Q (zPost E) (zA E s.heap.size)) args s 0 0 (zA E s.heap.size)) σ 0 [(0, .ref (E.2.2 22 0)), (1, .int a0), (2, .int a1), (3, .int a2), (4, .int a3), (5, .int a4)] [] := by
    refine z_iload_n (pc' := 1) C dX11_copy_0 rfl 1 rfl rfl ?_
    refine z_callSi (pc' := 4) (st := []) (As := [.int a0]) C (sc_X11_isShelf l E σ a0 _ h) zwX11_208_X11_isShelf ztX11_208_X11_isShelf ⟨(Nat.le_of_ble_eq_true rfl), (Nat.le_of_ble_eq_true rfl)⟩ ⟨Nat.zero_le _, Nat.zero_le _⟩ rfl rfl (Nat.le_of_ble_eq_true rfl) dX11_copy_1 rfl (fun r2 σ1 h => ?_)
    obtain ⟨ht, hf⟩ := h
    refine z_if_eq (tgt := 14) (pc' := 7) C dX11_copy_4 (by decide) rfl (fun c3 => ?_) (fun c3 => ?_)
    · have h := ht c3
      refine z_iconst (v := (-1)) (pc' := 15) C dX11_copy_14 (by decide) rfl ?_
      exact z_iret C dX11_copy_15 h
    · have h := hf c3
      refine z_iload_n (pc' := 8) C dX11_copy_7 rfl 3 rfl rfl ?_
      refine z_callSi (pc' := 11) (st := []) (As := [.int a2]) C (sc_X11_isShelf l E σ1 a2 _ h) zwX11_208_X11_isShelf ztX11_208_X11_isShelf ⟨(Nat.le_of_ble_eq_true rfl), (Nat.le_of_ble_eq_true rfl)⟩ ⟨Nat.zero_le _, Nat.zero_le _⟩ rfl rfl (Nat.le_of_ble_eq_true rfl) dX11_copy_8 rfl (fun r5 σ4 h => ?_)
      obtain ⟨ht, hf⟩ := h
      refine z_if_ne (tgt := 16) (pc' := 14) C dX11_copy_11 (by decide) rfl (fun c6 => ?_) (fun c6 => ?_)
      · have h := ht c6
        refine z_aload_n (pc' := 17) C dX11_copy_16 rfl 0 rfl rfl ?_
        refine zgX11_93 (pc' := 20) C zo22 dX11_copy_17 rfl ?_
        refine z_iload_n (pc' := 21) C dX11_copy_20 rfl 1 rfl rfl ?_
        obtain ⟨hv7, h⟩ := h
        refine z_iald (n := 8) (pc' := 22) C (zL_mem (by decide) zo49) (fun _ => rfl) hv7 dX11_copy_21 rfl ?_
        obtain ⟨ht, hf⟩ := h
        refine z_if_eq (tgt := 34) (pc' := 25) C dX11_copy_22 (by decide) rfl (fun c8 => ?_) (fun c8 => ?_)
        · have h := ht c8
          refine z_bipush (v := (-11)) (pc' := 36) C dX11_copy_34 (by decide) rfl ?_
          exact z_iret C dX11_copy_36 h
        · have h := hf c8
          refine z_aload_n (pc' := 26) C dX11_copy_25 rfl 0 rfl rfl ?_
          refine zgX11_93 (pc' := 29) C zo22 dX11_copy_26 rfl ?_
          refine z_iload_n (pc' := 30) C dX11_copy_29 rfl 3 rfl rfl ?_
          obtain ⟨hv9, h⟩ := h
          refine z_iald (n := 8) (pc' := 31) C (zL_mem (by decide) zo49) (fun _ => rfl) hv9 dX11_copy_30 rfl ?_
          obtain ⟨ht, hf⟩ := h
          refine z_if_ne (tgt := 37) (pc' := 34) C dX11_copy_31 (by decide) rfl (fun c10 => ?_) (fun c10 => ?_)
          · have h := ht c10
            refine z_aload_n (pc' := 38) C dX11_copy_37 rfl 0 rfl rfl ?_
            refine zgX11_93 (pc' := 41) C zo22 dX11_copy_38 rfl ?_
            refine z_iload_n (pc' := 42) C dX11_copy_41 rfl 1 rfl rfl ?_
            obtain ⟨hv11, h⟩ := h
            refine z_iald (n := 8) (pc' := 43) C (zL_mem (by decide) zo49) (fun _ => rfl) hv11 dX11_copy_42 rfl ?_
            refine z_iconst (v := 3) (pc' := 44) C dX11_copy_43 (by decide) rfl ?_
            obtain ⟨ht, hf⟩ := h
            refine z_icmp_lt (tgt := 62) (pc' := 47) C dX11_copy_44 (by decide) rfl (fun c12 => ?_) (fun c12 => ?_)
            · have h := ht c12
              refine z_bipush (v := (-12)) (pc' := 64) C dX11_copy_62 (by decide) rfl ?_
              exact z_iret C dX11_copy_64 h
            · have h := hf c12
              refine z_aload_n (pc' := 48) C dX11_copy_47 rfl 0 rfl rfl ?_
              refine zgX11_93 (pc' := 51) C zo22 dX11_copy_48 rfl ?_
              refine z_iload_n (pc' := 52) C dX11_copy_51 rfl 1 rfl rfl ?_
              obtain ⟨hv13, h⟩ := h
              refine z_iald (n := 8) (pc' := 53) C (zL_mem (by decide) zo49) (fun _ => rfl) hv13 dX11_copy_52 rfl ?_
              refine z_aload_n (pc' := 54) C dX11_copy_53 rfl 0 rfl rfl ?_
              refine zgX11_93 (pc' := 57) C zo22 dX11_copy_54 rfl ?_
              refine z_iload_n (pc' := 58) C dX11_copy_57 rfl 3 rfl rfl ?_
              obtain ⟨hv14, h⟩ := h
              refine z_iald (n := 8) (pc' := 59) C (zL_mem (by decide) zo49) (fun _ => rfl) hv14 dX11_copy_58 rfl ?_
              obtain ⟨ht, hf⟩ := h
              refine z_icmp_eq (tgt := 65) (pc' := 62) C dX11_copy_59 (by decide) rfl (fun c15 => ?_) (fun c15 => ?_)
              · have h := ht c15
                refine z_iload (pc' := 67) C dX11_copy_65 5 rfl rfl ?_
                obtain ⟨ht, hf⟩ := h
                refine z_if_lt (tgt := 106) (pc' := 70) C dX11_copy_67 (by decide) rfl (fun c16 => ?_) (fun c16 => ?_)
                · have h := ht c16
                  refine z_bipush (v := (-13)) (pc' := 108) C dX11_copy_106 (by decide) rfl ?_
                  exact z_iret C dX11_copy_108 h
                · have h := hf c16
                  refine z_iload_n (pc' := 71) C dX11_copy_70 rfl 2 rfl rfl ?_
                  obtain ⟨ht, hf⟩ := h
                  refine z_if_lt (tgt := 106) (pc' := 74) C dX11_copy_71 (by decide) rfl (fun c17 => ?_) (fun c17 => ?_)
                  · have h := ht c17
                    refine z_bipush (v := (-13)) (pc' := 108) C dX11_copy_106 (by decide) rfl ?_
                    exact z_iret C dX11_copy_108 h
                  · have h := hf c17
                    refine z_iload (pc' := 76) C dX11_copy_74 4 rfl rfl ?_
                    obtain ⟨ht, hf⟩ := h
                    refine z_if_lt (tgt := 106) (pc' := 79) C dX11_copy_76 (by decide) rfl (fun c18 => ?_) (fun c18 => ?_)
                    · have h := ht c18
                      refine z_bipush (v := (-13)) (pc' := 108) C dX11_copy_106 (by decide) rfl ?_
                      exact z_iret C dX11_copy_108 h
                    · have h := hf c18
                      refine z_iload_n (pc' := 80) C dX11_copy_79 rfl 2 rfl rfl ?_
                      refine z_aload_n (pc' := 81) C dX11_copy_80 rfl 0 rfl rfl ?_
                      refine zgX11_105 (pc' := 84) C zo22 dX11_copy_81 rfl ?_
                      refine z_iload_n (pc' := 85) C dX11_copy_84 rfl 1 rfl rfl ?_
                      obtain ⟨hv19, h⟩ := h
                      refine z_iald (n := 8) (pc' := 86) C (zL_mem (by decide) zo53) (fun _ => rfl) hv19 dX11_copy_85 rfl ?_
                      refine z_iload (pc' := 88) C dX11_copy_86 5 rfl rfl ?_
                      refine z_isub (pc' := 89) C dX11_copy_88 rfl ?_
                      obtain ⟨ht, hf⟩ := h
                      refine z_icmp_gt (tgt := 106) (pc' := 92) C dX11_copy_89 (by decide) rfl (fun c20 => ?_) (fun c20 => ?_)
                      · have h := ht c20
                        refine z_bipush (v := (-13)) (pc' := 108) C dX11_copy_106 (by decide) rfl ?_
                        exact z_iret C dX11_copy_108 h
                      · have h := hf c20
                        refine z_iload (pc' := 94) C dX11_copy_92 4 rfl rfl ?_
                        refine z_aload_n (pc' := 95) C dX11_copy_94 rfl 0 rfl rfl ?_
                        refine zgX11_105 (pc' := 98) C zo22 dX11_copy_95 rfl ?_
                        refine z_iload_n (pc' := 99) C dX11_copy_98 rfl 3 rfl rfl ?_
                        obtain ⟨hv21, h⟩ := h
                        refine z_iald (n := 8) (pc' := 100) C (zL_mem (by decide) zo53) (fun _ => rfl) hv21 dX11_copy_99 rfl ?_
                        refine z_iload (pc' := 102) C dX11_copy_100 5 rfl rfl ?_
                        refine z_isub (pc' := 103) C dX11_copy_102 rfl ?_
                        obtain ⟨ht, hf⟩ := h
                        refine z_icmp_le (tgt := 109) (pc' := 106) C dX11_copy_103 (by decide) rfl (fun c22 => ?_) (fun c22 => ?_)
                        · have h := ht c22
                          refine z_iconst (v := 0) (pc' := 110) C dX11_copy_109 (by decide) rfl ?_
                          refine z_istore (pc' := 112) (lv' := [(6, .int 0), (0, .ref (E.2.2 22 0)), (1, .int a0), (2, .int a1), (3, .int a2), (4, .int a3), (5, .int a4)]) C dX11_copy_110 (by decide) rfl rfl ?_
                          obtain ⟨n23, h⟩ := h
                          refine z_sub (lv' := [(0, .ref (E.2.2 22 0)), (1, .int a0), (2, .int a1), (3, .int a2), (4, .int a3), (5, .int a4), (6, .int 0)]) [1, 2, 3, 4, 5, 6, 0] rfl ?_
                          exact sl_X11_copy_112 C a0 a1 a2 a3 a4 Q n23 _ _ h
                        · have h := hf c22
                          refine z_bipush (v := (-13)) (pc' := 108) C dX11_copy_106 (by decide) rfl ?_
                          exact z_iret C dX11_copy_108 h
              · have h := hf c15
                refine z_bipush (v := (-12)) (pc' := 64) C dX11_copy_62 (by decide) rfl ?_
                exact z_iret C dX11_copy_64 h
          · have h := hf c10
            refine z_bipush (v := (-11)) (pc' := 36) C dX11_copy_34 (by decide) rfl ?_
            exact z_iret C dX11_copy_36 h
      · have h := hf c6
        refine z_iconst (v := (-1)) (pc' := 15) C dX11_copy_14 (by decide) rfl ?_
        exact z_iret C dX11_copy_15 h
  exact fin
