def vc_X11_noPlot (σ : zMem) (a0 : Int32) (Q : Int32 → zMem → Prop) : Prop := vc_X11_isShelf σ a0 (fun r2 σ1 => ((¬ r2 = 0) → vp_in a0 8 ∧ ((¬ (σ1 49 0 a0.toNatClampNeg) = 0) → vp_in a0 8 ∧ (((σ1 49 0 a0.toNatClampNeg) = 1) → Q 0 σ1) ∧ ((¬ (σ1 49 0 a0.toNatClampNeg) = 1) → Q ((-12)) σ1)) ∧ (((σ1 49 0 a0.toNatClampNeg) = 0) → Q ((-11)) σ1)) ∧ ((r2 = 0) → Q ((-1)) σ1))
set_option maxHeartbeats 4000000 in
set_option maxRecDepth 100000 in
theorem sc_X11_noPlot (l : Launch) (E : zE) (σ : zMem) (a0 : Int32) (Q : Int32 → zMem → Prop) (h : vc_X11_noPlot σ a0 Q) : zMi l yX11_noPlot cX11_noPlot 2 .int 2 42 E [.ref (E.2.2 22 0), .int a0] σ Q := by
  refine zMi_of (by decide) (Nat.le_of_ble_eq_true rfl) ?_
  intro p e s m args below meth c C
  unfold vc_X11_noPlot at h
  have fin : zG p l e (zRm 2 42) s m args below meth c 2 E 0 0 (MQ below (va_Qi Q (zPost E) (zA E s.heap.size)) args s 0 0 (zA E s.heap.size)) σ 0 [(0, .ref (E.2.2 22 0)), (1, .int a0)] [] := by
    refine z_iload_n (pc' := 1) C dX11_noPlot_0 rfl 1 rfl rfl ?_
    refine z_callSi (pc' := 4) (st := []) (As := [.int a0]) C (sc_X11_isShelf l E σ a0 _ h) zwX11_208_X11_isShelf ztX11_208_X11_isShelf ⟨(Nat.le_of_ble_eq_true rfl), (Nat.le_of_ble_eq_true rfl)⟩ ⟨Nat.zero_le _, Nat.zero_le _⟩ rfl rfl (Nat.le_of_ble_eq_true rfl) dX11_noPlot_1 rfl (fun r2 σ1 h => ?_)
    obtain ⟨ht, hf⟩ := h
    refine z_if_ne (tgt := 11) (pc' := 7) C dX11_noPlot_4 (by decide) rfl (fun c3 => ?_) (fun c3 => ?_)
    · have h := ht c3
      refine z_aload_n (pc' := 12) C dX11_noPlot_11 rfl 0 rfl rfl ?_
      refine zgX11_93 (pc' := 15) C zo22 dX11_noPlot_12 rfl ?_
      refine z_iload_n (pc' := 16) C dX11_noPlot_15 rfl 1 rfl rfl ?_
      obtain ⟨hv4, h⟩ := h
      refine z_iald (n := 8) (pc' := 17) C (zL_mem (by decide) zo49) (fun _ => rfl) hv4 dX11_noPlot_16 rfl ?_
      obtain ⟨ht, hf⟩ := h
      refine z_if_ne (tgt := 25) (pc' := 20) C dX11_noPlot_17 (by decide) rfl (fun c5 => ?_) (fun c5 => ?_)
      · have h := ht c5
        refine z_aload_n (pc' := 26) C dX11_noPlot_25 rfl 0 rfl rfl ?_
        refine zgX11_93 (pc' := 29) C zo22 dX11_noPlot_26 rfl ?_
        refine z_iload_n (pc' := 30) C dX11_noPlot_29 rfl 1 rfl rfl ?_
        obtain ⟨hv6, h⟩ := h
        refine z_iald (n := 8) (pc' := 31) C (zL_mem (by decide) zo49) (fun _ => rfl) hv6 dX11_noPlot_30 rfl ?_
        refine z_iconst (v := 1) (pc' := 32) C dX11_noPlot_31 (by decide) rfl ?_
        obtain ⟨ht, hf⟩ := h
        refine z_icmp_eq (tgt := 40) (pc' := 35) C dX11_noPlot_32 (by decide) rfl (fun c7 => ?_) (fun c7 => ?_)
        · have h := ht c7
          refine z_iconst (v := 0) (pc' := 41) C dX11_noPlot_40 (by decide) rfl ?_
          exact z_iret C dX11_noPlot_41 h
        · have h := hf c7
          refine z_bipush (v := (-12)) (pc' := 37) C dX11_noPlot_35 (by decide) rfl ?_
          refine z_goto (tgt := 41) C dX11_noPlot_37 (by decide) ?_
          exact z_iret C dX11_noPlot_41 h
      · have h := hf c5
        refine z_bipush (v := (-11)) (pc' := 22) C dX11_noPlot_20 (by decide) rfl ?_
        refine z_goto (tgt := 41) C dX11_noPlot_22 (by decide) ?_
        exact z_iret C dX11_noPlot_41 h
    · have h := hf c3
      refine z_iconst (v := (-1)) (pc' := 8) C dX11_noPlot_7 (by decide) rfl ?_
      refine z_goto (tgt := 41) C dX11_noPlot_8 (by decide) ?_
      exact z_iret C dX11_noPlot_41 h
  exact fin
def vc_X11_weight (σ : zMem) (a0 : Int32) (Q : Int32 → zMem → Prop) : Prop := vc_X11_noPlot σ a0 (fun r2 σ1 => ((0 ≤ r2) → vp_in a0 8 ∧ vp_in a0 8 ∧ ((σ1 51 0 a0.toNatClampNeg = 1) → vc_X11_chanceOf σ1 1 (fun r8 σ7 => Q ((10 + (σ1 52 0 a0.toNatClampNeg)) + r8) σ7)) ∧ ((σ1 51 0 a0.toNatClampNeg = 2) → vc_X11_chanceOf σ1 2 (fun r11 σ10 => Q (2 * ((10 + (σ1 52 0 a0.toNatClampNeg)) + r11)) σ10)) ∧ ((σ1 51 0 a0.toNatClampNeg = 3) → Q ((10 + (σ1 52 0 a0.toNatClampNeg)) + 100) σ1) ∧ (¬ σ1 51 0 a0.toNatClampNeg = 1 → ¬ σ1 51 0 a0.toNatClampNeg = 2 → ¬ σ1 51 0 a0.toNatClampNeg = 3 → Q (10 + (σ1 52 0 a0.toNatClampNeg)) σ1)) ∧ ((¬ 0 ≤ r2) → Q r2 σ1))
set_option maxHeartbeats 4000000 in
set_option maxRecDepth 100000 in
theorem sc_X11_weight (l : Launch) (E : zE) (σ : zMem) (a0 : Int32) (Q : Int32 → zMem → Prop) (h : vc_X11_weight σ a0 Q) : zMi l yX11_weight cX11_weight 4 .int 3 63 E [.ref (E.2.2 22 0), .int a0] σ Q := by
  refine zMi_of (by decide) (Nat.le_of_ble_eq_true rfl) ?_
  intro p e s m args below meth c C
  unfold vc_X11_weight at h
  have fin : zG p l e (zRm 3 63) s m args below meth c 4 E 0 0 (MQ below (va_Qi Q (zPost E) (zA E s.heap.size)) args s 0 0 (zA E s.heap.size)) σ 0 [(0, .ref (E.2.2 22 0)), (1, .int a0)] [] := by
    refine z_aload_n (pc' := 1) C dX11_weight_0 rfl 0 rfl rfl ?_
    refine z_iload_n (pc' := 2) C dX11_weight_1 rfl 1 rfl rfl ?_
    refine z_callVi (q := 22) (i := 0) (w9 := (RX11, TX11, 40)) (pc' := 5) (st := []) (As := [.int a0]) C (sc_X11_noPlot l E σ a0 _ h) zwX11_211_X11_noPlot zvX11_211_X11_noPlot.1 zvX11_211_X11_noPlot.2 (zL_mem (by decide) zo22) rfl rfl ⟨(Nat.le_of_ble_eq_true rfl), (Nat.le_of_ble_eq_true rfl)⟩ ⟨Nat.zero_le _, Nat.zero_le _⟩ rfl rfl (Nat.le_of_ble_eq_true rfl) dX11_weight_2 rfl (fun r2 σ1 h => ?_)
    refine z_istore_n (pc' := 6) (lv' := [(2, .int r2), (0, .ref (E.2.2 22 0)), (1, .int a0)]) C dX11_weight_5 rfl (by decide) rfl rfl ?_
    refine z_iload_n (pc' := 7) C dX11_weight_6 rfl 0 rfl rfl ?_
    obtain ⟨ht, hf⟩ := h
    refine z_if_ge (tgt := 12) (pc' := 10) C dX11_weight_7 (by decide) rfl (fun c3 => ?_) (fun c3 => ?_)
    · have h := ht c3
      refine z_bipush (v := 10) (pc' := 14) C dX11_weight_12 (by decide) rfl ?_
      refine z_aload_n (pc' := 15) C dX11_weight_14 rfl 1 rfl rfl ?_
      refine zgX11_102 (pc' := 18) C zo22 dX11_weight_15 rfl ?_
      refine z_iload_n (pc' := 19) C dX11_weight_18 rfl 2 rfl rfl ?_
      obtain ⟨hv4, h⟩ := h
      refine z_iald (n := 8) (pc' := 20) C (zL_mem (by decide) zo52) (fun _ => rfl) hv4 dX11_weight_19 rfl ?_
      refine z_iadd (pc' := 21) C dX11_weight_20 rfl ?_
      refine z_istore_n (pc' := 22) (lv' := [(3, .int (10 + (σ1 52 0 a0.toNatClampNeg))), (2, .int r2), (0, .ref (E.2.2 22 0)), (1, .int a0)]) C dX11_weight_21 rfl (by decide) rfl rfl ?_
      refine z_aload_n (pc' := 23) C dX11_weight_22 rfl 2 rfl rfl ?_
      refine zgX11_99 (pc' := 26) C zo22 dX11_weight_23 rfl ?_
      refine z_iload_n (pc' := 27) C dX11_weight_26 rfl 3 rfl rfl ?_
      obtain ⟨hv5, h⟩ := h
      refine z_iald (n := 8) (pc' := 28) C (zL_mem (by decide) zo51) (fun _ => rfl) hv5 dX11_weight_27 rfl ?_
      obtain ⟨hk, h⟩ := h
      by_cases c6 : σ1 51 0 a0.toNatClampNeg = 1
      · have h := hk c6
        refine z_tabIn (tgt := 56) C dX11_weight_28 1 c6 (by decide) (by decide) rfl (by decide) ?_
        refine z_iload_n (pc' := 57) C dX11_weight_56 rfl 0 rfl rfl ?_
        refine z_iconst (v := 1) (pc' := 58) C dX11_weight_57 (by decide) rfl ?_
        refine z_callSi (pc' := 61) (st := [.int (10 + (σ1 52 0 a0.toNatClampNeg))]) (As := [.int 1]) C (sc_X11_chanceOf l E σ1 1 _ h) zwX11_129_X11_chanceOf ztX11_129_X11_chanceOf ⟨(Nat.le_of_ble_eq_true rfl), (Nat.le_of_ble_eq_true rfl)⟩ ⟨Nat.zero_le _, Nat.zero_le _⟩ rfl rfl (Nat.le_of_ble_eq_true rfl) dX11_weight_58 rfl (fun r8 σ7 h => ?_)
        refine z_iadd (pc' := 62) C dX11_weight_61 rfl ?_
        exact z_iret C dX11_weight_62 h
      obtain ⟨hk, h⟩ := h
      by_cases c9 : σ1 51 0 a0.toNatClampNeg = 2
      · have h := hk c9
        refine z_tabIn (tgt := 63) C dX11_weight_28 2 c9 (by decide) (by decide) rfl (by decide) ?_
        refine z_iconst (v := 2) (pc' := 64) C dX11_weight_63 (by decide) rfl ?_
        refine z_iload_n (pc' := 65) C dX11_weight_64 rfl 0 rfl rfl ?_
        refine z_iconst (v := 2) (pc' := 66) C dX11_weight_65 (by decide) rfl ?_
        refine z_callSi (pc' := 69) (st := [.int (10 + (σ1 52 0 a0.toNatClampNeg)), .int 2]) (As := [.int 2]) C (sc_X11_chanceOf l E σ1 2 _ h) zwX11_129_X11_chanceOf ztX11_129_X11_chanceOf ⟨(Nat.le_of_ble_eq_true rfl), (Nat.le_of_ble_eq_true rfl)⟩ ⟨Nat.zero_le _, Nat.zero_le _⟩ rfl rfl (Nat.le_of_ble_eq_true rfl) dX11_weight_66 rfl (fun r11 σ10 h => ?_)
        refine z_iadd (pc' := 70) C dX11_weight_69 rfl ?_
        refine z_imul (pc' := 71) C dX11_weight_70 rfl ?_
        exact z_iret C dX11_weight_71 h
      obtain ⟨hk, h⟩ := h
      by_cases c12 : σ1 51 0 a0.toNatClampNeg = 3
      · have h := hk c12
        refine z_tabIn (tgt := 72) C dX11_weight_28 3 c12 (by decide) (by decide) rfl (by decide) ?_
        refine z_iload_n (pc' := 73) C dX11_weight_72 rfl 0 rfl rfl ?_
        refine z_bipush (v := 100) (pc' := 75) C dX11_weight_73 (by decide) rfl ?_
        refine z_iadd (pc' := 76) C dX11_weight_75 rfl ?_
        exact z_iret C dX11_weight_76 h
      have h := h c6 c9 c12
      refine z_tabOut (tgt := 77) C dX11_weight_28 (by have ec6 := lv_neT (a := 1) c6 rfl; have ec9 := lv_neT (a := 2) c9 rfl; have ec12 := lv_neT (a := 3) c12 rfl; omega) (by decide) ?_
      refine z_iload_n (pc' := 78) C dX11_weight_77 rfl 0 rfl rfl ?_
      exact z_iret C dX11_weight_78 h
    · have h := hf c3
      refine z_iload_n (pc' := 11) C dX11_weight_10 rfl 0 rfl rfl ?_
      exact z_iret C dX11_weight_11 h
  exact fin
def vc_X11_toss (σ : zMem) (a0 : Int32) (Q : Int32 → zMem → Prop) : Prop := vc_X11_noPlot σ a0 (fun r2 σ1 => ((0 ≤ r2) → vp_in a0 8 ∧ ((¬ (σ1 51 0 a0.toNatClampNeg) = 0) → vp_in a0 8 ∧ Q (σ1 50 0 a0.toNatClampNeg) σ1) ∧ (((σ1 51 0 a0.toNatClampNeg) = 0) → Q ((-15)) σ1)) ∧ ((¬ 0 ≤ r2) → Q r2 σ1))
set_option maxHeartbeats 4000000 in
set_option maxRecDepth 100000 in
theorem sc_X11_toss (l : Launch) (E : zE) (σ : zMem) (a0 : Int32) (Q : Int32 → zMem → Prop) (h : vc_X11_toss σ a0 Q) : zMi l yX11_toss cX11_toss 3 .int 3 63 E [.ref (E.2.2 22 0), .int a0] σ Q := by
  refine zMi_of (by decide) (Nat.le_of_ble_eq_true rfl) ?_
  intro p e s m args below meth c C
  unfold vc_X11_toss at h
  have fin : zG p l e (zRm 3 63) s m args below meth c 3 E 0 0 (MQ below (va_Qi Q (zPost E) (zA E s.heap.size)) args s 0 0 (zA E s.heap.size)) σ 0 [(0, .ref (E.2.2 22 0)), (1, .int a0)] [] := by
    refine z_aload_n (pc' := 1) C dX11_toss_0 rfl 0 rfl rfl ?_
    refine z_iload_n (pc' := 2) C dX11_toss_1 rfl 1 rfl rfl ?_
    refine z_callVi (q := 22) (i := 0) (w9 := (RX11, TX11, 40)) (pc' := 5) (st := []) (As := [.int a0]) C (sc_X11_noPlot l E σ a0 _ h) zwX11_211_X11_noPlot zvX11_211_X11_noPlot.1 zvX11_211_X11_noPlot.2 (zL_mem (by decide) zo22) rfl rfl ⟨(Nat.le_of_ble_eq_true rfl), (Nat.le_of_ble_eq_true rfl)⟩ ⟨Nat.zero_le _, Nat.zero_le _⟩ rfl rfl (Nat.le_of_ble_eq_true rfl) dX11_toss_2 rfl (fun r2 σ1 h => ?_)
    refine z_istore_n (pc' := 6) (lv' := [(2, .int r2), (0, .ref (E.2.2 22 0)), (1, .int a0)]) C dX11_toss_5 rfl (by decide) rfl rfl ?_
    refine z_iload_n (pc' := 7) C dX11_toss_6 rfl 0 rfl rfl ?_
    obtain ⟨ht, hf⟩ := h
    refine z_if_ge (tgt := 14) (pc' := 10) C dX11_toss_7 (by decide) rfl (fun c3 => ?_) (fun c3 => ?_)
    · have h := ht c3
      refine z_aload_n (pc' := 15) C dX11_toss_14 rfl 1 rfl rfl ?_
      refine zgX11_99 (pc' := 18) C zo22 dX11_toss_15 rfl ?_
      refine z_iload_n (pc' := 19) C dX11_toss_18 rfl 2 rfl rfl ?_
      obtain ⟨hv4, h⟩ := h
      refine z_iald (n := 8) (pc' := 20) C (zL_mem (by decide) zo51) (fun _ => rfl) hv4 dX11_toss_19 rfl ?_
      obtain ⟨ht, hf⟩ := h
      refine z_if_ne (tgt := 28) (pc' := 23) C dX11_toss_20 (by decide) rfl (fun c5 => ?_) (fun c5 => ?_)
      · have h := ht c5
        refine z_aload_n (pc' := 29) C dX11_toss_28 rfl 1 rfl rfl ?_
        refine zgX11_96 (pc' := 32) C zo22 dX11_toss_29 rfl ?_
        refine z_iload_n (pc' := 33) C dX11_toss_32 rfl 2 rfl rfl ?_
        obtain ⟨hv6, h⟩ := h
        refine z_iald (n := 8) (pc' := 34) C (zL_mem (by decide) zo50) (fun _ => rfl) hv6 dX11_toss_33 rfl ?_
        exact z_iret C dX11_toss_34 h
      · have h := hf c5
        refine z_bipush (v := (-15)) (pc' := 25) C dX11_toss_23 (by decide) rfl ?_
        refine z_goto (tgt := 34) C dX11_toss_25 (by decide) ?_
        exact z_iret C dX11_toss_34 h
    · have h := hf c3
      refine z_iload_n (pc' := 11) C dX11_toss_10 rfl 0 rfl rfl ?_
      refine z_goto (tgt := 34) C dX11_toss_11 (by decide) ?_
      exact z_iret C dX11_toss_34 h
  exact fin
