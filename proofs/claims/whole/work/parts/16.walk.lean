def vc_X11_day (σ : zMem) (a0 : Int32) (Q : Int32 → zMem → Prop) : Prop := vc_X11_in σ a0 (σ 22 0 21) 30 (fun r2 σ1 => ((¬ r2 = 0) → Q (σ1 22 0 21) (um σ1 22 0 21 a0)) ∧ ((r2 = 0) → Q ((-1)) σ1))
set_option maxHeartbeats 4000000 in
set_option maxRecDepth 100000 in
theorem sc_X11_day (l : Launch) (E : zE) (σ : zMem) (a0 : Int32) (Q : Int32 → zMem → Prop) (h : vc_X11_day σ a0 Q) : zMi l yX11_day cX11_day 3 .int 1 22 E [.ref (E.2.2 22 0), .int a0] σ Q := by
  refine zMi_of (by decide) (Nat.le_of_ble_eq_true rfl) ?_
  intro p e s m args below meth c C
  unfold vc_X11_day at h
  have fin : zG p l e (zRm 1 22) s m args below meth c 3 E 0 0 (MQ below (va_Qi Q (zPost E) (zA E s.heap.size)) args s 0 0 (zA E s.heap.size)) σ 0 [(0, .ref (E.2.2 22 0)), (1, .int a0)] [] := by
    refine z_iload_n (pc' := 1) C dX11_day_0 rfl 1 rfl rfl ?_
    refine z_aload_n (pc' := 2) C dX11_day_1 rfl 0 rfl rfl ?_
    refine zgX11_180 (pc' := 5) C zo22 dX11_day_2 rfl ?_
    refine z_bipush (v := 30) (pc' := 7) C dX11_day_5 (by decide) rfl ?_
    refine z_callSi (pc' := 10) (st := []) (As := [.int a0, .int (σ 22 0 21), .int 30]) C (sc_X11_in l E σ a0 (σ 22 0 21) 30 _ h) zwX11_114_X11_in ztX11_114_X11_in ⟨(Nat.le_of_ble_eq_true rfl), (Nat.le_of_ble_eq_true rfl)⟩ ⟨Nat.zero_le _, Nat.zero_le _⟩ rfl rfl (Nat.le_of_ble_eq_true rfl) dX11_day_7 rfl (fun r2 σ1 h => ?_)
    obtain ⟨ht, hf⟩ := h
    refine z_if_ne (tgt := 15) (pc' := 13) C dX11_day_10 (by decide) rfl (fun c3 => ?_) (fun c3 => ?_)
    · have h := ht c3
      refine z_aload_n (pc' := 16) C dX11_day_15 rfl 0 rfl rfl ?_
      refine zgX11_180 (pc' := 19) C zo22 dX11_day_16 rfl ?_
      refine z_istore_n (pc' := 20) (lv' := [(2, .int (σ1 22 0 21)), (0, .ref (E.2.2 22 0)), (1, .int a0)]) C dX11_day_19 rfl (by decide) rfl rfl ?_
      refine z_aload_n (pc' := 21) C dX11_day_20 rfl 1 rfl rfl ?_
      refine z_iload_n (pc' := 22) C dX11_day_21 rfl 2 rfl rfl ?_
      refine zpX11_180 (pc' := 25) C zo22 dX11_day_22 rfl ?_
      refine z_iload_n (pc' := 26) C dX11_day_25 rfl 0 rfl rfl ?_
      exact z_iret C dX11_day_26 h
    · have h := hf c3
      refine z_iconst (v := (-1)) (pc' := 14) C dX11_day_13 (by decide) rfl ?_
      exact z_iret C dX11_day_14 h
  exact fin
def vc_X11_rain (σ : zMem) (a0 : Int32) (a1 : Int32) (Q : Int32 → zMem → Prop) : Prop := vc_X11_in σ a0 0 30 (fun r2 σ1 => ((¬ r2 = 0) → vp_in a0 31 ∧ (((σ1 39 0 a0.toNatClampNeg) = a1) → vp_in a0 31 ∧ Q 0 (um σ1 39 0 a0.toNatClampNeg (vp_nar .boolean a1))) ∧ ((¬ (σ1 39 0 a0.toNatClampNeg) = a1) → vp_in a0 31 ∧ Q 1 (um σ1 39 0 a0.toNatClampNeg (vp_nar .boolean a1)))) ∧ ((r2 = 0) → Q ((-1)) σ1))
set_option maxHeartbeats 4000000 in
set_option maxRecDepth 100000 in
theorem sc_X11_rain (l : Launch) (E : zE) (σ : zMem) (a0 : Int32) (a1 : Int32) (Q : Int32 → zMem → Prop) (h : vc_X11_rain σ a0 a1 Q) : zMi l yX11_rain cX11_rain 4 .int 1 22 E [.ref (E.2.2 22 0), .int a0, .int a1] σ Q := by
  refine zMi_of (by decide) (Nat.le_of_ble_eq_true rfl) ?_
  intro p e s m args below meth c C
  unfold vc_X11_rain at h
  have fin : zG p l e (zRm 1 22) s m args below meth c 4 E 0 0 (MQ below (va_Qi Q (zPost E) (zA E s.heap.size)) args s 0 0 (zA E s.heap.size)) σ 0 [(0, .ref (E.2.2 22 0)), (1, .int a0), (2, .int a1)] [] := by
    refine z_iload_n (pc' := 1) C dX11_rain_0 rfl 1 rfl rfl ?_
    refine z_iconst (v := 0) (pc' := 2) C dX11_rain_1 (by decide) rfl ?_
    refine z_bipush (v := 30) (pc' := 4) C dX11_rain_2 (by decide) rfl ?_
    refine z_callSi (pc' := 7) (st := []) (As := [.int a0, .int 0, .int 30]) C (sc_X11_in l E σ a0 0 30 _ h) zwX11_114_X11_in ztX11_114_X11_in ⟨(Nat.le_of_ble_eq_true rfl), (Nat.le_of_ble_eq_true rfl)⟩ ⟨Nat.zero_le _, Nat.zero_le _⟩ rfl rfl (Nat.le_of_ble_eq_true rfl) dX11_rain_4 rfl (fun r2 σ1 h => ?_)
    obtain ⟨ht, hf⟩ := h
    refine z_if_ne (tgt := 12) (pc' := 10) C dX11_rain_7 (by decide) rfl (fun c3 => ?_) (fun c3 => ?_)
    · have h := ht c3
      refine z_aload_n (pc' := 13) C dX11_rain_12 rfl 0 rfl rfl ?_
      refine zgX11_63 (pc' := 16) C zo22 dX11_rain_13 rfl ?_
      refine z_iload_n (pc' := 17) C dX11_rain_16 rfl 1 rfl rfl ?_
      obtain ⟨hv4, h⟩ := h
      refine z_zald (n := 31) (pc' := 18) C (zL_mem (by decide) zo39) (fun _ => rfl) hv4 dX11_rain_17 rfl ?_
      refine z_iload_n (pc' := 19) C dX11_rain_18 rfl 2 rfl rfl ?_
      obtain ⟨ht, hf⟩ := h
      refine z_icmp_eq (tgt := 26) (pc' := 22) C dX11_rain_19 (by decide) rfl (fun c5 => ?_) (fun c5 => ?_)
      · have h := ht c5
        refine z_iconst (v := 0) (pc' := 27) C dX11_rain_26 (by decide) rfl ?_
        refine z_istore_n (pc' := 28) (lv' := [(3, .int 0), (0, .ref (E.2.2 22 0)), (1, .int a0), (2, .int a1)]) C dX11_rain_27 rfl (by decide) rfl rfl ?_
        refine z_aload_n (pc' := 29) C dX11_rain_28 rfl 1 rfl rfl ?_
        refine zgX11_63 (pc' := 32) C zo22 dX11_rain_29 rfl ?_
        refine z_iload_n (pc' := 33) C dX11_rain_32 rfl 2 rfl rfl ?_
        refine z_iload_n (pc' := 34) C dX11_rain_33 rfl 3 rfl rfl ?_
        obtain ⟨hv6, h⟩ := h
        refine z_zast (n := 31) (pc' := 35) C (zL_mem (by decide) zo39) (fun _ => rfl) hv6 dX11_rain_34 rfl ?_
        refine z_iload_n (pc' := 36) C dX11_rain_35 rfl 0 rfl rfl ?_
        exact z_iret C dX11_rain_36 h
      · have h := hf c5
        refine z_iconst (v := 1) (pc' := 23) C dX11_rain_22 (by decide) rfl ?_
        refine z_goto (tgt := 27) C dX11_rain_23 (by decide) ?_
        refine z_istore_n (pc' := 28) (lv' := [(3, .int 1), (0, .ref (E.2.2 22 0)), (1, .int a0), (2, .int a1)]) C dX11_rain_27 rfl (by decide) rfl rfl ?_
        refine z_aload_n (pc' := 29) C dX11_rain_28 rfl 1 rfl rfl ?_
        refine zgX11_63 (pc' := 32) C zo22 dX11_rain_29 rfl ?_
        refine z_iload_n (pc' := 33) C dX11_rain_32 rfl 2 rfl rfl ?_
        refine z_iload_n (pc' := 34) C dX11_rain_33 rfl 3 rfl rfl ?_
        obtain ⟨hv7, h⟩ := h
        refine z_zast (n := 31) (pc' := 35) C (zL_mem (by decide) zo39) (fun _ => rfl) hv7 dX11_rain_34 rfl ?_
        refine z_iload_n (pc' := 36) C dX11_rain_35 rfl 0 rfl rfl ?_
        exact z_iret C dX11_rain_36 h
    · have h := hf c3
      refine z_iconst (v := (-1)) (pc' := 11) C dX11_rain_10 (by decide) rfl ?_
      exact z_iret C dX11_rain_11 h
  exact fin
def vc_X11_way (σ : zMem) (a0 : Int32) (Q : Int32 → zMem → Prop) : Prop := vc_X11_isPlot σ a0 (fun r2 σ1 => ((¬ r2 = 0) → vc_X11_standUp σ1 (fun σ4 => vc_X11_wayFrom σ4 a0 (fun r6 σ5 => Q r6 σ5))) ∧ ((r2 = 0) → Q ((-1)) σ1))
set_option maxHeartbeats 4000000 in
set_option maxRecDepth 100000 in
theorem sc_X11_way (l : Launch) (E : zE) (σ : zMem) (a0 : Int32) (Q : Int32 → zMem → Prop) (h : vc_X11_way σ a0 Q) : zMi l yX11_way cX11_way 2 .int 3 67 E [.ref (E.2.2 22 0), .int a0] σ Q := by
  refine zMi_of (by decide) (Nat.le_of_ble_eq_true rfl) ?_
  intro p e s m args below meth c C
  unfold vc_X11_way at h
  have fin : zG p l e (zRm 3 67) s m args below meth c 2 E 0 0 (MQ below (va_Qi Q (zPost E) (zA E s.heap.size)) args s 0 0 (zA E s.heap.size)) σ 0 [(0, .ref (E.2.2 22 0)), (1, .int a0)] [] := by
    refine z_iload_n (pc' := 1) C dX11_way_0 rfl 1 rfl rfl ?_
    refine z_callSi (pc' := 4) (st := []) (As := [.int a0]) C (sc_X11_isPlot l E σ a0 _ h) zwX11_121_X11_isPlot ztX11_121_X11_isPlot ⟨(Nat.le_of_ble_eq_true rfl), (Nat.le_of_ble_eq_true rfl)⟩ ⟨Nat.zero_le _, Nat.zero_le _⟩ rfl rfl (Nat.le_of_ble_eq_true rfl) dX11_way_1 rfl (fun r2 σ1 h => ?_)
    obtain ⟨ht, hf⟩ := h
    refine z_if_ne (tgt := 9) (pc' := 7) C dX11_way_4 (by decide) rfl (fun c3 => ?_) (fun c3 => ?_)
    · have h := ht c3
      refine z_aload_n (pc' := 10) C dX11_way_9 rfl 0 rfl rfl ?_
      refine z_callVv (q := 22) (i := 0) (w9 := (RX11, TX11, 40)) (pc' := 13) (st := []) (As := []) C (sc_X11_standUp l E σ1  _ h) zwX11_183_X11_standUp zvX11_183_X11_standUp.1 zvX11_183_X11_standUp.2 (zL_mem (by decide) zo22) rfl rfl ⟨(Nat.le_of_ble_eq_true rfl), (Nat.le_of_ble_eq_true rfl)⟩ ⟨Nat.zero_le _, Nat.zero_le _⟩ rfl rfl (Nat.le_of_ble_eq_true rfl) dX11_way_10 rfl (fun σ4 h => ?_)
      refine z_aload_n (pc' := 14) C dX11_way_13 rfl 0 rfl rfl ?_
      refine z_iload_n (pc' := 15) C dX11_way_14 rfl 1 rfl rfl ?_
      refine z_callVi (q := 22) (i := 0) (w9 := (RX11, TX11, 40)) (pc' := 18) (st := []) (As := [.int a0]) C (sc_X11_wayFrom l E σ4 a0 _ h) zwX11_186_X11_wayFrom zvX11_186_X11_wayFrom.1 zvX11_186_X11_wayFrom.2 (zL_mem (by decide) zo22) rfl rfl ⟨(Nat.le_of_ble_eq_true rfl), (Nat.le_of_ble_eq_true rfl)⟩ ⟨Nat.zero_le _, Nat.zero_le _⟩ rfl rfl (Nat.le_of_ble_eq_true rfl) dX11_way_15 rfl (fun r6 σ5 h => ?_)
      exact z_iret C dX11_way_18 h
    · have h := hf c3
      refine z_iconst (v := (-1)) (pc' := 8) C dX11_way_7 (by decide) rfl ?_
      exact z_iret C dX11_way_8 h
  exact fin
def vc_X11_cut (σ : zMem) (a0 : Int32) (Q : Int32 → zMem → Prop) : Prop := vc_X11_isPlot σ a0 (fun r2 σ1 => ((¬ r2 = 0) → vc_X11_stands σ1 a0 (fun r5 σ4 => ((¬ r5 = 0) → vc_X11_standUp σ4 (fun σ7 => vc_X11_wayFrom σ7 a0 (fun r9 σ8 => vp_in a0 24 ∧ vp_in (σ8 26 0 a0.toNatClampNeg) 10 ∧ vp_in (σ8 26 0 a0.toNatClampNeg) 10 ∧ vp_in a0 24 ∧ vp_in a0 24 ∧ Q r9 (um (um (um σ8 36 0 (σ8 26 0 a0.toNatClampNeg).toNatClampNeg ((σ8 36 0 (σ8 26 0 a0.toNatClampNeg).toNatClampNeg) + r9)) 29 0 a0.toNatClampNeg (vp_nar .boolean 1)) 30 0 a0.toNatClampNeg ((um (um σ8 36 0 (σ8 26 0 a0.toNatClampNeg).toNatClampNeg ((σ8 36 0 (σ8 26 0 a0.toNatClampNeg).toNatClampNeg) + r9)) 29 0 a0.toNatClampNeg (vp_nar .boolean 1)) 22 0 21))))) ∧ ((r5 = 0) → Q ((-3)) σ4))) ∧ ((r2 = 0) → Q ((-1)) σ1))
set_option maxHeartbeats 4000000 in
set_option maxRecDepth 100000 in
theorem sc_X11_cut (l : Launch) (E : zE) (σ : zMem) (a0 : Int32) (Q : Int32 → zMem → Prop) (h : vc_X11_cut σ a0 Q) : zMi l yX11_cut cX11_cut 3 .int 3 67 E [.ref (E.2.2 22 0), .int a0] σ Q := by
  refine zMi_of (by decide) (Nat.le_of_ble_eq_true rfl) ?_
  intro p e s m args below meth c C
  unfold vc_X11_cut at h
  have fin : zG p l e (zRm 3 67) s m args below meth c 3 E 0 0 (MQ below (va_Qi Q (zPost E) (zA E s.heap.size)) args s 0 0 (zA E s.heap.size)) σ 0 [(0, .ref (E.2.2 22 0)), (1, .int a0)] [] := by
    refine z_iload_n (pc' := 1) C dX11_cut_0 rfl 1 rfl rfl ?_
    refine z_callSi (pc' := 4) (st := []) (As := [.int a0]) C (sc_X11_isPlot l E σ a0 _ h) zwX11_121_X11_isPlot ztX11_121_X11_isPlot ⟨(Nat.le_of_ble_eq_true rfl), (Nat.le_of_ble_eq_true rfl)⟩ ⟨Nat.zero_le _, Nat.zero_le _⟩ rfl rfl (Nat.le_of_ble_eq_true rfl) dX11_cut_1 rfl (fun r2 σ1 h => ?_)
    obtain ⟨ht, hf⟩ := h
    refine z_if_ne (tgt := 9) (pc' := 7) C dX11_cut_4 (by decide) rfl (fun c3 => ?_) (fun c3 => ?_)
    · have h := ht c3
      refine z_aload_n (pc' := 10) C dX11_cut_9 rfl 0 rfl rfl ?_
      refine z_iload_n (pc' := 11) C dX11_cut_10 rfl 1 rfl rfl ?_
      refine z_callVi (q := 22) (i := 0) (w9 := (RX11, TX11, 40)) (pc' := 14) (st := []) (As := [.int a0]) C (sc_X11_stands l E σ1 a0 _ h) zwX11_136_X11_stands zvX11_136_X11_stands.1 zvX11_136_X11_stands.2 (zL_mem (by decide) zo22) rfl rfl ⟨(Nat.le_of_ble_eq_true rfl), (Nat.le_of_ble_eq_true rfl)⟩ ⟨Nat.zero_le _, Nat.zero_le _⟩ rfl rfl (Nat.le_of_ble_eq_true rfl) dX11_cut_11 rfl (fun r5 σ4 h => ?_)
      obtain ⟨ht, hf⟩ := h
      refine z_if_ne (tgt := 20) (pc' := 17) C dX11_cut_14 (by decide) rfl (fun c6 => ?_) (fun c6 => ?_)
      · have h := ht c6
        refine z_aload_n (pc' := 21) C dX11_cut_20 rfl 0 rfl rfl ?_
        refine z_callVv (q := 22) (i := 0) (w9 := (RX11, TX11, 40)) (pc' := 24) (st := []) (As := []) C (sc_X11_standUp l E σ4  _ h) zwX11_183_X11_standUp zvX11_183_X11_standUp.1 zvX11_183_X11_standUp.2 (zL_mem (by decide) zo22) rfl rfl ⟨(Nat.le_of_ble_eq_true rfl), (Nat.le_of_ble_eq_true rfl)⟩ ⟨Nat.zero_le _, Nat.zero_le _⟩ rfl rfl (Nat.le_of_ble_eq_true rfl) dX11_cut_21 rfl (fun σ7 h => ?_)
        refine z_aload_n (pc' := 25) C dX11_cut_24 rfl 0 rfl rfl ?_
        refine z_iload_n (pc' := 26) C dX11_cut_25 rfl 1 rfl rfl ?_
        refine z_callVi (q := 22) (i := 0) (w9 := (RX11, TX11, 40)) (pc' := 29) (st := []) (As := [.int a0]) C (sc_X11_wayFrom l E σ7 a0 _ h) zwX11_186_X11_wayFrom zvX11_186_X11_wayFrom.1 zvX11_186_X11_wayFrom.2 (zL_mem (by decide) zo22) rfl rfl ⟨(Nat.le_of_ble_eq_true rfl), (Nat.le_of_ble_eq_true rfl)⟩ ⟨Nat.zero_le _, Nat.zero_le _⟩ rfl rfl (Nat.le_of_ble_eq_true rfl) dX11_cut_26 rfl (fun r9 σ8 h => ?_)
        refine z_istore_n (pc' := 30) (lv' := [(2, .int r9), (0, .ref (E.2.2 22 0)), (1, .int a0)]) C dX11_cut_29 rfl (by decide) rfl rfl ?_
        refine z_aload_n (pc' := 31) C dX11_cut_30 rfl 1 rfl rfl ?_
        refine zgX11_50 (pc' := 34) C zo22 dX11_cut_31 rfl ?_
        refine z_aload_n (pc' := 35) C dX11_cut_34 rfl 1 rfl rfl ?_
        refine zgX11_20 (pc' := 38) C zo22 dX11_cut_35 rfl ?_
        refine z_iload_n (pc' := 39) C dX11_cut_38 rfl 2 rfl rfl ?_
        obtain ⟨hv10, h⟩ := h
        refine z_iald (n := 24) (pc' := 40) C (zL_mem (by decide) zo26) (fun _ => rfl) hv10 dX11_cut_39 rfl ?_
        refine z_dup2 (pc' := 41) C dX11_cut_40 rfl rfl rfl ?_
        obtain ⟨hv11, h⟩ := h
        refine z_iald (n := 10) (pc' := 42) C (zL_mem (by decide) zo36) (fun _ => rfl) hv11 dX11_cut_41 rfl ?_
        refine z_iload_n (pc' := 43) C dX11_cut_42 rfl 0 rfl rfl ?_
        refine z_iadd (pc' := 44) C dX11_cut_43 rfl ?_
        obtain ⟨hv12, h⟩ := h
        refine z_iast (n := 10) (pc' := 45) C (zL_mem (by decide) zo36) (fun _ => rfl) hv12 dX11_cut_44 rfl ?_
        refine z_aload_n (pc' := 46) C dX11_cut_45 rfl 1 rfl rfl ?_
        refine zgX11_29 (pc' := 49) C zo22 dX11_cut_46 rfl ?_
        refine z_iload_n (pc' := 50) C dX11_cut_49 rfl 2 rfl rfl ?_
        refine z_iconst (v := 1) (pc' := 51) C dX11_cut_50 (by decide) rfl ?_
        obtain ⟨hv13, h⟩ := h
        refine z_zast (n := 24) (pc' := 52) C (zL_mem (by decide) zo29) (fun _ => rfl) hv13 dX11_cut_51 rfl ?_
        refine z_aload_n (pc' := 53) C dX11_cut_52 rfl 1 rfl rfl ?_
        refine zgX11_32 (pc' := 56) C zo22 dX11_cut_53 rfl ?_
        refine z_iload_n (pc' := 57) C dX11_cut_56 rfl 2 rfl rfl ?_
        refine z_aload_n (pc' := 58) C dX11_cut_57 rfl 1 rfl rfl ?_
        refine zgX11_180 (pc' := 61) C zo22 dX11_cut_58 rfl ?_
        obtain ⟨hv14, h⟩ := h
        refine z_iast (n := 24) (pc' := 62) C (zL_mem (by decide) zo30) (fun _ => rfl) hv14 dX11_cut_61 rfl ?_
        refine z_iload_n (pc' := 63) C dX11_cut_62 rfl 0 rfl rfl ?_
        exact z_iret C dX11_cut_63 h
      · have h := hf c6
        refine z_bipush (v := (-3)) (pc' := 19) C dX11_cut_17 (by decide) rfl ?_
        exact z_iret C dX11_cut_19 h
    · have h := hf c3
      refine z_iconst (v := (-1)) (pc' := 8) C dX11_cut_7 (by decide) rfl ?_
      exact z_iret C dX11_cut_8 h
  exact fin
def vc_X11_workOut_152 (x1 : Int32) (Q : Int32 → zMem → Prop) (K91 : zMem → Int32 → Prop) : Nat → zMem → Int32 → Prop
  | 0, _, _ => False
  | n + 1, σ, x2 => (((σ 22 0 25) ≤ x2) → K91 σ (x1 + 1)) ∧ ((¬ (σ 22 0 25) ≤ x2) → ((¬ ((x1 >>> (x2 &&& 31)) &&& 1) = 0) → vp_in x2 6 ∧ vc_X11_wayFrom σ (σ 42 0 x2.toNatClampNeg) (fun r16 σ15 => vp_in ((6 * x1) + x2) 384 ∧ vp_in ((6 * x1) + x2) 384 ∧ vp_in (x1 &&& ((1 <<< (x2 &&& 31)) ^^^ ((-1)))) 64 ∧ vp_in x1 64 ∧ ((((um σ15 44 0 ((6 * x1) + x2).toNatClampNeg r16) 43 0 x1.toNatClampNeg) ≤ (((um σ15 44 0 ((6 * x1) + x2).toNatClampNeg r16) 44 0 ((6 * x1) + x2).toNatClampNeg) + ((um σ15 44 0 ((6 * x1) + x2).toNatClampNeg r16) 43 0 (x1 &&& ((1 <<< (x2 &&& 31)) ^^^ ((-1)))).toNatClampNeg))) → vp_in x1 64 ∧ vp_in x1 64 ∧ vc_X11_workOut_152 x1 Q K91 n (um (um σ15 44 0 ((6 * x1) + x2).toNatClampNeg r16) 43 0 x1.toNatClampNeg ((um σ15 44 0 ((6 * x1) + x2).toNatClampNeg r16) 43 0 x1.toNatClampNeg)) (x2 + 1)) ∧ ((¬ ((um σ15 44 0 ((6 * x1) + x2).toNatClampNeg r16) 43 0 x1.toNatClampNeg) ≤ (((um σ15 44 0 ((6 * x1) + x2).toNatClampNeg r16) 44 0 ((6 * x1) + x2).toNatClampNeg) + ((um σ15 44 0 ((6 * x1) + x2).toNatClampNeg r16) 43 0 (x1 &&& ((1 <<< (x2 &&& 31)) ^^^ ((-1)))).toNatClampNeg))) → vp_in x1 64 ∧ vc_X11_workOut_152 x1 Q K91 n (um (um σ15 44 0 ((6 * x1) + x2).toNatClampNeg r16) 43 0 x1.toNatClampNeg (((um σ15 44 0 ((6 * x1) + x2).toNatClampNeg r16) 44 0 ((6 * x1) + x2).toNatClampNeg) + ((um σ15 44 0 ((6 * x1) + x2).toNatClampNeg r16) 43 0 (x1 &&& ((1 <<< (x2 &&& 31)) ^^^ ((-1)))).toNatClampNeg))) (x2 + 1)))) ∧ ((((x1 >>> (x2 &&& 31)) &&& 1) = 0) → vc_X11_workOut_152 x1 Q K91 n σ (x2 + 1)))
def vc_X11_workOut_103 (x1 : Int32) (Q : Int32 → zMem → Prop) (K91 : zMem → Int32 → Prop) : Nat → zMem → Int32 → Prop
  | 0, _, _ => False
  | n + 1, σ, x2 => (((σ 22 0 25) ≤ x2) → vp_in x1 64 ∧ ∃ n11, vc_X11_workOut_152 x1 Q (K91) n11 (um σ 43 0 x1.toNatClampNeg 1000000) 0) ∧ ((¬ (σ 22 0 25) ≤ x2) → vp_in x2 6 ∧ ((¬ ((x1 >>> (x2 &&& 31)) &&& 1) = 1) → vp_in (σ 42 0 x2.toNatClampNeg) 24 ∧ vc_X11_workOut_103 x1 Q K91 n (um σ 41 0 (σ 42 0 x2.toNatClampNeg).toNatClampNeg (vp_nar .boolean 0)) (x2 + 1)) ∧ ((((x1 >>> (x2 &&& 31)) &&& 1) = 1) → vp_in (σ 42 0 x2.toNatClampNeg) 24 ∧ vc_X11_workOut_103 x1 Q K91 n (um σ 41 0 (σ 42 0 x2.toNatClampNeg).toNatClampNeg (vp_nar .boolean 1)) (x2 + 1)))
def vc_X11_workOut_91 (Q : Int32 → zMem → Prop) : Nat → zMem → Int32 → Prop
  | 0, _, _ => False
  | n + 1, σ, x1 => (((1 <<< ((σ 22 0 25) &&& 31)) ≤ x1) → Q 1 σ) ∧ ((¬ (1 <<< ((σ 22 0 25) &&& 31)) ≤ x1) → ∃ n8, vc_X11_workOut_103 x1 Q (vc_X11_workOut_91 Q n) n8 σ 0)
def vc_X11_workOut_70 (Q : Int32 → zMem → Prop) : Nat → zMem → Int32 → Prop
  | 0, _, _ => False
  | n + 1, σ, x1 => ((24 ≤ x1) → ∃ n6, vc_X11_workOut_91 Q n6 σ 1) ∧ ((¬ 24 ≤ x1) → vp_in x1 24 ∧ vc_X11_workOut_70 Q n (um σ 41 0 x1.toNatClampNeg (vp_nar .boolean 0)) (x1 + 1))
def vc_X11_workOut_7 (Q : Int32 → zMem → Prop) : Nat → zMem → Int32 → Prop
  | 0, _, _ => False
  | n + 1, σ, x1 => ((24 ≤ x1) → vp_in 0 64 ∧ ∃ n4, vc_X11_workOut_70 Q n4 (um σ 43 0 (0 : Int32).toNatClampNeg 0) 0) ∧ ((¬ 24 ≤ x1) → vc_X11_stands σ x1 (fun r31 σ30 => ((¬ r31 = 0) → ((¬ (σ30 22 0 25) = 6) → vp_in (σ30 22 0 25) 6 ∧ vc_X11_workOut_7 Q n (um (um σ30 42 0 (σ30 22 0 25).toNatClampNeg x1) 22 0 25 (((um σ30 42 0 (σ30 22 0 25).toNatClampNeg x1) 22 0 25) + 1)) (x1 + 1)) ∧ (((σ30 22 0 25) = 6) → Q 0 σ30)) ∧ ((r31 = 0) → vc_X11_workOut_7 Q n σ30 (x1 + 1))))
def vc_X11_workOut (σ : zMem) (Q : Int32 → zMem → Prop) : Prop := ∃ n1, vc_X11_workOut_7 Q n1 (um σ 22 0 25 0) 0
set_option maxHeartbeats 4000000 in
set_option maxRecDepth 100000 in
theorem sl_X11_workOut_152 {p : Program} {l : Launch} {e : Env} {s : State} {m : MethodId} {args : Array Value} {below : List Frame} {meth : Method} {c : Code} {E : zE} (C : zX p s m args meth c cX11_workOut 4 RX11 (some .boolean) E) (x1 : Int32) (Q : Int32 → zMem → Prop) {K91 : zMem → Int32 → Prop} (hK91 : ∀ (σ : zMem) (y1 : Int32), K91 σ y1 → zG p l e (zRm 3 67) s m args below meth c 4 E 0 0 (MQ below (va_Qi Q (zPost E) (zA E s.heap.size)) args s 0 0 (zA E s.heap.size)) σ 91 [(0, .ref (E.2.2 22 0)), (1, .int y1)] []) : ∀ (n : Nat) (σ : zMem) (x2 : Int32), vc_X11_workOut_152 x1 Q K91 n σ x2 → zG p l e (zRm 3 67) s m args below meth c 4 E 0 0 (MQ below (va_Qi Q (zPost E) (zA E s.heap.size)) args s 0 0 (zA E s.heap.size)) σ 152 [(0, .ref (E.2.2 22 0)), (1, .int x1), (2, .int x2)] [] := by
  intro n
  induction n with
  | zero =>
    intro σ x2 h
    exact False.elim h
  | succ n ih =>
    intro σ x2 h
    rw [vc_X11_workOut_152] at h
    refine z_iload_n (pc' := 153) C dX11_workOut_152 rfl 2 rfl rfl ?_
    refine z_aload_n (pc' := 154) C dX11_workOut_153 rfl 0 rfl rfl ?_
    refine zgX11_189 (pc' := 157) C zo22 dX11_workOut_154 rfl ?_
    obtain ⟨ht, hf⟩ := h
    refine z_icmp_ge (tgt := 249) (pc' := 160) C dX11_workOut_157 (by decide) rfl (fun c12 => ?_) (fun c12 => ?_)
    · have h := ht c12
      refine z_iinc (j := 1) (v := x1 + 1) (pc' := 252) (lv' := [(1, .int (x1 + 1)), (0, .ref (E.2.2 22 0)), (2, .int x2)]) C dX11_workOut_249 rfl rfl (by decide) rfl rfl ?_
      refine z_goto (tgt := 91) C dX11_workOut_252 (by decide) ?_
      refine z_sub (lv' := [(0, .ref (E.2.2 22 0)), (1, .int (x1 + 1))]) [1, 0] rfl ?_
      exact hK91 _ _ h
    · have h := hf c12
      refine z_iload_n (pc' := 161) C dX11_workOut_160 rfl 1 rfl rfl ?_
      refine z_iload_n (pc' := 162) C dX11_workOut_161 rfl 2 rfl rfl ?_
      refine z_ishr (pc' := 163) C dX11_workOut_162 rfl ?_
      refine z_iconst (v := 1) (pc' := 164) C dX11_workOut_163 (by decide) rfl ?_
      refine z_iand (pc' := 165) C dX11_workOut_164 rfl ?_
      obtain ⟨ht, hf⟩ := h
      refine z_if_ne (tgt := 171) (pc' := 168) C dX11_workOut_165 (by decide) rfl (fun c13 => ?_) (fun c13 => ?_)
      · have h := ht c13
        refine z_aload_n (pc' := 172) C dX11_workOut_171 rfl 0 rfl rfl ?_
        refine zgX11_78 (pc' := 175) C zo22 dX11_workOut_172 rfl ?_
        refine z_bipush (v := 6) (pc' := 177) C dX11_workOut_175 (by decide) rfl ?_
        refine z_iload_n (pc' := 178) C dX11_workOut_177 rfl 1 rfl rfl ?_
        refine z_imul (pc' := 179) C dX11_workOut_178 rfl ?_
        refine z_iload_n (pc' := 180) C dX11_workOut_179 rfl 2 rfl rfl ?_
        refine z_iadd (pc' := 181) C dX11_workOut_180 rfl ?_
        refine z_aload_n (pc' := 182) C dX11_workOut_181 rfl 0 rfl rfl ?_
        refine z_aload_n (pc' := 183) C dX11_workOut_182 rfl 0 rfl rfl ?_
        refine zgX11_72 (pc' := 186) C zo22 dX11_workOut_183 rfl ?_
        refine z_iload_n (pc' := 187) C dX11_workOut_186 rfl 2 rfl rfl ?_
        obtain ⟨hv14, h⟩ := h
        refine z_iald (n := 6) (pc' := 188) C (zL_mem (by decide) zo42) (fun _ => rfl) hv14 dX11_workOut_187 rfl ?_
        refine z_callVi (q := 22) (i := 0) (w9 := (RX11, TX11, 40)) (pc' := 191) (st := [.int ((6 * x1) + x2), .ref (E.2.2 44 0)]) (As := [.int (σ 42 0 x2.toNatClampNeg)]) C (sc_X11_wayFrom l E σ (σ 42 0 x2.toNatClampNeg) _ h) zwX11_186_X11_wayFrom zvX11_186_X11_wayFrom.1 zvX11_186_X11_wayFrom.2 (zL_mem (by decide) zo22) rfl rfl ⟨(Nat.le_of_ble_eq_true rfl), (Nat.le_of_ble_eq_true rfl)⟩ ⟨Nat.zero_le _, Nat.zero_le _⟩ rfl rfl (Nat.le_of_ble_eq_true rfl) dX11_workOut_188 rfl (fun r16 σ15 h => ?_)
        obtain ⟨hv17, h⟩ := h
        refine z_iast (n := 384) (pc' := 192) C (zL_mem (by decide) zo44) (fun _ => rfl) hv17 dX11_workOut_191 rfl ?_
        refine z_aload_n (pc' := 193) C dX11_workOut_192 rfl 0 rfl rfl ?_
        refine zgX11_78 (pc' := 196) C zo22 dX11_workOut_193 rfl ?_
        refine z_bipush (v := 6) (pc' := 198) C dX11_workOut_196 (by decide) rfl ?_
        refine z_iload_n (pc' := 199) C dX11_workOut_198 rfl 1 rfl rfl ?_
        refine z_imul (pc' := 200) C dX11_workOut_199 rfl ?_
        refine z_iload_n (pc' := 201) C dX11_workOut_200 rfl 2 rfl rfl ?_
        refine z_iadd (pc' := 202) C dX11_workOut_201 rfl ?_
        obtain ⟨hv18, h⟩ := h
        refine z_iald (n := 384) (pc' := 203) C (zL_mem (by decide) zo44) (fun _ => rfl) hv18 dX11_workOut_202 rfl ?_
        refine z_aload_n (pc' := 204) C dX11_workOut_203 rfl 0 rfl rfl ?_
        refine zgX11_75 (pc' := 207) C zo22 dX11_workOut_204 rfl ?_
        refine z_iload_n (pc' := 208) C dX11_workOut_207 rfl 1 rfl rfl ?_
        refine z_iconst (v := 1) (pc' := 209) C dX11_workOut_208 (by decide) rfl ?_
        refine z_iload_n (pc' := 210) C dX11_workOut_209 rfl 2 rfl rfl ?_
        refine z_ishl (pc' := 211) C dX11_workOut_210 rfl ?_
        refine z_iconst (v := (-1)) (pc' := 212) C dX11_workOut_211 (by decide) rfl ?_
        refine z_ixor (pc' := 213) C dX11_workOut_212 rfl ?_
        refine z_iand (pc' := 214) C dX11_workOut_213 rfl ?_
        obtain ⟨hv19, h⟩ := h
        refine z_iald (n := 64) (pc' := 215) C (zL_mem (by decide) zo43) (fun _ => rfl) hv19 dX11_workOut_214 rfl ?_
        refine z_iadd (pc' := 216) C dX11_workOut_215 rfl ?_
        refine z_istore_n (pc' := 217) (lv' := [(3, .int (((um σ15 44 0 ((6 * x1) + x2).toNatClampNeg r16) 44 0 ((6 * x1) + x2).toNatClampNeg) + ((um σ15 44 0 ((6 * x1) + x2).toNatClampNeg r16) 43 0 (x1 &&& ((1 <<< (x2 &&& 31)) ^^^ ((-1)))).toNatClampNeg))), (0, .ref (E.2.2 22 0)), (1, .int x1), (2, .int x2)]) C dX11_workOut_216 rfl (by decide) rfl rfl ?_
        refine z_aload_n (pc' := 218) C dX11_workOut_217 rfl 1 rfl rfl ?_
        refine zgX11_75 (pc' := 221) C zo22 dX11_workOut_218 rfl ?_
        refine z_iload_n (pc' := 222) C dX11_workOut_221 rfl 2 rfl rfl ?_
        refine z_iload_n (pc' := 223) C dX11_workOut_222 rfl 0 rfl rfl ?_
        refine z_aload_n (pc' := 224) C dX11_workOut_223 rfl 1 rfl rfl ?_
        refine zgX11_75 (pc' := 227) C zo22 dX11_workOut_224 rfl ?_
        refine z_iload_n (pc' := 228) C dX11_workOut_227 rfl 2 rfl rfl ?_
        obtain ⟨hv20, h⟩ := h
        refine z_iald (n := 64) (pc' := 229) C (zL_mem (by decide) zo43) (fun _ => rfl) hv20 dX11_workOut_228 rfl ?_
        obtain ⟨ht, hf⟩ := h
        refine z_icmp_ge (tgt := 236) (pc' := 232) C dX11_workOut_229 (by decide) rfl (fun c21 => ?_) (fun c21 => ?_)
        · have h := ht c21
          refine z_aload_n (pc' := 237) C dX11_workOut_236 rfl 1 rfl rfl ?_
          refine zgX11_75 (pc' := 240) C zo22 dX11_workOut_237 rfl ?_
          refine z_iload_n (pc' := 241) C dX11_workOut_240 rfl 2 rfl rfl ?_
          obtain ⟨hv22, h⟩ := h
          refine z_iald (n := 64) (pc' := 242) C (zL_mem (by decide) zo43) (fun _ => rfl) hv22 dX11_workOut_241 rfl ?_
          obtain ⟨hv23, h⟩ := h
          refine z_iast (n := 64) (pc' := 243) C (zL_mem (by decide) zo43) (fun _ => rfl) hv23 dX11_workOut_242 rfl ?_
          refine z_iinc (j := 3) (v := x2 + 1) (pc' := 246) (lv' := [(2, .int (x2 + 1)), (3, .int (((um σ15 44 0 ((6 * x1) + x2).toNatClampNeg r16) 44 0 ((6 * x1) + x2).toNatClampNeg) + ((um σ15 44 0 ((6 * x1) + x2).toNatClampNeg r16) 43 0 (x1 &&& ((1 <<< (x2 &&& 31)) ^^^ ((-1)))).toNatClampNeg))), (0, .ref (E.2.2 22 0)), (1, .int x1)]) C dX11_workOut_243 rfl rfl (by decide) rfl rfl ?_
          refine z_goto (tgt := 152) C dX11_workOut_246 (by decide) ?_
          refine z_sub (lv' := [(0, .ref (E.2.2 22 0)), (1, .int x1), (2, .int (x2 + 1))]) [2, 3, 0] rfl ?_
          exact ih _ _ h
        · have h := hf c21
          refine z_iload_n (pc' := 233) C dX11_workOut_232 rfl 0 rfl rfl ?_
          refine z_goto (tgt := 242) C dX11_workOut_233 (by decide) ?_
          obtain ⟨hv24, h⟩ := h
          refine z_iast (n := 64) (pc' := 243) C (zL_mem (by decide) zo43) (fun _ => rfl) hv24 dX11_workOut_242 rfl ?_
          refine z_iinc (j := 3) (v := x2 + 1) (pc' := 246) (lv' := [(2, .int (x2 + 1)), (3, .int (((um σ15 44 0 ((6 * x1) + x2).toNatClampNeg r16) 44 0 ((6 * x1) + x2).toNatClampNeg) + ((um σ15 44 0 ((6 * x1) + x2).toNatClampNeg r16) 43 0 (x1 &&& ((1 <<< (x2 &&& 31)) ^^^ ((-1)))).toNatClampNeg))), (0, .ref (E.2.2 22 0)), (1, .int x1)]) C dX11_workOut_243 rfl rfl (by decide) rfl rfl ?_
          refine z_goto (tgt := 152) C dX11_workOut_246 (by decide) ?_
          refine z_sub (lv' := [(0, .ref (E.2.2 22 0)), (1, .int x1), (2, .int (x2 + 1))]) [2, 3, 0] rfl ?_
          exact ih _ _ h
      · have h := hf c13
        refine z_goto (tgt := 243) C dX11_workOut_168 (by decide) ?_
        refine z_iinc (j := 2) (v := x2 + 1) (pc' := 246) (lv' := [(2, .int (x2 + 1)), (0, .ref (E.2.2 22 0)), (1, .int x1)]) C dX11_workOut_243 rfl rfl (by decide) rfl rfl ?_
        refine z_goto (tgt := 152) C dX11_workOut_246 (by decide) ?_
        refine z_sub (lv' := [(0, .ref (E.2.2 22 0)), (1, .int x1), (2, .int (x2 + 1))]) [1, 2, 0] rfl ?_
        exact ih _ _ h
set_option maxHeartbeats 4000000 in
set_option maxRecDepth 100000 in
theorem sl_X11_workOut_103 {p : Program} {l : Launch} {e : Env} {s : State} {m : MethodId} {args : Array Value} {below : List Frame} {meth : Method} {c : Code} {E : zE} (C : zX p s m args meth c cX11_workOut 4 RX11 (some .boolean) E) (x1 : Int32) (Q : Int32 → zMem → Prop) {K91 : zMem → Int32 → Prop} (hK91 : ∀ (σ : zMem) (y1 : Int32), K91 σ y1 → zG p l e (zRm 3 67) s m args below meth c 4 E 0 0 (MQ below (va_Qi Q (zPost E) (zA E s.heap.size)) args s 0 0 (zA E s.heap.size)) σ 91 [(0, .ref (E.2.2 22 0)), (1, .int y1)] []) : ∀ (n : Nat) (σ : zMem) (x2 : Int32), vc_X11_workOut_103 x1 Q K91 n σ x2 → zG p l e (zRm 3 67) s m args below meth c 4 E 0 0 (MQ below (va_Qi Q (zPost E) (zA E s.heap.size)) args s 0 0 (zA E s.heap.size)) σ 103 [(0, .ref (E.2.2 22 0)), (1, .int x1), (2, .int x2)] [] := by
  intro n
  induction n with
  | zero =>
    intro σ x2 h
    exact False.elim h
  | succ n ih =>
    intro σ x2 h
    rw [vc_X11_workOut_103] at h
    refine z_iload_n (pc' := 104) C dX11_workOut_103 rfl 2 rfl rfl ?_
    refine z_aload_n (pc' := 105) C dX11_workOut_104 rfl 0 rfl rfl ?_
    refine zgX11_189 (pc' := 108) C zo22 dX11_workOut_105 rfl ?_
    obtain ⟨ht, hf⟩ := h
    refine z_icmp_ge (tgt := 142) (pc' := 111) C dX11_workOut_108 (by decide) rfl (fun c9 => ?_) (fun c9 => ?_)
    · have h := ht c9
      refine z_aload_n (pc' := 143) C dX11_workOut_142 rfl 0 rfl rfl ?_
      refine zgX11_75 (pc' := 146) C zo22 dX11_workOut_143 rfl ?_
      refine z_iload_n (pc' := 147) C dX11_workOut_146 rfl 1 rfl rfl ?_
      refine z_ldc (v := 1000000) (pc' := 149) C (zr22 _ (List.mem_of_getElem? (i := 11) rfl)) dX11_workOut_147 rfl ?_
      obtain ⟨hv10, h⟩ := h
      refine z_iast (n := 64) (pc' := 150) C (zL_mem (by decide) zo43) (fun _ => rfl) hv10 dX11_workOut_149 rfl ?_
      refine z_iconst (v := 0) (pc' := 151) C dX11_workOut_150 (by decide) rfl ?_
      refine z_istore_n (pc' := 152) (lv' := [(2, .int 0), (0, .ref (E.2.2 22 0)), (1, .int x1)]) C dX11_workOut_151 rfl (by decide) rfl rfl ?_
      obtain ⟨n11, h⟩ := h
      refine z_sub (lv' := [(0, .ref (E.2.2 22 0)), (1, .int x1), (2, .int 0)]) [1, 2, 0] rfl ?_
      exact sl_X11_workOut_152 C x1 Q (fun y0 y1 h => hK91 y0 y1 h) n11 _ _ h
    · have h := hf c9
      refine z_aload_n (pc' := 112) C dX11_workOut_111 rfl 0 rfl rfl ?_
      refine zgX11_69 (pc' := 115) C zo22 dX11_workOut_112 rfl ?_
      refine z_aload_n (pc' := 116) C dX11_workOut_115 rfl 0 rfl rfl ?_
      refine zgX11_72 (pc' := 119) C zo22 dX11_workOut_116 rfl ?_
      refine z_iload_n (pc' := 120) C dX11_workOut_119 rfl 2 rfl rfl ?_
      obtain ⟨hv25, h⟩ := h
      refine z_iald (n := 6) (pc' := 121) C (zL_mem (by decide) zo42) (fun _ => rfl) hv25 dX11_workOut_120 rfl ?_
      refine z_iload_n (pc' := 122) C dX11_workOut_121 rfl 1 rfl rfl ?_
      refine z_iload_n (pc' := 123) C dX11_workOut_122 rfl 2 rfl rfl ?_
      refine z_ishr (pc' := 124) C dX11_workOut_123 rfl ?_
      refine z_iconst (v := 1) (pc' := 125) C dX11_workOut_124 (by decide) rfl ?_
      refine z_iand (pc' := 126) C dX11_workOut_125 rfl ?_
      refine z_iconst (v := 1) (pc' := 127) C dX11_workOut_126 (by decide) rfl ?_
      obtain ⟨ht, hf⟩ := h
      refine z_icmp_ne (tgt := 134) (pc' := 130) C dX11_workOut_127 (by decide) rfl (fun c26 => ?_) (fun c26 => ?_)
      · have h := ht c26
        refine z_iconst (v := 0) (pc' := 135) C dX11_workOut_134 (by decide) rfl ?_
        obtain ⟨hv27, h⟩ := h
        refine z_zast (n := 24) (pc' := 136) C (zL_mem (by decide) zo41) (fun _ => rfl) hv27 dX11_workOut_135 rfl ?_
        refine z_iinc (j := 2) (v := x2 + 1) (pc' := 139) (lv' := [(2, .int (x2 + 1)), (0, .ref (E.2.2 22 0)), (1, .int x1)]) C dX11_workOut_136 rfl rfl (by decide) rfl rfl ?_
        refine z_goto (tgt := 103) C dX11_workOut_139 (by decide) ?_
        refine z_sub (lv' := [(0, .ref (E.2.2 22 0)), (1, .int x1), (2, .int (x2 + 1))]) [1, 2, 0] rfl ?_
        exact ih _ _ h
      · have h := hf c26
        refine z_iconst (v := 1) (pc' := 131) C dX11_workOut_130 (by decide) rfl ?_
        refine z_goto (tgt := 135) C dX11_workOut_131 (by decide) ?_
        obtain ⟨hv28, h⟩ := h
        refine z_zast (n := 24) (pc' := 136) C (zL_mem (by decide) zo41) (fun _ => rfl) hv28 dX11_workOut_135 rfl ?_
        refine z_iinc (j := 2) (v := x2 + 1) (pc' := 139) (lv' := [(2, .int (x2 + 1)), (0, .ref (E.2.2 22 0)), (1, .int x1)]) C dX11_workOut_136 rfl rfl (by decide) rfl rfl ?_
        refine z_goto (tgt := 103) C dX11_workOut_139 (by decide) ?_
        refine z_sub (lv' := [(0, .ref (E.2.2 22 0)), (1, .int x1), (2, .int (x2 + 1))]) [1, 2, 0] rfl ?_
        exact ih _ _ h
set_option maxHeartbeats 4000000 in
set_option maxRecDepth 100000 in
theorem sl_X11_workOut_91 {p : Program} {l : Launch} {e : Env} {s : State} {m : MethodId} {args : Array Value} {below : List Frame} {meth : Method} {c : Code} {E : zE} (C : zX p s m args meth c cX11_workOut 4 RX11 (some .boolean) E) (Q : Int32 → zMem → Prop) : ∀ (n : Nat) (σ : zMem) (x1 : Int32), vc_X11_workOut_91 Q n σ x1 → zG p l e (zRm 3 67) s m args below meth c 4 E 0 0 (MQ below (va_Qi Q (zPost E) (zA E s.heap.size)) args s 0 0 (zA E s.heap.size)) σ 91 [(0, .ref (E.2.2 22 0)), (1, .int x1)] [] := by
  intro n
  induction n with
  | zero =>
    intro σ x1 h
    exact False.elim h
  | succ n ih =>
    intro σ x1 h
    rw [vc_X11_workOut_91] at h
    refine z_iload_n (pc' := 92) C dX11_workOut_91 rfl 1 rfl rfl ?_
    refine z_iconst (v := 1) (pc' := 93) C dX11_workOut_92 (by decide) rfl ?_
    refine z_aload_n (pc' := 94) C dX11_workOut_93 rfl 0 rfl rfl ?_
    refine zgX11_189 (pc' := 97) C zo22 dX11_workOut_94 rfl ?_
    refine z_ishl (pc' := 98) C dX11_workOut_97 rfl ?_
    obtain ⟨ht, hf⟩ := h
    refine z_icmp_ge (tgt := 255) (pc' := 101) C dX11_workOut_98 (by decide) rfl (fun c7 => ?_) (fun c7 => ?_)
    · have h := ht c7
      refine z_iconst (v := 1) (pc' := 256) C dX11_workOut_255 (by decide) rfl ?_
      exact z_zret C rfl dX11_workOut_256 h
    · have h := hf c7
      refine z_iconst (v := 0) (pc' := 102) C dX11_workOut_101 (by decide) rfl ?_
      refine z_istore_n (pc' := 103) (lv' := [(2, .int 0), (0, .ref (E.2.2 22 0)), (1, .int x1)]) C dX11_workOut_102 rfl (by decide) rfl rfl ?_
      obtain ⟨n8, h⟩ := h
      refine z_sub (lv' := [(0, .ref (E.2.2 22 0)), (1, .int x1), (2, .int 0)]) [1, 2, 0] rfl ?_
      exact sl_X11_workOut_103 C x1 Q (fun y0 y1 h => ih y0 y1 h) n8 _ _ h
set_option maxHeartbeats 4000000 in
set_option maxRecDepth 100000 in
theorem sl_X11_workOut_70 {p : Program} {l : Launch} {e : Env} {s : State} {m : MethodId} {args : Array Value} {below : List Frame} {meth : Method} {c : Code} {E : zE} (C : zX p s m args meth c cX11_workOut 4 RX11 (some .boolean) E) (Q : Int32 → zMem → Prop) : ∀ (n : Nat) (σ : zMem) (x1 : Int32), vc_X11_workOut_70 Q n σ x1 → zG p l e (zRm 3 67) s m args below meth c 4 E 0 0 (MQ below (va_Qi Q (zPost E) (zA E s.heap.size)) args s 0 0 (zA E s.heap.size)) σ 70 [(0, .ref (E.2.2 22 0)), (1, .int x1)] [] := by
  intro n
  induction n with
  | zero =>
    intro σ x1 h
    exact False.elim h
  | succ n ih =>
    intro σ x1 h
    rw [vc_X11_workOut_70] at h
    refine z_iload_n (pc' := 71) C dX11_workOut_70 rfl 1 rfl rfl ?_
    refine z_bipush (v := 24) (pc' := 73) C dX11_workOut_71 (by decide) rfl ?_
    obtain ⟨ht, hf⟩ := h
    refine z_icmp_ge (tgt := 89) (pc' := 76) C dX11_workOut_73 (by decide) rfl (fun c5 => ?_) (fun c5 => ?_)
    · have h := ht c5
      refine z_iconst (v := 1) (pc' := 90) C dX11_workOut_89 (by decide) rfl ?_
      refine z_istore_n (pc' := 91) (lv' := [(1, .int 1), (0, .ref (E.2.2 22 0))]) C dX11_workOut_90 rfl (by decide) rfl rfl ?_
      obtain ⟨n6, h⟩ := h
      refine z_sub (lv' := [(0, .ref (E.2.2 22 0)), (1, .int 1)]) [1, 0] rfl ?_
      exact sl_X11_workOut_91 C Q n6 _ _ h
    · have h := hf c5
      refine z_aload_n (pc' := 77) C dX11_workOut_76 rfl 0 rfl rfl ?_
      refine zgX11_69 (pc' := 80) C zo22 dX11_workOut_77 rfl ?_
      refine z_iload_n (pc' := 81) C dX11_workOut_80 rfl 1 rfl rfl ?_
      refine z_iconst (v := 0) (pc' := 82) C dX11_workOut_81 (by decide) rfl ?_
      obtain ⟨hv29, h⟩ := h
      refine z_zast (n := 24) (pc' := 83) C (zL_mem (by decide) zo41) (fun _ => rfl) hv29 dX11_workOut_82 rfl ?_
      refine z_iinc (j := 1) (v := x1 + 1) (pc' := 86) (lv' := [(1, .int (x1 + 1)), (0, .ref (E.2.2 22 0))]) C dX11_workOut_83 rfl rfl (by decide) rfl rfl ?_
      refine z_goto (tgt := 70) C dX11_workOut_86 (by decide) ?_
      refine z_sub (lv' := [(0, .ref (E.2.2 22 0)), (1, .int (x1 + 1))]) [1, 0] rfl ?_
      exact ih _ _ h
set_option maxHeartbeats 4000000 in
set_option maxRecDepth 100000 in
theorem sl_X11_workOut_7 {p : Program} {l : Launch} {e : Env} {s : State} {m : MethodId} {args : Array Value} {below : List Frame} {meth : Method} {c : Code} {E : zE} (C : zX p s m args meth c cX11_workOut 4 RX11 (some .boolean) E) (Q : Int32 → zMem → Prop) : ∀ (n : Nat) (σ : zMem) (x1 : Int32), vc_X11_workOut_7 Q n σ x1 → zG p l e (zRm 3 67) s m args below meth c 4 E 0 0 (MQ below (va_Qi Q (zPost E) (zA E s.heap.size)) args s 0 0 (zA E s.heap.size)) σ 7 [(0, .ref (E.2.2 22 0)), (1, .int x1)] [] := by
  intro n
  induction n with
  | zero =>
    intro σ x1 h
    exact False.elim h
  | succ n ih =>
    intro σ x1 h
    rw [vc_X11_workOut_7] at h
    refine z_iload_n (pc' := 8) C dX11_workOut_7 rfl 1 rfl rfl ?_
    refine z_bipush (v := 24) (pc' := 10) C dX11_workOut_8 (by decide) rfl ?_
    obtain ⟨ht, hf⟩ := h
    refine z_icmp_ge (tgt := 61) (pc' := 13) C dX11_workOut_10 (by decide) rfl (fun c2 => ?_) (fun c2 => ?_)
    · have h := ht c2
      refine z_aload_n (pc' := 62) C dX11_workOut_61 rfl 0 rfl rfl ?_
      refine zgX11_75 (pc' := 65) C zo22 dX11_workOut_62 rfl ?_
      refine z_iconst (v := 0) (pc' := 66) C dX11_workOut_65 (by decide) rfl ?_
      refine z_iconst (v := 0) (pc' := 67) C dX11_workOut_66 (by decide) rfl ?_
      obtain ⟨hv3, h⟩ := h
      refine z_iast (n := 64) (pc' := 68) C (zL_mem (by decide) zo43) (fun _ => rfl) hv3 dX11_workOut_67 rfl ?_
      refine z_iconst (v := 0) (pc' := 69) C dX11_workOut_68 (by decide) rfl ?_
      refine z_istore_n (pc' := 70) (lv' := [(1, .int 0), (0, .ref (E.2.2 22 0))]) C dX11_workOut_69 rfl (by decide) rfl rfl ?_
      obtain ⟨n4, h⟩ := h
      refine z_sub (lv' := [(0, .ref (E.2.2 22 0)), (1, .int 0)]) [1, 0] rfl ?_
      exact sl_X11_workOut_70 C Q n4 _ _ h
    · have h := hf c2
      refine z_aload_n (pc' := 14) C dX11_workOut_13 rfl 0 rfl rfl ?_
      refine z_iload_n (pc' := 15) C dX11_workOut_14 rfl 1 rfl rfl ?_
      refine z_callVi (q := 22) (i := 0) (w9 := (RX11, TX11, 40)) (pc' := 18) (st := []) (As := [.int x1]) C (sc_X11_stands l E σ x1 _ h) zwX11_136_X11_stands zvX11_136_X11_stands.1 zvX11_136_X11_stands.2 (zL_mem (by decide) zo22) rfl rfl ⟨(Nat.le_of_ble_eq_true rfl), (Nat.le_of_ble_eq_true rfl)⟩ ⟨Nat.zero_le _, Nat.zero_le _⟩ rfl rfl (Nat.le_of_ble_eq_true rfl) dX11_workOut_15 rfl (fun r31 σ30 h => ?_)
      obtain ⟨ht, hf⟩ := h
      refine z_if_ne (tgt := 24) (pc' := 21) C dX11_workOut_18 (by decide) rfl (fun c32 => ?_) (fun c32 => ?_)
      · have h := ht c32
        refine z_aload_n (pc' := 25) C dX11_workOut_24 rfl 0 rfl rfl ?_
        refine zgX11_189 (pc' := 28) C zo22 dX11_workOut_25 rfl ?_
        refine z_bipush (v := 6) (pc' := 30) C dX11_workOut_28 (by decide) rfl ?_
        obtain ⟨ht, hf⟩ := h
        refine z_icmp_ne (tgt := 35) (pc' := 33) C dX11_workOut_30 (by decide) rfl (fun c33 => ?_) (fun c33 => ?_)
        · have h := ht c33
          refine z_aload_n (pc' := 36) C dX11_workOut_35 rfl 0 rfl rfl ?_
          refine zgX11_72 (pc' := 39) C zo22 dX11_workOut_36 rfl ?_
          refine z_aload_n (pc' := 40) C dX11_workOut_39 rfl 0 rfl rfl ?_
          refine zgX11_189 (pc' := 43) C zo22 dX11_workOut_40 rfl ?_
          refine z_iload_n (pc' := 44) C dX11_workOut_43 rfl 1 rfl rfl ?_
          obtain ⟨hv34, h⟩ := h
          refine z_iast (n := 6) (pc' := 45) C (zL_mem (by decide) zo42) (fun _ => rfl) hv34 dX11_workOut_44 rfl ?_
          refine z_aload_n (pc' := 46) C dX11_workOut_45 rfl 0 rfl rfl ?_
          refine z_dup (pc' := 47) C dX11_workOut_46 rfl rfl ?_
          refine zgX11_189 (pc' := 50) C zo22 dX11_workOut_47 rfl ?_
          refine z_iconst (v := 1) (pc' := 51) C dX11_workOut_50 (by decide) rfl ?_
          refine z_iadd (pc' := 52) C dX11_workOut_51 rfl ?_
          refine zpX11_189 (pc' := 55) C zo22 dX11_workOut_52 rfl ?_
          refine z_iinc (j := 1) (v := x1 + 1) (pc' := 58) (lv' := [(1, .int (x1 + 1)), (0, .ref (E.2.2 22 0))]) C dX11_workOut_55 rfl rfl (by decide) rfl rfl ?_
          refine z_goto (tgt := 7) C dX11_workOut_58 (by decide) ?_
          refine z_sub (lv' := [(0, .ref (E.2.2 22 0)), (1, .int (x1 + 1))]) [1, 0] rfl ?_
          exact ih _ _ h
        · have h := hf c33
          refine z_iconst (v := 0) (pc' := 34) C dX11_workOut_33 (by decide) rfl ?_
          exact z_zret C rfl dX11_workOut_34 h
      · have h := hf c32
        refine z_goto (tgt := 55) C dX11_workOut_21 (by decide) ?_
        refine z_iinc (j := 1) (v := x1 + 1) (pc' := 58) (lv' := [(1, .int (x1 + 1)), (0, .ref (E.2.2 22 0))]) C dX11_workOut_55 rfl rfl (by decide) rfl rfl ?_
        refine z_goto (tgt := 7) C dX11_workOut_58 (by decide) ?_
        refine z_sub (lv' := [(0, .ref (E.2.2 22 0)), (1, .int (x1 + 1))]) [1, 0] rfl ?_
        exact ih _ _ h
set_option maxHeartbeats 4000000 in
set_option maxRecDepth 100000 in
theorem sc_X11_workOut (l : Launch) (E : zE) (σ : zMem) (Q : Int32 → zMem → Prop) (h : vc_X11_workOut σ Q) : zMi l yX11_workOut cX11_workOut 4 .boolean 3 67 E [.ref (E.2.2 22 0)] σ Q := by
  refine zMi_of (by decide) (Nat.le_of_ble_eq_true rfl) ?_
  intro p e s m args below meth c C
  unfold vc_X11_workOut at h
  have fin : zG p l e (zRm 3 67) s m args below meth c 4 E 0 0 (MQ below (va_Qi Q (zPost E) (zA E s.heap.size)) args s 0 0 (zA E s.heap.size)) σ 0 [(0, .ref (E.2.2 22 0))] [] := by
    refine z_aload_n (pc' := 1) C dX11_workOut_0 rfl 0 rfl rfl ?_
    refine z_iconst (v := 0) (pc' := 2) C dX11_workOut_1 (by decide) rfl ?_
    refine zpX11_189 (pc' := 5) C zo22 dX11_workOut_2 rfl ?_
    refine z_iconst (v := 0) (pc' := 6) C dX11_workOut_5 (by decide) rfl ?_
    refine z_istore_n (pc' := 7) (lv' := [(1, .int 0), (0, .ref (E.2.2 22 0))]) C dX11_workOut_6 rfl (by decide) rfl rfl ?_
    obtain ⟨n1, h⟩ := h
    refine z_sub (lv' := [(0, .ref (E.2.2 22 0)), (1, .int 0)]) [1, 0] rfl ?_
    exact sl_X11_workOut_7 C Q n1 _ _ h
  exact fin
def vc_X11_best (σ : zMem) (Q : Int32 → zMem → Prop) : Prop := vc_X11_workOut σ (fun r2 σ1 => ((r2 = 0) → Q ((-5)) σ1) ∧ ((¬ r2 = 0) → vp_in ((1 <<< ((σ1 22 0 25) &&& 31)) - 1) 64 ∧ Q (σ1 43 0 ((1 <<< ((σ1 22 0 25) &&& 31)) - 1).toNatClampNeg) σ1))
set_option maxHeartbeats 4000000 in
set_option maxRecDepth 100000 in
theorem sc_X11_best (l : Launch) (E : zE) (σ : zMem) (Q : Int32 → zMem → Prop) (h : vc_X11_best σ Q) : zMi l yX11_best cX11_best 1 .int 4 90 E [.ref (E.2.2 22 0)] σ Q := by
  refine zMi_of (by decide) (Nat.le_of_ble_eq_true rfl) ?_
  intro p e s m args below meth c C
  unfold vc_X11_best at h
  have fin : zG p l e (zRm 4 90) s m args below meth c 1 E 0 0 (MQ below (va_Qi Q (zPost E) (zA E s.heap.size)) args s 0 0 (zA E s.heap.size)) σ 0 [(0, .ref (E.2.2 22 0))] [] := by
    refine z_aload_n (pc' := 1) C dX11_best_0 rfl 0 rfl rfl ?_
    refine z_callVi (q := 22) (i := 0) (w9 := (RX11, TX11, 40)) (pc' := 4) (st := []) (As := []) C (sc_X11_workOut l E σ  _ h) zwX11_192_X11_workOut zvX11_192_X11_workOut.1 zvX11_192_X11_workOut.2 (zL_mem (by decide) zo22) rfl rfl ⟨(Nat.le_of_ble_eq_true rfl), (Nat.le_of_ble_eq_true rfl)⟩ ⟨Nat.zero_le _, Nat.zero_le _⟩ rfl rfl (Nat.le_of_ble_eq_true rfl) dX11_best_1 rfl (fun r2 σ1 h => ?_)
    obtain ⟨ht, hf⟩ := h
    refine z_if_eq (tgt := 23) (pc' := 7) C dX11_best_4 (by decide) rfl (fun c3 => ?_) (fun c3 => ?_)
    · have h := ht c3
      refine z_bipush (v := (-5)) (pc' := 25) C dX11_best_23 (by decide) rfl ?_
      exact z_iret C dX11_best_25 h
    · have h := hf c3
      refine z_aload_n (pc' := 8) C dX11_best_7 rfl 0 rfl rfl ?_
      refine zgX11_75 (pc' := 11) C zo22 dX11_best_8 rfl ?_
      refine z_iconst (v := 1) (pc' := 12) C dX11_best_11 (by decide) rfl ?_
      refine z_aload_n (pc' := 13) C dX11_best_12 rfl 0 rfl rfl ?_
      refine zgX11_189 (pc' := 16) C zo22 dX11_best_13 rfl ?_
      refine z_ishl (pc' := 17) C dX11_best_16 rfl ?_
      refine z_iconst (v := 1) (pc' := 18) C dX11_best_17 (by decide) rfl ?_
      refine z_isub (pc' := 19) C dX11_best_18 rfl ?_
      obtain ⟨hv4, h⟩ := h
      refine z_iald (n := 64) (pc' := 20) C (zL_mem (by decide) zo43) (fun _ => rfl) hv4 dX11_best_19 rfl ?_
      refine z_goto (tgt := 25) C dX11_best_20 (by decide) ?_
      exact z_iret C dX11_best_25 h
  exact fin
def vc_X11_order_49 (x1 : Int32) (x2 : Int32) (x4 : Int32) (Q : Int32 → zMem → Prop) (K41 : zMem → Int32 → Int32 → Int32 → Prop) : Nat → zMem → Int32 → Prop
  | 0, _, _ => False
  | n + 1, σ, x3 => ((((x2 >>> (x3 &&& 31)) &&& 1) = 0) → vc_X11_order_49 x1 x2 x4 Q K41 n σ (x3 + 1)) ∧ ((¬ ((x2 >>> (x3 &&& 31)) &&& 1) = 0) → vp_in ((6 * x2) + x3) 384 ∧ vp_in (x2 &&& ((1 <<< (x3 &&& 31)) ^^^ ((-1)))) 64 ∧ vp_in x2 64 ∧ ((((σ 44 0 ((6 * x2) + x3).toNatClampNeg) + (σ 43 0 (x2 &&& ((1 <<< (x3 &&& 31)) ^^^ ((-1)))).toNatClampNeg)) = (σ 43 0 x2.toNatClampNeg)) → K41 σ (x2 &&& ((1 <<< (x3 &&& 31)) ^^^ ((-1)))) x3 (x4 + 1)) ∧ ((¬ ((σ 44 0 ((6 * x2) + x3).toNatClampNeg) + (σ 43 0 (x2 &&& ((1 <<< (x3 &&& 31)) ^^^ ((-1)))).toNatClampNeg)) = (σ 43 0 x2.toNatClampNeg)) → vc_X11_order_49 x1 x2 x4 Q K41 n σ (x3 + 1)))
def vc_X11_order_41 (x1 : Int32) (Q : Int32 → zMem → Prop) : Nat → zMem → Int32 → Int32 → Int32 → Prop
  | 0, _, _, _, _ => False
  | n + 1, σ, x2, x3, x4 => ((x1 < x4) → vp_in x3 6 ∧ Q (σ 42 0 x3.toNatClampNeg) σ) ∧ ((¬ x1 < x4) → ∃ n9, vc_X11_order_49 x1 x2 x4 Q (vc_X11_order_41 x1 Q n) n9 σ 0)
def vc_X11_order (σ : zMem) (a0 : Int32) (Q : Int32 → zMem → Prop) : Prop := ((0 ≤ a0) → vc_X11_workOut σ (fun r3 σ2 => ((¬ r3 = 0) → ((a0 < (σ2 22 0 25)) → ∃ n6, vc_X11_order_41 a0 Q n6 σ2 ((1 <<< ((σ2 22 0 25) &&& 31)) - 1) 0 0) ∧ ((¬ a0 < (σ2 22 0 25)) → Q ((-3)) σ2)) ∧ ((r3 = 0) → Q ((-5)) σ2))) ∧ ((¬ 0 ≤ a0) → Q ((-1)) σ)
set_option maxHeartbeats 4000000 in
set_option maxRecDepth 100000 in
theorem sl_X11_order_49 {p : Program} {l : Launch} {e : Env} {s : State} {m : MethodId} {args : Array Value} {below : List Frame} {meth : Method} {c : Code} {E : zE} (C : zX p s m args meth c cX11_order 5 RX11 (some .int) E) (x1 : Int32) (x2 : Int32) (x4 : Int32) (Q : Int32 → zMem → Prop) {K41 : zMem → Int32 → Int32 → Int32 → Prop} (hK41 : ∀ (σ : zMem) (y2 : Int32) (y3 : Int32) (y4 : Int32), K41 σ y2 y3 y4 → zG p l e (zRm 4 90) s m args below meth c 5 E 0 0 (MQ below (va_Qi Q (zPost E) (zA E s.heap.size)) args s 0 0 (zA E s.heap.size)) σ 41 [(0, .ref (E.2.2 22 0)), (1, .int x1), (2, .int y2), (3, .int y3), (4, .int y4)] []) : ∀ (n : Nat) (σ : zMem) (x3 : Int32), vc_X11_order_49 x1 x2 x4 Q K41 n σ x3 → zG p l e (zRm 4 90) s m args below meth c 5 E 0 0 (MQ below (va_Qi Q (zPost E) (zA E s.heap.size)) args s 0 0 (zA E s.heap.size)) σ 49 [(0, .ref (E.2.2 22 0)), (1, .int x1), (2, .int x2), (3, .int x3), (4, .int x4)] [] := by
  intro n
  induction n with
  | zero =>
    intro σ x3 h
    exact False.elim h
  | succ n ih =>
    intro σ x3 h
    rw [vc_X11_order_49] at h
    refine z_iload_n (pc' := 50) C dX11_order_49 rfl 2 rfl rfl ?_
    refine z_iload_n (pc' := 51) C dX11_order_50 rfl 3 rfl rfl ?_
    refine z_ishr (pc' := 52) C dX11_order_51 rfl ?_
    refine z_iconst (v := 1) (pc' := 53) C dX11_order_52 (by decide) rfl ?_
    refine z_iand (pc' := 54) C dX11_order_53 rfl ?_
    obtain ⟨ht, hf⟩ := h
    refine z_if_eq (tgt := 90) (pc' := 57) C dX11_order_54 (by decide) rfl (fun c10 => ?_) (fun c10 => ?_)
    · have h := ht c10
      refine z_iinc (j := 3) (v := x3 + 1) (pc' := 93) (lv' := [(3, .int (x3 + 1)), (0, .ref (E.2.2 22 0)), (1, .int x1), (2, .int x2), (4, .int x4)]) C dX11_order_90 rfl rfl (by decide) rfl rfl ?_
      refine z_goto (tgt := 49) C dX11_order_93 (by decide) ?_
      refine z_sub (lv' := [(0, .ref (E.2.2 22 0)), (1, .int x1), (2, .int x2), (3, .int (x3 + 1)), (4, .int x4)]) [1, 2, 3, 0, 4] rfl ?_
      exact ih _ _ h
    · have h := hf c10
      refine z_aload_n (pc' := 58) C dX11_order_57 rfl 0 rfl rfl ?_
      refine zgX11_78 (pc' := 61) C zo22 dX11_order_58 rfl ?_
      refine z_bipush (v := 6) (pc' := 63) C dX11_order_61 (by decide) rfl ?_
      refine z_iload_n (pc' := 64) C dX11_order_63 rfl 2 rfl rfl ?_
      refine z_imul (pc' := 65) C dX11_order_64 rfl ?_
      refine z_iload_n (pc' := 66) C dX11_order_65 rfl 3 rfl rfl ?_
      refine z_iadd (pc' := 67) C dX11_order_66 rfl ?_
      obtain ⟨hv11, h⟩ := h
      refine z_iald (n := 384) (pc' := 68) C (zL_mem (by decide) zo44) (fun _ => rfl) hv11 dX11_order_67 rfl ?_
      refine z_aload_n (pc' := 69) C dX11_order_68 rfl 0 rfl rfl ?_
      refine zgX11_75 (pc' := 72) C zo22 dX11_order_69 rfl ?_
      refine z_iload_n (pc' := 73) C dX11_order_72 rfl 2 rfl rfl ?_
      refine z_iconst (v := 1) (pc' := 74) C dX11_order_73 (by decide) rfl ?_
      refine z_iload_n (pc' := 75) C dX11_order_74 rfl 3 rfl rfl ?_
      refine z_ishl (pc' := 76) C dX11_order_75 rfl ?_
      refine z_iconst (v := (-1)) (pc' := 77) C dX11_order_76 (by decide) rfl ?_
      refine z_ixor (pc' := 78) C dX11_order_77 rfl ?_
      refine z_iand (pc' := 79) C dX11_order_78 rfl ?_
      obtain ⟨hv12, h⟩ := h
      refine z_iald (n := 64) (pc' := 80) C (zL_mem (by decide) zo43) (fun _ => rfl) hv12 dX11_order_79 rfl ?_
      refine z_iadd (pc' := 81) C dX11_order_80 rfl ?_
      refine z_aload_n (pc' := 82) C dX11_order_81 rfl 0 rfl rfl ?_
      refine zgX11_75 (pc' := 85) C zo22 dX11_order_82 rfl ?_
      refine z_iload_n (pc' := 86) C dX11_order_85 rfl 2 rfl rfl ?_
      obtain ⟨hv13, h⟩ := h
      refine z_iald (n := 64) (pc' := 87) C (zL_mem (by decide) zo43) (fun _ => rfl) hv13 dX11_order_86 rfl ?_
      obtain ⟨ht, hf⟩ := h
      refine z_icmp_eq (tgt := 96) (pc' := 90) C dX11_order_87 (by decide) rfl (fun c14 => ?_) (fun c14 => ?_)
      · have h := ht c14
        refine z_iload_n (pc' := 97) C dX11_order_96 rfl 2 rfl rfl ?_
        refine z_iconst (v := 1) (pc' := 98) C dX11_order_97 (by decide) rfl ?_
        refine z_iload_n (pc' := 99) C dX11_order_98 rfl 3 rfl rfl ?_
        refine z_ishl (pc' := 100) C dX11_order_99 rfl ?_
        refine z_iconst (v := (-1)) (pc' := 101) C dX11_order_100 (by decide) rfl ?_
        refine z_ixor (pc' := 102) C dX11_order_101 rfl ?_
        refine z_iand (pc' := 103) C dX11_order_102 rfl ?_
        refine z_istore_n (pc' := 104) (lv' := [(2, .int (x2 &&& ((1 <<< (x3 &&& 31)) ^^^ ((-1))))), (0, .ref (E.2.2 22 0)), (1, .int x1), (3, .int x3), (4, .int x4)]) C dX11_order_103 rfl (by decide) rfl rfl ?_
        refine z_iinc (j := 4) (v := x4 + 1) (pc' := 107) (lv' := [(4, .int (x4 + 1)), (2, .int (x2 &&& ((1 <<< (x3 &&& 31)) ^^^ ((-1))))), (0, .ref (E.2.2 22 0)), (1, .int x1), (3, .int x3)]) C dX11_order_104 rfl rfl (by decide) rfl rfl ?_
        refine z_goto (tgt := 41) C dX11_order_107 (by decide) ?_
        refine z_sub (lv' := [(0, .ref (E.2.2 22 0)), (1, .int x1), (2, .int (x2 &&& ((1 <<< (x3 &&& 31)) ^^^ ((-1))))), (3, .int x3), (4, .int (x4 + 1))]) [2, 3, 1, 4, 0] rfl ?_
        exact hK41 _ _ _ _ h
      · have h := hf c14
        refine z_iinc (j := 3) (v := x3 + 1) (pc' := 93) (lv' := [(3, .int (x3 + 1)), (0, .ref (E.2.2 22 0)), (1, .int x1), (2, .int x2), (4, .int x4)]) C dX11_order_90 rfl rfl (by decide) rfl rfl ?_
        refine z_goto (tgt := 49) C dX11_order_93 (by decide) ?_
        refine z_sub (lv' := [(0, .ref (E.2.2 22 0)), (1, .int x1), (2, .int x2), (3, .int (x3 + 1)), (4, .int x4)]) [1, 2, 3, 0, 4] rfl ?_
        exact ih _ _ h
set_option maxHeartbeats 4000000 in
set_option maxRecDepth 100000 in
theorem sl_X11_order_41 {p : Program} {l : Launch} {e : Env} {s : State} {m : MethodId} {args : Array Value} {below : List Frame} {meth : Method} {c : Code} {E : zE} (C : zX p s m args meth c cX11_order 5 RX11 (some .int) E) (x1 : Int32) (Q : Int32 → zMem → Prop) : ∀ (n : Nat) (σ : zMem) (x2 : Int32) (x3 : Int32) (x4 : Int32), vc_X11_order_41 x1 Q n σ x2 x3 x4 → zG p l e (zRm 4 90) s m args below meth c 5 E 0 0 (MQ below (va_Qi Q (zPost E) (zA E s.heap.size)) args s 0 0 (zA E s.heap.size)) σ 41 [(0, .ref (E.2.2 22 0)), (1, .int x1), (2, .int x2), (3, .int x3), (4, .int x4)] [] := by
  intro n
  induction n with
  | zero =>
    intro σ x2 x3 x4 h
    exact False.elim h
  | succ n ih =>
    intro σ x2 x3 x4 h
    rw [vc_X11_order_41] at h
    refine z_iload (pc' := 43) C dX11_order_41 4 rfl rfl ?_
    refine z_iload_n (pc' := 44) C dX11_order_43 rfl 1 rfl rfl ?_
    obtain ⟨ht, hf⟩ := h
    refine z_icmp_gt (tgt := 110) (pc' := 47) C dX11_order_44 (by decide) rfl (fun c7 => ?_) (fun c7 => ?_)
    · have h := ht c7
      refine z_aload_n (pc' := 111) C dX11_order_110 rfl 0 rfl rfl ?_
      refine zgX11_72 (pc' := 114) C zo22 dX11_order_111 rfl ?_
      refine z_iload_n (pc' := 115) C dX11_order_114 rfl 3 rfl rfl ?_
      obtain ⟨hv8, h⟩ := h
      refine z_iald (n := 6) (pc' := 116) C (zL_mem (by decide) zo42) (fun _ => rfl) hv8 dX11_order_115 rfl ?_
      exact z_iret C dX11_order_116 h
    · have h := hf c7
      refine z_iconst (v := 0) (pc' := 48) C dX11_order_47 (by decide) rfl ?_
      refine z_istore_n (pc' := 49) (lv' := [(3, .int 0), (0, .ref (E.2.2 22 0)), (1, .int x1), (2, .int x2), (4, .int x4)]) C dX11_order_48 rfl (by decide) rfl rfl ?_
      obtain ⟨n9, h⟩ := h
      refine z_sub (lv' := [(0, .ref (E.2.2 22 0)), (1, .int x1), (2, .int x2), (3, .int 0), (4, .int x4)]) [1, 2, 3, 0, 4] rfl ?_
      exact sl_X11_order_49 C x1 x2 x4 Q (fun y0 y1 y2 y3 h => ih y0 y1 y2 y3 h) n9 _ _ h
set_option maxHeartbeats 4000000 in
set_option maxRecDepth 100000 in
theorem sc_X11_order (l : Launch) (E : zE) (σ : zMem) (a0 : Int32) (Q : Int32 → zMem → Prop) (h : vc_X11_order σ a0 Q) : zMi l yX11_order cX11_order 5 .int 4 90 E [.ref (E.2.2 22 0), .int a0] σ Q := by
  refine zMi_of (by decide) (Nat.le_of_ble_eq_true rfl) ?_
  intro p e s m args below meth c C
  unfold vc_X11_order at h
  have fin : zG p l e (zRm 4 90) s m args below meth c 5 E 0 0 (MQ below (va_Qi Q (zPost E) (zA E s.heap.size)) args s 0 0 (zA E s.heap.size)) σ 0 [(0, .ref (E.2.2 22 0)), (1, .int a0)] [] := by
    refine z_iload_n (pc' := 1) C dX11_order_0 rfl 1 rfl rfl ?_
    obtain ⟨ht, hf⟩ := h
    refine z_if_ge (tgt := 6) (pc' := 4) C dX11_order_1 (by decide) rfl (fun c1 => ?_) (fun c1 => ?_)
    · have h := ht c1
      refine z_aload_n (pc' := 7) C dX11_order_6 rfl 0 rfl rfl ?_
      refine z_callVi (q := 22) (i := 0) (w9 := (RX11, TX11, 40)) (pc' := 10) (st := []) (As := []) C (sc_X11_workOut l E σ  _ h) zwX11_192_X11_workOut zvX11_192_X11_workOut.1 zvX11_192_X11_workOut.2 (zL_mem (by decide) zo22) rfl rfl ⟨(Nat.le_of_ble_eq_true rfl), (Nat.le_of_ble_eq_true rfl)⟩ ⟨Nat.zero_le _, Nat.zero_le _⟩ rfl rfl (Nat.le_of_ble_eq_true rfl) dX11_order_7 rfl (fun r3 σ2 h => ?_)
      obtain ⟨ht, hf⟩ := h
      refine z_if_ne (tgt := 16) (pc' := 13) C dX11_order_10 (by decide) rfl (fun c4 => ?_) (fun c4 => ?_)
      · have h := ht c4
        refine z_iload_n (pc' := 17) C dX11_order_16 rfl 1 rfl rfl ?_
        refine z_aload_n (pc' := 18) C dX11_order_17 rfl 0 rfl rfl ?_
        refine zgX11_189 (pc' := 21) C zo22 dX11_order_18 rfl ?_
        obtain ⟨ht, hf⟩ := h
        refine z_icmp_lt (tgt := 27) (pc' := 24) C dX11_order_21 (by decide) rfl (fun c5 => ?_) (fun c5 => ?_)
        · have h := ht c5
          refine z_iconst (v := 1) (pc' := 28) C dX11_order_27 (by decide) rfl ?_
          refine z_aload_n (pc' := 29) C dX11_order_28 rfl 0 rfl rfl ?_
          refine zgX11_189 (pc' := 32) C zo22 dX11_order_29 rfl ?_
          refine z_ishl (pc' := 33) C dX11_order_32 rfl ?_
          refine z_iconst (v := 1) (pc' := 34) C dX11_order_33 (by decide) rfl ?_
          refine z_isub (pc' := 35) C dX11_order_34 rfl ?_
          refine z_istore_n (pc' := 36) (lv' := [(2, .int ((1 <<< ((σ2 22 0 25) &&& 31)) - 1)), (0, .ref (E.2.2 22 0)), (1, .int a0)]) C dX11_order_35 rfl (by decide) rfl rfl ?_
          refine z_iconst (v := 0) (pc' := 37) C dX11_order_36 (by decide) rfl ?_
          refine z_istore_n (pc' := 38) (lv' := [(3, .int 0), (2, .int ((1 <<< ((σ2 22 0 25) &&& 31)) - 1)), (0, .ref (E.2.2 22 0)), (1, .int a0)]) C dX11_order_37 rfl (by decide) rfl rfl ?_
          refine z_iconst (v := 0) (pc' := 39) C dX11_order_38 (by decide) rfl ?_
          refine z_istore (pc' := 41) (lv' := [(4, .int 0), (3, .int 0), (2, .int ((1 <<< ((σ2 22 0 25) &&& 31)) - 1)), (0, .ref (E.2.2 22 0)), (1, .int a0)]) C dX11_order_39 (by decide) rfl rfl ?_
          obtain ⟨n6, h⟩ := h
          refine z_sub (lv' := [(0, .ref (E.2.2 22 0)), (1, .int a0), (2, .int ((1 <<< ((σ2 22 0 25) &&& 31)) - 1)), (3, .int 0), (4, .int 0)]) [3, 4, 2, 1, 0] rfl ?_
          exact sl_X11_order_41 C a0 Q n6 _ _ _ _ h
        · have h := hf c5
          refine z_bipush (v := (-3)) (pc' := 26) C dX11_order_24 (by decide) rfl ?_
          exact z_iret C dX11_order_26 h
      · have h := hf c4
        refine z_bipush (v := (-5)) (pc' := 15) C dX11_order_13 (by decide) rfl ?_
        exact z_iret C dX11_order_15 h
    · have h := hf c1
      refine z_iconst (v := (-1)) (pc' := 5) C dX11_order_4 (by decide) rfl ?_
      exact z_iret C dX11_order_5 h
  exact fin
def vc_X11_dries_20 (Q : Int32 → zMem → Prop) : Nat → zMem → Int32 → Int32 → Prop
  | 0, _, _, _ => False
  | n + 1, σ, x2, x3 => ((30 < x3) → Q ((-4)) (um σ 22 0 29 0)) ∧ ((¬ 30 < x3) → vp_in x3 31 ∧ (((σ 39 0 x3.toNatClampNeg) = 0) → ((¬ (x2 + 1) = 3) → vc_X11_dries_20 Q n σ (x2 + 1) (x3 + 1)) ∧ (((x2 + 1) = 3) → Q x3 σ)) ∧ ((¬ (σ 39 0 x3.toNatClampNeg) = 0) → ((x2 ≤ 0) → vc_X11_dries_20 Q n (um σ 22 0 29 ((σ 22 0 29) - ((σ 22 0 29) / 10))) (x2 - 0) (x3 + 1)) ∧ ((¬ x2 ≤ 0) → vc_X11_dries_20 Q n (um σ 22 0 29 ((σ 22 0 29) - ((σ 22 0 29) / 10))) (x2 - 1) (x3 + 1))))
def vc_X11_dries (σ : zMem) (a0 : Int32) (Q : Int32 → zMem → Prop) : Prop := vc_X11_hayOf σ a0 (fun r2 σ1 => vp_in a0 24 ∧ ∃ n4, vc_X11_dries_20 Q n4 (um σ1 22 0 29 r2) 0 (((um σ1 22 0 29 r2) 30 0 a0.toNatClampNeg) + 1))
set_option maxHeartbeats 4000000 in
set_option maxRecDepth 100000 in
theorem sl_X11_dries_20 {p : Program} {l : Launch} {e : Env} {s : State} {m : MethodId} {args : Array Value} {below : List Frame} {meth : Method} {c : Code} {E : zE} (C : zX p s m args meth c cX11_dries 4 RX11 (some .int) E) (Q : Int32 → zMem → Prop) : ∀ (n : Nat) (σ : zMem) (x2 : Int32) (x3 : Int32), vc_X11_dries_20 Q n σ x2 x3 → zG p l e (zRm 2 41) s m args below meth c 4 E 0 0 (MQ below (va_Qi Q (zPost E) (zA E s.heap.size)) args s 0 0 (zA E s.heap.size)) σ 20 [(0, .ref (E.2.2 22 0)), (2, .int x2), (3, .int x3)] [] := by
  intro n
  induction n with
  | zero =>
    intro σ x2 x3 h
    exact False.elim h
  | succ n ih =>
    intro σ x2 x3 h
    rw [vc_X11_dries_20] at h
    refine z_iload_n (pc' := 21) C dX11_dries_20 rfl 2 rfl rfl ?_
    refine z_bipush (v := 30) (pc' := 23) C dX11_dries_21 (by decide) rfl ?_
    obtain ⟨ht, hf⟩ := h
    refine z_icmp_gt (tgt := 82) (pc' := 26) C dX11_dries_23 (by decide) rfl (fun c5 => ?_) (fun c5 => ?_)
    · have h := ht c5
      refine z_aload_n (pc' := 83) C dX11_dries_82 rfl 0 rfl rfl ?_
      refine z_iconst (v := 0) (pc' := 84) C dX11_dries_83 (by decide) rfl ?_
      refine zpX11_196 (pc' := 87) C zo22 dX11_dries_84 rfl ?_
      refine z_bipush (v := (-4)) (pc' := 89) C dX11_dries_87 (by decide) rfl ?_
      exact z_iret C dX11_dries_89 h
    · have h := hf c5
      refine z_aload_n (pc' := 27) C dX11_dries_26 rfl 0 rfl rfl ?_
      refine zgX11_63 (pc' := 30) C zo22 dX11_dries_27 rfl ?_
      refine z_iload_n (pc' := 31) C dX11_dries_30 rfl 2 rfl rfl ?_
      obtain ⟨hv6, h⟩ := h
      refine z_zald (n := 31) (pc' := 32) C (zL_mem (by decide) zo39) (fun _ => rfl) hv6 dX11_dries_31 rfl ?_
      obtain ⟨ht, hf⟩ := h
      refine z_if_eq (tgt := 66) (pc' := 35) C dX11_dries_32 (by decide) rfl (fun c7 => ?_) (fun c7 => ?_)
      · have h := ht c7
        refine z_iinc (j := 1) (v := x2 + 1) (pc' := 69) (lv' := [(2, .int (x2 + 1)), (0, .ref (E.2.2 22 0)), (3, .int x3)]) C dX11_dries_66 rfl rfl (by decide) rfl rfl ?_
        refine z_iload_n (pc' := 70) C dX11_dries_69 rfl 0 rfl rfl ?_
        refine z_iconst (v := 3) (pc' := 71) C dX11_dries_70 (by decide) rfl ?_
        obtain ⟨ht, hf⟩ := h
        refine z_icmp_ne (tgt := 76) (pc' := 74) C dX11_dries_71 (by decide) rfl (fun c8 => ?_) (fun c8 => ?_)
        · have h := ht c8
          refine z_iinc (j := 2) (v := x3 + 1) (pc' := 79) (lv' := [(3, .int (x3 + 1)), (2, .int (x2 + 1)), (0, .ref (E.2.2 22 0))]) C dX11_dries_76 rfl rfl (by decide) rfl rfl ?_
          refine z_goto (tgt := 20) C dX11_dries_79 (by decide) ?_
          refine z_sub (lv' := [(0, .ref (E.2.2 22 0)), (2, .int (x2 + 1)), (3, .int (x3 + 1))]) [2, 1, 0] rfl ?_
          exact ih _ _ _ h
        · have h := hf c8
          refine z_iload_n (pc' := 75) C dX11_dries_74 rfl 2 rfl rfl ?_
          exact z_iret C dX11_dries_75 h
      · have h := hf c7
        refine z_iload_n (pc' := 36) C dX11_dries_35 rfl 1 rfl rfl ?_
        refine z_iload_n (pc' := 37) C dX11_dries_36 rfl 1 rfl rfl ?_
        obtain ⟨ht, hf⟩ := h
        refine z_if_le (tgt := 44) (pc' := 40) C dX11_dries_37 (by decide) rfl (fun c9 => ?_) (fun c9 => ?_)
        · have h := ht c9
          refine z_iconst (v := 0) (pc' := 45) C dX11_dries_44 (by decide) rfl ?_
          refine z_isub (pc' := 46) C dX11_dries_45 rfl ?_
          refine z_istore_n (pc' := 47) (lv' := [(2, .int (x2 - 0)), (0, .ref (E.2.2 22 0)), (3, .int x3)]) C dX11_dries_46 rfl (by decide) rfl rfl ?_
          refine z_aload_n (pc' := 48) C dX11_dries_47 rfl 1 rfl rfl ?_
          refine z_dup (pc' := 49) C dX11_dries_48 rfl rfl ?_
          refine zgX11_196 (pc' := 52) C zo22 dX11_dries_49 rfl ?_
          refine z_aload_n (pc' := 53) C dX11_dries_52 rfl 1 rfl rfl ?_
          refine zgX11_196 (pc' := 56) C zo22 dX11_dries_53 rfl ?_
          refine z_bipush (v := 10) (pc' := 58) C dX11_dries_56 (by decide) rfl ?_
          refine z_idiv (pc' := 59) C dX11_dries_58 (by decide) rfl ?_
          refine z_isub (pc' := 60) C dX11_dries_59 rfl ?_
          refine zpX11_196 (pc' := 63) C zo22 dX11_dries_60 rfl ?_
          refine z_goto (tgt := 76) C dX11_dries_63 (by decide) ?_
          refine z_iinc (j := 2) (v := x3 + 1) (pc' := 79) (lv' := [(3, .int (x3 + 1)), (2, .int (x2 - 0)), (0, .ref (E.2.2 22 0))]) C dX11_dries_76 rfl rfl (by decide) rfl rfl ?_
          refine z_goto (tgt := 20) C dX11_dries_79 (by decide) ?_
          refine z_sub (lv' := [(0, .ref (E.2.2 22 0)), (2, .int (x2 - 0)), (3, .int (x3 + 1))]) [2, 1, 0] rfl ?_
          exact ih _ _ _ h
        · have h := hf c9
          refine z_iconst (v := 1) (pc' := 41) C dX11_dries_40 (by decide) rfl ?_
          refine z_goto (tgt := 45) C dX11_dries_41 (by decide) ?_
          refine z_isub (pc' := 46) C dX11_dries_45 rfl ?_
          refine z_istore_n (pc' := 47) (lv' := [(2, .int (x2 - 1)), (0, .ref (E.2.2 22 0)), (3, .int x3)]) C dX11_dries_46 rfl (by decide) rfl rfl ?_
          refine z_aload_n (pc' := 48) C dX11_dries_47 rfl 1 rfl rfl ?_
          refine z_dup (pc' := 49) C dX11_dries_48 rfl rfl ?_
          refine zgX11_196 (pc' := 52) C zo22 dX11_dries_49 rfl ?_
          refine z_aload_n (pc' := 53) C dX11_dries_52 rfl 1 rfl rfl ?_
          refine zgX11_196 (pc' := 56) C zo22 dX11_dries_53 rfl ?_
          refine z_bipush (v := 10) (pc' := 58) C dX11_dries_56 (by decide) rfl ?_
          refine z_idiv (pc' := 59) C dX11_dries_58 (by decide) rfl ?_
          refine z_isub (pc' := 60) C dX11_dries_59 rfl ?_
          refine zpX11_196 (pc' := 63) C zo22 dX11_dries_60 rfl ?_
          refine z_goto (tgt := 76) C dX11_dries_63 (by decide) ?_
          refine z_iinc (j := 2) (v := x3 + 1) (pc' := 79) (lv' := [(3, .int (x3 + 1)), (2, .int (x2 - 1)), (0, .ref (E.2.2 22 0))]) C dX11_dries_76 rfl rfl (by decide) rfl rfl ?_
          refine z_goto (tgt := 20) C dX11_dries_79 (by decide) ?_
          refine z_sub (lv' := [(0, .ref (E.2.2 22 0)), (2, .int (x2 - 1)), (3, .int (x3 + 1))]) [2, 1, 0] rfl ?_
          exact ih _ _ _ h
set_option maxHeartbeats 4000000 in
set_option maxRecDepth 100000 in
theorem sc_X11_dries (l : Launch) (E : zE) (σ : zMem) (a0 : Int32) (Q : Int32 → zMem → Prop) (h : vc_X11_dries σ a0 Q) : zMi l yX11_dries cX11_dries 4 .int 2 41 E [.ref (E.2.2 22 0), .int a0] σ Q := by
  refine zMi_of (by decide) (Nat.le_of_ble_eq_true rfl) ?_
  intro p e s m args below meth c C
  unfold vc_X11_dries at h
  have fin : zG p l e (zRm 2 41) s m args below meth c 4 E 0 0 (MQ below (va_Qi Q (zPost E) (zA E s.heap.size)) args s 0 0 (zA E s.heap.size)) σ 0 [(0, .ref (E.2.2 22 0)), (1, .int a0)] [] := by
    refine z_aload_n (pc' := 1) C dX11_dries_0 rfl 0 rfl rfl ?_
    refine z_aload_n (pc' := 2) C dX11_dries_1 rfl 0 rfl rfl ?_
    refine z_iload_n (pc' := 3) C dX11_dries_2 rfl 1 rfl rfl ?_
    refine z_callVi (q := 22) (i := 0) (w9 := (RX11, TX11, 40)) (pc' := 6) (st := [.ref (E.2.2 22 0)]) (As := [.int a0]) C (sc_X11_hayOf l E σ a0 _ h) zwX11_133_X11_hayOf zvX11_133_X11_hayOf.1 zvX11_133_X11_hayOf.2 (zL_mem (by decide) zo22) rfl rfl ⟨(Nat.le_of_ble_eq_true rfl), (Nat.le_of_ble_eq_true rfl)⟩ ⟨Nat.zero_le _, Nat.zero_le _⟩ rfl rfl (Nat.le_of_ble_eq_true rfl) dX11_dries_3 rfl (fun r2 σ1 h => ?_)
    refine zpX11_196 (pc' := 9) C zo22 dX11_dries_6 rfl ?_
    refine z_iconst (v := 0) (pc' := 10) C dX11_dries_9 (by decide) rfl ?_
    refine z_istore_n (pc' := 11) (lv' := [(2, .int 0), (0, .ref (E.2.2 22 0)), (1, .int a0)]) C dX11_dries_10 rfl (by decide) rfl rfl ?_
    refine z_aload_n (pc' := 12) C dX11_dries_11 rfl 1 rfl rfl ?_
    refine zgX11_32 (pc' := 15) C zo22 dX11_dries_12 rfl ?_
    refine z_iload_n (pc' := 16) C dX11_dries_15 rfl 2 rfl rfl ?_
    obtain ⟨hv3, h⟩ := h
    refine z_iald (n := 24) (pc' := 17) C (zL_mem (by decide) zo30) (fun _ => rfl) hv3 dX11_dries_16 rfl ?_
    refine z_iconst (v := 1) (pc' := 18) C dX11_dries_17 (by decide) rfl ?_
    refine z_iadd (pc' := 19) C dX11_dries_18 rfl ?_
    refine z_istore_n (pc' := 20) (lv' := [(3, .int (((um σ1 22 0 29 r2) 30 0 a0.toNatClampNeg) + 1)), (2, .int 0), (0, .ref (E.2.2 22 0)), (1, .int a0)]) C dX11_dries_19 rfl (by decide) rfl rfl ?_
    obtain ⟨n4, h⟩ := h
    refine z_sub (lv' := [(0, .ref (E.2.2 22 0)), (2, .int 0), (3, .int (((um σ1 22 0 29 r2) 30 0 a0.toNatClampNeg) + 1))]) [2, 1, 0] rfl ?_
    exact sl_X11_dries_20 C Q n4 _ _ _ h
  exact fin
def vc_X11_dry (σ : zMem) (a0 : Int32) (Q : Int32 → zMem → Prop) : Prop := vc_X11_isPlot σ a0 (fun r2 σ1 => ((¬ r2 = 0) → vp_in a0 24 ∧ ((¬ (σ1 29 0 a0.toNatClampNeg) = 0) → vc_X11_dries σ1 a0 (fun r7 σ6 => Q r7 σ6)) ∧ (((σ1 29 0 a0.toNatClampNeg) = 0) → Q ((-3)) σ1)) ∧ ((r2 = 0) → Q ((-1)) σ1))
set_option maxHeartbeats 4000000 in
set_option maxRecDepth 100000 in
theorem sc_X11_dry (l : Launch) (E : zE) (σ : zMem) (a0 : Int32) (Q : Int32 → zMem → Prop) (h : vc_X11_dry σ a0 Q) : zMi l yX11_dry cX11_dry 2 .int 3 64 E [.ref (E.2.2 22 0), .int a0] σ Q := by
  refine zMi_of (by decide) (Nat.le_of_ble_eq_true rfl) ?_
  intro p e s m args below meth c C
  unfold vc_X11_dry at h
  have fin : zG p l e (zRm 3 64) s m args below meth c 2 E 0 0 (MQ below (va_Qi Q (zPost E) (zA E s.heap.size)) args s 0 0 (zA E s.heap.size)) σ 0 [(0, .ref (E.2.2 22 0)), (1, .int a0)] [] := by
    refine z_iload_n (pc' := 1) C dX11_dry_0 rfl 1 rfl rfl ?_
    refine z_callSi (pc' := 4) (st := []) (As := [.int a0]) C (sc_X11_isPlot l E σ a0 _ h) zwX11_121_X11_isPlot ztX11_121_X11_isPlot ⟨(Nat.le_of_ble_eq_true rfl), (Nat.le_of_ble_eq_true rfl)⟩ ⟨Nat.zero_le _, Nat.zero_le _⟩ rfl rfl (Nat.le_of_ble_eq_true rfl) dX11_dry_1 rfl (fun r2 σ1 h => ?_)
    obtain ⟨ht, hf⟩ := h
    refine z_if_ne (tgt := 11) (pc' := 7) C dX11_dry_4 (by decide) rfl (fun c3 => ?_) (fun c3 => ?_)
    · have h := ht c3
      refine z_aload_n (pc' := 12) C dX11_dry_11 rfl 0 rfl rfl ?_
      refine zgX11_29 (pc' := 15) C zo22 dX11_dry_12 rfl ?_
      refine z_iload_n (pc' := 16) C dX11_dry_15 rfl 1 rfl rfl ?_
      obtain ⟨hv4, h⟩ := h
      refine z_zald (n := 24) (pc' := 17) C (zL_mem (by decide) zo29) (fun _ => rfl) hv4 dX11_dry_16 rfl ?_
      obtain ⟨ht, hf⟩ := h
      refine z_if_ne (tgt := 25) (pc' := 20) C dX11_dry_17 (by decide) rfl (fun c5 => ?_) (fun c5 => ?_)
      · have h := ht c5
        refine z_aload_n (pc' := 26) C dX11_dry_25 rfl 0 rfl rfl ?_
        refine z_iload_n (pc' := 27) C dX11_dry_26 rfl 1 rfl rfl ?_
        refine z_callVi (q := 22) (i := 0) (w9 := (RX11, TX11, 40)) (pc' := 30) (st := []) (As := [.int a0]) C (sc_X11_dries l E σ1 a0 _ h) zwX11_199_X11_dries zvX11_199_X11_dries.1 zvX11_199_X11_dries.2 (zL_mem (by decide) zo22) rfl rfl ⟨(Nat.le_of_ble_eq_true rfl), (Nat.le_of_ble_eq_true rfl)⟩ ⟨Nat.zero_le _, Nat.zero_le _⟩ rfl rfl (Nat.le_of_ble_eq_true rfl) dX11_dry_27 rfl (fun r7 σ6 h => ?_)
        exact z_iret C dX11_dry_30 h
      · have h := hf c5
        refine z_bipush (v := (-3)) (pc' := 22) C dX11_dry_20 (by decide) rfl ?_
        refine z_goto (tgt := 30) C dX11_dry_22 (by decide) ?_
        exact z_iret C dX11_dry_30 h
    · have h := hf c3
      refine z_iconst (v := (-1)) (pc' := 8) C dX11_dry_7 (by decide) rfl ?_
      refine z_goto (tgt := 30) C dX11_dry_8 (by decide) ?_
      exact z_iret C dX11_dry_30 h
  exact fin
def vc_X11_inBarn (σ : zMem) (a0 : Int32) (Q : Int32 → zMem → Prop) : Prop := vc_X11_dries σ a0 (fun r2 σ1 => Q (σ1 22 0 29) σ1)
set_option maxHeartbeats 4000000 in
set_option maxRecDepth 100000 in
theorem sc_X11_inBarn (l : Launch) (E : zE) (σ : zMem) (a0 : Int32) (Q : Int32 → zMem → Prop) (h : vc_X11_inBarn σ a0 Q) : zMi l yX11_inBarn cX11_inBarn 3 .int 3 64 E [.ref (E.2.2 22 0), .int a0] σ Q := by
  refine zMi_of (by decide) (Nat.le_of_ble_eq_true rfl) ?_
  intro p e s m args below meth c C
  unfold vc_X11_inBarn at h
  have fin : zG p l e (zRm 3 64) s m args below meth c 3 E 0 0 (MQ below (va_Qi Q (zPost E) (zA E s.heap.size)) args s 0 0 (zA E s.heap.size)) σ 0 [(0, .ref (E.2.2 22 0)), (1, .int a0)] [] := by
    refine z_aload_n (pc' := 1) C dX11_inBarn_0 rfl 0 rfl rfl ?_
    refine z_iload_n (pc' := 2) C dX11_inBarn_1 rfl 1 rfl rfl ?_
    refine z_callVi (q := 22) (i := 0) (w9 := (RX11, TX11, 40)) (pc' := 5) (st := []) (As := [.int a0]) C (sc_X11_dries l E σ a0 _ h) zwX11_199_X11_dries zvX11_199_X11_dries.1 zvX11_199_X11_dries.2 (zL_mem (by decide) zo22) rfl rfl ⟨(Nat.le_of_ble_eq_true rfl), (Nat.le_of_ble_eq_true rfl)⟩ ⟨Nat.zero_le _, Nat.zero_le _⟩ rfl rfl (Nat.le_of_ble_eq_true rfl) dX11_inBarn_2 rfl (fun r2 σ1 h => ?_)
    refine z_istore_n (pc' := 6) (lv' := [(2, .int r2), (0, .ref (E.2.2 22 0)), (1, .int a0)]) C dX11_inBarn_5 rfl (by decide) rfl rfl ?_
    refine z_aload_n (pc' := 7) C dX11_inBarn_6 rfl 1 rfl rfl ?_
    refine zgX11_196 (pc' := 10) C zo22 dX11_inBarn_7 rfl ?_
    exact z_iret C dX11_inBarn_10 h
  exact fin
def vc_X11_barn (σ : zMem) (a0 : Int32) (Q : Int32 → zMem → Prop) : Prop := vc_X11_isPlot σ a0 (fun r2 σ1 => ((¬ r2 = 0) → vp_in a0 24 ∧ ((¬ (σ1 29 0 a0.toNatClampNeg) = 0) → vc_X11_inBarn σ1 a0 (fun r7 σ6 => Q r7 σ6)) ∧ (((σ1 29 0 a0.toNatClampNeg) = 0) → Q ((-3)) σ1)) ∧ ((r2 = 0) → Q ((-1)) σ1))
set_option maxHeartbeats 4000000 in
set_option maxRecDepth 100000 in
theorem sc_X11_barn (l : Launch) (E : zE) (σ : zMem) (a0 : Int32) (Q : Int32 → zMem → Prop) (h : vc_X11_barn σ a0 Q) : zMi l yX11_barn cX11_barn 2 .int 4 86 E [.ref (E.2.2 22 0), .int a0] σ Q := by
  refine zMi_of (by decide) (Nat.le_of_ble_eq_true rfl) ?_
  intro p e s m args below meth c C
  unfold vc_X11_barn at h
  have fin : zG p l e (zRm 4 86) s m args below meth c 2 E 0 0 (MQ below (va_Qi Q (zPost E) (zA E s.heap.size)) args s 0 0 (zA E s.heap.size)) σ 0 [(0, .ref (E.2.2 22 0)), (1, .int a0)] [] := by
    refine z_iload_n (pc' := 1) C dX11_barn_0 rfl 1 rfl rfl ?_
    refine z_callSi (pc' := 4) (st := []) (As := [.int a0]) C (sc_X11_isPlot l E σ a0 _ h) zwX11_121_X11_isPlot ztX11_121_X11_isPlot ⟨(Nat.le_of_ble_eq_true rfl), (Nat.le_of_ble_eq_true rfl)⟩ ⟨Nat.zero_le _, Nat.zero_le _⟩ rfl rfl (Nat.le_of_ble_eq_true rfl) dX11_barn_1 rfl (fun r2 σ1 h => ?_)
    obtain ⟨ht, hf⟩ := h
    refine z_if_ne (tgt := 11) (pc' := 7) C dX11_barn_4 (by decide) rfl (fun c3 => ?_) (fun c3 => ?_)
    · have h := ht c3
      refine z_aload_n (pc' := 12) C dX11_barn_11 rfl 0 rfl rfl ?_
      refine zgX11_29 (pc' := 15) C zo22 dX11_barn_12 rfl ?_
      refine z_iload_n (pc' := 16) C dX11_barn_15 rfl 1 rfl rfl ?_
      obtain ⟨hv4, h⟩ := h
      refine z_zald (n := 24) (pc' := 17) C (zL_mem (by decide) zo29) (fun _ => rfl) hv4 dX11_barn_16 rfl ?_
      obtain ⟨ht, hf⟩ := h
      refine z_if_ne (tgt := 25) (pc' := 20) C dX11_barn_17 (by decide) rfl (fun c5 => ?_) (fun c5 => ?_)
      · have h := ht c5
        refine z_aload_n (pc' := 26) C dX11_barn_25 rfl 0 rfl rfl ?_
        refine z_iload_n (pc' := 27) C dX11_barn_26 rfl 1 rfl rfl ?_
        refine z_callVi (q := 22) (i := 0) (w9 := (RX11, TX11, 40)) (pc' := 30) (st := []) (As := [.int a0]) C (sc_X11_inBarn l E σ1 a0 _ h) zwX11_202_X11_inBarn zvX11_202_X11_inBarn.1 zvX11_202_X11_inBarn.2 (zL_mem (by decide) zo22) rfl rfl ⟨(Nat.le_of_ble_eq_true rfl), (Nat.le_of_ble_eq_true rfl)⟩ ⟨Nat.zero_le _, Nat.zero_le _⟩ rfl rfl (Nat.le_of_ble_eq_true rfl) dX11_barn_27 rfl (fun r7 σ6 h => ?_)
        exact z_iret C dX11_barn_30 h
      · have h := hf c5
        refine z_bipush (v := (-3)) (pc' := 22) C dX11_barn_20 (by decide) rfl ?_
        refine z_goto (tgt := 30) C dX11_barn_22 (by decide) ?_
        exact z_iret C dX11_barn_30 h
    · have h := hf c3
      refine z_iconst (v := (-1)) (pc' := 8) C dX11_barn_7 (by decide) rfl ?_
      refine z_goto (tgt := 30) C dX11_barn_8 (by decide) ?_
      exact z_iret C dX11_barn_30 h
  exact fin
def vc_X11_tithe_14 (x1 : Int32) (Q : Int32 → zMem → Prop) : Nat → zMem → Int32 → Int32 → Prop
  | 0, _, _, _ => False
  | n + 1, σ, x2, x3 => ((24 ≤ x3) → Q (x2 / 10) σ) ∧ ((¬ 24 ≤ x3) → vc_X11_has σ x1 x3 (fun r7 σ6 => ((r7 = 0) → vc_X11_tithe_14 x1 Q n σ6 (x2 + 0) (x3 + 1)) ∧ ((¬ r7 = 0) → vp_in x3 24 ∧ (((σ6 29 0 x3.toNatClampNeg) = 0) → vc_X11_tithe_14 x1 Q n σ6 (x2 + 0) (x3 + 1)) ∧ ((¬ (σ6 29 0 x3.toNatClampNeg) = 0) → vc_X11_inBarn σ6 x3 (fun r12 σ11 => vc_X11_tithe_14 x1 Q n σ11 (x2 + r12) (x3 + 1))))))
def vc_X11_tithe (σ : zMem) (a0 : Int32) (Q : Int32 → zMem → Prop) : Prop := vc_X11_isBuyer σ a0 (fun r2 σ1 => ((¬ r2 = 0) → ∃ n4, vc_X11_tithe_14 a0 Q n4 σ1 0 0) ∧ ((r2 = 0) → Q ((-1)) σ1))
set_option maxHeartbeats 4000000 in
set_option maxRecDepth 100000 in
theorem sl_X11_tithe_14 {p : Program} {l : Launch} {e : Env} {s : State} {m : MethodId} {args : Array Value} {below : List Frame} {meth : Method} {c : Code} {E : zE} (C : zX p s m args meth c cX11_tithe 4 RX11 (some .int) E) (x1 : Int32) (Q : Int32 → zMem → Prop) : ∀ (n : Nat) (σ : zMem) (x2 : Int32) (x3 : Int32), vc_X11_tithe_14 x1 Q n σ x2 x3 → zG p l e (zRm 4 86) s m args below meth c 4 E 0 0 (MQ below (va_Qi Q (zPost E) (zA E s.heap.size)) args s 0 0 (zA E s.heap.size)) σ 14 [(0, .ref (E.2.2 22 0)), (1, .int x1), (2, .int x2), (3, .int x3)] [] := by
  intro n
  induction n with
  | zero =>
    intro σ x2 x3 h
    exact False.elim h
  | succ n ih =>
    intro σ x2 x3 h
    rw [vc_X11_tithe_14] at h
    refine z_iload_n (pc' := 15) C dX11_tithe_14 rfl 3 rfl rfl ?_
    refine z_bipush (v := 24) (pc' := 17) C dX11_tithe_15 (by decide) rfl ?_
    obtain ⟨ht, hf⟩ := h
    refine z_icmp_ge (tgt := 56) (pc' := 20) C dX11_tithe_17 (by decide) rfl (fun c5 => ?_) (fun c5 => ?_)
    · have h := ht c5
      refine z_iload_n (pc' := 57) C dX11_tithe_56 rfl 2 rfl rfl ?_
      refine z_bipush (v := 10) (pc' := 59) C dX11_tithe_57 (by decide) rfl ?_
      refine z_idiv (pc' := 60) C dX11_tithe_59 (by decide) rfl ?_
      exact z_iret C dX11_tithe_60 h
    · have h := hf c5
      refine z_iload_n (pc' := 21) C dX11_tithe_20 rfl 2 rfl rfl ?_
      refine z_aload_n (pc' := 22) C dX11_tithe_21 rfl 0 rfl rfl ?_
      refine z_iload_n (pc' := 23) C dX11_tithe_22 rfl 1 rfl rfl ?_
      refine z_iload_n (pc' := 24) C dX11_tithe_23 rfl 3 rfl rfl ?_
      refine z_callVi (q := 22) (i := 0) (w9 := (RX11, TX11, 40)) (pc' := 27) (st := [.int x2]) (As := [.int x1, .int x3]) C (sc_X11_has l E σ x1 x3 _ h) zwX11_139_X11_has zvX11_139_X11_has.1 zvX11_139_X11_has.2 (zL_mem (by decide) zo22) rfl rfl ⟨(Nat.le_of_ble_eq_true rfl), (Nat.le_of_ble_eq_true rfl)⟩ ⟨Nat.zero_le _, Nat.zero_le _⟩ rfl rfl (Nat.le_of_ble_eq_true rfl) dX11_tithe_24 rfl (fun r7 σ6 h => ?_)
      obtain ⟨ht, hf⟩ := h
      refine z_if_eq (tgt := 47) (pc' := 30) C dX11_tithe_27 (by decide) rfl (fun c8 => ?_) (fun c8 => ?_)
      · have h := ht c8
        refine z_iconst (v := 0) (pc' := 48) C dX11_tithe_47 (by decide) rfl ?_
        refine z_iadd (pc' := 49) C dX11_tithe_48 rfl ?_
        refine z_istore_n (pc' := 50) (lv' := [(2, .int (x2 + 0)), (0, .ref (E.2.2 22 0)), (1, .int x1), (3, .int x3)]) C dX11_tithe_49 rfl (by decide) rfl rfl ?_
        refine z_iinc (j := 3) (v := x3 + 1) (pc' := 53) (lv' := [(3, .int (x3 + 1)), (2, .int (x2 + 0)), (0, .ref (E.2.2 22 0)), (1, .int x1)]) C dX11_tithe_50 rfl rfl (by decide) rfl rfl ?_
        refine z_goto (tgt := 14) C dX11_tithe_53 (by decide) ?_
        refine z_sub (lv' := [(0, .ref (E.2.2 22 0)), (1, .int x1), (2, .int (x2 + 0)), (3, .int (x3 + 1))]) [2, 3, 1, 0] rfl ?_
        exact ih _ _ _ h
      · have h := hf c8
        refine z_aload_n (pc' := 31) C dX11_tithe_30 rfl 0 rfl rfl ?_
        refine zgX11_29 (pc' := 34) C zo22 dX11_tithe_31 rfl ?_
        refine z_iload_n (pc' := 35) C dX11_tithe_34 rfl 3 rfl rfl ?_
        obtain ⟨hv9, h⟩ := h
        refine z_zald (n := 24) (pc' := 36) C (zL_mem (by decide) zo29) (fun _ => rfl) hv9 dX11_tithe_35 rfl ?_
        obtain ⟨ht, hf⟩ := h
        refine z_if_eq (tgt := 47) (pc' := 39) C dX11_tithe_36 (by decide) rfl (fun c10 => ?_) (fun c10 => ?_)
        · have h := ht c10
          refine z_iconst (v := 0) (pc' := 48) C dX11_tithe_47 (by decide) rfl ?_
          refine z_iadd (pc' := 49) C dX11_tithe_48 rfl ?_
          refine z_istore_n (pc' := 50) (lv' := [(2, .int (x2 + 0)), (0, .ref (E.2.2 22 0)), (1, .int x1), (3, .int x3)]) C dX11_tithe_49 rfl (by decide) rfl rfl ?_
          refine z_iinc (j := 3) (v := x3 + 1) (pc' := 53) (lv' := [(3, .int (x3 + 1)), (2, .int (x2 + 0)), (0, .ref (E.2.2 22 0)), (1, .int x1)]) C dX11_tithe_50 rfl rfl (by decide) rfl rfl ?_
          refine z_goto (tgt := 14) C dX11_tithe_53 (by decide) ?_
          refine z_sub (lv' := [(0, .ref (E.2.2 22 0)), (1, .int x1), (2, .int (x2 + 0)), (3, .int (x3 + 1))]) [2, 3, 1, 0] rfl ?_
          exact ih _ _ _ h
        · have h := hf c10
          refine z_aload_n (pc' := 40) C dX11_tithe_39 rfl 0 rfl rfl ?_
          refine z_iload_n (pc' := 41) C dX11_tithe_40 rfl 3 rfl rfl ?_
          refine z_callVi (q := 22) (i := 0) (w9 := (RX11, TX11, 40)) (pc' := 44) (st := [.int x2]) (As := [.int x3]) C (sc_X11_inBarn l E σ6 x3 _ h) zwX11_202_X11_inBarn zvX11_202_X11_inBarn.1 zvX11_202_X11_inBarn.2 (zL_mem (by decide) zo22) rfl rfl ⟨(Nat.le_of_ble_eq_true rfl), (Nat.le_of_ble_eq_true rfl)⟩ ⟨Nat.zero_le _, Nat.zero_le _⟩ rfl rfl (Nat.le_of_ble_eq_true rfl) dX11_tithe_41 rfl (fun r12 σ11 h => ?_)
          refine z_goto (tgt := 48) C dX11_tithe_44 (by decide) ?_
          refine z_iadd (pc' := 49) C dX11_tithe_48 rfl ?_
          refine z_istore_n (pc' := 50) (lv' := [(2, .int (x2 + r12)), (0, .ref (E.2.2 22 0)), (1, .int x1), (3, .int x3)]) C dX11_tithe_49 rfl (by decide) rfl rfl ?_
          refine z_iinc (j := 3) (v := x3 + 1) (pc' := 53) (lv' := [(3, .int (x3 + 1)), (2, .int (x2 + r12)), (0, .ref (E.2.2 22 0)), (1, .int x1)]) C dX11_tithe_50 rfl rfl (by decide) rfl rfl ?_
          refine z_goto (tgt := 14) C dX11_tithe_53 (by decide) ?_
          refine z_sub (lv' := [(0, .ref (E.2.2 22 0)), (1, .int x1), (2, .int (x2 + r12)), (3, .int (x3 + 1))]) [2, 3, 1, 0] rfl ?_
          exact ih _ _ _ h
set_option maxHeartbeats 4000000 in
set_option maxRecDepth 100000 in
theorem sc_X11_tithe (l : Launch) (E : zE) (σ : zMem) (a0 : Int32) (Q : Int32 → zMem → Prop) (h : vc_X11_tithe σ a0 Q) : zMi l yX11_tithe cX11_tithe 4 .int 4 86 E [.ref (E.2.2 22 0), .int a0] σ Q := by
  refine zMi_of (by decide) (Nat.le_of_ble_eq_true rfl) ?_
  intro p e s m args below meth c C
  unfold vc_X11_tithe at h
  have fin : zG p l e (zRm 4 86) s m args below meth c 4 E 0 0 (MQ below (va_Qi Q (zPost E) (zA E s.heap.size)) args s 0 0 (zA E s.heap.size)) σ 0 [(0, .ref (E.2.2 22 0)), (1, .int a0)] [] := by
    refine z_aload_n (pc' := 1) C dX11_tithe_0 rfl 0 rfl rfl ?_
    refine z_iload_n (pc' := 2) C dX11_tithe_1 rfl 1 rfl rfl ?_
    refine z_callVi (q := 22) (i := 0) (w9 := (RX11, TX11, 40)) (pc' := 5) (st := []) (As := [.int a0]) C (sc_X11_isBuyer l E σ a0 _ h) zwX11_126_X11_isBuyer zvX11_126_X11_isBuyer.1 zvX11_126_X11_isBuyer.2 (zL_mem (by decide) zo22) rfl rfl ⟨(Nat.le_of_ble_eq_true rfl), (Nat.le_of_ble_eq_true rfl)⟩ ⟨Nat.zero_le _, Nat.zero_le _⟩ rfl rfl (Nat.le_of_ble_eq_true rfl) dX11_tithe_2 rfl (fun r2 σ1 h => ?_)
    obtain ⟨ht, hf⟩ := h
    refine z_if_ne (tgt := 10) (pc' := 8) C dX11_tithe_5 (by decide) rfl (fun c3 => ?_) (fun c3 => ?_)
    · have h := ht c3
      refine z_iconst (v := 0) (pc' := 11) C dX11_tithe_10 (by decide) rfl ?_
      refine z_istore_n (pc' := 12) (lv' := [(2, .int 0), (0, .ref (E.2.2 22 0)), (1, .int a0)]) C dX11_tithe_11 rfl (by decide) rfl rfl ?_
      refine z_iconst (v := 0) (pc' := 13) C dX11_tithe_12 (by decide) rfl ?_
      refine z_istore_n (pc' := 14) (lv' := [(3, .int 0), (2, .int 0), (0, .ref (E.2.2 22 0)), (1, .int a0)]) C dX11_tithe_13 rfl (by decide) rfl rfl ?_
      obtain ⟨n4, h⟩ := h
      refine z_sub (lv' := [(0, .ref (E.2.2 22 0)), (1, .int a0), (2, .int 0), (3, .int 0)]) [2, 3, 1, 0] rfl ?_
      exact sl_X11_tithe_14 C a0 Q n4 _ _ _ h
    · have h := hf c3
      refine z_iconst (v := (-1)) (pc' := 9) C dX11_tithe_8 (by decide) rfl ?_
      exact z_iret C dX11_tithe_9 h
  exact fin
def vc_X11_settle_101 (Q : zMem → Prop) : Nat → zMem → Int32 → Prop
  | 0, _, _ => False
  | n + 1, σ, x1 => (((σ 22 0 9) ≤ x1) → Q σ) ∧ ((¬ (σ 22 0 9) ≤ x1) → vp_in x1 10 ∧ ((0 ≤ (σ 35 0 x1.toNatClampNeg)) → vp_in x1 10 ∧ vp_in x1 10 ∧ vp_in (σ 35 0 x1.toNatClampNeg) 10 ∧ (((σ 48 0 (σ 35 0 x1.toNatClampNeg).toNatClampNeg) ≤ ((σ 45 0 x1.toNatClampNeg) - (σ 46 0 x1.toNatClampNeg))) → vp_in (σ 35 0 x1.toNatClampNeg) 10 ∧ vp_in x1 10 ∧ vp_in (σ 35 0 x1.toNatClampNeg) 10 ∧ vp_in x1 10 ∧ vp_in (σ 35 0 x1.toNatClampNeg) 10 ∧ vc_X11_settle_101 Q n (um (um σ 47 0 x1.toNatClampNeg (σ 48 0 (σ 35 0 x1.toNatClampNeg).toNatClampNeg)) 48 0 (σ 35 0 x1.toNatClampNeg).toNatClampNeg (((um σ 47 0 x1.toNatClampNeg (σ 48 0 (σ 35 0 x1.toNatClampNeg).toNatClampNeg)) 48 0 (σ 35 0 x1.toNatClampNeg).toNatClampNeg) - ((um σ 47 0 x1.toNatClampNeg (σ 48 0 (σ 35 0 x1.toNatClampNeg).toNatClampNeg)) 47 0 x1.toNatClampNeg))) (x1 + 1)) ∧ ((¬ (σ 48 0 (σ 35 0 x1.toNatClampNeg).toNatClampNeg) ≤ ((σ 45 0 x1.toNatClampNeg) - (σ 46 0 x1.toNatClampNeg))) → vp_in x1 10 ∧ vp_in (σ 35 0 x1.toNatClampNeg) 10 ∧ vp_in x1 10 ∧ vp_in (σ 35 0 x1.toNatClampNeg) 10 ∧ vc_X11_settle_101 Q n (um (um σ 47 0 x1.toNatClampNeg ((σ 45 0 x1.toNatClampNeg) - (σ 46 0 x1.toNatClampNeg))) 48 0 (σ 35 0 x1.toNatClampNeg).toNatClampNeg (((um σ 47 0 x1.toNatClampNeg ((σ 45 0 x1.toNatClampNeg) - (σ 46 0 x1.toNatClampNeg))) 48 0 (σ 35 0 x1.toNatClampNeg).toNatClampNeg) - ((um σ 47 0 x1.toNatClampNeg ((σ 45 0 x1.toNatClampNeg) - (σ 46 0 x1.toNatClampNeg))) 47 0 x1.toNatClampNeg))) (x1 + 1))) ∧ ((¬ 0 ≤ (σ 35 0 x1.toNatClampNeg)) → vc_X11_settle_101 Q n σ (x1 + 1)))
def vc_X11_settle_2 (Q : zMem → Prop) : Nat → zMem → Int32 → Prop
  | 0, _, _ => False
  | n + 1, σ, x1 => (((σ 22 0 9) ≤ x1) → ∃ n3, vc_X11_settle_101 Q n3 σ 0) ∧ ((¬ (σ 22 0 9) ≤ x1) → vc_X11_debt σ x1 (fun r21 σ20 => vp_in x1 10 ∧ vp_in x1 10 ∧ vp_in x1 10 ∧ vp_in x1 10 ∧ ((((um σ20 45 0 x1.toNatClampNeg (r21 + (10 * (σ20 36 0 x1.toNatClampNeg)))) 32 0 x1.toNatClampNeg) ≤ ((um σ20 45 0 x1.toNatClampNeg (r21 + (10 * (σ20 36 0 x1.toNatClampNeg)))) 45 0 x1.toNatClampNeg)) → vp_in x1 10 ∧ vp_in x1 10 ∧ vp_in x1 10 ∧ vp_in x1 10 ∧ vp_in x1 10 ∧ vp_in x1 10 ∧ vc_X11_settle_2 Q n (um (um (um (um σ20 45 0 x1.toNatClampNeg (r21 + (10 * (σ20 36 0 x1.toNatClampNeg)))) 46 0 x1.toNatClampNeg ((um σ20 45 0 x1.toNatClampNeg (r21 + (10 * (σ20 36 0 x1.toNatClampNeg)))) 32 0 x1.toNatClampNeg)) 48 0 x1.toNatClampNeg (((um (um σ20 45 0 x1.toNatClampNeg (r21 + (10 * (σ20 36 0 x1.toNatClampNeg)))) 46 0 x1.toNatClampNeg ((um σ20 45 0 x1.toNatClampNeg (r21 + (10 * (σ20 36 0 x1.toNatClampNeg)))) 32 0 x1.toNatClampNeg)) 32 0 x1.toNatClampNeg) - ((um (um σ20 45 0 x1.toNatClampNeg (r21 + (10 * (σ20 36 0 x1.toNatClampNeg)))) 46 0 x1.toNatClampNeg ((um σ20 45 0 x1.toNatClampNeg (r21 + (10 * (σ20 36 0 x1.toNatClampNeg)))) 32 0 x1.toNatClampNeg)) 46 0 x1.toNatClampNeg))) 47 0 x1.toNatClampNeg 0) (x1 + 1)) ∧ ((¬ ((um σ20 45 0 x1.toNatClampNeg (r21 + (10 * (σ20 36 0 x1.toNatClampNeg)))) 32 0 x1.toNatClampNeg) ≤ ((um σ20 45 0 x1.toNatClampNeg (r21 + (10 * (σ20 36 0 x1.toNatClampNeg)))) 45 0 x1.toNatClampNeg)) → vp_in x1 10 ∧ vp_in x1 10 ∧ vp_in x1 10 ∧ vp_in x1 10 ∧ vp_in x1 10 ∧ vp_in x1 10 ∧ vc_X11_settle_2 Q n (um (um (um (um σ20 45 0 x1.toNatClampNeg (r21 + (10 * (σ20 36 0 x1.toNatClampNeg)))) 46 0 x1.toNatClampNeg ((um σ20 45 0 x1.toNatClampNeg (r21 + (10 * (σ20 36 0 x1.toNatClampNeg)))) 45 0 x1.toNatClampNeg)) 48 0 x1.toNatClampNeg (((um (um σ20 45 0 x1.toNatClampNeg (r21 + (10 * (σ20 36 0 x1.toNatClampNeg)))) 46 0 x1.toNatClampNeg ((um σ20 45 0 x1.toNatClampNeg (r21 + (10 * (σ20 36 0 x1.toNatClampNeg)))) 45 0 x1.toNatClampNeg)) 32 0 x1.toNatClampNeg) - ((um (um σ20 45 0 x1.toNatClampNeg (r21 + (10 * (σ20 36 0 x1.toNatClampNeg)))) 46 0 x1.toNatClampNeg ((um σ20 45 0 x1.toNatClampNeg (r21 + (10 * (σ20 36 0 x1.toNatClampNeg)))) 45 0 x1.toNatClampNeg)) 46 0 x1.toNatClampNeg))) 47 0 x1.toNatClampNeg 0) (x1 + 1))))
def vc_X11_settle (σ : zMem) (Q : zMem → Prop) : Prop := ∃ n1, vc_X11_settle_2 Q n1 σ 0
set_option maxHeartbeats 4000000 in
set_option maxRecDepth 100000 in
theorem sl_X11_settle_101 {p : Program} {l : Launch} {e : Env} {s : State} {m : MethodId} {args : Array Value} {below : List Frame} {meth : Method} {c : Code} {E : zE} (C : zX p s m args meth c cX11_settle 4 RX11 none E) (Q : zMem → Prop) : ∀ (n : Nat) (σ : zMem) (x1 : Int32), vc_X11_settle_101 Q n σ x1 → zG p l e (zRm 2 45) s m args below meth c 4 E 0 0 (MQ below (va_Qv Q (zPost E) (zA E s.heap.size)) args s 0 0 (zA E s.heap.size)) σ 101 [(0, .ref (E.2.2 22 0)), (1, .int x1)] [] := by
  intro n
  induction n with
  | zero =>
    intro σ x1 h
    exact False.elim h
  | succ n ih =>
    intro σ x1 h
    rw [vc_X11_settle_101] at h
    refine z_iload_n (pc' := 102) C dX11_settle_101 rfl 1 rfl rfl ?_
    refine z_aload_n (pc' := 103) C dX11_settle_102 rfl 0 rfl rfl ?_
    refine zgX11_118 (pc' := 106) C zo22 dX11_settle_103 rfl ?_
    obtain ⟨ht, hf⟩ := h
    refine z_icmp_ge (tgt := 184) (pc' := 109) C dX11_settle_106 (by decide) rfl (fun c4 => ?_) (fun c4 => ?_)
    · have h := ht c4
      exact z_vret C dX11_settle_184 h
    · have h := hf c4
      refine z_aload_n (pc' := 110) C dX11_settle_109 rfl 0 rfl rfl ?_
      refine zgX11_47 (pc' := 113) C zo22 dX11_settle_110 rfl ?_
      refine z_iload_n (pc' := 114) C dX11_settle_113 rfl 1 rfl rfl ?_
      obtain ⟨hv5, h⟩ := h
      refine z_iald (n := 10) (pc' := 115) C (zL_mem (by decide) zo35) (fun _ => rfl) hv5 dX11_settle_114 rfl ?_
      refine z_istore_n (pc' := 116) (lv' := [(2, .int (σ 35 0 x1.toNatClampNeg)), (0, .ref (E.2.2 22 0)), (1, .int x1)]) C dX11_settle_115 rfl (by decide) rfl rfl ?_
      refine z_iload_n (pc' := 117) C dX11_settle_116 rfl 0 rfl rfl ?_
      obtain ⟨ht, hf⟩ := h
      refine z_if_ge (tgt := 123) (pc' := 120) C dX11_settle_117 (by decide) rfl (fun c6 => ?_) (fun c6 => ?_)
      · have h := ht c6
        refine z_aload_n (pc' := 124) C dX11_settle_123 rfl 1 rfl rfl ?_
        refine zgX11_81 (pc' := 127) C zo22 dX11_settle_124 rfl ?_
        refine z_iload_n (pc' := 128) C dX11_settle_127 rfl 2 rfl rfl ?_
        obtain ⟨hv7, h⟩ := h
        refine z_iald (n := 10) (pc' := 129) C (zL_mem (by decide) zo45) (fun _ => rfl) hv7 dX11_settle_128 rfl ?_
        refine z_aload_n (pc' := 130) C dX11_settle_129 rfl 1 rfl rfl ?_
        refine zgX11_84 (pc' := 133) C zo22 dX11_settle_130 rfl ?_
        refine z_iload_n (pc' := 134) C dX11_settle_133 rfl 2 rfl rfl ?_
        obtain ⟨hv8, h⟩ := h
        refine z_iald (n := 10) (pc' := 135) C (zL_mem (by decide) zo46) (fun _ => rfl) hv8 dX11_settle_134 rfl ?_
        refine z_isub (pc' := 136) C dX11_settle_135 rfl ?_
        refine z_istore_n (pc' := 137) (lv' := [(3, .int ((σ 45 0 x1.toNatClampNeg) - (σ 46 0 x1.toNatClampNeg))), (2, .int (σ 35 0 x1.toNatClampNeg)), (0, .ref (E.2.2 22 0)), (1, .int x1)]) C dX11_settle_136 rfl (by decide) rfl rfl ?_
        refine z_aload_n (pc' := 138) C dX11_settle_137 rfl 2 rfl rfl ?_
        refine zgX11_87 (pc' := 141) C zo22 dX11_settle_138 rfl ?_
        refine z_iload_n (pc' := 142) C dX11_settle_141 rfl 3 rfl rfl ?_
        refine z_iload_n (pc' := 143) C dX11_settle_142 rfl 0 rfl rfl ?_
        refine z_aload_n (pc' := 144) C dX11_settle_143 rfl 2 rfl rfl ?_
        refine zgX11_90 (pc' := 147) C zo22 dX11_settle_144 rfl ?_
        refine z_iload_n (pc' := 148) C dX11_settle_147 rfl 1 rfl rfl ?_
        obtain ⟨hv9, h⟩ := h
        refine z_iald (n := 10) (pc' := 149) C (zL_mem (by decide) zo48) (fun _ => rfl) hv9 dX11_settle_148 rfl ?_
        obtain ⟨ht, hf⟩ := h
        refine z_icmp_ge (tgt := 156) (pc' := 152) C dX11_settle_149 (by decide) rfl (fun c10 => ?_) (fun c10 => ?_)
        · have h := ht c10
          refine z_aload_n (pc' := 157) C dX11_settle_156 rfl 2 rfl rfl ?_
          refine zgX11_90 (pc' := 160) C zo22 dX11_settle_157 rfl ?_
          refine z_iload_n (pc' := 161) C dX11_settle_160 rfl 1 rfl rfl ?_
          obtain ⟨hv11, h⟩ := h
          refine z_iald (n := 10) (pc' := 162) C (zL_mem (by decide) zo48) (fun _ => rfl) hv11 dX11_settle_161 rfl ?_
          obtain ⟨hv12, h⟩ := h
          refine z_iast (n := 10) (pc' := 163) C (zL_mem (by decide) zo47) (fun _ => rfl) hv12 dX11_settle_162 rfl ?_
          refine z_aload_n (pc' := 164) C dX11_settle_163 rfl 2 rfl rfl ?_
          refine zgX11_90 (pc' := 167) C zo22 dX11_settle_164 rfl ?_
          refine z_iload_n (pc' := 168) C dX11_settle_167 rfl 1 rfl rfl ?_
          refine z_dup2 (pc' := 169) C dX11_settle_168 rfl rfl rfl ?_
          obtain ⟨hv13, h⟩ := h
          refine z_iald (n := 10) (pc' := 170) C (zL_mem (by decide) zo48) (fun _ => rfl) hv13 dX11_settle_169 rfl ?_
          refine z_aload_n (pc' := 171) C dX11_settle_170 rfl 2 rfl rfl ?_
          refine zgX11_87 (pc' := 174) C zo22 dX11_settle_171 rfl ?_
          refine z_iload_n (pc' := 175) C dX11_settle_174 rfl 3 rfl rfl ?_
          obtain ⟨hv14, h⟩ := h
          refine z_iald (n := 10) (pc' := 176) C (zL_mem (by decide) zo47) (fun _ => rfl) hv14 dX11_settle_175 rfl ?_
          refine z_isub (pc' := 177) C dX11_settle_176 rfl ?_
          obtain ⟨hv15, h⟩ := h
          refine z_iast (n := 10) (pc' := 178) C (zL_mem (by decide) zo48) (fun _ => rfl) hv15 dX11_settle_177 rfl ?_
          refine z_iinc (j := 3) (v := x1 + 1) (pc' := 181) (lv' := [(1, .int (x1 + 1)), (3, .int ((σ 45 0 x1.toNatClampNeg) - (σ 46 0 x1.toNatClampNeg))), (2, .int (σ 35 0 x1.toNatClampNeg)), (0, .ref (E.2.2 22 0))]) C dX11_settle_178 rfl rfl (by decide) rfl rfl ?_
          refine z_goto (tgt := 101) C dX11_settle_181 (by decide) ?_
          refine z_sub (lv' := [(0, .ref (E.2.2 22 0)), (1, .int (x1 + 1))]) [3, 0] rfl ?_
          exact ih _ _ h
        · have h := hf c10
          refine z_iload_n (pc' := 153) C dX11_settle_152 rfl 0 rfl rfl ?_
          refine z_goto (tgt := 162) C dX11_settle_153 (by decide) ?_
          obtain ⟨hv16, h⟩ := h
          refine z_iast (n := 10) (pc' := 163) C (zL_mem (by decide) zo47) (fun _ => rfl) hv16 dX11_settle_162 rfl ?_
          refine z_aload_n (pc' := 164) C dX11_settle_163 rfl 2 rfl rfl ?_
          refine zgX11_90 (pc' := 167) C zo22 dX11_settle_164 rfl ?_
          refine z_iload_n (pc' := 168) C dX11_settle_167 rfl 1 rfl rfl ?_
          refine z_dup2 (pc' := 169) C dX11_settle_168 rfl rfl rfl ?_
          obtain ⟨hv17, h⟩ := h
          refine z_iald (n := 10) (pc' := 170) C (zL_mem (by decide) zo48) (fun _ => rfl) hv17 dX11_settle_169 rfl ?_
          refine z_aload_n (pc' := 171) C dX11_settle_170 rfl 2 rfl rfl ?_
          refine zgX11_87 (pc' := 174) C zo22 dX11_settle_171 rfl ?_
          refine z_iload_n (pc' := 175) C dX11_settle_174 rfl 3 rfl rfl ?_
          obtain ⟨hv18, h⟩ := h
          refine z_iald (n := 10) (pc' := 176) C (zL_mem (by decide) zo47) (fun _ => rfl) hv18 dX11_settle_175 rfl ?_
          refine z_isub (pc' := 177) C dX11_settle_176 rfl ?_
          obtain ⟨hv19, h⟩ := h
          refine z_iast (n := 10) (pc' := 178) C (zL_mem (by decide) zo48) (fun _ => rfl) hv19 dX11_settle_177 rfl ?_
          refine z_iinc (j := 3) (v := x1 + 1) (pc' := 181) (lv' := [(1, .int (x1 + 1)), (3, .int ((σ 45 0 x1.toNatClampNeg) - (σ 46 0 x1.toNatClampNeg))), (2, .int (σ 35 0 x1.toNatClampNeg)), (0, .ref (E.2.2 22 0))]) C dX11_settle_178 rfl rfl (by decide) rfl rfl ?_
          refine z_goto (tgt := 101) C dX11_settle_181 (by decide) ?_
          refine z_sub (lv' := [(0, .ref (E.2.2 22 0)), (1, .int (x1 + 1))]) [3, 0] rfl ?_
          exact ih _ _ h
      · have h := hf c6
        refine z_goto (tgt := 178) C dX11_settle_120 (by decide) ?_
        refine z_iinc (j := 2) (v := x1 + 1) (pc' := 181) (lv' := [(1, .int (x1 + 1)), (2, .int (σ 35 0 x1.toNatClampNeg)), (0, .ref (E.2.2 22 0))]) C dX11_settle_178 rfl rfl (by decide) rfl rfl ?_
        refine z_goto (tgt := 101) C dX11_settle_181 (by decide) ?_
        refine z_sub (lv' := [(0, .ref (E.2.2 22 0)), (1, .int (x1 + 1))]) [2, 0] rfl ?_
        exact ih _ _ h
set_option maxHeartbeats 4000000 in
set_option maxRecDepth 100000 in
theorem sl_X11_settle_2 {p : Program} {l : Launch} {e : Env} {s : State} {m : MethodId} {args : Array Value} {below : List Frame} {meth : Method} {c : Code} {E : zE} (C : zX p s m args meth c cX11_settle 4 RX11 none E) (Q : zMem → Prop) : ∀ (n : Nat) (σ : zMem) (x1 : Int32), vc_X11_settle_2 Q n σ x1 → zG p l e (zRm 2 45) s m args below meth c 4 E 0 0 (MQ below (va_Qv Q (zPost E) (zA E s.heap.size)) args s 0 0 (zA E s.heap.size)) σ 2 [(0, .ref (E.2.2 22 0)), (1, .int x1)] [] := by
  intro n
  induction n with
  | zero =>
    intro σ x1 h
    exact False.elim h
  | succ n ih =>
    intro σ x1 h
    rw [vc_X11_settle_2] at h
    refine z_iload_n (pc' := 3) C dX11_settle_2 rfl 1 rfl rfl ?_
    refine z_aload_n (pc' := 4) C dX11_settle_3 rfl 0 rfl rfl ?_
    refine zgX11_118 (pc' := 7) C zo22 dX11_settle_4 rfl ?_
    obtain ⟨ht, hf⟩ := h
    refine z_icmp_ge (tgt := 99) (pc' := 10) C dX11_settle_7 (by decide) rfl (fun c2 => ?_) (fun c2 => ?_)
    · have h := ht c2
      refine z_iconst (v := 0) (pc' := 100) C dX11_settle_99 (by decide) rfl ?_
      refine z_istore_n (pc' := 101) (lv' := [(1, .int 0), (0, .ref (E.2.2 22 0))]) C dX11_settle_100 rfl (by decide) rfl rfl ?_
      obtain ⟨n3, h⟩ := h
      refine z_sub (lv' := [(0, .ref (E.2.2 22 0)), (1, .int 0)]) [1, 0] rfl ?_
      exact sl_X11_settle_101 C Q n3 _ _ h
    · have h := hf c2
      refine z_aload_n (pc' := 11) C dX11_settle_10 rfl 0 rfl rfl ?_
      refine zgX11_81 (pc' := 14) C zo22 dX11_settle_11 rfl ?_
      refine z_iload_n (pc' := 15) C dX11_settle_14 rfl 1 rfl rfl ?_
      refine z_aload_n (pc' := 16) C dX11_settle_15 rfl 0 rfl rfl ?_
      refine z_iload_n (pc' := 17) C dX11_settle_16 rfl 1 rfl rfl ?_
      refine z_callVi (q := 22) (i := 0) (w9 := (RX11, TX11, 40)) (pc' := 20) (st := [.int x1, .ref (E.2.2 45 0)]) (As := [.int x1]) C (sc_X11_debt l E σ x1 _ h) zwX11_146_X11_debt zvX11_146_X11_debt.1 zvX11_146_X11_debt.2 (zL_mem (by decide) zo22) rfl rfl ⟨(Nat.le_of_ble_eq_true rfl), (Nat.le_of_ble_eq_true rfl)⟩ ⟨Nat.zero_le _, Nat.zero_le _⟩ rfl rfl (Nat.le_of_ble_eq_true rfl) dX11_settle_17 rfl (fun r21 σ20 h => ?_)
      refine z_bipush (v := 10) (pc' := 22) C dX11_settle_20 (by decide) rfl ?_
      refine z_aload_n (pc' := 23) C dX11_settle_22 rfl 0 rfl rfl ?_
      refine zgX11_50 (pc' := 26) C zo22 dX11_settle_23 rfl ?_
      refine z_iload_n (pc' := 27) C dX11_settle_26 rfl 1 rfl rfl ?_
      obtain ⟨hv22, h⟩ := h
      refine z_iald (n := 10) (pc' := 28) C (zL_mem (by decide) zo36) (fun _ => rfl) hv22 dX11_settle_27 rfl ?_
      refine z_imul (pc' := 29) C dX11_settle_28 rfl ?_
      refine z_iadd (pc' := 30) C dX11_settle_29 rfl ?_
      obtain ⟨hv23, h⟩ := h
      refine z_iast (n := 10) (pc' := 31) C (zL_mem (by decide) zo45) (fun _ => rfl) hv23 dX11_settle_30 rfl ?_
      refine z_aload_n (pc' := 32) C dX11_settle_31 rfl 0 rfl rfl ?_
      refine zgX11_84 (pc' := 35) C zo22 dX11_settle_32 rfl ?_
      refine z_iload_n (pc' := 36) C dX11_settle_35 rfl 1 rfl rfl ?_
      refine z_aload_n (pc' := 37) C dX11_settle_36 rfl 0 rfl rfl ?_
      refine zgX11_81 (pc' := 40) C zo22 dX11_settle_37 rfl ?_
      refine z_iload_n (pc' := 41) C dX11_settle_40 rfl 1 rfl rfl ?_
      obtain ⟨hv24, h⟩ := h
      refine z_iald (n := 10) (pc' := 42) C (zL_mem (by decide) zo45) (fun _ => rfl) hv24 dX11_settle_41 rfl ?_
      refine z_aload_n (pc' := 43) C dX11_settle_42 rfl 0 rfl rfl ?_
      refine zgX11_38 (pc' := 46) C zo22 dX11_settle_43 rfl ?_
      refine z_iload_n (pc' := 47) C dX11_settle_46 rfl 1 rfl rfl ?_
      obtain ⟨hv25, h⟩ := h
      refine z_iald (n := 10) (pc' := 48) C (zL_mem (by decide) zo32) (fun _ => rfl) hv25 dX11_settle_47 rfl ?_
      obtain ⟨ht, hf⟩ := h
      refine z_icmp_ge (tgt := 60) (pc' := 51) C dX11_settle_48 (by decide) rfl (fun c26 => ?_) (fun c26 => ?_)
      · have h := ht c26
        refine z_aload_n (pc' := 61) C dX11_settle_60 rfl 0 rfl rfl ?_
        refine zgX11_38 (pc' := 64) C zo22 dX11_settle_61 rfl ?_
        refine z_iload_n (pc' := 65) C dX11_settle_64 rfl 1 rfl rfl ?_
        obtain ⟨hv27, h⟩ := h
        refine z_iald (n := 10) (pc' := 66) C (zL_mem (by decide) zo32) (fun _ => rfl) hv27 dX11_settle_65 rfl ?_
        obtain ⟨hv28, h⟩ := h
        refine z_iast (n := 10) (pc' := 67) C (zL_mem (by decide) zo46) (fun _ => rfl) hv28 dX11_settle_66 rfl ?_
        refine z_aload_n (pc' := 68) C dX11_settle_67 rfl 0 rfl rfl ?_
        refine zgX11_90 (pc' := 71) C zo22 dX11_settle_68 rfl ?_
        refine z_iload_n (pc' := 72) C dX11_settle_71 rfl 1 rfl rfl ?_
        refine z_aload_n (pc' := 73) C dX11_settle_72 rfl 0 rfl rfl ?_
        refine zgX11_38 (pc' := 76) C zo22 dX11_settle_73 rfl ?_
        refine z_iload_n (pc' := 77) C dX11_settle_76 rfl 1 rfl rfl ?_
        obtain ⟨hv29, h⟩ := h
        refine z_iald (n := 10) (pc' := 78) C (zL_mem (by decide) zo32) (fun _ => rfl) hv29 dX11_settle_77 rfl ?_
        refine z_aload_n (pc' := 79) C dX11_settle_78 rfl 0 rfl rfl ?_
        refine zgX11_84 (pc' := 82) C zo22 dX11_settle_79 rfl ?_
        refine z_iload_n (pc' := 83) C dX11_settle_82 rfl 1 rfl rfl ?_
        obtain ⟨hv30, h⟩ := h
        refine z_iald (n := 10) (pc' := 84) C (zL_mem (by decide) zo46) (fun _ => rfl) hv30 dX11_settle_83 rfl ?_
        refine z_isub (pc' := 85) C dX11_settle_84 rfl ?_
        obtain ⟨hv31, h⟩ := h
        refine z_iast (n := 10) (pc' := 86) C (zL_mem (by decide) zo48) (fun _ => rfl) hv31 dX11_settle_85 rfl ?_
        refine z_aload_n (pc' := 87) C dX11_settle_86 rfl 0 rfl rfl ?_
        refine zgX11_87 (pc' := 90) C zo22 dX11_settle_87 rfl ?_
        refine z_iload_n (pc' := 91) C dX11_settle_90 rfl 1 rfl rfl ?_
        refine z_iconst (v := 0) (pc' := 92) C dX11_settle_91 (by decide) rfl ?_
        obtain ⟨hv32, h⟩ := h
        refine z_iast (n := 10) (pc' := 93) C (zL_mem (by decide) zo47) (fun _ => rfl) hv32 dX11_settle_92 rfl ?_
        refine z_iinc (j := 1) (v := x1 + 1) (pc' := 96) (lv' := [(1, .int (x1 + 1)), (0, .ref (E.2.2 22 0))]) C dX11_settle_93 rfl rfl (by decide) rfl rfl ?_
        refine z_goto (tgt := 2) C dX11_settle_96 (by decide) ?_
        refine z_sub (lv' := [(0, .ref (E.2.2 22 0)), (1, .int (x1 + 1))]) [1, 0] rfl ?_
        exact ih _ _ h
      · have h := hf c26
        refine z_aload_n (pc' := 52) C dX11_settle_51 rfl 0 rfl rfl ?_
        refine zgX11_81 (pc' := 55) C zo22 dX11_settle_52 rfl ?_
        refine z_iload_n (pc' := 56) C dX11_settle_55 rfl 1 rfl rfl ?_
        obtain ⟨hv33, h⟩ := h
        refine z_iald (n := 10) (pc' := 57) C (zL_mem (by decide) zo45) (fun _ => rfl) hv33 dX11_settle_56 rfl ?_
        refine z_goto (tgt := 66) C dX11_settle_57 (by decide) ?_
        obtain ⟨hv34, h⟩ := h
        refine z_iast (n := 10) (pc' := 67) C (zL_mem (by decide) zo46) (fun _ => rfl) hv34 dX11_settle_66 rfl ?_
        refine z_aload_n (pc' := 68) C dX11_settle_67 rfl 0 rfl rfl ?_
        refine zgX11_90 (pc' := 71) C zo22 dX11_settle_68 rfl ?_
        refine z_iload_n (pc' := 72) C dX11_settle_71 rfl 1 rfl rfl ?_
        refine z_aload_n (pc' := 73) C dX11_settle_72 rfl 0 rfl rfl ?_
        refine zgX11_38 (pc' := 76) C zo22 dX11_settle_73 rfl ?_
        refine z_iload_n (pc' := 77) C dX11_settle_76 rfl 1 rfl rfl ?_
        obtain ⟨hv35, h⟩ := h
        refine z_iald (n := 10) (pc' := 78) C (zL_mem (by decide) zo32) (fun _ => rfl) hv35 dX11_settle_77 rfl ?_
        refine z_aload_n (pc' := 79) C dX11_settle_78 rfl 0 rfl rfl ?_
        refine zgX11_84 (pc' := 82) C zo22 dX11_settle_79 rfl ?_
        refine z_iload_n (pc' := 83) C dX11_settle_82 rfl 1 rfl rfl ?_
        obtain ⟨hv36, h⟩ := h
        refine z_iald (n := 10) (pc' := 84) C (zL_mem (by decide) zo46) (fun _ => rfl) hv36 dX11_settle_83 rfl ?_
        refine z_isub (pc' := 85) C dX11_settle_84 rfl ?_
        obtain ⟨hv37, h⟩ := h
        refine z_iast (n := 10) (pc' := 86) C (zL_mem (by decide) zo48) (fun _ => rfl) hv37 dX11_settle_85 rfl ?_
        refine z_aload_n (pc' := 87) C dX11_settle_86 rfl 0 rfl rfl ?_
        refine zgX11_87 (pc' := 90) C zo22 dX11_settle_87 rfl ?_
        refine z_iload_n (pc' := 91) C dX11_settle_90 rfl 1 rfl rfl ?_
        refine z_iconst (v := 0) (pc' := 92) C dX11_settle_91 (by decide) rfl ?_
        obtain ⟨hv38, h⟩ := h
        refine z_iast (n := 10) (pc' := 93) C (zL_mem (by decide) zo47) (fun _ => rfl) hv38 dX11_settle_92 rfl ?_
        refine z_iinc (j := 1) (v := x1 + 1) (pc' := 96) (lv' := [(1, .int (x1 + 1)), (0, .ref (E.2.2 22 0))]) C dX11_settle_93 rfl rfl (by decide) rfl rfl ?_
        refine z_goto (tgt := 2) C dX11_settle_96 (by decide) ?_
        refine z_sub (lv' := [(0, .ref (E.2.2 22 0)), (1, .int (x1 + 1))]) [1, 0] rfl ?_
        exact ih _ _ h
set_option maxHeartbeats 4000000 in
set_option maxRecDepth 100000 in
theorem sc_X11_settle (l : Launch) (E : zE) (σ : zMem) (Q : zMem → Prop) (h : vc_X11_settle σ Q) : zMv l yX11_settle cX11_settle 4 2 45 E [.ref (E.2.2 22 0)] σ Q := by
  refine zMv_of (by decide) (Nat.le_of_ble_eq_true rfl) ?_
  intro p e s m args below meth c C
  unfold vc_X11_settle at h
  have fin : zG p l e (zRm 2 45) s m args below meth c 4 E 0 0 (MQ below (va_Qv Q (zPost E) (zA E s.heap.size)) args s 0 0 (zA E s.heap.size)) σ 0 [(0, .ref (E.2.2 22 0))] [] := by
    refine z_iconst (v := 0) (pc' := 1) C dX11_settle_0 (by decide) rfl ?_
    refine z_istore_n (pc' := 2) (lv' := [(1, .int 0), (0, .ref (E.2.2 22 0))]) C dX11_settle_1 rfl (by decide) rfl rfl ?_
    obtain ⟨n1, h⟩ := h
    refine z_sub (lv' := [(0, .ref (E.2.2 22 0)), (1, .int 0)]) [1, 0] rfl ?_
    exact sl_X11_settle_2 C Q n1 _ _ h
  exact fin
