def vc_X10_worth (σ : zMem) (a0 : Int32) (a1 : Int32) (Q : Int32 → zMem → Prop) : Prop := vc_X10_isPlot σ a0 (fun r2 σ1 => ((r2 = 0) → Q ((-1)) σ1) ∧ ((¬ r2 = 0) → vc_X10_isBuyer σ1 a1 (fun r5 σ4 => ((¬ r5 = 0) → vc_X10_worthTo σ4 a1 a0 (fun r8 σ7 => Q r8 σ7)) ∧ ((r5 = 0) → Q ((-1)) σ4))))
set_option maxHeartbeats 4000000 in
set_option maxRecDepth 100000 in
theorem sc_X10_worth (l : Launch) (E : zE) (σ : zMem) (a0 : Int32) (a1 : Int32) (Q : Int32 → zMem → Prop) (h : vc_X10_worth σ a0 a1 Q) : zMi l yX10_worth cX10_worth 3 .int 4 87 E [.ref (E.2.2 0 0), .int a0, .int a1] σ Q := by
  refine zMi_of (by decide) (Nat.le_of_ble_eq_true rfl) ?_
  intro p e s m args below meth c C
  unfold vc_X10_worth at h
  have fin : zG p l e (zRm 4 87) s m args below meth c 3 E 0 0 (MQ below (va_Qi Q (zPost E) (zA E s.heap.size)) args s 0 0 (zA E s.heap.size)) σ 0 [(0, .ref (E.2.2 0 0)), (1, .int a0), (2, .int a1)] [] := by
    refine z_iload_n (pc' := 1) C dX10_worth_0 rfl 1 rfl rfl ?_
    refine z_callSi (pc' := 4) (st := []) (As := [.int a0]) C (sc_X10_isPlot l E σ a0 _ h) zwX10_77_X10_isPlot ztX10_77_X10_isPlot ⟨(Nat.le_of_ble_eq_true rfl), (Nat.le_of_ble_eq_true rfl)⟩ ⟨Nat.zero_le _, Nat.zero_le _⟩ rfl rfl (Nat.le_of_ble_eq_true rfl) dX10_worth_1 rfl (fun r2 σ1 h => ?_)
    obtain ⟨ht, hf⟩ := h
    refine z_if_eq (tgt := 15) (pc' := 7) C dX10_worth_4 (by decide) rfl (fun c3 => ?_) (fun c3 => ?_)
    · have h := ht c3
      refine z_iconst (v := (-1)) (pc' := 16) C dX10_worth_15 (by decide) rfl ?_
      exact z_iret C dX10_worth_16 h
    · have h := hf c3
      refine z_aload_n (pc' := 8) C dX10_worth_7 rfl 0 rfl rfl ?_
      refine z_iload_n (pc' := 9) C dX10_worth_8 rfl 2 rfl rfl ?_
      refine z_callVi (q := 0) (i := 0) (w9 := (RX10, TX10, 12)) (pc' := 12) (st := []) (As := [.int a1]) C (sc_X10_isBuyer l E σ1 a1 _ h) zwX10_112_X10_isBuyer zvX10_112_X10_isBuyer.1 zvX10_112_X10_isBuyer.2 (zL_mem (by decide) zo0) rfl rfl ⟨(Nat.le_of_ble_eq_true rfl), (Nat.le_of_ble_eq_true rfl)⟩ ⟨Nat.zero_le _, Nat.zero_le _⟩ rfl rfl (Nat.le_of_ble_eq_true rfl) dX10_worth_9 rfl (fun r5 σ4 h => ?_)
      obtain ⟨ht, hf⟩ := h
      refine z_if_ne (tgt := 17) (pc' := 15) C dX10_worth_12 (by decide) rfl (fun c6 => ?_) (fun c6 => ?_)
      · have h := ht c6
        refine z_aload_n (pc' := 18) C dX10_worth_17 rfl 0 rfl rfl ?_
        refine z_iload_n (pc' := 19) C dX10_worth_18 rfl 2 rfl rfl ?_
        refine z_iload_n (pc' := 20) C dX10_worth_19 rfl 1 rfl rfl ?_
        refine z_callVi (q := 0) (i := 0) (w9 := (RX10, TX10, 12)) (pc' := 23) (st := []) (As := [.int a1, .int a0]) C (sc_X10_worthTo l E σ4 a1 a0 _ h) zwX10_158_X10_worthTo zvX10_158_X10_worthTo.1 zvX10_158_X10_worthTo.2 (zL_mem (by decide) zo0) rfl rfl ⟨(Nat.le_of_ble_eq_true rfl), (Nat.le_of_ble_eq_true rfl)⟩ ⟨Nat.zero_le _, Nat.zero_le _⟩ rfl rfl (Nat.le_of_ble_eq_true rfl) dX10_worth_20 rfl (fun r8 σ7 h => ?_)
        exact z_iret C dX10_worth_23 h
      · have h := hf c6
        refine z_iconst (v := (-1)) (pc' := 16) C dX10_worth_15 (by decide) rfl ?_
        exact z_iret C dX10_worth_16 h
  exact fin
def vc_X10_prepareSale_24 (x1 : Int32) (Q : zMem → Prop) : Nat → zMem → Int32 → Prop
  | 0, _, _ => False
  | n + 1, σ, x2 => (((σ 0 0 8) ≤ x2) → Q σ) ∧ ((¬ (σ 0 0 8) ≤ x2) → vc_X10_worthTo σ x2 x1 (fun r4 σ3 => vp_in x2 10 ∧ vp_in x2 10 ∧ vp_in x2 10 ∧ vp_in x2 10 ∧ vp_in x2 10 ∧ vc_X10_prepareSale_24 x1 Q n (um (um σ3 13 0 x2.toNatClampNeg ((if ((σ3 6 x2.toNatClampNeg 1) - (σ3 6 x2.toNatClampNeg 3)) < r4 then (σ3 6 x2.toNatClampNeg 1) - (σ3 6 x2.toNatClampNeg 3) else r4))) 14 0 x2.toNatClampNeg (vp_nar .boolean ((um σ3 13 0 x2.toNatClampNeg ((if ((σ3 6 x2.toNatClampNeg 1) - (σ3 6 x2.toNatClampNeg 3)) < r4 then (σ3 6 x2.toNatClampNeg 1) - (σ3 6 x2.toNatClampNeg 3) else r4))) 6 x2.toNatClampNeg 5))) (x2 + 1)))
def vc_X10_prepareSale (σ : zMem) (a0 : Int32) (Q : zMem → Prop) : Prop := ∃ n1, vc_X10_prepareSale_24 a0 Q n1 (um (um σ 12 0 2 (σ 0 0 8)) 12 0 3 ((um σ 12 0 2 (σ 0 0 8)) 0 0 9)) 0
set_option maxHeartbeats 4000000 in
set_option maxRecDepth 100000 in
theorem sl_X10_prepareSale_24 {p : Program} {l : Launch} {e : Env} {s : State} {m : MethodId} {args : Array Value} {below : List Frame} {meth : Method} {c : Code} {E : zE} (C : zX p s m args meth c cX10_prepareSale 3 RX10 none E) (x1 : Int32) (Q : zMem → Prop) : ∀ (n : Nat) (σ : zMem) (x2 : Int32), vc_X10_prepareSale_24 x1 Q n σ x2 → zG p l e (zRm 4 87) s m args below meth c 3 E 0 0 (MQ below (va_Qv Q (zPost E) (zA E s.heap.size)) args s 0 0 (zA E s.heap.size)) σ 24 [(0, .ref (E.2.2 0 0)), (1, .int x1), (2, .int x2)] [] := by
  intro n
  induction n with
  | zero =>
    intro σ x2 h
    exact False.elim h
  | succ n ih =>
    intro σ x2 h
    rw [vc_X10_prepareSale_24] at h
    refine z_iload_n (pc' := 25) C dX10_prepareSale_24 rfl 2 rfl rfl ?_
    refine z_aload_n (pc' := 26) C dX10_prepareSale_25 rfl 0 rfl rfl ?_
    refine zgX10_100 (pc' := 29) C zo0 dX10_prepareSale_26 rfl ?_
    obtain ⟨ht, hf⟩ := h
    refine z_icmp_ge (tgt := 93) (pc' := 32) C dX10_prepareSale_29 (by decide) rfl (fun c2 => ?_) (fun c2 => ?_)
    · have h := ht c2
      exact z_vret C dX10_prepareSale_93 h
    · have h := hf c2
      refine z_aload_n (pc' := 33) C dX10_prepareSale_32 rfl 0 rfl rfl ?_
      refine zgX10_40 (pc' := 36) C zo0 dX10_prepareSale_33 rfl ?_
      refine zgX10_328 (pc' := 39) C zo12 dX10_prepareSale_36 rfl ?_
      refine z_iload_n (pc' := 40) C dX10_prepareSale_39 rfl 2 rfl rfl ?_
      refine z_aload_n (pc' := 41) C dX10_prepareSale_40 rfl 0 rfl rfl ?_
      refine z_iload_n (pc' := 42) C dX10_prepareSale_41 rfl 2 rfl rfl ?_
      refine z_iload_n (pc' := 43) C dX10_prepareSale_42 rfl 1 rfl rfl ?_
      refine z_callVi (q := 0) (i := 0) (w9 := (RX10, TX10, 12)) (pc' := 46) (st := [.int x2, .ref (E.2.2 13 0)]) (As := [.int x2, .int x1]) C (sc_X10_worthTo l E σ x2 x1 _ h) zwX10_158_X10_worthTo zvX10_158_X10_worthTo.1 zvX10_158_X10_worthTo.2 (zL_mem (by decide) zo0) rfl rfl ⟨(Nat.le_of_ble_eq_true rfl), (Nat.le_of_ble_eq_true rfl)⟩ ⟨Nat.zero_le _, Nat.zero_le _⟩ rfl rfl (Nat.le_of_ble_eq_true rfl) dX10_prepareSale_43 rfl (fun r4 σ3 h => ?_)
      refine z_aload_n (pc' := 47) C dX10_prepareSale_46 rfl 0 rfl rfl ?_
      refine zgX10_23 (pc' := 50) C zo0 dX10_prepareSale_47 rfl ?_
      refine z_iload_n (pc' := 51) C dX10_prepareSale_50 rfl 2 rfl rfl ?_
      obtain ⟨hv5, h⟩ := h
      refine z_aald (n := 10) (t0 := 5) (q2 := 6) (pc' := 52) C (zL_mem (by decide) zo5) (fun _ => rfl) rfl hv5 dX10_prepareSale_51 rfl ?_
      refine zgX10_106 (pc' := 55) C (zin hv5) dX10_prepareSale_52 rfl ?_
      refine z_aload_n (pc' := 56) C dX10_prepareSale_55 rfl 0 rfl rfl ?_
      refine zgX10_23 (pc' := 59) C zo0 dX10_prepareSale_56 rfl ?_
      refine z_iload_n (pc' := 60) C dX10_prepareSale_59 rfl 2 rfl rfl ?_
      obtain ⟨hv6, h⟩ := h
      refine z_aald (n := 10) (t0 := 5) (q2 := 6) (pc' := 61) C (zL_mem (by decide) zo5) (fun _ => rfl) rfl hv6 dX10_prepareSale_60 rfl ?_
      refine zgX10_152 (pc' := 64) C (zin hv6) dX10_prepareSale_61 rfl ?_
      refine z_isub (pc' := 65) C dX10_prepareSale_64 rfl ?_
      refine z_mmin (pc' := 68) C zmX10_331 (Nat.le_of_ble_eq_true rfl) (Nat.le_of_ble_eq_true rfl) (Nat.zero_le _) (Nat.zero_le _) dX10_prepareSale_65 rfl ?_
      obtain ⟨hv7, h⟩ := h
      refine z_iast (n := 10) (pc' := 69) C (zL_mem (by decide) zo13) (fun _ => rfl) hv7 dX10_prepareSale_68 rfl ?_
      refine z_aload_n (pc' := 70) C dX10_prepareSale_69 rfl 0 rfl rfl ?_
      refine zgX10_40 (pc' := 73) C zo0 dX10_prepareSale_70 rfl ?_
      refine zgX10_334 (pc' := 76) C zo12 dX10_prepareSale_73 rfl ?_
      refine z_iload_n (pc' := 77) C dX10_prepareSale_76 rfl 2 rfl rfl ?_
      refine z_aload_n (pc' := 78) C dX10_prepareSale_77 rfl 0 rfl rfl ?_
      refine zgX10_23 (pc' := 81) C zo0 dX10_prepareSale_78 rfl ?_
      refine z_iload_n (pc' := 82) C dX10_prepareSale_81 rfl 2 rfl rfl ?_
      obtain ⟨hv8, h⟩ := h
      refine z_aald (n := 10) (t0 := 5) (q2 := 6) (pc' := 83) C (zL_mem (by decide) zo5) (fun _ => rfl) rfl hv8 dX10_prepareSale_82 rfl ?_
      refine zgX10_115 (pc' := 86) C (zin hv8) dX10_prepareSale_83 rfl ?_
      obtain ⟨hv9, h⟩ := h
      refine z_zast (n := 10) (pc' := 87) C (zL_mem (by decide) zo14) (fun _ => rfl) hv9 dX10_prepareSale_86 rfl ?_
      refine z_iinc (j := 2) (v := x2 + 1) (pc' := 90) (lv' := [(2, .int (x2 + 1)), (0, .ref (E.2.2 0 0)), (1, .int x1)]) C dX10_prepareSale_87 rfl rfl (by decide) rfl rfl ?_
      refine z_goto (tgt := 24) C dX10_prepareSale_90 (by decide) ?_
      refine z_sub (lv' := [(0, .ref (E.2.2 0 0)), (1, .int x1), (2, .int (x2 + 1))]) [1, 2, 0] rfl ?_
      exact ih _ _ h
set_option maxHeartbeats 4000000 in
set_option maxRecDepth 100000 in
theorem sc_X10_prepareSale (l : Launch) (E : zE) (σ : zMem) (a0 : Int32) (Q : zMem → Prop) (h : vc_X10_prepareSale σ a0 Q) : zMv l yX10_prepareSale cX10_prepareSale 3 4 87 E [.ref (E.2.2 0 0), .int a0] σ Q := by
  refine zMv_of (by decide) (Nat.le_of_ble_eq_true rfl) ?_
  intro p e s m args below meth c C
  unfold vc_X10_prepareSale at h
  have fin : zG p l e (zRm 4 87) s m args below meth c 3 E 0 0 (MQ below (va_Qv Q (zPost E) (zA E s.heap.size)) args s 0 0 (zA E s.heap.size)) σ 0 [(0, .ref (E.2.2 0 0)), (1, .int a0)] [] := by
    refine z_aload_n (pc' := 1) C dX10_prepareSale_0 rfl 0 rfl rfl ?_
    refine zgX10_40 (pc' := 4) C zo0 dX10_prepareSale_1 rfl ?_
    refine z_aload_n (pc' := 5) C dX10_prepareSale_4 rfl 0 rfl rfl ?_
    refine zgX10_100 (pc' := 8) C zo0 dX10_prepareSale_5 rfl ?_
    refine zpX10_322 (pc' := 11) C zo12 dX10_prepareSale_8 rfl ?_
    refine z_aload_n (pc' := 12) C dX10_prepareSale_11 rfl 0 rfl rfl ?_
    refine zgX10_40 (pc' := 15) C zo0 dX10_prepareSale_12 rfl ?_
    refine z_aload_n (pc' := 16) C dX10_prepareSale_15 rfl 0 rfl rfl ?_
    refine zgX10_58 (pc' := 19) C zo0 dX10_prepareSale_16 rfl ?_
    refine zpX10_325 (pc' := 22) C zo12 dX10_prepareSale_19 rfl ?_
    refine z_iconst (v := 0) (pc' := 23) C dX10_prepareSale_22 (by decide) rfl ?_
    refine z_istore_n (pc' := 24) (lv' := [(2, .int 0), (0, .ref (E.2.2 0 0)), (1, .int a0)]) C dX10_prepareSale_23 rfl (by decide) rfl rfl ?_
    obtain ⟨n1, h⟩ := h
    refine z_sub (lv' := [(0, .ref (E.2.2 0 0)), (1, .int a0), (2, .int 0)]) [1, 2, 0] rfl ?_
    exact sl_X10_prepareSale_24 C a0 Q n1 _ _ h
  exact fin
def vc_X10_hand (σ : zMem) (i0 : Nat) (a1 : Int32) (a2 : Int32) (Q : zMem → Prop) : Prop := vp_in a1 10 ∧ Q (um (um (um σ 4 i0 3 a1) 4 i0 4 a2) 6 a1.toNatClampNeg 3 (((um (um σ 4 i0 3 a1) 4 i0 4 a2) 6 a1.toNatClampNeg 3) + a2))
set_option maxHeartbeats 4000000 in
set_option maxRecDepth 100000 in
theorem sc_X10_hand (l : Launch) (E : zE) (σ : zMem) (i0 : Nat) (a1 : Int32) (a2 : Int32) (Q : zMem → Prop) (hi0 : i0 < zcnt 4) (h : vc_X10_hand σ i0 a1 a2 Q) : zMv l yX10_hand cX10_hand 4 0 0 E [.ref (E.2.2 0 0), .ref (E.2.2 4 i0), .int a1, .int a2] σ Q := by
  refine zMv_of (by decide) (Nat.le_of_ble_eq_true rfl) ?_
  intro p e s m args below meth c C
  unfold vc_X10_hand at h
  have fin : zG p l e (zRm 0 0) s m args below meth c 4 E 0 0 (MQ below (va_Qv Q (zPost E) (zA E s.heap.size)) args s 0 0 (zA E s.heap.size)) σ 0 [(0, .ref (E.2.2 0 0)), (1, .ref (E.2.2 4 i0)), (2, .int a1), (3, .int a2)] [] := by
    refine z_aload_n (pc' := 1) C dX10_hand_0 rfl 1 rfl rfl ?_
    refine z_iload_n (pc' := 2) C dX10_hand_1 rfl 2 rfl rfl ?_
    refine zpX10_133 (pc' := 5) C hi0 dX10_hand_2 rfl ?_
    refine z_aload_n (pc' := 6) C dX10_hand_5 rfl 1 rfl rfl ?_
    refine z_iload_n (pc' := 7) C dX10_hand_6 rfl 3 rfl rfl ?_
    refine zpX10_136 (pc' := 10) C hi0 dX10_hand_7 rfl ?_
    refine z_aload_n (pc' := 11) C dX10_hand_10 rfl 0 rfl rfl ?_
    refine zgX10_23 (pc' := 14) C zo0 dX10_hand_11 rfl ?_
    refine z_iload_n (pc' := 15) C dX10_hand_14 rfl 2 rfl rfl ?_
    obtain ⟨hv1, h⟩ := h
    refine z_aald (n := 10) (t0 := 5) (q2 := 6) (pc' := 16) C (zL_mem (by decide) zo5) (fun _ => rfl) rfl hv1 dX10_hand_15 rfl ?_
    refine z_dup (pc' := 17) C dX10_hand_16 rfl rfl ?_
    refine zgX10_152 (pc' := 20) C (zin hv1) dX10_hand_17 rfl ?_
    refine z_iload_n (pc' := 21) C dX10_hand_20 rfl 3 rfl rfl ?_
    refine z_iadd (pc' := 22) C dX10_hand_21 rfl ?_
    refine zpX10_152 (pc' := 25) C (zin hv1) dX10_hand_22 rfl ?_
    exact z_vret C dX10_hand_25 h
  exact fin
def vc_X10_candle (σ : zMem) (a0 : Int32) (a1 : Int32) (a2 : Int32) (Q : Int32 → zMem → Prop) : Prop := vc_X10_isPlot σ a0 (fun r2 σ1 => ((r2 = 0) → Q ((-1)) σ1) ∧ ((¬ r2 = 0) → ((a1 < 1) → Q ((-1)) σ1) ∧ ((¬ a1 < 1) → ((60 < a1) → Q ((-1)) σ1) ∧ ((¬ 60 < a1) → vc_X10_isBuyer σ1 a2 (fun r7 σ6 => ((¬ r7 = 0) → vp_in a0 24 ∧ vc_X5_isSold σ6 a0.toNatClampNeg (fun r11 σ10 => ((r11 = 0) → vc_X10_prepareSale σ10 a0 (fun σ13 => vc_X6_burn σ13 a1 a2 (fun σ14 => ((¬ (σ14 12 0 4) = ((-2))) → vc_X6_lotTaker σ14 (fun r17 σ16 => vc_X6_lotPrice σ16 r17 (fun r19 σ18 => vp_in a0 24 ∧ vc_X10_hand (um σ18 0 0 11 ((σ14 0 0 11) + ((σ14 12 0 5) - r19))) a0.toNatClampNeg ((um σ18 0 0 11 ((σ14 0 0 11) + ((σ14 12 0 5) - r19))) 12 0 4) ((um σ18 0 0 11 ((σ14 0 0 11) + ((σ14 12 0 5) - r19))) 12 0 5) (fun σ21 => Q (σ21 12 0 5) σ21)))) ∧ (((σ14 12 0 4) = ((-2))) → Q ((-4)) σ14)))) ∧ ((¬ r11 = 0) → Q ((-3)) σ10))) ∧ ((r7 = 0) → Q ((-1)) σ6))))))
set_option maxHeartbeats 4000000 in
set_option maxRecDepth 100000 in
theorem sc_X10_candle (l : Launch) (E : zE) (σ : zMem) (a0 : Int32) (a1 : Int32) (a2 : Int32) (Q : Int32 → zMem → Prop) (h : vc_X10_candle σ a0 a1 a2 Q) : zMi l yX10_candle cX10_candle 4 .int 5 109 E [.ref (E.2.2 0 0), .int a0, .int a1, .int a2] σ Q := by
  refine zMi_of (by decide) (Nat.le_of_ble_eq_true rfl) ?_
  intro p e s m args below meth c C
  unfold vc_X10_candle at h
  have fin : zG p l e (zRm 5 109) s m args below meth c 4 E 0 0 (MQ below (va_Qi Q (zPost E) (zA E s.heap.size)) args s 0 0 (zA E s.heap.size)) σ 0 [(0, .ref (E.2.2 0 0)), (1, .int a0), (2, .int a1), (3, .int a2)] [] := by
    refine z_iload_n (pc' := 1) C dX10_candle_0 rfl 1 rfl rfl ?_
    refine z_callSi (pc' := 4) (st := []) (As := [.int a0]) C (sc_X10_isPlot l E σ a0 _ h) zwX10_77_X10_isPlot ztX10_77_X10_isPlot ⟨(Nat.le_of_ble_eq_true rfl), (Nat.le_of_ble_eq_true rfl)⟩ ⟨Nat.zero_le _, Nat.zero_le _⟩ rfl rfl (Nat.le_of_ble_eq_true rfl) dX10_candle_1 rfl (fun r2 σ1 h => ?_)
    obtain ⟨ht, hf⟩ := h
    refine z_if_eq (tgt := 26) (pc' := 7) C dX10_candle_4 (by decide) rfl (fun c3 => ?_) (fun c3 => ?_)
    · have h := ht c3
      refine z_iconst (v := (-1)) (pc' := 27) C dX10_candle_26 (by decide) rfl ?_
      exact z_iret C dX10_candle_27 h
    · have h := hf c3
      refine z_iload_n (pc' := 8) C dX10_candle_7 rfl 2 rfl rfl ?_
      refine z_iconst (v := 1) (pc' := 9) C dX10_candle_8 (by decide) rfl ?_
      obtain ⟨ht, hf⟩ := h
      refine z_icmp_lt (tgt := 26) (pc' := 12) C dX10_candle_9 (by decide) rfl (fun c4 => ?_) (fun c4 => ?_)
      · have h := ht c4
        refine z_iconst (v := (-1)) (pc' := 27) C dX10_candle_26 (by decide) rfl ?_
        exact z_iret C dX10_candle_27 h
      · have h := hf c4
        refine z_iload_n (pc' := 13) C dX10_candle_12 rfl 2 rfl rfl ?_
        refine z_bipush (v := 60) (pc' := 15) C dX10_candle_13 (by decide) rfl ?_
        obtain ⟨ht, hf⟩ := h
        refine z_icmp_gt (tgt := 26) (pc' := 18) C dX10_candle_15 (by decide) rfl (fun c5 => ?_) (fun c5 => ?_)
        · have h := ht c5
          refine z_iconst (v := (-1)) (pc' := 27) C dX10_candle_26 (by decide) rfl ?_
          exact z_iret C dX10_candle_27 h
        · have h := hf c5
          refine z_aload_n (pc' := 19) C dX10_candle_18 rfl 0 rfl rfl ?_
          refine z_iload_n (pc' := 20) C dX10_candle_19 rfl 3 rfl rfl ?_
          refine z_callVi (q := 0) (i := 0) (w9 := (RX10, TX10, 12)) (pc' := 23) (st := []) (As := [.int a2]) C (sc_X10_isBuyer l E σ1 a2 _ h) zwX10_112_X10_isBuyer zvX10_112_X10_isBuyer.1 zvX10_112_X10_isBuyer.2 (zL_mem (by decide) zo0) rfl rfl ⟨(Nat.le_of_ble_eq_true rfl), (Nat.le_of_ble_eq_true rfl)⟩ ⟨Nat.zero_le _, Nat.zero_le _⟩ rfl rfl (Nat.le_of_ble_eq_true rfl) dX10_candle_20 rfl (fun r7 σ6 h => ?_)
          obtain ⟨ht, hf⟩ := h
          refine z_if_ne (tgt := 28) (pc' := 26) C dX10_candle_23 (by decide) rfl (fun c8 => ?_) (fun c8 => ?_)
          · have h := ht c8
            refine z_aload_n (pc' := 29) C dX10_candle_28 rfl 0 rfl rfl ?_
            refine zgX10_17 (pc' := 32) C zo0 dX10_candle_29 rfl ?_
            refine z_iload_n (pc' := 33) C dX10_candle_32 rfl 1 rfl rfl ?_
            obtain ⟨hv9, h⟩ := h
            refine z_aald (n := 24) (t0 := 4) (q2 := 4) (pc' := 34) C (zL_mem (by decide) zo3) (fun _ => rfl) rfl hv9 dX10_candle_33 rfl ?_
            refine z_callVi (q := 4) (i := a0.toNatClampNeg) (w9 := (RX5, TX5, 6)) (pc' := 37) (st := []) (As := []) C (sc_X5_isSold l E σ6 a0.toNatClampNeg _ (zin hv9) h) zwX10_85_X5_isSold zvX10_85_X5_isSold.1 zvX10_85_X5_isSold.2 (zL_mem (by decide) (zin hv9)) rfl rfl ⟨(Nat.le_of_ble_eq_true rfl), (Nat.le_of_ble_eq_true rfl)⟩ ⟨Nat.zero_le _, Nat.zero_le _⟩ rfl rfl (Nat.le_of_ble_eq_true rfl) dX10_candle_34 rfl (fun r11 σ10 h => ?_)
            obtain ⟨ht, hf⟩ := h
            refine z_if_eq (tgt := 43) (pc' := 40) C dX10_candle_37 (by decide) rfl (fun c12 => ?_) (fun c12 => ?_)
            · have h := ht c12
              refine z_aload_n (pc' := 44) C dX10_candle_43 rfl 0 rfl rfl ?_
              refine z_iload_n (pc' := 45) C dX10_candle_44 rfl 1 rfl rfl ?_
              refine z_callVv (q := 0) (i := 0) (w9 := (RX10, TX10, 12)) (pc' := 48) (st := []) (As := [.int a0]) C (sc_X10_prepareSale l E σ10 a0 _ h) zwX10_162_X10_prepareSale zvX10_162_X10_prepareSale.1 zvX10_162_X10_prepareSale.2 (zL_mem (by decide) zo0) rfl rfl ⟨(Nat.le_of_ble_eq_true rfl), (Nat.le_of_ble_eq_true rfl)⟩ ⟨Nat.zero_le _, Nat.zero_le _⟩ rfl rfl (Nat.le_of_ble_eq_true rfl) dX10_candle_45 rfl (fun σ13 h => ?_)
              refine z_aload_n (pc' := 49) C dX10_candle_48 rfl 0 rfl rfl ?_
              refine zgX10_40 (pc' := 52) C zo0 dX10_candle_49 rfl ?_
              refine z_iload_n (pc' := 53) C dX10_candle_52 rfl 2 rfl rfl ?_
              refine z_iload_n (pc' := 54) C dX10_candle_53 rfl 3 rfl rfl ?_
              refine z_callVv (q := 12) (i := 0) (w9 := (RX6, TX6, 6)) (pc' := 57) (st := []) (As := [.int a1, .int a2]) C (sc_X6_burn l E σ13 a1 a2 _ h) zwX10_166_X6_burn zvX10_166_X6_burn.1 zvX10_166_X6_burn.2 (zL_mem (by decide) zo12) rfl rfl ⟨(Nat.le_of_ble_eq_true rfl), (Nat.le_of_ble_eq_true rfl)⟩ ⟨Nat.zero_le _, Nat.zero_le _⟩ rfl rfl (Nat.le_of_ble_eq_true rfl) dX10_candle_54 rfl (fun σ14 h => ?_)
              refine z_aload_n (pc' := 58) C dX10_candle_57 rfl 0 rfl rfl ?_
              refine zgX10_40 (pc' := 61) C zo0 dX10_candle_58 rfl ?_
              refine zgX10_170 (pc' := 64) C zo12 dX10_candle_61 rfl ?_
              refine z_bipush (v := (-2)) (pc' := 66) C dX10_candle_64 (by decide) rfl ?_
              obtain ⟨ht, hf⟩ := h
              refine z_icmp_ne (tgt := 72) (pc' := 69) C dX10_candle_66 (by decide) rfl (fun c15 => ?_) (fun c15 => ?_)
              · have h := ht c15
                refine z_aload_n (pc' := 73) C dX10_candle_72 rfl 0 rfl rfl ?_
                refine z_dup (pc' := 74) C dX10_candle_73 rfl rfl ?_
                refine zgX10_173 (pc' := 77) C zo0 dX10_candle_74 rfl ?_
                refine z_aload_n (pc' := 78) C dX10_candle_77 rfl 0 rfl rfl ?_
                refine zgX10_40 (pc' := 81) C zo0 dX10_candle_78 rfl ?_
                refine zgX10_176 (pc' := 84) C zo12 dX10_candle_81 rfl ?_
                refine z_aload_n (pc' := 85) C dX10_candle_84 rfl 0 rfl rfl ?_
                refine zgX10_40 (pc' := 88) C zo0 dX10_candle_85 rfl ?_
                refine z_aload_n (pc' := 89) C dX10_candle_88 rfl 0 rfl rfl ?_
                refine zgX10_40 (pc' := 92) C zo0 dX10_candle_89 rfl ?_
                refine z_callVi (q := 12) (i := 0) (w9 := (RX6, TX6, 6)) (pc' := 95) (st := [.ref (E.2.2 12 0), .int (σ14 12 0 5), .int (σ14 0 0 11), .ref (E.2.2 0 0)]) (As := []) C (sc_X6_lotTaker l E σ14  _ h) zwX10_179_X6_lotTaker zvX10_179_X6_lotTaker.1 zvX10_179_X6_lotTaker.2 (zL_mem (by decide) zo12) rfl rfl ⟨(Nat.le_of_ble_eq_true rfl), (Nat.le_of_ble_eq_true rfl)⟩ ⟨Nat.zero_le _, Nat.zero_le _⟩ rfl rfl (Nat.le_of_ble_eq_true rfl) dX10_candle_92 rfl (fun r17 σ16 h => ?_)
                refine z_callVi (q := 12) (i := 0) (w9 := (RX6, TX6, 6)) (pc' := 98) (st := [.int (σ14 12 0 5), .int (σ14 0 0 11), .ref (E.2.2 0 0)]) (As := [.int r17]) C (sc_X6_lotPrice l E σ16 r17 _ h) zwX10_182_X6_lotPrice zvX10_182_X6_lotPrice.1 zvX10_182_X6_lotPrice.2 (zL_mem (by decide) zo12) rfl rfl ⟨(Nat.le_of_ble_eq_true rfl), (Nat.le_of_ble_eq_true rfl)⟩ ⟨Nat.zero_le _, Nat.zero_le _⟩ rfl rfl (Nat.le_of_ble_eq_true rfl) dX10_candle_95 rfl (fun r19 σ18 h => ?_)
                refine z_isub (pc' := 99) C dX10_candle_98 rfl ?_
                refine z_iadd (pc' := 100) C dX10_candle_99 rfl ?_
                refine zpX10_173 (pc' := 103) C zo0 dX10_candle_100 rfl ?_
                refine z_aload_n (pc' := 104) C dX10_candle_103 rfl 0 rfl rfl ?_
                refine z_aload_n (pc' := 105) C dX10_candle_104 rfl 0 rfl rfl ?_
                refine zgX10_17 (pc' := 108) C zo0 dX10_candle_105 rfl ?_
                refine z_iload_n (pc' := 109) C dX10_candle_108 rfl 1 rfl rfl ?_
                obtain ⟨hv20, h⟩ := h
                refine z_aald (n := 24) (t0 := 4) (q2 := 4) (pc' := 110) C (zL_mem (by decide) zo3) (fun _ => rfl) rfl hv20 dX10_candle_109 rfl ?_
                refine z_aload_n (pc' := 111) C dX10_candle_110 rfl 0 rfl rfl ?_
                refine zgX10_40 (pc' := 114) C zo0 dX10_candle_111 rfl ?_
                refine zgX10_170 (pc' := 117) C zo12 dX10_candle_114 rfl ?_
                refine z_aload_n (pc' := 118) C dX10_candle_117 rfl 0 rfl rfl ?_
                refine zgX10_40 (pc' := 121) C zo0 dX10_candle_118 rfl ?_
                refine zgX10_176 (pc' := 124) C zo12 dX10_candle_121 rfl ?_
                refine z_callVv (q := 0) (i := 0) (w9 := (RX10, TX10, 12)) (pc' := 127) (st := []) (As := [.ref (E.2.2 4 a0.toNatClampNeg), .int ((um σ18 0 0 11 ((σ14 0 0 11) + ((σ14 12 0 5) - r19))) 12 0 4), .int ((um σ18 0 0 11 ((σ14 0 0 11) + ((σ14 12 0 5) - r19))) 12 0 5)]) C (sc_X10_hand l E (um σ18 0 0 11 ((σ14 0 0 11) + ((σ14 12 0 5) - r19))) a0.toNatClampNeg ((um σ18 0 0 11 ((σ14 0 0 11) + ((σ14 12 0 5) - r19))) 12 0 4) ((um σ18 0 0 11 ((σ14 0 0 11) + ((σ14 12 0 5) - r19))) 12 0 5) _ (zin hv20) h) zwX10_185_X10_hand zvX10_185_X10_hand.1 zvX10_185_X10_hand.2 (zL_mem (by decide) zo0) rfl rfl ⟨(Nat.le_of_ble_eq_true rfl), (Nat.le_of_ble_eq_true rfl)⟩ ⟨Nat.zero_le _, Nat.zero_le _⟩ rfl rfl (Nat.le_of_ble_eq_true rfl) dX10_candle_124 rfl (fun σ21 h => ?_)
                refine z_aload_n (pc' := 128) C dX10_candle_127 rfl 0 rfl rfl ?_
                refine zgX10_40 (pc' := 131) C zo0 dX10_candle_128 rfl ?_
                refine zgX10_176 (pc' := 134) C zo12 dX10_candle_131 rfl ?_
                exact z_iret C dX10_candle_134 h
              · have h := hf c15
                refine z_bipush (v := (-4)) (pc' := 71) C dX10_candle_69 (by decide) rfl ?_
                exact z_iret C dX10_candle_71 h
            · have h := hf c12
              refine z_bipush (v := (-3)) (pc' := 42) C dX10_candle_40 (by decide) rfl ?_
              exact z_iret C dX10_candle_42 h
          · have h := hf c8
            refine z_iconst (v := (-1)) (pc' := 27) C dX10_candle_26 (by decide) rfl ?_
            exact z_iret C dX10_candle_27 h
  exact fin
def vc_X10_wins_51 (x2 : Int32) (x3 : Int32) (Q : Int32 → zMem → Prop) : Nat → zMem → Int32 → Int32 → Prop
  | 0, _, _, _ => False
  | n + 1, σ, x4, x5 => ((60 < x5) → Q x4 σ) ∧ ((¬ 60 < x5) → vc_X6_burn σ x5 x2 (fun σ17 => ((¬ (σ17 12 0 4) = x3) → vc_X10_wins_51 x2 x3 Q n σ17 x4 (x5 + 1)) ∧ (((σ17 12 0 4) = x3) → vc_X10_wins_51 x2 x3 Q n σ17 (x4 + 1) (x5 + 1))))
def vc_X10_wins (σ : zMem) (a0 : Int32) (a1 : Int32) (a2 : Int32) (Q : Int32 → zMem → Prop) : Prop := vc_X10_isPlot σ a0 (fun r2 σ1 => ((r2 = 0) → Q ((-1)) σ1) ∧ ((¬ r2 = 0) → vc_X10_isBuyer σ1 a1 (fun r5 σ4 => ((r5 = 0) → Q ((-1)) σ4) ∧ ((¬ r5 = 0) → vc_X10_isBuyer σ4 a2 (fun r8 σ7 => ((¬ r8 = 0) → vp_in a0 24 ∧ vc_X5_isSold σ7 a0.toNatClampNeg (fun r12 σ11 => ((r12 = 0) → vc_X10_prepareSale σ11 a0 (fun σ14 => ∃ n15, vc_X10_wins_51 a1 a2 Q n15 σ14 0 1)) ∧ ((¬ r12 = 0) → Q ((-3)) σ11))) ∧ ((r8 = 0) → Q ((-1)) σ7))))))
set_option maxHeartbeats 4000000 in
set_option maxRecDepth 100000 in
theorem sl_X10_wins_51 {p : Program} {l : Launch} {e : Env} {s : State} {m : MethodId} {args : Array Value} {below : List Frame} {meth : Method} {c : Code} {E : zE} (C : zX p s m args meth c cX10_wins 6 RX10 (some .int) E) (x2 : Int32) (x3 : Int32) (Q : Int32 → zMem → Prop) : ∀ (n : Nat) (σ : zMem) (x4 : Int32) (x5 : Int32), vc_X10_wins_51 x2 x3 Q n σ x4 x5 → zG p l e (zRm 5 109) s m args below meth c 6 E 0 0 (MQ below (va_Qi Q (zPost E) (zA E s.heap.size)) args s 0 0 (zA E s.heap.size)) σ 51 [(0, .ref (E.2.2 0 0)), (2, .int x2), (3, .int x3), (4, .int x4), (5, .int x5)] [] := by
  intro n
  induction n with
  | zero =>
    intro σ x4 x5 h
    exact False.elim h
  | succ n ih =>
    intro σ x4 x5 h
    rw [vc_X10_wins_51] at h
    refine z_iload (pc' := 53) C dX10_wins_51 4 rfl rfl ?_
    refine z_bipush (v := 60) (pc' := 55) C dX10_wins_53 (by decide) rfl ?_
    obtain ⟨ht, hf⟩ := h
    refine z_icmp_gt (tgt := 88) (pc' := 58) C dX10_wins_55 (by decide) rfl (fun c16 => ?_) (fun c16 => ?_)
    · have h := ht c16
      refine z_iload (pc' := 90) C dX10_wins_88 3 rfl rfl ?_
      exact z_iret C dX10_wins_90 h
    · have h := hf c16
      refine z_aload_n (pc' := 59) C dX10_wins_58 rfl 0 rfl rfl ?_
      refine zgX10_40 (pc' := 62) C zo0 dX10_wins_59 rfl ?_
      refine z_iload (pc' := 64) C dX10_wins_62 4 rfl rfl ?_
      refine z_iload_n (pc' := 65) C dX10_wins_64 rfl 1 rfl rfl ?_
      refine z_callVv (q := 12) (i := 0) (w9 := (RX6, TX6, 6)) (pc' := 68) (st := []) (As := [.int x5, .int x2]) C (sc_X6_burn l E σ x5 x2 _ h) zwX10_166_X6_burn zvX10_166_X6_burn.1 zvX10_166_X6_burn.2 (zL_mem (by decide) zo12) rfl rfl ⟨(Nat.le_of_ble_eq_true rfl), (Nat.le_of_ble_eq_true rfl)⟩ ⟨Nat.zero_le _, Nat.zero_le _⟩ rfl rfl (Nat.le_of_ble_eq_true rfl) dX10_wins_65 rfl (fun σ17 h => ?_)
      refine z_aload_n (pc' := 69) C dX10_wins_68 rfl 0 rfl rfl ?_
      refine zgX10_40 (pc' := 72) C zo0 dX10_wins_69 rfl ?_
      refine zgX10_170 (pc' := 75) C zo12 dX10_wins_72 rfl ?_
      refine z_iload_n (pc' := 76) C dX10_wins_75 rfl 2 rfl rfl ?_
      obtain ⟨ht, hf⟩ := h
      refine z_icmp_ne (tgt := 82) (pc' := 79) C dX10_wins_76 (by decide) rfl (fun c18 => ?_) (fun c18 => ?_)
      · have h := ht c18
        refine z_iinc (j := 4) (v := x5 + 1) (pc' := 85) (lv' := [(5, .int (x5 + 1)), (0, .ref (E.2.2 0 0)), (2, .int x2), (3, .int x3), (4, .int x4)]) C dX10_wins_82 rfl rfl (by decide) rfl rfl ?_
        refine z_goto (tgt := 51) C dX10_wins_85 (by decide) ?_
        refine z_sub (lv' := [(0, .ref (E.2.2 0 0)), (2, .int x2), (3, .int x3), (4, .int x4), (5, .int (x5 + 1))]) [1, 2, 3, 4, 0] rfl ?_
        exact ih _ _ _ h
      · have h := hf c18
        refine z_iinc (j := 3) (v := x4 + 1) (pc' := 82) (lv' := [(4, .int (x4 + 1)), (0, .ref (E.2.2 0 0)), (2, .int x2), (3, .int x3), (5, .int x5)]) C dX10_wins_79 rfl rfl (by decide) rfl rfl ?_
        refine z_iinc (j := 4) (v := x5 + 1) (pc' := 85) (lv' := [(5, .int (x5 + 1)), (4, .int (x4 + 1)), (0, .ref (E.2.2 0 0)), (2, .int x2), (3, .int x3)]) C dX10_wins_82 rfl rfl (by decide) rfl rfl ?_
        refine z_goto (tgt := 51) C dX10_wins_85 (by decide) ?_
        refine z_sub (lv' := [(0, .ref (E.2.2 0 0)), (2, .int x2), (3, .int x3), (4, .int (x4 + 1)), (5, .int (x5 + 1))]) [2, 3, 4, 1, 0] rfl ?_
        exact ih _ _ _ h
set_option maxHeartbeats 4000000 in
set_option maxRecDepth 100000 in
theorem sc_X10_wins (l : Launch) (E : zE) (σ : zMem) (a0 : Int32) (a1 : Int32) (a2 : Int32) (Q : Int32 → zMem → Prop) (h : vc_X10_wins σ a0 a1 a2 Q) : zMi l yX10_wins cX10_wins 6 .int 5 109 E [.ref (E.2.2 0 0), .int a0, .int a1, .int a2] σ Q := by
  refine zMi_of (by decide) (Nat.le_of_ble_eq_true rfl) ?_
  intro p e s m args below meth c C
  unfold vc_X10_wins at h
  have fin : zG p l e (zRm 5 109) s m args below meth c 6 E 0 0 (MQ below (va_Qi Q (zPost E) (zA E s.heap.size)) args s 0 0 (zA E s.heap.size)) σ 0 [(0, .ref (E.2.2 0 0)), (1, .int a0), (2, .int a1), (3, .int a2)] [] := by
    refine z_iload_n (pc' := 1) C dX10_wins_0 rfl 1 rfl rfl ?_
    refine z_callSi (pc' := 4) (st := []) (As := [.int a0]) C (sc_X10_isPlot l E σ a0 _ h) zwX10_77_X10_isPlot ztX10_77_X10_isPlot ⟨(Nat.le_of_ble_eq_true rfl), (Nat.le_of_ble_eq_true rfl)⟩ ⟨Nat.zero_le _, Nat.zero_le _⟩ rfl rfl (Nat.le_of_ble_eq_true rfl) dX10_wins_1 rfl (fun r2 σ1 h => ?_)
    obtain ⟨ht, hf⟩ := h
    refine z_if_eq (tgt := 23) (pc' := 7) C dX10_wins_4 (by decide) rfl (fun c3 => ?_) (fun c3 => ?_)
    · have h := ht c3
      refine z_iconst (v := (-1)) (pc' := 24) C dX10_wins_23 (by decide) rfl ?_
      exact z_iret C dX10_wins_24 h
    · have h := hf c3
      refine z_aload_n (pc' := 8) C dX10_wins_7 rfl 0 rfl rfl ?_
      refine z_iload_n (pc' := 9) C dX10_wins_8 rfl 2 rfl rfl ?_
      refine z_callVi (q := 0) (i := 0) (w9 := (RX10, TX10, 12)) (pc' := 12) (st := []) (As := [.int a1]) C (sc_X10_isBuyer l E σ1 a1 _ h) zwX10_112_X10_isBuyer zvX10_112_X10_isBuyer.1 zvX10_112_X10_isBuyer.2 (zL_mem (by decide) zo0) rfl rfl ⟨(Nat.le_of_ble_eq_true rfl), (Nat.le_of_ble_eq_true rfl)⟩ ⟨Nat.zero_le _, Nat.zero_le _⟩ rfl rfl (Nat.le_of_ble_eq_true rfl) dX10_wins_9 rfl (fun r5 σ4 h => ?_)
      obtain ⟨ht, hf⟩ := h
      refine z_if_eq (tgt := 23) (pc' := 15) C dX10_wins_12 (by decide) rfl (fun c6 => ?_) (fun c6 => ?_)
      · have h := ht c6
        refine z_iconst (v := (-1)) (pc' := 24) C dX10_wins_23 (by decide) rfl ?_
        exact z_iret C dX10_wins_24 h
      · have h := hf c6
        refine z_aload_n (pc' := 16) C dX10_wins_15 rfl 0 rfl rfl ?_
        refine z_iload_n (pc' := 17) C dX10_wins_16 rfl 3 rfl rfl ?_
        refine z_callVi (q := 0) (i := 0) (w9 := (RX10, TX10, 12)) (pc' := 20) (st := []) (As := [.int a2]) C (sc_X10_isBuyer l E σ4 a2 _ h) zwX10_112_X10_isBuyer zvX10_112_X10_isBuyer.1 zvX10_112_X10_isBuyer.2 (zL_mem (by decide) zo0) rfl rfl ⟨(Nat.le_of_ble_eq_true rfl), (Nat.le_of_ble_eq_true rfl)⟩ ⟨Nat.zero_le _, Nat.zero_le _⟩ rfl rfl (Nat.le_of_ble_eq_true rfl) dX10_wins_17 rfl (fun r8 σ7 h => ?_)
        obtain ⟨ht, hf⟩ := h
        refine z_if_ne (tgt := 25) (pc' := 23) C dX10_wins_20 (by decide) rfl (fun c9 => ?_) (fun c9 => ?_)
        · have h := ht c9
          refine z_aload_n (pc' := 26) C dX10_wins_25 rfl 0 rfl rfl ?_
          refine zgX10_17 (pc' := 29) C zo0 dX10_wins_26 rfl ?_
          refine z_iload_n (pc' := 30) C dX10_wins_29 rfl 1 rfl rfl ?_
          obtain ⟨hv10, h⟩ := h
          refine z_aald (n := 24) (t0 := 4) (q2 := 4) (pc' := 31) C (zL_mem (by decide) zo3) (fun _ => rfl) rfl hv10 dX10_wins_30 rfl ?_
          refine z_callVi (q := 4) (i := a0.toNatClampNeg) (w9 := (RX5, TX5, 6)) (pc' := 34) (st := []) (As := []) C (sc_X5_isSold l E σ7 a0.toNatClampNeg _ (zin hv10) h) zwX10_85_X5_isSold zvX10_85_X5_isSold.1 zvX10_85_X5_isSold.2 (zL_mem (by decide) (zin hv10)) rfl rfl ⟨(Nat.le_of_ble_eq_true rfl), (Nat.le_of_ble_eq_true rfl)⟩ ⟨Nat.zero_le _, Nat.zero_le _⟩ rfl rfl (Nat.le_of_ble_eq_true rfl) dX10_wins_31 rfl (fun r12 σ11 h => ?_)
          obtain ⟨ht, hf⟩ := h
          refine z_if_eq (tgt := 40) (pc' := 37) C dX10_wins_34 (by decide) rfl (fun c13 => ?_) (fun c13 => ?_)
          · have h := ht c13
            refine z_aload_n (pc' := 41) C dX10_wins_40 rfl 0 rfl rfl ?_
            refine z_iload_n (pc' := 42) C dX10_wins_41 rfl 1 rfl rfl ?_
            refine z_callVv (q := 0) (i := 0) (w9 := (RX10, TX10, 12)) (pc' := 45) (st := []) (As := [.int a0]) C (sc_X10_prepareSale l E σ11 a0 _ h) zwX10_162_X10_prepareSale zvX10_162_X10_prepareSale.1 zvX10_162_X10_prepareSale.2 (zL_mem (by decide) zo0) rfl rfl ⟨(Nat.le_of_ble_eq_true rfl), (Nat.le_of_ble_eq_true rfl)⟩ ⟨Nat.zero_le _, Nat.zero_le _⟩ rfl rfl (Nat.le_of_ble_eq_true rfl) dX10_wins_42 rfl (fun σ14 h => ?_)
            refine z_iconst (v := 0) (pc' := 46) C dX10_wins_45 (by decide) rfl ?_
            refine z_istore (pc' := 48) (lv' := [(4, .int 0), (0, .ref (E.2.2 0 0)), (1, .int a0), (2, .int a1), (3, .int a2)]) C dX10_wins_46 (by decide) rfl rfl ?_
            refine z_iconst (v := 1) (pc' := 49) C dX10_wins_48 (by decide) rfl ?_
            refine z_istore (pc' := 51) (lv' := [(5, .int 1), (4, .int 0), (0, .ref (E.2.2 0 0)), (1, .int a0), (2, .int a1), (3, .int a2)]) C dX10_wins_49 (by decide) rfl rfl ?_
            obtain ⟨n15, h⟩ := h
            refine z_sub (lv' := [(0, .ref (E.2.2 0 0)), (2, .int a1), (3, .int a2), (4, .int 0), (5, .int 1)]) [2, 4, 5, 1, 0] rfl ?_
            exact sl_X10_wins_51 C a1 a2 Q n15 _ _ _ h
          · have h := hf c13
            refine z_bipush (v := (-3)) (pc' := 39) C dX10_wins_37 (by decide) rfl ?_
            exact z_iret C dX10_wins_39 h
        · have h := hf c9
          refine z_iconst (v := (-1)) (pc' := 24) C dX10_wins_23 (by decide) rfl ?_
          exact z_iret C dX10_wins_24 h
  exact fin
def vc_X10_lotter (σ : zMem) (a0 : Int32) (Q : Int32 → zMem → Prop) : Prop := vc_X10_isPlot σ a0 (fun r2 σ1 => ((¬ r2 = 0) → vp_in a0 24 ∧ vc_X5_isSold σ1 a0.toNatClampNeg (fun r6 σ5 => ((r6 = 0) → vc_X10_prepareSale σ5 a0 (fun σ8 => vc_X6_lotTaker σ8 (fun r10 σ9 => ((¬ r10 = ((-2))) → Q r10 σ9) ∧ ((r10 = ((-2))) → Q ((-4)) σ9)))) ∧ ((¬ r6 = 0) → Q ((-3)) σ5))) ∧ ((r2 = 0) → Q ((-1)) σ1))
set_option maxHeartbeats 4000000 in
set_option maxRecDepth 100000 in
theorem sc_X10_lotter (l : Launch) (E : zE) (σ : zMem) (a0 : Int32) (Q : Int32 → zMem → Prop) (h : vc_X10_lotter σ a0 Q) : zMi l yX10_lotter cX10_lotter 3 .int 5 109 E [.ref (E.2.2 0 0), .int a0] σ Q := by
  refine zMi_of (by decide) (Nat.le_of_ble_eq_true rfl) ?_
  intro p e s m args below meth c C
  unfold vc_X10_lotter at h
  have fin : zG p l e (zRm 5 109) s m args below meth c 3 E 0 0 (MQ below (va_Qi Q (zPost E) (zA E s.heap.size)) args s 0 0 (zA E s.heap.size)) σ 0 [(0, .ref (E.2.2 0 0)), (1, .int a0)] [] := by
    refine z_iload_n (pc' := 1) C dX10_lotter_0 rfl 1 rfl rfl ?_
    refine z_callSi (pc' := 4) (st := []) (As := [.int a0]) C (sc_X10_isPlot l E σ a0 _ h) zwX10_77_X10_isPlot ztX10_77_X10_isPlot ⟨(Nat.le_of_ble_eq_true rfl), (Nat.le_of_ble_eq_true rfl)⟩ ⟨Nat.zero_le _, Nat.zero_le _⟩ rfl rfl (Nat.le_of_ble_eq_true rfl) dX10_lotter_1 rfl (fun r2 σ1 h => ?_)
    obtain ⟨ht, hf⟩ := h
    refine z_if_ne (tgt := 9) (pc' := 7) C dX10_lotter_4 (by decide) rfl (fun c3 => ?_) (fun c3 => ?_)
    · have h := ht c3
      refine z_aload_n (pc' := 10) C dX10_lotter_9 rfl 0 rfl rfl ?_
      refine zgX10_17 (pc' := 13) C zo0 dX10_lotter_10 rfl ?_
      refine z_iload_n (pc' := 14) C dX10_lotter_13 rfl 1 rfl rfl ?_
      obtain ⟨hv4, h⟩ := h
      refine z_aald (n := 24) (t0 := 4) (q2 := 4) (pc' := 15) C (zL_mem (by decide) zo3) (fun _ => rfl) rfl hv4 dX10_lotter_14 rfl ?_
      refine z_callVi (q := 4) (i := a0.toNatClampNeg) (w9 := (RX5, TX5, 6)) (pc' := 18) (st := []) (As := []) C (sc_X5_isSold l E σ1 a0.toNatClampNeg _ (zin hv4) h) zwX10_85_X5_isSold zvX10_85_X5_isSold.1 zvX10_85_X5_isSold.2 (zL_mem (by decide) (zin hv4)) rfl rfl ⟨(Nat.le_of_ble_eq_true rfl), (Nat.le_of_ble_eq_true rfl)⟩ ⟨Nat.zero_le _, Nat.zero_le _⟩ rfl rfl (Nat.le_of_ble_eq_true rfl) dX10_lotter_15 rfl (fun r6 σ5 h => ?_)
      obtain ⟨ht, hf⟩ := h
      refine z_if_eq (tgt := 24) (pc' := 21) C dX10_lotter_18 (by decide) rfl (fun c7 => ?_) (fun c7 => ?_)
      · have h := ht c7
        refine z_aload_n (pc' := 25) C dX10_lotter_24 rfl 0 rfl rfl ?_
        refine z_iload_n (pc' := 26) C dX10_lotter_25 rfl 1 rfl rfl ?_
        refine z_callVv (q := 0) (i := 0) (w9 := (RX10, TX10, 12)) (pc' := 29) (st := []) (As := [.int a0]) C (sc_X10_prepareSale l E σ5 a0 _ h) zwX10_162_X10_prepareSale zvX10_162_X10_prepareSale.1 zvX10_162_X10_prepareSale.2 (zL_mem (by decide) zo0) rfl rfl ⟨(Nat.le_of_ble_eq_true rfl), (Nat.le_of_ble_eq_true rfl)⟩ ⟨Nat.zero_le _, Nat.zero_le _⟩ rfl rfl (Nat.le_of_ble_eq_true rfl) dX10_lotter_26 rfl (fun σ8 h => ?_)
        refine z_aload_n (pc' := 30) C dX10_lotter_29 rfl 0 rfl rfl ?_
        refine zgX10_40 (pc' := 33) C zo0 dX10_lotter_30 rfl ?_
        refine z_callVi (q := 12) (i := 0) (w9 := (RX6, TX6, 6)) (pc' := 36) (st := []) (As := []) C (sc_X6_lotTaker l E σ8  _ h) zwX10_179_X6_lotTaker zvX10_179_X6_lotTaker.1 zvX10_179_X6_lotTaker.2 (zL_mem (by decide) zo12) rfl rfl ⟨(Nat.le_of_ble_eq_true rfl), (Nat.le_of_ble_eq_true rfl)⟩ ⟨Nat.zero_le _, Nat.zero_le _⟩ rfl rfl (Nat.le_of_ble_eq_true rfl) dX10_lotter_33 rfl (fun r10 σ9 h => ?_)
        refine z_istore_n (pc' := 37) (lv' := [(2, .int r10), (0, .ref (E.2.2 0 0)), (1, .int a0)]) C dX10_lotter_36 rfl (by decide) rfl rfl ?_
        refine z_iload_n (pc' := 38) C dX10_lotter_37 rfl 0 rfl rfl ?_
        refine z_bipush (v := (-2)) (pc' := 40) C dX10_lotter_38 (by decide) rfl ?_
        obtain ⟨ht, hf⟩ := h
        refine z_icmp_ne (tgt := 48) (pc' := 43) C dX10_lotter_40 (by decide) rfl (fun c11 => ?_) (fun c11 => ?_)
        · have h := ht c11
          refine z_iload_n (pc' := 49) C dX10_lotter_48 rfl 0 rfl rfl ?_
          exact z_iret C dX10_lotter_49 h
        · have h := hf c11
          refine z_bipush (v := (-4)) (pc' := 45) C dX10_lotter_43 (by decide) rfl ?_
          refine z_goto (tgt := 49) C dX10_lotter_45 (by decide) ?_
          exact z_iret C dX10_lotter_49 h
      · have h := hf c7
        refine z_bipush (v := (-3)) (pc' := 23) C dX10_lotter_21 (by decide) rfl ?_
        exact z_iret C dX10_lotter_23 h
    · have h := hf c3
      refine z_iconst (v := (-1)) (pc' := 8) C dX10_lotter_7 (by decide) rfl ?_
      exact z_iret C dX10_lotter_8 h
  exact fin
def vc_X10_lots (σ : zMem) (a0 : Int32) (Q : Int32 → zMem → Prop) : Prop := vc_X10_lotter σ a0 (fun r2 σ1 => ((0 ≤ r2) → vc_X6_lotPrice σ1 r2 (fun r5 σ4 => Q r5 σ4)) ∧ ((¬ 0 ≤ r2) → Q r2 σ1))
set_option maxHeartbeats 4000000 in
set_option maxRecDepth 100000 in
theorem sc_X10_lots (l : Launch) (E : zE) (σ : zMem) (a0 : Int32) (Q : Int32 → zMem → Prop) (h : vc_X10_lots σ a0 Q) : zMi l yX10_lots cX10_lots 3 .int 6 131 E [.ref (E.2.2 0 0), .int a0] σ Q := by
  refine zMi_of (by decide) (Nat.le_of_ble_eq_true rfl) ?_
  intro p e s m args below meth c C
  unfold vc_X10_lots at h
  have fin : zG p l e (zRm 6 131) s m args below meth c 3 E 0 0 (MQ below (va_Qi Q (zPost E) (zA E s.heap.size)) args s 0 0 (zA E s.heap.size)) σ 0 [(0, .ref (E.2.2 0 0)), (1, .int a0)] [] := by
    refine z_aload_n (pc' := 1) C dX10_lots_0 rfl 0 rfl rfl ?_
    refine z_iload_n (pc' := 2) C dX10_lots_1 rfl 1 rfl rfl ?_
    refine z_callVi (q := 0) (i := 0) (w9 := (RX10, TX10, 12)) (pc' := 5) (st := []) (As := [.int a0]) C (sc_X10_lotter l E σ a0 _ h) zwX10_189_X10_lotter zvX10_189_X10_lotter.1 zvX10_189_X10_lotter.2 (zL_mem (by decide) zo0) rfl rfl ⟨(Nat.le_of_ble_eq_true rfl), (Nat.le_of_ble_eq_true rfl)⟩ ⟨Nat.zero_le _, Nat.zero_le _⟩ rfl rfl (Nat.le_of_ble_eq_true rfl) dX10_lots_2 rfl (fun r2 σ1 h => ?_)
    refine z_istore_n (pc' := 6) (lv' := [(2, .int r2), (0, .ref (E.2.2 0 0)), (1, .int a0)]) C dX10_lots_5 rfl (by decide) rfl rfl ?_
    refine z_iload_n (pc' := 7) C dX10_lots_6 rfl 0 rfl rfl ?_
    obtain ⟨ht, hf⟩ := h
    refine z_if_ge (tgt := 14) (pc' := 10) C dX10_lots_7 (by decide) rfl (fun c3 => ?_) (fun c3 => ?_)
    · have h := ht c3
      refine z_aload_n (pc' := 15) C dX10_lots_14 rfl 1 rfl rfl ?_
      refine zgX10_40 (pc' := 18) C zo0 dX10_lots_15 rfl ?_
      refine z_iload_n (pc' := 19) C dX10_lots_18 rfl 0 rfl rfl ?_
      refine z_callVi (q := 12) (i := 0) (w9 := (RX6, TX6, 6)) (pc' := 22) (st := []) (As := [.int r2]) C (sc_X6_lotPrice l E σ1 r2 _ h) zwX10_182_X6_lotPrice zvX10_182_X6_lotPrice.1 zvX10_182_X6_lotPrice.2 (zL_mem (by decide) zo12) rfl rfl ⟨(Nat.le_of_ble_eq_true rfl), (Nat.le_of_ble_eq_true rfl)⟩ ⟨Nat.zero_le _, Nat.zero_le _⟩ rfl rfl (Nat.le_of_ble_eq_true rfl) dX10_lots_19 rfl (fun r5 σ4 h => ?_)
      exact z_iret C dX10_lots_22 h
    · have h := hf c3
      refine z_iload_n (pc' := 11) C dX10_lots_10 rfl 0 rfl rfl ?_
      refine z_goto (tgt := 22) C dX10_lots_11 (by decide) ?_
      exact z_iret C dX10_lots_22 h
  exact fin
def vc_X10_ring (σ : zMem) (Q : Int32 → zMem → Prop) : Prop := Q (σ 0 0 11) σ
set_option maxHeartbeats 4000000 in
set_option maxRecDepth 100000 in
theorem sc_X10_ring (l : Launch) (E : zE) (σ : zMem) (Q : Int32 → zMem → Prop) (h : vc_X10_ring σ Q) : zMi l yX10_ring cX10_ring 1 .int 0 0 E [.ref (E.2.2 0 0)] σ Q := by
  refine zMi_of (by decide) (Nat.le_of_ble_eq_true rfl) ?_
  intro p e s m args below meth c C
  unfold vc_X10_ring at h
  have fin : zG p l e (zRm 0 0) s m args below meth c 1 E 0 0 (MQ below (va_Qi Q (zPost E) (zA E s.heap.size)) args s 0 0 (zA E s.heap.size)) σ 0 [(0, .ref (E.2.2 0 0))] [] := by
    refine z_aload_n (pc' := 1) C dX10_ring_0 rfl 0 rfl rfl ?_
    refine zgX10_173 (pc' := 4) C zo0 dX10_ring_1 rfl ?_
    exact z_iret C dX10_ring_4 h
  exact fin
def vc_X10_day (σ : zMem) (a0 : Int32) (Q : Int32 → zMem → Prop) : Prop := ((a0 < (σ 0 0 10)) → Q ((-1)) σ) ∧ ((¬ a0 < (σ 0 0 10)) → ((a0 ≤ 30) → Q (σ 0 0 10) (um σ 0 0 10 a0)) ∧ ((¬ a0 ≤ 30) → Q ((-1)) σ))
set_option maxHeartbeats 4000000 in
set_option maxRecDepth 100000 in
theorem sc_X10_day (l : Launch) (E : zE) (σ : zMem) (a0 : Int32) (Q : Int32 → zMem → Prop) (h : vc_X10_day σ a0 Q) : zMi l yX10_day cX10_day 3 .int 0 0 E [.ref (E.2.2 0 0), .int a0] σ Q := by
  refine zMi_of (by decide) (Nat.le_of_ble_eq_true rfl) ?_
  intro p e s m args below meth c C
  unfold vc_X10_day at h
  have fin : zG p l e (zRm 0 0) s m args below meth c 3 E 0 0 (MQ below (va_Qi Q (zPost E) (zA E s.heap.size)) args s 0 0 (zA E s.heap.size)) σ 0 [(0, .ref (E.2.2 0 0)), (1, .int a0)] [] := by
    refine z_iload_n (pc' := 1) C dX10_day_0 rfl 1 rfl rfl ?_
    refine z_aload_n (pc' := 2) C dX10_day_1 rfl 0 rfl rfl ?_
    refine zgX10_192 (pc' := 5) C zo0 dX10_day_2 rfl ?_
    obtain ⟨ht, hf⟩ := h
    refine z_icmp_lt (tgt := 14) (pc' := 8) C dX10_day_5 (by decide) rfl (fun c1 => ?_) (fun c1 => ?_)
    · have h := ht c1
      refine z_iconst (v := (-1)) (pc' := 15) C dX10_day_14 (by decide) rfl ?_
      exact z_iret C dX10_day_15 h
    · have h := hf c1
      refine z_iload_n (pc' := 9) C dX10_day_8 rfl 1 rfl rfl ?_
      refine z_bipush (v := 30) (pc' := 11) C dX10_day_9 (by decide) rfl ?_
      obtain ⟨ht, hf⟩ := h
      refine z_icmp_le (tgt := 16) (pc' := 14) C dX10_day_11 (by decide) rfl (fun c2 => ?_) (fun c2 => ?_)
      · have h := ht c2
        refine z_aload_n (pc' := 17) C dX10_day_16 rfl 0 rfl rfl ?_
        refine zgX10_192 (pc' := 20) C zo0 dX10_day_17 rfl ?_
        refine z_istore_n (pc' := 21) (lv' := [(2, .int (σ 0 0 10)), (0, .ref (E.2.2 0 0)), (1, .int a0)]) C dX10_day_20 rfl (by decide) rfl rfl ?_
        refine z_aload_n (pc' := 22) C dX10_day_21 rfl 1 rfl rfl ?_
        refine z_iload_n (pc' := 23) C dX10_day_22 rfl 2 rfl rfl ?_
        refine zpX10_192 (pc' := 26) C zo0 dX10_day_23 rfl ?_
        refine z_iload_n (pc' := 27) C dX10_day_26 rfl 0 rfl rfl ?_
        exact z_iret C dX10_day_27 h
      · have h := hf c2
        refine z_iconst (v := (-1)) (pc' := 15) C dX10_day_14 (by decide) rfl ?_
        exact z_iret C dX10_day_15 h
  exact fin
def vc_X10_rain (σ : zMem) (a0 : Int32) (a1 : Int32) (Q : Int32 → zMem → Prop) : Prop := vc_X10_within σ a0 30 (fun r2 σ1 => ((¬ r2 = 0) → vp_in a0 31 ∧ vp_in a0 31 ∧ (((σ1 11 0 a0.toNatClampNeg) = a1) → vc_X10_oneIf (um σ1 11 0 a0.toNatClampNeg (vp_nar .boolean a1)) 0 (fun r8 σ7 => Q r8 σ7)) ∧ ((¬ (σ1 11 0 a0.toNatClampNeg) = a1) → vc_X10_oneIf (um σ1 11 0 a0.toNatClampNeg (vp_nar .boolean a1)) 1 (fun r10 σ9 => Q r10 σ9))) ∧ ((r2 = 0) → Q ((-1)) σ1))
set_option maxHeartbeats 4000000 in
set_option maxRecDepth 100000 in
theorem sc_X10_rain (l : Launch) (E : zE) (σ : zMem) (a0 : Int32) (a1 : Int32) (Q : Int32 → zMem → Prop) (h : vc_X10_rain σ a0 a1 Q) : zMi l yX10_rain cX10_rain 4 .int 1 21 E [.ref (E.2.2 0 0), .int a0, .int a1] σ Q := by
  refine zMi_of (by decide) (Nat.le_of_ble_eq_true rfl) ?_
  intro p e s m args below meth c C
  unfold vc_X10_rain at h
  have fin : zG p l e (zRm 1 21) s m args below meth c 4 E 0 0 (MQ below (va_Qi Q (zPost E) (zA E s.heap.size)) args s 0 0 (zA E s.heap.size)) σ 0 [(0, .ref (E.2.2 0 0)), (1, .int a0), (2, .int a1)] [] := by
    refine z_iload_n (pc' := 1) C dX10_rain_0 rfl 1 rfl rfl ?_
    refine z_bipush (v := 30) (pc' := 3) C dX10_rain_1 (by decide) rfl ?_
    refine z_callSi (pc' := 6) (st := []) (As := [.int a0, .int 30]) C (sc_X10_within l E σ a0 30 _ h) zwX10_81_X10_within ztX10_81_X10_within ⟨(Nat.le_of_ble_eq_true rfl), (Nat.le_of_ble_eq_true rfl)⟩ ⟨Nat.zero_le _, Nat.zero_le _⟩ rfl rfl (Nat.le_of_ble_eq_true rfl) dX10_rain_3 rfl (fun r2 σ1 h => ?_)
    obtain ⟨ht, hf⟩ := h
    refine z_if_ne (tgt := 11) (pc' := 9) C dX10_rain_6 (by decide) rfl (fun c3 => ?_) (fun c3 => ?_)
    · have h := ht c3
      refine z_aload_n (pc' := 12) C dX10_rain_11 rfl 0 rfl rfl ?_
      refine zgX10_33 (pc' := 15) C zo0 dX10_rain_12 rfl ?_
      refine z_iload_n (pc' := 16) C dX10_rain_15 rfl 1 rfl rfl ?_
      obtain ⟨hv4, h⟩ := h
      refine z_zald (n := 31) (pc' := 17) C (zL_mem (by decide) zo11) (fun _ => rfl) hv4 dX10_rain_16 rfl ?_
      refine z_istore_n (pc' := 18) (lv' := [(3, .int (σ1 11 0 a0.toNatClampNeg)), (0, .ref (E.2.2 0 0)), (1, .int a0), (2, .int a1)]) C dX10_rain_17 rfl (by decide) rfl rfl ?_
      refine z_aload_n (pc' := 19) C dX10_rain_18 rfl 1 rfl rfl ?_
      refine zgX10_33 (pc' := 22) C zo0 dX10_rain_19 rfl ?_
      refine z_iload_n (pc' := 23) C dX10_rain_22 rfl 2 rfl rfl ?_
      refine z_iload_n (pc' := 24) C dX10_rain_23 rfl 3 rfl rfl ?_
      obtain ⟨hv5, h⟩ := h
      refine z_zast (n := 31) (pc' := 25) C (zL_mem (by decide) zo11) (fun _ => rfl) hv5 dX10_rain_24 rfl ?_
      refine z_iload_n (pc' := 26) C dX10_rain_25 rfl 0 rfl rfl ?_
      refine z_iload_n (pc' := 27) C dX10_rain_26 rfl 3 rfl rfl ?_
      obtain ⟨ht, hf⟩ := h
      refine z_icmp_eq (tgt := 34) (pc' := 30) C dX10_rain_27 (by decide) rfl (fun c6 => ?_) (fun c6 => ?_)
      · have h := ht c6
        refine z_iconst (v := 0) (pc' := 35) C dX10_rain_34 (by decide) rfl ?_
        refine z_callSi (pc' := 38) (st := []) (As := [.int 0]) C (sc_X10_oneIf l E (um σ1 11 0 a0.toNatClampNeg (vp_nar .boolean a1)) 0 _ h) zwX10_119_X10_oneIf ztX10_119_X10_oneIf ⟨(Nat.le_of_ble_eq_true rfl), (Nat.le_of_ble_eq_true rfl)⟩ ⟨Nat.zero_le _, Nat.zero_le _⟩ rfl rfl (Nat.le_of_ble_eq_true rfl) dX10_rain_35 rfl (fun r8 σ7 h => ?_)
        exact z_iret C dX10_rain_38 h
      · have h := hf c6
        refine z_iconst (v := 1) (pc' := 31) C dX10_rain_30 (by decide) rfl ?_
        refine z_goto (tgt := 35) C dX10_rain_31 (by decide) ?_
        refine z_callSi (pc' := 38) (st := []) (As := [.int 1]) C (sc_X10_oneIf l E (um σ1 11 0 a0.toNatClampNeg (vp_nar .boolean a1)) 1 _ h) zwX10_119_X10_oneIf ztX10_119_X10_oneIf ⟨(Nat.le_of_ble_eq_true rfl), (Nat.le_of_ble_eq_true rfl)⟩ ⟨Nat.zero_le _, Nat.zero_le _⟩ rfl rfl (Nat.le_of_ble_eq_true rfl) dX10_rain_35 rfl (fun r10 σ9 h => ?_)
        exact z_iret C dX10_rain_38 h
    · have h := hf c3
      refine z_iconst (v := (-1)) (pc' := 10) C dX10_rain_9 (by decide) rfl ?_
      exact z_iret C dX10_rain_10 h
  exact fin
def vc_X10_way (σ : zMem) (a0 : Int32) (Q : Int32 → zMem → Prop) : Prop := vc_X10_isPlot σ a0 (fun r2 σ1 => ((¬ r2 = 0) → vc_X8_trampled σ1 a0 (fun r5 σ4 => Q r5 σ4)) ∧ ((r2 = 0) → Q ((-1)) σ1))
set_option maxHeartbeats 4000000 in
set_option maxRecDepth 100000 in
theorem sc_X10_way (l : Launch) (E : zE) (σ : zMem) (a0 : Int32) (Q : Int32 → zMem → Prop) (h : vc_X10_way σ a0 Q) : zMi l yX10_way cX10_way 2 .int 4 93 E [.ref (E.2.2 0 0), .int a0] σ Q := by
  refine zMi_of (by decide) (Nat.le_of_ble_eq_true rfl) ?_
  intro p e s m args below meth c C
  unfold vc_X10_way at h
  have fin : zG p l e (zRm 4 93) s m args below meth c 2 E 0 0 (MQ below (va_Qi Q (zPost E) (zA E s.heap.size)) args s 0 0 (zA E s.heap.size)) σ 0 [(0, .ref (E.2.2 0 0)), (1, .int a0)] [] := by
    refine z_iload_n (pc' := 1) C dX10_way_0 rfl 1 rfl rfl ?_
    refine z_callSi (pc' := 4) (st := []) (As := [.int a0]) C (sc_X10_isPlot l E σ a0 _ h) zwX10_77_X10_isPlot ztX10_77_X10_isPlot ⟨(Nat.le_of_ble_eq_true rfl), (Nat.le_of_ble_eq_true rfl)⟩ ⟨Nat.zero_le _, Nat.zero_le _⟩ rfl rfl (Nat.le_of_ble_eq_true rfl) dX10_way_1 rfl (fun r2 σ1 h => ?_)
    obtain ⟨ht, hf⟩ := h
    refine z_if_ne (tgt := 9) (pc' := 7) C dX10_way_4 (by decide) rfl (fun c3 => ?_) (fun c3 => ?_)
    · have h := ht c3
      refine z_aload_n (pc' := 10) C dX10_way_9 rfl 0 rfl rfl ?_
      refine zgX10_47 (pc' := 13) C zo0 dX10_way_10 rfl ?_
      refine z_aload_n (pc' := 14) C dX10_way_13 rfl 0 rfl rfl ?_
      refine zgX10_17 (pc' := 17) C zo0 dX10_way_14 rfl ?_
      refine z_iload_n (pc' := 18) C dX10_way_17 rfl 1 rfl rfl ?_
      refine z_callVi (q := 15) (i := 0) (w9 := (RX8, TX8, 2)) (pc' := 21) (st := []) (As := [.ref (E.2.2 3 0), .int a0]) C (sc_X8_trampled l E σ1 a0 _ h) zwX10_195_X8_trampled zvX10_195_X8_trampled.1 zvX10_195_X8_trampled.2 (zL_mem (by decide) zo15) rfl rfl ⟨(Nat.le_of_ble_eq_true rfl), (Nat.le_of_ble_eq_true rfl)⟩ ⟨Nat.zero_le _, Nat.zero_le _⟩ rfl rfl (Nat.le_of_ble_eq_true rfl) dX10_way_18 rfl (fun r5 σ4 h => ?_)
      exact z_iret C dX10_way_21 h
    · have h := hf c3
      refine z_iconst (v := (-1)) (pc' := 8) C dX10_way_7 (by decide) rfl ?_
      exact z_iret C dX10_way_8 h
  exact fin
def vc_X10_cut (σ : zMem) (a0 : Int32) (Q : Int32 → zMem → Prop) : Prop := vc_X10_isPlot σ a0 (fun r2 σ1 => ((¬ r2 = 0) → vp_in a0 24 ∧ vc_X5_stands σ1 a0.toNatClampNeg (fun r6 σ5 => ((r6 = 0) → Q ((-3)) σ5) ∧ ((¬ r6 = 0) → vc_X10_isBuyer σ5 (σ5 4 a0.toNatClampNeg 3) (fun r9 σ8 => ((¬ r9 = 0) → vc_X8_trampled σ8 a0 (fun r12 σ11 => vp_in (σ11 4 a0.toNatClampNeg 3) 10 ∧ Q r12 (um (um σ11 6 ((σ11 4 a0.toNatClampNeg 3).toNatClampNeg) 4 ((σ11 6 ((σ11 4 a0.toNatClampNeg 3).toNatClampNeg) 4) + r12)) 4 a0.toNatClampNeg 5 ((um σ11 6 ((σ11 4 a0.toNatClampNeg 3).toNatClampNeg) 4 ((σ11 6 ((σ11 4 a0.toNatClampNeg 3).toNatClampNeg) 4) + r12)) 0 0 10)))) ∧ ((r9 = 0) → Q ((-3)) σ8))))) ∧ ((r2 = 0) → Q ((-1)) σ1))
set_option maxHeartbeats 4000000 in
set_option maxRecDepth 100000 in
theorem sc_X10_cut (l : Launch) (E : zE) (σ : zMem) (a0 : Int32) (Q : Int32 → zMem → Prop) (h : vc_X10_cut σ a0 Q) : zMi l yX10_cut cX10_cut 4 .int 4 93 E [.ref (E.2.2 0 0), .int a0] σ Q := by
  refine zMi_of (by decide) (Nat.le_of_ble_eq_true rfl) ?_
  intro p e s m args below meth c C
  unfold vc_X10_cut at h
  have fin : zG p l e (zRm 4 93) s m args below meth c 4 E 0 0 (MQ below (va_Qi Q (zPost E) (zA E s.heap.size)) args s 0 0 (zA E s.heap.size)) σ 0 [(0, .ref (E.2.2 0 0)), (1, .int a0)] [] := by
    refine z_iload_n (pc' := 1) C dX10_cut_0 rfl 1 rfl rfl ?_
    refine z_callSi (pc' := 4) (st := []) (As := [.int a0]) C (sc_X10_isPlot l E σ a0 _ h) zwX10_77_X10_isPlot ztX10_77_X10_isPlot ⟨(Nat.le_of_ble_eq_true rfl), (Nat.le_of_ble_eq_true rfl)⟩ ⟨Nat.zero_le _, Nat.zero_le _⟩ rfl rfl (Nat.le_of_ble_eq_true rfl) dX10_cut_1 rfl (fun r2 σ1 h => ?_)
    obtain ⟨ht, hf⟩ := h
    refine z_if_ne (tgt := 9) (pc' := 7) C dX10_cut_4 (by decide) rfl (fun c3 => ?_) (fun c3 => ?_)
    · have h := ht c3
      refine z_aload_n (pc' := 10) C dX10_cut_9 rfl 0 rfl rfl ?_
      refine zgX10_17 (pc' := 13) C zo0 dX10_cut_10 rfl ?_
      refine z_iload_n (pc' := 14) C dX10_cut_13 rfl 1 rfl rfl ?_
      obtain ⟨hv4, h⟩ := h
      refine z_aald (n := 24) (t0 := 4) (q2 := 4) (pc' := 15) C (zL_mem (by decide) zo3) (fun _ => rfl) rfl hv4 dX10_cut_14 rfl ?_
      refine z_astore_n (pc' := 16) (lv' := [(2, .ref (E.2.2 4 a0.toNatClampNeg)), (0, .ref (E.2.2 0 0)), (1, .int a0)]) C dX10_cut_15 rfl (by decide) rfl rfl ?_
      refine z_aload_n (pc' := 17) C dX10_cut_16 rfl 0 rfl rfl ?_
      refine z_callVi (q := 4) (i := a0.toNatClampNeg) (w9 := (RX5, TX5, 6)) (pc' := 20) (st := []) (As := []) C (sc_X5_stands l E σ1 a0.toNatClampNeg _ (zin hv4) h) zwX10_142_X5_stands zvX10_142_X5_stands.1 zvX10_142_X5_stands.2 (zL_mem (by decide) (zin hv4)) rfl rfl ⟨(Nat.le_of_ble_eq_true rfl), (Nat.le_of_ble_eq_true rfl)⟩ ⟨Nat.zero_le _, Nat.zero_le _⟩ rfl rfl (Nat.le_of_ble_eq_true rfl) dX10_cut_17 rfl (fun r6 σ5 h => ?_)
      obtain ⟨ht, hf⟩ := h
      refine z_if_eq (tgt := 34) (pc' := 23) C dX10_cut_20 (by decide) rfl (fun c7 => ?_) (fun c7 => ?_)
      · have h := ht c7
        refine z_bipush (v := (-3)) (pc' := 36) C dX10_cut_34 (by decide) rfl ?_
        exact z_iret C dX10_cut_36 h
      · have h := hf c7
        refine z_aload_n (pc' := 24) C dX10_cut_23 rfl 1 rfl rfl ?_
        refine z_aload_n (pc' := 25) C dX10_cut_24 rfl 0 rfl rfl ?_
        refine zgX10_133 (pc' := 28) C (zin hv4) dX10_cut_25 rfl ?_
        refine z_callVi (q := 0) (i := 0) (w9 := (RX10, TX10, 12)) (pc' := 31) (st := []) (As := [.int (σ5 4 a0.toNatClampNeg 3)]) C (sc_X10_isBuyer l E σ5 (σ5 4 a0.toNatClampNeg 3) _ h) zwX10_112_X10_isBuyer zvX10_112_X10_isBuyer.1 zvX10_112_X10_isBuyer.2 (zL_mem (by decide) zo0) rfl rfl ⟨(Nat.le_of_ble_eq_true rfl), (Nat.le_of_ble_eq_true rfl)⟩ ⟨Nat.zero_le _, Nat.zero_le _⟩ rfl rfl (Nat.le_of_ble_eq_true rfl) dX10_cut_28 rfl (fun r9 σ8 h => ?_)
        obtain ⟨ht, hf⟩ := h
        refine z_if_ne (tgt := 37) (pc' := 34) C dX10_cut_31 (by decide) rfl (fun c10 => ?_) (fun c10 => ?_)
        · have h := ht c10
          refine z_aload_n (pc' := 38) C dX10_cut_37 rfl 1 rfl rfl ?_
          refine zgX10_47 (pc' := 41) C zo0 dX10_cut_38 rfl ?_
          refine z_aload_n (pc' := 42) C dX10_cut_41 rfl 1 rfl rfl ?_
          refine zgX10_17 (pc' := 45) C zo0 dX10_cut_42 rfl ?_
          refine z_iload_n (pc' := 46) C dX10_cut_45 rfl 2 rfl rfl ?_
          refine z_callVi (q := 15) (i := 0) (w9 := (RX8, TX8, 2)) (pc' := 49) (st := []) (As := [.ref (E.2.2 3 0), .int a0]) C (sc_X8_trampled l E σ8 a0 _ h) zwX10_195_X8_trampled zvX10_195_X8_trampled.1 zvX10_195_X8_trampled.2 (zL_mem (by decide) zo15) rfl rfl ⟨(Nat.le_of_ble_eq_true rfl), (Nat.le_of_ble_eq_true rfl)⟩ ⟨Nat.zero_le _, Nat.zero_le _⟩ rfl rfl (Nat.le_of_ble_eq_true rfl) dX10_cut_46 rfl (fun r12 σ11 h => ?_)
          refine z_istore_n (pc' := 50) (lv' := [(3, .int r12), (2, .ref (E.2.2 4 a0.toNatClampNeg)), (0, .ref (E.2.2 0 0)), (1, .int a0)]) C dX10_cut_49 rfl (by decide) rfl rfl ?_
          refine z_aload_n (pc' := 51) C dX10_cut_50 rfl 2 rfl rfl ?_
          refine zgX10_23 (pc' := 54) C zo0 dX10_cut_51 rfl ?_
          refine z_aload_n (pc' := 55) C dX10_cut_54 rfl 1 rfl rfl ?_
          refine zgX10_133 (pc' := 58) C (zin hv4) dX10_cut_55 rfl ?_
          obtain ⟨hv13, h⟩ := h
          refine z_aald (n := 10) (t0 := 5) (q2 := 6) (pc' := 59) C (zL_mem (by decide) zo5) (fun _ => rfl) rfl hv13 dX10_cut_58 rfl ?_
          refine z_dup (pc' := 60) C dX10_cut_59 rfl rfl ?_
          refine zgX10_155 (pc' := 63) C (zin hv13) dX10_cut_60 rfl ?_
          refine z_iload_n (pc' := 64) C dX10_cut_63 rfl 0 rfl rfl ?_
          refine z_iadd (pc' := 65) C dX10_cut_64 rfl ?_
          refine zpX10_155 (pc' := 68) C (zin hv13) dX10_cut_65 rfl ?_
          refine z_aload_n (pc' := 69) C dX10_cut_68 rfl 1 rfl rfl ?_
          refine z_aload_n (pc' := 70) C dX10_cut_69 rfl 2 rfl rfl ?_
          refine zgX10_192 (pc' := 73) C zo0 dX10_cut_70 rfl ?_
          refine zpX10_139 (pc' := 76) C (zin hv4) dX10_cut_73 rfl ?_
          refine z_iload_n (pc' := 77) C dX10_cut_76 rfl 0 rfl rfl ?_
          exact z_iret C dX10_cut_77 h
        · have h := hf c10
          refine z_bipush (v := (-3)) (pc' := 36) C dX10_cut_34 (by decide) rfl ?_
          exact z_iret C dX10_cut_36 h
    · have h := hf c3
      refine z_iconst (v := (-1)) (pc' := 8) C dX10_cut_7 (by decide) rfl ?_
      exact z_iret C dX10_cut_8 h
  exact fin
def vc_X10_standing_4 (Q : Int32 → zMem → Prop) : Nat → zMem → Int32 → Int32 → Prop
  | 0, _, _, _ => False
  | n + 1, σ, x1, x2 => ((24 ≤ x2) → Q x1 σ) ∧ ((¬ 24 ≤ x2) → vp_in x2 24 ∧ vc_X5_stands σ x2.toNatClampNeg (fun r5 σ4 => vc_X10_oneIf σ4 r5 (fun r7 σ6 => vc_X10_standing_4 Q n σ6 (x1 + r7) (x2 + 1))))
def vc_X10_standing (σ : zMem) (Q : Int32 → zMem → Prop) : Prop := ∃ n1, vc_X10_standing_4 Q n1 σ 0 0
set_option maxHeartbeats 4000000 in
set_option maxRecDepth 100000 in
theorem sl_X10_standing_4 {p : Program} {l : Launch} {e : Env} {s : State} {m : MethodId} {args : Array Value} {below : List Frame} {meth : Method} {c : Code} {E : zE} (C : zX p s m args meth c cX10_standing 3 RX10 (some .int) E) (Q : Int32 → zMem → Prop) : ∀ (n : Nat) (σ : zMem) (x1 : Int32) (x2 : Int32), vc_X10_standing_4 Q n σ x1 x2 → zG p l e (zRm 2 40) s m args below meth c 3 E 0 0 (MQ below (va_Qi Q (zPost E) (zA E s.heap.size)) args s 0 0 (zA E s.heap.size)) σ 4 [(0, .ref (E.2.2 0 0)), (1, .int x1), (2, .int x2)] [] := by
  intro n
  induction n with
  | zero =>
    intro σ x1 x2 h
    exact False.elim h
  | succ n ih =>
    intro σ x1 x2 h
    rw [vc_X10_standing_4] at h
    refine z_iload_n (pc' := 5) C dX10_standing_4 rfl 2 rfl rfl ?_
    refine z_bipush (v := 24) (pc' := 7) C dX10_standing_5 (by decide) rfl ?_
    obtain ⟨ht, hf⟩ := h
    refine z_icmp_ge (tgt := 31) (pc' := 10) C dX10_standing_7 (by decide) rfl (fun c2 => ?_) (fun c2 => ?_)
    · have h := ht c2
      refine z_iload_n (pc' := 32) C dX10_standing_31 rfl 1 rfl rfl ?_
      exact z_iret C dX10_standing_32 h
    · have h := hf c2
      refine z_iload_n (pc' := 11) C dX10_standing_10 rfl 1 rfl rfl ?_
      refine z_aload_n (pc' := 12) C dX10_standing_11 rfl 0 rfl rfl ?_
      refine zgX10_17 (pc' := 15) C zo0 dX10_standing_12 rfl ?_
      refine z_iload_n (pc' := 16) C dX10_standing_15 rfl 2 rfl rfl ?_
      obtain ⟨hv3, h⟩ := h
      refine z_aald (n := 24) (t0 := 4) (q2 := 4) (pc' := 17) C (zL_mem (by decide) zo3) (fun _ => rfl) rfl hv3 dX10_standing_16 rfl ?_
      refine z_callVi (q := 4) (i := x2.toNatClampNeg) (w9 := (RX5, TX5, 6)) (pc' := 20) (st := [.int x1]) (As := []) C (sc_X5_stands l E σ x2.toNatClampNeg _ (zin hv3) h) zwX10_142_X5_stands zvX10_142_X5_stands.1 zvX10_142_X5_stands.2 (zL_mem (by decide) (zin hv3)) rfl rfl ⟨(Nat.le_of_ble_eq_true rfl), (Nat.le_of_ble_eq_true rfl)⟩ ⟨Nat.zero_le _, Nat.zero_le _⟩ rfl rfl (Nat.le_of_ble_eq_true rfl) dX10_standing_17 rfl (fun r5 σ4 h => ?_)
      refine z_callSi (pc' := 23) (st := [.int x1]) (As := [.int r5]) C (sc_X10_oneIf l E σ4 r5 _ h) zwX10_119_X10_oneIf ztX10_119_X10_oneIf ⟨(Nat.le_of_ble_eq_true rfl), (Nat.le_of_ble_eq_true rfl)⟩ ⟨Nat.zero_le _, Nat.zero_le _⟩ rfl rfl (Nat.le_of_ble_eq_true rfl) dX10_standing_20 rfl (fun r7 σ6 h => ?_)
      refine z_iadd (pc' := 24) C dX10_standing_23 rfl ?_
      refine z_istore_n (pc' := 25) (lv' := [(1, .int (x1 + r7)), (0, .ref (E.2.2 0 0)), (2, .int x2)]) C dX10_standing_24 rfl (by decide) rfl rfl ?_
      refine z_iinc (j := 2) (v := x2 + 1) (pc' := 28) (lv' := [(2, .int (x2 + 1)), (1, .int (x1 + r7)), (0, .ref (E.2.2 0 0))]) C dX10_standing_25 rfl rfl (by decide) rfl rfl ?_
      refine z_goto (tgt := 4) C dX10_standing_28 (by decide) ?_
      refine z_sub (lv' := [(0, .ref (E.2.2 0 0)), (1, .int (x1 + r7)), (2, .int (x2 + 1))]) [2, 1, 0] rfl ?_
      exact ih _ _ _ h
set_option maxHeartbeats 4000000 in
set_option maxRecDepth 100000 in
theorem sc_X10_standing (l : Launch) (E : zE) (σ : zMem) (Q : Int32 → zMem → Prop) (h : vc_X10_standing σ Q) : zMi l yX10_standing cX10_standing 3 .int 2 40 E [.ref (E.2.2 0 0)] σ Q := by
  refine zMi_of (by decide) (Nat.le_of_ble_eq_true rfl) ?_
  intro p e s m args below meth c C
  unfold vc_X10_standing at h
  have fin : zG p l e (zRm 2 40) s m args below meth c 3 E 0 0 (MQ below (va_Qi Q (zPost E) (zA E s.heap.size)) args s 0 0 (zA E s.heap.size)) σ 0 [(0, .ref (E.2.2 0 0))] [] := by
    refine z_iconst (v := 0) (pc' := 1) C dX10_standing_0 (by decide) rfl ?_
    refine z_istore_n (pc' := 2) (lv' := [(1, .int 0), (0, .ref (E.2.2 0 0))]) C dX10_standing_1 rfl (by decide) rfl rfl ?_
    refine z_iconst (v := 0) (pc' := 3) C dX10_standing_2 (by decide) rfl ?_
    refine z_istore_n (pc' := 4) (lv' := [(2, .int 0), (1, .int 0), (0, .ref (E.2.2 0 0))]) C dX10_standing_3 rfl (by decide) rfl rfl ?_
    obtain ⟨n1, h⟩ := h
    refine z_sub (lv' := [(0, .ref (E.2.2 0 0)), (1, .int 0), (2, .int 0)]) [2, 1, 0] rfl ?_
    exact sl_X10_standing_4 C Q n1 _ _ _ h
  exact fin
def vc_X10_best (σ : zMem) (Q : Int32 → zMem → Prop) : Prop := vc_X10_standing σ (fun r2 σ1 => ((r2 ≤ 6) → Q 0 σ1) ∧ ((¬ r2 ≤ 6) → Q ((-5)) σ1))
set_option maxHeartbeats 4000000 in
set_option maxRecDepth 100000 in
theorem sc_X10_best (l : Launch) (E : zE) (σ : zMem) (Q : Int32 → zMem → Prop) (h : vc_X10_best σ Q) : zMi l yX10_best cX10_best 1 .int 3 62 E [.ref (E.2.2 0 0)] σ Q := by
  refine zMi_of (by decide) (Nat.le_of_ble_eq_true rfl) ?_
  intro p e s m args below meth c C
  unfold vc_X10_best at h
  have fin : zG p l e (zRm 3 62) s m args below meth c 1 E 0 0 (MQ below (va_Qi Q (zPost E) (zA E s.heap.size)) args s 0 0 (zA E s.heap.size)) σ 0 [(0, .ref (E.2.2 0 0))] [] := by
    refine z_aload_n (pc' := 1) C dX10_best_0 rfl 0 rfl rfl ?_
    refine z_callVi (q := 0) (i := 0) (w9 := (RX10, TX10, 12)) (pc' := 4) (st := []) (As := []) C (sc_X10_standing l E σ  _ h) zwX10_198_X10_standing zvX10_198_X10_standing.1 zvX10_198_X10_standing.2 (zL_mem (by decide) zo0) rfl rfl ⟨(Nat.le_of_ble_eq_true rfl), (Nat.le_of_ble_eq_true rfl)⟩ ⟨Nat.zero_le _, Nat.zero_le _⟩ rfl rfl (Nat.le_of_ble_eq_true rfl) dX10_best_1 rfl (fun r2 σ1 h => ?_)
    refine z_bipush (v := 6) (pc' := 6) C dX10_best_4 (by decide) rfl ?_
    obtain ⟨ht, hf⟩ := h
    refine z_icmp_le (tgt := 14) (pc' := 9) C dX10_best_6 (by decide) rfl (fun c3 => ?_) (fun c3 => ?_)
    · have h := ht c3
      refine z_iconst (v := 0) (pc' := 15) C dX10_best_14 (by decide) rfl ?_
      exact z_iret C dX10_best_15 h
    · have h := hf c3
      refine z_bipush (v := (-5)) (pc' := 11) C dX10_best_9 (by decide) rfl ?_
      refine z_goto (tgt := 15) C dX10_best_11 (by decide) ?_
      exact z_iret C dX10_best_15 h
  exact fin
def vc_X10_standingAt_4 (x1 : Int32) (Q : Int32 → zMem → Prop) : Nat → zMem → Int32 → Int32 → Prop
  | 0, _, _, _ => False
  | n + 1, σ, x2, x3 => ((24 ≤ x3) → Q ((-3)) σ) ∧ ((¬ 24 ≤ x3) → vp_in x3 24 ∧ vc_X5_stands σ x3.toNatClampNeg (fun r5 σ4 => ((r5 = 0) → vc_X10_standingAt_4 x1 Q n σ4 x2 (x3 + 1)) ∧ ((¬ r5 = 0) → ((¬ x2 = x1) → vc_X10_standingAt_4 x1 Q n σ4 (x2 + 1) (x3 + 1)) ∧ ((x2 = x1) → Q x3 σ4))))
def vc_X10_standingAt (σ : zMem) (a0 : Int32) (Q : Int32 → zMem → Prop) : Prop := ∃ n1, vc_X10_standingAt_4 a0 Q n1 σ 0 0
set_option maxHeartbeats 4000000 in
set_option maxRecDepth 100000 in
theorem sl_X10_standingAt_4 {p : Program} {l : Launch} {e : Env} {s : State} {m : MethodId} {args : Array Value} {below : List Frame} {meth : Method} {c : Code} {E : zE} (C : zX p s m args meth c cX10_standingAt 4 RX10 (some .int) E) (x1 : Int32) (Q : Int32 → zMem → Prop) : ∀ (n : Nat) (σ : zMem) (x2 : Int32) (x3 : Int32), vc_X10_standingAt_4 x1 Q n σ x2 x3 → zG p l e (zRm 2 40) s m args below meth c 4 E 0 0 (MQ below (va_Qi Q (zPost E) (zA E s.heap.size)) args s 0 0 (zA E s.heap.size)) σ 4 [(0, .ref (E.2.2 0 0)), (1, .int x1), (2, .int x2), (3, .int x3)] [] := by
  intro n
  induction n with
  | zero =>
    intro σ x2 x3 h
    exact False.elim h
  | succ n ih =>
    intro σ x2 x3 h
    rw [vc_X10_standingAt_4] at h
    refine z_iload_n (pc' := 5) C dX10_standingAt_4 rfl 3 rfl rfl ?_
    refine z_bipush (v := 24) (pc' := 7) C dX10_standingAt_5 (by decide) rfl ?_
    obtain ⟨ht, hf⟩ := h
    refine z_icmp_ge (tgt := 38) (pc' := 10) C dX10_standingAt_7 (by decide) rfl (fun c2 => ?_) (fun c2 => ?_)
    · have h := ht c2
      refine z_bipush (v := (-3)) (pc' := 40) C dX10_standingAt_38 (by decide) rfl ?_
      exact z_iret C dX10_standingAt_40 h
    · have h := hf c2
      refine z_aload_n (pc' := 11) C dX10_standingAt_10 rfl 0 rfl rfl ?_
      refine zgX10_17 (pc' := 14) C zo0 dX10_standingAt_11 rfl ?_
      refine z_iload_n (pc' := 15) C dX10_standingAt_14 rfl 3 rfl rfl ?_
      obtain ⟨hv3, h⟩ := h
      refine z_aald (n := 24) (t0 := 4) (q2 := 4) (pc' := 16) C (zL_mem (by decide) zo3) (fun _ => rfl) rfl hv3 dX10_standingAt_15 rfl ?_
      refine z_callVi (q := 4) (i := x3.toNatClampNeg) (w9 := (RX5, TX5, 6)) (pc' := 19) (st := []) (As := []) C (sc_X5_stands l E σ x3.toNatClampNeg _ (zin hv3) h) zwX10_142_X5_stands zvX10_142_X5_stands.1 zvX10_142_X5_stands.2 (zL_mem (by decide) (zin hv3)) rfl rfl ⟨(Nat.le_of_ble_eq_true rfl), (Nat.le_of_ble_eq_true rfl)⟩ ⟨Nat.zero_le _, Nat.zero_le _⟩ rfl rfl (Nat.le_of_ble_eq_true rfl) dX10_standingAt_16 rfl (fun r5 σ4 h => ?_)
      obtain ⟨ht, hf⟩ := h
      refine z_if_eq (tgt := 32) (pc' := 22) C dX10_standingAt_19 (by decide) rfl (fun c6 => ?_) (fun c6 => ?_)
      · have h := ht c6
        refine z_iinc (j := 3) (v := x3 + 1) (pc' := 35) (lv' := [(3, .int (x3 + 1)), (0, .ref (E.2.2 0 0)), (1, .int x1), (2, .int x2)]) C dX10_standingAt_32 rfl rfl (by decide) rfl rfl ?_
        refine z_goto (tgt := 4) C dX10_standingAt_35 (by decide) ?_
        refine z_sub (lv' := [(0, .ref (E.2.2 0 0)), (1, .int x1), (2, .int x2), (3, .int (x3 + 1))]) [1, 2, 3, 0] rfl ?_
        exact ih _ _ _ h
      · have h := hf c6
        refine z_iload_n (pc' := 23) C dX10_standingAt_22 rfl 2 rfl rfl ?_
        refine z_iload_n (pc' := 24) C dX10_standingAt_23 rfl 1 rfl rfl ?_
        obtain ⟨ht, hf⟩ := h
        refine z_icmp_ne (tgt := 29) (pc' := 27) C dX10_standingAt_24 (by decide) rfl (fun c7 => ?_) (fun c7 => ?_)
        · have h := ht c7
          refine z_iinc (j := 2) (v := x2 + 1) (pc' := 32) (lv' := [(2, .int (x2 + 1)), (0, .ref (E.2.2 0 0)), (1, .int x1), (3, .int x3)]) C dX10_standingAt_29 rfl rfl (by decide) rfl rfl ?_
          refine z_iinc (j := 3) (v := x3 + 1) (pc' := 35) (lv' := [(3, .int (x3 + 1)), (2, .int (x2 + 1)), (0, .ref (E.2.2 0 0)), (1, .int x1)]) C dX10_standingAt_32 rfl rfl (by decide) rfl rfl ?_
          refine z_goto (tgt := 4) C dX10_standingAt_35 (by decide) ?_
          refine z_sub (lv' := [(0, .ref (E.2.2 0 0)), (1, .int x1), (2, .int (x2 + 1)), (3, .int (x3 + 1))]) [2, 3, 1, 0] rfl ?_
          exact ih _ _ _ h
        · have h := hf c7
          refine z_iload_n (pc' := 28) C dX10_standingAt_27 rfl 3 rfl rfl ?_
          exact z_iret C dX10_standingAt_28 h
set_option maxHeartbeats 4000000 in
set_option maxRecDepth 100000 in
theorem sc_X10_standingAt (l : Launch) (E : zE) (σ : zMem) (a0 : Int32) (Q : Int32 → zMem → Prop) (h : vc_X10_standingAt σ a0 Q) : zMi l yX10_standingAt cX10_standingAt 4 .int 2 40 E [.ref (E.2.2 0 0), .int a0] σ Q := by
  refine zMi_of (by decide) (Nat.le_of_ble_eq_true rfl) ?_
  intro p e s m args below meth c C
  unfold vc_X10_standingAt at h
  have fin : zG p l e (zRm 2 40) s m args below meth c 4 E 0 0 (MQ below (va_Qi Q (zPost E) (zA E s.heap.size)) args s 0 0 (zA E s.heap.size)) σ 0 [(0, .ref (E.2.2 0 0)), (1, .int a0)] [] := by
    refine z_iconst (v := 0) (pc' := 1) C dX10_standingAt_0 (by decide) rfl ?_
    refine z_istore_n (pc' := 2) (lv' := [(2, .int 0), (0, .ref (E.2.2 0 0)), (1, .int a0)]) C dX10_standingAt_1 rfl (by decide) rfl rfl ?_
    refine z_iconst (v := 0) (pc' := 3) C dX10_standingAt_2 (by decide) rfl ?_
    refine z_istore_n (pc' := 4) (lv' := [(3, .int 0), (2, .int 0), (0, .ref (E.2.2 0 0)), (1, .int a0)]) C dX10_standingAt_3 rfl (by decide) rfl rfl ?_
    obtain ⟨n1, h⟩ := h
    refine z_sub (lv' := [(0, .ref (E.2.2 0 0)), (1, .int a0), (2, .int 0), (3, .int 0)]) [2, 3, 1, 0] rfl ?_
    exact sl_X10_standingAt_4 C a0 Q n1 _ _ _ h
  exact fin
def vc_X10_order (σ : zMem) (a0 : Int32) (Q : Int32 → zMem → Prop) : Prop := ((0 ≤ a0) → vc_X10_standing σ (fun r3 σ2 => ((r3 ≤ 6) → ((r3 ≤ a0) → Q ((-3)) σ2) ∧ ((¬ r3 ≤ a0) → vc_X10_standingAt σ2 a0 (fun r7 σ6 => Q r7 σ6))) ∧ ((¬ r3 ≤ 6) → Q ((-5)) σ2))) ∧ ((¬ 0 ≤ a0) → Q ((-1)) σ)
set_option maxHeartbeats 4000000 in
set_option maxRecDepth 100000 in
theorem sc_X10_order (l : Launch) (E : zE) (σ : zMem) (a0 : Int32) (Q : Int32 → zMem → Prop) (h : vc_X10_order σ a0 Q) : zMi l yX10_order cX10_order 3 .int 3 63 E [.ref (E.2.2 0 0), .int a0] σ Q := by
  refine zMi_of (by decide) (Nat.le_of_ble_eq_true rfl) ?_
  intro p e s m args below meth c C
  unfold vc_X10_order at h
  have fin : zG p l e (zRm 3 63) s m args below meth c 3 E 0 0 (MQ below (va_Qi Q (zPost E) (zA E s.heap.size)) args s 0 0 (zA E s.heap.size)) σ 0 [(0, .ref (E.2.2 0 0)), (1, .int a0)] [] := by
    refine z_iload_n (pc' := 1) C dX10_order_0 rfl 1 rfl rfl ?_
    obtain ⟨ht, hf⟩ := h
    refine z_if_ge (tgt := 6) (pc' := 4) C dX10_order_1 (by decide) rfl (fun c1 => ?_) (fun c1 => ?_)
    · have h := ht c1
      refine z_aload_n (pc' := 7) C dX10_order_6 rfl 0 rfl rfl ?_
      refine z_callVi (q := 0) (i := 0) (w9 := (RX10, TX10, 12)) (pc' := 10) (st := []) (As := []) C (sc_X10_standing l E σ  _ h) zwX10_198_X10_standing zvX10_198_X10_standing.1 zvX10_198_X10_standing.2 (zL_mem (by decide) zo0) rfl rfl ⟨(Nat.le_of_ble_eq_true rfl), (Nat.le_of_ble_eq_true rfl)⟩ ⟨Nat.zero_le _, Nat.zero_le _⟩ rfl rfl (Nat.le_of_ble_eq_true rfl) dX10_order_7 rfl (fun r3 σ2 h => ?_)
      refine z_istore_n (pc' := 11) (lv' := [(2, .int r3), (0, .ref (E.2.2 0 0)), (1, .int a0)]) C dX10_order_10 rfl (by decide) rfl rfl ?_
      refine z_iload_n (pc' := 12) C dX10_order_11 rfl 0 rfl rfl ?_
      refine z_bipush (v := 6) (pc' := 14) C dX10_order_12 (by decide) rfl ?_
      obtain ⟨ht, hf⟩ := h
      refine z_icmp_le (tgt := 20) (pc' := 17) C dX10_order_14 (by decide) rfl (fun c4 => ?_) (fun c4 => ?_)
      · have h := ht c4
        refine z_iload_n (pc' := 21) C dX10_order_20 rfl 2 rfl rfl ?_
        refine z_iload_n (pc' := 22) C dX10_order_21 rfl 0 rfl rfl ?_
        obtain ⟨ht, hf⟩ := h
        refine z_icmp_ge (tgt := 33) (pc' := 25) C dX10_order_22 (by decide) rfl (fun c5 => ?_) (fun c5 => ?_)
        · have h := ht c5
          refine z_bipush (v := (-3)) (pc' := 35) C dX10_order_33 (by decide) rfl ?_
          exact z_iret C dX10_order_35 h
        · have h := hf c5
          refine z_aload_n (pc' := 26) C dX10_order_25 rfl 1 rfl rfl ?_
          refine z_iload_n (pc' := 27) C dX10_order_26 rfl 2 rfl rfl ?_
          refine z_callVi (q := 0) (i := 0) (w9 := (RX10, TX10, 12)) (pc' := 30) (st := []) (As := [.int a0]) C (sc_X10_standingAt l E σ2 a0 _ h) zwX10_201_X10_standingAt zvX10_201_X10_standingAt.1 zvX10_201_X10_standingAt.2 (zL_mem (by decide) zo0) rfl rfl ⟨(Nat.le_of_ble_eq_true rfl), (Nat.le_of_ble_eq_true rfl)⟩ ⟨Nat.zero_le _, Nat.zero_le _⟩ rfl rfl (Nat.le_of_ble_eq_true rfl) dX10_order_27 rfl (fun r7 σ6 h => ?_)
          refine z_goto (tgt := 35) C dX10_order_30 (by decide) ?_
          exact z_iret C dX10_order_35 h
      · have h := hf c4
        refine z_bipush (v := (-5)) (pc' := 19) C dX10_order_17 (by decide) rfl ?_
        exact z_iret C dX10_order_19 h
    · have h := hf c1
      refine z_iconst (v := (-1)) (pc' := 5) C dX10_order_4 (by decide) rfl ?_
      exact z_iret C dX10_order_5 h
  exact fin
def vc_X10_dryDay_9 (Q : Int32 → zMem → Prop) : Nat → zMem → Int32 → Int32 → Prop
  | 0, _, _, _ => False
  | n + 1, σ, x2, x3 => ((30 < x3) → Q ((-4)) σ) ∧ ((¬ 30 < x3) → vp_in x3 31 ∧ (((σ 11 0 x3.toNatClampNeg) = 0) → ((¬ (x2 + 1) = 3) → vc_X10_dryDay_9 Q n σ (x2 + 1) (x3 + 1)) ∧ (((x2 + 1) = 3) → Q x3 σ)) ∧ ((¬ (σ 11 0 x3.toNatClampNeg) = 0) → ((¬ ((if (x2 - 1) < 0 then 0 else x2 - 1)) = 3) → vc_X10_dryDay_9 Q n σ ((if (x2 - 1) < 0 then 0 else x2 - 1)) (x3 + 1)) ∧ ((((if (x2 - 1) < 0 then 0 else x2 - 1)) = 3) → Q x3 σ)))
def vc_X10_dryDay (σ : zMem) (i0 : Nat) (Q : Int32 → zMem → Prop) : Prop := ∃ n1, vc_X10_dryDay_9 Q n1 σ 0 ((σ 4 i0 5) + 1)
set_option maxHeartbeats 4000000 in
set_option maxRecDepth 100000 in
theorem sl_X10_dryDay_9 {p : Program} {l : Launch} {e : Env} {s : State} {m : MethodId} {args : Array Value} {below : List Frame} {meth : Method} {c : Code} {E : zE} (C : zX p s m args meth c cX10_dryDay 4 RX10 (some .int) E) (Q : Int32 → zMem → Prop) : ∀ (n : Nat) (σ : zMem) (x2 : Int32) (x3 : Int32), vc_X10_dryDay_9 Q n σ x2 x3 → zG p l e (zRm 1 21) s m args below meth c 4 E 0 0 (MQ below (va_Qi Q (zPost E) (zA E s.heap.size)) args s 0 0 (zA E s.heap.size)) σ 9 [(0, .ref (E.2.2 0 0)), (2, .int x2), (3, .int x3)] [] := by
  intro n
  induction n with
  | zero =>
    intro σ x2 x3 h
    exact False.elim h
  | succ n ih =>
    intro σ x2 x3 h
    rw [vc_X10_dryDay_9] at h
    refine z_iload_n (pc' := 10) C dX10_dryDay_9 rfl 2 rfl rfl ?_
    refine z_bipush (v := 30) (pc' := 12) C dX10_dryDay_10 (by decide) rfl ?_
    obtain ⟨ht, hf⟩ := h
    refine z_icmp_gt (tgt := 51) (pc' := 15) C dX10_dryDay_12 (by decide) rfl (fun c2 => ?_) (fun c2 => ?_)
    · have h := ht c2
      refine z_bipush (v := (-4)) (pc' := 53) C dX10_dryDay_51 (by decide) rfl ?_
      exact z_iret C dX10_dryDay_53 h
    · have h := hf c2
      refine z_aload_n (pc' := 16) C dX10_dryDay_15 rfl 0 rfl rfl ?_
      refine zgX10_33 (pc' := 19) C zo0 dX10_dryDay_16 rfl ?_
      refine z_iload_n (pc' := 20) C dX10_dryDay_19 rfl 2 rfl rfl ?_
      obtain ⟨hv3, h⟩ := h
      refine z_zald (n := 31) (pc' := 21) C (zL_mem (by decide) zo11) (fun _ => rfl) hv3 dX10_dryDay_20 rfl ?_
      obtain ⟨ht, hf⟩ := h
      refine z_if_eq (tgt := 34) (pc' := 24) C dX10_dryDay_21 (by decide) rfl (fun c4 => ?_) (fun c4 => ?_)
      · have h := ht c4
        refine z_iload_n (pc' := 35) C dX10_dryDay_34 rfl 1 rfl rfl ?_
        refine z_iconst (v := 1) (pc' := 36) C dX10_dryDay_35 (by decide) rfl ?_
        refine z_iadd (pc' := 37) C dX10_dryDay_36 rfl ?_
        refine z_istore_n (pc' := 38) (lv' := [(2, .int (x2 + 1)), (0, .ref (E.2.2 0 0)), (3, .int x3)]) C dX10_dryDay_37 rfl (by decide) rfl rfl ?_
        refine z_iload_n (pc' := 39) C dX10_dryDay_38 rfl 0 rfl rfl ?_
        refine z_iconst (v := 3) (pc' := 40) C dX10_dryDay_39 (by decide) rfl ?_
        obtain ⟨ht, hf⟩ := h
        refine z_icmp_ne (tgt := 45) (pc' := 43) C dX10_dryDay_40 (by decide) rfl (fun c5 => ?_) (fun c5 => ?_)
        · have h := ht c5
          refine z_iinc (j := 2) (v := x3 + 1) (pc' := 48) (lv' := [(3, .int (x3 + 1)), (2, .int (x2 + 1)), (0, .ref (E.2.2 0 0))]) C dX10_dryDay_45 rfl rfl (by decide) rfl rfl ?_
          refine z_goto (tgt := 9) C dX10_dryDay_48 (by decide) ?_
          refine z_sub (lv' := [(0, .ref (E.2.2 0 0)), (2, .int (x2 + 1)), (3, .int (x3 + 1))]) [2, 1, 0] rfl ?_
          exact ih _ _ _ h
        · have h := hf c5
          refine z_iload_n (pc' := 44) C dX10_dryDay_43 rfl 2 rfl rfl ?_
          exact z_iret C dX10_dryDay_44 h
      · have h := hf c4
        refine z_iload_n (pc' := 25) C dX10_dryDay_24 rfl 1 rfl rfl ?_
        refine z_iconst (v := 1) (pc' := 26) C dX10_dryDay_25 (by decide) rfl ?_
        refine z_isub (pc' := 27) C dX10_dryDay_26 rfl ?_
        refine z_iconst (v := 0) (pc' := 28) C dX10_dryDay_27 (by decide) rfl ?_
        refine z_mmax (pc' := 31) C zmX10_317 (Nat.le_of_ble_eq_true rfl) (Nat.le_of_ble_eq_true rfl) (Nat.zero_le _) (Nat.zero_le _) dX10_dryDay_28 rfl ?_
        refine z_goto (tgt := 37) C dX10_dryDay_31 (by decide) ?_
        refine z_istore_n (pc' := 38) (lv' := [(2, .int ((if (x2 - 1) < 0 then 0 else x2 - 1))), (0, .ref (E.2.2 0 0)), (3, .int x3)]) C dX10_dryDay_37 rfl (by decide) rfl rfl ?_
        refine z_iload_n (pc' := 39) C dX10_dryDay_38 rfl 0 rfl rfl ?_
        refine z_iconst (v := 3) (pc' := 40) C dX10_dryDay_39 (by decide) rfl ?_
        obtain ⟨ht, hf⟩ := h
        refine z_icmp_ne (tgt := 45) (pc' := 43) C dX10_dryDay_40 (by decide) rfl (fun c6 => ?_) (fun c6 => ?_)
        · have h := ht c6
          refine z_iinc (j := 2) (v := x3 + 1) (pc' := 48) (lv' := [(3, .int (x3 + 1)), (2, .int ((if (x2 - 1) < 0 then 0 else x2 - 1))), (0, .ref (E.2.2 0 0))]) C dX10_dryDay_45 rfl rfl (by decide) rfl rfl ?_
          refine z_goto (tgt := 9) C dX10_dryDay_48 (by decide) ?_
          refine z_sub (lv' := [(0, .ref (E.2.2 0 0)), (2, .int ((if (x2 - 1) < 0 then 0 else x2 - 1))), (3, .int (x3 + 1))]) [2, 1, 0] rfl ?_
          exact ih _ _ _ h
        · have h := hf c6
          refine z_iload_n (pc' := 44) C dX10_dryDay_43 rfl 2 rfl rfl ?_
          exact z_iret C dX10_dryDay_44 h
set_option maxHeartbeats 4000000 in
set_option maxRecDepth 100000 in
theorem sc_X10_dryDay (l : Launch) (E : zE) (σ : zMem) (i0 : Nat) (Q : Int32 → zMem → Prop) (hi0 : i0 < zcnt 4) (h : vc_X10_dryDay σ i0 Q) : zMi l yX10_dryDay cX10_dryDay 4 .int 1 21 E [.ref (E.2.2 0 0), .ref (E.2.2 4 i0)] σ Q := by
  refine zMi_of (by decide) (Nat.le_of_ble_eq_true rfl) ?_
  intro p e s m args below meth c C
  unfold vc_X10_dryDay at h
  have fin : zG p l e (zRm 1 21) s m args below meth c 4 E 0 0 (MQ below (va_Qi Q (zPost E) (zA E s.heap.size)) args s 0 0 (zA E s.heap.size)) σ 0 [(0, .ref (E.2.2 0 0)), (1, .ref (E.2.2 4 i0))] [] := by
    refine z_iconst (v := 0) (pc' := 1) C dX10_dryDay_0 (by decide) rfl ?_
    refine z_istore_n (pc' := 2) (lv' := [(2, .int 0), (0, .ref (E.2.2 0 0)), (1, .ref (E.2.2 4 i0))]) C dX10_dryDay_1 rfl (by decide) rfl rfl ?_
    refine z_aload_n (pc' := 3) C dX10_dryDay_2 rfl 2 rfl rfl ?_
    refine zgX10_139 (pc' := 6) C hi0 dX10_dryDay_3 rfl ?_
    refine z_iconst (v := 1) (pc' := 7) C dX10_dryDay_6 (by decide) rfl ?_
    refine z_iadd (pc' := 8) C dX10_dryDay_7 rfl ?_
    refine z_istore_n (pc' := 9) (lv' := [(3, .int ((σ 4 i0 5) + 1)), (2, .int 0), (0, .ref (E.2.2 0 0)), (1, .ref (E.2.2 4 i0))]) C dX10_dryDay_8 rfl (by decide) rfl rfl ?_
    obtain ⟨n1, h⟩ := h
    refine z_sub (lv' := [(0, .ref (E.2.2 0 0)), (2, .int 0), (3, .int ((σ 4 i0 5) + 1))]) [2, 1, 0] rfl ?_
    exact sl_X10_dryDay_9 C Q n1 _ _ _ h
  exact fin
def vc_X10_dry (σ : zMem) (a0 : Int32) (Q : Int32 → zMem → Prop) : Prop := vc_X10_isPlot σ a0 (fun r2 σ1 => ((¬ r2 = 0) → vp_in a0 24 ∧ vc_X5_isCut σ1 a0.toNatClampNeg (fun r6 σ5 => ((¬ r6 = 0) → vp_in a0 24 ∧ vc_X10_dryDay σ5 a0.toNatClampNeg (fun r10 σ9 => Q r10 σ9)) ∧ ((r6 = 0) → Q ((-3)) σ5))) ∧ ((r2 = 0) → Q ((-1)) σ1))
set_option maxHeartbeats 4000000 in
set_option maxRecDepth 100000 in
theorem sc_X10_dry (l : Launch) (E : zE) (σ : zMem) (a0 : Int32) (Q : Int32 → zMem → Prop) (h : vc_X10_dry σ a0 Q) : zMi l yX10_dry cX10_dry 2 .int 2 44 E [.ref (E.2.2 0 0), .int a0] σ Q := by
  refine zMi_of (by decide) (Nat.le_of_ble_eq_true rfl) ?_
  intro p e s m args below meth c C
  unfold vc_X10_dry at h
  have fin : zG p l e (zRm 2 44) s m args below meth c 2 E 0 0 (MQ below (va_Qi Q (zPost E) (zA E s.heap.size)) args s 0 0 (zA E s.heap.size)) σ 0 [(0, .ref (E.2.2 0 0)), (1, .int a0)] [] := by
    refine z_iload_n (pc' := 1) C dX10_dry_0 rfl 1 rfl rfl ?_
    refine z_callSi (pc' := 4) (st := []) (As := [.int a0]) C (sc_X10_isPlot l E σ a0 _ h) zwX10_77_X10_isPlot ztX10_77_X10_isPlot ⟨(Nat.le_of_ble_eq_true rfl), (Nat.le_of_ble_eq_true rfl)⟩ ⟨Nat.zero_le _, Nat.zero_le _⟩ rfl rfl (Nat.le_of_ble_eq_true rfl) dX10_dry_1 rfl (fun r2 σ1 h => ?_)
    obtain ⟨ht, hf⟩ := h
    refine z_if_ne (tgt := 9) (pc' := 7) C dX10_dry_4 (by decide) rfl (fun c3 => ?_) (fun c3 => ?_)
    · have h := ht c3
      refine z_aload_n (pc' := 10) C dX10_dry_9 rfl 0 rfl rfl ?_
      refine zgX10_17 (pc' := 13) C zo0 dX10_dry_10 rfl ?_
      refine z_iload_n (pc' := 14) C dX10_dry_13 rfl 1 rfl rfl ?_
      obtain ⟨hv4, h⟩ := h
      refine z_aald (n := 24) (t0 := 4) (q2 := 4) (pc' := 15) C (zL_mem (by decide) zo3) (fun _ => rfl) rfl hv4 dX10_dry_14 rfl ?_
      refine z_callVi (q := 4) (i := a0.toNatClampNeg) (w9 := (RX5, TX5, 6)) (pc' := 18) (st := []) (As := []) C (sc_X5_isCut l E σ1 a0.toNatClampNeg _ (zin hv4) h) zwX10_204_X5_isCut zvX10_204_X5_isCut.1 zvX10_204_X5_isCut.2 (zL_mem (by decide) (zin hv4)) rfl rfl ⟨(Nat.le_of_ble_eq_true rfl), (Nat.le_of_ble_eq_true rfl)⟩ ⟨Nat.zero_le _, Nat.zero_le _⟩ rfl rfl (Nat.le_of_ble_eq_true rfl) dX10_dry_15 rfl (fun r6 σ5 h => ?_)
      obtain ⟨ht, hf⟩ := h
      refine z_if_ne (tgt := 24) (pc' := 21) C dX10_dry_18 (by decide) rfl (fun c7 => ?_) (fun c7 => ?_)
      · have h := ht c7
        refine z_aload_n (pc' := 25) C dX10_dry_24 rfl 0 rfl rfl ?_
        refine z_aload_n (pc' := 26) C dX10_dry_25 rfl 0 rfl rfl ?_
        refine zgX10_17 (pc' := 29) C zo0 dX10_dry_26 rfl ?_
        refine z_iload_n (pc' := 30) C dX10_dry_29 rfl 1 rfl rfl ?_
        obtain ⟨hv8, h⟩ := h
        refine z_aald (n := 24) (t0 := 4) (q2 := 4) (pc' := 31) C (zL_mem (by decide) zo3) (fun _ => rfl) rfl hv8 dX10_dry_30 rfl ?_
        refine z_callVi (q := 0) (i := 0) (w9 := (RX10, TX10, 12)) (pc' := 34) (st := []) (As := [.ref (E.2.2 4 a0.toNatClampNeg)]) C (sc_X10_dryDay l E σ5 a0.toNatClampNeg _ (zin hv8) h) zwX10_207_X10_dryDay zvX10_207_X10_dryDay.1 zvX10_207_X10_dryDay.2 (zL_mem (by decide) zo0) rfl rfl ⟨(Nat.le_of_ble_eq_true rfl), (Nat.le_of_ble_eq_true rfl)⟩ ⟨Nat.zero_le _, Nat.zero_le _⟩ rfl rfl (Nat.le_of_ble_eq_true rfl) dX10_dry_31 rfl (fun r10 σ9 h => ?_)
        exact z_iret C dX10_dry_34 h
      · have h := hf c7
        refine z_bipush (v := (-3)) (pc' := 23) C dX10_dry_21 (by decide) rfl ?_
        exact z_iret C dX10_dry_23 h
    · have h := hf c3
      refine z_iconst (v := (-1)) (pc' := 8) C dX10_dry_7 (by decide) rfl ?_
      exact z_iret C dX10_dry_8 h
  exact fin
def vc_X10_inBarn_27 (x2 : Int32) (Q : Int32 → zMem → Prop) : Nat → zMem → Int32 → Int32 → Prop
  | 0, _, _, _ => False
  | n + 1, σ, x3, x4 => ((x2 < x4) → Q x3 σ) ∧ ((¬ x2 < x4) → vp_in x4 31 ∧ (((σ 11 0 x4.toNatClampNeg) = 0) → vc_X10_inBarn_27 x2 Q n σ x3 (x4 + 1)) ∧ ((¬ (σ 11 0 x4.toNatClampNeg) = 0) → vc_X10_inBarn_27 x2 Q n σ (x3 - (x3 / 10)) (x4 + 1)))
def vc_X10_inBarn (σ : zMem) (i0 : Nat) (Q : Int32 → zMem → Prop) : Prop := vc_X10_dryDay σ i0 (fun r2 σ1 => ((¬ r2 = ((-4))) → vc_X5_hay σ1 i0 (fun r5 σ4 => ∃ n6, vc_X10_inBarn_27 r2 Q n6 σ4 r5 ((σ4 4 i0 5) + 1))) ∧ ((r2 = ((-4))) → Q 0 σ1))
set_option maxHeartbeats 4000000 in
set_option maxRecDepth 100000 in
theorem sl_X10_inBarn_27 {p : Program} {l : Launch} {e : Env} {s : State} {m : MethodId} {args : Array Value} {below : List Frame} {meth : Method} {c : Code} {E : zE} (C : zX p s m args meth c cX10_inBarn 5 RX10 (some .int) E) (x2 : Int32) (Q : Int32 → zMem → Prop) : ∀ (n : Nat) (σ : zMem) (x3 : Int32) (x4 : Int32), vc_X10_inBarn_27 x2 Q n σ x3 x4 → zG p l e (zRm 2 44) s m args below meth c 5 E 0 0 (MQ below (va_Qi Q (zPost E) (zA E s.heap.size)) args s 0 0 (zA E s.heap.size)) σ 27 [(0, .ref (E.2.2 0 0)), (2, .int x2), (3, .int x3), (4, .int x4)] [] := by
  intro n
  induction n with
  | zero =>
    intro σ x3 x4 h
    exact False.elim h
  | succ n ih =>
    intro σ x3 x4 h
    rw [vc_X10_inBarn_27] at h
    refine z_iload (pc' := 29) C dX10_inBarn_27 3 rfl rfl ?_
    refine z_iload_n (pc' := 30) C dX10_inBarn_29 rfl 1 rfl rfl ?_
    obtain ⟨ht, hf⟩ := h
    refine z_icmp_gt (tgt := 56) (pc' := 33) C dX10_inBarn_30 (by decide) rfl (fun c7 => ?_) (fun c7 => ?_)
    · have h := ht c7
      refine z_iload_n (pc' := 57) C dX10_inBarn_56 rfl 2 rfl rfl ?_
      exact z_iret C dX10_inBarn_57 h
    · have h := hf c7
      refine z_aload_n (pc' := 34) C dX10_inBarn_33 rfl 0 rfl rfl ?_
      refine zgX10_33 (pc' := 37) C zo0 dX10_inBarn_34 rfl ?_
      refine z_iload (pc' := 39) C dX10_inBarn_37 3 rfl rfl ?_
      obtain ⟨hv8, h⟩ := h
      refine z_zald (n := 31) (pc' := 40) C (zL_mem (by decide) zo11) (fun _ => rfl) hv8 dX10_inBarn_39 rfl ?_
      obtain ⟨ht, hf⟩ := h
      refine z_if_eq (tgt := 50) (pc' := 43) C dX10_inBarn_40 (by decide) rfl (fun c9 => ?_) (fun c9 => ?_)
      · have h := ht c9
        refine z_iinc (j := 3) (v := x4 + 1) (pc' := 53) (lv' := [(4, .int (x4 + 1)), (0, .ref (E.2.2 0 0)), (2, .int x2), (3, .int x3)]) C dX10_inBarn_50 rfl rfl (by decide) rfl rfl ?_
        refine z_goto (tgt := 27) C dX10_inBarn_53 (by decide) ?_
        refine z_sub (lv' := [(0, .ref (E.2.2 0 0)), (2, .int x2), (3, .int x3), (4, .int (x4 + 1))]) [1, 2, 3, 0] rfl ?_
        exact ih _ _ _ h
      · have h := hf c9
        refine z_iload_n (pc' := 44) C dX10_inBarn_43 rfl 2 rfl rfl ?_
        refine z_iload_n (pc' := 45) C dX10_inBarn_44 rfl 2 rfl rfl ?_
        refine z_bipush (v := 10) (pc' := 47) C dX10_inBarn_45 (by decide) rfl ?_
        refine z_idiv (pc' := 48) C dX10_inBarn_47 (by decide) rfl ?_
        refine z_isub (pc' := 49) C dX10_inBarn_48 rfl ?_
        refine z_istore_n (pc' := 50) (lv' := [(3, .int (x3 - (x3 / 10))), (0, .ref (E.2.2 0 0)), (2, .int x2), (4, .int x4)]) C dX10_inBarn_49 rfl (by decide) rfl rfl ?_
        refine z_iinc (j := 3) (v := x4 + 1) (pc' := 53) (lv' := [(4, .int (x4 + 1)), (3, .int (x3 - (x3 / 10))), (0, .ref (E.2.2 0 0)), (2, .int x2)]) C dX10_inBarn_50 rfl rfl (by decide) rfl rfl ?_
        refine z_goto (tgt := 27) C dX10_inBarn_53 (by decide) ?_
        refine z_sub (lv' := [(0, .ref (E.2.2 0 0)), (2, .int x2), (3, .int (x3 - (x3 / 10))), (4, .int (x4 + 1))]) [2, 3, 1, 0] rfl ?_
        exact ih _ _ _ h
set_option maxHeartbeats 4000000 in
set_option maxRecDepth 100000 in
theorem sc_X10_inBarn (l : Launch) (E : zE) (σ : zMem) (i0 : Nat) (Q : Int32 → zMem → Prop) (hi0 : i0 < zcnt 4) (h : vc_X10_inBarn σ i0 Q) : zMi l yX10_inBarn cX10_inBarn 5 .int 2 44 E [.ref (E.2.2 0 0), .ref (E.2.2 4 i0)] σ Q := by
  refine zMi_of (by decide) (Nat.le_of_ble_eq_true rfl) ?_
  intro p e s m args below meth c C
  unfold vc_X10_inBarn at h
  have fin : zG p l e (zRm 2 44) s m args below meth c 5 E 0 0 (MQ below (va_Qi Q (zPost E) (zA E s.heap.size)) args s 0 0 (zA E s.heap.size)) σ 0 [(0, .ref (E.2.2 0 0)), (1, .ref (E.2.2 4 i0))] [] := by
    refine z_aload_n (pc' := 1) C dX10_inBarn_0 rfl 0 rfl rfl ?_
    refine z_aload_n (pc' := 2) C dX10_inBarn_1 rfl 1 rfl rfl ?_
    refine z_callVi (q := 0) (i := 0) (w9 := (RX10, TX10, 12)) (pc' := 5) (st := []) (As := [.ref (E.2.2 4 i0)]) C (sc_X10_dryDay l E σ i0 _ hi0 h) zwX10_207_X10_dryDay zvX10_207_X10_dryDay.1 zvX10_207_X10_dryDay.2 (zL_mem (by decide) zo0) rfl rfl ⟨(Nat.le_of_ble_eq_true rfl), (Nat.le_of_ble_eq_true rfl)⟩ ⟨Nat.zero_le _, Nat.zero_le _⟩ rfl rfl (Nat.le_of_ble_eq_true rfl) dX10_inBarn_2 rfl (fun r2 σ1 h => ?_)
    refine z_istore_n (pc' := 6) (lv' := [(2, .int r2), (0, .ref (E.2.2 0 0)), (1, .ref (E.2.2 4 i0))]) C dX10_inBarn_5 rfl (by decide) rfl rfl ?_
    refine z_iload_n (pc' := 7) C dX10_inBarn_6 rfl 0 rfl rfl ?_
    refine z_bipush (v := (-4)) (pc' := 9) C dX10_inBarn_7 (by decide) rfl ?_
    obtain ⟨ht, hf⟩ := h
    refine z_icmp_ne (tgt := 14) (pc' := 12) C dX10_inBarn_9 (by decide) rfl (fun c3 => ?_) (fun c3 => ?_)
    · have h := ht c3
      refine z_aload_n (pc' := 15) C dX10_inBarn_14 rfl 2 rfl rfl ?_
      refine z_callVi (q := 4) (i := i0) (w9 := (RX5, TX5, 6)) (pc' := 18) (st := []) (As := []) C (sc_X5_hay l E σ1 i0 _ hi0 h) zwX10_130_X5_hay zvX10_130_X5_hay.1 zvX10_130_X5_hay.2 (zL_mem (by decide) hi0) rfl rfl ⟨(Nat.le_of_ble_eq_true rfl), (Nat.le_of_ble_eq_true rfl)⟩ ⟨Nat.zero_le _, Nat.zero_le _⟩ rfl rfl (Nat.le_of_ble_eq_true rfl) dX10_inBarn_15 rfl (fun r5 σ4 h => ?_)
      refine z_istore_n (pc' := 19) (lv' := [(3, .int r5), (2, .int r2), (0, .ref (E.2.2 0 0)), (1, .ref (E.2.2 4 i0))]) C dX10_inBarn_18 rfl (by decide) rfl rfl ?_
      refine z_aload_n (pc' := 20) C dX10_inBarn_19 rfl 3 rfl rfl ?_
      refine zgX10_139 (pc' := 23) C hi0 dX10_inBarn_20 rfl ?_
      refine z_iconst (v := 1) (pc' := 24) C dX10_inBarn_23 (by decide) rfl ?_
      refine z_iadd (pc' := 25) C dX10_inBarn_24 rfl ?_
      refine z_istore (pc' := 27) (lv' := [(4, .int ((σ4 4 i0 5) + 1)), (3, .int r5), (2, .int r2), (0, .ref (E.2.2 0 0)), (1, .ref (E.2.2 4 i0))]) C dX10_inBarn_25 (by decide) rfl rfl ?_
      obtain ⟨n6, h⟩ := h
      refine z_sub (lv' := [(0, .ref (E.2.2 0 0)), (2, .int r2), (3, .int r5), (4, .int ((σ4 4 i0 5) + 1))]) [3, 2, 1, 0] rfl ?_
      exact sl_X10_inBarn_27 C r2 Q n6 _ _ _ h
    · have h := hf c3
      refine z_iconst (v := 0) (pc' := 13) C dX10_inBarn_12 (by decide) rfl ?_
      exact z_iret C dX10_inBarn_13 h
  exact fin
def vc_X10_barn (σ : zMem) (a0 : Int32) (Q : Int32 → zMem → Prop) : Prop := vc_X10_isPlot σ a0 (fun r2 σ1 => ((¬ r2 = 0) → vp_in a0 24 ∧ vc_X5_isCut σ1 a0.toNatClampNeg (fun r6 σ5 => ((¬ r6 = 0) → vp_in a0 24 ∧ vc_X10_inBarn σ5 a0.toNatClampNeg (fun r10 σ9 => Q r10 σ9)) ∧ ((r6 = 0) → Q ((-3)) σ5))) ∧ ((r2 = 0) → Q ((-1)) σ1))
set_option maxHeartbeats 4000000 in
set_option maxRecDepth 100000 in
theorem sc_X10_barn (l : Launch) (E : zE) (σ : zMem) (a0 : Int32) (Q : Int32 → zMem → Prop) (h : vc_X10_barn σ a0 Q) : zMi l yX10_barn cX10_barn 2 .int 3 68 E [.ref (E.2.2 0 0), .int a0] σ Q := by
  refine zMi_of (by decide) (Nat.le_of_ble_eq_true rfl) ?_
  intro p e s m args below meth c C
  unfold vc_X10_barn at h
  have fin : zG p l e (zRm 3 68) s m args below meth c 2 E 0 0 (MQ below (va_Qi Q (zPost E) (zA E s.heap.size)) args s 0 0 (zA E s.heap.size)) σ 0 [(0, .ref (E.2.2 0 0)), (1, .int a0)] [] := by
    refine z_iload_n (pc' := 1) C dX10_barn_0 rfl 1 rfl rfl ?_
    refine z_callSi (pc' := 4) (st := []) (As := [.int a0]) C (sc_X10_isPlot l E σ a0 _ h) zwX10_77_X10_isPlot ztX10_77_X10_isPlot ⟨(Nat.le_of_ble_eq_true rfl), (Nat.le_of_ble_eq_true rfl)⟩ ⟨Nat.zero_le _, Nat.zero_le _⟩ rfl rfl (Nat.le_of_ble_eq_true rfl) dX10_barn_1 rfl (fun r2 σ1 h => ?_)
    obtain ⟨ht, hf⟩ := h
    refine z_if_ne (tgt := 9) (pc' := 7) C dX10_barn_4 (by decide) rfl (fun c3 => ?_) (fun c3 => ?_)
    · have h := ht c3
      refine z_aload_n (pc' := 10) C dX10_barn_9 rfl 0 rfl rfl ?_
      refine zgX10_17 (pc' := 13) C zo0 dX10_barn_10 rfl ?_
      refine z_iload_n (pc' := 14) C dX10_barn_13 rfl 1 rfl rfl ?_
      obtain ⟨hv4, h⟩ := h
      refine z_aald (n := 24) (t0 := 4) (q2 := 4) (pc' := 15) C (zL_mem (by decide) zo3) (fun _ => rfl) rfl hv4 dX10_barn_14 rfl ?_
      refine z_callVi (q := 4) (i := a0.toNatClampNeg) (w9 := (RX5, TX5, 6)) (pc' := 18) (st := []) (As := []) C (sc_X5_isCut l E σ1 a0.toNatClampNeg _ (zin hv4) h) zwX10_204_X5_isCut zvX10_204_X5_isCut.1 zvX10_204_X5_isCut.2 (zL_mem (by decide) (zin hv4)) rfl rfl ⟨(Nat.le_of_ble_eq_true rfl), (Nat.le_of_ble_eq_true rfl)⟩ ⟨Nat.zero_le _, Nat.zero_le _⟩ rfl rfl (Nat.le_of_ble_eq_true rfl) dX10_barn_15 rfl (fun r6 σ5 h => ?_)
      obtain ⟨ht, hf⟩ := h
      refine z_if_ne (tgt := 24) (pc' := 21) C dX10_barn_18 (by decide) rfl (fun c7 => ?_) (fun c7 => ?_)
      · have h := ht c7
        refine z_aload_n (pc' := 25) C dX10_barn_24 rfl 0 rfl rfl ?_
        refine z_aload_n (pc' := 26) C dX10_barn_25 rfl 0 rfl rfl ?_
        refine zgX10_17 (pc' := 29) C zo0 dX10_barn_26 rfl ?_
        refine z_iload_n (pc' := 30) C dX10_barn_29 rfl 1 rfl rfl ?_
        obtain ⟨hv8, h⟩ := h
        refine z_aald (n := 24) (t0 := 4) (q2 := 4) (pc' := 31) C (zL_mem (by decide) zo3) (fun _ => rfl) rfl hv8 dX10_barn_30 rfl ?_
        refine z_callVi (q := 0) (i := 0) (w9 := (RX10, TX10, 12)) (pc' := 34) (st := []) (As := [.ref (E.2.2 4 a0.toNatClampNeg)]) C (sc_X10_inBarn l E σ5 a0.toNatClampNeg _ (zin hv8) h) zwX10_211_X10_inBarn zvX10_211_X10_inBarn.1 zvX10_211_X10_inBarn.2 (zL_mem (by decide) zo0) rfl rfl ⟨(Nat.le_of_ble_eq_true rfl), (Nat.le_of_ble_eq_true rfl)⟩ ⟨Nat.zero_le _, Nat.zero_le _⟩ rfl rfl (Nat.le_of_ble_eq_true rfl) dX10_barn_31 rfl (fun r10 σ9 h => ?_)
        exact z_iret C dX10_barn_34 h
      · have h := hf c7
        refine z_bipush (v := (-3)) (pc' := 23) C dX10_barn_21 (by decide) rfl ?_
        exact z_iret C dX10_barn_23 h
    · have h := hf c3
      refine z_iconst (v := (-1)) (pc' := 8) C dX10_barn_7 (by decide) rfl ?_
      exact z_iret C dX10_barn_8 h
  exact fin
