section ZHF
variable {p : Program} {l : Launch} {e : Env} {R : Room} {s : State} {m : MethodId} {args : Array Value} {below : List Frame} {meth : Method} {c : Code} {nL kc ks : Nat} {E : zE} {Q : State → Prop} {σ : zMem} {pc pc' : Nat} {lv lv' : List (Nat × Value)} {st : List Value} {cc : ByteArray} {rt : Option FieldType}
theorem z_callSUi {own : String} (C : zX p s m args meth c cc nL own rt E) {y : MethodName} {cc' : ByteArray} {nL' fr lo index N q i ci : Nat} {ty : FieldType} {As st0 : List Value} {Q9 : Int32 → zMem → Prop} {fs : List Value} {w9 : vw_C} (hM : zMi l y cc' nL' ty fr lo E (.ref (E.2.2 q i) :: As) σ Q9) (hw : GoodIn zTB (va_wsSU own index y (Cond.code y cc' nL' (some ty) :: zTB))) (hdd : y.name ≠ "<init>" ∧ (parseMethodDescriptor y.desc).map (fun d => d.parameters.length) = some N) (hc : (q, i) ∈ zL) (hct : zct E q i (σ q i) = .inr (ci, fs)) (hcl : vwCl[ci]? = some w9) (hR : fr + 1 ≤ R.frames ∧ 8 + (nL' + 11) + lo ≤ R.locals) (hkc : kc ≤ R.cells ∧ ks ≤ R.slots) (hN : As.length = N) (hst : st0 = As.reverse ++ .ref (E.2.2 q i) :: st) (hW : (st.map fun v => v.category).sum ≤ 8) (hd : decode cc pc = .ok (.invokespecial index, 3)) (hn : pc + 3 = pc') (k9 : ∀ (r : Int32) (u : zMem), Q9 r u → zG p l e R s m args below meth c nL E kc ks Q u pc' lv (.int r :: st)) : zG p l e R s m args below meth c nL E kc ks Q σ pc lv st0 := by
  intro ls H locs h1 h2 h3
  subst hn
  subst hst
  refine va_calli (va_runSU (C := w9.1) (cC := E.1.1 ci) (b := E.2.2 q i) (As := As) (rest := st) ((C.2.1.1 ci w9 hcl).2) C.1 (hM H.size) (va_cwSU N C.1.2.2.2.2 hw rfl rfl rfl hdd hR) (zPV C h2 hc hct hcl) rfl hN h1.1 rfl (lv_room hW) hd hkc) h3 (fun q _ h => zfree h3 q h) (zfree h3) (fun r u t H1 locs1 ht hvm hq hB hz hk1 hS => ?_)
  exact k9 r u hq ls H1 locs1 h1 (by rw [← ht]; exact hB.1) hS
end ZHF
def vc_X1_heft (σ : zMem) (i : Nat) (a0 : Int32) (Q : Int32 → zMem → Prop) : Prop := Q (10 + a0) σ
set_option maxHeartbeats 4000000 in
set_option maxRecDepth 100000 in
theorem sc_X1_heft (l : Launch) (E : zE) (σ : zMem) (i : Nat) (a0 : Int32) (Q : Int32 → zMem → Prop) (hi : i < zcnt 2) (h : vc_X1_heft σ i a0 Q) : zMi l yX1_heft cX1_heft 2 .int 0 0 E [.ref (E.2.2 2 i), .int a0] σ Q := by
  refine zMi_of (by decide) (Nat.le_of_ble_eq_true rfl) ?_
  intro p e s m args below meth c C
  unfold vc_X1_heft at h
  have fin : zG p l e (zRm 0 0) s m args below meth c 2 E 0 0 (MQ below (va_Qi Q (zPost E) (zA E s.heap.size)) args s 0 0 (zA E s.heap.size)) σ 0 [(0, .ref (E.2.2 2 i)), (1, .int a0)] [] := by
    refine z_bipush (v := 10) (pc' := 2) C dX1_heft_0 (by decide) rfl ?_
    refine z_iload_n (pc' := 3) C dX1_heft_2 rfl 1 rfl rfl ?_
    refine z_iadd (pc' := 4) C dX1_heft_3 rfl ?_
    exact z_iret C dX1_heft_4 h
  exact fin
theorem zgl1 : 1 < zcnt 2 := by decide
theorem zgl2 : 2 < zcnt 2 := by decide
theorem zgl3 : 3 < zcnt 2 := by decide
def zheft (g : Nat) (x : Int32) : Int32 := match g with
  | 0 => 10 + x
  | 1 => (10 + x) + 50
  | 2 => 2 * ((10 + x) + 25)
  | _ => (10 + x) + 100
theorem zsX9_9 : GoodIn zTB (va_wsSU RX9 9 yX1_heft (Cond.code yX1_heft cX1_heft 2 (some .int) :: zTB)) := goodIn_app (goodIn_of _ (by decide +kernel)) (zGood (zr32 _ (List.mem_of_getElem? (i := 3) rfl)))
theorem zsX2_9 : GoodIn zTB (va_wsSU RX2 9 yX9_heft (Cond.code yX9_heft cX9_heft 2 (some .int) :: zTB)) := goodIn_app (goodIn_of _ (by decide +kernel)) (zGood (zr32 _ (List.mem_of_getElem? (i := 14) rfl)))
theorem zsX3_9 : GoodIn zTB (va_wsSU RX3 9 yX1_heft (Cond.code yX1_heft cX1_heft 2 (some .int) :: zTB)) := goodIn_app (goodIn_of _ (by decide +kernel)) (zGood (zr32 _ (List.mem_of_getElem? (i := 3) rfl)))
theorem zwX9_13_X9_chance : zWs RX9 13 yX9_chance cX9_chance 1 (some .int) 0 := ⟨(zr11 _ (List.mem_of_getElem? (i := 18) rfl)), (zr32 _ (List.mem_of_getElem? (i := 21) rfl)), (zr2 _ (List.mem_of_getElem? (i := 16) rfl)), by decide +kernel⟩
theorem zvX9_13_X9_chance : Cond.instanceMethod yX9_chance ∈ zTB ∧ Cond.selects RX9 yX9_chance yX9_chance ∈ zTB := ⟨(zr11 _ (List.mem_of_getElem? (i := 17) rfl)), (zr32 _ (List.mem_of_getElem? (i := 22) rfl))⟩
theorem zqX9_13_X2 : GoodIn zTB (va_wsO RX9 13 RX2 "CandleMeadow$Wet" ⟨"CandleMeadow$Wet", "chance", "()I"⟩ yX2_chance (Cond.code yX2_chance cX2_chance 1 (some .int) :: zTB)) := goodIn_app (goodIn_of _ (by decide +kernel)) (zGood (zr11 _ (List.mem_of_getElem? (i := 12) rfl)))
set_option maxHeartbeats 4000000 in
set_option maxRecDepth 100000 in
theorem sc_X9_heft_1 (l : Launch) (E : zE) (σ : zMem) (a0 : Int32) (Q : Int32 → zMem → Prop) (h : Q (10 + a0 + 50) σ) : zMi l yX9_heft cX9_heft 2 .int 1 21 E [.ref (E.2.2 2 1), .int a0] σ Q := by
  refine zMi_of (by decide) (Nat.le_of_ble_eq_true rfl) ?_
  intro p e s m args below meth c C
  have fin : zG p l e (zRm 1 21) s m args below meth c 2 E 0 0 (MQ below (va_Qi Q (zPost E) (zA E s.heap.size)) args s 0 0 (zA E s.heap.size)) σ 0 [(0, .ref (E.2.2 2 1)), (1, .int a0)] [] := by
    refine z_aload_n (pc' := 1) C dX9_heft_0 rfl 0 rfl rfl ?_
    refine z_iload_n (pc' := 2) C dX9_heft_1 rfl 1 rfl rfl ?_
    refine z_callSUi (N := 1) (q := 2) (i := 1) (w9 := (RX9, TX9, 0)) (pc' := 5) (st := []) (As := [.int a0]) C (sc_X1_heft l E σ 1 a0 (fun r u => r = 10 + a0 ∧ u = σ) zgl1 ⟨rfl, rfl⟩) zsX9_9 (by decide +kernel) (zL_mem (by decide) zgl1) rfl rfl ⟨(Nat.le_of_ble_eq_true rfl), (Nat.le_of_ble_eq_true rfl)⟩ ⟨Nat.zero_le _, Nat.zero_le _⟩ rfl rfl (Nat.le_of_ble_eq_true rfl) dX9_heft_2 rfl (fun r1 σ1 h1 => ?_)
    obtain ⟨e1, e2⟩ := h1
    subst e1
    subst e2
    refine z_aload_n (pc' := 6) C dX9_heft_5 rfl 0 rfl rfl ?_
    refine z_callVi (q := 2) (i := 1) (w9 := (RX9, TX9, 0)) (pc' := 9) (st := [.int (10 + a0)]) (As := []) C (sc_X9_chance l E σ1 1 (fun r u => r = 50 ∧ u = σ1) zgl1 ⟨rfl, rfl⟩) zwX9_13_X9_chance zvX9_13_X9_chance.1 zvX9_13_X9_chance.2 (zL_mem (by decide) zgl1) rfl rfl ⟨(Nat.le_of_ble_eq_true rfl), (Nat.le_of_ble_eq_true rfl)⟩ ⟨Nat.zero_le _, Nat.zero_le _⟩ rfl rfl (Nat.le_of_ble_eq_true rfl) dX9_heft_6 rfl (fun r2 σ2 h2 => ?_)
    obtain ⟨e3, e4⟩ := h2
    subst e3
    subst e4
    refine z_iadd (pc' := 10) C dX9_heft_9 rfl ?_
    exact z_iret C dX9_heft_10 h
  exact fin
set_option maxHeartbeats 4000000 in
set_option maxRecDepth 100000 in
theorem sc_X9_heft_2 (l : Launch) (E : zE) (σ : zMem) (a0 : Int32) (Q : Int32 → zMem → Prop) (h : Q (10 + a0 + 25) σ) : zMi l yX9_heft cX9_heft 2 .int 1 21 E [.ref (E.2.2 2 2), .int a0] σ Q := by
  refine zMi_of (by decide) (Nat.le_of_ble_eq_true rfl) ?_
  intro p e s m args below meth c C
  have fin : zG p l e (zRm 1 21) s m args below meth c 2 E 0 0 (MQ below (va_Qi Q (zPost E) (zA E s.heap.size)) args s 0 0 (zA E s.heap.size)) σ 0 [(0, .ref (E.2.2 2 2)), (1, .int a0)] [] := by
    refine z_aload_n (pc' := 1) C dX9_heft_0 rfl 0 rfl rfl ?_
    refine z_iload_n (pc' := 2) C dX9_heft_1 rfl 1 rfl rfl ?_
    refine z_callSUi (N := 1) (q := 2) (i := 2) (w9 := (RX2, TX2, 0)) (pc' := 5) (st := []) (As := [.int a0]) C (sc_X1_heft l E σ 2 a0 (fun r u => r = 10 + a0 ∧ u = σ) zgl2 ⟨rfl, rfl⟩) zsX9_9 (by decide +kernel) (zL_mem (by decide) zgl2) rfl rfl ⟨(Nat.le_of_ble_eq_true rfl), (Nat.le_of_ble_eq_true rfl)⟩ ⟨Nat.zero_le _, Nat.zero_le _⟩ rfl rfl (Nat.le_of_ble_eq_true rfl) dX9_heft_2 rfl (fun r1 σ1 h1 => ?_)
    obtain ⟨e1, e2⟩ := h1
    subst e1
    subst e2
    refine z_aload_n (pc' := 6) C dX9_heft_5 rfl 0 rfl rfl ?_
    refine z_callUi (x := ⟨"CandleMeadow$Wet", "chance", "()I"⟩) (owner := "CandleMeadow$Wet") (q := 2) (i := 2) (w9 := (RX2, TX2, 0)) (pc' := 9) (st := [.int (10 + a0)]) (As := []) C (sc_X2_chance l E σ1 2 (fun r u => r = 25 ∧ u = σ1) zgl2 ⟨rfl, rfl⟩) zqX9_13_X2 (zr11 _ (List.mem_of_getElem? (i := 18) rfl)) (by decide +kernel) (zL_mem (by decide) zgl2) rfl rfl ⟨(Nat.le_of_ble_eq_true rfl), (Nat.le_of_ble_eq_true rfl)⟩ ⟨Nat.zero_le _, Nat.zero_le _⟩ rfl rfl (Nat.le_of_ble_eq_true rfl) dX9_heft_6 rfl (fun r2 σ2 h2 => ?_)
    obtain ⟨e3, e4⟩ := h2
    subst e3
    subst e4
    refine z_iadd (pc' := 10) C dX9_heft_9 rfl ?_
    exact z_iret C dX9_heft_10 h
  exact fin
set_option maxHeartbeats 4000000 in
set_option maxRecDepth 100000 in
theorem sc_X2_heft (l : Launch) (E : zE) (σ : zMem) (a0 : Int32) (Q : Int32 → zMem → Prop) (h : Q (2 * (10 + a0 + 25)) σ) : zMi l yX2_heft cX2_heft 2 .int 2 42 E [.ref (E.2.2 2 2), .int a0] σ Q := by
  refine zMi_of (by decide) (Nat.le_of_ble_eq_true rfl) ?_
  intro p e s m args below meth c C
  have fin : zG p l e (zRm 2 42) s m args below meth c 2 E 0 0 (MQ below (va_Qi Q (zPost E) (zA E s.heap.size)) args s 0 0 (zA E s.heap.size)) σ 0 [(0, .ref (E.2.2 2 2)), (1, .int a0)] [] := by
    refine z_iconst (v := 2) (pc' := 1) C dX2_heft_0 (by decide) rfl ?_
    refine z_aload_n (pc' := 2) C dX2_heft_1 rfl 0 rfl rfl ?_
    refine z_iload_n (pc' := 3) C dX2_heft_2 rfl 1 rfl rfl ?_
    refine z_callSUi (N := 1) (q := 2) (i := 2) (w9 := (RX2, TX2, 0)) (pc' := 6) (st := [.int 2]) (As := [.int a0]) C (sc_X9_heft_2 l E σ a0 (fun r u => r = 10 + a0 + 25 ∧ u = σ) ⟨rfl, rfl⟩) zsX2_9 (by decide +kernel) (zL_mem (by decide) zgl2) rfl rfl ⟨(Nat.le_of_ble_eq_true rfl), (Nat.le_of_ble_eq_true rfl)⟩ ⟨Nat.zero_le _, Nat.zero_le _⟩ rfl rfl (Nat.le_of_ble_eq_true rfl) dX2_heft_3 rfl (fun r1 σ1 h1 => ?_)
    obtain ⟨e1, e2⟩ := h1
    subst e1
    subst e2
    refine z_imul (pc' := 7) C dX2_heft_6 rfl ?_
    exact z_iret C dX2_heft_7 h
  exact fin
set_option maxHeartbeats 4000000 in
set_option maxRecDepth 100000 in
theorem sc_X3_heft (l : Launch) (E : zE) (σ : zMem) (a0 : Int32) (Q : Int32 → zMem → Prop) (h : Q (10 + a0 + 100) σ) : zMi l yX3_heft cX3_heft 2 .int 1 21 E [.ref (E.2.2 2 3), .int a0] σ Q := by
  refine zMi_of (by decide) (Nat.le_of_ble_eq_true rfl) ?_
  intro p e s m args below meth c C
  have fin : zG p l e (zRm 1 21) s m args below meth c 2 E 0 0 (MQ below (va_Qi Q (zPost E) (zA E s.heap.size)) args s 0 0 (zA E s.heap.size)) σ 0 [(0, .ref (E.2.2 2 3)), (1, .int a0)] [] := by
    refine z_aload_n (pc' := 1) C dX3_heft_0 rfl 0 rfl rfl ?_
    refine z_iload_n (pc' := 2) C dX3_heft_1 rfl 1 rfl rfl ?_
    refine z_callSUi (N := 1) (q := 2) (i := 3) (w9 := (RX3, TX3, 0)) (pc' := 5) (st := []) (As := [.int a0]) C (sc_X1_heft l E σ 3 a0 (fun r u => r = 10 + a0 ∧ u = σ) zgl3 ⟨rfl, rfl⟩) zsX3_9 (by decide +kernel) (zL_mem (by decide) zgl3) rfl rfl ⟨(Nat.le_of_ble_eq_true rfl), (Nat.le_of_ble_eq_true rfl)⟩ ⟨Nat.zero_le _, Nat.zero_le _⟩ rfl rfl (Nat.le_of_ble_eq_true rfl) dX3_heft_2 rfl (fun r1 σ1 h1 => ?_)
    obtain ⟨e1, e2⟩ := h1
    subst e1
    subst e2
    refine z_bipush (v := 100) (pc' := 7) C dX3_heft_5 (by decide) rfl ?_
    refine z_iadd (pc' := 8) C dX3_heft_7 rfl ?_
    exact z_iret C dX3_heft_8 h
  exact fin
section ZHG
variable {p : Program} {l : Launch} {e : Env} {R : Room} {s : State} {m : MethodId} {args : Array Value} {below : List Frame} {meth : Method} {c : Code} {nL kc ks : Nat} {E : zE} {Q : State → Prop} {σ : zMem} {pc pc' : Nat} {lv lv' : List (Nat × Value)} {st : List Value} {cc : ByteArray} {rt : Option FieldType}
theorem zwX10_298_X1_heft : zWs RX10 298 yX1_heft cX1_heft 2 (some .int) 1 := ⟨(zr32 _ (List.mem_of_getElem? (i := 3) rfl)), (zr32 _ (List.mem_of_getElem? (i := 0) rfl)), (zr2 _ (List.mem_of_getElem? (i := 13) rfl)), by decide +kernel⟩
theorem zvX10_298_X1_heft : Cond.instanceMethod yX1_heft ∈ zTB ∧ Cond.selects RX1 yX1_heft yX1_heft ∈ zTB := ⟨(zr32 _ (List.mem_of_getElem? (i := 1) rfl)), (zr32 _ (List.mem_of_getElem? (i := 2) rfl))⟩
theorem zqX10_298_X9 : GoodIn zTB (va_wsO RX10 298 RX9 "CandleMeadow$Dry" ⟨"CandleMeadow$Dry", "heft", "(I)I"⟩ yX9_heft (Cond.code yX9_heft cX9_heft 2 (some .int) :: zTB)) := goodIn_app (goodIn_of _ (by decide +kernel)) (zGood (zr32 _ (List.mem_of_getElem? (i := 14) rfl)))
theorem zqX10_298_X2 : GoodIn zTB (va_wsO RX10 298 RX2 "CandleMeadow$Dry" ⟨"CandleMeadow$Dry", "heft", "(I)I"⟩ yX2_heft (Cond.code yX2_heft cX2_heft 2 (some .int) :: zTB)) := goodIn_app (goodIn_of _ (by decide +kernel)) (zGood (zr32 _ (List.mem_of_getElem? (i := 9) rfl)))
theorem zqX10_298_X3 : GoodIn zTB (va_wsO RX10 298 RX3 "CandleMeadow$Dry" ⟨"CandleMeadow$Dry", "heft", "(I)I"⟩ yX3_heft (Cond.code yX3_heft cX3_heft 2 (some .int) :: zTB)) := goodIn_app (goodIn_of _ (by decide +kernel)) (zGood (zr33 _ (List.mem_of_getElem? (i := 1) rfl)))
set_option maxHeartbeats 4000000 in
theorem zdX10_298 (C : zX p s m args meth c cc nL RX10 rt E) {g : Nat} {x : Int32} (hg : g < zcnt 2) (hf : 3 ≤ R.frames) (hlo : 80 ≤ R.locals) (hkc : kc ≤ R.cells) (hks : ks ≤ R.slots) (hW : (st.map fun v => v.category).sum ≤ 8) (hd : decode cc pc = .ok (.invokevirtual 298, 3)) (hn : pc + 3 = pc') (k9 : zG p l e R s m args below meth c nL E kc ks Q σ pc' lv (.int (zheft g x) :: st)) : zG p l e R s m args below meth c nL E kc ks Q σ pc lv (.int x :: .ref (E.2.2 2 g) :: st) := by
  have hm := zL_mem (q := 2) (by decide) hg
  rcases (show g = 0 ∨ g = 1 ∨ g = 2 ∨ g = 3 by have e9 : zcnt 2 = 4 := rfl; omega) with rfl | rfl | rfl | rfl
  · exact z_callVi (q := 2) (i := 0) (w9 := (RX1, TX1, 0)) (As := [.int x]) C (sc_X1_heft l E σ 0 x (fun r u => r = 10 + x ∧ u = σ) hg ⟨rfl, rfl⟩) zwX10_298_X1_heft zvX10_298_X1_heft.1 zvX10_298_X1_heft.2 hm rfl rfl ⟨by omega, by omega⟩ ⟨hkc, hks⟩ rfl rfl hW hd hn (fun r u h => by obtain ⟨e1, e2⟩ := h; subst e1; subst e2; exact k9)
  · exact z_callUi (N := 1) (x := ⟨"CandleMeadow$Dry", "heft", "(I)I"⟩) (owner := "CandleMeadow$Dry") (q := 2) (i := 1) (w9 := (RX9, TX9, 0)) (As := [.int x]) C (sc_X9_heft_1 l E σ x (fun r u => r = 10 + x + 50 ∧ u = σ) ⟨rfl, rfl⟩) zqX10_298_X9 (zr32 _ (List.mem_of_getElem? (i := 3) rfl)) (by decide +kernel) hm rfl rfl ⟨by omega, by omega⟩ ⟨hkc, hks⟩ rfl rfl hW hd hn (fun r u h => by obtain ⟨e1, e2⟩ := h; subst e1; subst e2; exact k9)
  · exact z_callUi (N := 1) (x := ⟨"CandleMeadow$Dry", "heft", "(I)I"⟩) (owner := "CandleMeadow$Dry") (q := 2) (i := 2) (w9 := (RX2, TX2, 0)) (As := [.int x]) C (sc_X2_heft l E σ x (fun r u => r = 2 * (10 + x + 25) ∧ u = σ) ⟨rfl, rfl⟩) zqX10_298_X2 (zr32 _ (List.mem_of_getElem? (i := 3) rfl)) (by decide +kernel) hm rfl rfl ⟨by omega, by omega⟩ ⟨hkc, hks⟩ rfl rfl hW hd hn (fun r u h => by obtain ⟨e1, e2⟩ := h; subst e1; subst e2; exact k9)
  · exact z_callUi (N := 1) (x := ⟨"CandleMeadow$Dry", "heft", "(I)I"⟩) (owner := "CandleMeadow$Dry") (q := 2) (i := 3) (w9 := (RX3, TX3, 0)) (As := [.int x]) C (sc_X3_heft l E σ x (fun r u => r = 10 + x + 100 ∧ u = σ) ⟨rfl, rfl⟩) zqX10_298_X3 (zr32 _ (List.mem_of_getElem? (i := 3) rfl)) (by decide +kernel) hm rfl rfl ⟨by omega, by omega⟩ ⟨hkc, hks⟩ rfl rfl hW hd hn (fun r u h => by obtain ⟨e1, e2⟩ := h; subst e1; subst e2; exact k9)
end ZHG
section ZCP
variable {p : Program} {l : Launch} {e : Env} {R : Room} {s : State} {m : MethodId} {args : Array Value} {below : List Frame} {meth : Method} {c : Code} {nL kc ks : Nat} {E : zE} {Q : State → Prop} {σ : zMem} {pc pc' : Nat} {lv lv' : List (Nat × Value)} {st : List Value} {cc : ByteArray} {rt : Option FieldType}
def zcp (σ : zMem) (q i q2 i2 a b n : Nat) : zMem := fun q' i' j' => if q' = q2 ∧ i' = i2 then va_cpy (σ q i) (σ q2 i2) a b n j' else σ q' i' j'
theorem z_icopy (C : zX p s m args meth c cc nL RX10 rt E) {q i q2 i2 : Nat} {x y z : Int32} (hc : (q, i) ∈ zL) (hct : ∀ r, zct E q i r = .inl (E.2.1 0, 60, .inl r)) (hc2 : (q2, i2) ∈ zL) (hct2 : ∀ r, zct E q2 i2 r = .inl (E.2.1 0, 60, .inl r)) (h4 : ¬ x < 0) (h5 : ¬ y < 0) (h6 : ¬ z < 0) (h7 : x.toNatClampNeg + z.toNatClampNeg ≤ 60) (h8 : y.toNatClampNeg + z.toNatClampNeg ≤ 60) (hf : 1 ≤ R.frames) (hlo : (st.map fun v => v.category).sum + (nativeFrameWords "java/lang/System" "arraycopy" 5 + 11) ≤ R.locals) (hd : decode cc pc = .ok (.invokestatic 287, 3)) (hn : pc + 3 = pc') (k9 : zG p l e R s m args below meth c nL E kc ks Q (zcp σ q i q2 i2 x.toNatClampNeg y.toNatClampNeg z.toNatClampNeg) pc' lv st) : zG p l e R s m args below meth c nL E kc ks Q σ pc lv (.int z :: .int y :: .ref (E.2.2 q2 i2) :: .int x :: .ref (E.2.2 q i) :: st) := by
  intro ls H locs h1 h2 h3
  subst hn
  obtain ⟨k, -, hk⟩ := zws_get E σ hc
  rw [hct] at hk
  obtain ⟨k2, hk20, hk2⟩ := zws_get E σ hc2
  rw [hct2] at hk2
  refine va_copyi (ty := .int) C.1.1 C.1.2.1 (C.1.2.2.1.trans h1.1.symm) C.1.2.2.2.1 (C.1.2.2.2.2 _ (zr31 _ (List.mem_of_getElem? (i := 4) rfl))) (C.1.2.2.2.2 _ (zr31 _ (List.mem_of_getElem? (i := 5) rfl))) (C.1.2.2.2.2 _ (zr31 _ (List.mem_of_getElem? (i := 6) rfl))) (C.1.2.2.2.2 _ (zr31 _ (List.mem_of_getElem? (i := 7) rfl))) C.2.1 h2 (zD C.2.2.1 σ _) h3 k k2 0 0 hk hk2 rfl rfl rfl h4 h5 h6 h7 h8 (fun _ _ => rfl) hf hlo hd (fun H1 locs1 hP hD hS => ?_)
  refine k9 ls H1 locs1 h1 ?_ hS
  have e0 : zcp σ q i q2 i2 x.toNatClampNeg y.toNatClampNeg z.toNatClampNeg q2 i2 = va_cpy (σ q i) (σ q2 i2) x.toNatClampNeg y.toNatClampNeg z.toNatClampNeg := by
    funext j
    simp [zcp]
  have e1 := zws_set E σ (zcp σ q i q2 i2 x.toNatClampNeg y.toNatClampNeg z.toNatClampNeg) hk20 (fun a b h => by funext j; simp only [zcp]; rw [if_neg h])
  rw [e0, hct2] at e1
  show va_P E.1 vwCl (zws E (zcp σ q i q2 i2 x.toNatClampNeg y.toNatClampNeg z.toNatClampNeg)) H1
  rw [← e1]
  exact hP

theorem z_bcopy (C : zX p s m args meth c cc nL RX10 rt E) {q i q2 i2 : Nat} {x y z : Int32} (hc : (q, i) ∈ zL) (hct : ∀ r, zct E q i r = .inl (E.2.1 2, 60, .inl r)) (hc2 : (q2, i2) ∈ zL) (hct2 : ∀ r, zct E q2 i2 r = .inl (E.2.1 2, 60, .inl r)) (h4 : ¬ x < 0) (h5 : ¬ y < 0) (h6 : ¬ z < 0) (h7 : x.toNatClampNeg + z.toNatClampNeg ≤ 60) (h8 : y.toNatClampNeg + z.toNatClampNeg ≤ 60) (hfit : ∀ j, j < z.toNatClampNeg → fits .byte (.int (σ q i (x.toNatClampNeg + j))) = true) (hf : 1 ≤ R.frames) (hlo : (st.map fun v => v.category).sum + (nativeFrameWords "java/lang/System" "arraycopy" 5 + 11) ≤ R.locals) (hd : decode cc pc = .ok (.invokestatic 287, 3)) (hn : pc + 3 = pc') (k9 : zG p l e R s m args below meth c nL E kc ks Q (zcp σ q i q2 i2 x.toNatClampNeg y.toNatClampNeg z.toNatClampNeg) pc' lv st) : zG p l e R s m args below meth c nL E kc ks Q σ pc lv (.int z :: .int y :: .ref (E.2.2 q2 i2) :: .int x :: .ref (E.2.2 q i) :: st) := by
  intro ls H locs h1 h2 h3
  subst hn
  obtain ⟨k, -, hk⟩ := zws_get E σ hc
  rw [hct] at hk
  obtain ⟨k2, hk20, hk2⟩ := zws_get E σ hc2
  rw [hct2] at hk2
  refine va_copyi (ty := .byte) C.1.1 C.1.2.1 (C.1.2.2.1.trans h1.1.symm) C.1.2.2.2.1 (C.1.2.2.2.2 _ (zr31 _ (List.mem_of_getElem? (i := 4) rfl))) (C.1.2.2.2.2 _ (zr31 _ (List.mem_of_getElem? (i := 5) rfl))) (C.1.2.2.2.2 _ (zr31 _ (List.mem_of_getElem? (i := 6) rfl))) (C.1.2.2.2.2 _ (zr31 _ (List.mem_of_getElem? (i := 7) rfl))) C.2.1 h2 (zD C.2.2.1 σ _) h3 k k2 2 2 hk hk2 rfl rfl rfl h4 h5 h6 h7 h8 hfit hf hlo hd (fun H1 locs1 hP hD hS => ?_)
  refine k9 ls H1 locs1 h1 ?_ hS
  have e0 : zcp σ q i q2 i2 x.toNatClampNeg y.toNatClampNeg z.toNatClampNeg q2 i2 = va_cpy (σ q i) (σ q2 i2) x.toNatClampNeg y.toNatClampNeg z.toNatClampNeg := by
    funext j
    simp [zcp]
  have e1 := zws_set E σ (zcp σ q i q2 i2 x.toNatClampNeg y.toNatClampNeg z.toNatClampNeg) hk20 (fun a b h => by funext j; simp only [zcp]; rw [if_neg h])
  rw [e0, hct2] at e1
  show va_P E.1 vwCl (zws E (zcp σ q i q2 i2 x.toNatClampNeg y.toNatClampNeg z.toNatClampNeg)) H1
  rw [← e1]
  exact hP
end ZCP
