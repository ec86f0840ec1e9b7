section ZDS
variable {p : Program} {l : Launch} {e : Env} {R : Room} {s : State} {m : MethodId} {args : Array Value} {below : List Frame} {meth : Method} {c : Code} {nL kc ks : Nat} {E : zE} {Q : State → Prop} {σ : zMem} {pc pc' : Nat} {lv lv' : List (Nat × Value)} {st : List Value} {cc : ByteArray} {rt : Option FieldType}
theorem z_callUi {own : String} (C : zX p s m args meth c cc nL own rt E) {x y : MethodName} {cc' b0 : ByteArray} {nL' m0 fr lo index N q i ci : Nat} {r0 : Option FieldType} {ty : FieldType} {As st0 : List Value} {Q9 : Int32 → zMem → Prop} {fs : List Value} {w9 : vw_C} {owner : String} (hM : zMi l y cc' nL' ty fr lo E (.ref (E.2.2 q i) :: As) σ Q9) (hw : GoodIn zTB (va_wsO own index w9.1 owner x y (Cond.code y cc' nL' (some ty) :: zTB))) (h0 : Cond.code ⟨owner, x.name, x.desc⟩ b0 m0 r0 ∈ zTB) (hdd : owner ≠ "java/lang/invoke/MethodHandle" ∧ owner ≠ "java/lang/invoke/VarHandle" ∧ (parseMethodDescriptor x.desc).map (fun d => d.parameters.length) = some N) (hc : (q, i) ∈ zL) (hct : zct E q i (σ q i) = .inr (ci, fs)) (hcl : vwCl[ci]? = some w9) (hR : fr + 1 ≤ R.frames ∧ 8 + (nL' + 11) + lo ≤ R.locals) (hkc : kc ≤ R.cells ∧ ks ≤ R.slots) (hN : As.length = N) (hst : st0 = As.reverse ++ .ref (E.2.2 q i) :: st) (hW : (st.map fun v => v.category).sum ≤ 8) (hd : decode cc pc = .ok (.invokevirtual index, 3)) (hn : pc + 3 = pc') (k9 : ∀ (r : Int32) (u : zMem), Q9 r u → zG p l e R s m args below meth c nL E kc ks Q u pc' lv (.int r :: st)) : zG p l e R s m args below meth c nL E kc ks Q σ pc lv st0 := by
  intro ls H locs h1 h2 h3
  subst hn
  subst hst
  refine va_calli (va_runU (C := w9.1) (b := E.2.2 q i) (As := As) (rest := st) C.1 (hM H.size) (va_cwO N C.1.2.2.2.2 hw rfl rfl rfl h0 hdd hR) (zPV C h2 hc hct hcl) rfl hN h1.1 rfl (lv_room hW) hd hkc) h3 (fun q _ h => zfree h3 q h) (zfree h3) (fun r u t H1 locs1 ht hvm hq hB hz hk1 hS => ?_)
  exact k9 r u hq ls H1 locs1 h1 (by rw [← ht]; exact hB.1) hS
def zchance (g : Nat) : Int32 := match g with
  | 0 => 80
  | 1 => 50
  | 2 => 25
  | _ => 95
def vc_X1_chance (σ : zMem) (i : Nat) (Q : Int32 → zMem → Prop) : Prop := Q 80 σ
set_option maxHeartbeats 4000000 in
set_option maxRecDepth 100000 in
theorem sc_X1_chance (l : Launch) (E : zE) (σ : zMem) (i : Nat) (Q : Int32 → zMem → Prop) (hi : i < zcnt 2) (h : vc_X1_chance σ i Q) : zMi l yX1_chance cX1_chance 1 .int 0 0 E [.ref (E.2.2 2 i)] σ Q := by
  refine zMi_of (by decide) (Nat.le_of_ble_eq_true rfl) ?_
  intro p e s m args below meth c C
  unfold vc_X1_chance at h
  have fin : zG p l e (zRm 0 0) s m args below meth c 1 E 0 0 (MQ below (va_Qi Q (zPost E) (zA E s.heap.size)) args s 0 0 (zA E s.heap.size)) σ 0 [(0, .ref (E.2.2 2 i))] [] := by
    refine z_bipush (v := 80) (pc' := 2) C dX1_chance_0 (by decide) rfl ?_
    exact z_iret C dX1_chance_2 h
  exact fin
def vc_X9_chance (σ : zMem) (i : Nat) (Q : Int32 → zMem → Prop) : Prop := Q 50 σ
set_option maxHeartbeats 4000000 in
set_option maxRecDepth 100000 in
theorem sc_X9_chance (l : Launch) (E : zE) (σ : zMem) (i : Nat) (Q : Int32 → zMem → Prop) (hi : i < zcnt 2) (h : vc_X9_chance σ i Q) : zMi l yX9_chance cX9_chance 1 .int 0 0 E [.ref (E.2.2 2 i)] σ Q := by
  refine zMi_of (by decide) (Nat.le_of_ble_eq_true rfl) ?_
  intro p e s m args below meth c C
  unfold vc_X9_chance at h
  have fin : zG p l e (zRm 0 0) s m args below meth c 1 E 0 0 (MQ below (va_Qi Q (zPost E) (zA E s.heap.size)) args s 0 0 (zA E s.heap.size)) σ 0 [(0, .ref (E.2.2 2 i))] [] := by
    refine z_bipush (v := 50) (pc' := 2) C dX9_chance_0 (by decide) rfl ?_
    exact z_iret C dX9_chance_2 h
  exact fin
def vc_X2_chance (σ : zMem) (i : Nat) (Q : Int32 → zMem → Prop) : Prop := Q 25 σ
set_option maxHeartbeats 4000000 in
set_option maxRecDepth 100000 in
theorem sc_X2_chance (l : Launch) (E : zE) (σ : zMem) (i : Nat) (Q : Int32 → zMem → Prop) (hi : i < zcnt 2) (h : vc_X2_chance σ i Q) : zMi l yX2_chance cX2_chance 1 .int 0 0 E [.ref (E.2.2 2 i)] σ Q := by
  refine zMi_of (by decide) (Nat.le_of_ble_eq_true rfl) ?_
  intro p e s m args below meth c C
  unfold vc_X2_chance at h
  have fin : zG p l e (zRm 0 0) s m args below meth c 1 E 0 0 (MQ below (va_Qi Q (zPost E) (zA E s.heap.size)) args s 0 0 (zA E s.heap.size)) σ 0 [(0, .ref (E.2.2 2 i))] [] := by
    refine z_bipush (v := 25) (pc' := 2) C dX2_chance_0 (by decide) rfl ?_
    exact z_iret C dX2_chance_2 h
  exact fin
def vc_X3_chance (σ : zMem) (i : Nat) (Q : Int32 → zMem → Prop) : Prop := Q 95 σ
set_option maxHeartbeats 4000000 in
set_option maxRecDepth 100000 in
theorem sc_X3_chance (l : Launch) (E : zE) (σ : zMem) (i : Nat) (Q : Int32 → zMem → Prop) (hi : i < zcnt 2) (h : vc_X3_chance σ i Q) : zMi l yX3_chance cX3_chance 1 .int 0 0 E [.ref (E.2.2 2 i)] σ Q := by
  refine zMi_of (by decide) (Nat.le_of_ble_eq_true rfl) ?_
  intro p e s m args below meth c C
  unfold vc_X3_chance at h
  have fin : zG p l e (zRm 0 0) s m args below meth c 1 E 0 0 (MQ below (va_Qi Q (zPost E) (zA E s.heap.size)) args s 0 0 (zA E s.heap.size)) σ 0 [(0, .ref (E.2.2 2 i))] [] := by
    refine z_bipush (v := 95) (pc' := 2) C dX3_chance_0 (by decide) rfl ?_
    exact z_iret C dX3_chance_2 h
  exact fin
theorem zqX10_126_X9 : GoodIn zTB (va_wsO RX10 126 RX9 "CandleMeadow$Dry" ⟨"CandleMeadow$Dry", "chance", "()I"⟩ yX9_chance (Cond.code yX9_chance cX9_chance 1 (some .int) :: zTB)) := goodIn_app (goodIn_of _ (by decide +kernel)) (zGood (zr11 _ (List.mem_of_getElem? (i := 18) rfl)))
theorem zqX10_126_X2 : GoodIn zTB (va_wsO RX10 126 RX2 "CandleMeadow$Dry" ⟨"CandleMeadow$Dry", "chance", "()I"⟩ yX2_chance (Cond.code yX2_chance cX2_chance 1 (some .int) :: zTB)) := goodIn_app (goodIn_of _ (by decide +kernel)) (zGood (zr11 _ (List.mem_of_getElem? (i := 12) rfl)))
theorem zqX10_126_X3 : GoodIn zTB (va_wsO RX10 126 RX3 "CandleMeadow$Dry" ⟨"CandleMeadow$Dry", "chance", "()I"⟩ yX3_chance (Cond.code yX3_chance cX3_chance 1 (some .int) :: zTB)) := goodIn_app (goodIn_of _ (by decide +kernel)) (zGood (zr11 _ (List.mem_of_getElem? (i := 15) rfl)))
theorem zwX10_126_X1_chance : zWs RX10 126 yX1_chance cX1_chance 1 (some .int) 0 := ⟨(zr11 _ (List.mem_of_getElem? (i := 6) rfl)), (zr11 _ (List.mem_of_getElem? (i := 3) rfl)), (zr2 _ (List.mem_of_getElem? (i := 13) rfl)), by decide +kernel⟩
theorem zvX10_126_X1_chance : Cond.instanceMethod yX1_chance ∈ zTB ∧ Cond.selects RX1 yX1_chance yX1_chance ∈ zTB := ⟨(zr11 _ (List.mem_of_getElem? (i := 4) rfl)), (zr11 _ (List.mem_of_getElem? (i := 5) rfl))⟩
set_option maxHeartbeats 4000000 in
theorem zdX10_126 (C : zX p s m args meth c cc nL RX10 rt E) {g : Nat} (hg : g < zcnt 2) (hf : 1 ≤ R.frames) (hlo : 20 ≤ R.locals) (hkc : kc ≤ R.cells) (hks : ks ≤ R.slots) (hW : (st.map fun v => v.category).sum ≤ 8) (hd : decode cc pc = .ok (.invokevirtual 126, 3)) (hn : pc + 3 = pc') (k9 : zG p l e R s m args below meth c nL E kc ks Q σ pc' lv (.int (zchance g) :: st)) : zG p l e R s m args below meth c nL E kc ks Q σ pc lv (.ref (E.2.2 2 g) :: st) := by
  have hm := zL_mem (q := 2) (by decide) hg
  rcases (show g = 0 ∨ g = 1 ∨ g = 2 ∨ g = 3 by have e9 : zcnt 2 = 4 := rfl; omega) with rfl | rfl | rfl | rfl
  · exact z_callVi (q := 2) (i := 0) (w9 := (RX1, TX1, 0)) (As := []) C (sc_X1_chance l E σ 0 (fun r u => r = 80 ∧ u = σ) hg ⟨rfl, rfl⟩) zwX10_126_X1_chance zvX10_126_X1_chance.1 zvX10_126_X1_chance.2 hm rfl rfl ⟨hf, hlo⟩ ⟨hkc, hks⟩ rfl rfl hW hd hn (fun r u h => by obtain ⟨e1, e2⟩ := h; subst e1; subst e2; exact k9)
  · exact z_callUi (x := ⟨"CandleMeadow$Dry", "chance", "()I"⟩) (owner := "CandleMeadow$Dry") (q := 2) (i := 1) (w9 := (RX9, TX9, 0)) (As := []) C (sc_X9_chance l E σ 1 (fun r u => r = 50 ∧ u = σ) hg ⟨rfl, rfl⟩) zqX10_126_X9 (zr11 _ (List.mem_of_getElem? (i := 6) rfl)) (by decide +kernel) hm rfl rfl ⟨hf, hlo⟩ ⟨hkc, hks⟩ rfl rfl hW hd hn (fun r u h => by obtain ⟨e1, e2⟩ := h; subst e1; subst e2; exact k9)
  · exact z_callUi (x := ⟨"CandleMeadow$Dry", "chance", "()I"⟩) (owner := "CandleMeadow$Dry") (q := 2) (i := 2) (w9 := (RX2, TX2, 0)) (As := []) C (sc_X2_chance l E σ 2 (fun r u => r = 25 ∧ u = σ) hg ⟨rfl, rfl⟩) zqX10_126_X2 (zr11 _ (List.mem_of_getElem? (i := 6) rfl)) (by decide +kernel) hm rfl rfl ⟨hf, hlo⟩ ⟨hkc, hks⟩ rfl rfl hW hd hn (fun r u h => by obtain ⟨e1, e2⟩ := h; subst e1; subst e2; exact k9)
  · exact z_callUi (x := ⟨"CandleMeadow$Dry", "chance", "()I"⟩) (owner := "CandleMeadow$Dry") (q := 2) (i := 3) (w9 := (RX3, TX3, 0)) (As := []) C (sc_X3_chance l E σ 3 (fun r u => r = 95 ∧ u = σ) hg ⟨rfl, rfl⟩) zqX10_126_X3 (zr11 _ (List.mem_of_getElem? (i := 6) rfl)) (by decide +kernel) hm rfl rfl ⟨hf, hlo⟩ ⟨hkc, hks⟩ rfl rfl hW hd hn (fun r u h => by obtain ⟨e1, e2⟩ := h; subst e1; subst e2; exact k9)
theorem zqX5_28_X9 : GoodIn zTB (va_wsO RX5 28 RX9 "CandleMeadow$Dry" ⟨"CandleMeadow$Dry", "chance", "()I"⟩ yX9_chance (Cond.code yX9_chance cX9_chance 1 (some .int) :: zTB)) := goodIn_app (goodIn_of _ (by decide +kernel)) (zGood (zr11 _ (List.mem_of_getElem? (i := 18) rfl)))
theorem zqX5_28_X2 : GoodIn zTB (va_wsO RX5 28 RX2 "CandleMeadow$Dry" ⟨"CandleMeadow$Dry", "chance", "()I"⟩ yX2_chance (Cond.code yX2_chance cX2_chance 1 (some .int) :: zTB)) := goodIn_app (goodIn_of _ (by decide +kernel)) (zGood (zr11 _ (List.mem_of_getElem? (i := 12) rfl)))
theorem zqX5_28_X3 : GoodIn zTB (va_wsO RX5 28 RX3 "CandleMeadow$Dry" ⟨"CandleMeadow$Dry", "chance", "()I"⟩ yX3_chance (Cond.code yX3_chance cX3_chance 1 (some .int) :: zTB)) := goodIn_app (goodIn_of _ (by decide +kernel)) (zGood (zr11 _ (List.mem_of_getElem? (i := 15) rfl)))
theorem zwX5_28_X1_chance : zWs RX5 28 yX1_chance cX1_chance 1 (some .int) 0 := ⟨(zr11 _ (List.mem_of_getElem? (i := 6) rfl)), (zr12 _ (List.mem_of_getElem? (i := 0) rfl)), (zr2 _ (List.mem_of_getElem? (i := 13) rfl)), by decide +kernel⟩
theorem zvX5_28_X1_chance : Cond.instanceMethod yX1_chance ∈ zTB ∧ Cond.selects RX1 yX1_chance yX1_chance ∈ zTB := ⟨(zr11 _ (List.mem_of_getElem? (i := 4) rfl)), (zr11 _ (List.mem_of_getElem? (i := 5) rfl))⟩
set_option maxHeartbeats 4000000 in
theorem zdX5_28 (C : zX p s m args meth c cc nL RX5 rt E) {g : Nat} (hg : g < zcnt 2) (hf : 1 ≤ R.frames) (hlo : 20 ≤ R.locals) (hkc : kc ≤ R.cells) (hks : ks ≤ R.slots) (hW : (st.map fun v => v.category).sum ≤ 8) (hd : decode cc pc = .ok (.invokevirtual 28, 3)) (hn : pc + 3 = pc') (k9 : zG p l e R s m args below meth c nL E kc ks Q σ pc' lv (.int (zchance g) :: st)) : zG p l e R s m args below meth c nL E kc ks Q σ pc lv (.ref (E.2.2 2 g) :: st) := by
  have hm := zL_mem (q := 2) (by decide) hg
  rcases (show g = 0 ∨ g = 1 ∨ g = 2 ∨ g = 3 by have e9 : zcnt 2 = 4 := rfl; omega) with rfl | rfl | rfl | rfl
  · exact z_callVi (q := 2) (i := 0) (w9 := (RX1, TX1, 0)) (As := []) C (sc_X1_chance l E σ 0 (fun r u => r = 80 ∧ u = σ) hg ⟨rfl, rfl⟩) zwX5_28_X1_chance zvX5_28_X1_chance.1 zvX5_28_X1_chance.2 hm rfl rfl ⟨hf, hlo⟩ ⟨hkc, hks⟩ rfl rfl hW hd hn (fun r u h => by obtain ⟨e1, e2⟩ := h; subst e1; subst e2; exact k9)
  · exact z_callUi (x := ⟨"CandleMeadow$Dry", "chance", "()I"⟩) (owner := "CandleMeadow$Dry") (q := 2) (i := 1) (w9 := (RX9, TX9, 0)) (As := []) C (sc_X9_chance l E σ 1 (fun r u => r = 50 ∧ u = σ) hg ⟨rfl, rfl⟩) zqX5_28_X9 (zr11 _ (List.mem_of_getElem? (i := 6) rfl)) (by decide +kernel) hm rfl rfl ⟨hf, hlo⟩ ⟨hkc, hks⟩ rfl rfl hW hd hn (fun r u h => by obtain ⟨e1, e2⟩ := h; subst e1; subst e2; exact k9)
  · exact z_callUi (x := ⟨"CandleMeadow$Dry", "chance", "()I"⟩) (owner := "CandleMeadow$Dry") (q := 2) (i := 2) (w9 := (RX2, TX2, 0)) (As := []) C (sc_X2_chance l E σ 2 (fun r u => r = 25 ∧ u = σ) hg ⟨rfl, rfl⟩) zqX5_28_X2 (zr11 _ (List.mem_of_getElem? (i := 6) rfl)) (by decide +kernel) hm rfl rfl ⟨hf, hlo⟩ ⟨hkc, hks⟩ rfl rfl hW hd hn (fun r u h => by obtain ⟨e1, e2⟩ := h; subst e1; subst e2; exact k9)
  · exact z_callUi (x := ⟨"CandleMeadow$Dry", "chance", "()I"⟩) (owner := "CandleMeadow$Dry") (q := 2) (i := 3) (w9 := (RX3, TX3, 0)) (As := []) C (sc_X3_chance l E σ 3 (fun r u => r = 95 ∧ u = σ) hg ⟨rfl, rfl⟩) zqX5_28_X3 (zr11 _ (List.mem_of_getElem? (i := 6) rfl)) (by decide +kernel) hm rfl rfl ⟨hf, hlo⟩ ⟨hkc, hks⟩ rfl rfl hW hd hn (fun r u h => by obtain ⟨e1, e2⟩ := h; subst e1; subst e2; exact k9)
end ZDS
