/-! the methods that throw, and those that catch -/
abbrev zRx (fr lo : Nat) : Room := { frames := fr, cells := 1, slots := 6, locals := lo }
theorem txm2 : ∀ w ∈ txS RX2 13 17 zISE, w ∈ txW := fun w h => List.mem_append_left _ h
theorem txm3 : ∀ w ∈ txS RX3 13 17 zISE, w ∈ txW := fun w h => List.mem_append_right _ (List.mem_append_left _ h)
theorem txm9 : ∀ w ∈ txS RX9 19 23 zISE, w ∈ txW := fun w h => List.mem_append_right _ (List.mem_append_right _ (List.mem_append_left _ h))
theorem txmA : ∀ w ∈ txS RX10 257 261 zIAE, w ∈ txW := fun w h => List.mem_append_right _ (List.mem_append_right _ (List.mem_append_right _ (List.mem_append_left _ h)))
theorem txmS : ∀ w ∈ txS RX10 267 271 zISE, w ∈ txW := fun w h => List.mem_append_right _ (List.mem_append_right _ (List.mem_append_right _ (List.mem_append_right _ (List.mem_append_left _ h))))
theorem txmC : ∀ w ∈ [Cond.castable zISE zISE, Cond.castable zIAE zIAE], w ∈ txW := fun w h => List.mem_append_right _ (List.mem_append_right _ (List.mem_append_right _ (List.mem_append_right _ (List.mem_append_right _ h))))
theorem tx_w {A : Nat → Prop} {args : Array Value} {s : State} (hT : TX A s) {w : Cond} (h : w ∈ txW) : w.before args s = true := tx_at (State.WarmedH.refl s) (txW_ok h) (hT.1 w h)
theorem tx_ot {w : Cond} (h : w ∈ txW) : vx_ot w = true := by
  have h1 := txW_ok h
  simp only [Bool.and_eq_true] at h1
  exact h1.2
section ZTB
variable {p : Program} {l : Launch} {e : Env} {R : Room} {s : State} {m : MethodId} {args : Array Value} {below : List Frame} {meth : Method} {c : Code} {nL kc ks : Nat} {E : zE} {Q : State → Prop} {σ : zMem} {pc pc' : Nat} {lv lv' : List (Nat × Value)} {st : List Value} {cc : ByteArray} {rt : Option FieldType} {own : String}
theorem z_iretX {Q9 : Int32 → zMem → Prop} {v : Int32} (C : zX p s m args meth c cc nL own (some .int) E) (h5 : kc ≤ 1) (h6 : ks ≤ 6) (hd : decode cc pc = .ok (.ireturn, 1)) (hq : Q9 v σ) : zG p l e R s m args below meth c nL E kc ks  (MQ below (va_Qi Q9 (zPost E) (zA E s.heap.size)) args s 1 6 (zA E s.heap.size)) σ pc lv [.int v] := by
  intro ls H locs h1 h2 h3
  have hlocks := C.2.2.2.2
  exact W.widen h5 h6 (W.iret C.1.1 C.1.2.1 C.2.2.2.1 (fun t ht hW => ⟨⟨v, σ, rfl, hq, by rw [zPost, ht]; exact ⟨h2, va_K.moved hW.alike C.2.1⟩⟩, h3.F ht⟩) h3.2.2 hd)
theorem z_zretX {Q9 : Int32 → zMem → Prop} {v : Int32} {ty : FieldType} (C : zX p s m args meth c cc nL own (some ty) E) (h5 : kc ≤ 1) (h6 : ks ≤ 6) (hnar : narrow ty (.int v) = .int v) (hd : decode cc pc = .ok (.ireturn, 1)) (hq : Q9 v σ) : zG p l e R s m args below meth c nL E kc ks  (MQ below (va_Qi Q9 (zPost E) (zA E s.heap.size)) args s 1 6 (zA E s.heap.size)) σ pc lv [.int v] := by
  intro ls H locs h1 h2 h3
  have hlocks := C.2.2.2.2
  exact W.widen h5 h6 (W.zret C.1.1 C.1.2.1 C.2.2.2.1 hnar (fun t ht hW => ⟨⟨v, σ, rfl, hq, by rw [zPost, ht]; exact ⟨h2, va_K.moved hW.alike C.2.1⟩⟩, h3.F ht⟩) h3.2.2 hd)
theorem z_lretX {Q9 : Int64 → zMem → Prop} {XC : String → State → State → Prop} {v : Int64} (C : zX p s m args meth c cc nL own (some .long) E) (h5 : kc ≤ 1) (h6 : ks ≤ 6) (hd : decode cc pc = .ok (.lreturn, 1)) (hq : Q9 v σ) : zG p l e R s m args below meth c nL E kc ks  (vx_MQ below (va_Ql Q9 (zPost E) (zA E s.heap.size)) XC args s 1 6 (zA E s.heap.size)) σ pc lv [.long v] := by
  intro ls H locs h1 h2 h3
  have hlocks := C.2.2.2.2
  exact vx_ret (W.widen h5 h6 (W.lret C.1.1 C.1.2.1 C.2.2.2.1 (fun t ht hW => ⟨⟨v, σ, rfl, hq, by rw [zPost, ht]; exact ⟨h2, va_K.moved hW.alike C.2.1⟩⟩, h3.F ht⟩) h3.2.2 hd))
theorem z_last (C : zX p s m args meth c cc nL own rt E) {x y : Int32} {v : Int64} (hin : vp_in x 1) (hv : v = y.toInt64) (hd : decode cc pc = .ok (.lastore, 1)) (hn : pc + 1 = pc') (k9 : zG p l e R s m args below meth c nL E kc ks Q (um σ 55 0 x.toNatClampNeg y) pc' lv st) : zG p l e R s m args below meth c nL E kc ks Q σ pc lv (.long v :: .int x :: .ref (E.2.2 55 0) :: st) := by
  intro ls H locs h1 h2 h3
  subst hn
  subst hv
  obtain ⟨k, hk0, hk⟩ := zws_get E σ (zL_mem (q := 55) (i := 0) (by decide) (by decide))
  refine va_last C.1.1 C.1.2.1 C.2.1 h2 (zD C.2.2.1 σ _) h3 k 7 hk rfl hin hd (fun H1 locs1 hP hD hS => ?_)
  refine k9 ls H1 locs1 h1 ?_ hS
  have e1 := zws_set E σ (um σ 55 0 x.toNatClampNeg y) hk0 (fun a b h => um_off σ 55 0 _ _ h)
  have e2 : zct E 55 0 (um σ 55 0 x.toNatClampNeg y 55 0) = .inl (E.2.1 7, 1, .inr (.inl (vp_updL (fun j => (σ 55 0 j).toInt64) x.toNatClampNeg y.toInt64))) := by
    rw [um_row]
    show (Sum.inl (E.2.1 7, 1, .inr (.inl (fun j => (upd (σ 55 0) x.toNatClampNeg y j).toInt64))) : va_E) = _
    have e3 : (fun j => (upd (σ 55 0) x.toNatClampNeg y j).toInt64) = vp_updL (fun j => (σ 55 0 j).toInt64) x.toNatClampNeg y.toInt64 := by
      funext j
      simp only [upd, vp_updL]
      split <;> rfl
    rw [e3]
  rw [e2] at e1
  show va_P E.1 vwCl (zws E (um σ 55 0 x.toNatClampNeg y)) H1
  rw [← e1]
  exact hP
theorem zgX10_272 (C : zX p s m args meth c cc nL RX10 rt E) {i : Nat} (hi : i < zcnt 8) (hd : decode cc pc = .ok (.getfield 272, 3)) (hn : pc + 3 = pc') (k9 : zG p l e R s m args below meth c nL E kc ks Q σ pc' lv (.int (σ 8 i 6) :: st)) : zG p l e R s m args below meth c nL E kc ks Q σ pc lv (.ref (E.2.2 8 i) :: st) := z_get (fs := fun r => [.int (r 0), .int (r 1), .ref (E.2.2 2 (r 2).toNatClampNeg), .int (r 3), .ref (E.2.2 9 i), .ref (E.2.2 10 i), .int (r 6)]) C (zL_mem (by decide) hi) (fun _ => rfl) rfl ziX7 6 (by decide) (zr30 _ (List.mem_of_getElem? (i := 10) rfl)) rfl hd hn k9
theorem zgX10_305 (C : zX p s m args meth c cc nL RX10 rt E) {i : Nat} (hi : i < zcnt 8) (hd : decode cc pc = .ok (.getfield 305, 3)) (hn : pc + 3 = pc') (k9 : zG p l e R s m args below meth c nL E kc ks Q σ pc' lv (.int (σ 8 i 1) :: st)) : zG p l e R s m args below meth c nL E kc ks Q σ pc lv (.ref (E.2.2 8 i) :: st) := z_get (fs := fun r => [.int (r 0), .int (r 1), .ref (E.2.2 2 (r 2).toNatClampNeg), .int (r 3), .ref (E.2.2 9 i), .ref (E.2.2 10 i), .int (r 6)]) C (zL_mem (by decide) hi) (fun _ => rfl) rfl ziX7 1 (by decide) (by decide +kernel) rfl hd hn k9
end ZTB
theorem sc_X1_fail (l : Launch) (E : zE) (σ : zMem) (i : Nat) : zMv l yX1_fail cX1_fail 1 0 0 E [.ref (E.2.2 2 i)] σ (fun u => u = σ) := by
  refine zMv_of (by decide) (Nat.le_of_ble_eq_true rfl) ?_
  intro p e s m args below meth c C
  exact z_vret C dX1_fail_0 rfl
abbrev zFail (l : Launch) (y : MethodName) (cc : ByteArray) (E : zE) (g : Nat) (σ : zMem) : Prop := ∀ sz, vx_Met l y (Cond.code y cc 1 none :: zTB) (zRx 6 82) (va_Pc [.ref (E.2.2 2 g)] (zPreX E σ sz)) (va_Qv (fun _ : zMem => False) (zPost E) (zA E sz)) (zXC E zISE σ sz) 1 6 (zA E sz)

theorem sc_X2_fail (l : Launch) (hl : l.stackTraces = false) (E : zE) (σ : zMem) (g : Nat) : zFail l yX2_fail cX2_fail E g σ := by
  intro sz
  refine vx_ofW (cc := cX2_fail) (maxL := 1) (ret := none) (by decide) rfl ?_
  intro p e s m args below meth c s₁ B hml htab hv
  obtain ⟨rfl, ⟨hsz, hP, hK, hI⟩, hT⟩ := hv
  subst hsz
  have hts := atoms_spec (ws := Cond.code yX2_fail cX2_fail 1 none :: zTB) B.pre
  have C : zX p s m [Value.ref (E.2.2 2 g)].toArray meth c cX2_fail 1 RX2 none E := ⟨⟨B.exec, B.bytes, hml, findClass_of_methodNamed B.named, fun w hw => hts w (List.mem_cons_of_mem _ hw)⟩, hK, hI, B.returns, B.notSynchronized⟩
  have hl1 := lv_entry [Value.ref (E.2.2 2 g)] (n := 1) (Nat.le_of_ble_eq_true rfl)
  rw [lg_entry_eq]
  obtain ⟨a, ha⟩ := hT.2.2.2.1
  exact vx_throwS C.1.1 C.1.2.1 hl (own := RX2) (cls := zISE) (text := "the ground is flooded") (names := zNm) (ik := 13) (is := 15) (ic := 17) C.1.2.2.2.1 (by decide) (by decide) (tx_w hT (txm2 _ List.mem_cons_self)) (tx_w hT (txm2 _ (List.mem_cons_of_mem _ List.mem_cons_self))) ha (fun w hw => tx_w hT (txm2 _ (List.mem_cons_of_mem _ (List.mem_cons_of_mem _ hw)))) (fun w hw => tx_ot (txm2 _ hw)) hT.2.1 hT.2.2.1 va_S.rf (hl1.1.trans hml.symm) dX2_fail_0 dX2_fail_3 dX2_fail_4 dX2_fail_6 dX2_fail_9 (fun x hx => (htab x hx).elim) (by decide) (by decide) (by decide) (by decide) C.2.2.2.2 (fun t hvm hz hq => zXC_of C hP va_S.rf t hvm hz hq) (fun z hz => nomatch hz) (by decide) (by decide)
theorem sc_X3_fail (l : Launch) (hl : l.stackTraces = false) (E : zE) (σ : zMem) (g : Nat) : zFail l yX3_fail cX3_fail E g σ := by
  intro sz
  refine vx_ofW (cc := cX3_fail) (maxL := 1) (ret := none) (by decide) rfl ?_
  intro p e s m args below meth c s₁ B hml htab hv
  obtain ⟨rfl, ⟨hsz, hP, hK, hI⟩, hT⟩ := hv
  subst hsz
  have hts := atoms_spec (ws := Cond.code yX3_fail cX3_fail 1 none :: zTB) B.pre
  have C : zX p s m [Value.ref (E.2.2 2 g)].toArray meth c cX3_fail 1 RX3 none E := ⟨⟨B.exec, B.bytes, hml, findClass_of_methodNamed B.named, fun w hw => hts w (List.mem_cons_of_mem _ hw)⟩, hK, hI, B.returns, B.notSynchronized⟩
  have hl1 := lv_entry [Value.ref (E.2.2 2 g)] (n := 1) (Nat.le_of_ble_eq_true rfl)
  rw [lg_entry_eq]
  obtain ⟨a, ha⟩ := hT.2.2.2.2.1
  exact vx_throwS C.1.1 C.1.2.1 hl (own := RX3) (cls := zISE) (text := "the ground is high") (names := zNm) (ik := 13) (is := 15) (ic := 17) C.1.2.2.2.1 (by decide) (by decide) (tx_w hT (txm3 _ List.mem_cons_self)) (tx_w hT (txm3 _ (List.mem_cons_of_mem _ List.mem_cons_self))) ha (fun w hw => tx_w hT (txm3 _ (List.mem_cons_of_mem _ (List.mem_cons_of_mem _ hw)))) (fun w hw => tx_ot (txm3 _ hw)) hT.2.1 hT.2.2.1 va_S.rf (hl1.1.trans hml.symm) dX3_fail_0 dX3_fail_3 dX3_fail_4 dX3_fail_6 dX3_fail_9 (fun x hx => (htab x hx).elim) (by decide) (by decide) (by decide) (by decide) C.2.2.2.2 (fun t hvm hz hq => zXC_of C hP va_S.rf t hvm hz hq) (fun z hz => nomatch hz) (by decide) (by decide)
theorem sc_X9_fail (l : Launch) (hl : l.stackTraces = false) (E : zE) (σ : zMem) (g : Nat) : zFail l yX9_fail cX9_fail E g σ := by
  intro sz
  refine vx_ofW (cc := cX9_fail) (maxL := 1) (ret := none) (by decide) rfl ?_
  intro p e s m args below meth c s₁ B hml htab hv
  obtain ⟨rfl, ⟨hsz, hP, hK, hI⟩, hT⟩ := hv
  subst hsz
  have hts := atoms_spec (ws := Cond.code yX9_fail cX9_fail 1 none :: zTB) B.pre
  have C : zX p s m [Value.ref (E.2.2 2 g)].toArray meth c cX9_fail 1 RX9 none E := ⟨⟨B.exec, B.bytes, hml, findClass_of_methodNamed B.named, fun w hw => hts w (List.mem_cons_of_mem _ hw)⟩, hK, hI, B.returns, B.notSynchronized⟩
  have hl1 := lv_entry [Value.ref (E.2.2 2 g)] (n := 1) (Nat.le_of_ble_eq_true rfl)
  rw [lg_entry_eq]
  obtain ⟨a, ha⟩ := hT.2.2.2.2.2.1
  exact vx_throwS C.1.1 C.1.2.1 hl (own := RX9) (cls := zISE) (text := "the ground is wet") (names := zNm) (ik := 19) (is := 21) (ic := 23) C.1.2.2.2.1 (by decide) (by decide) (tx_w hT (txm9 _ List.mem_cons_self)) (tx_w hT (txm9 _ (List.mem_cons_of_mem _ List.mem_cons_self))) ha (fun w hw => tx_w hT (txm9 _ (List.mem_cons_of_mem _ (List.mem_cons_of_mem _ hw)))) (fun w hw => tx_ot (txm9 _ hw)) hT.2.1 hT.2.2.1 va_S.rf (hl1.1.trans hml.symm) dX9_fail_0 dX9_fail_3 dX9_fail_4 dX9_fail_6 dX9_fail_9 (fun x hx => (htab x hx).elim) (by decide) (by decide) (by decide) (by decide) C.2.2.2.2 (fun t hvm hz hq => zXC_of C hP va_S.rf t hvm hz hq) (fun z hz => nomatch hz) (by decide) (by decide)
theorem zqX10_337_X9 : GoodIn zTB (va_wsO RX10 337 RX9 "CandleMeadow$Dry" ⟨"CandleMeadow$Dry", "fail", "()V"⟩ yX9_fail (Cond.code yX9_fail cX9_fail 1 none :: zTB)) := goodIn_app (goodIn_of _ (by decide +kernel)) (zGood (by decide +kernel))
theorem zqX10_337_X2 : GoodIn zTB (va_wsO RX10 337 RX2 "CandleMeadow$Dry" ⟨"CandleMeadow$Dry", "fail", "()V"⟩ yX2_fail (Cond.code yX2_fail cX2_fail 1 none :: zTB)) := goodIn_app (goodIn_of _ (by decide +kernel)) (zGood (by decide +kernel))
theorem zqX10_337_X3 : GoodIn zTB (va_wsO RX10 337 RX3 "CandleMeadow$Dry" ⟨"CandleMeadow$Dry", "fail", "()V"⟩ yX3_fail (Cond.code yX3_fail cX3_fail 1 none :: zTB)) := goodIn_app (goodIn_of _ (by decide +kernel)) (zGood (by decide +kernel))
theorem zwX10_337 : zWs RX10 337 yX1_fail cX1_fail 1 none 0 := ⟨by decide +kernel, by decide +kernel, by decide +kernel, by decide +kernel⟩
theorem zvX10_337 : Cond.instanceMethod yX1_fail ∈ zTB ∧ Cond.selects RX1 yX1_fail yX1_fail ∈ zTB ∧ Cond.code ⟨"CandleMeadow$Dry", "fail", "()V"⟩ cX1_fail 1 none ∈ zTB := ⟨by decide +kernel, by decide +kernel, by decide +kernel⟩
def thr (g : Nat) : Int32 := if g = 0 then 0 else 1
abbrev hIsT : List (Nat × Nat × Nat × Nat) := [(0, 4, 7, 267)]
set_option maxHeartbeats 4000000 in
theorem sc_isThrown (l : Launch) (hl : l.stackTraces = false) (E : zE) (σ : zMem) (g : Nat) (hg : g < 4) : ∀ sz, Met l yX10_isThrown (Cond.codeWith yX10_isThrown cX10_isThrown 2 (some .boolean) hIsT :: zTB) (zRx 7 102) (va_Pc [.ref (E.2.2 2 g)] (zPreX E σ sz)) (va_Qi (fun r u => r = thr g ∧ u = σ) (zPost E) (zA E sz)) 1 6 (zA E sz) := by
  intro sz
  refine va_MetW (cc := cX10_isThrown) (maxL := 2) (ret := some .boolean) (hh := hIsT) (by decide) rfl ?_
  intro p e s m args below meth c s₁ B hml hv
  obtain ⟨rfl, ⟨hsz, hP, hK, hI⟩, hT⟩ := hv
  subst hsz
  have hts := atoms_spec (ws := Cond.codeWith yX10_isThrown cX10_isThrown 2 (some .boolean) hIsT :: zTB) B.pre
  have C : zX p s m [Value.ref (E.2.2 2 g)].toArray meth c cX10_isThrown 2 RX10 (some .boolean) E := ⟨⟨B.exec, B.bytes, hml, findClass_of_methodNamed B.named, fun w hw => hts w (List.mem_cons_of_mem _ hw)⟩, hK, hI, B.returns, B.notSynchronized⟩
  have htab : c.exceptionTable.toList = tableOf hIsT := vx_table (x := yX10_isThrown) B (hts _ List.mem_cons_self)
  have hl1 := lv_entry [Value.ref (E.2.2 2 g)] (n := 2) (Nat.le_of_ble_eq_true rfl)
  rw [lg_entry_eq]
  have fin : zG p l e (zRx 7 102) s m [Value.ref (E.2.2 2 g)].toArray below meth c 2 E 0 0 (MQ below (va_Qi (fun r u => r = thr g ∧ u = σ) (zPost E) (zA E s.heap.size)) [Value.ref (E.2.2 2 g)].toArray s 1 6 (zA E s.heap.size)) σ 0 [(0, .ref (E.2.2 2 g))] [] := by
    refine z_aload_n (pc' := 1) C dX10_isThrown_0 rfl 0 rfl rfl ?_
    have hm := zL_mem (q := 2) (i := g) (by decide) hg
    have thrown : ∀ (CC : String) (TT : u_T) (ci : Nat) (y : MethodName) (cc' : ByteArray), vwCl[ci]? = some (CC, TT, 0) → zct E 2 g (σ 2 g) = .inr (ci, []) → zFail l y cc' E g σ → GoodIn zTB (va_wsO RX10 337 CC "CandleMeadow$Dry" ⟨"CandleMeadow$Dry", "fail", "()V"⟩ y (Cond.code y cc' 1 none :: zTB)) → thr g = 1 → zG p l e (zRx 7 102) s m [Value.ref (E.2.2 2 g)].toArray below meth c 2 E 0 0 (MQ below (va_Qi (fun r u => r = thr g ∧ u = σ) (zPost E) (zA E s.heap.size)) [Value.ref (E.2.2 2 g)].toArray s 1 6 (zA E s.heap.size)) σ 1 [(0, .ref (E.2.2 2 g))] [.ref (E.2.2 2 g)] := by
      intro CC TT ci y cc' hcl hct hM hw ht1 ls H locs h1 h2 h3
      refine vx_callv (vx_runU (C := CC) (owner := "CandleMeadow$Dry") (x := ⟨"CandleMeadow$Dry", "fail", "()V"⟩) (b := E.2.2 2 g) (As := []) (rest := []) C.1 (hM H.size) (va_cwO 0 C.1.2.2.2.2 hw rfl rfl rfl zvX10_337.2.2 (by decide +kernel) ⟨by decide, by decide⟩) (zPVx (w9 := (CC, TT, 0)) C hT h2 h3 hm hct hcl) rfl rfl h1.1 rfl (lv_room (by decide)) dX10_isThrown_1 ⟨by decide, by decide⟩) h3 (fun q _ h => zfree h3 q h) (zfree h3) (fun q _ h => zfree h3 q h) ?_ ?_
      · intro E9 ce q9 u t H1 locs1 ht hvm hp hB hz hk1 hS hce hcv hcl9
        obtain ⟨rfl, hB⟩ := hB
        subst hp
        refine vx_catch (own := RX10) (name := zISE) (E := zISE) C.1.2.2.2.1 [] ⟨0, 4, 7, 267⟩ [] htab (fun z hz => nomatch hz) (by decide) (by decide) (C.1.2.2.2.2 _ (by decide +kernel)) (tx_w hT (txmC _ List.mem_cons_self)) hce hcv hcl9 ?_
        refine (?_ : zG p l e (zRx 7 102) s m [Value.ref (E.2.2 2 g)].toArray below meth c 2 E 1 6 (MQ below (va_Qi (fun r u' => r = thr g ∧ u' = u) (zPost E) (zA E s.heap.size)) [Value.ref (E.2.2 2 g)].toArray s 1 6 (zA E s.heap.size)) u 7 [(0, .ref (E.2.2 2 g))] [.ref q9]) ls H1 locs1 h1 (by rw [← ht]; exact hB.1) hS
        refine z_astore_n (pc' := 8) (lv' := [(1, .ref q9), (0, .ref (E.2.2 2 g))]) C dX10_isThrown_7 rfl (by decide) rfl rfl ?_
        refine z_iconst (v := 1) (pc' := 9) C dX10_isThrown_8 (by decide) rfl ?_
        exact z_zretX C (by decide) (by decide) (by decide) dX10_isThrown_9 ⟨ht1.symm, rfl⟩
      · intro u t H1 locs1 ht hvm hp
        exact hp.elim
    rcases (show g = 0 ∨ g = 1 ∨ g = 2 ∨ g = 3 by omega) with rfl | rfl | rfl | rfl
    · refine z_callVv (q := 2) (i := 0) (w9 := (RX1, TX1, 0)) (pc' := 4) (st := []) (As := []) C (sc_X1_fail l E σ 0) zwX10_337 zvX10_337.1 zvX10_337.2.1 hm rfl rfl ⟨by decide, by decide⟩ ⟨by decide, by decide⟩ rfl rfl (by decide) dX10_isThrown_1 rfl (fun u h => ?_)
      subst h
      refine z_goto (tgt := 10) C dX10_isThrown_4 (by decide) ?_
      refine z_iconst (v := 0) (pc' := 11) C dX10_isThrown_10 (by decide) rfl ?_
      exact z_zretX C (by decide) (by decide) (by decide) dX10_isThrown_11 ⟨rfl, rfl⟩
    · exact thrown RX9 TX9 9 _ _ rfl rfl (sc_X9_fail l hl E σ 1) zqX10_337_X9 rfl
    · exact thrown RX2 TX2 2 _ _ rfl rfl (sc_X2_fail l hl E σ 2) zqX10_337_X2 rfl
    · exact thrown RX3 TX3 3 _ _ rfl rfl (sc_X3_fail l hl E σ 3) zqX10_337_X3 rfl
  exact fin _ _ _ hl1 hP va_S.rf
