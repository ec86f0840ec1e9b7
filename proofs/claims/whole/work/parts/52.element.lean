/-! toss, element, the law's element -/
theorem zGood1 {w : Cond} (hc : w ∈ zTB) : GoodIn zTB (w :: zTB) := by
  intro w' h
  rcases List.mem_cons.mp h with h | h
  · subst h
    exact ⟨hc, good_of_word (zgood _ hc)⟩
  · exact ⟨h, good_of_word (zgood _ h)⟩
def vc_X10_toss (σ : zMem) (a0 : Int32) (Q : Int32 → zMem → Prop) : Prop := vc_X10_refusalOfPlotOn σ a0 (fun r2 σ1 => ((r2 = 0) → vp_in a0 8 ∧ (σ1 8 a0.toNatClampNeg 2).toNatClampNeg < 4 ∧ (thr (σ1 8 a0.toNatClampNeg 2).toNatClampNeg = 0 → Q (-15) σ1) ∧ (¬ thr (σ1 8 a0.toNatClampNeg 2).toNatClampNeg = 0 → Q (σ1 8 a0.toNatClampNeg 1) σ1)) ∧ ((¬ r2 = 0) → Q r2 σ1))
theorem zqIsT : GoodIn zTB (va_wsS RX10 301 yX10_isThrown (Cond.codeWith yX10_isThrown cX10_isThrown 2 (some .boolean) hIsT :: zTB)) := goodIn_app (goodIn_of _ (by decide +kernel)) (zGood1 (by decide +kernel))
theorem zqLel : GoodIn zTB (va_wsS RL 134 yL_element (Cond.codeWith yL_element cL_element 5 (some .int) [(0, 9, 12, 13), (0, 9, 16, 15)] :: zTB)) := goodIn_app (goodIn_of _ (by decide +kernel)) (zGood1 (by decide +kernel))
set_option maxHeartbeats 4000000 in
theorem sc_X10_toss (l : Launch) (hl : l.stackTraces = false) (E : zE) (σ : zMem) (a0 : Int32) (Q : Int32 → zMem → Prop) (h : vc_X10_toss σ a0 Q) : ∀ sz, Met l yX10_toss (Cond.code yX10_toss cX10_toss 3 (some .int) :: zTB) (zRx 8 123) (va_Pc [.ref (E.2.2 0 0), .int a0] (zPreX E σ sz)) (va_Qi Q (zPost E) (zA E sz)) 1 6 (zA E sz) := by
  intro sz
  refine Met.ofW (cc := cX10_toss) (maxL := 3) (ret := some .int) (by decide) rfl ?_
  intro p e s m args below meth c s₁ B hml hv
  obtain ⟨rfl, ⟨hsz, hP, hK, hI⟩, hT⟩ := hv
  subst hsz
  have hts := atoms_spec (ws := Cond.code yX10_toss cX10_toss 3 (some .int) :: zTB) B.pre
  have C : zX p s m [Value.ref (E.2.2 0 0), .int a0].toArray meth c cX10_toss 3 RX10 (some .int) E := ⟨⟨B.exec, B.bytes, hml, findClass_of_methodNamed B.named, fun w hw => hts w (List.mem_cons_of_mem _ hw)⟩, hK, hI, B.returns, B.notSynchronized⟩
  have hl1 := lv_entry [Value.ref (E.2.2 0 0), .int a0] (n := 3) (Nat.le_of_ble_eq_true rfl)
  rw [lg_entry_eq]
  unfold vc_X10_toss at h
  have fin : zG p l e (zRx 8 123) s m [Value.ref (E.2.2 0 0), .int a0].toArray below meth c 3 E 0 0 (MQ below (va_Qi Q (zPost E) (zA E s.heap.size)) [Value.ref (E.2.2 0 0), .int a0].toArray s 1 6 (zA E s.heap.size)) σ 0 [(0, .ref (E.2.2 0 0)), (1, .int a0)] [] := by
    refine z_aload_n (pc' := 1) C dX10_toss_0 rfl 0 rfl rfl ?_
    refine z_iload_n (pc' := 2) C dX10_toss_1 rfl 1 rfl rfl ?_
    refine z_callVi (q := 0) (i := 0) (w9 := (RX10, TX10, 12)) (pc' := 5) (st := []) (As := [.int a0]) C (sc_X10_refusalOfPlotOn l E σ a0 _ h) zwX10_293_X10_refusalOfPlotOn zvX10_293_X10_refusalOfPlotOn.1 zvX10_293_X10_refusalOfPlotOn.2 (zL_mem (by decide) zo0) rfl rfl ⟨by decide, by decide⟩ ⟨by decide, by decide⟩ rfl rfl (by decide) dX10_toss_2 rfl (fun r2 σ1 h => ?_)
    refine z_istore_n (pc' := 6) (lv' := [(2, .int r2), (0, .ref (E.2.2 0 0)), (1, .int a0)]) C dX10_toss_5 rfl (by decide) rfl rfl ?_
    refine z_iload_n (pc' := 7) C dX10_toss_6 rfl 0 rfl rfl ?_
    obtain ⟨ht, hf⟩ := h
    refine z_if_eq (tgt := 12) (pc' := 10) C dX10_toss_7 (by decide) rfl (fun c3 => ?_) (fun c3 => ?_)
    · obtain ⟨hv4, hg, h0, h1'⟩ := ht c3
      refine z_aload_n (pc' := 13) C dX10_toss_12 rfl 1 rfl rfl ?_
      refine zgX10_29 (pc' := 16) C zo0 dX10_toss_13 rfl ?_
      refine z_iload_n (pc' := 17) C dX10_toss_16 rfl 2 rfl rfl ?_
      refine z_aald (n := 8) (t0 := 6) (q2 := 8) (pc' := 18) C (zL_mem (by decide) zo7) (fun _ => rfl) rfl hv4 dX10_toss_17 rfl ?_
      refine zgX10_296 (pc' := 21) C (zin hv4) dX10_toss_18 rfl ?_
      intro ls H locs h1 h2 h3
      refine va_calli (vx_runSW (hh := hIsT) (As := [.ref (E.2.2 2 (σ1 8 a0.toNatClampNeg 2).toNatClampNeg)]) (rest := []) C.1 (sc_isThrown l hl E σ1 _ hg H.size) (vx_cwSW 1 C.1.2.2.2.2 zqIsT rfl rfl rfl (by decide +kernel) ⟨by decide, by decide⟩) (zPSx C hT h2 h3) rfl rfl h1.1 rfl (lv_room (by decide)) dX10_toss_21 ⟨by decide, by decide⟩) h3 (fun q _ h => zfree h3 q h) (zfree h3) (fun r u t H1 locs1 hth hvm hq hB hz hk1 hS => ?_)
      obtain ⟨e1, e2⟩ := hq
      subst e1
      subst e2
      refine (?_ : zG p l e (zRx 8 123) s m [Value.ref (E.2.2 0 0), .int a0].toArray below meth c 3 E 1 6 (MQ below (va_Qi Q (zPost E) (zA E s.heap.size)) [Value.ref (E.2.2 0 0), .int a0].toArray s 1 6 (zA E s.heap.size)) u 24 [(2, .int r2), (0, .ref (E.2.2 0 0)), (1, .int a0)] [.int (thr (u 8 a0.toNatClampNeg 2).toNatClampNeg)]) ls H1 locs1 h1 (by rw [← hth]; exact hB.1) hS
      refine z_if_eq (tgt := 39) (pc' := 27) C dX10_toss_24 (by decide) rfl (fun c4 => ?_) (fun c4 => ?_)
      · refine z_bipush (v := -15) (pc' := 41) C dX10_toss_39 (by decide) rfl ?_
        exact z_iretX C (by decide) (by decide) dX10_toss_41 (h0 c4)
      · refine z_aload_n (pc' := 28) C dX10_toss_27 rfl 1 rfl rfl ?_
        refine zgX10_29 (pc' := 31) C zo0 dX10_toss_28 rfl ?_
        refine z_iload_n (pc' := 32) C dX10_toss_31 rfl 2 rfl rfl ?_
        refine z_aald (n := 8) (t0 := 6) (q2 := 8) (pc' := 33) C (zL_mem (by decide) zo7) (fun _ => rfl) rfl hv4 dX10_toss_32 rfl ?_
        refine zgX10_305 (pc' := 36) C (zin hv4) dX10_toss_33 rfl ?_
        refine z_goto (tgt := 41) C dX10_toss_36 (by decide) ?_
        exact z_iretX C (by decide) (by decide) dX10_toss_41 (h1' c4)
    · have h := hf c3
      refine z_iload_n (pc' := 11) C dX10_toss_10 rfl 0 rfl rfl ?_
      exact z_iretX C (by decide) (by decide) dX10_toss_11 h
  exact fin _ _ _ hl1 hP va_S.rf
/-- what element comes to: 0 an answer, 1 no shelf, 2 no row or no place -/
def eK (σ : zMem) (a b : Int32) : Nat := if a < 0 ∨ 8 ≤ a then 1 else if σ 8 a.toNatClampNeg 0 = 3 ∨ σ 8 a.toNatClampNeg 0 = 4 then (if b < 0 ∨ σ 8 a.toNatClampNeg 6 ≤ b then 2 else 0) else 2
def eV (σ : zMem) (a b : Int32) : Int32 := if σ 8 a.toNatClampNeg 0 = 3 then σ 9 a.toNatClampNeg b.toNatClampNeg else σ 10 a.toNatClampNeg b.toNatClampNeg
abbrev zXE (E : zE) (σ : zMem) (a b : Int32) (sz : Nat) : String → State → State → Prop := vx_X (fun u : zMem => u = σ) (fun E9 u t => ((E9 = zIAE ∧ eK σ a b = 1) ∨ (E9 = zISE ∧ eK σ a b = 2)) ∧ zPost E u t) (zA E sz)
section ZTC
variable {p : Program} {l : Launch} {e : Env} {R : Room} {s : State} {m : MethodId} {args : Array Value} {below : List Frame} {meth : Method} {c : Code} {nL kc ks : Nat} {E : zE} {Q : State → Prop} {σ : zMem} {pc pc' : Nat} {lv lv' : List (Nat × Value)} {st : List Value} {cc : ByteArray} {rt : Option FieldType} {own : String}
theorem zXE_of {H : Heap} {locs : List Loc} {cls : String} {a b : Int32} (C : zX p s m args meth c cc nL own rt E) (hk : (cls = zIAE ∧ eK σ a b = 1) ∨ (cls = zISE ∧ eK σ a b = 2)) (h2 : zP E σ H) (h3 : va_S (zA E s.heap.size) s.heap H locs) (t : State) (hvm : s.vm.Alike t.vm) (hz : H.size ≤ t.heap.size) (hq : ∀ q : Nat, q < H.size → t.heap[q]? = H[q]?) : zXE E σ a b s.heap.size cls s t := by
  refine ⟨σ, rfl, ⟨hk, va_P.kept h2 (fun k q hk => hq _ (vx_lt h2 hk)), va_K.moved hvm C.2.1⟩, ?_, fun q h4 h5 => ?_⟩
  · exact Nat.le_trans h3.1 hz
  · rw [hq q (Nat.lt_of_lt_of_le h4 h3.1)]
    exact h3.2.1 q h4 h5
end ZTC
theorem not_in8 {a : Int32} (h : vp_in a 8) : ¬ (a < 0 ∨ (8 : Int32) ≤ a) := by
  rw [vp_in_iff] at h
  have e0 : (0 : Int32).toInt = 0 := rfl
  have e8 : (8 : Int32).toInt = 8 := rfl
  rw [tl, te]
  omega
theorem not_in8' {a : Int32} (h : ¬ vp_in a 8) : (a < 0 ∨ (8 : Int32) ≤ a) := by
  rw [vp_in_iff] at h
  have e0 : (0 : Int32).toInt = 0 := rfl
  have e8 : (8 : Int32).toInt = 8 := rfl
  rw [tl, te]
  omega
set_option maxHeartbeats 4000000 in
theorem sc_X10_element (l : Launch) (hl : l.stackTraces = false) (E : zE) (σ : zMem) (hIn : Inv σ) (a b : Int32) : ∀ sz, vx_Met l yX10_element (Cond.code yX10_element cX10_element 4 (some .long) :: zTB) (zRx 6 100) (va_Pc [.ref (E.2.2 0 0), .int a, .int b] (zPreX E σ sz)) (va_Ql (fun r u => eK σ a b = 0 ∧ r = (eV σ a b).toInt64 ∧ u = σ) (zPost E) (zA E sz)) (zXE E σ a b sz) 1 6 (zA E sz) := by
  intro sz
  refine vx_ofW (cc := cX10_element) (maxL := 4) (ret := some .long) (by decide) rfl ?_
  intro p e s m args below meth c s₁ B hml htab hv
  obtain ⟨rfl, ⟨hsz, hP, hK, hI⟩, hT⟩ := hv
  subst hsz
  have hts := atoms_spec (ws := Cond.code yX10_element cX10_element 4 (some .long) :: zTB) B.pre
  have C : zX p s m [Value.ref (E.2.2 0 0), .int a, .int b].toArray meth c cX10_element 4 RX10 (some .long) E := ⟨⟨B.exec, B.bytes, hml, findClass_of_methodNamed B.named, fun w hw => hts w (List.mem_cons_of_mem _ hw)⟩, hK, hI, B.returns, B.notSynchronized⟩
  have hl1 := lv_entry [Value.ref (E.2.2 0 0), .int a, .int b] (n := 4) (Nat.le_of_ble_eq_true rfl)
  rw [lg_entry_eq]
  have fin : zG p l e (zRx 6 100) s m [Value.ref (E.2.2 0 0), .int a, .int b].toArray below meth c 4 E 0 0 (vx_MQ below (va_Ql (fun r u => eK σ a b = 0 ∧ r = (eV σ a b).toInt64 ∧ u = σ) (zPost E) (zA E s.heap.size)) (zXE E σ a b s.heap.size) [Value.ref (E.2.2 0 0), .int a, .int b].toArray s 1 6 (zA E s.heap.size)) σ 0 [(0, .ref (E.2.2 0 0)), (1, .int a), (2, .int b)] [] := by
    refine z_iload_n (pc' := 1) C dX10_element_0 rfl 1 rfl rfl ?_
    by_cases ha : vp_in a 8
    · refine z_callSi (pc' := 4) (st := []) (As := [.int a]) C (sc_X10_isShelf l E σ a (fun r u => r = 1 ∧ u = σ) (p_isShelf_t ha ⟨rfl, rfl⟩)) zwX10_237_X10_isShelf ztX10_237_X10_isShelf ⟨by decide, by decide⟩ ⟨by decide, by decide⟩ rfl rfl (by decide) dX10_element_1 rfl (fun r2 σ1 h => ?_)
      obtain ⟨e1, e2⟩ := h
      subst e1
      subst e2
      refine z_if_ne (tgt := 18) (pc' := 7) C dX10_element_4 (by decide) rfl (fun _ => ?_) (fun c3 => absurd c3 (by decide))
      refine z_aload_n (pc' := 19) C dX10_element_18 rfl 0 rfl rfl ?_
      refine zgX10_29 (pc' := 22) C zo0 dX10_element_19 rfl ?_
      refine z_iload_n (pc' := 23) C dX10_element_22 rfl 1 rfl rfl ?_
      refine z_aald (n := 8) (t0 := 6) (q2 := 8) (pc' := 24) C (zL_mem (by decide) zo7) (fun _ => rfl) rfl ha dX10_element_23 rfl ?_
      refine z_astore_n (pc' := 25) (lv' := [(3, .ref (E.2.2 8 a.toNatClampNeg)), (0, .ref (E.2.2 0 0)), (1, .int a), (2, .int b)]) C dX10_element_24 rfl (by decide) rfl rfl ?_
      refine z_aload_n (pc' := 26) C dX10_element_25 rfl 0 rfl rfl ?_
      have hS := hIn.2.2.2.2 a.toNatClampNeg (zin ha)
      by_cases hw : σ1 8 a.toNatClampNeg 0 = 3 ∨ σ1 8 a.toNatClampNeg 0 = 4
      · refine z_callVi (q := 8) (i := a.toNatClampNeg) (w9 := (RX7, TX7, 7)) (pc' := 29) (st := []) (As := []) C (sc_X7_isRow l E σ1 a.toNatClampNeg (fun r u => r = 1 ∧ u = σ1) (zin ha) (p_isRow hw ⟨rfl, rfl⟩)) zwX10_264_X7_isRow zvX10_264_X7_isRow.1 zvX10_264_X7_isRow.2 (zL_mem (by decide) (zin ha)) rfl rfl ⟨by decide, by decide⟩ ⟨by decide, by decide⟩ rfl rfl (by decide) dX10_element_26 rfl (fun r3 σ2 h => ?_)
        obtain ⟨e1, e2⟩ := h
        subst e1
        subst e2
        refine z_if_ne (tgt := 43) (pc' := 32) C dX10_element_29 (by decide) rfl (fun _ => ?_) (fun c3 => absurd c3 (by decide))
        have bad : (b < 0 ∨ σ2 8 a.toNatClampNeg 6 ≤ b) → zG p l e (zRx 6 100) s m [Value.ref (E.2.2 0 0), .int a, .int b].toArray below meth c 4 E 0 0 (vx_MQ below (va_Ql (fun r u => eK σ2 a b = 0 ∧ r = (eV σ2 a b).toInt64 ∧ u = σ2) (zPost E) (zA E s.heap.size)) (zXE E σ2 a b s.heap.size) [Value.ref (E.2.2 0 0), .int a, .int b].toArray s 1 6 (zA E s.heap.size)) σ2 55 [(3, .ref (E.2.2 8 a.toNatClampNeg)), (0, .ref (E.2.2 0 0)), (1, .int a), (2, .int b)] [] := by
          intro hbad ls H locs h1 h2 h3
          obtain ⟨sa, hsa⟩ := hT.2.2.2.2.2.2.2.2.1
          have hk : eK σ2 a b = 2 := by rw [eK, if_neg (not_in8 ha), if_pos hw, if_pos hbad]
          exact vx_throwSW C.1.1 C.1.2.1 hl (own := RX10) (cls := zISE) (text := "no such place") (names := zNm) (ik := 267) (is := 275) (ic := 271) C.1.2.2.2.1 (by decide) (by decide) (tx_w hT (txmS _ List.mem_cons_self)) (tx_w hT (txmS _ (List.mem_cons_of_mem _ List.mem_cons_self))) hsa (fun w hw => tx_w hT (txmS _ (List.mem_cons_of_mem _ (List.mem_cons_of_mem _ hw)))) (fun w hw => tx_ot (txmS _ hw)) hT.2.1 hT.2.2.1 h3 (h1.1.trans hml.symm) dX10_element_55 dX10_element_58 dX10_element_59 dX10_element_62 dX10_element_65 (fun x hx => (htab x hx).elim) (by decide) (by decide) (by decide) (by decide) C.2.2.2.2 (fun t hvm hz hq => zXE_of C (Or.inr ⟨rfl, hk⟩) h2 h3 t hvm hz hq) h3.2.2 (by decide) (by decide)
        refine z_iload_n (pc' := 44) C dX10_element_43 rfl 3 rfl rfl ?_
        refine z_if_lt (tgt := 55) (pc' := 47) C dX10_element_44 (by decide) rfl (fun c3 => bad (Or.inl c3)) (fun c3 => ?_)
        refine z_iload_n (pc' := 48) C dX10_element_47 rfl 3 rfl rfl ?_
        refine z_aload_n (pc' := 49) C dX10_element_48 rfl 0 rfl rfl ?_
        refine zgX10_272 (pc' := 52) C (zin ha) dX10_element_49 rfl ?_
        refine z_icmp_lt (tgt := 66) (pc' := 55) C dX10_element_52 (by decide) rfl (fun c4 => ?_) (fun c4 => bad (Or.inr (by rw [te]; rw [tl] at c4; omega)))
        have hk : eK σ2 a b = 0 := by
          rw [eK, if_neg (not_in8 ha), if_pos hw, if_neg]
          rw [tl, te]
          rw [tl] at c3 c4
          omega
        have hb : vp_in b 60 := by
          rcases hS.2 with z | z | ⟨-, n, hn, h86, -, -⟩
          · rcases hw with hw | hw <;> rw [hw] at z <;> exact absurd z (by decide)
          · rcases hw with hw | hw <;> rw [hw] at z <;> exact absurd z.1 (by decide)
          · rw [h86, tl, ti (by omega)] at c4
            rw [tl] at c3
            have e0 : (0 : Int32).toInt = 0 := rfl
            exact vp_in_iff.mpr (by omega)
        refine z_aload_n (pc' := 67) C dX10_element_66 rfl 0 rfl rfl ?_
        refine zgX10_240 (pc' := 70) C (zin ha) dX10_element_67 rfl ?_
        refine z_iconst (v := 3) (pc' := 71) C dX10_element_70 (by decide) rfl ?_
        refine z_icmp_ne (tgt := 84) (pc' := 74) C dX10_element_71 (by decide) rfl (fun c5 => ?_) (fun c5 => ?_)
        · refine z_aload_n (pc' := 85) C dX10_element_84 rfl 0 rfl rfl ?_
          refine zgX10_280 (pc' := 88) C (zin ha) dX10_element_85 rfl ?_
          refine z_iload_n (pc' := 89) C dX10_element_88 rfl 3 rfl rfl ?_
          refine z_bald (n := 60) (pc' := 90) C (zL_mem (q := 10) (by decide) (zin ha)) (fun _ => rfl) hb dX10_element_89 rfl ?_
          refine z_i2l (pc' := 91) C dX10_element_90 rfl ?_
          exact z_lretX C (by decide) (by decide) dX10_element_91 ⟨hk, by rw [eV, if_neg c5], rfl⟩
        · refine z_aload_n (pc' := 75) C dX10_element_74 rfl 0 rfl rfl ?_
          refine zgX10_277 (pc' := 78) C (zin ha) dX10_element_75 rfl ?_
          refine z_iload_n (pc' := 79) C dX10_element_78 rfl 3 rfl rfl ?_
          refine z_iald (n := 60) (pc' := 80) C (zL_mem (q := 9) (by decide) (zin ha)) (fun _ => rfl) hb dX10_element_79 rfl ?_
          refine z_i2l (pc' := 81) C dX10_element_80 rfl ?_
          refine z_goto (tgt := 91) C dX10_element_81 (by decide) ?_
          exact z_lretX C (by decide) (by decide) dX10_element_91 ⟨hk, by rw [eV, if_pos c5], rfl⟩
      · have h7 : vc_X7_isRow σ1 a.toNatClampNeg (fun r u => r = 0 ∧ u = σ1) := kf (fun z => hw (Or.inl z)) (kf' (fun z => hw (Or.inr z)) ⟨rfl, rfl⟩)
        refine z_callVi (q := 8) (i := a.toNatClampNeg) (w9 := (RX7, TX7, 7)) (pc' := 29) (st := []) (As := []) C (sc_X7_isRow l E σ1 a.toNatClampNeg (fun r u => r = 0 ∧ u = σ1) (zin ha) h7) zwX10_264_X7_isRow zvX10_264_X7_isRow.1 zvX10_264_X7_isRow.2 (zL_mem (by decide) (zin ha)) rfl rfl ⟨by decide, by decide⟩ ⟨by decide, by decide⟩ rfl rfl (by decide) dX10_element_26 rfl (fun r3 σ2 h => ?_)
        obtain ⟨e1, e2⟩ := h
        subst e1
        subst e2
        refine z_if_ne (tgt := 43) (pc' := 32) C dX10_element_29 (by decide) rfl (fun c3 => absurd rfl c3) (fun _ => ?_)
        intro ls H locs h1 h2 h3
        obtain ⟨sa, hsa⟩ := hT.2.2.2.2.2.2.2.1
        have hk : eK σ2 a b = 2 := by rw [eK, if_neg (not_in8 ha), if_neg hw]
        exact vx_throwSW C.1.1 C.1.2.1 hl (own := RX10) (cls := zISE) (text := "no row is held") (names := zNm) (ik := 267) (is := 269) (ic := 271) C.1.2.2.2.1 (by decide) (by decide) (tx_w hT (txmS _ List.mem_cons_self)) (tx_w hT (txmS _ (List.mem_cons_of_mem _ List.mem_cons_self))) hsa (fun w hw => tx_w hT (txmS _ (List.mem_cons_of_mem _ (List.mem_cons_of_mem _ hw)))) (fun w hw => tx_ot (txmS _ hw)) hT.2.1 hT.2.2.1 h3 (h1.1.trans hml.symm) dX10_element_32 dX10_element_35 dX10_element_36 dX10_element_39 dX10_element_42 (fun x hx => (htab x hx).elim) (by decide) (by decide) (by decide) (by decide) C.2.2.2.2 (fun t hvm hz hq => zXE_of C (Or.inr ⟨rfl, hk⟩) h2 h3 t hvm hz hq) h3.2.2 (by decide) (by decide)
    · refine z_callSi (pc' := 4) (st := []) (As := [.int a]) C (sc_X10_isShelf l E σ a (fun r u => r = 0 ∧ u = σ) (p_isShelf_f ha ⟨rfl, rfl⟩)) zwX10_237_X10_isShelf ztX10_237_X10_isShelf ⟨by decide, by decide⟩ ⟨by decide, by decide⟩ rfl rfl (by decide) dX10_element_1 rfl (fun r2 σ1 h => ?_)
      obtain ⟨e1, e2⟩ := h
      subst e1
      subst e2
      refine z_if_ne (tgt := 18) (pc' := 7) C dX10_element_4 (by decide) rfl (fun c3 => absurd rfl c3) (fun _ => ?_)
      intro ls H locs h1 h2 h3
      obtain ⟨sa, hsa⟩ := hT.2.2.2.2.2.2.1
      have hk : eK σ1 a b = 1 := by rw [eK, if_pos (not_in8' ha)]
      exact vx_throwSW C.1.1 C.1.2.1 hl (own := RX10) (cls := zIAE) (text := "no such shelf") (names := zNm) (ik := 257) (is := 259) (ic := 261) C.1.2.2.2.1 (by decide) (by decide) (tx_w hT (txmA _ List.mem_cons_self)) (tx_w hT (txmA _ (List.mem_cons_of_mem _ List.mem_cons_self))) hsa (fun w hw => tx_w hT (txmA _ (List.mem_cons_of_mem _ (List.mem_cons_of_mem _ hw)))) (fun w hw => tx_ot (txmA _ hw)) hT.2.1 hT.2.2.1 h3 (h1.1.trans hml.symm) dX10_element_7 dX10_element_10 dX10_element_11 dX10_element_14 dX10_element_17 (fun x hx => (htab x hx).elim) (by decide) (by decide) (by decide) (by decide) C.2.2.2.2 (fun t hvm hz hq => zXE_of C (Or.inl ⟨rfl, hk⟩) h2 h3 t hvm hz hq) h3.2.2 (by decide) (by decide)
  exact fin _ _ _ hl1 hP va_S.rf
