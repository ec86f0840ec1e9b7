/-! throws: the words and what of the heap they speak of -/
abbrev zISE : String := "java/lang/IllegalStateException"
abbrev zIAE : String := "java/lang/IllegalArgumentException"
abbrev zNm : List String := ["java/lang/RuntimeException", "java/lang/Exception"]
def txS (own : String) (ik ic : Nat) (cls : String) : List Cond := Cond.classLink own ik cls :: Cond.initialized cls :: vx_atS own ic cls zNm
def txW : List Cond := txS RX2 13 17 zISE ++ (txS RX3 13 17 zISE ++ (txS RX9 19 23 zISE ++ (txS RX10 257 261 zIAE ++ (txS RX10 267 271 zISE ++ [Cond.castable zISE zISE, Cond.castable zIAE zIAE]))))
theorem txW_ok0 : txW.all (fun w => w.keepsFace && vx_ot w) = true := by decide +kernel
theorem tx_at {args a' : Array Value} {s U : State} {w : Cond} (hW : s.WarmedH U.vm) (hk : (w.keepsFace && vx_ot w) = true) (h : w.before args s = true) : w.before a' U = true := by
  simp only [Bool.and_eq_true] at hk
  have h1 := Cond.before_shiftedFace (args := args) (State.Shifted.of_warmed hW) w hk.1 h
  exact vx_ot_at (s := s.setVm U.vm) (State.WarmedH.refl (s.setVm U.vm)) rfl hk.2 h1
theorem txW_ok {w : Cond} (h : w ∈ txW) : (w.keepsFace && vx_ot w) = true := List.all_eq_true.mp txW_ok0 w h
def TX (A : Nat → Prop) (U : State) : Prop :=
  (∀ w ∈ txW, w.before #[] U = true) ∧ vx_Zq Bundle.tN "UNASSIGNED_STACK" Bundle.steD A U U.heap ∧ vx_Zq Bundle.tN "SUPPRESSED_SENTINEL" Bundle.listD A U U.heap ∧
  (∃ a, vk_R RX2 15 "the ground is flooded" a U) ∧ (∃ a, vk_R RX3 15 "the ground is high" a U) ∧ (∃ a, vk_R RX9 21 "the ground is wet" a U) ∧ (∃ a, vk_R RX10 259 "no such shelf" a U) ∧ (∃ a, vk_R RX10 269 "no row is held" a U) ∧ (∃ a, vk_R RX10 275 "no such place" a U) ∧ va_Nc zISE zIAE U
theorem TX.move {A B : Nat → Prop} {s U : State} (h : TX A s) (hW : s.WarmedH U.vm) (hq : ∀ a : Nat, a < s.heap.size → ¬ A a → U.heap[a]? = s.heap[a]?) (hA : ∀ q, B q → A q) : TX B U := by
  obtain ⟨h1, h2, h3, ⟨a4, h4⟩, ⟨a5, h5⟩, ⟨a6, h6⟩, ⟨a7, h7⟩, ⟨a8, h8⟩, ⟨a9, h9⟩, h10⟩ := h
  exact ⟨fun w hw => tx_at hW (txW_ok hw) (h1 w hw), ((h2.moved hW.alike).kept hq).narrow hA, ((h3.moved hW.alike).kept hq).narrow hA, ⟨a4, h4.warm hW⟩, ⟨a5, h5.warm hW⟩, ⟨a6, h6.warm hW⟩, ⟨a7, h7.warm hW⟩, ⟨a8, h8.warm hW⟩, ⟨a9, h9.warm hW⟩, h10.moved hW.alike⟩
def zPreX (E : zE) (σ : zMem) (sz : Nat) (U : State) : Prop := zPre E σ sz U ∧ TX (zA E sz) U
theorem zPreX_blind {E : zE} {σ : zMem} {sz : Nat} {av : List Value} : FrameBlind (va_Pc av (zPreX E σ sz)) := by
  intro a U g mk q
  obtain ⟨q0, ⟨q1, qP, qK, qI⟩, qT⟩ := q
  exact ⟨q0, ⟨q1, qP, va_K.moved (u := U) (U := U.calling g mk a) (Vm.Alike.refl U.vm) qK, qI⟩, TX.move (s := U) (U := U.calling g mk a) qT (State.WarmedH.refl U) (fun _ _ _ => rfl) (fun _ h => h)⟩
section ZT
variable {p : Program} {l : Launch} {e : Env} {R : Room} {s : State} {m : MethodId} {args : Array Value} {below : List Frame} {meth : Method} {c : Code} {nL kc ks : Nat} {E : zE} {Q : State → Prop} {σ : zMem} {pc pc' : Nat} {lv lv' : List (Nat × Value)} {st : List Value} {cc : ByteArray} {rt : Option FieldType} {own : String}
theorem vx_callVU {T : State} {locs : List Loc} {cells slots : Nat} (X : Stand p l e R s m args below meth c T locs cells slots) (hexec : p.tables.exec = Jvm.exec) {own C owner : String} {index : Nat} {x y : MethodName} {bytes : ByteArray} {maxL : Nat} {ret : Option FieldType}
    (hown : s.vm.findClass own = some m.cls) (hlink : (Cond.methodLink own index x).before args s = true) (hsame : (Cond.sameMethod x.cls owner x.name x.desc).before args s = true)
    (hd0 : va_Decl s ⟨owner, x.name, x.desc⟩) (howner : owner ≠ "java/lang/invoke/MethodHandle" ∧ owner ≠ "java/lang/invoke/VarHandle")
    (hsel : (Cond.selects C x y).before args s = true) (hinst : (Cond.instanceMethod y).before args s = true) (hcode : (Cond.code y bytes maxL ret).before args s = true)
    {W9 : Nat} {Pre : Pt → Array Value → Prop} {Post : Pt → Array Value → Option Value → Pt → Prop} {PostX : Pt → Array Value → Addr → Pt → Prop} (hK : vx_Back l R p e below s args y 3 W9 Pre Post PostX)
    {b : Addr} {cellB : Cell} (hcell : T.heap[b]? = some cellB) (hobj : cellB.vm.isStatics = false) (hcls : s.vm.findClass C = some cellB.cls)
    {g : JFrame} (hg : g.method = m) (hsize : g.locals.size = c.maxLocals) {argsL rest : List Value} (hlen : ∀ sig, parseMethodDescriptor x.desc = some sig → argsL.length = sig.parameters.length)
    (hstack : g.stack = argsL.reverse ++ .ref b :: rest) (hW : 2 * g.monitorRoom + (rest.map fun v => v.category).sum ≤ W9) (hdg : decode c.code g.pc = .ok (.invokevirtual index, 3))
    (hpre : ∀ vm₁, s.WarmedH vm₁ → Pre ⟨T.setVm vm₁, locs, cells, slots⟩ (Value.ref b :: argsL).toArray) :
    (∃ (v : Option Value) (vm₁ : Vm) (B : Pt), s.WarmedH vm₁ ∧ Stand p l e R s m args below meth c B.U B.locs B.cells B.slots ∧ Post ⟨T.setVm vm₁, locs, cells, slots⟩ (Value.ref b :: argsL).toArray v B ∧
      ∀ target, Steps p.tables e below (B.U.setTop { g with pc := g.pc + 3, stack := v.toList ++ rest }) target → Steps p.tables e below (T.setTop g) target) ∨
    (∃ (q : Addr) (vm₁ : Vm) (B : Pt), s.WarmedH vm₁ ∧ Stand p l e R s m args below meth c B.U B.locs B.cells B.slots ∧ PostX ⟨T.setVm vm₁, locs, cells, slots⟩ (Value.ref b :: argsL).toArray q B ∧
      Steps p.tables e below (T.setTop g) ((B.U.setTop { g with stack := rest }).pushFrame (.throwing q))) := by
  obtain ⟨r0, r, hn, hrm, hstR, hsigR⟩ := hd0
  obtain ⟨cn, ck, r1, hcn, hck, hni, hf, hn1⟩ := Cond.sameMethod_found hsame
  cases hn.symm.trans hn1
  obtain ⟨mk, methM, hnamed, hmethM, -, habM⟩ := Cond.instanceMethod_spec hinst
  obtain ⟨c2, r2, m2, q1, q2, q3, q4, kP, hkP, hkPi⟩ := Cond.selects_spec hsel
  cases hcls.symm.trans q1
  cases hf.symm.trans q2
  cases hnamed.symm.trans q3
  have hselP : selectMethod e.platform s.vm cellB.cls r0 = .method mk := by rw [Launch.admits_selectMethod X.admits]; exact q4
  obtain ⟨vm₁, X₁, hstep₁⟩ := X.invokevirtualUp hexec hown hlink hsame howner hn hrm hstR (a := b) (cell := cellB) hcell
    (fun z h => by rw [h] at hobj; cases hobj) hselP hmethM habM hkP hkPi (g := g) hg (argsL := argsL) (rest := rest) (hlen _ hsigR) hstack hdg
  rcases hK m meth c ⟨T.setVm vm₁, locs, cells, slots⟩ { g with stack := rest } (.invokevirtual index) mk (Value.ref b :: argsL).toArray X₁ hg hsize hdg hW (X₁.named hnamed) (hpre vm₁ X₁.warmed) with ⟨v, B, X', hpost, hsteps⟩ | ⟨q, B, X', hpost, hsteps⟩
  · exact Or.inl ⟨v, vm₁, B, X₁.warmed, X', hpost, fun target h => hstep₁ _ fun acts => by rw [doInvoke_state]; exact hsteps.trans h⟩
  · exact Or.inr ⟨q, vm₁, B, X₁.warmed, X', hpost, hstep₁ _ fun acts => by rw [doInvoke_state]; exact hsteps⟩
theorem vx_runU {x y : MethodName} {bytes cc : ByteArray} {maxL nL mc ms n index cells slots : Nat} {H : Heap} {locs : List Loc} {ret : Option FieldType} {ws : List Cond} {rm : Room} {Pc : Array Value → State → Prop} {Qc : Array Value → State → Outcome → State → Prop} {XC : String → State → State → Prop} {free : Addr → Prop} {Ts : List Cond} {own C owner : String} {b : Addr} {As rest : List Value} {g : JFrame}
    (S : CallFix p m c cc nL s args Ts own) (hM : vx_Met l y ws rm Pc Qc XC mc ms free) (cw : va_CU R s args own C owner index x y bytes maxL ret ws rm mc ms n) (hp : PreV s H C b Pc As)
    (hg : g.method = m) (hn : As.length = n) (hsize : g.locals.size = nL) (hstack : g.stack = As.reverse ++ .ref b :: rest) (hW : 2 * g.monitorRoom + (rest.map fun v => v.category).sum ≤ 8) (hdg : decode cc g.pc = .ok (.invokevirtual index, 3)) (hf : cells + mc ≤ R.cells ∧ slots + ms ≤ R.slots) :
    vx_Run p l e R s m args below meth c H locs cells slots mc ms g rest (Qc (Value.ref b :: As).toArray) XC free := by
  obtain ⟨hrc, hrs, hfr, hlo, hws, hcw⟩ := cw.back
  have hini := cw.init
  have hK : vx_Back l R p e below s args y 3 8 (PreOf R mc ms Pc) (PostOf Qc mc ms free) (vx_Post XC mc ms free) := vx_back (bytes := bytes) (maxL := maxL) (ret := ret) hM hp.1 hrc hrs hfr hlo hws hcw (fun a' U hW => word_at hW (Or.inl (by first | rfl | simp [Cond.onTables, Cond.keeps, Cond.steady])) hini)
  obtain ⟨hx, hb, hml, ho, -⟩ := S
  obtain ⟨-, ⟨cellB, hcB, hoB, hclB⟩, hPc⟩ := hp
  intro T hT X
  rcases vx_callVU X hx (C := C) (owner := owner) (bytes := bytes) (maxL := maxL) (ret := ret) ho cw.link cw.same cw.decl cw.notMH cw.sel cw.inst cw.code hK (by rw [hT]; exact hcB) hoB hclB hg (hsize.trans hml.symm) (argsL := As) (rest := rest) (fun sig h => hn.trans (cw.len sig h)) hstack hW (by rw [hb]; exact hdg)
    (fun vm₁ hW₁ => ⟨hf.1, hf.2, hPc (T.setVm vm₁) hT hW₁⟩) with ⟨v, vm₁, ⟨U', l2, c2, s2⟩, hW₁, X', ⟨g', mk, t, L, e1, e2, hq, h1, hL, h2, h3⟩, st⟩ | ⟨q, vm₁, ⟨U', l2, c2, s2⟩, hW₁, X', ⟨g', mk, t, L, E, ce, e1, e2, hq, hce, hcv, hcl, h1, hL, h2, h3⟩, st⟩
  · dsimp only [Pt.U, Pt.locs, Pt.cells, Pt.slots] at X' e1 e2 h1 h2 h3 st
    subst h1; subst h2; subst h3
    exact Or.inl ⟨v, (T.setVm vm₁).calling g' mk (Value.ref b :: As).toArray, t, U', L, hT, X', hL, e1, e2, hq, st⟩
  · dsimp only [Pt.U, Pt.locs, Pt.cells, Pt.slots] at X' e1 e2 h1 h2 h3 st hcl
    subst h1; subst h2; subst h3
    exact Or.inr ⟨q, (T.setVm vm₁).calling g' mk (Value.ref b :: As).toArray, t, U', L, E, ce, hT, X', hL, e1, e2, hq, hce, hcv, vx_cls hW₁ hcl, st⟩
theorem zPSx {H : Heap} {locs : List Loc} {As : List Value} (C : zX p s m args meth c cc nL own rt E) (hT : TX (zA E s.heap.size) s) (h2 : zP E σ H) (h3 : va_S (zA E s.heap.size) s.heap H locs) : PreS s H (va_Pc As (zPreX E σ H.size)) As :=
  ⟨zPreX_blind, fun U hU hW => ⟨rfl, ⟨by rw [hU], by rw [hU]; exact h2, va_K.moved hW.alike C.2.1, C.2.2.1⟩, hT.move hW (fun a h4 h5 => by rw [hU]; exact h3.2.1 a h4 h5) (zfree h3)⟩⟩
theorem zPVx {H : Heap} {locs : List Loc} {As : List Value} {q i ci : Nat} {fs : List Value} {w9 : vw_C} (C : zX p s m args meth c cc nL own rt E) (hT : TX (zA E s.heap.size) s) (h2 : zP E σ H) (h3 : va_S (zA E s.heap.size) s.heap H locs) (hc : (q, i) ∈ zL) (hct : zct E q i (σ q i) = .inr (ci, fs)) (hcl : vwCl[ci]? = some w9) : PreV s H w9.1 (E.2.2 q i) (va_Pc (.ref (E.2.2 q i) :: As) (zPreX E σ H.size)) As := by
  obtain ⟨k, -, hk⟩ := zws_get E σ hc
  rw [hct] at hk
  exact ⟨zPreX_blind, va_recv C.2.1 h2 hcl hk, fun U hU hW => ⟨rfl, ⟨by rw [hU], by rw [hU]; exact h2, va_K.moved hW.alike C.2.1, C.2.2.1⟩, hT.move hW (fun a h4 h5 => by rw [hU]; exact h3.2.1 a h4 h5) (zfree h3)⟩⟩
/-- the world of a throw -/
abbrev zXC (E : zE) (cls : String) (σ : zMem) (sz : Nat) : String → State → State → Prop := vx_X (fun u : zMem => u = σ) (fun E9 u t => E9 = cls ∧ zPost E u t) (zA E sz)
theorem zXC_of {E : zE} {σ : zMem} {cls : String} {H : Heap} {locs : List Loc} (C : zX p s m args meth c cc nL own rt E) (h2 : zP E σ H) (h3 : va_S (zA E s.heap.size) s.heap H locs) (t : State) (hvm : s.vm.Alike t.vm) (hz : H.size ≤ t.heap.size) (hq : ∀ q : Nat, q < H.size → t.heap[q]? = H[q]?) : zXC E cls σ s.heap.size cls s t := by
  refine ⟨σ, rfl, ⟨rfl, va_P.kept h2 (fun k q hk => hq _ (vx_lt h2 hk)), va_K.moved hvm C.2.1⟩, ?_, fun q h4 h5 => ?_⟩
  · exact Nat.le_trans h3.1 hz
  · rw [hq q (Nat.lt_of_lt_of_le h4 h3.1)]
    exact h3.2.1 q h4 h5
end ZT
