/-! the builder: cells in the order in which they are made, at addresses counted from b -/
def off (q i : Nat) : Nat := match q with
  | 0 => 0
  | 1 => 1
  | 2 => 16 + i
  | 3 => 2
  | 4 => 20 + i
  | 5 => 3
  | 6 => 44 + i
  | 7 => 4
  | 8 => 54 + 3 * i
  | 9 => 55 + 3 * i
  | 10 => 56 + 3 * i
  | 11 => 5
  | 12 => 6
  | 13 => 7
  | 14 => 8
  | 15 => 9
  | 16 => 10
  | 17 => 11
  | 18 => 12
  | 19 => 13
  | 20 => 14
  | 21 => 15
  | n => 56 + n
abbrev bE : Type := va_G × (Nat → ClassId) × Nat
abbrev bM : Type := Nat × (Nat → Nat → va_E)
def zof (E : bE) : zE := (E.1, E.2.1, fun q i => E.2.2 + off q i)
abbrev bad (E : bE) (q i : Nat) : Nat := E.2.2 + off q i
theorem off_inj : ∀ q ∈ zL, ∀ q' ∈ zL, off q.1 q.2 = off q'.1 q'.2 → q = q' := by decide +kernel
theorem off_lt : ∀ q ∈ zL, off q.1 q.2 < 112 := by decide +kernel
def bL (n : Nat) : List (Nat × Nat) := zL.filter (fun q => decide (off q.1 q.2 < n))
theorem bL_mem {n q i : Nat} (h : (q, i) ∈ zL) (h2 : off q i < n) : (q, i) ∈ bL n := List.mem_filter.mpr ⟨h, by simpa using h2⟩
theorem bL_nd (n : Nat) : (bL n).Nodup := zL_nd.filter _
def bws (E : bE) (τ : bM) : va_W := (bL τ.1).map (fun q => (bad E q.1 q.2, τ.2 q.1 q.2))
def bP (E : bE) (τ : bM) (H : Heap) : Prop := H.size = E.2.2 + τ.1 ∧ va_P E.1 vwCl (bws E τ) H
def bA (E : bE) : Nat → Prop := fun q => E.2.2 ≤ q
def cu (ct : Nat → Nat → va_E) (q i : Nat) (v : va_E) : Nat → Nat → va_E := fun q' i' => if q' = q ∧ i' = i then v else ct q' i'
theorem cu_s (ct : Nat → Nat → va_E) (q i : Nat) (v : va_E) : cu ct q i v q i = v := by simp [cu]
theorem cu_n (ct : Nat → Nat → va_E) {q i q' i' : Nat} (v : va_E) (h : ¬ (q' = q ∧ i' = i)) : cu ct q i v q' i' = ct q' i' := by
  simp only [cu]
  rw [if_neg h]
theorem cu_cu (ct : Nat → Nat → va_E) (q i : Nat) (v v' : va_E) : cu (cu ct q i v) q i v' = cu ct q i v' := by
  funext a b
  simp only [cu]
  split <;> rfl
theorem cu_id (ct : Nat → Nat → va_E) {q i : Nat} {v : va_E} (h : ct q i = v) : cu ct q i v = ct := by
  funext a b
  simp only [cu]
  split
  · rename_i z
    rw [z.1, z.2, h]
  · rfl
theorem cu_sw (ct : Nat → Nat → va_E) {q i q' i' : Nat} (v v' : va_E) (h : ¬ (q' = q ∧ i' = i)) : cu (cu ct q i v) q' i' v' = cu (cu ct q' i' v') q i v := by
  funext a b
  simp only [cu]
  by_cases h1 : a = q ∧ b = i
  · rw [if_pos h1, if_neg (fun z => h ⟨z.1.symm.trans h1.1, z.2.symm.trans h1.2⟩)]
    simp [h1]
  · rw [if_neg h1]
    by_cases h2 : a = q' ∧ b = i'
    · simp [h2]
      intro z1 z2
      exact absurd ⟨z1, z2⟩ h
    · simp [h2, h1]
theorem bws_get (E : bE) (τ : bM) {q i : Nat} (h : (q, i) ∈ zL) (h2 : off q i < τ.1) : ∃ k : Nat, (bL τ.1)[k]? = some (q, i) ∧ (bws E τ)[k]? = some (bad E q i, τ.2 q i) := by
  obtain ⟨k, hk⟩ := List.getElem?_of_mem (bL_mem h h2)
  exact ⟨k, hk, by rw [bws, List.getElem?_map, hk]; rfl⟩
theorem bws_set (E : bE) (n : Nat) (ct : Nat → Nat → va_E) {q i k : Nat} (v : va_E) (hk : (bL n)[k]? = some (q, i)) : (bws E (n, ct)).set k (bad E q i, v) = bws E (n, cu ct q i v) := by
  have h := zws_setL (fun z (e : va_E) => (bad E z.1 z.2, e)) (bL n) (bL_nd n) ct (cu ct q i v) hk (fun a b h => cu_n ct v h)
  rw [cu_s] at h
  exact h
theorem bD (E : bE) (τ : bM) : va_D (bA E) (bws E τ) := by
  have key : ∀ (k : Nat) (p : Nat × va_E), (bws E τ)[k]? = some p → ∃ a, (bL τ.1)[k]? = some a ∧ p.1 = bad E a.1 a.2 := by
    intro k p hk
    rw [bws, List.getElem?_map] at hk
    cases h : (bL τ.1)[k]? with
    | none => rw [h] at hk; cases hk
    | some a => rw [h] at hk; cases hk; exact ⟨a, rfl, rfl⟩
  refine ⟨fun i j p q hi hj hpq => ?_, fun k q hk => ?_⟩
  · obtain ⟨a, h1, h2⟩ := key i p hi
    obtain ⟨b, h3, h4⟩ := key j q hj
    have e1 : off a.1 a.2 = off b.1 b.2 := by
      have := h2.symm.trans (hpq.trans h4)
      simp only [bad] at this
      omega
    have hab := off_inj a (List.mem_filter.mp (List.mem_of_getElem? h1)).1 b (List.mem_filter.mp (List.mem_of_getElem? h3)).1 e1
    subst hab
    exact (List.getElem?_inj (List.getElem?_eq_some_iff.mp h1).1 (bL_nd τ.1)).mp (h1.trans h3.symm)
  · obtain ⟨a, h1, h2⟩ := key k q hk
    rw [h2]
    exact Nat.le_add_right _ _
theorem bP_get {E : bE} {τ : bM} {H : Heap} (h : bP E τ H) {q i : Nat} (hm : (q, i) ∈ zL) (h2 : off q i < τ.1) : va_at E.1 vwCl (bad E q i, τ.2 q i) H := by
  obtain ⟨k, -, hk⟩ := bws_get E τ hm h2
  exact h.2 k _ hk
theorem bP_of {E : bE} {τ : bM} {H : Heap} (h1 : H.size = E.2.2 + τ.1) (h : ∀ q i : Nat, (q, i) ∈ zL → off q i < τ.1 → va_at E.1 vwCl (bad E q i, τ.2 q i) H) : bP E τ H := by
  refine ⟨h1, fun k p hk => ?_⟩
  rw [bws, List.getElem?_map] at hk
  cases h9 : (bL τ.1)[k]? with
  | none => rw [h9] at hk; cases hk
  | some a =>
    rw [h9] at hk
    cases hk
    have hm := List.mem_filter.mp (List.mem_of_getElem? h9)
    exact h a.1 a.2 hm.1 (by simpa using hm.2)
/-- a cell more -/
theorem bP_push {E : bE} {n : Nat} {ct : Nat → Nat → va_E} {H H1 : Heap} {q i : Nat} {v : va_E} (h : bP E (n, ct) H) (hm : (q, i) ∈ zL) (ho : off q i = n) (z1 : H1.size = H.size + 1) (o1 : ∀ a : Nat, a < H.size → H1[a]? = H[a]?) (hv : va_at E.1 vwCl (H.size, v) H1) : bP E (n + 1, cu ct q i v) H1 := by
  refine bP_of (by rw [z1, h.1]; rfl) (fun q' i' hm' ho' => ?_)
  by_cases he : q' = q ∧ i' = i
  · obtain ⟨rfl, rfl⟩ := he
    show va_at E.1 vwCl (bad E q' i', cu ct q' i' v q' i') H1
    rw [cu_s, show bad E q' i' = H.size by rw [h.1]; show E.2.2 + off q' i' = _; rw [ho]]
    exact hv
  · show va_at E.1 vwCl (bad E q' i', cu ct q i v q' i') H1
    rw [cu_n ct v he]
    have hlt : off q' i' < n := by
      have h3 : off q' i' < n + 1 := ho'
      have h4 : off q' i' ≠ n := fun z => he (by have h5 := off_inj (q', i') hm' (q, i) hm (z.trans ho.symm); exact ⟨congrArg Prod.fst h5, congrArg Prod.snd h5⟩)
      omega
    have h5 := bP_get h hm' hlt
    exact h5.kept (o1 _ h5.lt)
def BK (E : bE) (U : State) : Prop := va_K E.1 vwCl (zTy E.2.1) U ∧ (va_AO RX1 U ∧ va_AO RX5 U ∧ va_AO RX0 U ∧ va_AO RX7 U) ∧ va_Nw (.castable RX9 RX1) U ∧ va_Nw (.castable RX2 RX1) U ∧ va_Nw (.castable RX3 RX1) U
theorem BK.move {E : bE} {s U : State} (h : BK E s) (hW : s.WarmedH U.vm) : BK E U := by
  obtain ⟨h1, ⟨h2, h3, h4, h5⟩, h6, h7, h8⟩ := h
  exact ⟨va_K.moved hW.alike h1, ⟨h2.moved hW.alike, h3.moved hW.alike, h4.moved hW.alike, h5.moved hW.alike⟩, va_Nw.warmC hW h6, va_Nw.warmC hW h7, va_Nw.warmC hW h8⟩
def bX (p : Program) (s : State) (m : MethodId) (args : Array Value) (c : Code) (cc : ByteArray) (nL : Nat) (own : String) (E : bE) : Prop :=
  CallFix p m c cc nL s args zTB own ∧ BK E s ∧ E.2.2 ≤ s.heap.size
def bG (p : Program) (l : Launch) (e : Env) (R : Room) (s : State) (m : MethodId) (args : Array Value) (below : List Frame) (meth : Method) (c : Code) (nL : Nat) (E : bE) (kc ks : Nat) (Q : State → Prop) (τ : bM) (pc : Nat) (lv : List (Nat × Value)) (st : List Value) : Prop :=
  ∀ (ls : Array Slot) (H : Heap) (locs : List Loc), lv_has ls nL lv → bP E τ H → va_S (bA E) s.heap H locs → W p l e R s m args below meth c H locs kc ks Q (F0 m pc ls st)
abbrev bRm (fr mc ms lo : Nat) : Room := { frames := fr, cells := mc, slots := ms, locals := lo }
def bPre (E : bE) (τ : bM) (U : State) : Prop := bP E τ U.heap ∧ BK E U
theorem bPre_blind {E : bE} {τ : bM} {av : List Value} : FrameBlind (va_Pc av (bPre E τ)) := by
  intro a U g mk q
  obtain ⟨q0, q1, q2⟩ := q
  exact ⟨q0, q1, BK.move (s := U) (U := U.calling g mk a) q2 (State.WarmedH.refl U)⟩
/-- a constructor's contract -/
def bC (l : Launch) (y : MethodName) (cc : ByteArray) (nL fr mc ms lo : Nat) (E : bE) (av : List Value) (τ τ' : bM) : Prop :=
  Met l y (Cond.code y cc nL none :: zTB) (bRm fr mc ms lo) (va_Pc av (bPre E τ)) (va_Qv (fun _ : Unit => True) (fun _ t => bP E τ' t.heap) (bA E)) mc ms (bA E)
theorem zobj : Cond.instanceMethod Lib.objectInit ∈ zTB ∧ Cond.code Lib.objectInit ⟨#[0xb1]⟩ 1 none ∈ zTB := ⟨by decide +kernel, by decide +kernel⟩
section BR
variable {p : Program} {l : Launch} {e : Env} {R : Room} {s : State} {m : MethodId} {args : Array Value} {below : List Frame} {meth : Method} {c : Code} {nL kc ks : Nat} {E : bE} {Q : State → Prop} {τ : bM} {pc pc' : Nat} {lv lv' : List (Nat × Value)} {st : List Value} {cc : ByteArray} {own : String} {n : Nat} {ct ct' : Nat → Nat → va_E}
theorem b_iconst (C : bX p s m args c cc nL own E) {n : Int} {v : Int32} (hd : decode cc pc = .ok (.iconst n, 1)) (hv : Int32.ofInt n = v) (hn : pc + 1 = pc') (k9 : bG p l e R s m args below meth c nL E kc ks Q τ pc' lv (.int v :: st)) : bG p l e R s m args below meth c nL E kc ks Q τ pc lv st := by
  intro ls H locs h1 h2 h3
  subst hn
  exact lv_iconst C.1.1 C.1.2.1 hd hv (k9 ls H locs h1 h2 h3)
theorem b_bipush (C : bX p s m args c cc nL own E) {n : Int} {v : Int32} (hd : decode cc pc = .ok (.bipush n, 2)) (hv : (Int8.ofInt n).toInt32 = v) (hn : pc + 2 = pc') (k9 : bG p l e R s m args below meth c nL E kc ks Q τ pc' lv (.int v :: st)) : bG p l e R s m args below meth c nL E kc ks Q τ pc lv st := by
  intro ls H locs h1 h2 h3
  subst hn
  exact lv_bipush C.1.1 C.1.2.1 hd hv (k9 ls H locs h1 h2 h3)
theorem b_sipush (C : bX p s m args c cc nL own E) {n : Int} {v : Int32} (hd : decode cc pc = .ok (.sipush n, 3)) (hv : (Int16.ofInt n).toInt32 = v) (hn : pc + 3 = pc') (k9 : bG p l e R s m args below meth c nL E kc ks Q τ pc' lv (.int v :: st)) : bG p l e R s m args below meth c nL E kc ks Q τ pc lv st := by
  intro ls H locs h1 h2 h3
  subst hn
  exact lv_sipush C.1.1 C.1.2.1 hd hv (k9 ls H locs h1 h2 h3)
theorem b_iload_n (C : bX p s m args c cc nL own E) {i : Fin 4} {i' : Nat} {x : Int32} (hd : decode cc pc = .ok (.iload_n i, 1)) (hi : (i : Nat) = i') (j : Nat) (hl : lv[j]? = some (i', .int x)) (hn : pc + 1 = pc') (k9 : bG p l e R s m args below meth c nL E kc ks Q τ pc' lv (.int x :: st)) : bG p l e R s m args below meth c nL E kc ks Q τ pc lv st := by
  intro ls H locs h1 h2 h3
  subst hn
  exact lv_iload_n C.1.1 C.1.2.1 hd hi (lv_at h1 j hl) (k9 ls H locs h1 h2 h3)
theorem b_aload_n (C : bX p s m args c cc nL own E) {i : Fin 4} {i' : Nat} {x : Nat} (hd : decode cc pc = .ok (.aload_n i, 1)) (hi : (i : Nat) = i') (j : Nat) (hl : lv[j]? = some (i', .ref x)) (hn : pc + 1 = pc') (k9 : bG p l e R s m args below meth c nL E kc ks Q τ pc' lv (.ref x :: st)) : bG p l e R s m args below meth c nL E kc ks Q τ pc lv st := by
  intro ls H locs h1 h2 h3
  subst hn
  exact lv_aload_n C.1.1 C.1.2.1 hd hi (lv_at h1 j hl) (k9 ls H locs h1 h2 h3)
theorem b_istore (C : bX p s m args c cc nL own E) {i : Nat} {x : Int32} (hd : decode cc pc = .ok (.istore i, 2)) (hi : i < nL) (hl : (i, Value.int x) :: lv.filter (fun q => !(q.1 == i) && !(q.1 + 1 == i && q.2.category == 2)) = lv') (hn : pc + 2 = pc') (k9 : bG p l e R s m args below meth c nL E kc ks Q τ pc' lv' st) : bG p l e R s m args below meth c nL E kc ks Q τ pc lv (.int x :: st) := by
  intro ls H locs h1 h2 h3
  subst hn
  exact lv_istore C.1.1 C.1.2.1 hd h1 hi hl (fun ls h1 => k9 ls H locs h1 h2 h3)
theorem b_istore_n (C : bX p s m args c cc nL own E) {i : Fin 4} {i' : Nat} {x : Int32} (hd : decode cc pc = .ok (.istore_n i, 1)) (hii : (i : Nat) = i') (hi : i' < nL) (hl : (i', Value.int x) :: lv.filter (fun q => !(q.1 == i') && !(q.1 + 1 == i' && q.2.category == 2)) = lv') (hn : pc + 1 = pc') (k9 : bG p l e R s m args below meth c nL E kc ks Q τ pc' lv' st) : bG p l e R s m args below meth c nL E kc ks Q τ pc lv (.int x :: st) := by
  intro ls H locs h1 h2 h3
  subst hn
  exact lv_istore_n C.1.1 C.1.2.1 hd hii h1 hi hl (fun ls h1 => k9 ls H locs h1 h2 h3)
theorem b_astore_n (C : bX p s m args c cc nL own E) {i : Fin 4} {i' : Nat} {x : Nat} (hd : decode cc pc = .ok (.astore_n i, 1)) (hii : (i : Nat) = i') (hi : i' < nL) (hl : (i', Value.ref x) :: lv.filter (fun q => !(q.1 == i') && !(q.1 + 1 == i' && q.2.category == 2)) = lv') (hn : pc + 1 = pc') (k9 : bG p l e R s m args below meth c nL E kc ks Q τ pc' lv' st) : bG p l e R s m args below meth c nL E kc ks Q τ pc lv (.ref x :: st) := by
  intro ls H locs h1 h2 h3
  subst hn
  exact lv_astore_n C.1.1 C.1.2.1 hd hii h1 hi hl (fun ls h1 => k9 ls H locs h1 h2 h3)
theorem b_iinc (C : bX p s m args c cc nL own E) {i j : Nat} {n : Int} {x v : Int32} (hd : decode cc pc = .ok (.iinc i n, 3)) (hj : lv[j]? = some (i, .int x)) (hv : x + Int32.ofInt n = v) (hi : i < nL) (hl : (i, Value.int v) :: lv.filter (fun q => !(q.1 == i) && !(q.1 + 1 == i && q.2.category == 2)) = lv') (hn : pc + 3 = pc') (k9 : bG p l e R s m args below meth c nL E kc ks Q τ pc' lv' st) : bG p l e R s m args below meth c nL E kc ks Q τ pc lv st := by
  intro ls H locs h1 h2 h3
  subst hn
  exact lv_iinc C.1.1 C.1.2.1 hd h1 hj hv hi hl (fun ls h1 => k9 ls H locs h1 h2 h3)
theorem b_dup (C : bX p s m args c cc nL own E) {va : Value} (hd : decode cc pc = .ok (.dup, 1)) (hc : va.category = 1) (hn : pc + 1 = pc') (k9 : bG p l e R s m args below meth c nL E kc ks Q τ pc' lv (va :: va :: st)) : bG p l e R s m args below meth c nL E kc ks Q τ pc lv (va :: st) := by
  intro ls H locs h1 h2 h3
  subst hn
  exact lv_dup C.1.1 C.1.2.1 hd hc (k9 ls H locs h1 h2 h3)
theorem b_icmp_ge (C : bX p s m args c cc nL own E) {x y : Int32} {off : Int} {tgt : Nat} (hd : decode cc pc = .ok (.if_icmp .ge off, 3)) (ht : (pc : Int) + off = (tgt : Int)) (hn : pc + 3 = pc') (kt : y ≤ x → bG p l e R s m args below meth c nL E kc ks Q τ tgt lv st) (kf : ¬ y ≤ x → bG p l e R s m args below meth c nL E kc ks Q τ pc' lv st) : bG p l e R s m args below meth c nL E kc ks Q τ pc lv (.int y :: .int x :: st) := by
  intro ls H locs h1 h2 h3
  subst hn
  exact lv_icmp_ge C.1.1 C.1.2.1 hd ht (fun h => kt h ls H locs h1 h2 h3) (fun h => kf h ls H locs h1 h2 h3)
theorem b_goto (C : bX p s m args c cc nL own E) {off : Int} {tgt : Nat} (hd : decode cc pc = .ok (.goto off, 3)) (ht : (pc : Int) + off = (tgt : Int)) (k9 : bG p l e R s m args below meth c nL E kc ks Q τ tgt lv st) : bG p l e R s m args below meth c nL E kc ks Q τ pc lv st := by
  intro ls H locs h1 h2 h3
  exact lv_goto C.1.1 C.1.2.1 hd ht (k9 ls H locs h1 h2 h3)
theorem b_sub (ks9 : List Nat) (hl : lv_pick lv ks9 = lv') (k9 : bG p l e R s m args below meth c nL E kc ks Q τ pc lv' st) : bG p l e R s m args below meth c nL E kc ks Q τ pc lv st := fun ls H locs h1 h2 h3 => k9 ls H locs (lv_sub h1 ks9 hl) h2 h3
theorem b_wide {kc' ks' : Nat} (h1 : kc ≤ kc') (h2 : ks ≤ ks') (k9 : bG p l e R s m args below meth c nL E kc' ks' Q τ pc lv st) : bG p l e R s m args below meth c nL E kc ks Q τ pc lv st := fun ls H locs a1 a2 a3 => W.widen h1 h2 (k9 ls H locs a1 a2 a3)
theorem b_objInit (C : bX p s m args c cc nL own E) {idx : Nat} {a : Nat} (hw : Cond.methodLink own idx Lib.objectInit ∈ zTB) (hf : 1 ≤ R.frames) (hl : (st.map fun v => v.category).sum + 12 ≤ R.locals) (hd : decode cc pc = .ok (.invokespecial idx, 3)) (hn : pc + 3 = pc') (k9 : bG p l e R s m args below meth c nL E kc ks Q τ pc' lv st) : bG p l e R s m args below meth c nL E kc ks Q τ pc lv (.ref a :: st) := by
  intro ls H locs h1 h2 h3
  subst hn
  exact W.objInit C.1.1 C.1.2.1 C.1.2.2.2.1 (C.1.2.2.2.2 _ hw) (C.1.2.2.2.2 _ zobj.1) (C.1.2.2.2.2 _ zobj.2) (g := F0 m pc ls (.ref a :: st)) rfl (h1.1.trans C.1.2.2.1.symm) rfl hd hf (by have e0 : (F0 m pc ls (.ref a :: st)).monitorRoom = 0 := rfl; rw [e0]; omega) (k9 ls H locs h1 h2 h3)
theorem b_new (C : bX p s m args c cc nL own E) {q i ci N index : Nat} {CC : String} {T : u_T} (hin : ∀ w ∈ u_ws CC T N, w ∈ zTB) (ty : Nat → FieldType) (hty : ∀ k, k < N → parseFieldDescriptor (T k).2.2.1 = some (ty k)) (hw : Cond.classLink own index CC ∈ zTB ∧ Cond.instantiable CC N ∈ zTB ∧ Cond.initialized CC ∈ zTB) (hm : (q, i) ∈ zL) (ho : off q i = n) (hcl : vwCl[ci]? = some (CC, T, N)) {fs : List Value} (hfs : ∀ j, j < N → defaultValue (ty j) = vp_V fs j) (hcells : kc + 1 ≤ R.cells) (hslots : ks + N ≤ R.slots) (hd : decode cc pc = .ok (.new index, 3)) (hn : pc + 3 = pc') (he : cu ct q i (.inr (ci, fs)) = ct') (k9 : bG p l e R s m args below meth c nL E (kc + 1) (ks + N) Q (n + 1, ct') pc' lv (.ref (bad E q i) :: st)) : bG p l e R s m args below meth c nL E kc ks Q (n, ct) pc lv st := by
  intro ls H locs h1 h2 h3
  subst hn
  subst he
  have hKn := C.2.1.1.1 ci _ hcl
  refine W.newcK C.1.1 C.1.2.1 C.1.2.2.2.1 (C.1.2.2.2.2 _ hw.1) (C.1.2.2.2.2 _ hw.2.1) (C.1.2.2.2.2 _ hw.2.2) (g := F0 m pc ls st) rfl hd hcells hslots hKn.2.1 rfl (fun H1 kC hkC e1 z1 o1 => ?_)
  have e9 : H.size = bad E q i := by rw [h2.1]; show _ = E.2.2 + off q i; rw [ho]
  have h4 := k9 ls H1 locs h1 (bP_push h2 hm ho z1 o1 ⟨_, hcl, (u_born ty C.1.2.2.2.2 hin hKn hkC e1 hty).to hfs⟩) ⟨Nat.le_trans h3.1 (by omega), fun x a1 a2 => (o1 x (Nat.lt_of_lt_of_le a1 h3.1)).trans (h3.2.1 x a1 a2), h3.2.2⟩
  rw [← e9] at h4
  exact h4
theorem b_newa (C : bX p s m args c cc nL own E) {q i t0 : Nat} {atype : ArrayType} {ty : FieldType} (hw : Cond.arrayClass ty ∈ zTB) (hty : newarray.typeOf atype = ty) (ht : (zTy E.2.1)[t0]? = some (E.2.1 t0, ty)) (hR : ∀ U cA, va_RA U cA ty → U.vm.findClass ("[" ++ ty.toString) = some cA) (hm : (q, i) ∈ zL) (ho : off q i = n) {x : Int32} {N' : Nat} {a0 : vp_A} (ha : ∀ cA : ClassId, vp_cell cA a0 = arrV cA N' (fun _ => defaultValue ty)) (hx : ¬ x < 0) (hN : x.toNatClampNeg = N') (hbytes : N' * componentBytes ty ≤ 536870912) (hcells : kc + 1 ≤ R.cells) (hslots : ks + N' ≤ R.slots) (hd : decode cc pc = .ok (.newarray atype, 2)) (hn : pc + 2 = pc') (he : cu ct q i (.inl (E.2.1 t0, a0)) = ct') (k9 : bG p l e R s m args below meth c nL E (kc + 1) (ks + N') Q (n + 1, ct') pc' lv (.ref (bad E q i) :: st)) : bG p l e R s m args below meth c nL E kc ks Q (n, ct) pc lv (.int x :: st) := by
  intro ls H locs h1 h2 h3
  subst hn
  subst he
  subst hty
  refine va_newaK C.1.1 C.1.2.1 (C.1.2.2.2.2 _ hw) (g := F0 m pc ls (.int x :: st)) rfl hd rfl hx hN hbytes hcells hslots rfl (fun H1 cA e1 z1 o1 hAr hNm => ?_)
  have e8 : cA = E.2.1 t0 := Option.some.inj (hNm.symm.trans (hR _ _ (C.2.1.1.2 t0 _ ht).2))
  subst e8
  have e9 : H.size = bad E q i := by rw [h2.1]; show _ = E.2.2 + off q i; rw [ho]
  have h4 := k9 ls H1 locs h1 (bP_push h2 hm ho z1 o1 (by show H1[H.size]? = some (vp_cell _ _); rw [ha]; exact e1)) ⟨Nat.le_trans h3.1 (by omega), fun x a1 a2 => (o1 x (Nat.lt_of_lt_of_le a1 h3.1)).trans (h3.2.1 x a1 a2), h3.2.2⟩
  rw [← e9] at h4
  exact h4
theorem b_anew (C : bX p s m args c cc nL own E) {q i t0 index : Nat} {CC : String} (hw : Cond.classLink own index CC ∈ zTB) (hao : va_AO CC s) (ht : (zTy E.2.1)[t0]? = some (E.2.1 t0, .object CC)) (hm : (q, i) ∈ zL) (ho : off q i = n) {x : Int32} {N' : Nat} (hx : ¬ x < 0) (hN : x.toNatClampNeg = N') (hbytes : N' * 4 ≤ 536870912) (hcells : kc + 1 ≤ R.cells) (hslots : ks + N' ≤ R.slots) (hd : decode cc pc = .ok (.anewarray index, 3)) (hn : pc + 3 = pc') (he : cu ct q i (.inl (E.2.1 t0, N', .inr (.inr (.inr (.inr (fun _ => none)))))) = ct') (k9 : bG p l e R s m args below meth c nL E (kc + 1) (ks + N') Q (n + 1, ct') pc' lv (.ref (bad E q i) :: st)) : bG p l e R s m args below meth c nL E kc ks Q (n, ct) pc lv (.int x :: st) := by
  intro ls H locs h1 h2 h3
  subst hn
  subst he
  subst hN
  refine W.anew C.1.1 C.1.2.1 C.1.2.2.2.1 (C.1.2.2.2.2 _ hw) (va_AO.use hao) (g := F0 m pc ls (.int x :: st)) rfl hd rfl hx hbytes hcells hslots (fun cA kA comp f1 f2 f3 f4 => ?_)
  have e8 : cA = E.2.1 t0 := by
    obtain ⟨kA', comp', k1, k2, k3, k4⟩ := (C.2.1.1.2 t0 _ ht).2
    exact Option.some.inj (f1.symm.trans k4)
  subst e8
  have e9 : H.size = bad E q i := by rw [h2.1]; show _ = E.2.2 + off q i; rw [ho]
  generalize hH1 : H.push ({ cls := E.2.1 t0, slots := Array.replicate x.toNatClampNeg .null, vm := .none } : Cell) = H1
  have z1 : H1.size = H.size + 1 := by rw [← hH1, Array.size_push]
  have e1 : H1[H.size]? = some (arrV (E.2.1 t0) x.toNatClampNeg (fun _ => .null)) := by rw [← hH1, Array.getElem?_push_size, ← arrV_new]
  have o1 : ∀ q : Nat, q < H.size → H1[q]? = H[q]? := fun q hq => by rw [← hH1, Array.getElem?_push, if_neg (Nat.ne_of_lt hq)]
  have h4 := k9 ls H1 locs h1 (bP_push h2 hm ho z1 o1 (by show H1[H.size]? = some (vp_cell _ _); rw [vp_cell_q]; exact e1)) ⟨Nat.le_trans h3.1 (by omega), fun x a1 a2 => (o1 x (Nat.lt_of_lt_of_le a1 h3.1)).trans (h3.2.1 x a1 a2), h3.2.2⟩
  rw [← e9] at h4
  exact h4
theorem bP_upd {H1 H : Heap} {q i : Nat} {v : va_E} (h2 : bP E (n, ct) H) (hm : (q, i) ∈ zL) (hz : H1.size = H.size) (o1 : ∀ a : Nat, a ≠ bad E q i → H1[a]? = H[a]?) (hv : va_at E.1 vwCl (bad E q i, v) H1) : bP E (n, cu ct q i v) H1 := by
  refine bP_of (by rw [hz]; exact h2.1) (fun q' i' hm' ho' => ?_)
  by_cases he : q' = q ∧ i' = i
  · obtain ⟨rfl, rfl⟩ := he
    show va_at E.1 vwCl (bad E q' i', cu ct q' i' v q' i') H1
    rw [cu_s]
    exact hv
  · show va_at E.1 vwCl (bad E q' i', cu ct q i v q' i') H1
    rw [cu_n ct v he]
    refine (bP_get h2 hm' ho').kept (o1 _ (fun z => he ?_))
    have e1 : off q' i' = off q i := Nat.add_left_cancel z
    have h5 := off_inj (q', i') hm' (q, i) hm e1
    exact ⟨congrArg Prod.fst h5, congrArg Prod.snd h5⟩
theorem b_put (C : bX p s m args c cc nL own E) {q i ci N index : Nat} {CC : String} {T : u_T} (hm : (q, i) ∈ zL) (ho : off q i < n) {fs : List Value} (hct : ct q i = .inr (ci, fs)) (hcl : vwCl[ci]? = some (CC, T, N)) (hin : ∀ w ∈ u_ws CC T N, w ∈ zTB) (ty0 : Nat → FieldType) (hty : ∀ k, k < N → parseFieldDescriptor (T k).2.2.1 = some (ty0 k)) (hnm : ∀ a, a < N → ∀ b, b < N → a ≠ b → (T a).2.1 ≠ (T b).2.1) (k : Nat) (hk : k < N) (hlink : Cond.fieldLink own index (T k).1 (T k).2.1 (T k).2.2.1 ∈ zTB) (hfin : (T k).2.2.2 = false) {v : Value} (hnar : narrow (ty0 k) v = v) (hfit : fits (ty0 k) v = true) (hl : k < fs.length) (hd : decode cc pc = .ok (.putfield index, 3)) (hn : pc + 3 = pc') (he : cu ct q i (.inr (ci, fs.set k v)) = ct') (k9 : bG p l e R s m args below meth c nL E kc ks Q (n, ct') pc' lv st) : bG p l e R s m args below meth c nL E kc ks Q (n, ct) pc lv (v :: .ref (bad E q i) :: st) := by
  intro ls H locs h1 h2 h3
  subst hn
  subst he
  have hts := C.1.2.2.2.2
  have hap := va_apart (own := own) hts hin ty0 hty hnm C.2.1.1 hcl
  have hg := bP_get h2 hm ho
  rw [show (n, ct).2 q i = .inr (ci, fs) from hct] at hg
  obtain ⟨r, h8, cell, q1, q2, q3, q4⟩ := hg
  have hr : r = (CC, T, N) := Option.some.inj (h8.symm.trans hcl)
  subst hr
  obtain ⟨hS, hfc, kC, hkC, hkind⟩ := C.2.1.1.1 ci _ hcl
  obtain ⟨cf, kf, fi, f, hi, hsl⟩ := hS k hk
  have hlay := hts _ (hin _ (u_in_lay hk))
  unfold u_lay at hlay
  rw [if_neg (by rw [hfin]; decide)] at hlay
  have hst := (u_facts hfc hkC (u_lays hts hin hk) hi).1
  have h6 := u_store hfc hkC hkind hlay hi (hty k hk) hnar hfit
  refine W.putK C.1.1 C.1.2.1 (f := f) ⟨C.1.2.2.2.1, hts _ hlink, ⟨_, _, _, hi⟩, hst⟩ (by rw [q2]; exact h6) q1 q3 (by rw [hsl]; exact k2_hasslot (q4 k hk)) rfl rfl hd (fun H' e1 e2 e3 => ?_)
  rw [hsl] at e1 ⊢
  exact k9 ls H' _ h1 (bP_upd h2 hm e2 e3 ⟨_, hcl, t_OB.to (V := updV (vp_V fs) k v) ⟨_, e1, q2, q3, t_set q4 hap hk v⟩ (fun j _ => vp_updV_set hl v j)⟩) (h3.put e2 e3 (Nat.le_add_right _ _))
theorem b_putF (C : bX p s m args c cc nL own E) (hin2 : meth.name = "<init>") {q i ci N index : Nat} {T : u_T} (hm : (q, i) ∈ zL) (ho : off q i < n) {fs : List Value} (hct : ct q i = .inr (ci, fs)) (hcl : vwCl[ci]? = some (own, T, N)) (hin : ∀ w ∈ u_ws own T N, w ∈ zTB) (ty0 : Nat → FieldType) (hty : ∀ k, k < N → parseFieldDescriptor (T k).2.2.1 = some (ty0 k)) (hnm : ∀ a, a < N → ∀ b, b < N → a ≠ b → (T a).2.1 ≠ (T b).2.1) (k : Nat) (hk : k < N) (hlink : Cond.fieldLink own index (T k).1 (T k).2.1 (T k).2.2.1 ∈ zTB) (hfin : (T k).2.2.2 = true) (hdecl : (T k).1 = own) {v : Value} (hnar : narrow (ty0 k) v = v) (hfit : fits (ty0 k) v = true) (hl : k < fs.length) (hd : decode cc pc = .ok (.putfield index, 3)) (hn : pc + 3 = pc') (he : cu ct q i (.inr (ci, fs.set k v)) = ct') (k9 : bG p l e R s m args below meth c nL E kc ks Q (n, ct') pc' lv st) : bG p l e R s m args below meth c nL E kc ks Q (n, ct) pc lv (v :: .ref (bad E q i) :: st) := by
  intro ls H locs h1 h2 h3
  subst hn
  subst he
  have hts := C.1.2.2.2.2
  have hap := va_apart (own := own) hts hin ty0 hty hnm C.2.1.1 hcl
  have hg := bP_get h2 hm ho
  rw [show (n, ct).2 q i = .inr (ci, fs) from hct] at hg
  obtain ⟨r, h8, cell, q1, q2, q3, q4⟩ := hg
  have hr : r = (own, T, N) := Option.some.inj (h8.symm.trans hcl)
  subst hr
  obtain ⟨hS, hfc, kC, hkC, hkind⟩ := C.2.1.1.1 ci _ hcl
  obtain ⟨cf, kf, fi, f, hi, hsl⟩ := hS k hk
  have hlay := hts _ (hin _ (u_in_lay hk))
  unfold u_lay at hlay
  rw [if_pos hfin] at hlay
  have hst := (u_facts hfc hkC (u_lays hts hin hk) hi).1
  have hcf : m.cls = cf := by
    obtain ⟨_, _, c', _, _, _, -, -, hf', -, -, -, hown2, -⟩ := Cond.laysFinal_spec hlay
    have e1 : c' = cf := by have := hi.symm.trans hf'; simp at this; exact this.1.symm
    rw [hdecl] at hown2
    rw [← e1]; exact Option.some.inj (C.1.2.2.2.1.symm.trans hown2)
  have h6 := u_fits hfc hkC hkind (Or.inr hlay) hi (hty k hk) hnar hfit
  refine W.putFinK C.1.1 C.1.2.1 C.1.2.2.2.1 (hts _ hlink) hi hst hcf hin2 (by rw [q2]; exact h6) q1 q3 (by rw [hsl]; exact k2_hasslot (q4 k hk)) rfl rfl hd (fun H' e1 e2 e3 => ?_)
  rw [hsl] at e1 ⊢
  exact k9 ls H' _ h1 (bP_upd h2 hm e2 e3 ⟨_, hcl, t_OB.to (V := updV (vp_V fs) k v) ⟨_, e1, q2, q3, t_set q4 hap hk v⟩ (fun j _ => vp_updV_set hl v j)⟩) (h3.put e2 e3 (Nat.le_add_right _ _))
theorem b_aast (C : bX p s m args c cc nL own E) {q i t0 N' q2 i2 ci : Nat} {r : vw_C} {CC : String} {vs : List Value} {f : Nat → Option Nat} {x : Int32} (hm : (q, i) ∈ zL) (ho : off q i < n) (hct : ct q i = .inl (E.2.1 t0, N', .inr (.inr (.inr (.inr f))))) (ht : (zTy E.2.1)[t0]? = some (E.2.1 t0, .object CC)) (hm2 : (q2, i2) ∈ zL) (ho2 : off q2 i2 < n) (hct2 : ct q2 i2 = .inr (ci, vs)) (hc : vwCl[ci]? = some r) (hasg : r.1 = CC ∨ va_Nw (.castable r.1 CC) s) (hin : vp_in x N') (hd : decode cc pc = .ok (.aastore, 1)) (hn : pc + 1 = pc') (he : cu ct q i (.inl (E.2.1 t0, N', .inr (.inr (.inr (.inr (va_up f x.toNatClampNeg (some (bad E q2 i2)))))))) = ct') (k9 : bG p l e R s m args below meth c nL E kc ks Q (n, ct') pc' lv st) : bG p l e R s m args below meth c nL E kc ks Q (n, ct) pc lv (.ref (bad E q2 i2) :: .int x :: .ref (bad E q i) :: st) := by
  intro ls H locs h1 h2 h3
  subst hn
  subst he
  have hlt : x.toNatClampNeg < N' := Nat.not_le.mp fun q => hin (Or.inr q)
  have h0 : ¬ x < 0 := fun q => hin (Or.inl q)
  have ha := bP_get h2 hm ho
  rw [show (n, ct).2 q i = _ from hct] at ha
  have hb := bP_get h2 hm2 ho2
  rw [show (n, ct).2 q2 i2 = .inr (ci, vs) from hct2] at hb
  obtain ⟨r', hr', cellV, g1, g2, g3, -⟩ := hb
  have hcls := (C.2.1.1.1 ci r hc).2
  obtain ⟨kA, comp, k1, k2, k3, -⟩ := (C.2.1.1.2 t0 _ ht).2
  obtain ⟨kE, hkE, -⟩ := Vm.findClass_spec k3
  obtain ⟨kC, hkC, hkind⟩ := hcls.2
  have hass : s.vm.assignable (E.1.1 ci) comp = true := by
    rcases hasg with h | h
    · rw [← h] at k3
      cases hcls.1.symm.trans k3
      exact va_assign hcls
    · obtain ⟨c0, t1, f1, f2, f3⟩ := Cond.castable_spec (va_Nw.use (A := args) rfl h)
      cases hcls.1.symm.trans f1
      cases k3.symm.trans f2
      exact f3
  refine W.aast C.1.1 C.1.2.1 ha (fun q h => by cases h) (fun h => by cases h) k1 k2 rfl hkE ⟨h0, by show _ < (arrV _ _ _).slots.size; rw [arrV_size]; exact hlt⟩ g1 (fun q h => by rw [g3] at h; cases h) (by rw [g2]; exact hkC) (by rw [g2]; exact hass) rfl rfl hd (fun H1 e1 z oq => ?_)
  refine k9 ls H1 _ h1 (bP_upd h2 hm z oq ?_) (h3.put z oq (Nat.le_add_right _ _))
  show H1[bad E q i]? = some (vp_cell _ _)
  rw [e1]
  rw [vp_cell_q, vp_cell_q, arrV_store]
  congr 2
  funext j
  by_cases hq : j = x.toNatClampNeg
  · subst hq
    simp [updV, va_up, va_rf]
  · simp [updV, va_up, hq]
theorem b_callI (C : bX p s m args c cc nL own E) {y : MethodName} {cc' : ByteArray} {nL' fr mc ms lo index N a : Nat} {As st0 : List Value} {τ' : bM} (hM : bC l y cc' nL' fr mc ms lo E (.ref a :: As) τ τ') (hw : zWs own index y cc' nL' none N) (hy : y.name = "<init>" ∧ Cond.instanceMethod y ∈ zTB) (hR : fr + 1 ≤ R.frames ∧ 8 + (nL' + 11) + lo ≤ R.locals) (hkc : kc + mc ≤ R.cells ∧ ks + ms ≤ R.slots) (hN : As.length = N) (hst : st0 = As.reverse ++ .ref a :: st) (hW : (st.map fun v => v.category).sum ≤ 8) (hd : decode cc pc = .ok (.invokespecial index, 3)) (hn : pc + 3 = pc') (k9 : bG p l e R s m args below meth c nL E (kc + mc) (ks + ms) Q τ' pc' lv st) : bG p l e R s m args below meth c nL E kc ks Q τ pc lv st0 := by
  intro ls H locs h1 h2 h3
  subst hn
  subst hst
  refine va_callv (va_runI (b := a) (As := As) (rest := st) C.1 hM ⟨callB_of N C.1.2.2.2.2 (zGood hw.1) rfl rfl rfl (C.1.2.2.2.2 _ hw.2.2.1) (C.1.2.2.2.2 _ hw.2.1) hw.2.2.2 hR, hy.1, C.1.2.2.2.2 _ hy.2⟩ ⟨bPre_blind, fun U hU hW => ⟨rfl, by rw [hU]; exact h2, C.2.1.move hW⟩⟩ rfl hN h1.1 rfl (lv_room hW) hd hkc) h3 (fun q _ h => h) (fun q h => h) (fun u t H1 locs1 ht hvm hq hB hz hk1 hS => ?_)
  exact k9 ls H1 locs1 h1 (by rw [← ht]; exact hB) hS
theorem b_vret {mc ms : Nat} (C : bX p s m args c cc nL own E) (hrt : meth.sig.returnType = none) (hlocks : meth.locks = false) (h5 : kc ≤ mc) (h6 : ks ≤ ms) (hd : decode cc pc = .ok (.return_, 1)) : bG p l e R s m args below meth c nL E kc ks (MQ below (va_Qv (fun _ : Unit => True) (fun _ t => bP E τ t.heap) (bA E)) args s mc ms (bA E)) τ pc lv [] := by
  intro ls H locs h1 h2 h3
  exact W.widen h5 h6 (W.vret C.1.1 C.1.2.1 hrt (fun t ht hW => ⟨⟨(), rfl, trivial, by show bP E τ t.heap; rw [ht]; exact h2⟩, h3.F ht⟩) h3.2.2 hd)
theorem bC_of {y : MethodName} {cc : ByteArray} {nL fr mc ms lo : Nat} {E : bE} {av : List Value} {τ τ' : bM} (hy : plainName y.cls = true) (hyn : y.name = "<init>") (hlen : (lg_sl av).length ≤ nL) (body : ∀ (p : Program) (e : Env) (s : State) (m : MethodId) (args : Array Value) (below : List Frame) (meth : Method) (c : Code), bX p s m args c cc nL y.cls E → meth.sig.returnType = none → meth.locks = false → meth.name = "<init>" → bG p l e (bRm fr mc ms lo) s m args below meth c nL E 0 0 (MQ below (va_Qv (fun _ : Unit => True) (fun _ t => bP E τ' t.heap) (bA E)) args s mc ms (bA E)) τ 0 (lv_args 0 av) []) : bC l y cc nL fr mc ms lo E av τ τ' := by
  refine Met.ofW (cc := cc) (maxL := nL) (ret := none) hy rfl ?_
  intro p e s m args below meth c s₁ B hml hv
  obtain ⟨rfl, hP, hK⟩ := hv
  have hts := atoms_spec (ws := Cond.code y cc nL none :: zTB) B.pre
  have C : bX p s m av.toArray c cc nL y.cls E := ⟨⟨B.exec, B.bytes, hml, findClass_of_methodNamed B.named, fun w hw => hts w (List.mem_cons_of_mem _ hw)⟩, hK, by rw [hP.1]; exact Nat.le_add_right _ _⟩
  have hl := lv_entry av (n := nL) hlen
  rw [lg_entry_eq]
  exact body p e s m _ below meth c C B.returns B.notSynchronized ((name_of_methodNamed B.named B.method).1.trans hyn) _ _ _ hl hP va_S.rf
theorem b_get (C : bX p s m args c cc nL own E) {q i ci N index : Nat} {CC : String} {T : u_T} (hm : (q, i) ∈ zL) (ho : off q i < n) {fs : List Value} (hct : ct q i = .inr (ci, fs)) (hcl : vwCl[ci]? = some (CC, T, N)) (hin : ∀ w ∈ u_ws CC T N, w ∈ zTB) (f : Nat) (hf : f < N) (hlink : Cond.fieldLink own index (T f).1 (T f).2.1 (T f).2.2.1 ∈ zTB) {v : Value} (hv : fs[f]? = some v) (hd : decode cc pc = .ok (.getfield index, 3)) (hn : pc + 3 = pc') (k9 : bG p l e R s m args below meth c nL E kc ks Q (n, ct) pc' lv (v :: st)) : bG p l e R s m args below meth c nL E kc ks Q (n, ct) pc lv (.ref (bad E q i) :: st) := by
  intro ls H locs h1 h2 h3
  subst hn
  obtain ⟨k, hk0, hk⟩ := bws_get E (n, ct) hm ho
  rw [show (n, ct).2 q i = .inr (ci, fs) from hct] at hk
  exact va_get C.1.1 C.1.2.1 C.1.2.2.2.2 hin C.1.2.2.2.1 C.2.1.1 h2.2 k hk hcl f hf (C.1.2.2.2.2 _ hlink) (fun _ h9 => h9) hv hd (k9 ls H locs h1 h2 h3)
theorem b_aald (C : bX p s m args c cc nL own E) {q i t0 N' a : Nat} {CC : String} {f : Nat → Option Nat} {x : Int32} (hm : (q, i) ∈ zL) (ho : off q i < n) (hct : ct q i = .inl (E.2.1 t0, N', .inr (.inr (.inr (.inr f))))) (ht : (zTy E.2.1)[t0]? = some (E.2.1 t0, .object CC)) (hin : vp_in x N') (hf : f x.toNatClampNeg = some a) (hd : decode cc pc = .ok (.aaload, 1)) (hn : pc + 1 = pc') (k9 : bG p l e R s m args below meth c nL E kc ks Q (n, ct) pc' lv (.ref a :: st)) : bG p l e R s m args below meth c nL E kc ks Q (n, ct) pc lv (.int x :: .ref (bad E q i) :: st) := by
  intro ls H locs h1 h2 h3
  subst hn
  obtain ⟨k, hk0, hk⟩ := bws_get E (n, ct) hm ho
  rw [show (n, ct).2 q i = _ from hct] at hk
  have h4 := k9 ls H locs h1 h2 h3
  refine va_aldq C.1.1 C.1.2.1 C.2.1.1 h2.2 k t0 hk ht hin hd ?_
  rw [hf]
  exact h4
end BR
