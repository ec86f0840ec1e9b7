/-! the flat memory: cell (sort, number), place; the world that it describes -/
abbrev zMem : Type := Nat → Nat → Nat → Int32
def um (σ : zMem) (q i j : Nat) (v : Int32) : zMem := fun q' i' j' => if q' = q ∧ i' = i ∧ j' = j then v else σ q' i' j'
theorem um_row (σ : zMem) (q i j : Nat) (v : Int32) : um σ q i j v q i = upd (σ q i) j v := by
  funext k
  simp [um, upd]
theorem um_off (σ : zMem) (q i j : Nat) (v : Int32) {q' i' : Nat} (h : ¬ (q' = q ∧ i' = i)) : um σ q i j v q' i' = σ q' i' := by
  funext k
  simp only [um]
  rw [if_neg]
  exact fun z => h ⟨z.1, z.2.1⟩
abbrev zE : Type := va_G × (Nat → ClassId) × (Nat → Nat → Nat)
def zgc (i : Nat) : Nat := match i with
  | 0 => 1
  | 1 => 9
  | 2 => 2
  | _ => 3
def zct (E : zE) (q i : Nat) (r : Nat → Int32) : va_E := match q with
  | 0 => .inr (10, [.ref (E.2.2 1 0), .ref (E.2.2 3 0), .ref (E.2.2 5 0), .ref (E.2.2 7 0), .ref (E.2.2 11 0), .ref (E.2.2 12 0), .ref (E.2.2 15 0), .ref (E.2.2 18 0), .int (r 8), .int (r 9), .int (r 10), .int (r 11)])
  | 1 => .inl (E.2.1 3, 4, .inr (.inr (.inr (.inr (fun j => some (E.2.2 2 j))))))
  | 2 => .inr (zgc i, [])
  | 3 => .inl (E.2.1 4, 24, .inr (.inr (.inr (.inr (fun j => some (E.2.2 4 j))))))
  | 4 => .inr (5, [.int (r 0), .ref (E.2.2 2 (r 1).toNatClampNeg), .int (r 2), .int (r 3), .int (r 4), .int (r 5)])
  | 5 => .inl (E.2.1 5, 10, .inr (.inr (.inr (.inr (fun j => some (E.2.2 6 j))))))
  | 6 => .inr (0, [.int (r 0), .int (r 1), .int (r 2), .int (r 3), .int (r 4), .int (r 5), .int (r 6)])
  | 7 => .inl (E.2.1 6, 8, .inr (.inr (.inr (.inr (fun j => some (E.2.2 8 j))))))
  | 8 => .inr (7, [.int (r 0), .int (r 1), .ref (E.2.2 2 (r 2).toNatClampNeg), .int (r 3), .ref (E.2.2 9 i), .ref (E.2.2 10 i), .int (r 6)])
  | 9 => .inl (E.2.1 0, 60, .inl r)
  | 10 => .inl (E.2.1 2, 60, .inl r)
  | 11 => .inl (E.2.1 1, 31, .inl r)
  | 12 => .inr (6, [.ref (E.2.2 13 0), .ref (E.2.2 14 0), .int (r 2), .int (r 3), .int (r 4), .int (r 5)])
  | 13 => .inl (E.2.1 0, 10, .inl r)
  | 14 => .inl (E.2.1 1, 10, .inl r)
  | 15 => .inr (8, [.ref (E.2.2 16 0), .ref (E.2.2 17 0)])
  | 16 => .inl (E.2.1 0, 24, .inl r)
  | 17 => .inl (E.2.1 0, 24, .inl r)
  | 18 => .inr (4, [.ref (E.2.2 19 0), .ref (E.2.2 20 0), .ref (E.2.2 21 0)])
  | 19 => .inl (E.2.1 0, 10, .inl r)
  | 20 => .inl (E.2.1 0, 10, .inl r)
  | 21 => .inl (E.2.1 0, 10, .inl r)
  | 22 => .inr (11, [.int (r 0), .ref (E.2.2 23 0), .ref (E.2.2 24 0), .ref (E.2.2 25 0), .ref (E.2.2 26 0), .ref (E.2.2 27 0), .ref (E.2.2 28 0), .ref (E.2.2 29 0), .ref (E.2.2 30 0), .int (r 9), .ref (E.2.2 31 0), .ref (E.2.2 32 0), .ref (E.2.2 33 0), .ref (E.2.2 34 0), .ref (E.2.2 35 0), .ref (E.2.2 36 0), .int (r 16), .ref (E.2.2 37 0), .ref (E.2.2 38 0), .int (r 19), .int (r 20), .int (r 21), .ref (E.2.2 39 0), .ref (E.2.2 40 0), .ref (E.2.2 41 0), .int (r 25), .ref (E.2.2 42 0), .ref (E.2.2 43 0), .ref (E.2.2 44 0), .int (r 29), .ref (E.2.2 45 0), .ref (E.2.2 46 0), .ref (E.2.2 47 0), .ref (E.2.2 48 0), .ref (E.2.2 49 0), .ref (E.2.2 50 0), .ref (E.2.2 51 0), .ref (E.2.2 52 0), .ref (E.2.2 53 0), .ref (E.2.2 54 0)])
  | 23 => .inl (E.2.1 0, 24, .inl r)
  | 24 => .inl (E.2.1 0, 24, .inl r)
  | 25 => .inl (E.2.1 1, 24, .inl r)
  | 26 => .inl (E.2.1 0, 24, .inl r)
  | 27 => .inl (E.2.1 0, 24, .inl r)
  | 28 => .inl (E.2.1 0, 24, .inl r)
  | 29 => .inl (E.2.1 1, 24, .inl r)
  | 30 => .inl (E.2.1 0, 24, .inl r)
  | 31 => .inl (E.2.1 0, 10, .inl r)
  | 32 => .inl (E.2.1 0, 10, .inl r)
  | 33 => .inl (E.2.1 0, 10, .inl r)
  | 34 => .inl (E.2.1 1, 10, .inl r)
  | 35 => .inl (E.2.1 0, 10, .inl r)
  | 36 => .inl (E.2.1 0, 10, .inl r)
  | 37 => .inl (E.2.1 0, 10, .inl r)
  | 38 => .inl (E.2.1 0, 10, .inl r)
  | 39 => .inl (E.2.1 1, 31, .inl r)
  | 40 => .inl (E.2.1 0, 24, .inl r)
  | 41 => .inl (E.2.1 1, 24, .inl r)
  | 42 => .inl (E.2.1 0, 6, .inl r)
  | 43 => .inl (E.2.1 0, 64, .inl r)
  | 44 => .inl (E.2.1 0, 384, .inl r)
  | 45 => .inl (E.2.1 0, 10, .inl r)
  | 46 => .inl (E.2.1 0, 10, .inl r)
  | 47 => .inl (E.2.1 0, 10, .inl r)
  | 48 => .inl (E.2.1 0, 10, .inl r)
  | 49 => .inl (E.2.1 0, 8, .inl r)
  | 50 => .inl (E.2.1 0, 8, .inl r)
  | 51 => .inl (E.2.1 0, 8, .inl r)
  | 52 => .inl (E.2.1 0, 8, .inl r)
  | 53 => .inl (E.2.1 0, 8, .inl r)
  | 54 => .inl (E.2.1 0, 480, .inl r)
  | _ => .inl (E.2.1 7, 1, .inr (.inl (fun j => (r j).toInt64)))
def zcnt (q : Nat) : Nat := match q with
  | 2 => 4
  | 4 => 24
  | 6 => 10
  | 8 => 8
  | 9 => 8
  | 10 => 8
  | _ => 1
def zL : List (Nat × Nat) := (List.range 56).flatMap (fun q => (List.range (zcnt q)).map (fun i => (q, i)))
theorem zL_nd : zL.Nodup := by decide +kernel
theorem zL_mem {q i : Nat} (hq : q < 56) (hi : i < zcnt q) : (q, i) ∈ zL := List.mem_flatMap.mpr ⟨q, List.mem_range.mpr hq, List.mem_map.mpr ⟨i, List.mem_range.mpr hi, rfl⟩⟩
def zws (E : zE) (σ : zMem) : va_W := zL.map (fun q => (E.2.2 q.1 q.2, zct E q.1 q.2 (σ q.1 q.2)))
theorem zws_get (E : zE) (σ : zMem) {q i : Nat} (h : (q, i) ∈ zL) : ∃ k : Nat, zL[k]? = some (q, i) ∧ (zws E σ)[k]? = some (E.2.2 q i, zct E q i (σ q i)) := by
  obtain ⟨k, hk⟩ := List.getElem?_of_mem h
  exact ⟨k, hk, by rw [zws, List.getElem?_map, hk]; rfl⟩
theorem zws_setL {α : Type} (f : Nat × Nat → α → Nat × va_E) (L : List (Nat × Nat)) (hnd : L.Nodup) (σ σ' : Nat → Nat → α) {q i k : Nat} (hk : L[k]? = some (q, i)) (hr : ∀ a b : Nat, ¬ (a = q ∧ b = i) → σ' a b = σ a b) : (L.map (fun z => f z (σ z.1 z.2))).set k (f (q, i) (σ' q i)) = L.map (fun z => f z (σ' z.1 z.2)) := by
  have hl : k < L.length := (List.getElem?_eq_some_iff.mp hk).1
  apply List.ext_getElem?
  intro j
  by_cases hj : k = j
  · subst hj
    rw [List.getElem?_set_self (by rw [List.length_map]; exact hl), List.getElem?_map, hk]
    rfl
  · rw [List.getElem?_set_ne hj, List.getElem?_map, List.getElem?_map]
    cases h : L[j]? with
    | none => rfl
    | some a =>
      have hne : ¬ (a.1 = q ∧ a.2 = i) := by
        intro z
        apply hj
        refine (List.getElem?_inj hl hnd).mp ?_
        rw [hk, h]
        obtain ⟨a1, a2⟩ := a
        obtain ⟨z1, z2⟩ := z
        dsimp only at z1 z2
        rw [z1, z2]
      show some (f a (σ a.1 a.2)) = some (f a (σ' a.1 a.2))
      rw [hr a.1 a.2 hne]
theorem zws_set (E : zE) (σ σ' : zMem) {q i k : Nat} (hk : zL[k]? = some (q, i)) (hr : ∀ a b : Nat, ¬ (a = q ∧ b = i) → σ' a b = σ a b) : (zws E σ).set k (E.2.2 q i, zct E q i (σ' q i)) = zws E σ' := zws_setL (fun z r => (E.2.2 z.1 z.2, zct E z.1 z.2 r)) zL zL_nd σ σ' hk hr
def zP (E : zE) (σ : zMem) (H : Heap) : Prop := va_P E.1 vwCl (zws E σ) H
def zInj (E : zE) : Prop := ∀ q q' : Nat × Nat, q ∈ zL → q' ∈ zL → E.2.2 q.1 q.2 = E.2.2 q'.1 q'.2 → q = q'
def zA (E : zE) (sz : Nat) : Nat → Prop := fun q => (∃ c : Nat × Nat, c ∈ zL ∧ E.2.2 c.1 c.2 = q) ∨ sz ≤ q
theorem zD {E : zE} (h : zInj E) (σ : zMem) (sz : Nat) : va_D (zA E sz) (zws E σ) := by
  have key : ∀ (k : Nat) (p : Nat × va_E), (zws E σ)[k]? = some p → ∃ a, zL[k]? = some a ∧ p.1 = E.2.2 a.1 a.2 := by
    intro k p hk
    rw [zws, List.getElem?_map] at hk
    cases h : zL[k]? with
    | none => rw [h] at hk; cases hk
    | some a => rw [h] at hk; cases hk; exact ⟨a, rfl, rfl⟩
  refine ⟨fun i j p q hi hj hpq => ?_, fun k q hk => ?_⟩
  · obtain ⟨a, h1, h2⟩ := key i p hi
    obtain ⟨b, h3, h4⟩ := key j q hj
    have hab := h a b (List.mem_of_getElem? h1) (List.mem_of_getElem? h3) (h2.symm.trans (hpq.trans h4))
    subst hab
    exact (List.getElem?_inj (List.getElem?_eq_some_iff.mp h1).1 zL_nd).mp (h1.trans h3.symm)
  · obtain ⟨a, h1, h2⟩ := key k q hk
    exact Or.inl ⟨a, List.mem_of_getElem? h1, h2.symm⟩
theorem zA_up {E : zE} {a b q : Nat} (h : zA E b q) (hab : a ≤ b) : zA E a q := h.elim Or.inl (fun z => Or.inr (Nat.le_trans hab z))
def zTy (cy : Nat → ClassId) : List (ClassId × FieldType) := [(cy 0, .int), (cy 1, .boolean), (cy 2, .byte), (cy 3, .object "CandleMeadow$Dry"), (cy 4, .object "CandleMeadow$Plot"), (cy 5, .object "CandleMeadow$Buyer"), (cy 6, .object "CandleMeadow$Shelf"), (cy 7, .long)]
def zK (E : zE) (U : State) : Prop := va_K E.1 vwCl (zTy E.2.1) U
abbrev zTB : List Cond := wsL_law0
theorem zgood0 : zTB.all goodWord = true := by decide +kernel
theorem zgood : ∀ w ∈ zTB, goodWord w = true := List.all_eq_true.mp zgood0
theorem zGood {y : MethodName} {cc : ByteArray} {n : Nat} {rt : Option FieldType} (hc : Cond.code y cc n rt ∈ zTB) : GoodIn zTB (Cond.code y cc n rt :: zTB) := by
  intro w h
  rcases List.mem_cons.mp h with h | h
  · subst h
    exact ⟨hc, good_of_word (zgood _ hc)⟩
  · exact ⟨h, good_of_word (zgood _ h)⟩
def zX (p : Program) (s : State) (m : MethodId) (args : Array Value) (meth : Method) (c : Code) (cc : ByteArray) (nL : Nat) (own : String) (rt : Option FieldType) (E : zE) : Prop :=
  CallFix p m c cc nL s args zTB own ∧ zK E s ∧ zInj E ∧ meth.sig.returnType = rt ∧ meth.locks = false
def zG (p : Program) (l : Launch) (e : Env) (R : Room) (s : State) (m : MethodId) (args : Array Value) (below : List Frame) (meth : Method) (c : Code) (nL : Nat) (E : zE) (kc ks : Nat) (Q : State → Prop) (σ : zMem) (pc : Nat) (lv : List (Nat × Value)) (st : List Value) : Prop :=
  ∀ (ls : Array Slot) (H : Heap) (locs : List Loc), lv_has ls nL lv → zP E σ H → va_S (zA E s.heap.size) s.heap H locs → W p l e R s m args below meth c H locs kc ks Q (F0 m pc ls st)
def zPost (E : zE) (σ : zMem) (t : State) : Prop := zP E σ t.heap ∧ zK E t
abbrev zRm (fr lo : Nat) : Room := { frames := fr, cells := 0, slots := 0, locals := lo }
def zPre (E : zE) (σ : zMem) (sz : Nat) (U : State) : Prop := U.heap.size = sz ∧ zP E σ U.heap ∧ zK E U ∧ zInj E
def zMi (l : Launch) (y : MethodName) (cc : ByteArray) (nL : Nat) (ty : FieldType) (fr lo : Nat) (E : zE) (av : List Value) (σ : zMem) (Q9 : Int32 → zMem → Prop) : Prop :=
  ∀ sz : Nat, Met l y (Cond.code y cc nL (some ty) :: zTB) (zRm fr lo) (va_Pc av (zPre E σ sz)) (va_Qi Q9 (zPost E) (zA E sz)) 0 0 (zA E sz)
def zMl (l : Launch) (y : MethodName) (cc : ByteArray) (nL : Nat) (fr lo : Nat) (E : zE) (av : List Value) (σ : zMem) (Q9 : Int64 → zMem → Prop) : Prop :=
  ∀ sz : Nat, Met l y (Cond.code y cc nL (some .long) :: zTB) (zRm fr lo) (va_Pc av (zPre E σ sz)) (va_Ql Q9 (zPost E) (zA E sz)) 0 0 (zA E sz)
def zMv (l : Launch) (y : MethodName) (cc : ByteArray) (nL : Nat) (fr lo : Nat) (E : zE) (av : List Value) (σ : zMem) (Q9 : zMem → Prop) : Prop :=
  ∀ sz : Nat, Met l y (Cond.code y cc nL none :: zTB) (zRm fr lo) (va_Pc av (zPre E σ sz)) (va_Qv Q9 (zPost E) (zA E sz)) 0 0 (zA E sz)
theorem zin {x : Int32} {n : Nat} (h : vp_in x n) : x.toNatClampNeg < n := Nat.not_le.mp (fun z => h (Or.inr z))
theorem zPre_blind {E : zE} {σ : zMem} {sz : Nat} {av : List Value} : FrameBlind (va_Pc av (zPre E σ sz)) := by
  intro a U g mk q
  obtain ⟨q0, q1, qP, qK, qI⟩ := q
  exact ⟨q0, q1, qP, va_K.moved (u := U) (U := U.calling g mk a) (Vm.Alike.refl U.vm) qK, qI⟩
section ZR
variable {p : Program} {l : Launch} {e : Env} {R : Room} {s : State} {m : MethodId} {args : Array Value} {below : List Frame} {meth : Method} {c : Code} {nL kc ks : Nat} {E : zE} {Q : State → Prop} {σ : zMem} {pc pc' : Nat} {lv lv' : List (Nat × Value)} {st : List Value} {cc : ByteArray} {own : String} {rt : Option FieldType}
theorem z_iconst (C : zX p s m args meth c cc nL own rt E) {n : Int} {v : Int32} (hd : decode cc pc = .ok (.iconst n, 1)) (hv : Int32.ofInt n = v) (hn : pc + 1 = pc') (k9 : zG p l e R s m args below meth c nL E kc ks Q σ pc' lv (.int v :: st)) : zG p l e R s m args below meth c nL E kc ks Q σ pc lv st := by
  intro ls H locs h1 h2 h3
  subst hn
  exact lv_iconst C.1.1 C.1.2.1 hd hv (k9 ls H locs h1 h2 h3)
theorem z_bipush (C : zX p s m args meth c cc nL own rt E) {n : Int} {v : Int32} (hd : decode cc pc = .ok (.bipush n, 2)) (hv : (Int8.ofInt n).toInt32 = v) (hn : pc + 2 = pc') (k9 : zG p l e R s m args below meth c nL E kc ks Q σ pc' lv (.int v :: st)) : zG p l e R s m args below meth c nL E kc ks Q σ pc lv st := by
  intro ls H locs h1 h2 h3
  subst hn
  exact lv_bipush C.1.1 C.1.2.1 hd hv (k9 ls H locs h1 h2 h3)
theorem z_sipush (C : zX p s m args meth c cc nL own rt E) {n : Int} {v : Int32} (hd : decode cc pc = .ok (.sipush n, 3)) (hv : (Int16.ofInt n).toInt32 = v) (hn : pc + 3 = pc') (k9 : zG p l e R s m args below meth c nL E kc ks Q σ pc' lv (.int v :: st)) : zG p l e R s m args below meth c nL E kc ks Q σ pc lv st := by
  intro ls H locs h1 h2 h3
  subst hn
  exact lv_sipush C.1.1 C.1.2.1 hd hv (k9 ls H locs h1 h2 h3)
theorem z_ldc (C : zX p s m args meth c cc nL own rt E) {index : Nat} {v : Int32} (hw : Cond.constant own index v ∈ zTB) (hd : decode cc pc = .ok (.ldc index, 2)) (hn : pc + 2 = pc') (k9 : zG p l e R s m args below meth c nL E kc ks Q σ pc' lv (.int v :: st)) : zG p l e R s m args below meth c nL E kc ks Q σ pc lv st := by
  intro ls H locs h1 h2 h3
  subst hn
  exact lv_ldc C.1.1 C.1.2.1 C.1.2.2.2.1 (C.1.2.2.2.2 _ hw) hd (k9 ls H locs h1 h2 h3)
theorem z_ldcw (C : zX p s m args meth c cc nL own rt E) {index : Nat} {v : Int32} (hw : Cond.constant own index v ∈ zTB) (hd : decode cc pc = .ok (.ldc_w index, 3)) (hn : pc + 3 = pc') (k9 : zG p l e R s m args below meth c nL E kc ks Q σ pc' lv (.int v :: st)) : zG p l e R s m args below meth c nL E kc ks Q σ pc lv st := by
  intro ls H locs h1 h2 h3
  subst hn
  exact lv_ldcw C.1.1 C.1.2.1 C.1.2.2.2.1 (C.1.2.2.2.2 _ hw) hd (k9 ls H locs h1 h2 h3)
theorem z_iload (C : zX p s m args meth c cc nL own rt E) {i : Nat} {x : Int32} (hd : decode cc pc = .ok (.iload i, 2)) (j : Nat) (hl : lv[j]? = some (i, .int x)) (hn : pc + 2 = pc') (k9 : zG p l e R s m args below meth c nL E kc ks Q σ pc' lv (.int x :: st)) : zG p l e R s m args below meth c nL E kc ks Q σ pc lv st := by
  intro ls H locs h1 h2 h3
  subst hn
  exact lv_iload C.1.1 C.1.2.1 hd (lv_at h1 j hl) (k9 ls H locs h1 h2 h3)
theorem z_iload_n (C : zX p s m args meth c cc nL own rt E) {i : Fin 4} {i' : Nat} {x : Int32} (hd : decode cc pc = .ok (.iload_n i, 1)) (hi : (i : Nat) = i') (j : Nat) (hl : lv[j]? = some (i', .int x)) (hn : pc + 1 = pc') (k9 : zG p l e R s m args below meth c nL E kc ks Q σ pc' lv (.int x :: st)) : zG p l e R s m args below meth c nL E kc ks Q σ pc lv st := by
  intro ls H locs h1 h2 h3
  subst hn
  exact lv_iload_n C.1.1 C.1.2.1 hd hi (lv_at h1 j hl) (k9 ls H locs h1 h2 h3)
theorem z_aload (C : zX p s m args meth c cc nL own rt E) {i : Nat} {x : Nat} (hd : decode cc pc = .ok (.aload i, 2)) (j : Nat) (hl : lv[j]? = some (i, .ref x)) (hn : pc + 2 = pc') (k9 : zG p l e R s m args below meth c nL E kc ks Q σ pc' lv (.ref x :: st)) : zG p l e R s m args below meth c nL E kc ks Q σ pc lv st := by
  intro ls H locs h1 h2 h3
  subst hn
  exact lv_aload C.1.1 C.1.2.1 hd (lv_at h1 j hl) (k9 ls H locs h1 h2 h3)
theorem z_aload_n (C : zX p s m args meth c cc nL own rt E) {i : Fin 4} {i' : Nat} {x : Nat} (hd : decode cc pc = .ok (.aload_n i, 1)) (hi : (i : Nat) = i') (j : Nat) (hl : lv[j]? = some (i', .ref x)) (hn : pc + 1 = pc') (k9 : zG p l e R s m args below meth c nL E kc ks Q σ pc' lv (.ref x :: st)) : zG p l e R s m args below meth c nL E kc ks Q σ pc lv st := by
  intro ls H locs h1 h2 h3
  subst hn
  exact lv_aload_n C.1.1 C.1.2.1 hd hi (lv_at h1 j hl) (k9 ls H locs h1 h2 h3)
theorem z_lload (C : zX p s m args meth c cc nL own rt E) {i : Nat} {x : Int64} (hd : decode cc pc = .ok (.lload i, 2)) (j : Nat) (hl : lv[j]? = some (i, .long x)) (hn : pc + 2 = pc') (k9 : zG p l e R s m args below meth c nL E kc ks Q σ pc' lv (.long x :: st)) : zG p l e R s m args below meth c nL E kc ks Q σ pc lv st := by
  intro ls H locs h1 h2 h3
  subst hn
  exact lv_lload C.1.1 C.1.2.1 hd (lv_at h1 j hl) (k9 ls H locs h1 h2 h3)
theorem z_lload_n (C : zX p s m args meth c cc nL own rt E) {i : Fin 4} {i' : Nat} {x : Int64} (hd : decode cc pc = .ok (.lload_n i, 1)) (hi : (i : Nat) = i') (j : Nat) (hl : lv[j]? = some (i', .long x)) (hn : pc + 1 = pc') (k9 : zG p l e R s m args below meth c nL E kc ks Q σ pc' lv (.long x :: st)) : zG p l e R s m args below meth c nL E kc ks Q σ pc lv st := by
  intro ls H locs h1 h2 h3
  subst hn
  exact lv_lload_n C.1.1 C.1.2.1 hd hi (lv_at h1 j hl) (k9 ls H locs h1 h2 h3)
theorem z_istore (C : zX p s m args meth c cc nL own rt E) {i : Nat} {x : Int32} (hd : decode cc pc = .ok (.istore i, 2)) (hi : i < nL) (hl : (i, Value.int x) :: lv.filter (fun q => !(q.1 == i) && !(q.1 + 1 == i && q.2.category == 2)) = lv') (hn : pc + 2 = pc') (k9 : zG p l e R s m args below meth c nL E kc ks Q σ pc' lv' st) : zG p l e R s m args below meth c nL E kc ks Q σ pc lv (.int x :: st) := by
  intro ls H locs h1 h2 h3
  subst hn
  exact lv_istore C.1.1 C.1.2.1 hd h1 hi hl (fun ls h1 => k9 ls H locs h1 h2 h3)
theorem z_istore_n (C : zX p s m args meth c cc nL own rt E) {i : Fin 4} {i' : Nat} {x : Int32} (hd : decode cc pc = .ok (.istore_n i, 1)) (hii : (i : Nat) = i') (hi : i' < nL) (hl : (i', Value.int x) :: lv.filter (fun q => !(q.1 == i') && !(q.1 + 1 == i' && q.2.category == 2)) = lv') (hn : pc + 1 = pc') (k9 : zG p l e R s m args below meth c nL E kc ks Q σ pc' lv' st) : zG p l e R s m args below meth c nL E kc ks Q σ pc lv (.int x :: st) := by
  intro ls H locs h1 h2 h3
  subst hn
  exact lv_istore_n C.1.1 C.1.2.1 hd hii h1 hi hl (fun ls h1 => k9 ls H locs h1 h2 h3)
theorem z_astore (C : zX p s m args meth c cc nL own rt E) {i : Nat} {x : Nat} (hd : decode cc pc = .ok (.astore i, 2)) (hi : i < nL) (hl : (i, Value.ref x) :: lv.filter (fun q => !(q.1 == i) && !(q.1 + 1 == i && q.2.category == 2)) = lv') (hn : pc + 2 = pc') (k9 : zG p l e R s m args below meth c nL E kc ks Q σ pc' lv' st) : zG p l e R s m args below meth c nL E kc ks Q σ pc lv (.ref x :: st) := by
  intro ls H locs h1 h2 h3
  subst hn
  exact lv_astore C.1.1 C.1.2.1 hd h1 hi hl (fun ls h1 => k9 ls H locs h1 h2 h3)
theorem z_astore_n (C : zX p s m args meth c cc nL own rt E) {i : Fin 4} {i' : Nat} {x : Nat} (hd : decode cc pc = .ok (.astore_n i, 1)) (hii : (i : Nat) = i') (hi : i' < nL) (hl : (i', Value.ref x) :: lv.filter (fun q => !(q.1 == i') && !(q.1 + 1 == i' && q.2.category == 2)) = lv') (hn : pc + 1 = pc') (k9 : zG p l e R s m args below meth c nL E kc ks Q σ pc' lv' st) : zG p l e R s m args below meth c nL E kc ks Q σ pc lv (.ref x :: st) := by
  intro ls H locs h1 h2 h3
  subst hn
  exact lv_astore_n C.1.1 C.1.2.1 hd hii h1 hi hl (fun ls h1 => k9 ls H locs h1 h2 h3)
theorem z_lstore (C : zX p s m args meth c cc nL own rt E) {i : Nat} {x : Int64} (hd : decode cc pc = .ok (.lstore i, 2)) (hi : i + 1 < nL) (hl : (i, Value.long x) :: lv.filter (fun q => !(q.1 == i) && (!(q.1 == i + 1) && !(q.1 + 1 == i && q.2.category == 2))) = lv') (hn : pc + 2 = pc') (k9 : zG p l e R s m args below meth c nL E kc ks Q σ pc' lv' st) : zG p l e R s m args below meth c nL E kc ks Q σ pc lv (.long x :: st) := by
  intro ls H locs h1 h2 h3
  subst hn
  exact lv_lstore C.1.1 C.1.2.1 hd h1 hi hl (fun ls h1 => k9 ls H locs h1 h2 h3)
theorem z_iinc (C : zX p s m args meth c cc nL own rt E) {i j : Nat} {n : Int} {x v : Int32} (hd : decode cc pc = .ok (.iinc i n, 3)) (hj : lv[j]? = some (i, .int x)) (hv : x + Int32.ofInt n = v) (hi : i < nL) (hl : (i, Value.int v) :: lv.filter (fun q => !(q.1 == i) && !(q.1 + 1 == i && q.2.category == 2)) = lv') (hn : pc + 3 = pc') (k9 : zG p l e R s m args below meth c nL E kc ks Q σ pc' lv' st) : zG p l e R s m args below meth c nL E kc ks Q σ pc lv st := by
  intro ls H locs h1 h2 h3
  subst hn
  exact lv_iinc C.1.1 C.1.2.1 hd h1 hj hv hi hl (fun ls h1 => k9 ls H locs h1 h2 h3)
theorem z_iadd (C : zX p s m args meth c cc nL own rt E) {x y : Int32} (hd : decode cc pc = .ok (.iadd, 1))  (hn : pc + 1 = pc') (k9 : zG p l e R s m args below meth c nL E kc ks Q σ pc' lv (.int (x + y) :: st)) : zG p l e R s m args below meth c nL E kc ks Q σ pc lv (.int y :: .int x :: st) := by
  intro ls H locs h1 h2 h3
  subst hn
  exact lv_iadd C.1.1 C.1.2.1 hd (k9 ls H locs h1 h2 h3)
theorem z_isub (C : zX p s m args meth c cc nL own rt E) {x y : Int32} (hd : decode cc pc = .ok (.isub, 1))  (hn : pc + 1 = pc') (k9 : zG p l e R s m args below meth c nL E kc ks Q σ pc' lv (.int (x - y) :: st)) : zG p l e R s m args below meth c nL E kc ks Q σ pc lv (.int y :: .int x :: st) := by
  intro ls H locs h1 h2 h3
  subst hn
  exact lv_isub C.1.1 C.1.2.1 hd (k9 ls H locs h1 h2 h3)
theorem z_imul (C : zX p s m args meth c cc nL own rt E) {x y : Int32} (hd : decode cc pc = .ok (.imul, 1))  (hn : pc + 1 = pc') (k9 : zG p l e R s m args below meth c nL E kc ks Q σ pc' lv (.int (x * y) :: st)) : zG p l e R s m args below meth c nL E kc ks Q σ pc lv (.int y :: .int x :: st) := by
  intro ls H locs h1 h2 h3
  subst hn
  exact lv_imul C.1.1 C.1.2.1 hd (k9 ls H locs h1 h2 h3)
theorem z_iand (C : zX p s m args meth c cc nL own rt E) {x y : Int32} (hd : decode cc pc = .ok (.iand, 1))  (hn : pc + 1 = pc') (k9 : zG p l e R s m args below meth c nL E kc ks Q σ pc' lv (.int (x &&& y) :: st)) : zG p l e R s m args below meth c nL E kc ks Q σ pc lv (.int y :: .int x :: st) := by
  intro ls H locs h1 h2 h3
  subst hn
  exact lv_iand C.1.1 C.1.2.1 hd (k9 ls H locs h1 h2 h3)
theorem z_ior (C : zX p s m args meth c cc nL own rt E) {x y : Int32} (hd : decode cc pc = .ok (.ior, 1))  (hn : pc + 1 = pc') (k9 : zG p l e R s m args below meth c nL E kc ks Q σ pc' lv (.int (x ||| y) :: st)) : zG p l e R s m args below meth c nL E kc ks Q σ pc lv (.int y :: .int x :: st) := by
  intro ls H locs h1 h2 h3
  subst hn
  exact lv_ior C.1.1 C.1.2.1 hd (k9 ls H locs h1 h2 h3)
theorem z_ixor (C : zX p s m args meth c cc nL own rt E) {x y : Int32} (hd : decode cc pc = .ok (.ixor, 1))  (hn : pc + 1 = pc') (k9 : zG p l e R s m args below meth c nL E kc ks Q σ pc' lv (.int (x ^^^ y) :: st)) : zG p l e R s m args below meth c nL E kc ks Q σ pc lv (.int y :: .int x :: st) := by
  intro ls H locs h1 h2 h3
  subst hn
  exact lv_ixor C.1.1 C.1.2.1 hd (k9 ls H locs h1 h2 h3)
theorem z_idiv (C : zX p s m args meth c cc nL own rt E) {x y : Int32} (hd : decode cc pc = .ok (.idiv, 1)) (hne : ¬ y = 0) (hn : pc + 1 = pc') (k9 : zG p l e R s m args below meth c nL E kc ks Q σ pc' lv (.int (x / y) :: st)) : zG p l e R s m args below meth c nL E kc ks Q σ pc lv (.int y :: .int x :: st) := by
  intro ls H locs h1 h2 h3
  subst hn
  exact lv_idiv C.1.1 C.1.2.1 hd hne (k9 ls H locs h1 h2 h3)
theorem z_irem (C : zX p s m args meth c cc nL own rt E) {x y : Int32} (hd : decode cc pc = .ok (.irem, 1)) (hne : ¬ y = 0) (hn : pc + 1 = pc') (k9 : zG p l e R s m args below meth c nL E kc ks Q σ pc' lv (.int (x - x / y * y) :: st)) : zG p l e R s m args below meth c nL E kc ks Q σ pc lv (.int y :: .int x :: st) := by
  intro ls H locs h1 h2 h3
  subst hn
  exact lv_irem C.1.1 C.1.2.1 hd hne (k9 ls H locs h1 h2 h3)
theorem z_ishl (C : zX p s m args meth c cc nL own rt E) {x y : Int32} (hd : decode cc pc = .ok (.ishl, 1))  (hn : pc + 1 = pc') (k9 : zG p l e R s m args below meth c nL E kc ks Q σ pc' lv (.int (x <<< (y &&& 31)) :: st)) : zG p l e R s m args below meth c nL E kc ks Q σ pc lv (.int y :: .int x :: st) := by
  intro ls H locs h1 h2 h3
  subst hn
  exact lv_ishl C.1.1 C.1.2.1 hd (k9 ls H locs h1 h2 h3)
theorem z_ishr (C : zX p s m args meth c cc nL own rt E) {x y : Int32} (hd : decode cc pc = .ok (.ishr, 1))  (hn : pc + 1 = pc') (k9 : zG p l e R s m args below meth c nL E kc ks Q σ pc' lv (.int (x >>> (y &&& 31)) :: st)) : zG p l e R s m args below meth c nL E kc ks Q σ pc lv (.int y :: .int x :: st) := by
  intro ls H locs h1 h2 h3
  subst hn
  exact lv_ishr C.1.1 C.1.2.1 hd (k9 ls H locs h1 h2 h3)
theorem z_i2l (C : zX p s m args meth c cc nL own rt E) {x : Int32} (hd : decode cc pc = .ok (.i2l, 1)) (hn : pc + 1 = pc') (k9 : zG p l e R s m args below meth c nL E kc ks Q σ pc' lv (.long x.toInt64 :: st)) : zG p l e R s m args below meth c nL E kc ks Q σ pc lv (.int x :: st) := by
  intro ls H locs h1 h2 h3
  subst hn
  exact lv_i2l C.1.1 C.1.2.1 hd rfl (k9 ls H locs h1 h2 h3)
theorem z_i2b (C : zX p s m args meth c cc nL own rt E) {x : Int32} (hd : decode cc pc = .ok (.i2b, 1)) (hn : pc + 1 = pc') (k9 : zG p l e R s m args below meth c nL E kc ks Q σ pc' lv (.int x.toInt8.toInt32 :: st)) : zG p l e R s m args below meth c nL E kc ks Q σ pc lv (.int x :: st) := by
  intro ls H locs h1 h2 h3
  subst hn
  exact lv_i2b C.1.1 C.1.2.1 hd rfl (k9 ls H locs h1 h2 h3)
theorem z_lconst (C : zX p s m args meth c cc nL own rt E) {n : Fin 2} {v : Int64} (hd : decode cc pc = .ok (.lconst n, 1)) (hv : Int64.ofNat (n : Nat) = v) (hn : pc + 1 = pc') (k9 : zG p l e R s m args below meth c nL E kc ks Q σ pc' lv (.long v :: st)) : zG p l e R s m args below meth c nL E kc ks Q σ pc lv st := by
  intro ls H locs h1 h2 h3
  subst hn
  exact lv_lconst C.1.1 C.1.2.1 hd hv (k9 ls H locs h1 h2 h3)
theorem z_dup (C : zX p s m args meth c cc nL own rt E) {va : Value} (hd : decode cc pc = .ok (.dup, 1)) (hc : va.category = 1) (hn : pc + 1 = pc') (k9 : zG p l e R s m args below meth c nL E kc ks Q σ pc' lv (va :: va :: st)) : zG p l e R s m args below meth c nL E kc ks Q σ pc lv (va :: st) := by
  intro ls H locs h1 h2 h3
  subst hn
  exact lv_dup C.1.1 C.1.2.1 hd hc (k9 ls H locs h1 h2 h3)
theorem z_pop (C : zX p s m args meth c cc nL own rt E) {va : Value} (hd : decode cc pc = .ok (.pop, 1)) (hc : va.category = 1) (hn : pc + 1 = pc') (k9 : zG p l e R s m args below meth c nL E kc ks Q σ pc' lv st) : zG p l e R s m args below meth c nL E kc ks Q σ pc lv (va :: st) := by
  intro ls H locs h1 h2 h3
  subst hn
  exact lv_pop C.1.1 C.1.2.1 hd hc (k9 ls H locs h1 h2 h3)
theorem z_dup2 (C : zX p s m args meth c cc nL own rt E) {va vb : Value} (hd : decode cc pc = .ok (.dup2, 1)) (hc : va.category = 1) (hc2 : vb.category = 1) (hn : pc + 1 = pc') (k9 : zG p l e R s m args below meth c nL E kc ks Q σ pc' lv (va :: vb :: va :: vb :: st)) : zG p l e R s m args below meth c nL E kc ks Q σ pc lv (va :: vb :: st) := by
  intro ls H locs h1 h2 h3
  subst hn
  exact lv_dup2_11 C.1.1 C.1.2.1 hd hc hc2 (k9 ls H locs h1 h2 h3)
theorem z_if_eq (C : zX p s m args meth c cc nL own rt E) {x : Int32} {off : Int} {tgt : Nat} (hd : decode cc pc = .ok (.ifCond .eq off, 3)) (ht : (pc : Int) + off = (tgt : Int)) (hn : pc + 3 = pc') (kt : x = 0 → zG p l e R s m args below meth c nL E kc ks Q σ tgt lv st) (kf : ¬ x = 0 → zG p l e R s m args below meth c nL E kc ks Q σ pc' lv st) : zG p l e R s m args below meth c nL E kc ks Q σ pc lv (.int x :: st) := by
  intro ls H locs h1 h2 h3
  subst hn
  exact lv_if_eq C.1.1 C.1.2.1 hd ht (fun h => kt h ls H locs h1 h2 h3) (fun h => kf h ls H locs h1 h2 h3)
theorem z_if_ne (C : zX p s m args meth c cc nL own rt E) {x : Int32} {off : Int} {tgt : Nat} (hd : decode cc pc = .ok (.ifCond .ne off, 3)) (ht : (pc : Int) + off = (tgt : Int)) (hn : pc + 3 = pc') (kt : ¬ x = 0 → zG p l e R s m args below meth c nL E kc ks Q σ tgt lv st) (kf : x = 0 → zG p l e R s m args below meth c nL E kc ks Q σ pc' lv st) : zG p l e R s m args below meth c nL E kc ks Q σ pc lv (.int x :: st) := by
  intro ls H locs h1 h2 h3
  subst hn
  exact lv_if_ne C.1.1 C.1.2.1 hd ht (fun h => kt h ls H locs h1 h2 h3) (fun h => kf h ls H locs h1 h2 h3)
theorem z_if_lt (C : zX p s m args meth c cc nL own rt E) {x : Int32} {off : Int} {tgt : Nat} (hd : decode cc pc = .ok (.ifCond .lt off, 3)) (ht : (pc : Int) + off = (tgt : Int)) (hn : pc + 3 = pc') (kt : x < 0 → zG p l e R s m args below meth c nL E kc ks Q σ tgt lv st) (kf : ¬ x < 0 → zG p l e R s m args below meth c nL E kc ks Q σ pc' lv st) : zG p l e R s m args below meth c nL E kc ks Q σ pc lv (.int x :: st) := by
  intro ls H locs h1 h2 h3
  subst hn
  exact lv_if_lt C.1.1 C.1.2.1 hd ht (fun h => kt h ls H locs h1 h2 h3) (fun h => kf h ls H locs h1 h2 h3)
theorem z_if_ge (C : zX p s m args meth c cc nL own rt E) {x : Int32} {off : Int} {tgt : Nat} (hd : decode cc pc = .ok (.ifCond .ge off, 3)) (ht : (pc : Int) + off = (tgt : Int)) (hn : pc + 3 = pc') (kt : 0 ≤ x → zG p l e R s m args below meth c nL E kc ks Q σ tgt lv st) (kf : ¬ 0 ≤ x → zG p l e R s m args below meth c nL E kc ks Q σ pc' lv st) : zG p l e R s m args below meth c nL E kc ks Q σ pc lv (.int x :: st) := by
  intro ls H locs h1 h2 h3
  subst hn
  exact lv_if_ge C.1.1 C.1.2.1 hd ht (fun h => kt h ls H locs h1 h2 h3) (fun h => kf h ls H locs h1 h2 h3)
theorem z_if_gt (C : zX p s m args meth c cc nL own rt E) {x : Int32} {off : Int} {tgt : Nat} (hd : decode cc pc = .ok (.ifCond .gt off, 3)) (ht : (pc : Int) + off = (tgt : Int)) (hn : pc + 3 = pc') (kt : 0 < x → zG p l e R s m args below meth c nL E kc ks Q σ tgt lv st) (kf : ¬ 0 < x → zG p l e R s m args below meth c nL E kc ks Q σ pc' lv st) : zG p l e R s m args below meth c nL E kc ks Q σ pc lv (.int x :: st) := by
  intro ls H locs h1 h2 h3
  subst hn
  exact lv_if_gt C.1.1 C.1.2.1 hd ht (fun h => kt h ls H locs h1 h2 h3) (fun h => kf h ls H locs h1 h2 h3)
theorem z_if_le (C : zX p s m args meth c cc nL own rt E) {x : Int32} {off : Int} {tgt : Nat} (hd : decode cc pc = .ok (.ifCond .le off, 3)) (ht : (pc : Int) + off = (tgt : Int)) (hn : pc + 3 = pc') (kt : x ≤ 0 → zG p l e R s m args below meth c nL E kc ks Q σ tgt lv st) (kf : ¬ x ≤ 0 → zG p l e R s m args below meth c nL E kc ks Q σ pc' lv st) : zG p l e R s m args below meth c nL E kc ks Q σ pc lv (.int x :: st) := by
  intro ls H locs h1 h2 h3
  subst hn
  exact lv_if_le C.1.1 C.1.2.1 hd ht (fun h => kt h ls H locs h1 h2 h3) (fun h => kf h ls H locs h1 h2 h3)
theorem z_icmp_eq (C : zX p s m args meth c cc nL own rt E) {x y : Int32} {off : Int} {tgt : Nat} (hd : decode cc pc = .ok (.if_icmp .eq off, 3)) (ht : (pc : Int) + off = (tgt : Int)) (hn : pc + 3 = pc') (kt : x = y → zG p l e R s m args below meth c nL E kc ks Q σ tgt lv st) (kf : ¬ x = y → zG p l e R s m args below meth c nL E kc ks Q σ pc' lv st) : zG p l e R s m args below meth c nL E kc ks Q σ pc lv (.int y :: .int x :: st) := by
  intro ls H locs h1 h2 h3
  subst hn
  exact lv_icmp_eq C.1.1 C.1.2.1 hd ht (fun h => kt h ls H locs h1 h2 h3) (fun h => kf h ls H locs h1 h2 h3)
theorem z_icmp_ne (C : zX p s m args meth c cc nL own rt E) {x y : Int32} {off : Int} {tgt : Nat} (hd : decode cc pc = .ok (.if_icmp .ne off, 3)) (ht : (pc : Int) + off = (tgt : Int)) (hn : pc + 3 = pc') (kt : ¬ x = y → zG p l e R s m args below meth c nL E kc ks Q σ tgt lv st) (kf : x = y → zG p l e R s m args below meth c nL E kc ks Q σ pc' lv st) : zG p l e R s m args below meth c nL E kc ks Q σ pc lv (.int y :: .int x :: st) := by
  intro ls H locs h1 h2 h3
  subst hn
  exact lv_icmp_ne C.1.1 C.1.2.1 hd ht (fun h => kt h ls H locs h1 h2 h3) (fun h => kf h ls H locs h1 h2 h3)
theorem z_icmp_lt (C : zX p s m args meth c cc nL own rt E) {x y : Int32} {off : Int} {tgt : Nat} (hd : decode cc pc = .ok (.if_icmp .lt off, 3)) (ht : (pc : Int) + off = (tgt : Int)) (hn : pc + 3 = pc') (kt : x < y → zG p l e R s m args below meth c nL E kc ks Q σ tgt lv st) (kf : ¬ x < y → zG p l e R s m args below meth c nL E kc ks Q σ pc' lv st) : zG p l e R s m args below meth c nL E kc ks Q σ pc lv (.int y :: .int x :: st) := by
  intro ls H locs h1 h2 h3
  subst hn
  exact lv_icmp_lt C.1.1 C.1.2.1 hd ht (fun h => kt h ls H locs h1 h2 h3) (fun h => kf h ls H locs h1 h2 h3)
theorem z_icmp_ge (C : zX p s m args meth c cc nL own rt E) {x y : Int32} {off : Int} {tgt : Nat} (hd : decode cc pc = .ok (.if_icmp .ge off, 3)) (ht : (pc : Int) + off = (tgt : Int)) (hn : pc + 3 = pc') (kt : y ≤ x → zG p l e R s m args below meth c nL E kc ks Q σ tgt lv st) (kf : ¬ y ≤ x → zG p l e R s m args below meth c nL E kc ks Q σ pc' lv st) : zG p l e R s m args below meth c nL E kc ks Q σ pc lv (.int y :: .int x :: st) := by
  intro ls H locs h1 h2 h3
  subst hn
  exact lv_icmp_ge C.1.1 C.1.2.1 hd ht (fun h => kt h ls H locs h1 h2 h3) (fun h => kf h ls H locs h1 h2 h3)
theorem z_icmp_gt (C : zX p s m args meth c cc nL own rt E) {x y : Int32} {off : Int} {tgt : Nat} (hd : decode cc pc = .ok (.if_icmp .gt off, 3)) (ht : (pc : Int) + off = (tgt : Int)) (hn : pc + 3 = pc') (kt : y < x → zG p l e R s m args below meth c nL E kc ks Q σ tgt lv st) (kf : ¬ y < x → zG p l e R s m args below meth c nL E kc ks Q σ pc' lv st) : zG p l e R s m args below meth c nL E kc ks Q σ pc lv (.int y :: .int x :: st) := by
  intro ls H locs h1 h2 h3
  subst hn
  exact lv_icmp_gt C.1.1 C.1.2.1 hd ht (fun h => kt h ls H locs h1 h2 h3) (fun h => kf h ls H locs h1 h2 h3)
theorem z_icmp_le (C : zX p s m args meth c cc nL own rt E) {x y : Int32} {off : Int} {tgt : Nat} (hd : decode cc pc = .ok (.if_icmp .le off, 3)) (ht : (pc : Int) + off = (tgt : Int)) (hn : pc + 3 = pc') (kt : x ≤ y → zG p l e R s m args below meth c nL E kc ks Q σ tgt lv st) (kf : ¬ x ≤ y → zG p l e R s m args below meth c nL E kc ks Q σ pc' lv st) : zG p l e R s m args below meth c nL E kc ks Q σ pc lv (.int y :: .int x :: st) := by
  intro ls H locs h1 h2 h3
  subst hn
  exact lv_icmp_le C.1.1 C.1.2.1 hd ht (fun h => kt h ls H locs h1 h2 h3) (fun h => kf h ls H locs h1 h2 h3)
theorem z_goto (C : zX p s m args meth c cc nL own rt E) {off : Int} {tgt : Nat} (hd : decode cc pc = .ok (.goto off, 3)) (ht : (pc : Int) + off = (tgt : Int)) (k9 : zG p l e R s m args below meth c nL E kc ks Q σ tgt lv st) : zG p l e R s m args below meth c nL E kc ks Q σ pc lv st := by
  intro ls H locs h1 h2 h3
  exact lv_goto C.1.1 C.1.2.1 hd ht (k9 ls H locs h1 h2 h3)
theorem z_tabIn (C : zX p s m args meth c cc nL own rt E) {dflt lo hi : Int} {offs : Array Int} {len : Nat} {x : Int32} {off : Int} {tgt : Nat} (hd : decode cc pc = .ok (.tableswitch dflt lo hi offs, len)) (v : Int32) (hx : x = v) (h5 : ¬ v.toInt < lo) (h6 : ¬ hi < v.toInt) (ho : offs[(v.toInt - lo).toNat]? = some off) (ht : (pc : Int) + off = (tgt : Int)) (k9 : zG p l e R s m args below meth c nL E kc ks Q σ tgt lv st) : zG p l e R s m args below meth c nL E kc ks Q σ pc lv (.int x :: st) := by
  subst hx
  intro ls H locs h1 h2 h3
  exact lv_tableIn C.1.1 C.1.2.1 hd h5 h6 ho ht (k9 ls H locs h1 h2 h3)
theorem z_tabOut (C : zX p s m args meth c cc nL own rt E) {dflt lo hi : Int} {offs : Array Int} {len : Nat} {x : Int32} {tgt : Nat} (hd : decode cc pc = .ok (.tableswitch dflt lo hi offs, len)) (h5 : x.toInt < lo ∨ hi < x.toInt) (ht : (pc : Int) + dflt = (tgt : Int)) (k9 : zG p l e R s m args below meth c nL E kc ks Q σ tgt lv st) : zG p l e R s m args below meth c nL E kc ks Q σ pc lv (.int x :: st) := by
  intro ls H locs h1 h2 h3
  exact lv_tableOut C.1.1 C.1.2.1 hd h5 ht (k9 ls H locs h1 h2 h3)
theorem z_sub (ks9 : List Nat) (hl : lv_pick lv ks9 = lv') (k9 : zG p l e R s m args below meth c nL E kc ks Q σ pc lv' st) : zG p l e R s m args below meth c nL E kc ks Q σ pc lv st := fun ls H locs h1 h2 h3 => k9 ls H locs (lv_sub h1 ks9 hl) h2 h3
theorem z_get (C : zX p s m args meth c cc nL own rt E) {q i ci N index : Nat} {CC : String} {T : u_T} {fs : (Nat → Int32) → List Value} (hc : (q, i) ∈ zL) (hct : ∀ r, zct E q i r = .inr (ci, fs r)) (hcl : vwCl[ci]? = some (CC, T, N)) (hin : ∀ w ∈ u_ws CC T N, w ∈ zTB) (f : Nat) (hf : f < N) (hlink : Cond.fieldLink own index (T f).1 (T f).2.1 (T f).2.2.1 ∈ zTB) {v : Value} (hv : (fs (σ q i))[f]? = some v) (hd : decode cc pc = .ok (.getfield index, 3)) (hn : pc + 3 = pc') (k9 : zG p l e R s m args below meth c nL E kc ks Q σ pc' lv (v :: st)) : zG p l e R s m args below meth c nL E kc ks Q σ pc lv (.ref (E.2.2 q i) :: st) := by
  intro ls H locs h1 h2 h3
  subst hn
  obtain ⟨k, -, hk⟩ := zws_get E σ hc
  rw [hct] at hk
  exact va_get C.1.1 C.1.2.1 C.1.2.2.2.2 hin C.1.2.2.2.1 C.2.1 h2 k hk hcl f hf (C.1.2.2.2.2 _ hlink) (fun _ h9 => h9) hv hd (k9 ls H locs h1 h2 h3)
theorem z_put (C : zX p s m args meth c cc nL own rt E) {q i ci N index : Nat} {CC : String} {T : u_T} {fs : (Nat → Int32) → List Value} (hc : (q, i) ∈ zL) (hct : ∀ r, zct E q i r = .inr (ci, fs r)) (hcl : vwCl[ci]? = some (CC, T, N)) (hin : ∀ w ∈ u_ws CC T N, w ∈ zTB) (ty0 : Nat → FieldType) (hty : ∀ k, k < N → parseFieldDescriptor (T k).2.2.1 = some (ty0 k)) (hnm : ∀ a, a < N → ∀ b, b < N → a ≠ b → (T a).2.1 ≠ (T b).2.1) (f : Nat) (hf : f < N) (hlink : Cond.fieldLink own index (T f).1 (T f).2.1 (T f).2.2.1 ∈ zTB) (hfin : (T f).2.2.2 = false) {v : Value} {x : Int32} (hnar : narrow (ty0 f) v = v) (hfit : fits (ty0 f) v = true) (hlen : f < (fs (σ q i)).length) (hset : (fs (σ q i)).set f v = fs (upd (σ q i) f x)) (hd : decode cc pc = .ok (.putfield index, 3)) (hn : pc + 3 = pc') (k9 : zG p l e R s m args below meth c nL E kc ks Q (um σ q i f x) pc' lv st) : zG p l e R s m args below meth c nL E kc ks Q σ pc lv (v :: .ref (E.2.2 q i) :: st) := by
  intro ls H locs h1 h2 h3
  subst hn
  obtain ⟨k, hk0, hk⟩ := zws_get E σ hc
  rw [hct] at hk
  refine va_put C.1.1 C.1.2.1 C.1.2.2.2.2 hin ty0 hty hnm C.1.2.2.2.1 C.2.1 h2 (zD C.2.2.1 σ _) h3 k hk hcl f hf (C.1.2.2.2.2 _ hlink) (fun _ h9 => h9) hfin (hty f hf) hnar hfit hlen hd (fun H1 locs1 hP hD hS => ?_)
  refine k9 ls H1 locs1 h1 ?_ hS
  have e1 := zws_set E σ (um σ q i f x) hk0 (fun a b h => um_off σ q i f x h)
  rw [um_row, hct, ← hset] at e1
  show va_P E.1 vwCl (zws E (um σ q i f x)) H1
  rw [← e1]
  exact hP
theorem z_iald (C : zX p s m args meth c cc nL own rt E) {q i n : Nat} {x : Int32} (hc : (q, i) ∈ zL) (hct : ∀ r, zct E q i r = .inl (E.2.1 0, n, .inl r)) (hin : vp_in x n) (hd : decode cc pc = .ok (.iaload, 1)) (hn : pc + 1 = pc') (k9 : zG p l e R s m args below meth c nL E kc ks Q σ pc' lv (.int (σ q i x.toNatClampNeg) :: st)) : zG p l e R s m args below meth c nL E kc ks Q σ pc lv (.int x :: .ref (E.2.2 q i) :: st) := by
  intro ls H locs h1 h2 h3
  subst hn
  obtain ⟨k, -, hk⟩ := zws_get E σ hc
  rw [hct] at hk
  exact va_iald C.1.1 C.1.2.1 C.2.1 h2 k 0 hk rfl hin hd (k9 ls H locs h1 h2 h3)
theorem z_zald (C : zX p s m args meth c cc nL own rt E) {q i n : Nat} {x : Int32} (hc : (q, i) ∈ zL) (hct : ∀ r, zct E q i r = .inl (E.2.1 1, n, .inl r)) (hin : vp_in x n) (hd : decode cc pc = .ok (.baload, 1)) (hn : pc + 1 = pc') (k9 : zG p l e R s m args below meth c nL E kc ks Q σ pc' lv (.int (σ q i x.toNatClampNeg) :: st)) : zG p l e R s m args below meth c nL E kc ks Q σ pc lv (.int x :: .ref (E.2.2 q i) :: st) := by
  intro ls H locs h1 h2 h3
  subst hn
  obtain ⟨k, -, hk⟩ := zws_get E σ hc
  rw [hct] at hk
  exact va_zald C.1.1 C.1.2.1 C.2.1 h2 k 1 hk rfl hin hd (k9 ls H locs h1 h2 h3)
theorem z_bald (C : zX p s m args meth c cc nL own rt E) {q i n : Nat} {x : Int32} (hc : (q, i) ∈ zL) (hct : ∀ r, zct E q i r = .inl (E.2.1 2, n, .inl r)) (hin : vp_in x n) (hd : decode cc pc = .ok (.baload, 1)) (hn : pc + 1 = pc') (k9 : zG p l e R s m args below meth c nL E kc ks Q σ pc' lv (.int (σ q i x.toNatClampNeg) :: st)) : zG p l e R s m args below meth c nL E kc ks Q σ pc lv (.int x :: .ref (E.2.2 q i) :: st) := by
  intro ls H locs h1 h2 h3
  subst hn
  obtain ⟨k, -, hk⟩ := zws_get E σ hc
  rw [hct] at hk
  exact va_bald C.1.1 C.1.2.1 C.2.1 h2 k 2 hk rfl hin hd (k9 ls H locs h1 h2 h3)
theorem z_iast (C : zX p s m args meth c cc nL own rt E) {q i n : Nat} {x y : Int32} (hc : (q, i) ∈ zL) (hct : ∀ r, zct E q i r = .inl (E.2.1 0, n, .inl r)) (hin : vp_in x n) (hd : decode cc pc = .ok (.iastore, 1)) (hn : pc + 1 = pc') (k9 : zG p l e R s m args below meth c nL E kc ks Q (um σ q i x.toNatClampNeg y) pc' lv st) : zG p l e R s m args below meth c nL E kc ks Q σ pc lv (.int y :: .int x :: .ref (E.2.2 q i) :: st) := by
  intro ls H locs h1 h2 h3
  subst hn
  obtain ⟨k, hk0, hk⟩ := zws_get E σ hc
  rw [hct] at hk
  refine va_iast C.1.1 C.1.2.1 C.2.1 h2 (zD C.2.2.1 σ _) h3 k 0 hk rfl hin hd (fun H1 locs1 hP hD hS => ?_)
  refine k9 ls H1 locs1 h1 ?_ hS
  have e1 := zws_set E σ (um σ q i x.toNatClampNeg y) hk0 (fun a b h => um_off σ q i _ _ h)
  rw [um_row, hct] at e1
  show va_P E.1 vwCl (zws E (um σ q i x.toNatClampNeg y)) H1
  rw [← e1]
  exact hP
theorem z_zast (C : zX p s m args meth c cc nL own rt E) {q i n : Nat} {x y : Int32} (hc : (q, i) ∈ zL) (hct : ∀ r, zct E q i r = .inl (E.2.1 1, n, .inl r)) (hin : vp_in x n) (hd : decode cc pc = .ok (.bastore, 1)) (hn : pc + 1 = pc') (k9 : zG p l e R s m args below meth c nL E kc ks Q (um σ q i x.toNatClampNeg (vp_nar .boolean y)) pc' lv st) : zG p l e R s m args below meth c nL E kc ks Q σ pc lv (.int y :: .int x :: .ref (E.2.2 q i) :: st) := by
  intro ls H locs h1 h2 h3
  subst hn
  obtain ⟨k, hk0, hk⟩ := zws_get E σ hc
  rw [hct] at hk
  refine va_zast C.1.1 C.1.2.1 C.2.1 h2 (zD C.2.2.1 σ _) h3 k 1 hk rfl hin hd (fun H1 locs1 hP hD hS => ?_)
  refine k9 ls H1 locs1 h1 ?_ hS
  have e1 := zws_set E σ (um σ q i x.toNatClampNeg (vp_nar .boolean y)) hk0 (fun a b h => um_off σ q i _ _ h)
  rw [um_row, hct] at e1
  show va_P E.1 vwCl (zws E (um σ q i x.toNatClampNeg (vp_nar .boolean y))) H1
  rw [← e1]
  exact hP
theorem z_bast (C : zX p s m args meth c cc nL own rt E) {q i n : Nat} {x y : Int32} (hc : (q, i) ∈ zL) (hct : ∀ r, zct E q i r = .inl (E.2.1 2, n, .inl r)) (hin : vp_in x n) (hd : decode cc pc = .ok (.bastore, 1)) (hn : pc + 1 = pc') (k9 : zG p l e R s m args below meth c nL E kc ks Q (um σ q i x.toNatClampNeg (vp_nar .byte y)) pc' lv st) : zG p l e R s m args below meth c nL E kc ks Q σ pc lv (.int y :: .int x :: .ref (E.2.2 q i) :: st) := by
  intro ls H locs h1 h2 h3
  subst hn
  obtain ⟨k, hk0, hk⟩ := zws_get E σ hc
  rw [hct] at hk
  refine va_bast C.1.1 C.1.2.1 C.2.1 h2 (zD C.2.2.1 σ _) h3 k 2 hk rfl hin hd (fun H1 locs1 hP hD hS => ?_)
  refine k9 ls H1 locs1 h1 ?_ hS
  have e1 := zws_set E σ (um σ q i x.toNatClampNeg (vp_nar .byte y)) hk0 (fun a b h => um_off σ q i _ _ h)
  rw [um_row, hct] at e1
  show va_P E.1 vwCl (zws E (um σ q i x.toNatClampNeg (vp_nar .byte y))) H1
  rw [← e1]
  exact hP
theorem z_aald (C : zX p s m args meth c cc nL own rt E) {q i n t0 q2 : Nat} {CC : String} {x : Int32} (hc : (q, i) ∈ zL) (hct : ∀ r, zct E q i r = .inl (E.2.1 t0, n, .inr (.inr (.inr (.inr (fun j => some (E.2.2 q2 j))))))) (ht : (zTy E.2.1)[t0]? = some (E.2.1 t0, .object CC)) (hin : vp_in x n) (hd : decode cc pc = .ok (.aaload, 1)) (hn : pc + 1 = pc') (k9 : zG p l e R s m args below meth c nL E kc ks Q σ pc' lv (.ref (E.2.2 q2 x.toNatClampNeg) :: st)) : zG p l e R s m args below meth c nL E kc ks Q σ pc lv (.int x :: .ref (E.2.2 q i) :: st) := by
  intro ls H locs h1 h2 h3
  subst hn
  obtain ⟨k, -, hk⟩ := zws_get E σ hc
  rw [hct] at hk
  exact va_aldq C.1.1 C.1.2.1 C.2.1 h2 k t0 hk ht hin hd (k9 ls H locs h1 h2 h3)
theorem z_alen (C : zX p s m args meth c cc nL own rt E) {q i n t0 : Nat} {x9 : (Nat → Int32) ⊕ (Nat → Int64) ⊕ (Nat → UInt32) ⊕ (Nat → UInt64) ⊕ (Nat → Option Nat)} {ty : FieldType} {v : Int32} (hc : (q, i) ∈ zL) (hct : zct E q i (σ q i) = .inl (E.2.1 t0, n, x9)) (ht : (zTy E.2.1)[t0]? = some (E.2.1 t0, ty)) (hv : Int32.ofNat n = v) (hd : decode cc pc = .ok (.arraylength, 1)) (hn : pc + 1 = pc') (k9 : zG p l e R s m args below meth c nL E kc ks Q σ pc' lv (.int v :: st)) : zG p l e R s m args below meth c nL E kc ks Q σ pc lv (.ref (E.2.2 q i) :: st) := by
  intro ls H locs h1 h2 h3
  subst hn
  obtain ⟨k, -, hk⟩ := zws_get E σ hc
  rw [hct] at hk
  exact va_alen C.1.1 C.1.2.1 C.2.1 h2 k t0 hk ht hv hd (k9 ls H locs h1 h2 h3)
theorem z_mmax (C : zX p s m args meth c cc nL own rt E) {index : Nat} {x y : Int32} (hw : Cond.methodLink own index Lib.Math.max.name ∈ zTB ∧ Cond.static Lib.Math.max.name ∈ zTB ∧ Cond.initialized "java/lang/Math" ∈ zTB ∧ Cond.code Lib.Math.max.name Lib.Math.max.code 2 (some .int) ∈ zTB) (hf : 1 ≤ R.frames) (hl : (st.map fun v => v.category).sum + 13 ≤ R.locals) (hkc : kc ≤ R.cells) (hks : ks ≤ R.slots) (hd : decode cc pc = .ok (.invokestatic index, 3)) (hn : pc + 3 = pc') (k9 : zG p l e R s m args below meth c nL E kc ks Q σ pc' lv (.int (if x < y then y else x) :: st)) : zG p l e R s m args below meth c nL E kc ks Q σ pc lv (.int y :: .int x :: st) := by
  intro ls H locs h1 h2 h3
  subst hn
  exact va_mmax C.1.1 C.1.2.1 (C.1.2.2.1.trans h1.1.symm) C.1.2.2.2.1 (C.1.2.2.2.2 _ hw.1) (C.1.2.2.2.2 _ hw.2.1) (C.1.2.2.2.2 _ hw.2.2.1) (C.1.2.2.2.2 _ hw.2.2.2) hf hl hkc hks hd (k9 ls H locs h1 h2 h3)
theorem z_mmin (C : zX p s m args meth c cc nL own rt E) {index : Nat} {x y : Int32} (hw : Cond.methodLink own index Lib.Math.min.name ∈ zTB ∧ Cond.static Lib.Math.min.name ∈ zTB ∧ Cond.initialized "java/lang/Math" ∈ zTB ∧ Cond.code Lib.Math.min.name Lib.Math.min.code 2 (some .int) ∈ zTB) (hf : 1 ≤ R.frames) (hl : (st.map fun v => v.category).sum + 13 ≤ R.locals) (hkc : kc ≤ R.cells) (hks : ks ≤ R.slots) (hd : decode cc pc = .ok (.invokestatic index, 3)) (hn : pc + 3 = pc') (k9 : zG p l e R s m args below meth c nL E kc ks Q σ pc' lv (.int (if y < x then y else x) :: st)) : zG p l e R s m args below meth c nL E kc ks Q σ pc lv (.int y :: .int x :: st) := by
  intro ls H locs h1 h2 h3
  subst hn
  exact va_mmin C.1.1 C.1.2.1 (C.1.2.2.1.trans h1.1.symm) C.1.2.2.2.1 (C.1.2.2.2.2 _ hw.1) (C.1.2.2.2.2 _ hw.2.1) (C.1.2.2.2.2 _ hw.2.2.1) (C.1.2.2.2.2 _ hw.2.2.2) hf hl hkc hks hd (k9 ls H locs h1 h2 h3)
theorem z_mabs (C : zX p s m args meth c cc nL own rt E) {index : Nat} {x : Int32} (hw : Cond.methodLink own index Lib.Math.abs.name ∈ zTB ∧ Cond.static Lib.Math.abs.name ∈ zTB ∧ Cond.initialized "java/lang/Math" ∈ zTB ∧ Cond.code Lib.Math.abs.name Lib.Math.abs.code 1 (some .int) ∈ zTB) (hf : 1 ≤ R.frames) (hl : (st.map fun v => v.category).sum + 13 ≤ R.locals) (hkc : kc ≤ R.cells) (hks : ks ≤ R.slots) (hd : decode cc pc = .ok (.invokestatic index, 3)) (hn : pc + 3 = pc') (k9 : zG p l e R s m args below meth c nL E kc ks Q σ pc' lv (.int (if 0 ≤ x then x else 0 - x) :: st)) : zG p l e R s m args below meth c nL E kc ks Q σ pc lv (.int x :: st) := by
  intro ls H locs h1 h2 h3
  subst hn
  exact va_mabs C.1.1 C.1.2.1 (C.1.2.2.1.trans h1.1.symm) C.1.2.2.2.1 (C.1.2.2.2.2 _ hw.1) (C.1.2.2.2.2 _ hw.2.1) (C.1.2.2.2.2 _ hw.2.2.1) (C.1.2.2.2.2 _ hw.2.2.2) hf hl hkc hks hd (k9 ls H locs h1 h2 h3)
theorem z_iret {Q9 : Int32 → zMem → Prop} {v : Int32} (C : zX p s m args meth c cc nL own (some .int) E) (hd : decode cc pc = .ok (.ireturn, 1)) (hq : Q9 v σ) : zG p l e R s m args below meth c nL E 0 0  (MQ below (va_Qi Q9 (zPost E) (zA E s.heap.size)) args s 0 0 (zA E s.heap.size)) σ pc lv [.int v] := by
  intro ls H locs h1 h2 h3
  have hlocks := C.2.2.2.2
  exact W.iret C.1.1 C.1.2.1 C.2.2.2.1 (fun t ht hW => ⟨⟨v, σ, rfl, hq, by rw [zPost, ht]; exact ⟨h2, va_K.moved hW.alike C.2.1⟩⟩, h3.F ht⟩) h3.2.2 hd
theorem z_zret {Q9 : Int32 → zMem → Prop} {v : Int32} {ty : FieldType} (C : zX p s m args meth c cc nL own (some ty) E) (hnar : narrow ty (.int v) = .int v) (hd : decode cc pc = .ok (.ireturn, 1)) (hq : Q9 v σ) : zG p l e R s m args below meth c nL E 0 0  (MQ below (va_Qi Q9 (zPost E) (zA E s.heap.size)) args s 0 0 (zA E s.heap.size)) σ pc lv [.int v] := by
  intro ls H locs h1 h2 h3
  have hlocks := C.2.2.2.2
  exact W.zret C.1.1 C.1.2.1 C.2.2.2.1 hnar (fun t ht hW => ⟨⟨v, σ, rfl, hq, by rw [zPost, ht]; exact ⟨h2, va_K.moved hW.alike C.2.1⟩⟩, h3.F ht⟩) h3.2.2 hd
theorem z_lret {Q9 : Int64 → zMem → Prop} {v : Int64} (C : zX p s m args meth c cc nL own (some .long) E) (hd : decode cc pc = .ok (.lreturn, 1)) (hq : Q9 v σ) : zG p l e R s m args below meth c nL E 0 0  (MQ below (va_Ql Q9 (zPost E) (zA E s.heap.size)) args s 0 0 (zA E s.heap.size)) σ pc lv [.long v] := by
  intro ls H locs h1 h2 h3
  have hlocks := C.2.2.2.2
  exact W.lret C.1.1 C.1.2.1 C.2.2.2.1 (fun t ht hW => ⟨⟨v, σ, rfl, hq, by rw [zPost, ht]; exact ⟨h2, va_K.moved hW.alike C.2.1⟩⟩, h3.F ht⟩) h3.2.2 hd
theorem z_vret {Q9 : zMem → Prop} (C : zX p s m args meth c cc nL own none E) (hd : decode cc pc = .ok (.return_, 1)) (hq : Q9 σ) : zG p l e R s m args below meth c nL E 0 0  (MQ below (va_Qv Q9 (zPost E) (zA E s.heap.size)) args s 0 0 (zA E s.heap.size)) σ pc lv [] := by
  intro ls H locs h1 h2 h3
  have hlocks := C.2.2.2.2
  exact W.vret C.1.1 C.1.2.1 C.2.2.2.1 (fun t ht hW => ⟨⟨σ, rfl, hq, by rw [zPost, ht]; exact ⟨h2, va_K.moved hW.alike C.2.1⟩⟩, h3.F ht⟩) h3.2.2 hd
theorem zMi_of {y : MethodName} {cc : ByteArray} {nL fr lo : Nat} {ty : FieldType} {E : zE} {av : List Value} {σ : zMem} {Q9 : Int32 → zMem → Prop} (hy : plainName y.cls = true) (hlen : (lg_sl av).length ≤ nL) (body : ∀ (p : Program) (e : Env) (s : State) (m : MethodId) (args : Array Value) (below : List Frame) (meth : Method) (c : Code), zX p s m args meth c cc nL y.cls (some ty) E → zG p l e (zRm fr lo) s m args below meth c nL E 0 0 (MQ below (va_Qi Q9 (zPost E) (zA E s.heap.size)) args s 0 0 (zA E s.heap.size)) σ 0 (lv_args 0 av) []) : zMi l y cc nL ty fr lo E av σ Q9 := by
  intro sz
  refine Met.ofW (cc := cc) (maxL := nL) (ret := (some ty)) hy rfl ?_
  intro p e s m args below meth c s₁ B hml hv
  obtain ⟨rfl, hsz, hP, hK, hI⟩ := hv
  subst hsz
  have hts := atoms_spec (ws := Cond.code y cc nL (some ty) :: zTB) B.pre
  have C : zX p s m av.toArray meth c cc nL y.cls (some ty) E := ⟨⟨B.exec, B.bytes, hml, findClass_of_methodNamed B.named, fun w hw => hts w (List.mem_cons_of_mem _ hw)⟩, hK, hI, B.returns, B.notSynchronized⟩
  have hl := lv_entry av (n := nL) hlen
  rw [lg_entry_eq]
  exact body p e s m _ below meth c C _ _ _ hl hP va_S.rf
theorem zMl_of {y : MethodName} {cc : ByteArray} {nL fr lo : Nat} {E : zE} {av : List Value} {σ : zMem} {Q9 : Int64 → zMem → Prop} (hy : plainName y.cls = true) (hlen : (lg_sl av).length ≤ nL) (body : ∀ (p : Program) (e : Env) (s : State) (m : MethodId) (args : Array Value) (below : List Frame) (meth : Method) (c : Code), zX p s m args meth c cc nL y.cls (some .long) E → zG p l e (zRm fr lo) s m args below meth c nL E 0 0 (MQ below (va_Ql Q9 (zPost E) (zA E s.heap.size)) args s 0 0 (zA E s.heap.size)) σ 0 (lv_args 0 av) []) : zMl l y cc nL fr lo E av σ Q9 := by
  intro sz
  refine Met.ofW (cc := cc) (maxL := nL) (ret := (some .long)) hy rfl ?_
  intro p e s m args below meth c s₁ B hml hv
  obtain ⟨rfl, hsz, hP, hK, hI⟩ := hv
  subst hsz
  have hts := atoms_spec (ws := Cond.code y cc nL (some .long) :: zTB) B.pre
  have C : zX p s m av.toArray meth c cc nL y.cls (some .long) E := ⟨⟨B.exec, B.bytes, hml, findClass_of_methodNamed B.named, fun w hw => hts w (List.mem_cons_of_mem _ hw)⟩, hK, hI, B.returns, B.notSynchronized⟩
  have hl := lv_entry av (n := nL) hlen
  rw [lg_entry_eq]
  exact body p e s m _ below meth c C _ _ _ hl hP va_S.rf
theorem zMv_of {y : MethodName} {cc : ByteArray} {nL fr lo : Nat} {E : zE} {av : List Value} {σ : zMem} {Q9 : zMem → Prop} (hy : plainName y.cls = true) (hlen : (lg_sl av).length ≤ nL) (body : ∀ (p : Program) (e : Env) (s : State) (m : MethodId) (args : Array Value) (below : List Frame) (meth : Method) (c : Code), zX p s m args meth c cc nL y.cls none E → zG p l e (zRm fr lo) s m args below meth c nL E 0 0 (MQ below (va_Qv Q9 (zPost E) (zA E s.heap.size)) args s 0 0 (zA E s.heap.size)) σ 0 (lv_args 0 av) []) : zMv l y cc nL fr lo E av σ Q9 := by
  intro sz
  refine Met.ofW (cc := cc) (maxL := nL) (ret := none) hy rfl ?_
  intro p e s m args below meth c s₁ B hml hv
  obtain ⟨rfl, hsz, hP, hK, hI⟩ := hv
  subst hsz
  have hts := atoms_spec (ws := Cond.code y cc nL none :: zTB) B.pre
  have C : zX p s m av.toArray meth c cc nL y.cls none E := ⟨⟨B.exec, B.bytes, hml, findClass_of_methodNamed B.named, fun w hw => hts w (List.mem_cons_of_mem _ hw)⟩, hK, hI, B.returns, B.notSynchronized⟩
  have hl := lv_entry av (n := nL) hlen
  rw [lg_entry_eq]
  exact body p e s m _ below meth c C _ _ _ hl hP va_S.rf
/-- the words of a call -/
def zWs (own : String) (index : Nat) (y : MethodName) (cc : ByteArray) (nL : Nat) (rt : Option FieldType) (N : Nat) : Prop := Cond.code y cc nL rt ∈ zTB ∧ Cond.methodLink own index y ∈ zTB ∧ Cond.initialized y.cls ∈ zTB ∧ (y.cls ≠ "java/lang/invoke/MethodHandle" ∧ y.cls ≠ "java/lang/invoke/VarHandle" ∧ (parseMethodDescriptor y.desc).map (fun d => d.parameters.length) = some N)
theorem zCB {y : MethodName} {cc' : ByteArray} {nL' fr lo index N : Nat} {rt' : Option FieldType} (C : zX p s m args meth c cc nL own rt E) (hw : zWs own index y cc' nL' rt' N) (hR : fr + 1 ≤ R.frames ∧ 8 + (nL' + 11) + lo ≤ R.locals) : CallB R s args own index y cc' nL' rt' (Cond.code y cc' nL' rt' :: zTB) (zRm fr lo) 0 0 N :=
  callB_of N C.1.2.2.2.2 (zGood hw.1) rfl rfl rfl (C.1.2.2.2.2 _ hw.2.2.1) (C.1.2.2.2.2 _ hw.2.1) hw.2.2.2 hR
theorem zPS {H : Heap} {locs : List Loc} {As : List Value} (C : zX p s m args meth c cc nL own rt E) (h2 : zP E σ H) : PreS s H (va_Pc As (zPre E σ H.size)) As :=
  ⟨zPre_blind, fun U hU hW => ⟨rfl, by rw [hU], by rw [hU]; exact h2, va_K.moved hW.alike C.2.1, C.2.2.1⟩⟩
theorem zPV {H : Heap} {As : List Value} {q i ci : Nat} {fs : List Value} {w9 : vw_C} (C : zX p s m args meth c cc nL own rt E) (h2 : zP E σ H) (hc : (q, i) ∈ zL) (hct : zct E q i (σ q i) = .inr (ci, fs)) (hcl : vwCl[ci]? = some w9) : PreV s H w9.1 (E.2.2 q i) (va_Pc (.ref (E.2.2 q i) :: As) (zPre E σ H.size)) As := by
  obtain ⟨k, -, hk⟩ := zws_get E σ hc
  rw [hct] at hk
  exact ⟨zPre_blind, va_recv C.2.1 h2 hcl hk, fun U hU hW => ⟨rfl, by rw [hU], by rw [hU]; exact h2, va_K.moved hW.alike C.2.1, C.2.2.1⟩⟩
theorem zfree {H : Heap} {locs : List Loc} (h3 : va_S (zA E s.heap.size) s.heap H locs) : ∀ q, zA E H.size q → zA E s.heap.size q := fun q h => zA_up h h3.1
theorem z_callSi (C : zX p s m args meth c cc nL own rt E) {y : MethodName} {cc' : ByteArray} {nL' fr lo index N : Nat} {ty : FieldType} {As st0 : List Value} {Q9 : Int32 → zMem → Prop} (hM : zMi l y cc' nL' ty fr lo E As σ Q9) (hw : zWs own index y cc' nL' (some ty) N) (hws : Cond.static y ∈ zTB) (hR : fr + 1 ≤ R.frames ∧ 8 + (nL' + 11) + lo ≤ R.locals) (hkc : kc ≤ R.cells ∧ ks ≤ R.slots) (hN : As.length = N) (hst : st0 = As.reverse ++ st) (hW : (st.map fun v => v.category).sum ≤ 8) (hd : decode cc pc = .ok (.invokestatic index, 3)) (hn : pc + 3 = pc') (k9 : ∀ (r : Int32) (u : zMem), Q9 r u → zG p l e R s m args below meth c nL E kc ks Q u pc' lv (.int r :: st)) : zG p l e R s m args below meth c nL E kc ks Q σ pc lv st0 := by
  intro ls H locs h1 h2 h3
  subst hn
  subst hst
  refine va_calli (va_runS (As := As) (rest := st) C.1 (hM H.size) ⟨zCB C hw hR, C.1.2.2.2.2 _ hws⟩ (zPS (locs := locs) C h2) rfl hN h1.1 rfl (lv_room hW) hd hkc) h3 (fun q _ h => zfree h3 q h) (zfree h3) (fun r u t H1 locs1 ht hvm hq hB hz hk1 hS => ?_)
  exact k9 r u hq ls H1 locs1 h1 (by rw [← ht]; exact hB.1) hS
theorem z_callVi (C : zX p s m args meth c cc nL own rt E) {y : MethodName} {cc' : ByteArray} {nL' fr lo index N q i ci : Nat} {ty : FieldType} {As st0 : List Value} {Q9 : Int32 → zMem → Prop} {fs : List Value} {w9 : vw_C} (hM : zMi l y cc' nL' ty fr lo E (.ref (E.2.2 q i) :: As) σ Q9) (hw : zWs own index y cc' nL' (some ty) N) (hwi : Cond.instanceMethod y ∈ zTB) (hws : Cond.selects w9.1 y y ∈ zTB) (hc : (q, i) ∈ zL) (hct : zct E q i (σ q i) = .inr (ci, fs)) (hcl : vwCl[ci]? = some w9) (hR : fr + 1 ≤ R.frames ∧ 8 + (nL' + 11) + lo ≤ R.locals) (hkc : kc ≤ R.cells ∧ ks ≤ R.slots) (hN : As.length = N) (hst : st0 = As.reverse ++ .ref (E.2.2 q i) :: st) (hW : (st.map fun v => v.category).sum ≤ 8) (hd : decode cc pc = .ok (.invokevirtual index, 3)) (hn : pc + 3 = pc') (k9 : ∀ (r : Int32) (u : zMem), Q9 r u → zG p l e R s m args below meth c nL E kc ks Q u pc' lv (.int r :: st)) : zG p l e R s m args below meth c nL E kc ks Q σ pc lv st0 := by
  intro ls H locs h1 h2 h3
  subst hn
  subst hst
  refine va_calli (va_runV (C := w9.1) (b := E.2.2 q i) (As := As) (rest := st) C.1 (hM H.size) ⟨zCB C hw hR, C.1.2.2.2.2 _ hwi, C.1.2.2.2.2 _ hws⟩ (zPV C h2 hc hct hcl) rfl hN h1.1 rfl (lv_room hW) hd hkc) h3 (fun q _ h => zfree h3 q h) (zfree h3) (fun r u t H1 locs1 ht hvm hq hB hz hk1 hS => ?_)
  exact k9 r u hq ls H1 locs1 h1 (by rw [← ht]; exact hB.1) hS
theorem z_callSl (C : zX p s m args meth c cc nL own rt E) {y : MethodName} {cc' : ByteArray} {nL' fr lo index N : Nat} {As st0 : List Value} {Q9 : Int64 → zMem → Prop} (hM : zMl l y cc' nL' fr lo E As σ Q9) (hw : zWs own index y cc' nL' (some .long) N) (hws : Cond.static y ∈ zTB) (hR : fr + 1 ≤ R.frames ∧ 8 + (nL' + 11) + lo ≤ R.locals) (hkc : kc ≤ R.cells ∧ ks ≤ R.slots) (hN : As.length = N) (hst : st0 = As.reverse ++ st) (hW : (st.map fun v => v.category).sum ≤ 8) (hd : decode cc pc = .ok (.invokestatic index, 3)) (hn : pc + 3 = pc') (k9 : ∀ (r : Int64) (u : zMem), Q9 r u → zG p l e R s m args below meth c nL E kc ks Q u pc' lv (.long r :: st)) : zG p l e R s m args below meth c nL E kc ks Q σ pc lv st0 := by
  intro ls H locs h1 h2 h3
  subst hn
  subst hst
  refine va_calll (va_runS (As := As) (rest := st) C.1 (hM H.size) ⟨zCB C hw hR, C.1.2.2.2.2 _ hws⟩ (zPS (locs := locs) C h2) rfl hN h1.1 rfl (lv_room hW) hd hkc) h3 (fun q _ h => zfree h3 q h) (zfree h3) (fun r u t H1 locs1 ht hvm hq hB hz hk1 hS => ?_)
  exact k9 r u hq ls H1 locs1 h1 (by rw [← ht]; exact hB.1) hS
theorem z_callVl (C : zX p s m args meth c cc nL own rt E) {y : MethodName} {cc' : ByteArray} {nL' fr lo index N q i ci : Nat} {As st0 : List Value} {Q9 : Int64 → zMem → Prop} {fs : List Value} {w9 : vw_C} (hM : zMl l y cc' nL' fr lo E (.ref (E.2.2 q i) :: As) σ Q9) (hw : zWs own index y cc' nL' (some .long) N) (hwi : Cond.instanceMethod y ∈ zTB) (hws : Cond.selects w9.1 y y ∈ zTB) (hc : (q, i) ∈ zL) (hct : zct E q i (σ q i) = .inr (ci, fs)) (hcl : vwCl[ci]? = some w9) (hR : fr + 1 ≤ R.frames ∧ 8 + (nL' + 11) + lo ≤ R.locals) (hkc : kc ≤ R.cells ∧ ks ≤ R.slots) (hN : As.length = N) (hst : st0 = As.reverse ++ .ref (E.2.2 q i) :: st) (hW : (st.map fun v => v.category).sum ≤ 8) (hd : decode cc pc = .ok (.invokevirtual index, 3)) (hn : pc + 3 = pc') (k9 : ∀ (r : Int64) (u : zMem), Q9 r u → zG p l e R s m args below meth c nL E kc ks Q u pc' lv (.long r :: st)) : zG p l e R s m args below meth c nL E kc ks Q σ pc lv st0 := by
  intro ls H locs h1 h2 h3
  subst hn
  subst hst
  refine va_calll (va_runV (C := w9.1) (b := E.2.2 q i) (As := As) (rest := st) C.1 (hM H.size) ⟨zCB C hw hR, C.1.2.2.2.2 _ hwi, C.1.2.2.2.2 _ hws⟩ (zPV C h2 hc hct hcl) rfl hN h1.1 rfl (lv_room hW) hd hkc) h3 (fun q _ h => zfree h3 q h) (zfree h3) (fun r u t H1 locs1 ht hvm hq hB hz hk1 hS => ?_)
  exact k9 r u hq ls H1 locs1 h1 (by rw [← ht]; exact hB.1) hS
theorem z_callSv (C : zX p s m args meth c cc nL own rt E) {y : MethodName} {cc' : ByteArray} {nL' fr lo index N : Nat} {As st0 : List Value} {Q9 : zMem → Prop} (hM : zMv l y cc' nL' fr lo E As σ Q9) (hw : zWs own index y cc' nL' none N) (hws : Cond.static y ∈ zTB) (hR : fr + 1 ≤ R.frames ∧ 8 + (nL' + 11) + lo ≤ R.locals) (hkc : kc ≤ R.cells ∧ ks ≤ R.slots) (hN : As.length = N) (hst : st0 = As.reverse ++ st) (hW : (st.map fun v => v.category).sum ≤ 8) (hd : decode cc pc = .ok (.invokestatic index, 3)) (hn : pc + 3 = pc') (k9 : ∀ (u : zMem), Q9 u → zG p l e R s m args below meth c nL E kc ks Q u pc' lv st) : zG p l e R s m args below meth c nL E kc ks Q σ pc lv st0 := by
  intro ls H locs h1 h2 h3
  subst hn
  subst hst
  refine va_callv (va_runS (As := As) (rest := st) C.1 (hM H.size) ⟨zCB C hw hR, C.1.2.2.2.2 _ hws⟩ (zPS (locs := locs) C h2) rfl hN h1.1 rfl (lv_room hW) hd hkc) h3 (fun q _ h => zfree h3 q h) (zfree h3) (fun u t H1 locs1 ht hvm hq hB hz hk1 hS => ?_)
  exact k9 u hq ls H1 locs1 h1 (by rw [← ht]; exact hB.1) hS
theorem z_callVv (C : zX p s m args meth c cc nL own rt E) {y : MethodName} {cc' : ByteArray} {nL' fr lo index N q i ci : Nat} {As st0 : List Value} {Q9 : zMem → Prop} {fs : List Value} {w9 : vw_C} (hM : zMv l y cc' nL' fr lo E (.ref (E.2.2 q i) :: As) σ Q9) (hw : zWs own index y cc' nL' none N) (hwi : Cond.instanceMethod y ∈ zTB) (hws : Cond.selects w9.1 y y ∈ zTB) (hc : (q, i) ∈ zL) (hct : zct E q i (σ q i) = .inr (ci, fs)) (hcl : vwCl[ci]? = some w9) (hR : fr + 1 ≤ R.frames ∧ 8 + (nL' + 11) + lo ≤ R.locals) (hkc : kc ≤ R.cells ∧ ks ≤ R.slots) (hN : As.length = N) (hst : st0 = As.reverse ++ .ref (E.2.2 q i) :: st) (hW : (st.map fun v => v.category).sum ≤ 8) (hd : decode cc pc = .ok (.invokevirtual index, 3)) (hn : pc + 3 = pc') (k9 : ∀ (u : zMem), Q9 u → zG p l e R s m args below meth c nL E kc ks Q u pc' lv st) : zG p l e R s m args below meth c nL E kc ks Q σ pc lv st0 := by
  intro ls H locs h1 h2 h3
  subst hn
  subst hst
  refine va_callv (va_runV (C := w9.1) (b := E.2.2 q i) (As := As) (rest := st) C.1 (hM H.size) ⟨zCB C hw hR, C.1.2.2.2.2 _ hwi, C.1.2.2.2.2 _ hws⟩ (zPV C h2 hc hct hcl) rfl hN h1.1 rfl (lv_room hW) hd hkc) h3 (fun q _ h => zfree h3 q h) (zfree h3) (fun u t H1 locs1 ht hvm hq hB hz hk1 hS => ?_)
  exact k9 u hq ls H1 locs1 h1 (by rw [← ht]; exact hB.1) hS
end ZR
