/-! the law's start -/
theorem zcL_17 : zWs RL 17 yX10_init cX10_init 2 none 0 := ⟨(zr1 _ (List.mem_of_getElem? (i := 9) rfl)), (zr1 _ (List.mem_of_getElem? (i := 7) rfl)), (zr1 _ (List.mem_of_getElem? (i := 2) rfl)), by decide +kernel⟩
theorem znL_17 : yX10_init.name = "<init>" ∧ Cond.instanceMethod yX10_init ∈ zTB := ⟨rfl, (zr1 _ (List.mem_of_getElem? (i := 8) rfl))⟩
theorem zcL_20 : zWs RL 20 yX11_init cX11_init 1 none 0 := ⟨(zr5 _ (List.mem_of_getElem? (i := 18) rfl)), (zr5 _ (List.mem_of_getElem? (i := 16) rfl)), (zr1 _ (List.mem_of_getElem? (i := 5) rfl)), by decide +kernel⟩
theorem znL_20 : yX11_init.name = "<init>" ∧ Cond.instanceMethod yX11_init ∈ zTB := ⟨rfl, (zr5 _ (List.mem_of_getElem? (i := 17) rfl))⟩
theorem zkL_8 : Cond.classLink RL 8 RX10 ∈ zTB ∧ Cond.instantiable RX10 12 ∈ zTB ∧ Cond.initialized RX10 ∈ zTB := ⟨(zr1 _ (List.mem_of_getElem? (i := 0) rfl)), (zr1 _ (List.mem_of_getElem? (i := 1) rfl)), (zr1 _ (List.mem_of_getElem? (i := 2) rfl))⟩
theorem zkL_18 : Cond.classLink RL 18 RX11 ∈ zTB ∧ Cond.instantiable RX11 40 ∈ zTB ∧ Cond.initialized RX11 ∈ zTB := ⟨(zr1 _ (List.mem_of_getElem? (i := 3) rfl)), (zr1 _ (List.mem_of_getElem? (i := 4) rfl)), (zr1 _ (List.mem_of_getElem? (i := 5) rfl))⟩
theorem ex_D {s : State} {args : Array Value} (hts : ∀ w ∈ zTB, w.before args s = true) : ∃ D : va_G, ∀ (c : Nat) (q : vw_C), vwCl[c]? = some q → u_Kn s q.1 q.2.1 q.2.2 (D.1 c) (D.2 c) := by
  have h0 : ∀ (c : Nat) (q : vw_C), vwCl[c]? = some q → ∃ (cC : ClassId) (iS : Nat → Nat), u_Kn s q.1 q.2.1 q.2.2 cC iS := by
    intro c q hq
    match c, hq with
    | 0, hq => cases hq; exact u_known (C := RX0) (T := TX0) (N := 7) (n := 7) hts ziX0 (hts _ (zr3 _ (List.mem_of_getElem? (i := 1) rfl)))
    | 1, hq => cases hq; exact u_known (C := RX1) (T := TX1) (N := 0) (n := 0) hts ziX1 (hts _ (zr2 _ (List.mem_of_getElem? (i := 12) rfl)))
    | 2, hq => cases hq; exact u_known (C := RX2) (T := TX2) (N := 0) (n := 0) hts ziX2 (hts _ (zr2 _ (List.mem_of_getElem? (i := 18) rfl)))
    | 3, hq => cases hq; exact u_known (C := RX3) (T := TX3) (N := 0) (n := 0) hts ziX3 (hts _ (zr2 _ (List.mem_of_getElem? (i := 21) rfl)))
    | 4, hq => cases hq; exact u_known (C := RX4) (T := TX4) (N := 3) (n := 3) hts ziX4 (hts _ (zr2 _ (List.mem_of_getElem? (i := 8) rfl)))
    | 5, hq => cases hq; exact u_known (C := RX5) (T := TX5) (N := 6) (n := 6) hts ziX5 (hts _ (zr2 _ (List.mem_of_getElem? (i := 23) rfl)))
    | 6, hq => cases hq; exact u_known (C := RX6) (T := TX6) (N := 6) (n := 6) hts ziX6 (hts _ (zr2 _ (List.mem_of_getElem? (i := 0) rfl)))
    | 7, hq => cases hq; exact u_known (C := RX7) (T := TX7) (N := 7) (n := 7) hts ziX7 (hts _ (zr3 _ (List.mem_of_getElem? (i := 3) rfl)))
    | 8, hq => cases hq; exact u_known (C := RX8) (T := TX8) (N := 2) (n := 2) hts ziX8 (hts _ (zr2 _ (List.mem_of_getElem? (i := 4) rfl)))
    | 9, hq => cases hq; exact u_known (C := RX9) (T := TX9) (N := 0) (n := 0) hts ziX9 (hts _ (zr2 _ (List.mem_of_getElem? (i := 15) rfl)))
    | 10, hq => cases hq; exact u_known (C := RX10) (T := TX10) (N := 12) (n := 12) hts ziX10 (hts _ (zr1 _ (List.mem_of_getElem? (i := 1) rfl)))
    | 11, hq => cases hq; exact u_known (C := RX11) (T := TX11) (N := 40) (n := 40) hts ziX11 (hts _ (zr1 _ (List.mem_of_getElem? (i := 4) rfl)))
    | c + 12, hq => simp [vwCl] at hq
  have h1 : ∀ c : Nat, ∃ x : ClassId × (Nat → Nat), ∀ q : vw_C, vwCl[c]? = some q → u_Kn s q.1 q.2.1 q.2.2 x.1 x.2 := by
    intro c
    cases h9 : vwCl[c]? with
    | none => exact ⟨(0, fun _ => 0), fun q hq => by cases hq⟩
    | some q =>
      obtain ⟨a, b, h⟩ := h0 c q h9
      exact ⟨(a, b), fun q' hq => by cases hq; exact h⟩
  obtain ⟨f, hf⟩ := Classical.axiomOfChoice h1
  exact ⟨(fun c => (f c).1, fun c => (f c).2), fun c q hq => hf c q hq⟩
theorem ex_prim {s : State} {args : Array Value} {ty : FieldType} (hR : ∀ cA, s.vm.findClass ("[" ++ ty.toString) = some cA → va_RA s cA ty) (h : (Cond.arrayClass ty).before args s = true) : ∃ cA : ClassId, ArrOfT s cA ty ∧ va_RA s cA ty := by
  obtain ⟨cA, kA, comp, f1, f2, f3⟩ := Cond.arrayClass_spec h
  exact ⟨cA, fun n z => ⟨fun k h => (by cases h), kA, f2, comp, f3⟩, hR _ f1⟩
theorem ex_obj {s : State} {args : Array Value} {C : String} (h : (Cond.arrayOver (.object C)).before args s = true) : ∃ cA : ClassId, ArrOfT s cA (.object C) ∧ va_RA s cA (.object C) := by
  obtain ⟨comp, cA, kA, g1, g2, g3, g4, g5⟩ := Cond.arrayOver_spec h
  exact ⟨cA, fun n z => ⟨fun k h => (by cases h), kA, g3, comp, g4⟩, kA, comp, g3, g4, g1, g5⟩
theorem ex_cy {s : State} {args : Array Value} (hts : ∀ w ∈ zTB, w.before args s = true) (a1 : (Cond.arrayOver (.object RX1)).before args s = true) (a2 : (Cond.arrayOver (.object RX5)).before args s = true) (a3 : (Cond.arrayOver (.object RX0)).before args s = true) (a4 : (Cond.arrayOver (.object RX7)).before args s = true) : ∃ cy : Nat → ClassId, ∀ (k : Nat) (q : ClassId × FieldType), (zTy cy)[k]? = some q → ArrOfT s q.1 q.2 ∧ va_RA s q.1 q.2 := by
  obtain ⟨c0, h0⟩ := ex_prim (s := s) (ty := .int) (fun _ h => h) (hts _ zacI)
  obtain ⟨c1, h1⟩ := ex_prim (s := s) (ty := .boolean) (fun _ h => h) (hts _ zacZ)
  obtain ⟨c2, h2⟩ := ex_prim (s := s) (ty := .byte) (fun _ h => h) (hts _ zacB)
  obtain ⟨c3, h3⟩ := ex_obj a1
  obtain ⟨c4, h4⟩ := ex_obj a2
  obtain ⟨c5, h5⟩ := ex_obj a3
  obtain ⟨c6, h6⟩ := ex_obj a4
  obtain ⟨c7, h7⟩ := ex_prim (s := s) (ty := .long) (fun _ h => h) (hts _ zacL)
  refine ⟨fun k => match k with | 0 => c0 | 1 => c1 | 2 => c2 | 3 => c3 | 4 => c4 | 5 => c5 | 6 => c6 | _ => c7, ?_⟩
  intro k q hq
  match k, hq with
  | 0, hq => cases hq; exact h0
  | 1, hq => cases hq; exact h1
  | 2, hq => cases hq; exact h2
  | 3, hq => cases hq; exact h3
  | 4, hq => cases hq; exact h4
  | 5, hq => cases hq; exact h5
  | 6, hq => cases hq; exact h6
  | 7, hq => cases hq; exact h7
  | k + 8, hq => simp [zTy] at hq
theorem str_of {args : Array Value} {s : State} {own tx : String} {k : Nat} (h1 : (Cond.stringRef own k tx).before args s = true) (h2 : (Cond.exactly (.string own k) "java/lang/String").before args s = true) : ∃ a, vk_R own k tx a s := by
  obtain ⟨a, ha⟩ : ∃ a, (Term.string own k).eval args s none [] s = some (.ref a) := by
    obtain ⟨a, c, cell, k9, q1, -⟩ := Cond.exactly_spec h2
    exact ⟨a, q1⟩
  exact ⟨a, vk_R.of h1 ha⟩
theorem Inv_0 : Inv s0m := by
  refine ⟨fun p hp => ?_, ⟨0, by decide, rfl, rfl, fun b hb => ⟨fun h => absurd h (by omega), fun _ => ⟨rfl, rfl, rfl, rfl⟩⟩⟩, ⟨⟨5, by decide, by decide, rfl, rfl⟩, ⟨0, by decide, rfl, rfl⟩, fun d hd => ⟨rfl, Or.inl rfl⟩⟩, ?_, fun d hd => ⟨rfl, Or.inl rfl⟩⟩
  · exact ⟨⟨0, by decide, rfl, rfl, rfl⟩, ⟨0, by decide, rfl, rfl⟩, Or.inl ⟨rfl, rfl, rfl, rfl, rfl⟩⟩
  · exact (sm_zero (fun k hk => if_pos rfl)).symm
theorem zP_fin {E : bE} {H : Heap} (h : bP E (112, fin E) H) : zP (zof E) s0m H := by
  intro k q hk
  rw [zws, List.getElem?_map] at hk
  cases h9 : zL[k]? with
  | none => rw [h9] at hk; cases hk
  | some a =>
    rw [h9] at hk
    cases hk
    have hm := List.mem_of_getElem? h9
    exact bP_get h hm (off_lt a hm)
theorem zInj_of (E : bE) : zInj (zof E) := fun q q' h h' e => off_inj q h q' h' (Nat.add_left_cancel e)
set_option maxHeartbeats 16000000 in
theorem whole_start {p : Program} {e : Env} {s : State} {m : MethodId} {below : List Frame} {meth : Method} {c : Code} (l : Launch) (hl : l.stackTraces = false) {b L : Nat} {xs : Nat → Int32} (hL : L ≤ 3072) (C0 : lw_At p s m meth c b L xs) : W p l e room_1 s m #[Value.ref b] below meth c s.heap [] 0 0 (lw_Z below #[Value.ref b] s) (entryFrame m ([Value.ref b] : List Value).toArray 8) := by
  obtain ⟨hx, hb, hr, hml, hown, htl, hX, hbl, hlocks, hgv⟩ := id C0
  have hts : ∀ w ∈ zTB, w.before #[Value.ref b] s = true := fun w hw => htl w (zTB_in w hw)
  have hs := flat_of_before _ hgv
  have o1 := htl (Cond.arrayOver (.object RX1)) (by decide +kernel)
  have o2 := htl (Cond.arrayOver (.object RX5)) (by decide +kernel)
  have o3 := htl (Cond.arrayOver (.object RX0)) (by decide +kernel)
  have o4 := htl (Cond.arrayOver (.object RX7)) (by decide +kernel)
  obtain ⟨D, hD⟩ := ex_D hts
  obtain ⟨cy, hcy⟩ := ex_cy hts o1 o2 o3 o4
  obtain ⟨E, hE⟩ : ∃ E : bE, E = (D, cy, s.heap.size) := ⟨_, rfl⟩
  have eb : E.2.2 = s.heap.size := by rw [hE]
  have hK : va_K E.1 vwCl (zTy E.2.1) s := by rw [hE]; exact ⟨hD, hcy⟩
  have hBK : BK E s := ⟨hK, ⟨va_AO.of o1, va_AO.of o2, va_AO.of o3, va_AO.of o4⟩, va_Nw.of rfl (htl (Cond.castable RX9 RX1) (by decide +kernel)), va_Nw.of rfl (htl (Cond.castable RX2 RX1) (by decide +kernel)), va_Nw.of rfl (htl (Cond.castable RX3 RX1) (by decide +kernel))⟩
  have hfix : CallFix p m c cL_law 8 s #[Value.ref b] zTB RL := ⟨hx, hb, hml, hown, hts⟩
  have C : bX p s m #[Value.ref b] c cL_law 8 RL E := ⟨hfix, hBK, Nat.le_of_eq eb⟩
  have CZ : zX p s m #[Value.ref b] meth c cL_law 8 RL ret (zof E) := ⟨hfix, hK, zInj_of E, hr, hlocks⟩
  have hEE : ∀ q : Nat × Nat, q ∈ zL → s.heap.size ≤ (zof E).2.2 q.1 q.2 := fun q _ => by show s.heap.size ≤ E.2.2 + off q.1 q.2; omega
  have hnA : ∀ a : Nat, a < s.heap.size → ¬ zA (zof E) s.heap.size a := by
    intro a ha
    rintro (⟨c9, h8, h9⟩ | h9)
    · have := hEE c9 h8
      omega
    · omega
  have hini : (Cond.initialized Bundle.tN).before #[Value.ref b] s = true := htl _ (by decide +kernel)
  have hT : TX (zA (zof E) s.heap.size) s := ⟨fun w hw => tx_at (State.WarmedH.refl s) (txW_ok hw) (htl w (txW_in w hw)), vx_Zqof (htl _ (by decide +kernel)) hini (hs _ (by decide +kernel)) hnA, vx_Zqof (htl _ (by decide +kernel)) hini (hs _ (by decide +kernel)) hnA, (str_of (htl (Cond.stringRef RX2 15 "the ground is flooded") (by decide +kernel)) (hs (Cond.exactly (.string RX2 15) "java/lang/String") (by decide +kernel))), (str_of (htl (Cond.stringRef RX3 15 "the ground is high") (by decide +kernel)) (hs (Cond.exactly (.string RX3 15) "java/lang/String") (by decide +kernel))), (str_of (htl (Cond.stringRef RX9 21 "the ground is wet") (by decide +kernel)) (hs (Cond.exactly (.string RX9 21) "java/lang/String") (by decide +kernel))), (str_of (htl (Cond.stringRef RX10 259 "no such shelf") (by decide +kernel)) (hs (Cond.exactly (.string RX10 259) "java/lang/String") (by decide +kernel))), (str_of (htl (Cond.stringRef RX10 269 "no row is held") (by decide +kernel)) (hs (Cond.exactly (.string RX10 269) "java/lang/String") (by decide +kernel))), (str_of (htl (Cond.stringRef RX10 275 "no such place") (by decide +kernel)) (hs (Cond.exactly (.string RX10 275) "java/lang/String") (by decide +kernel))), va_Nc.of (hs (Cond.not (.castable zISE zIAE)) (by decide +kernel))⟩
  have hl1 := lv_entry [Value.ref b] (n := 8) (Nat.le_of_ble_eq_true rfl)
  rw [lg_entry_eq]
  have hP0 : bP E (0, fin E) s.heap := bP_of (by rw [eb]; rfl) (fun q i _ ho => absurd ho (Nat.not_lt_zero _))
  have fin9 : bG p l e room_1 s m #[Value.ref b] below meth c 8 E 0 0 (lw_Z below #[Value.ref b] s) (0, fin E) 0 [(0, .ref b)] [] := by
    refine b_new (q := 0) (i := 0) (ci := 10) (N := 12) (fs := [.null, .null, .null, .null, .null, .null, .null, .null, .int 0, .int 0, .int 0, .int 0]) (ct' := cu (fin E) 0 0 (.inr (10, [.null, .null, .null, .null, .null, .null, .null, .null, .int 0, .int 0, .int 0, .int 0]))) (pc' := 3) C ziX10 tyX10 tyX10_ok zkL_8 (zL_mem (by decide) zo0) rfl rfl (by decide) (Nat.le_of_ble_eq_true rfl) (Nat.le_of_ble_eq_true rfl) dL_law_0 rfl rfl ?_
    refine b_dup (pc' := 4) C dL_law_3 rfl rfl ?_
    refine b_callI (τ' := (78, fin E)) (As := []) (st := [.ref (bad E 0 0)]) (pc' := 7) C (bc_X10 l E) zcL_17 znL_17 ⟨by decide, by decide⟩ ⟨(Nat.le_of_ble_eq_true rfl), (Nat.le_of_ble_eq_true rfl)⟩ rfl rfl (Nat.le_of_ble_eq_true rfl) dL_law_4 rfl ?_
    refine b_astore_n (pc' := 8) (lv' := [(1, .ref (bad E 0 0)), (0, .ref b)]) C dL_law_7 rfl (by decide) rfl rfl ?_
    refine b_new (q := 22) (i := 0) (ci := 11) (N := 40) (fs := [.int 0, .null, .null, .null, .null, .null, .null, .null, .null, .int 0, .null, .null, .null, .null, .null, .null, .int 0, .null, .null, .int 0, .int 0, .int 0, .null, .null, .null, .int 0, .null, .null, .null, .int 0, .null, .null, .null, .null, .null, .null, .null, .null, .null, .null]) (ct' := cu (fin E) 22 0 (.inr (11, [.int 0, .null, .null, .null, .null, .null, .null, .null, .null, .int 0, .null, .null, .null, .null, .null, .null, .int 0, .null, .null, .int 0, .int 0, .int 0, .null, .null, .null, .int 0, .null, .null, .null, .int 0, .null, .null, .null, .null, .null, .null, .null, .null, .null, .null]))) (pc' := 11) C ziX11 tyX11 tyX11_ok zkL_18 (zL_mem (by decide) zo22) rfl rfl (by decide) (Nat.le_of_ble_eq_true rfl) (Nat.le_of_ble_eq_true rfl) dL_law_8 rfl rfl ?_
    refine b_dup (pc' := 12) C dL_law_11 rfl rfl ?_
    refine b_callI (τ' := (111, fin E)) (As := []) (st := [.ref (bad E 22 0)]) (pc' := 15) C (bc_X11 l E (fin E) rfl rfl rfl rfl rfl rfl rfl rfl rfl rfl rfl rfl rfl rfl rfl rfl rfl rfl rfl rfl rfl rfl rfl rfl rfl rfl rfl rfl rfl rfl rfl rfl rfl) zcL_20 znL_20 ⟨by decide, by decide⟩ ⟨(Nat.le_of_ble_eq_true rfl), (Nat.le_of_ble_eq_true rfl)⟩ rfl rfl (Nat.le_of_ble_eq_true rfl) dL_law_12 rfl ?_
    refine b_astore_n (pc' := 16) (lv' := [(2, .ref (bad E 22 0)), (1, .ref (bad E 0 0)), (0, .ref b)]) C dL_law_15 rfl (by decide) rfl rfl ?_
    refine b_iconst (v := 1) (pc' := 17) C dL_law_16 (by decide) rfl ?_
    refine b_newa (q := 55) (i := 0) (t0 := 7) (N' := 1) (a0 := (1, .inr (.inl (fun _ => 0)))) (ct' := fin E) (pc' := 19) C zacL rfl rfl raL (zL_mem (by decide) zo55) rfl (fun _ => rfl) (by decide) rfl (by decide) (Nat.le_of_ble_eq_true rfl) (Nat.le_of_ble_eq_true rfl) dL_law_17 rfl (cu_id _ rfl) ?_
    refine b_astore_n (pc' := 20) (lv' := [(3, .ref (bad E 55 0)), (2, .ref (bad E 22 0)), (1, .ref (bad E 0 0)), (0, .ref b)]) C dL_law_19 rfl (by decide) rfl rfl ?_
    refine b_iconst (v := 0) (pc' := 21) C dL_law_20 (by decide) rfl ?_
    refine b_istore (pc' := 23) (lv' := [(4, .int 0), (3, .ref (bad E 55 0)), (2, .ref (bad E 22 0)), (1, .ref (bad E 0 0)), (0, .ref b)]) C dL_law_21 (by decide) rfl rfl ?_
    refine b_wide (kc' := 112 + 0) (ks' := 2834 + 6 * 0) (Nat.le_of_ble_eq_true rfl) (Nat.le_of_ble_eq_true rfl) ?_
    intro ls H locs h1 h2 h3
    have hS : va_S (zA (zof E) s.heap.size) s.heap H locs := ⟨h3.1, fun q a1 _ => h3.2.1 q a1 (fun z => by have z' : E.2.2 ≤ q := z; omega), fun q hq => Or.inr (by have z' : E.2.2 ≤ q.base := h3.2.2 q hq; omega)⟩
    have key := law_loop (kc := 112) (ks := 2834) (e := e) (below := below) hl hT CZ hEE hX hbl hL (by decide) (by decide) 513 0 s0m rfl Inv_0
    exact z_sub (lv' := lvL (zof E) b 0) [0, 4, 3, 2, 1] rfl key ls H locs h1 (zP_fin h2) hS
  exact fin9 _ _ _ hl1 hP0 va_S.rf
