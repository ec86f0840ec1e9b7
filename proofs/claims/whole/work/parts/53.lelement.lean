/-! the law's element -/
abbrev hLel : List (Nat × Nat × Nat × Nat) := [(0, 9, 12, 13), (0, 9, 16, 15)]
theorem zwL_7 : zWs RL 7 yX10_element cX10_element 4 (some .long) 2 := ⟨by decide +kernel, by decide +kernel, by decide +kernel, by decide +kernel⟩
theorem zvL_7 : Cond.instanceMethod yX10_element ∈ zTB ∧ Cond.selects RX10 yX10_element yX10_element ∈ zTB ∧ Cond.classLink RL 13 zIAE ∈ zTB ∧ Cond.classLink RL 15 zISE ∈ zTB := ⟨by decide +kernel, by decide +kernel, by decide +kernel, by decide +kernel⟩
set_option maxHeartbeats 4000000 in
theorem sc_L_element (l : Launch) (hl : l.stackTraces = false) (E : zE) (σ : zMem) (hIn : Inv σ) (a b : Int32) : ∀ sz, Met l yL_element (Cond.codeWith yL_element cL_element 5 (some .int) hLel :: zTB) (zRx 7 123) (va_Pc [.ref (E.2.2 0 0), .int a, .int b, .ref (E.2.2 55 0)] (zPreX E σ sz)) (va_Qi (fun r u => r = nI (eK σ a b) ∧ u = (if eK σ a b = 0 then um σ 55 0 0 (eV σ a b) else σ)) (zPost E) (zA E sz)) 1 6 (zA E sz) := by
  intro sz
  refine va_MetW (cc := cL_element) (maxL := 5) (ret := some .int) (hh := hLel) (by decide) rfl ?_
  intro p e s m args below meth c s₁ B hml hv
  obtain ⟨rfl, ⟨hsz, hP, hK, hI⟩, hT⟩ := hv
  subst hsz
  have hts := atoms_spec (ws := Cond.codeWith yL_element cL_element 5 (some .int) hLel :: zTB) B.pre
  have C : zX p s m [Value.ref (E.2.2 0 0), .int a, .int b, .ref (E.2.2 55 0)].toArray meth c cL_element 5 RL (some .int) E := ⟨⟨B.exec, B.bytes, hml, findClass_of_methodNamed B.named, fun w hw => hts w (List.mem_cons_of_mem _ hw)⟩, hK, hI, B.returns, B.notSynchronized⟩
  have htab : c.exceptionTable.toList = tableOf hLel := vx_table (x := yL_element) B (hts _ List.mem_cons_self)
  have hl1 := lv_entry [Value.ref (E.2.2 0 0), .int a, .int b, .ref (E.2.2 55 0)] (n := 5) (Nat.le_of_ble_eq_true rfl)
  rw [lg_entry_eq]
  have fin : zG p l e (zRx 7 123) s m [Value.ref (E.2.2 0 0), .int a, .int b, .ref (E.2.2 55 0)].toArray below meth c 5 E 0 0 (MQ below (va_Qi (fun r u => r = nI (eK σ a b) ∧ u = (if eK σ a b = 0 then um σ 55 0 0 (eV σ a b) else σ)) (zPost E) (zA E s.heap.size)) [Value.ref (E.2.2 0 0), .int a, .int b, .ref (E.2.2 55 0)].toArray s 1 6 (zA E s.heap.size)) σ 0 [(0, .ref (E.2.2 0 0)), (1, .int a), (2, .int b), (3, .ref (E.2.2 55 0))] [] := by
    refine z_aload_n (pc' := 1) C dL_element_0 rfl 3 rfl rfl ?_
    refine z_iconst (v := 0) (pc' := 2) C dL_element_1 (by decide) rfl ?_
    refine z_aload_n (pc' := 3) C dL_element_2 rfl 0 rfl rfl ?_
    refine z_iload_n (pc' := 4) C dL_element_3 rfl 1 rfl rfl ?_
    refine z_iload_n (pc' := 5) C dL_element_4 rfl 2 rfl rfl ?_
    have hm := zL_mem (q := 0) (i := 0) (by decide) zo0
    intro ls H locs h1 h2 h3
    refine vx_calll (vx_runV (C := RX10) (b := E.2.2 0 0) (As := [.int a, .int b]) (rest := [.int 0, .ref (E.2.2 55 0)]) C.1 (sc_X10_element l hl E σ hIn a b H.size) ⟨callB_of 2 C.1.2.2.2.2 (zGood zwL_7.1) rfl rfl rfl (C.1.2.2.2.2 _ zwL_7.2.2.1) (C.1.2.2.2.2 _ zwL_7.2.1) zwL_7.2.2.2 ⟨by decide, by decide⟩, C.1.2.2.2.2 _ zvL_7.1, C.1.2.2.2.2 _ zvL_7.2.1⟩ (zPVx (w9 := (RX10, TX10, 12)) C hT h2 h3 hm rfl rfl) rfl rfl h1.1 rfl (lv_room (Nat.le_of_ble_eq_true rfl)) dL_element_5 ⟨by decide, by decide⟩) h3 (fun q _ h => zfree h3 q h) (zfree h3) (fun q _ h => zfree h3 q h) ?_ ?_
    · intro E9 ce q9 u t H1 locs1 hth hvm hp hB hz hk1 hS hce hcv hcl9
      obtain ⟨hB0, hB⟩ := hB
      subst hp
      rcases hB0 with ⟨rfl, hk⟩ | ⟨rfl, hk⟩
      · refine vx_catch (own := RL) (name := zIAE) (E := zIAE) C.1.2.2.2.1 [] ⟨0, 9, 12, 13⟩ [⟨0, 9, 16, 15⟩] htab (fun z hz => nomatch hz) (by decide) (by decide) (C.1.2.2.2.2 _ zvL_7.2.2.1) (tx_w hT (txmC _ (List.mem_cons_of_mem _ List.mem_cons_self))) hce hcv hcl9 ?_
        refine (?_ : zG p l e (zRx 7 123) s m [Value.ref (E.2.2 0 0), .int a, .int b, .ref (E.2.2 55 0)].toArray below meth c 5 E 1 6 (MQ below (va_Qi (fun r u' => r = nI (eK u a b) ∧ u' = (if eK u a b = 0 then um u 55 0 0 (eV u a b) else u)) (zPost E) (zA E s.heap.size)) [Value.ref (E.2.2 0 0), .int a, .int b, .ref (E.2.2 55 0)].toArray s 1 6 (zA E s.heap.size)) u 12 [(0, .ref (E.2.2 0 0)), (1, .int a), (2, .int b), (3, .ref (E.2.2 55 0))] [.ref q9]) ls H1 locs1 h1 (by rw [← hth]; exact hB.1) hS
        refine z_astore (pc' := 14) (lv' := [(4, .ref q9), (0, .ref (E.2.2 0 0)), (1, .int a), (2, .int b), (3, .ref (E.2.2 55 0))]) C dL_element_12 (by decide) rfl rfl ?_
        refine z_iconst (v := 1) (pc' := 15) C dL_element_14 (by decide) rfl ?_
        exact z_iretX C (by decide) (by decide) dL_element_15 ⟨by rw [hk]; rfl, by rw [hk, if_neg (by decide)]⟩
      · refine vx_catch (own := RL) (name := zISE) (E := zISE) C.1.2.2.2.1 [⟨0, 9, 12, 13⟩] ⟨0, 9, 16, 15⟩ [] htab (fun z hz => ?_) (by decide) (by decide) (C.1.2.2.2.2 _ zvL_7.2.2.2) (tx_w hT (txmC _ List.mem_cons_self)) hce hcv hcl9 ?_
        · rcases List.mem_cons.mp hz with h | h
          · subst h
            exact Or.inr ⟨by decide, zIAE, C.1.2.2.2.2 _ zvL_7.2.2.1, hT.2.2.2.2.2.2.2.2.2⟩
          · cases h
        refine (?_ : zG p l e (zRx 7 123) s m [Value.ref (E.2.2 0 0), .int a, .int b, .ref (E.2.2 55 0)].toArray below meth c 5 E 1 6 (MQ below (va_Qi (fun r u' => r = nI (eK u a b) ∧ u' = (if eK u a b = 0 then um u 55 0 0 (eV u a b) else u)) (zPost E) (zA E s.heap.size)) [Value.ref (E.2.2 0 0), .int a, .int b, .ref (E.2.2 55 0)].toArray s 1 6 (zA E s.heap.size)) u 16 [(0, .ref (E.2.2 0 0)), (1, .int a), (2, .int b), (3, .ref (E.2.2 55 0))] [.ref q9]) ls H1 locs1 h1 (by rw [← hth]; exact hB.1) hS
        refine z_astore (pc' := 18) (lv' := [(4, .ref q9), (0, .ref (E.2.2 0 0)), (1, .int a), (2, .int b), (3, .ref (E.2.2 55 0))]) C dL_element_16 (by decide) rfl rfl ?_
        refine z_iconst (v := 2) (pc' := 19) C dL_element_18 (by decide) rfl ?_
        exact z_iretX C (by decide) (by decide) dL_element_19 ⟨by rw [hk]; rfl, by rw [hk, if_neg (by decide)]⟩
    · intro r u t H1 locs1 hth hvm hp hB hz hk1 hS
      obtain ⟨hk, hr, hu⟩ := hp
      subst hu
      refine (?_ : zG p l e (zRx 7 123) s m [Value.ref (E.2.2 0 0), .int a, .int b, .ref (E.2.2 55 0)].toArray below meth c 5 E 1 6 (MQ below (va_Qi (fun r u' => r = nI (eK u a b) ∧ u' = (if eK u a b = 0 then um u 55 0 0 (eV u a b) else u)) (zPost E) (zA E s.heap.size)) [Value.ref (E.2.2 0 0), .int a, .int b, .ref (E.2.2 55 0)].toArray s 1 6 (zA E s.heap.size)) u 8 [(0, .ref (E.2.2 0 0)), (1, .int a), (2, .int b), (3, .ref (E.2.2 55 0))] [.long r, .int 0, .ref (E.2.2 55 0)]) ls H1 locs1 h1 (by rw [← hth]; exact hB.1) hS
      refine z_last (pc' := 9) (x := 0) (y := eV u a b) C (in_nI (k := 0) (by decide) (by decide)) hr dL_element_8 rfl ?_
      refine z_goto (tgt := 20) C dL_element_9 (by decide) ?_
      refine z_iconst (v := 0) (pc' := 21) C dL_element_20 (by decide) rfl ?_
      exact z_iretX C (by decide) (by decide) dL_element_21 ⟨by rw [hk]; rfl, by rw [hk, if_pos rfl]; rfl⟩
  exact fin _ _ _ hl1 hP va_S.rf
/-! the pure side of toss and element -/
theorem st_toss {σ : zMem} (hI : Inv σ) (a : Int32) : vc_X10_toss σ a (fun r σ1 => vc_X11_toss σ1 a (fun r2 σ2 => r = r2 ∧ Inv σ2)) := by
  by_cases ha : vp_in a 8
  · obtain ⟨d, hd, rfl⟩ := in_of ha (by decide)
    have hD := hI.2.2.2.2 d hd
    refine p_refusal hd ?_
    rw [cl (by omega)]
    by_cases h0 : σ 8 d 0 = 0
    · rw [if_pos h0]
      refine kf (by decide) (m_noPlot hd ?_)
      rw [← hD.1, if_pos h0]
      exact kf (by decide) ⟨rfl, hI⟩
    · rw [if_neg h0]
      by_cases h1 : σ 8 d 0 = 1
      · rw [if_pos h1]
        rcases hD.2 with z | ⟨z1, z2, ⟨g, hg, z3, z4⟩, z5⟩ | ⟨z, -⟩
        · exact absurd z h0
        · rw [z3, cl (by omega)]
          have hm : vc_X11_toss σ (nI d) (fun r2 σ2 => (if g = 0 then -15 else σ 8 d 1) = r2 ∧ Inv σ2) := by
            refine m_noPlot hd ?_
            rw [← hD.1, if_neg h0, if_pos h1]
            refine kt (by decide) ⟨ha, ?_⟩
            rw [cl (by omega), z4]
            refine ⟨fun c => ⟨ha, ?_, hI⟩, fun c => ⟨?_, hI⟩⟩
            · rw [if_neg (fun z => c (by rw [z]; rfl)), z2]
            · rw [if_pos ((nI_eq (b := 0) (by omega) (by decide)).mp c)]
          refine kt rfl ⟨ha, hg, fun c => ?_, fun c => ?_⟩
          · have hg0 : g = 0 := by
              by_cases hz : g = 0
              · exact hz
              · rw [thr, if_neg hz] at c
                exact absurd c (by decide)
            rw [if_pos hg0] at hm
            exact hm
          · have hg0 : ¬ g = 0 := fun hz => c (by rw [thr, if_pos hz])
            rw [if_neg hg0] at hm
            exact hm
        · rw [h1] at z
          exact absurd z (by decide)
      · rw [if_neg h1]
        refine kf (by decide) (m_noPlot hd ?_)
        rw [← hD.1, if_neg h0, if_neg h1]
        exact kf (by decide) ⟨rfl, hI⟩
  · unfold vc_X10_toss vc_X10_refusalOfPlotOn
    refine p_isShelf_f ha (k0' ?_)
    refine kf (show ¬ (-1 : Int32) = 0 by decide) ?_
    unfold vc_X11_toss vc_X11_noPlot
    refine m_isShelf_f ha (k0' ?_)
    exact kf (show ¬ (0 : Int32) ≤ -1 by decide) ⟨rfl, hI⟩
/-- the reference's element answers as the class's does -/
theorem m_element {σ : zMem} (hI : Inv σ) (a b : Int32) {Q : Int64 → zMem → Prop} (k : ∀ (r : Int64) (u : zMem), u 22 0 0 = nI (eK σ a b) → (eK σ a b = 0 → r = (eV σ a b).toInt64) → Inv u → (∀ j, u 55 0 j = σ 55 0 j) → Q r u) : vc_X11_element σ a b Q := by
  have hum : ∀ v, Inv (um σ 22 0 0 v) ∧ ∀ j, um σ 22 0 0 v 55 0 j = σ 55 0 j := fun v => ⟨Inv_same (Same.rf.um rfl) hI, fun j => um_q _ _ (by decide)⟩
  by_cases ha : vp_in a 8
  · obtain ⟨d, hd, rfl⟩ := in_of ha (by decide)
    have hD := hI.2.2.2.2 d hd
    refine m_isShelf_t ha (k1' ⟨ha, ?_⟩)
    rw [cl (by omega)]
    simp only [um_s]
    have e8 : eK σ (nI d) b = if σ 8 d 0 = 3 ∨ σ 8 d 0 = 4 then (if b < 0 ∨ σ 8 d 6 ≤ b then 2 else 0) else 2 := by
      rw [eK, if_neg (not_in8 ha), cl (by omega)]
    rcases hD.2 with z | z | ⟨hw, n, hn, h86, h53, hrow⟩
    · refine kt (by rw [← hD.1, z]; decide) (kf (by decide) (k _ _ ?_ ?_ (hum 2).1 (hum 2).2))
      · rw [um_s, e8, if_neg (by rw [z]; decide)]; rfl
      · rw [e8, if_neg (by rw [z]; decide)]; intro h; exact absurd h (by decide)
    · refine kt (by rw [← hD.1, z.1]; decide) (kf (by decide) (k _ _ ?_ ?_ (hum 2).1 (hum 2).2))
      · rw [um_s, e8, if_neg (by rw [z.1]; decide)]; rfl
      · rw [e8, if_neg (by rw [z.1]; decide)]; intro h; exact absurd h (by decide)
    · rw [if_pos hw, h86] at e8
      have h3 : ¬ σ 49 0 d < 3 := by
        rw [← hD.1]
        rcases hw with hw | hw <;> rw [hw] <;> decide
      refine kf h3 ⟨ha, ?_⟩
      rw [h53]
      have e0 : (0 : Int32).toInt = 0 := rfl
      have en : (nI n - 1).toInt = (n : Int) - 1 := by
        rw [Int32.toInt_sub, fb_bmod, ti (by omega)]
        · rfl
        · rw [ti (by omega)]
          have e1 : (1 : Int32).toInt = 1 := rfl
          omega
        · rw [ti (by omega)]
          have e1 : (1 : Int32).toInt = 1 := rfl
          omega
      by_cases hb : b < 0 ∨ nI n ≤ b
      · rw [if_pos hb] at e8
        refine m_in_f ?_ (k0' (kf (by decide) (k _ _ ?_ ?_ (hum 2).1 (hum 2).2)))
        · rw [tl, te, ti (by omega)] at hb
          omega
        · rw [um_s, e8]; rfl
        · rw [e8]; intro h; exact absurd h (by decide)
      · rw [if_neg hb] at e8
        rw [tl, te, ti (by omega)] at hb
        obtain ⟨y, hy, rfl⟩ := in_of (x := b) (n := n) (vp_in_iff.mpr (by omega)) (by omega)
        refine m_in_t (by rw [en, ti (by omega)]; omega) (k1' (kt (by decide) ⟨?_, ?_⟩))
        · rw [n60 d hd y (by omega)]
          exact in_nI (by omega) (by decide)
        · rw [n60 d hd y (by omega), cl (by omega)]
          refine k _ _ ?_ (fun _ => ?_) (hum 0).1 (hum 0).2
          · rw [um_s, e8]; rfl
          · rw [um_q _ _ (by decide), eV, cl (by omega), cl (by omega)]
            rcases hw with hw | hw
            · rw [if_pos hw, ← (hrow y hy).1 hw]
            · rw [if_neg (by rw [hw]; decide), ← ((hrow y hy).2 hw).1]
  · refine m_isShelf_f ha (k0' ?_)
    simp only [um_s]
    have e8 : eK σ a b = 1 := by rw [eK, if_pos (not_in8' ha)]
    refine kf (by decide) (k _ _ ?_ ?_ (hum 1).1 (hum 1).2)
    · rw [um_s, e8]; rfl
    · rw [e8]; intro h; exact absurd h (by decide)
