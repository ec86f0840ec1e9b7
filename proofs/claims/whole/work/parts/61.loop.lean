/-! the law's loop: element, toss, the turn, the end -/
section ZLP
variable {p : Program} {l : Launch} {e : Env} {R : Room} {s : State} {m : MethodId} {args : Array Value} {below : List Frame} {meth : Method} {c : Code} {nL kc ks : Nat} {E : zE} {Q : State → Prop} {σ : zMem} {pc pc' : Nat} {lv lv' : List (Nat × Value)} {st : List Value} {cc : ByteArray} {rt : Option FieldType} {own : String} {b L i : Nat} {xs : Nat → Int32}
theorem z_lcmp0 (C : zX p s m args meth c cc nL own rt E) {x : Int64} (hd : decode cc pc = .ok (.lcmp, 1)) (hn : pc + 1 = pc') (k9 : zG p l e R s m args below meth c nL E kc ks Q σ pc' lv (.int 0 :: st)) : zG p l e R s m args below meth c nL E kc ks Q σ pc lv (.long x :: .long x :: st) := by
  intro ls H locs h1 h2 h3
  subst hn
  refine W.lcmp C.1.1 C.1.2.1 hd ?_
  have e0 : lg_cmp x x = 0 := by
    unfold lg_cmp
    rw [if_neg (Int64.lt_irrefl), if_pos rfl]
  rw [e0]
  exact k9 ls H locs h1 h2 h3
theorem z_lald (C : zX p s m args meth c cc nL own rt E) {x : Int32} (hin : vp_in x 1) (hd : decode cc pc = .ok (.laload, 1)) (hn : pc + 1 = pc') (k9 : zG p l e R s m args below meth c nL E kc ks Q σ pc' lv (.long (σ 55 0 x.toNatClampNeg).toInt64 :: st)) : zG p l e R s m args below meth c nL E kc ks Q σ pc lv (.int x :: .ref (E.2.2 55 0) :: st) := by
  intro ls H locs h1 h2 h3
  subst hn
  obtain ⟨k, hk0, hk⟩ := zws_get E σ (zL_mem (q := 55) (i := 0) (by decide) (by decide))
  exact va_lald C.1.1 C.1.2.1 C.2.1 h2 k 7 hk rfl hin hd (k9 ls H locs h1 h2 h3)
theorem z_scrG (C : zX p s m args meth c cc nL own rt E) (hX : va_X b L xs s s.heap) (hbl : b < s.heap.size) (hbA : ¬ zA E s.heap.size b) {k j0 j4 : Nat} {kI : Int} {j9 : Fin 4} (hi : i + 6 ≤ L) (hL : L ≤ 3072) (hk : k < 6) (hkI : Int32.ofInt kI = nI k) (h0 : lv[j0]? = some (0, .ref b)) (h4 : lv[j4]? = some (4, .int (nI i))) (d0 : decode cc pc = .ok (.aload_n j9, 1)) (hj9 : (j9 : Nat) = 0) (d1 : decode cc (pc + 1) = .ok (.iload 4, 2)) (d3 : decode cc (pc + 3) = .ok (.iconst kI, 1)) (d4 : decode cc (pc + 4) = .ok (.iadd, 1)) (d5 : decode cc (pc + 5) = .ok (.iaload, 1)) (hn : pc + 6 = pc') (k9 : zG p l e R s m args below meth c nL E kc ks Q σ pc' lv (.int (xs (i + k)) :: st)) : zG p l e R s m args below meth c nL E kc ks Q σ pc lv st := by
  refine z_aload_n (pc' := pc + 1) C d0 hj9 j0 h0 rfl ?_
  refine z_iload (pc' := pc + 3) C d1 j4 h4 rfl ?_
  refine z_iconst (v := nI k) (pc' := pc + 4) C d3 hkI rfl ?_
  refine z_iadd (pc' := pc + 5) C d4 rfl ?_
  rw [nadd (by omega)]
  exact z_sld C hX hbl hbA (by omega) hL d5 hn k9
set_option maxHeartbeats 4000000 in
theorem lc_30 (hl : l.stackTraces = false) (hT : TX (zA E s.heap.size) s) (C : zX p s m args meth c cL_law 8 RL rt E) (hX : va_X b L xs s s.heap) (hbl : b < s.heap.size) (hbA : ¬ zA E s.heap.size b) (hi : i + 6 ≤ L) (hL : L ≤ 3072) (hkc : kc + 1 ≤ 601024) (hks : ks + 6 ≤ 7293034) (hI : Inv σ) (k : ∀ σ', Inv σ' → zG p l e room_1 s m args below meth c 8 E (kc + 1) (ks + 6) Q σ' 1293 (lvL E b i) []) : zG p l e room_1 s m args below meth c 8 E kc ks Q σ 1268 (lvL E b i) [] := by
  refine z_aload_n (pc' := 1269) C dL_law_1268 rfl 2 rfl rfl ?_
  refine z_scr (k := 1) (pc' := 1275) C hX hbl hbA hi hL (by decide) (by decide) dL_law_1269 rfl dL_law_1270 dL_law_1272 dL_law_1273 dL_law_1274 rfl ?_
  have hm := zL_mem (q := 0) (i := 0) (by decide) zo0
  intro ls H locs h1 h2 h3
  refine va_calli (va_runV (C := RX10) (b := E.2.2 0 0) (As := [.int (xs (i + 1))]) (rest := []) C.1 (sc_X10_toss l hl E σ _ _ (st_toss hI _) H.size) ⟨callB_of 1 C.1.2.2.2.2 (zGood zwL_152_X10_toss.1) rfl rfl rfl (C.1.2.2.2.2 _ zwL_152_X10_toss.2.2.1) (C.1.2.2.2.2 _ zwL_152_X10_toss.2.1) zwL_152_X10_toss.2.2.2 ⟨by decide, by decide⟩, C.1.2.2.2.2 _ zvL_152_X10_toss.1, C.1.2.2.2.2 _ zvL_152_X10_toss.2⟩ (zPVx (w9 := (RX10, TX10, 12)) C hT h2 h3 hm rfl rfl) rfl rfl h1.1 rfl (lv_room (by decide)) dL_law_1275 ⟨hkc, hks⟩) h3 (fun q _ h => zfree h3 q h) (zfree h3) (fun r1 σ1 t H1 locs1 hth hvm h hB hz hk1 hS => ?_)
  refine (?_ : zG p l e room_1 s m args below meth c 8 E (kc + 1) (ks + 6) Q σ1 1278 (lvL E b i) [.int r1]) ls H1 locs1 h1 (by rw [← hth]; exact hB.1) hS
  refine z_aload_n (pc' := 1279) C dL_law_1278 rfl 3 rfl rfl ?_
  refine z_scr (k := 1) (pc' := 1285) C hX hbl hbA hi hL (by decide) (by decide) dL_law_1279 rfl dL_law_1280 dL_law_1282 dL_law_1283 dL_law_1284 rfl ?_
  refine z_callVi (q := 22) (i := 0) (w9 := (RX11, TX11, 40)) (pc' := 1288) (st := [.int r1]) (As := [.int (xs (i + 1))]) C (sc_X11_toss l E σ1 _ _ h) zwL_155_X11_toss zvL_155_X11_toss.1 zvL_155_X11_toss.2 (zL_mem (by decide) zo22) rfl rfl ⟨by decide, by decide⟩ ⟨hkc, hks⟩ rfl rfl (Nat.le_of_ble_eq_true rfl) dL_law_1285 rfl (fun r2 σ2 h => ?_)
  obtain ⟨e1, hI2⟩ := h
  subst e1
  exact z_icmp_eq (tgt := 1293) (pc' := 1291) C dL_law_1288 (by decide) rfl (fun _ => k σ2 hI2) (fun z => absurd rfl z)
theorem eK_55 (σ : zMem) (v : Int32) (a b : Int32) : eK (um σ 55 0 0 v) a b = eK σ a b ∧ eV (um σ 55 0 0 v) a b = eV σ a b := by
  constructor
  · simp only [eK, um_q σ v (show (8 : Nat) ≠ 55 by decide)]
  · simp only [eV, um_q σ v (show (8 : Nat) ≠ 55 by decide), um_q σ v (show (9 : Nat) ≠ 55 by decide), um_q σ v (show (10 : Nat) ≠ 55 by decide)]
set_option maxHeartbeats 4000000 in
theorem lc_27 (hl : l.stackTraces = false) (hT : TX (zA E s.heap.size) s) (C : zX p s m args meth c cL_law 8 RL rt E) (hX : va_X b L xs s s.heap) (hbl : b < s.heap.size) (hbA : ¬ zA E s.heap.size b) (hi : i + 6 ≤ L) (hL : L ≤ 3072) (hkc : kc + 1 ≤ 601024) (hks : ks + 6 ≤ 7293034) (hI : Inv σ) (k : ∀ σ', Inv σ' → zG p l e room_1 s m args below meth c 8 E (kc + 1) (ks + 6) Q σ' 1293 (lvL E b i) []) : zG p l e room_1 s m args below meth c 8 E kc ks Q σ 1103 (lvL E b i) [] := by
  refine z_aload_n (pc' := 1104) C dL_law_1103 rfl 2 rfl rfl ?_
  refine z_scr (k := 1) (pc' := 1110) C hX hbl hbA hi hL (by decide) (by decide) dL_law_1104 rfl dL_law_1105 dL_law_1107 dL_law_1108 dL_law_1109 rfl ?_
  refine z_scr (k := 2) (pc' := 1116) C hX hbl hbA hi hL (by decide) (by decide) dL_law_1110 rfl dL_law_1111 dL_law_1113 dL_law_1114 dL_law_1115 rfl ?_
  refine z_aload_n (pc' := 1117) C dL_law_1116 rfl 4 rfl rfl ?_
  intro ls H locs h1 h2 h3
  refine va_calli (vx_runSW (hh := hLel) (As := [.ref (E.2.2 0 0), .int (xs (i + 1)), .int (xs (i + 2)), .ref (E.2.2 55 0)]) (rest := []) C.1 (sc_L_element l hl E σ hI _ _ H.size) (vx_cwSW 4 C.1.2.2.2.2 zqLel rfl rfl rfl (by decide +kernel) ⟨by decide, by decide⟩) (zPSx C hT h2 h3) rfl rfl h1.1 rfl (lv_room (by decide)) dL_law_1117 ⟨hkc, hks⟩) h3 (fun q _ h => zfree h3 q h) (zfree h3) (fun r1 σ1 t H1 locs1 hth hvm h hB hz hk1 hS => ?_)
  obtain ⟨e1, e2⟩ := h
  have hI1 : Inv σ1 := by
    rw [e2]
    split
    · exact Inv_same (Same.rf.um rfl) hI
    · exact hI
  have eK1 : eK σ1 (xs (i + 1)) (xs (i + 2)) = eK σ (xs (i + 1)) (xs (i + 2)) ∧ eV σ1 (xs (i + 1)) (xs (i + 2)) = eV σ (xs (i + 1)) (xs (i + 2)) := by
    rw [e2]
    split
    · exact eK_55 σ _ _ _
    · exact ⟨rfl, rfl⟩
  have e55 : eK σ (xs (i + 1)) (xs (i + 2)) = 0 → σ1 55 0 0 = eV σ (xs (i + 1)) (xs (i + 2)) := fun z => by rw [e2, if_pos z, um_s]
  refine (?_ : zG p l e room_1 s m args below meth c 8 E (kc + 1) (ks + 6) Q σ1 1120 (lvL E b i) [.int r1]) ls H1 locs1 h1 (by rw [← hth]; exact hB.1) hS
  refine z_istore (pc' := 1122) (lv' := (5, .int r1) :: lvL E b i) C dL_law_1120 (by decide) rfl rfl ?_
  refine z_aload_n (pc' := 1123) C dL_law_1122 rfl 4 rfl rfl ?_
  refine z_scrG (k := 1) (j0 := 2) (j4 := 1) (pc' := 1129) C hX hbl hbA hi hL (by decide) (by decide) rfl rfl dL_law_1123 rfl dL_law_1124 dL_law_1126 dL_law_1127 dL_law_1128 rfl ?_
  refine z_scrG (k := 2) (j0 := 2) (j4 := 1) (pc' := 1135) C hX hbl hbA hi hL (by decide) (by decide) rfl rfl dL_law_1129 rfl dL_law_1130 dL_law_1132 dL_law_1133 dL_law_1134 rfl ?_
  refine z_callVl (q := 22) (i := 0) (w9 := (RX11, TX11, 40)) (pc' := 1138) (st := []) (As := [.int (xs (i + 1)), .int (xs (i + 2))]) C (sc_X11_element l E σ1 _ _ (fun r u => u 22 0 0 = nI (eK σ1 (xs (i + 1)) (xs (i + 2))) ∧ (eK σ1 (xs (i + 1)) (xs (i + 2)) = 0 → r = (eV σ1 (xs (i + 1)) (xs (i + 2))).toInt64) ∧ Inv u ∧ ∀ j, u 55 0 j = σ1 55 0 j) (m_element hI1 _ _ (fun r u a1 a2 a3 a4 => ⟨a1, a2, a3, a4⟩))) zwL_139_X11_element zvL_139_X11_element.1 zvL_139_X11_element.2 (zL_mem (by decide) zo22) rfl rfl ⟨by decide, by decide⟩ ⟨hkc, hks⟩ rfl rfl (by decide) dL_law_1135 rfl (fun r2 σ2 h => ?_)
  obtain ⟨f1, f2, hI2, f4⟩ := h
  rw [eK1.1, eK1.2] at f2
  rw [eK1.1] at f1
  refine z_lstore (pc' := 1140) (lv' := (6, .long r2) :: (5, .int r1) :: lvL E b i) C dL_law_1138 (by decide) rfl rfl ?_
  refine z_aload_n (pc' := 1141) C dL_law_1140 rfl 5 rfl rfl ?_
  refine z_callVi (q := 22) (i := 0) (w9 := (RX11, TX11, 40)) (pc' := 1144) (st := []) (As := []) C (sc_X11_thrown l E σ2 (fun r u => r = σ2 22 0 0 ∧ u = σ2) ⟨rfl, rfl⟩) zwL_140_X11_thrown zvL_140_X11_thrown.1 zvL_140_X11_thrown.2 (zL_mem (by decide) zo22) rfl rfl ⟨by decide, by decide⟩ ⟨hkc, hks⟩ rfl rfl (by decide) dL_law_1141 rfl (fun r3 σ3 h => ?_)
  obtain ⟨g1, g2⟩ := h
  subst g2
  refine z_iload (pc' := 1146) C dL_law_1144 1 rfl rfl ?_
  have hend : zG p l e room_1 s m args below meth c 8 E (kc + 1) (ks + 6) Q σ3 1167 ((6, .long r2) :: (5, .int r1) :: lvL E b i) [] := by
    refine z_goto (tgt := 1293) C dL_law_1167 (by decide) ?_
    exact z_sub (lv' := lvL E b i) [2, 3, 4, 5, 6] rfl (k σ3 hI2)
  refine z_icmp_eq (tgt := 1151) (pc' := 1149) C dL_law_1146 (by decide) rfl (fun _ => ?_) (fun z => absurd (g1.trans (f1.trans e1.symm)) z)
  refine z_iload (pc' := 1153) C dL_law_1151 1 rfl rfl ?_
  refine z_if_ne (tgt := 1167) (pc' := 1156) C dL_law_1153 (by decide) rfl (fun _ => hend) (fun z => ?_)
  have hk0 : eK σ (xs (i + 1)) (xs (i + 2)) = 0 := by
    have hlt : eK σ (xs (i + 1)) (xs (i + 2)) ≤ 2 := by
      unfold eK
      split
      · omega
      · split
        · split <;> omega
        · omega
    rw [e1] at z
    exact (nI_eq (b := 0) (by omega) (by decide)).mp z
  refine z_aload_n (pc' := 1157) C dL_law_1156 rfl 6 rfl rfl ?_
  refine z_iconst (v := 0) (pc' := 1158) C dL_law_1157 (by decide) rfl ?_
  refine z_lald (pc' := 1159) C (in_nI (k := 0) (by decide) (by decide)) dL_law_1158 rfl ?_
  refine z_lload (pc' := 1161) C dL_law_1159 0 rfl rfl ?_
  have e9 : (σ3 55 0 (0 : Int32).toNatClampNeg).toInt64 = r2 := by
    show (σ3 55 0 0).toInt64 = r2
    rw [f4 0, e55 hk0, f2 hk0]
  rw [e9]
  refine z_lcmp0 (pc' := 1162) C dL_law_1161 rfl ?_
  exact z_if_eq (tgt := 1167) (pc' := 1165) C dL_law_1162 (by decide) rfl (fun _ => hend) (fun z => absurd rfl z)
end ZLP
