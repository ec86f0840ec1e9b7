/-! the law's loop: its cases -/
abbrev lvL (E : zE) (b i : Nat) : List (Nat × Value) := [(4, .int (nI i)), (0, .ref b), (1, .ref (E.2.2 0 0)), (2, .ref (E.2.2 22 0)), (3, .ref (E.2.2 55 0))]
section ZLW
variable {p : Program} {l : Launch} {e : Env} {R : Room} {s : State} {m : MethodId} {args : Array Value} {below : List Frame} {meth : Method} {c : Code} {nL kc ks : Nat} {E : zE} {Q : State → Prop} {σ : zMem} {pc pc' : Nat} {lv lv' : List (Nat × Value)} {st : List Value} {cc : ByteArray} {rt : Option FieldType} {own : String} {b L i : Nat} {xs : Nat → Int32}
theorem z_wide {kc' ks' : Nat} (h1 : kc ≤ kc') (h2 : ks ≤ ks') (k9 : zG p l e R s m args below meth c nL E kc' ks' Q σ pc lv st) : zG p l e R s m args below meth c nL E kc ks Q σ pc lv st := fun ls H locs a1 a2 a3 => W.widen h1 h2 (k9 ls H locs a1 a2 a3)
theorem z_sld (C : zX p s m args meth c cc nL own rt E) (hX : va_X b L xs s s.heap) (hbl : b < s.heap.size) (hbA : ¬ zA E s.heap.size b) {j : Nat} (hj : j < L) (hL : L ≤ 3072) (hd : decode cc pc = .ok (.iaload, 1)) (hn : pc + 1 = pc') (k9 : zG p l e R s m args below meth c nL E kc ks Q σ pc' lv (.int (xs j) :: st)) : zG p l e R s m args below meth c nL E kc ks Q σ pc lv (.int (nI j) :: .ref b :: st) := by
  intro ls H locs h1 h2 h3
  subst hn
  refine va_sld C.1.1 C.1.2.1 hX hbl hbA h3 (in_nI hj (by omega)) hd ?_
  rw [cl (by omega)]
  exact k9 ls H locs h1 h2 h3
theorem z_scr (C : zX p s m args meth c cc nL own rt E) (hX : va_X b L xs s s.heap) (hbl : b < s.heap.size) (hbA : ¬ zA E s.heap.size b) {k : Nat} {kI : Int} {j9 : Fin 4} (hi : i + 6 ≤ L) (hL : L ≤ 3072) (hk : k < 6) (hkI : Int32.ofInt kI = nI k) (d0 : decode cc pc = .ok (.aload_n j9, 1)) (hj9 : (j9 : Nat) = 0) (d1 : decode cc (pc + 1) = .ok (.iload 4, 2)) (d3 : decode cc (pc + 3) = .ok (.iconst kI, 1)) (d4 : decode cc (pc + 4) = .ok (.iadd, 1)) (d5 : decode cc (pc + 5) = .ok (.iaload, 1)) (hn : pc + 6 = pc') (k9 : zG p l e R s m args below meth c nL E kc ks Q σ pc' (lvL E b i) (.int (xs (i + k)) :: st)) : zG p l e R s m args below meth c nL E kc ks Q σ pc (lvL E b i) st := by
  refine z_aload_n (pc' := pc + 1) C d0 hj9 1 rfl rfl ?_
  refine z_iload (pc' := pc + 3) C d1 0 rfl rfl ?_
  refine z_iconst (v := nI k) (pc' := pc + 4) C d3 hkI rfl ?_
  refine z_iadd (pc' := pc + 5) C d4 rfl ?_
  rw [nadd (by omega)]
  exact z_sld C hX hbl hbA (by omega) hL d5 hn k9
theorem zwL_21_X10_plot : zWs RL 21 yX10_plot cX10_plot 6 (some .int) 3 := ⟨(zr7 _ (List.mem_of_getElem? (i := 8) rfl)), (zr7 _ (List.mem_of_getElem? (i := 5) rfl)), (zr1 _ (List.mem_of_getElem? (i := 2) rfl)), by decide +kernel⟩
theorem zvL_21_X10_plot : Cond.instanceMethod yX10_plot ∈ zTB ∧ Cond.selects RX10 yX10_plot yX10_plot ∈ zTB := ⟨(zr7 _ (List.mem_of_getElem? (i := 6) rfl)), (zr7 _ (List.mem_of_getElem? (i := 7) rfl))⟩
theorem zwL_25_X11_plot : zWs RL 25 yX11_plot cX11_plot 5 (some .int) 3 := ⟨(zr8 _ (List.mem_of_getElem? (i := 1) rfl)), (zr7 _ (List.mem_of_getElem? (i := 22) rfl)), (zr1 _ (List.mem_of_getElem? (i := 5) rfl)), by decide +kernel⟩
theorem zvL_25_X11_plot : Cond.instanceMethod yX11_plot ∈ zTB ∧ Cond.selects RX11 yX11_plot yX11_plot ∈ zTB := ⟨(zr7 _ (List.mem_of_getElem? (i := 23) rfl)), (zr8 _ (List.mem_of_getElem? (i := 0) rfl))⟩
theorem zwL_26_X10_buyer : zWs RL 26 yX10_buyer cX10_buyer 5 (some .int) 3 := ⟨(zr8 _ (List.mem_of_getElem? (i := 11) rfl)), (zr8 _ (List.mem_of_getElem? (i := 8) rfl)), (zr1 _ (List.mem_of_getElem? (i := 2) rfl)), by decide +kernel⟩
theorem zvL_26_X10_buyer : Cond.instanceMethod yX10_buyer ∈ zTB ∧ Cond.selects RX10 yX10_buyer yX10_buyer ∈ zTB := ⟨(zr8 _ (List.mem_of_getElem? (i := 9) rfl)), (zr8 _ (List.mem_of_getElem? (i := 10) rfl))⟩
theorem zwL_29_X11_buyer : zWs RL 29 yX11_buyer cX11_buyer 4 (some .int) 3 := ⟨(zr8 _ (List.mem_of_getElem? (i := 20) rfl)), (zr8 _ (List.mem_of_getElem? (i := 17) rfl)), (zr1 _ (List.mem_of_getElem? (i := 5) rfl)), by decide +kernel⟩
theorem zvL_29_X11_buyer : Cond.instanceMethod yX11_buyer ∈ zTB ∧ Cond.selects RX11 yX11_buyer yX11_buyer ∈ zTB := ⟨(zr8 _ (List.mem_of_getElem? (i := 18) rfl)), (zr8 _ (List.mem_of_getElem? (i := 19) rfl))⟩
theorem zwL_30_X10_purse : zWs RL 30 yX10_purse cX10_purse 4 (some .int) 2 := ⟨(zr9 _ (List.mem_of_getElem? (i := 2) rfl)), (zr8 _ (List.mem_of_getElem? (i := 23) rfl)), (zr1 _ (List.mem_of_getElem? (i := 2) rfl)), by decide +kernel⟩
theorem zvL_30_X10_purse : Cond.instanceMethod yX10_purse ∈ zTB ∧ Cond.selects RX10 yX10_purse yX10_purse ∈ zTB := ⟨(zr9 _ (List.mem_of_getElem? (i := 0) rfl)), (zr9 _ (List.mem_of_getElem? (i := 1) rfl))⟩
theorem zwL_34_X11_purse : zWs RL 34 yX11_purse cX11_purse 4 (some .int) 2 := ⟨(zr9 _ (List.mem_of_getElem? (i := 10) rfl)), (zr9 _ (List.mem_of_getElem? (i := 7) rfl)), (zr1 _ (List.mem_of_getElem? (i := 5) rfl)), by decide +kernel⟩
theorem zvL_34_X11_purse : Cond.instanceMethod yX11_purse ∈ zTB ∧ Cond.selects RX11 yX11_purse yX11_purse ∈ zTB := ⟨(zr9 _ (List.mem_of_getElem? (i := 8) rfl)), (zr9 _ (List.mem_of_getElem? (i := 9) rfl))⟩
theorem zwL_35_X10_waits : zWs RL 35 yX10_waits cX10_waits 4 (some .int) 2 := ⟨(zr9 _ (List.mem_of_getElem? (i := 18) rfl)), (zr9 _ (List.mem_of_getElem? (i := 15) rfl)), (zr1 _ (List.mem_of_getElem? (i := 2) rfl)), by decide +kernel⟩
theorem zvL_35_X10_waits : Cond.instanceMethod yX10_waits ∈ zTB ∧ Cond.selects RX10 yX10_waits yX10_waits ∈ zTB := ⟨(zr9 _ (List.mem_of_getElem? (i := 16) rfl)), (zr9 _ (List.mem_of_getElem? (i := 17) rfl))⟩
theorem zwL_39_X11_waits : zWs RL 39 yX11_waits cX11_waits 4 (some .int) 2 := ⟨(zr10 _ (List.mem_of_getElem? (i := 2) rfl)), (zr9 _ (List.mem_of_getElem? (i := 23) rfl)), (zr1 _ (List.mem_of_getElem? (i := 5) rfl)), by decide +kernel⟩
theorem zvL_39_X11_waits : Cond.instanceMethod yX11_waits ∈ zTB ∧ Cond.selects RX11 yX11_waits yX11_waits ∈ zTB := ⟨(zr10 _ (List.mem_of_getElem? (i := 0) rfl)), (zr10 _ (List.mem_of_getElem? (i := 1) rfl))⟩
theorem zwL_40_X10_surety : zWs RL 40 yX10_surety cX10_surety 5 (some .int) 2 := ⟨(zr10 _ (List.mem_of_getElem? (i := 6) rfl)), (zr10 _ (List.mem_of_getElem? (i := 3) rfl)), (zr1 _ (List.mem_of_getElem? (i := 2) rfl)), by decide +kernel⟩
theorem zvL_40_X10_surety : Cond.instanceMethod yX10_surety ∈ zTB ∧ Cond.selects RX10 yX10_surety yX10_surety ∈ zTB := ⟨(zr10 _ (List.mem_of_getElem? (i := 4) rfl)), (zr10 _ (List.mem_of_getElem? (i := 5) rfl))⟩
theorem zwL_43_X11_surety : zWs RL 43 yX11_surety cX11_surety 4 (some .int) 2 := ⟨(zr10 _ (List.mem_of_getElem? (i := 11) rfl)), (zr10 _ (List.mem_of_getElem? (i := 8) rfl)), (zr1 _ (List.mem_of_getElem? (i := 5) rfl)), by decide +kernel⟩
theorem zvL_43_X11_surety : Cond.instanceMethod yX11_surety ∈ zTB ∧ Cond.selects RX11 yX11_surety yX11_surety ∈ zTB := ⟨(zr10 _ (List.mem_of_getElem? (i := 9) rfl)), (zr10 _ (List.mem_of_getElem? (i := 10) rfl))⟩
theorem zwL_44_X10_step : zWs RL 44 yX10_step cX10_step 3 (some .int) 1 := ⟨(zr10 _ (List.mem_of_getElem? (i := 15) rfl)), (zr10 _ (List.mem_of_getElem? (i := 12) rfl)), (zr1 _ (List.mem_of_getElem? (i := 2) rfl)), by decide +kernel⟩
theorem zvL_44_X10_step : Cond.instanceMethod yX10_step ∈ zTB ∧ Cond.selects RX10 yX10_step yX10_step ∈ zTB := ⟨(zr10 _ (List.mem_of_getElem? (i := 13) rfl)), (zr10 _ (List.mem_of_getElem? (i := 14) rfl))⟩
theorem zwL_48_X11_step : zWs RL 48 yX11_step cX11_step 3 (some .int) 1 := ⟨(zr10 _ (List.mem_of_getElem? (i := 19) rfl)), (zr10 _ (List.mem_of_getElem? (i := 16) rfl)), (zr1 _ (List.mem_of_getElem? (i := 5) rfl)), by decide +kernel⟩
theorem zvL_48_X11_step : Cond.instanceMethod yX11_step ∈ zTB ∧ Cond.selects RX11 yX11_step yX11_step ∈ zTB := ⟨(zr10 _ (List.mem_of_getElem? (i := 17) rfl)), (zr10 _ (List.mem_of_getElem? (i := 18) rfl))⟩
theorem zwL_49_X10_look : zWs RL 49 yX10_look cX10_look 4 (some .int) 2 := ⟨(zr10 _ (List.mem_of_getElem? (i := 23) rfl)), (zr10 _ (List.mem_of_getElem? (i := 20) rfl)), (zr1 _ (List.mem_of_getElem? (i := 2) rfl)), by decide +kernel⟩
theorem zvL_49_X10_look : Cond.instanceMethod yX10_look ∈ zTB ∧ Cond.selects RX10 yX10_look yX10_look ∈ zTB := ⟨(zr10 _ (List.mem_of_getElem? (i := 21) rfl)), (zr10 _ (List.mem_of_getElem? (i := 22) rfl))⟩
theorem zwL_52_X11_look : zWs RL 52 yX11_look cX11_look 3 (some .int) 2 := ⟨(zr12 _ (List.mem_of_getElem? (i := 14) rfl)), (zr12 _ (List.mem_of_getElem? (i := 11) rfl)), (zr1 _ (List.mem_of_getElem? (i := 5) rfl)), by decide +kernel⟩
theorem zvL_52_X11_look : Cond.instanceMethod yX11_look ∈ zTB ∧ Cond.selects RX11 yX11_look yX11_look ∈ zTB := ⟨(zr12 _ (List.mem_of_getElem? (i := 12) rfl)), (zr12 _ (List.mem_of_getElem? (i := 13) rfl))⟩
theorem zwL_53_X10_about : zWs RL 53 yX10_about cX10_about 4 (some .int) 2 := ⟨(zr13 _ (List.mem_of_getElem? (i := 5) rfl)), (zr13 _ (List.mem_of_getElem? (i := 2) rfl)), (zr1 _ (List.mem_of_getElem? (i := 2) rfl)), by decide +kernel⟩
theorem zvL_53_X10_about : Cond.instanceMethod yX10_about ∈ zTB ∧ Cond.selects RX10 yX10_about yX10_about ∈ zTB := ⟨(zr13 _ (List.mem_of_getElem? (i := 3) rfl)), (zr13 _ (List.mem_of_getElem? (i := 4) rfl))⟩
theorem zwL_56_X11_about : zWs RL 56 yX11_about cX11_about 3 (some .int) 2 := ⟨(zr13 _ (List.mem_of_getElem? (i := 20) rfl)), (zr13 _ (List.mem_of_getElem? (i := 17) rfl)), (zr1 _ (List.mem_of_getElem? (i := 5) rfl)), by decide +kernel⟩
theorem zvL_56_X11_about : Cond.instanceMethod yX11_about ∈ zTB ∧ Cond.selects RX11 yX11_about yX11_about ∈ zTB := ⟨(zr13 _ (List.mem_of_getElem? (i := 18) rfl)), (zr13 _ (List.mem_of_getElem? (i := 19) rfl))⟩
theorem zwL_57_X10_worth : zWs RL 57 yX10_worth cX10_worth 3 (some .int) 2 := ⟨(zr14 _ (List.mem_of_getElem? (i := 12) rfl)), (zr14 _ (List.mem_of_getElem? (i := 9) rfl)), (zr1 _ (List.mem_of_getElem? (i := 2) rfl)), by decide +kernel⟩
theorem zvL_57_X10_worth : Cond.instanceMethod yX10_worth ∈ zTB ∧ Cond.selects RX10 yX10_worth yX10_worth ∈ zTB := ⟨(zr14 _ (List.mem_of_getElem? (i := 10) rfl)), (zr14 _ (List.mem_of_getElem? (i := 11) rfl))⟩
theorem zwL_60_X11_worth : zWs RL 60 yX11_worth cX11_worth 3 (some .int) 2 := ⟨(zr15 _ (List.mem_of_getElem? (i := 13) rfl)), (zr15 _ (List.mem_of_getElem? (i := 10) rfl)), (zr1 _ (List.mem_of_getElem? (i := 5) rfl)), by decide +kernel⟩
theorem zvL_60_X11_worth : Cond.instanceMethod yX11_worth ∈ zTB ∧ Cond.selects RX11 yX11_worth yX11_worth ∈ zTB := ⟨(zr15 _ (List.mem_of_getElem? (i := 11) rfl)), (zr15 _ (List.mem_of_getElem? (i := 12) rfl))⟩
theorem zwL_61_X10_candle : zWs RL 61 yX10_candle cX10_candle 4 (some .int) 3 := ⟨(zr16 _ (List.mem_of_getElem? (i := 3) rfl)), (zr16 _ (List.mem_of_getElem? (i := 0) rfl)), (zr1 _ (List.mem_of_getElem? (i := 2) rfl)), by decide +kernel⟩
theorem zvL_61_X10_candle : Cond.instanceMethod yX10_candle ∈ zTB ∧ Cond.selects RX10 yX10_candle yX10_candle ∈ zTB := ⟨(zr16 _ (List.mem_of_getElem? (i := 1) rfl)), (zr16 _ (List.mem_of_getElem? (i := 2) rfl))⟩
theorem zwL_64_X11_candle : zWs RL 64 yX11_candle cX11_candle 6 (some .int) 3 := ⟨(zr17 _ (List.mem_of_getElem? (i := 21) rfl)), (zr17 _ (List.mem_of_getElem? (i := 18) rfl)), (zr1 _ (List.mem_of_getElem? (i := 5) rfl)), by decide +kernel⟩
theorem zvL_64_X11_candle : Cond.instanceMethod yX11_candle ∈ zTB ∧ Cond.selects RX11 yX11_candle yX11_candle ∈ zTB := ⟨(zr17 _ (List.mem_of_getElem? (i := 19) rfl)), (zr17 _ (List.mem_of_getElem? (i := 20) rfl))⟩
theorem zwL_65_X10_wins : zWs RL 65 yX10_wins cX10_wins 6 (some .int) 3 := ⟨(zr18 _ (List.mem_of_getElem? (i := 19) rfl)), (zr18 _ (List.mem_of_getElem? (i := 16) rfl)), (zr1 _ (List.mem_of_getElem? (i := 2) rfl)), by decide +kernel⟩
theorem zvL_65_X10_wins : Cond.instanceMethod yX10_wins ∈ zTB ∧ Cond.selects RX10 yX10_wins yX10_wins ∈ zTB := ⟨(zr18 _ (List.mem_of_getElem? (i := 17) rfl)), (zr18 _ (List.mem_of_getElem? (i := 18) rfl))⟩
theorem zwL_68_X11_wins : zWs RL 68 yX11_wins cX11_wins 6 (some .int) 3 := ⟨(zr18 _ (List.mem_of_getElem? (i := 23) rfl)), (zr18 _ (List.mem_of_getElem? (i := 20) rfl)), (zr1 _ (List.mem_of_getElem? (i := 5) rfl)), by decide +kernel⟩
theorem zvL_68_X11_wins : Cond.instanceMethod yX11_wins ∈ zTB ∧ Cond.selects RX11 yX11_wins yX11_wins ∈ zTB := ⟨(zr18 _ (List.mem_of_getElem? (i := 21) rfl)), (zr18 _ (List.mem_of_getElem? (i := 22) rfl))⟩
theorem zwL_69_X10_lots : zWs RL 69 yX10_lots cX10_lots 3 (some .int) 1 := ⟨(zr19 _ (List.mem_of_getElem? (i := 3) rfl)), (zr19 _ (List.mem_of_getElem? (i := 0) rfl)), (zr1 _ (List.mem_of_getElem? (i := 2) rfl)), by decide +kernel⟩
theorem zvL_69_X10_lots : Cond.instanceMethod yX10_lots ∈ zTB ∧ Cond.selects RX10 yX10_lots yX10_lots ∈ zTB := ⟨(zr19 _ (List.mem_of_getElem? (i := 1) rfl)), (zr19 _ (List.mem_of_getElem? (i := 2) rfl))⟩
theorem zwL_72_X11_lots : zWs RL 72 yX11_lots cX11_lots 2 (some .int) 1 := ⟨(zr19 _ (List.mem_of_getElem? (i := 11) rfl)), (zr19 _ (List.mem_of_getElem? (i := 8) rfl)), (zr1 _ (List.mem_of_getElem? (i := 5) rfl)), by decide +kernel⟩
theorem zvL_72_X11_lots : Cond.instanceMethod yX11_lots ∈ zTB ∧ Cond.selects RX11 yX11_lots yX11_lots ∈ zTB := ⟨(zr19 _ (List.mem_of_getElem? (i := 9) rfl)), (zr19 _ (List.mem_of_getElem? (i := 10) rfl))⟩
theorem zwL_73_X10_lotter : zWs RL 73 yX10_lotter cX10_lotter 3 (some .int) 1 := ⟨(zr19 _ (List.mem_of_getElem? (i := 7) rfl)), (zr19 _ (List.mem_of_getElem? (i := 12) rfl)), (zr1 _ (List.mem_of_getElem? (i := 2) rfl)), by decide +kernel⟩
theorem zvL_73_X10_lotter : Cond.instanceMethod yX10_lotter ∈ zTB ∧ Cond.selects RX10 yX10_lotter yX10_lotter ∈ zTB := ⟨(zr19 _ (List.mem_of_getElem? (i := 5) rfl)), (zr19 _ (List.mem_of_getElem? (i := 6) rfl))⟩
theorem zwL_76_X11_lotter : zWs RL 76 yX11_lotter cX11_lotter 3 (some .int) 1 := ⟨(zr19 _ (List.mem_of_getElem? (i := 16) rfl)), (zr19 _ (List.mem_of_getElem? (i := 13) rfl)), (zr1 _ (List.mem_of_getElem? (i := 5) rfl)), by decide +kernel⟩
theorem zvL_76_X11_lotter : Cond.instanceMethod yX11_lotter ∈ zTB ∧ Cond.selects RX11 yX11_lotter yX11_lotter ∈ zTB := ⟨(zr19 _ (List.mem_of_getElem? (i := 14) rfl)), (zr19 _ (List.mem_of_getElem? (i := 15) rfl))⟩
theorem zwL_77_X10_ring : zWs RL 77 yX10_ring cX10_ring 1 (some .int) 0 := ⟨(zr19 _ (List.mem_of_getElem? (i := 20) rfl)), (zr19 _ (List.mem_of_getElem? (i := 17) rfl)), (zr1 _ (List.mem_of_getElem? (i := 2) rfl)), by decide +kernel⟩
theorem zvL_77_X10_ring : Cond.instanceMethod yX10_ring ∈ zTB ∧ Cond.selects RX10 yX10_ring yX10_ring ∈ zTB := ⟨(zr19 _ (List.mem_of_getElem? (i := 18) rfl)), (zr19 _ (List.mem_of_getElem? (i := 19) rfl))⟩
theorem zwL_81_X11_ring : zWs RL 81 yX11_ring cX11_ring 3 (some .int) 0 := ⟨(zr20 _ (List.mem_of_getElem? (i := 0) rfl)), (zr19 _ (List.mem_of_getElem? (i := 21) rfl)), (zr1 _ (List.mem_of_getElem? (i := 5) rfl)), by decide +kernel⟩
theorem zvL_81_X11_ring : Cond.instanceMethod yX11_ring ∈ zTB ∧ Cond.selects RX11 yX11_ring yX11_ring ∈ zTB := ⟨(zr19 _ (List.mem_of_getElem? (i := 22) rfl)), (zr19 _ (List.mem_of_getElem? (i := 23) rfl))⟩
theorem zwL_82_X10_day : zWs RL 82 yX10_day cX10_day 3 (some .int) 1 := ⟨(zr20 _ (List.mem_of_getElem? (i := 4) rfl)), (zr20 _ (List.mem_of_getElem? (i := 1) rfl)), (zr1 _ (List.mem_of_getElem? (i := 2) rfl)), by decide +kernel⟩
theorem zvL_82_X10_day : Cond.instanceMethod yX10_day ∈ zTB ∧ Cond.selects RX10 yX10_day yX10_day ∈ zTB := ⟨(zr20 _ (List.mem_of_getElem? (i := 2) rfl)), (zr20 _ (List.mem_of_getElem? (i := 3) rfl))⟩
theorem zwL_85_X11_day : zWs RL 85 yX11_day cX11_day 3 (some .int) 1 := ⟨(zr20 _ (List.mem_of_getElem? (i := 9) rfl)), (zr20 _ (List.mem_of_getElem? (i := 6) rfl)), (zr1 _ (List.mem_of_getElem? (i := 5) rfl)), by decide +kernel⟩
theorem zvL_85_X11_day : Cond.instanceMethod yX11_day ∈ zTB ∧ Cond.selects RX11 yX11_day yX11_day ∈ zTB := ⟨(zr20 _ (List.mem_of_getElem? (i := 7) rfl)), (zr20 _ (List.mem_of_getElem? (i := 8) rfl))⟩
theorem zwL_86_X10_rain : zWs RL 86 yX10_rain cX10_rain 4 (some .int) 2 := ⟨(zr20 _ (List.mem_of_getElem? (i := 14) rfl)), (zr20 _ (List.mem_of_getElem? (i := 11) rfl)), (zr1 _ (List.mem_of_getElem? (i := 2) rfl)), by decide +kernel⟩
theorem zvL_86_X10_rain : Cond.instanceMethod yX10_rain ∈ zTB ∧ Cond.selects RX10 yX10_rain yX10_rain ∈ zTB := ⟨(zr20 _ (List.mem_of_getElem? (i := 12) rfl)), (zr20 _ (List.mem_of_getElem? (i := 13) rfl))⟩
theorem zwL_89_X11_rain : zWs RL 89 yX11_rain cX11_rain 4 (some .int) 2 := ⟨(zr20 _ (List.mem_of_getElem? (i := 18) rfl)), (zr20 _ (List.mem_of_getElem? (i := 15) rfl)), (zr1 _ (List.mem_of_getElem? (i := 5) rfl)), by decide +kernel⟩
theorem zvL_89_X11_rain : Cond.instanceMethod yX11_rain ∈ zTB ∧ Cond.selects RX11 yX11_rain yX11_rain ∈ zTB := ⟨(zr20 _ (List.mem_of_getElem? (i := 16) rfl)), (zr20 _ (List.mem_of_getElem? (i := 17) rfl))⟩
theorem zwL_90_X10_way : zWs RL 90 yX10_way cX10_way 2 (some .int) 1 := ⟨(zr20 _ (List.mem_of_getElem? (i := 22) rfl)), (zr20 _ (List.mem_of_getElem? (i := 19) rfl)), (zr1 _ (List.mem_of_getElem? (i := 2) rfl)), by decide +kernel⟩
theorem zvL_90_X10_way : Cond.instanceMethod yX10_way ∈ zTB ∧ Cond.selects RX10 yX10_way yX10_way ∈ zTB := ⟨(zr20 _ (List.mem_of_getElem? (i := 20) rfl)), (zr20 _ (List.mem_of_getElem? (i := 21) rfl))⟩
theorem zwL_93_X11_way : zWs RL 93 yX11_way cX11_way 2 (some .int) 1 := ⟨(zr22 _ (List.mem_of_getElem? (i := 2) rfl)), (zr21 _ (List.mem_of_getElem? (i := 23) rfl)), (zr1 _ (List.mem_of_getElem? (i := 5) rfl)), by decide +kernel⟩
theorem zvL_93_X11_way : Cond.instanceMethod yX11_way ∈ zTB ∧ Cond.selects RX11 yX11_way yX11_way ∈ zTB := ⟨(zr22 _ (List.mem_of_getElem? (i := 0) rfl)), (zr22 _ (List.mem_of_getElem? (i := 1) rfl))⟩
theorem zwL_94_X10_cut : zWs RL 94 yX10_cut cX10_cut 4 (some .int) 1 := ⟨(zr22 _ (List.mem_of_getElem? (i := 15) rfl)), (zr22 _ (List.mem_of_getElem? (i := 12) rfl)), (zr1 _ (List.mem_of_getElem? (i := 2) rfl)), by decide +kernel⟩
theorem zvL_94_X10_cut : Cond.instanceMethod yX10_cut ∈ zTB ∧ Cond.selects RX10 yX10_cut yX10_cut ∈ zTB := ⟨(zr22 _ (List.mem_of_getElem? (i := 13) rfl)), (zr22 _ (List.mem_of_getElem? (i := 14) rfl))⟩
theorem zwL_97_X11_cut : zWs RL 97 yX11_cut cX11_cut 3 (some .int) 1 := ⟨(zr22 _ (List.mem_of_getElem? (i := 19) rfl)), (zr22 _ (List.mem_of_getElem? (i := 16) rfl)), (zr1 _ (List.mem_of_getElem? (i := 5) rfl)), by decide +kernel⟩
theorem zvL_97_X11_cut : Cond.instanceMethod yX11_cut ∈ zTB ∧ Cond.selects RX11 yX11_cut yX11_cut ∈ zTB := ⟨(zr22 _ (List.mem_of_getElem? (i := 17) rfl)), (zr22 _ (List.mem_of_getElem? (i := 18) rfl))⟩
theorem zwL_98_X10_best : zWs RL 98 yX10_best cX10_best 1 (some .int) 0 := ⟨(zr22 _ (List.mem_of_getElem? (i := 23) rfl)), (zr22 _ (List.mem_of_getElem? (i := 20) rfl)), (zr1 _ (List.mem_of_getElem? (i := 2) rfl)), by decide +kernel⟩
theorem zvL_98_X10_best : Cond.instanceMethod yX10_best ∈ zTB ∧ Cond.selects RX10 yX10_best yX10_best ∈ zTB := ⟨(zr22 _ (List.mem_of_getElem? (i := 21) rfl)), (zr22 _ (List.mem_of_getElem? (i := 22) rfl))⟩
theorem zwL_101_X11_best : zWs RL 101 yX11_best cX11_best 1 (some .int) 0 := ⟨(zr23 _ (List.mem_of_getElem? (i := 7) rfl)), (zr23 _ (List.mem_of_getElem? (i := 4) rfl)), (zr1 _ (List.mem_of_getElem? (i := 5) rfl)), by decide +kernel⟩
theorem zvL_101_X11_best : Cond.instanceMethod yX11_best ∈ zTB ∧ Cond.selects RX11 yX11_best yX11_best ∈ zTB := ⟨(zr23 _ (List.mem_of_getElem? (i := 5) rfl)), (zr23 _ (List.mem_of_getElem? (i := 6) rfl))⟩
theorem zwL_102_X10_order : zWs RL 102 yX10_order cX10_order 3 (some .int) 1 := ⟨(zr23 _ (List.mem_of_getElem? (i := 16) rfl)), (zr23 _ (List.mem_of_getElem? (i := 13) rfl)), (zr1 _ (List.mem_of_getElem? (i := 2) rfl)), by decide +kernel⟩
theorem zvL_102_X10_order : Cond.instanceMethod yX10_order ∈ zTB ∧ Cond.selects RX10 yX10_order yX10_order ∈ zTB := ⟨(zr23 _ (List.mem_of_getElem? (i := 14) rfl)), (zr23 _ (List.mem_of_getElem? (i := 15) rfl))⟩
theorem zwL_105_X11_order : zWs RL 105 yX11_order cX11_order 5 (some .int) 1 := ⟨(zr24 _ (List.mem_of_getElem? (i := 0) rfl)), (zr23 _ (List.mem_of_getElem? (i := 21) rfl)), (zr1 _ (List.mem_of_getElem? (i := 5) rfl)), by decide +kernel⟩
theorem zvL_105_X11_order : Cond.instanceMethod yX11_order ∈ zTB ∧ Cond.selects RX11 yX11_order yX11_order ∈ zTB := ⟨(zr23 _ (List.mem_of_getElem? (i := 22) rfl)), (zr23 _ (List.mem_of_getElem? (i := 23) rfl))⟩
theorem zwL_106_X10_dry : zWs RL 106 yX10_dry cX10_dry 2 (some .int) 1 := ⟨(zr24 _ (List.mem_of_getElem? (i := 4) rfl)), (zr24 _ (List.mem_of_getElem? (i := 1) rfl)), (zr1 _ (List.mem_of_getElem? (i := 2) rfl)), by decide +kernel⟩
theorem zvL_106_X10_dry : Cond.instanceMethod yX10_dry ∈ zTB ∧ Cond.selects RX10 yX10_dry yX10_dry ∈ zTB := ⟨(zr24 _ (List.mem_of_getElem? (i := 2) rfl)), (zr24 _ (List.mem_of_getElem? (i := 3) rfl))⟩
theorem zwL_109_X11_dry : zWs RL 109 yX11_dry cX11_dry 2 (some .int) 1 := ⟨(zr24 _ (List.mem_of_getElem? (i := 13) rfl)), (zr24 _ (List.mem_of_getElem? (i := 10) rfl)), (zr1 _ (List.mem_of_getElem? (i := 5) rfl)), by decide +kernel⟩
theorem zvL_109_X11_dry : Cond.instanceMethod yX11_dry ∈ zTB ∧ Cond.selects RX11 yX11_dry yX11_dry ∈ zTB := ⟨(zr24 _ (List.mem_of_getElem? (i := 11) rfl)), (zr24 _ (List.mem_of_getElem? (i := 12) rfl))⟩
theorem zwL_110_X10_barn : zWs RL 110 yX10_barn cX10_barn 2 (some .int) 1 := ⟨(zr24 _ (List.mem_of_getElem? (i := 22) rfl)), (zr24 _ (List.mem_of_getElem? (i := 19) rfl)), (zr1 _ (List.mem_of_getElem? (i := 2) rfl)), by decide +kernel⟩
theorem zvL_110_X10_barn : Cond.instanceMethod yX10_barn ∈ zTB ∧ Cond.selects RX10 yX10_barn yX10_barn ∈ zTB := ⟨(zr24 _ (List.mem_of_getElem? (i := 20) rfl)), (zr24 _ (List.mem_of_getElem? (i := 21) rfl))⟩
theorem zwL_113_X11_barn : zWs RL 113 yX11_barn cX11_barn 2 (some .int) 1 := ⟨(zr25 _ (List.mem_of_getElem? (i := 6) rfl)), (zr25 _ (List.mem_of_getElem? (i := 3) rfl)), (zr1 _ (List.mem_of_getElem? (i := 5) rfl)), by decide +kernel⟩
theorem zvL_113_X11_barn : Cond.instanceMethod yX11_barn ∈ zTB ∧ Cond.selects RX11 yX11_barn yX11_barn ∈ zTB := ⟨(zr25 _ (List.mem_of_getElem? (i := 4) rfl)), (zr25 _ (List.mem_of_getElem? (i := 5) rfl))⟩
theorem zwL_114_X10_tithe : zWs RL 114 yX10_tithe cX10_tithe 4 (some .int) 1 := ⟨(zr25 _ (List.mem_of_getElem? (i := 14) rfl)), (zr25 _ (List.mem_of_getElem? (i := 11) rfl)), (zr1 _ (List.mem_of_getElem? (i := 2) rfl)), by decide +kernel⟩
theorem zvL_114_X10_tithe : Cond.instanceMethod yX10_tithe ∈ zTB ∧ Cond.selects RX10 yX10_tithe yX10_tithe ∈ zTB := ⟨(zr25 _ (List.mem_of_getElem? (i := 12) rfl)), (zr25 _ (List.mem_of_getElem? (i := 13) rfl))⟩
theorem zwL_117_X11_tithe : zWs RL 117 yX11_tithe cX11_tithe 4 (some .int) 1 := ⟨(zr25 _ (List.mem_of_getElem? (i := 18) rfl)), (zr25 _ (List.mem_of_getElem? (i := 15) rfl)), (zr1 _ (List.mem_of_getElem? (i := 5) rfl)), by decide +kernel⟩
theorem zvL_117_X11_tithe : Cond.instanceMethod yX11_tithe ∈ zTB ∧ Cond.selects RX11 yX11_tithe yX11_tithe ∈ zTB := ⟨(zr25 _ (List.mem_of_getElem? (i := 16) rfl)), (zr25 _ (List.mem_of_getElem? (i := 17) rfl))⟩
theorem zwL_118_X10_pays : zWs RL 118 yX10_pays cX10_pays 6 (some .int) 2 := ⟨(zr25 _ (List.mem_of_getElem? (i := 22) rfl)), (zr25 _ (List.mem_of_getElem? (i := 19) rfl)), (zr1 _ (List.mem_of_getElem? (i := 2) rfl)), by decide +kernel⟩
theorem zvL_118_X10_pays : Cond.instanceMethod yX10_pays ∈ zTB ∧ Cond.selects RX10 yX10_pays yX10_pays ∈ zTB := ⟨(zr25 _ (List.mem_of_getElem? (i := 20) rfl)), (zr25 _ (List.mem_of_getElem? (i := 21) rfl))⟩
theorem zwL_121_X11_pays : zWs RL 121 yX11_pays cX11_pays 3 (some .int) 2 := ⟨(zr26 _ (List.mem_of_getElem? (i := 18) rfl)), (zr26 _ (List.mem_of_getElem? (i := 15) rfl)), (zr1 _ (List.mem_of_getElem? (i := 5) rfl)), by decide +kernel⟩
theorem zvL_121_X11_pays : Cond.instanceMethod yX11_pays ∈ zTB ∧ Cond.selects RX11 yX11_pays yX11_pays ∈ zTB := ⟨(zr26 _ (List.mem_of_getElem? (i := 16) rfl)), (zr26 _ (List.mem_of_getElem? (i := 17) rfl))⟩
theorem zwL_122_X10_count : zWs RL 122 yX10_count cX10_count 2 (some .int) 1 := ⟨(zr27 _ (List.mem_of_getElem? (i := 2) rfl)), (zr26 _ (List.mem_of_getElem? (i := 23) rfl)), (zr1 _ (List.mem_of_getElem? (i := 2) rfl)), by decide +kernel⟩
theorem zvL_122_X10_count : Cond.instanceMethod yX10_count ∈ zTB ∧ Cond.selects RX10 yX10_count yX10_count ∈ zTB := ⟨(zr27 _ (List.mem_of_getElem? (i := 0) rfl)), (zr27 _ (List.mem_of_getElem? (i := 1) rfl))⟩
theorem zwL_125_X11_count : zWs RL 125 yX11_count cX11_count 4 (some .int) 1 := ⟨(zr27 _ (List.mem_of_getElem? (i := 18) rfl)), (zr27 _ (List.mem_of_getElem? (i := 15) rfl)), (zr1 _ (List.mem_of_getElem? (i := 5) rfl)), by decide +kernel⟩
theorem zvL_125_X11_count : Cond.instanceMethod yX11_count ∈ zTB ∧ Cond.selects RX11 yX11_count yX11_count ∈ zTB := ⟨(zr27 _ (List.mem_of_getElem? (i := 16) rfl)), (zr27 _ (List.mem_of_getElem? (i := 17) rfl))⟩
theorem zwL_126_X10_keep : zWs RL 126 yX10_keep cX10_keep 4 (some .int) 3 := ⟨(zr27 _ (List.mem_of_getElem? (i := 22) rfl)), (zr27 _ (List.mem_of_getElem? (i := 19) rfl)), (zr1 _ (List.mem_of_getElem? (i := 2) rfl)), by decide +kernel⟩
theorem zvL_126_X10_keep : Cond.instanceMethod yX10_keep ∈ zTB ∧ Cond.selects RX10 yX10_keep yX10_keep ∈ zTB := ⟨(zr27 _ (List.mem_of_getElem? (i := 20) rfl)), (zr27 _ (List.mem_of_getElem? (i := 21) rfl))⟩
theorem zwL_129_X11_keep : zWs RL 129 yX11_keep cX11_keep 5 (some .int) 3 := ⟨(zr29 _ (List.mem_of_getElem? (i := 8) rfl)), (zr29 _ (List.mem_of_getElem? (i := 5) rfl)), (zr1 _ (List.mem_of_getElem? (i := 5) rfl)), by decide +kernel⟩
theorem zvL_129_X11_keep : Cond.instanceMethod yX11_keep ∈ zTB ∧ Cond.selects RX11 yX11_keep yX11_keep ∈ zTB := ⟨(zr29 _ (List.mem_of_getElem? (i := 6) rfl)), (zr29 _ (List.mem_of_getElem? (i := 7) rfl))⟩
theorem zwL_130_X10_make : zWs RL 130 yX10_make cX10_make 4 (some .int) 3 := ⟨(zr29 _ (List.mem_of_getElem? (i := 15) rfl)), (zr29 _ (List.mem_of_getElem? (i := 12) rfl)), (zr1 _ (List.mem_of_getElem? (i := 2) rfl)), by decide +kernel⟩
theorem zvL_130_X10_make : Cond.instanceMethod yX10_make ∈ zTB ∧ Cond.selects RX10 yX10_make yX10_make ∈ zTB := ⟨(zr29 _ (List.mem_of_getElem? (i := 13) rfl)), (zr29 _ (List.mem_of_getElem? (i := 14) rfl))⟩
theorem zwL_133_X11_make : zWs RL 133 yX11_make cX11_make 5 (some .int) 3 := ⟨(zr29 _ (List.mem_of_getElem? (i := 19) rfl)), (zr29 _ (List.mem_of_getElem? (i := 16) rfl)), (zr1 _ (List.mem_of_getElem? (i := 5) rfl)), by decide +kernel⟩
theorem zvL_133_X11_make : Cond.instanceMethod yX11_make ∈ zTB ∧ Cond.selects RX11 yX11_make yX11_make ∈ zTB := ⟨(zr29 _ (List.mem_of_getElem? (i := 17) rfl)), (zr29 _ (List.mem_of_getElem? (i := 18) rfl))⟩
theorem zwL_139_X11_element : zWs RL 139 yX11_element cX11_element 3 (some .long) 2 := ⟨(zr30 _ (List.mem_of_getElem? (i := 18) rfl)), (zr30 _ (List.mem_of_getElem? (i := 15) rfl)), (zr1 _ (List.mem_of_getElem? (i := 5) rfl)), by decide +kernel⟩
theorem zvL_139_X11_element : Cond.instanceMethod yX11_element ∈ zTB ∧ Cond.selects RX11 yX11_element yX11_element ∈ zTB := ⟨(zr30 _ (List.mem_of_getElem? (i := 16) rfl)), (zr30 _ (List.mem_of_getElem? (i := 17) rfl))⟩
theorem zwL_140_X11_thrown : zWs RL 140 yX11_thrown cX11_thrown 1 (some .int) 0 := ⟨(zr30 _ (List.mem_of_getElem? (i := 23) rfl)), (zr30 _ (List.mem_of_getElem? (i := 20) rfl)), (zr1 _ (List.mem_of_getElem? (i := 5) rfl)), by decide +kernel⟩
theorem zvL_140_X11_thrown : Cond.instanceMethod yX11_thrown ∈ zTB ∧ Cond.selects RX11 yX11_thrown yX11_thrown ∈ zTB := ⟨(zr30 _ (List.mem_of_getElem? (i := 21) rfl)), (zr30 _ (List.mem_of_getElem? (i := 22) rfl))⟩
theorem zwL_143_X10_copy : zWs RL 143 yX10_copy cX10_copy 8 (some .int) 5 := ⟨(zr31 _ (List.mem_of_getElem? (i := 3) rfl)), (zr31 _ (List.mem_of_getElem? (i := 0) rfl)), (zr1 _ (List.mem_of_getElem? (i := 2) rfl)), by decide +kernel⟩
theorem zvL_143_X10_copy : Cond.instanceMethod yX10_copy ∈ zTB ∧ Cond.selects RX10 yX10_copy yX10_copy ∈ zTB := ⟨(zr31 _ (List.mem_of_getElem? (i := 1) rfl)), (zr31 _ (List.mem_of_getElem? (i := 2) rfl))⟩
theorem zwL_147_X11_copy : zWs RL 147 yX11_copy cX11_copy 7 (some .int) 5 := ⟨(zr31 _ (List.mem_of_getElem? (i := 15) rfl)), (zr31 _ (List.mem_of_getElem? (i := 12) rfl)), (zr1 _ (List.mem_of_getElem? (i := 5) rfl)), by decide +kernel⟩
theorem zvL_147_X11_copy : Cond.instanceMethod yX11_copy ∈ zTB ∧ Cond.selects RX11 yX11_copy yX11_copy ∈ zTB := ⟨(zr31 _ (List.mem_of_getElem? (i := 13) rfl)), (zr31 _ (List.mem_of_getElem? (i := 14) rfl))⟩
theorem zwL_148_X10_weight : zWs RL 148 yX10_weight cX10_weight 3 (some .int) 1 := ⟨(zr31 _ (List.mem_of_getElem? (i := 19) rfl)), (zr31 _ (List.mem_of_getElem? (i := 16) rfl)), (zr1 _ (List.mem_of_getElem? (i := 2) rfl)), by decide +kernel⟩
theorem zvL_148_X10_weight : Cond.instanceMethod yX10_weight ∈ zTB ∧ Cond.selects RX10 yX10_weight yX10_weight ∈ zTB := ⟨(zr31 _ (List.mem_of_getElem? (i := 17) rfl)), (zr31 _ (List.mem_of_getElem? (i := 18) rfl))⟩
theorem zwL_151_X11_weight : zWs RL 151 yX11_weight cX11_weight 4 (some .int) 1 := ⟨(zr33 _ (List.mem_of_getElem? (i := 8) rfl)), (zr33 _ (List.mem_of_getElem? (i := 5) rfl)), (zr1 _ (List.mem_of_getElem? (i := 5) rfl)), by decide +kernel⟩
theorem zvL_151_X11_weight : Cond.instanceMethod yX11_weight ∈ zTB ∧ Cond.selects RX11 yX11_weight yX11_weight ∈ zTB := ⟨(zr33 _ (List.mem_of_getElem? (i := 6) rfl)), (zr33 _ (List.mem_of_getElem? (i := 7) rfl))⟩
theorem zwL_152_X10_toss : zWs RL 152 yX10_toss cX10_toss 3 (some .int) 1 := ⟨(zr33 _ (List.mem_of_getElem? (i := 16) rfl)), (zr33 _ (List.mem_of_getElem? (i := 13) rfl)), (zr1 _ (List.mem_of_getElem? (i := 2) rfl)), by decide +kernel⟩
theorem zvL_152_X10_toss : Cond.instanceMethod yX10_toss ∈ zTB ∧ Cond.selects RX10 yX10_toss yX10_toss ∈ zTB := ⟨(zr33 _ (List.mem_of_getElem? (i := 14) rfl)), (zr33 _ (List.mem_of_getElem? (i := 15) rfl))⟩
theorem zwL_155_X11_toss : zWs RL 155 yX11_toss cX11_toss 3 (some .int) 1 := ⟨(zr34 _ (List.mem_of_getElem? (i := 18) rfl)), (zr34 _ (List.mem_of_getElem? (i := 15) rfl)), (zr1 _ (List.mem_of_getElem? (i := 5) rfl)), by decide +kernel⟩
theorem zvL_155_X11_toss : Cond.instanceMethod yX11_toss ∈ zTB ∧ Cond.selects RX11 yX11_toss yX11_toss ∈ zTB := ⟨(zr34 _ (List.mem_of_getElem? (i := 16) rfl)), (zr34 _ (List.mem_of_getElem? (i := 17) rfl))⟩
set_option maxHeartbeats 4000000 in
theorem lc_0 (C : zX p s m args meth c cL_law 8 RL rt E) (hX : va_X b L xs s s.heap) (hbl : b < s.heap.size) (hbA : ¬ zA E s.heap.size b) (hi : i + 6 ≤ L) (hL : L ≤ 3072) (hkc : kc + 1 ≤ 601024) (hks : ks + 6 ≤ 7293034) (hI : Inv σ) (k : ∀ σ', Inv σ' → zG p l e room_1 s m args below meth c 8 E (kc + 1) (ks + 6) Q σ' 1293 (lvL E b i) []) : zG p l e room_1 s m args below meth c 8 E kc ks Q σ 180 (lvL E b i) [] := by
  have hc1 : kc ≤ room_1.cells := Nat.le_trans (Nat.le_succ kc) hkc
  have hc2 : ks ≤ room_1.slots := Nat.le_trans (Nat.le_add_right ks 6) hks
  refine z_aload_n (pc' := 181) C dL_law_180 rfl 2 rfl rfl ?_
  refine z_scr (k := 1) (pc' := 187) C hX hbl hbA hi hL (by decide) (by decide) dL_law_181 rfl dL_law_182 dL_law_184 dL_law_185 dL_law_186 rfl ?_
  refine z_scr (k := 2) (pc' := 193) C hX hbl hbA hi hL (by decide) (by decide) dL_law_187 rfl dL_law_188 dL_law_190 dL_law_191 dL_law_192 rfl ?_
  refine z_scr (k := 3) (pc' := 199) C hX hbl hbA hi hL (by decide) (by decide) dL_law_193 rfl dL_law_194 dL_law_196 dL_law_197 dL_law_198 rfl ?_
  refine z_callVi (q := 0) (i := 0) (w9 := (RX10, TX10, 12)) (pc' := 202) (st := []) (As := [.int (xs (i + 1)), .int (xs (i + 2)), .int (xs (i + 3))]) C (sc_X10_plot l E σ _ _ _ _ (st_plot hI _ _ _)) zwL_21_X10_plot zvL_21_X10_plot.1 zvL_21_X10_plot.2 (zL_mem (by decide) zo0) rfl rfl ⟨by decide, by decide⟩ ⟨hc1, hc2⟩ rfl rfl (by decide) dL_law_199 rfl (fun r1 σ1 h => ?_)
  refine z_aload_n (pc' := 203) C dL_law_202 rfl 3 rfl rfl ?_
  refine z_scr (k := 1) (pc' := 209) C hX hbl hbA hi hL (by decide) (by decide) dL_law_203 rfl dL_law_204 dL_law_206 dL_law_207 dL_law_208 rfl ?_
  refine z_scr (k := 2) (pc' := 215) C hX hbl hbA hi hL (by decide) (by decide) dL_law_209 rfl dL_law_210 dL_law_212 dL_law_213 dL_law_214 rfl ?_
  refine z_scr (k := 3) (pc' := 221) C hX hbl hbA hi hL (by decide) (by decide) dL_law_215 rfl dL_law_216 dL_law_218 dL_law_219 dL_law_220 rfl ?_
  refine z_callVi (q := 22) (i := 0) (w9 := (RX11, TX11, 40)) (pc' := 224) (st := [.int r1]) (As := [.int (xs (i + 1)), .int (xs (i + 2)), .int (xs (i + 3))]) C (sc_X11_plot l E σ1 _ _ _ _ h) zwL_25_X11_plot zvL_25_X11_plot.1 zvL_25_X11_plot.2 (zL_mem (by decide) zo22) rfl rfl ⟨by decide, by decide⟩ ⟨hc1, hc2⟩ rfl rfl (Nat.le_of_ble_eq_true rfl) dL_law_221 rfl (fun r2 σ2 h => ?_)
  obtain ⟨e1, hI2⟩ := h
  subst e1
  exact z_icmp_eq (tgt := 1293) (pc' := 227) C dL_law_224 (by decide) rfl (fun _ => z_wide (Nat.le_add_right _ _) (Nat.le_add_right _ _) (k σ2 hI2)) (fun z => absurd rfl z)
set_option maxHeartbeats 4000000 in
theorem lc_1 (C : zX p s m args meth c cL_law 8 RL rt E) (hX : va_X b L xs s s.heap) (hbl : b < s.heap.size) (hbA : ¬ zA E s.heap.size b) (hi : i + 6 ≤ L) (hL : L ≤ 3072) (hkc : kc + 1 ≤ 601024) (hks : ks + 6 ≤ 7293034) (hI : Inv σ) (k : ∀ σ', Inv σ' → zG p l e room_1 s m args below meth c 8 E (kc + 1) (ks + 6) Q σ' 1293 (lvL E b i) []) : zG p l e room_1 s m args below meth c 8 E kc ks Q σ 229 (lvL E b i) [] := by
  have hc1 : kc ≤ room_1.cells := Nat.le_trans (Nat.le_succ kc) hkc
  have hc2 : ks ≤ room_1.slots := Nat.le_trans (Nat.le_add_right ks 6) hks
  refine z_aload_n (pc' := 230) C dL_law_229 rfl 2 rfl rfl ?_
  refine z_scr (k := 1) (pc' := 236) C hX hbl hbA hi hL (by decide) (by decide) dL_law_230 rfl dL_law_231 dL_law_233 dL_law_234 dL_law_235 rfl ?_
  refine z_scr (k := 2) (pc' := 242) C hX hbl hbA hi hL (by decide) (by decide) dL_law_236 rfl dL_law_237 dL_law_239 dL_law_240 dL_law_241 rfl ?_
  refine z_scr (k := 3) (pc' := 248) C hX hbl hbA hi hL (by decide) (by decide) dL_law_242 rfl dL_law_243 dL_law_245 dL_law_246 dL_law_247 rfl ?_
  refine z_callVi (q := 0) (i := 0) (w9 := (RX10, TX10, 12)) (pc' := 251) (st := []) (As := [.int (xs (i + 1)), .int (xs (i + 2)), .int (xs (i + 3))]) C (sc_X10_buyer l E σ _ _ _ _ (st_buyer hI _ _ _)) zwL_26_X10_buyer zvL_26_X10_buyer.1 zvL_26_X10_buyer.2 (zL_mem (by decide) zo0) rfl rfl ⟨by decide, by decide⟩ ⟨hc1, hc2⟩ rfl rfl (by decide) dL_law_248 rfl (fun r1 σ1 h => ?_)
  refine z_aload_n (pc' := 252) C dL_law_251 rfl 3 rfl rfl ?_
  refine z_scr (k := 1) (pc' := 258) C hX hbl hbA hi hL (by decide) (by decide) dL_law_252 rfl dL_law_253 dL_law_255 dL_law_256 dL_law_257 rfl ?_
  refine z_scr (k := 2) (pc' := 264) C hX hbl hbA hi hL (by decide) (by decide) dL_law_258 rfl dL_law_259 dL_law_261 dL_law_262 dL_law_263 rfl ?_
  refine z_scr (k := 3) (pc' := 270) C hX hbl hbA hi hL (by decide) (by decide) dL_law_264 rfl dL_law_265 dL_law_267 dL_law_268 dL_law_269 rfl ?_
  refine z_callVi (q := 22) (i := 0) (w9 := (RX11, TX11, 40)) (pc' := 273) (st := [.int r1]) (As := [.int (xs (i + 1)), .int (xs (i + 2)), .int (xs (i + 3))]) C (sc_X11_buyer l E σ1 _ _ _ _ h) zwL_29_X11_buyer zvL_29_X11_buyer.1 zvL_29_X11_buyer.2 (zL_mem (by decide) zo22) rfl rfl ⟨by decide, by decide⟩ ⟨hc1, hc2⟩ rfl rfl (Nat.le_of_ble_eq_true rfl) dL_law_270 rfl (fun r2 σ2 h => ?_)
  obtain ⟨e1, hI2⟩ := h
  subst e1
  exact z_icmp_eq (tgt := 1293) (pc' := 276) C dL_law_273 (by decide) rfl (fun _ => z_wide (Nat.le_add_right _ _) (Nat.le_add_right _ _) (k σ2 hI2)) (fun z => absurd rfl z)
set_option maxHeartbeats 4000000 in
theorem lc_2 (C : zX p s m args meth c cL_law 8 RL rt E) (hX : va_X b L xs s s.heap) (hbl : b < s.heap.size) (hbA : ¬ zA E s.heap.size b) (hi : i + 6 ≤ L) (hL : L ≤ 3072) (hkc : kc + 1 ≤ 601024) (hks : ks + 6 ≤ 7293034) (hI : Inv σ) (k : ∀ σ', Inv σ' → zG p l e room_1 s m args below meth c 8 E (kc + 1) (ks + 6) Q σ' 1293 (lvL E b i) []) : zG p l e room_1 s m args below meth c 8 E kc ks Q σ 278 (lvL E b i) [] := by
  have hc1 : kc ≤ room_1.cells := Nat.le_trans (Nat.le_succ kc) hkc
  have hc2 : ks ≤ room_1.slots := Nat.le_trans (Nat.le_add_right ks 6) hks
  refine z_aload_n (pc' := 279) C dL_law_278 rfl 2 rfl rfl ?_
  refine z_scr (k := 1) (pc' := 285) C hX hbl hbA hi hL (by decide) (by decide) dL_law_279 rfl dL_law_280 dL_law_282 dL_law_283 dL_law_284 rfl ?_
  refine z_scr (k := 2) (pc' := 291) C hX hbl hbA hi hL (by decide) (by decide) dL_law_285 rfl dL_law_286 dL_law_288 dL_law_289 dL_law_290 rfl ?_
  refine z_callVi (q := 0) (i := 0) (w9 := (RX10, TX10, 12)) (pc' := 294) (st := []) (As := [.int (xs (i + 1)), .int (xs (i + 2))]) C (sc_X10_purse l E σ _ _ _ (st_purse hI _ _)) zwL_30_X10_purse zvL_30_X10_purse.1 zvL_30_X10_purse.2 (zL_mem (by decide) zo0) rfl rfl ⟨by decide, by decide⟩ ⟨hc1, hc2⟩ rfl rfl (by decide) dL_law_291 rfl (fun r1 σ1 h => ?_)
  refine z_aload_n (pc' := 295) C dL_law_294 rfl 3 rfl rfl ?_
  refine z_scr (k := 1) (pc' := 301) C hX hbl hbA hi hL (by decide) (by decide) dL_law_295 rfl dL_law_296 dL_law_298 dL_law_299 dL_law_300 rfl ?_
  refine z_scr (k := 2) (pc' := 307) C hX hbl hbA hi hL (by decide) (by decide) dL_law_301 rfl dL_law_302 dL_law_304 dL_law_305 dL_law_306 rfl ?_
  refine z_callVi (q := 22) (i := 0) (w9 := (RX11, TX11, 40)) (pc' := 310) (st := [.int r1]) (As := [.int (xs (i + 1)), .int (xs (i + 2))]) C (sc_X11_purse l E σ1 _ _ _ h) zwL_34_X11_purse zvL_34_X11_purse.1 zvL_34_X11_purse.2 (zL_mem (by decide) zo22) rfl rfl ⟨by decide, by decide⟩ ⟨hc1, hc2⟩ rfl rfl (Nat.le_of_ble_eq_true rfl) dL_law_307 rfl (fun r2 σ2 h => ?_)
  obtain ⟨e1, hI2⟩ := h
  subst e1
  exact z_icmp_eq (tgt := 1293) (pc' := 313) C dL_law_310 (by decide) rfl (fun _ => z_wide (Nat.le_add_right _ _) (Nat.le_add_right _ _) (k σ2 hI2)) (fun z => absurd rfl z)
set_option maxHeartbeats 4000000 in
theorem lc_3 (C : zX p s m args meth c cL_law 8 RL rt E) (hX : va_X b L xs s s.heap) (hbl : b < s.heap.size) (hbA : ¬ zA E s.heap.size b) (hi : i + 6 ≤ L) (hL : L ≤ 3072) (hkc : kc + 1 ≤ 601024) (hks : ks + 6 ≤ 7293034) (hI : Inv σ) (k : ∀ σ', Inv σ' → zG p l e room_1 s m args below meth c 8 E (kc + 1) (ks + 6) Q σ' 1293 (lvL E b i) []) : zG p l e room_1 s m args below meth c 8 E kc ks Q σ 315 (lvL E b i) [] := by
  have hc1 : kc ≤ room_1.cells := Nat.le_trans (Nat.le_succ kc) hkc
  have hc2 : ks ≤ room_1.slots := Nat.le_trans (Nat.le_add_right ks 6) hks
  by_cases hz : xs (i + 2) = 0
  · refine z_aload_n (pc' := 316) C dL_law_315 rfl 2 rfl rfl ?_
    refine z_scr (k := 1) (pc' := 322) C hX hbl hbA hi hL (by decide) (by decide) dL_law_316 rfl dL_law_317 dL_law_319 dL_law_320 dL_law_321 rfl ?_
    refine z_scr (k := 2) (pc' := 328) C hX hbl hbA hi hL (by decide) (by decide) dL_law_322 rfl dL_law_323 dL_law_325 dL_law_326 dL_law_327 rfl ?_
    refine z_if_eq (tgt := 335) (pc' := 331) C dL_law_328 (by decide) rfl (fun _ => ?_) (fun z => absurd hz z)
    refine z_iconst (v := 0) (pc' := 336) C dL_law_335 (by decide) rfl ?_
    refine z_callVi (q := 0) (i := 0) (w9 := (RX10, TX10, 12)) (pc' := 339) (st := []) (As := [.int (xs (i + 1)), .int 0]) C (sc_X10_waits l E σ _ _ _ (st_waits hI _ _ (Or.inl rfl))) zwL_35_X10_waits zvL_35_X10_waits.1 zvL_35_X10_waits.2 (zL_mem (by decide) zo0) rfl rfl ⟨by decide, by decide⟩ ⟨hc1, hc2⟩ rfl rfl (by decide) dL_law_336 rfl (fun r1 σ1 h => ?_)
    refine z_aload_n (pc' := 340) C dL_law_339 rfl 3 rfl rfl ?_
    refine z_scr (k := 1) (pc' := 346) C hX hbl hbA hi hL (by decide) (by decide) dL_law_340 rfl dL_law_341 dL_law_343 dL_law_344 dL_law_345 rfl ?_
    refine z_scr (k := 2) (pc' := 352) C hX hbl hbA hi hL (by decide) (by decide) dL_law_346 rfl dL_law_347 dL_law_349 dL_law_350 dL_law_351 rfl ?_
    refine z_if_eq (tgt := 359) (pc' := 355) C dL_law_352 (by decide) rfl (fun _ => ?_) (fun z => absurd hz z)
    refine z_iconst (v := 0) (pc' := 360) C dL_law_359 (by decide) rfl ?_
    refine z_callVi (q := 22) (i := 0) (w9 := (RX11, TX11, 40)) (pc' := 363) (st := [.int r1]) (As := [.int (xs (i + 1)), .int 0]) C (sc_X11_waits l E σ1 _ _ _ h) zwL_39_X11_waits zvL_39_X11_waits.1 zvL_39_X11_waits.2 (zL_mem (by decide) zo22) rfl rfl ⟨by decide, by decide⟩ ⟨hc1, hc2⟩ rfl rfl (Nat.le_of_ble_eq_true rfl) dL_law_360 rfl (fun r2 σ2 h => ?_)
    obtain ⟨e1, hI2⟩ := h
    subst e1
    exact z_icmp_eq (tgt := 1293) (pc' := 366) C dL_law_363 (by decide) rfl (fun _ => z_wide (Nat.le_add_right _ _) (Nat.le_add_right _ _) (k σ2 hI2)) (fun z => absurd rfl z)
  · refine z_aload_n (pc' := 316) C dL_law_315 rfl 2 rfl rfl ?_
    refine z_scr (k := 1) (pc' := 322) C hX hbl hbA hi hL (by decide) (by decide) dL_law_316 rfl dL_law_317 dL_law_319 dL_law_320 dL_law_321 rfl ?_
    refine z_scr (k := 2) (pc' := 328) C hX hbl hbA hi hL (by decide) (by decide) dL_law_322 rfl dL_law_323 dL_law_325 dL_law_326 dL_law_327 rfl ?_
    refine z_if_eq (tgt := 335) (pc' := 331) C dL_law_328 (by decide) rfl (fun z => absurd z hz) (fun _ => ?_)
    refine z_iconst (v := 1) (pc' := 332) C dL_law_331 (by decide) rfl ?_
    refine z_goto (tgt := 336) C dL_law_332 (by decide) ?_
    refine z_callVi (q := 0) (i := 0) (w9 := (RX10, TX10, 12)) (pc' := 339) (st := []) (As := [.int (xs (i + 1)), .int 1]) C (sc_X10_waits l E σ _ _ _ (st_waits hI _ _ (Or.inr rfl))) zwL_35_X10_waits zvL_35_X10_waits.1 zvL_35_X10_waits.2 (zL_mem (by decide) zo0) rfl rfl ⟨by decide, by decide⟩ ⟨hc1, hc2⟩ rfl rfl (by decide) dL_law_336 rfl (fun r1 σ1 h => ?_)
    refine z_aload_n (pc' := 340) C dL_law_339 rfl 3 rfl rfl ?_
    refine z_scr (k := 1) (pc' := 346) C hX hbl hbA hi hL (by decide) (by decide) dL_law_340 rfl dL_law_341 dL_law_343 dL_law_344 dL_law_345 rfl ?_
    refine z_scr (k := 2) (pc' := 352) C hX hbl hbA hi hL (by decide) (by decide) dL_law_346 rfl dL_law_347 dL_law_349 dL_law_350 dL_law_351 rfl ?_
    refine z_if_eq (tgt := 359) (pc' := 355) C dL_law_352 (by decide) rfl (fun z => absurd z hz) (fun _ => ?_)
    refine z_iconst (v := 1) (pc' := 356) C dL_law_355 (by decide) rfl ?_
    refine z_goto (tgt := 360) C dL_law_356 (by decide) ?_
    refine z_callVi (q := 22) (i := 0) (w9 := (RX11, TX11, 40)) (pc' := 363) (st := [.int r1]) (As := [.int (xs (i + 1)), .int 1]) C (sc_X11_waits l E σ1 _ _ _ h) zwL_39_X11_waits zvL_39_X11_waits.1 zvL_39_X11_waits.2 (zL_mem (by decide) zo22) rfl rfl ⟨by decide, by decide⟩ ⟨hc1, hc2⟩ rfl rfl (Nat.le_of_ble_eq_true rfl) dL_law_360 rfl (fun r2 σ2 h => ?_)
    obtain ⟨e1, hI2⟩ := h
    subst e1
    exact z_icmp_eq (tgt := 1293) (pc' := 366) C dL_law_363 (by decide) rfl (fun _ => z_wide (Nat.le_add_right _ _) (Nat.le_add_right _ _) (k σ2 hI2)) (fun z => absurd rfl z)
set_option maxHeartbeats 4000000 in
theorem lc_4 (C : zX p s m args meth c cL_law 8 RL rt E) (hX : va_X b L xs s s.heap) (hbl : b < s.heap.size) (hbA : ¬ zA E s.heap.size b) (hi : i + 6 ≤ L) (hL : L ≤ 3072) (hkc : kc + 1 ≤ 601024) (hks : ks + 6 ≤ 7293034) (hI : Inv σ) (k : ∀ σ', Inv σ' → zG p l e room_1 s m args below meth c 8 E (kc + 1) (ks + 6) Q σ' 1293 (lvL E b i) []) : zG p l e room_1 s m args below meth c 8 E kc ks Q σ 368 (lvL E b i) [] := by
  have hc1 : kc ≤ room_1.cells := Nat.le_trans (Nat.le_succ kc) hkc
  have hc2 : ks ≤ room_1.slots := Nat.le_trans (Nat.le_add_right ks 6) hks
  refine z_aload_n (pc' := 369) C dL_law_368 rfl 2 rfl rfl ?_
  refine z_scr (k := 1) (pc' := 375) C hX hbl hbA hi hL (by decide) (by decide) dL_law_369 rfl dL_law_370 dL_law_372 dL_law_373 dL_law_374 rfl ?_
  refine z_scr (k := 2) (pc' := 381) C hX hbl hbA hi hL (by decide) (by decide) dL_law_375 rfl dL_law_376 dL_law_378 dL_law_379 dL_law_380 rfl ?_
  refine z_callVi (q := 0) (i := 0) (w9 := (RX10, TX10, 12)) (pc' := 384) (st := []) (As := [.int (xs (i + 1)), .int (xs (i + 2))]) C (sc_X10_surety l E σ _ _ _ (st_surety hI _ _)) zwL_40_X10_surety zvL_40_X10_surety.1 zvL_40_X10_surety.2 (zL_mem (by decide) zo0) rfl rfl ⟨by decide, by decide⟩ ⟨hc1, hc2⟩ rfl rfl (by decide) dL_law_381 rfl (fun r1 σ1 h => ?_)
  refine z_aload_n (pc' := 385) C dL_law_384 rfl 3 rfl rfl ?_
  refine z_scr (k := 1) (pc' := 391) C hX hbl hbA hi hL (by decide) (by decide) dL_law_385 rfl dL_law_386 dL_law_388 dL_law_389 dL_law_390 rfl ?_
  refine z_scr (k := 2) (pc' := 397) C hX hbl hbA hi hL (by decide) (by decide) dL_law_391 rfl dL_law_392 dL_law_394 dL_law_395 dL_law_396 rfl ?_
  refine z_callVi (q := 22) (i := 0) (w9 := (RX11, TX11, 40)) (pc' := 400) (st := [.int r1]) (As := [.int (xs (i + 1)), .int (xs (i + 2))]) C (sc_X11_surety l E σ1 _ _ _ h) zwL_43_X11_surety zvL_43_X11_surety.1 zvL_43_X11_surety.2 (zL_mem (by decide) zo22) rfl rfl ⟨by decide, by decide⟩ ⟨hc1, hc2⟩ rfl rfl (Nat.le_of_ble_eq_true rfl) dL_law_397 rfl (fun r2 σ2 h => ?_)
  obtain ⟨e1, hI2⟩ := h
  subst e1
  exact z_icmp_eq (tgt := 1293) (pc' := 403) C dL_law_400 (by decide) rfl (fun _ => z_wide (Nat.le_add_right _ _) (Nat.le_add_right _ _) (k σ2 hI2)) (fun z => absurd rfl z)
set_option maxHeartbeats 4000000 in
theorem lc_5 (C : zX p s m args meth c cL_law 8 RL rt E) (hX : va_X b L xs s s.heap) (hbl : b < s.heap.size) (hbA : ¬ zA E s.heap.size b) (hi : i + 6 ≤ L) (hL : L ≤ 3072) (hkc : kc + 1 ≤ 601024) (hks : ks + 6 ≤ 7293034) (hI : Inv σ) (k : ∀ σ', Inv σ' → zG p l e room_1 s m args below meth c 8 E (kc + 1) (ks + 6) Q σ' 1293 (lvL E b i) []) : zG p l e room_1 s m args below meth c 8 E kc ks Q σ 405 (lvL E b i) [] := by
  have hc1 : kc ≤ room_1.cells := Nat.le_trans (Nat.le_succ kc) hkc
  have hc2 : ks ≤ room_1.slots := Nat.le_trans (Nat.le_add_right ks 6) hks
  refine z_aload_n (pc' := 406) C dL_law_405 rfl 2 rfl rfl ?_
  refine z_scr (k := 1) (pc' := 412) C hX hbl hbA hi hL (by decide) (by decide) dL_law_406 rfl dL_law_407 dL_law_409 dL_law_410 dL_law_411 rfl ?_
  refine z_callVi (q := 0) (i := 0) (w9 := (RX10, TX10, 12)) (pc' := 415) (st := []) (As := [.int (xs (i + 1))]) C (sc_X10_step l E σ _ _ (st_step hI _)) zwL_44_X10_step zvL_44_X10_step.1 zvL_44_X10_step.2 (zL_mem (by decide) zo0) rfl rfl ⟨by decide, by decide⟩ ⟨hc1, hc2⟩ rfl rfl (by decide) dL_law_412 rfl (fun r1 σ1 h => ?_)
  refine z_aload_n (pc' := 416) C dL_law_415 rfl 3 rfl rfl ?_
  refine z_scr (k := 1) (pc' := 422) C hX hbl hbA hi hL (by decide) (by decide) dL_law_416 rfl dL_law_417 dL_law_419 dL_law_420 dL_law_421 rfl ?_
  refine z_callVi (q := 22) (i := 0) (w9 := (RX11, TX11, 40)) (pc' := 425) (st := [.int r1]) (As := [.int (xs (i + 1))]) C (sc_X11_step l E σ1 _ _ h) zwL_48_X11_step zvL_48_X11_step.1 zvL_48_X11_step.2 (zL_mem (by decide) zo22) rfl rfl ⟨by decide, by decide⟩ ⟨hc1, hc2⟩ rfl rfl (Nat.le_of_ble_eq_true rfl) dL_law_422 rfl (fun r2 σ2 h => ?_)
  obtain ⟨e1, hI2⟩ := h
  subst e1
  exact z_icmp_eq (tgt := 1293) (pc' := 428) C dL_law_425 (by decide) rfl (fun _ => z_wide (Nat.le_add_right _ _) (Nat.le_add_right _ _) (k σ2 hI2)) (fun z => absurd rfl z)
set_option maxHeartbeats 4000000 in
theorem lc_6 (C : zX p s m args meth c cL_law 8 RL rt E) (hX : va_X b L xs s s.heap) (hbl : b < s.heap.size) (hbA : ¬ zA E s.heap.size b) (hi : i + 6 ≤ L) (hL : L ≤ 3072) (hkc : kc + 1 ≤ 601024) (hks : ks + 6 ≤ 7293034) (hI : Inv σ) (k : ∀ σ', Inv σ' → zG p l e room_1 s m args below meth c 8 E (kc + 1) (ks + 6) Q σ' 1293 (lvL E b i) []) : zG p l e room_1 s m args below meth c 8 E kc ks Q σ 430 (lvL E b i) [] := by
  have hc1 : kc ≤ room_1.cells := Nat.le_trans (Nat.le_succ kc) hkc
  have hc2 : ks ≤ room_1.slots := Nat.le_trans (Nat.le_add_right ks 6) hks
  refine z_aload_n (pc' := 431) C dL_law_430 rfl 2 rfl rfl ?_
  refine z_scr (k := 1) (pc' := 437) C hX hbl hbA hi hL (by decide) (by decide) dL_law_431 rfl dL_law_432 dL_law_434 dL_law_435 dL_law_436 rfl ?_
  refine z_scr (k := 2) (pc' := 443) C hX hbl hbA hi hL (by decide) (by decide) dL_law_437 rfl dL_law_438 dL_law_440 dL_law_441 dL_law_442 rfl ?_
  refine z_callVi (q := 0) (i := 0) (w9 := (RX10, TX10, 12)) (pc' := 446) (st := []) (As := [.int (xs (i + 1)), .int (xs (i + 2))]) C (sc_X10_look l E σ _ _ _ (st_look hI _ _)) zwL_49_X10_look zvL_49_X10_look.1 zvL_49_X10_look.2 (zL_mem (by decide) zo0) rfl rfl ⟨by decide, by decide⟩ ⟨hc1, hc2⟩ rfl rfl (by decide) dL_law_443 rfl (fun r1 σ1 h => ?_)
  refine z_aload_n (pc' := 447) C dL_law_446 rfl 3 rfl rfl ?_
  refine z_scr (k := 1) (pc' := 453) C hX hbl hbA hi hL (by decide) (by decide) dL_law_447 rfl dL_law_448 dL_law_450 dL_law_451 dL_law_452 rfl ?_
  refine z_scr (k := 2) (pc' := 459) C hX hbl hbA hi hL (by decide) (by decide) dL_law_453 rfl dL_law_454 dL_law_456 dL_law_457 dL_law_458 rfl ?_
  refine z_callVi (q := 22) (i := 0) (w9 := (RX11, TX11, 40)) (pc' := 462) (st := [.int r1]) (As := [.int (xs (i + 1)), .int (xs (i + 2))]) C (sc_X11_look l E σ1 _ _ _ h) zwL_52_X11_look zvL_52_X11_look.1 zvL_52_X11_look.2 (zL_mem (by decide) zo22) rfl rfl ⟨by decide, by decide⟩ ⟨hc1, hc2⟩ rfl rfl (Nat.le_of_ble_eq_true rfl) dL_law_459 rfl (fun r2 σ2 h => ?_)
  obtain ⟨e1, hI2⟩ := h
  subst e1
  exact z_icmp_eq (tgt := 1293) (pc' := 465) C dL_law_462 (by decide) rfl (fun _ => z_wide (Nat.le_add_right _ _) (Nat.le_add_right _ _) (k σ2 hI2)) (fun z => absurd rfl z)
set_option maxHeartbeats 4000000 in
theorem lc_7 (C : zX p s m args meth c cL_law 8 RL rt E) (hX : va_X b L xs s s.heap) (hbl : b < s.heap.size) (hbA : ¬ zA E s.heap.size b) (hi : i + 6 ≤ L) (hL : L ≤ 3072) (hkc : kc + 1 ≤ 601024) (hks : ks + 6 ≤ 7293034) (hI : Inv σ) (k : ∀ σ', Inv σ' → zG p l e room_1 s m args below meth c 8 E (kc + 1) (ks + 6) Q σ' 1293 (lvL E b i) []) : zG p l e room_1 s m args below meth c 8 E kc ks Q σ 467 (lvL E b i) [] := by
  have hc1 : kc ≤ room_1.cells := Nat.le_trans (Nat.le_succ kc) hkc
  have hc2 : ks ≤ room_1.slots := Nat.le_trans (Nat.le_add_right ks 6) hks
  refine z_aload_n (pc' := 468) C dL_law_467 rfl 2 rfl rfl ?_
  refine z_scr (k := 1) (pc' := 474) C hX hbl hbA hi hL (by decide) (by decide) dL_law_468 rfl dL_law_469 dL_law_471 dL_law_472 dL_law_473 rfl ?_
  refine z_scr (k := 2) (pc' := 480) C hX hbl hbA hi hL (by decide) (by decide) dL_law_474 rfl dL_law_475 dL_law_477 dL_law_478 dL_law_479 rfl ?_
  refine z_callVi (q := 0) (i := 0) (w9 := (RX10, TX10, 12)) (pc' := 483) (st := []) (As := [.int (xs (i + 1)), .int (xs (i + 2))]) C (sc_X10_about l E σ _ _ _ (st_about hI _ _)) zwL_53_X10_about zvL_53_X10_about.1 zvL_53_X10_about.2 (zL_mem (by decide) zo0) rfl rfl ⟨by decide, by decide⟩ ⟨hc1, hc2⟩ rfl rfl (by decide) dL_law_480 rfl (fun r1 σ1 h => ?_)
  refine z_aload_n (pc' := 484) C dL_law_483 rfl 3 rfl rfl ?_
  refine z_scr (k := 1) (pc' := 490) C hX hbl hbA hi hL (by decide) (by decide) dL_law_484 rfl dL_law_485 dL_law_487 dL_law_488 dL_law_489 rfl ?_
  refine z_scr (k := 2) (pc' := 496) C hX hbl hbA hi hL (by decide) (by decide) dL_law_490 rfl dL_law_491 dL_law_493 dL_law_494 dL_law_495 rfl ?_
  refine z_callVi (q := 22) (i := 0) (w9 := (RX11, TX11, 40)) (pc' := 499) (st := [.int r1]) (As := [.int (xs (i + 1)), .int (xs (i + 2))]) C (sc_X11_about l E σ1 _ _ _ h) zwL_56_X11_about zvL_56_X11_about.1 zvL_56_X11_about.2 (zL_mem (by decide) zo22) rfl rfl ⟨by decide, by decide⟩ ⟨hc1, hc2⟩ rfl rfl (Nat.le_of_ble_eq_true rfl) dL_law_496 rfl (fun r2 σ2 h => ?_)
  obtain ⟨e1, hI2⟩ := h
  subst e1
  exact z_icmp_eq (tgt := 1293) (pc' := 502) C dL_law_499 (by decide) rfl (fun _ => z_wide (Nat.le_add_right _ _) (Nat.le_add_right _ _) (k σ2 hI2)) (fun z => absurd rfl z)
set_option maxHeartbeats 4000000 in
theorem lc_8 (C : zX p s m args meth c cL_law 8 RL rt E) (hX : va_X b L xs s s.heap) (hbl : b < s.heap.size) (hbA : ¬ zA E s.heap.size b) (hi : i + 6 ≤ L) (hL : L ≤ 3072) (hkc : kc + 1 ≤ 601024) (hks : ks + 6 ≤ 7293034) (hI : Inv σ) (k : ∀ σ', Inv σ' → zG p l e room_1 s m args below meth c 8 E (kc + 1) (ks + 6) Q σ' 1293 (lvL E b i) []) : zG p l e room_1 s m args below meth c 8 E kc ks Q σ 504 (lvL E b i) [] := by
  have hc1 : kc ≤ room_1.cells := Nat.le_trans (Nat.le_succ kc) hkc
  have hc2 : ks ≤ room_1.slots := Nat.le_trans (Nat.le_add_right ks 6) hks
  refine z_aload_n (pc' := 505) C dL_law_504 rfl 2 rfl rfl ?_
  refine z_scr (k := 1) (pc' := 511) C hX hbl hbA hi hL (by decide) (by decide) dL_law_505 rfl dL_law_506 dL_law_508 dL_law_509 dL_law_510 rfl ?_
  refine z_scr (k := 2) (pc' := 517) C hX hbl hbA hi hL (by decide) (by decide) dL_law_511 rfl dL_law_512 dL_law_514 dL_law_515 dL_law_516 rfl ?_
  refine z_callVi (q := 0) (i := 0) (w9 := (RX10, TX10, 12)) (pc' := 520) (st := []) (As := [.int (xs (i + 1)), .int (xs (i + 2))]) C (sc_X10_worth l E σ _ _ _ (st_worth hI _ _)) zwL_57_X10_worth zvL_57_X10_worth.1 zvL_57_X10_worth.2 (zL_mem (by decide) zo0) rfl rfl ⟨by decide, by decide⟩ ⟨hc1, hc2⟩ rfl rfl (by decide) dL_law_517 rfl (fun r1 σ1 h => ?_)
  refine z_aload_n (pc' := 521) C dL_law_520 rfl 3 rfl rfl ?_
  refine z_scr (k := 1) (pc' := 527) C hX hbl hbA hi hL (by decide) (by decide) dL_law_521 rfl dL_law_522 dL_law_524 dL_law_525 dL_law_526 rfl ?_
  refine z_scr (k := 2) (pc' := 533) C hX hbl hbA hi hL (by decide) (by decide) dL_law_527 rfl dL_law_528 dL_law_530 dL_law_531 dL_law_532 rfl ?_
  refine z_callVi (q := 22) (i := 0) (w9 := (RX11, TX11, 40)) (pc' := 536) (st := [.int r1]) (As := [.int (xs (i + 1)), .int (xs (i + 2))]) C (sc_X11_worth l E σ1 _ _ _ h) zwL_60_X11_worth zvL_60_X11_worth.1 zvL_60_X11_worth.2 (zL_mem (by decide) zo22) rfl rfl ⟨by decide, by decide⟩ ⟨hc1, hc2⟩ rfl rfl (Nat.le_of_ble_eq_true rfl) dL_law_533 rfl (fun r2 σ2 h => ?_)
  obtain ⟨e1, hI2⟩ := h
  subst e1
  exact z_icmp_eq (tgt := 1293) (pc' := 539) C dL_law_536 (by decide) rfl (fun _ => z_wide (Nat.le_add_right _ _) (Nat.le_add_right _ _) (k σ2 hI2)) (fun z => absurd rfl z)
set_option maxHeartbeats 4000000 in
theorem lc_9 (C : zX p s m args meth c cL_law 8 RL rt E) (hX : va_X b L xs s s.heap) (hbl : b < s.heap.size) (hbA : ¬ zA E s.heap.size b) (hi : i + 6 ≤ L) (hL : L ≤ 3072) (hkc : kc + 1 ≤ 601024) (hks : ks + 6 ≤ 7293034) (hI : Inv σ) (k : ∀ σ', Inv σ' → zG p l e room_1 s m args below meth c 8 E (kc + 1) (ks + 6) Q σ' 1293 (lvL E b i) []) : zG p l e room_1 s m args below meth c 8 E kc ks Q σ 541 (lvL E b i) [] := by
  have hc1 : kc ≤ room_1.cells := Nat.le_trans (Nat.le_succ kc) hkc
  have hc2 : ks ≤ room_1.slots := Nat.le_trans (Nat.le_add_right ks 6) hks
  refine z_aload_n (pc' := 542) C dL_law_541 rfl 2 rfl rfl ?_
  refine z_scr (k := 1) (pc' := 548) C hX hbl hbA hi hL (by decide) (by decide) dL_law_542 rfl dL_law_543 dL_law_545 dL_law_546 dL_law_547 rfl ?_
  refine z_scr (k := 2) (pc' := 554) C hX hbl hbA hi hL (by decide) (by decide) dL_law_548 rfl dL_law_549 dL_law_551 dL_law_552 dL_law_553 rfl ?_
  refine z_scr (k := 3) (pc' := 560) C hX hbl hbA hi hL (by decide) (by decide) dL_law_554 rfl dL_law_555 dL_law_557 dL_law_558 dL_law_559 rfl ?_
  refine z_callVi (q := 0) (i := 0) (w9 := (RX10, TX10, 12)) (pc' := 563) (st := []) (As := [.int (xs (i + 1)), .int (xs (i + 2)), .int (xs (i + 3))]) C (sc_X10_candle l E σ _ _ _ _ (st_candle hI _ _ _)) zwL_61_X10_candle zvL_61_X10_candle.1 zvL_61_X10_candle.2 (zL_mem (by decide) zo0) rfl rfl ⟨by decide, by decide⟩ ⟨hc1, hc2⟩ rfl rfl (by decide) dL_law_560 rfl (fun r1 σ1 h => ?_)
  refine z_aload_n (pc' := 564) C dL_law_563 rfl 3 rfl rfl ?_
  refine z_scr (k := 1) (pc' := 570) C hX hbl hbA hi hL (by decide) (by decide) dL_law_564 rfl dL_law_565 dL_law_567 dL_law_568 dL_law_569 rfl ?_
  refine z_scr (k := 2) (pc' := 576) C hX hbl hbA hi hL (by decide) (by decide) dL_law_570 rfl dL_law_571 dL_law_573 dL_law_574 dL_law_575 rfl ?_
  refine z_scr (k := 3) (pc' := 582) C hX hbl hbA hi hL (by decide) (by decide) dL_law_576 rfl dL_law_577 dL_law_579 dL_law_580 dL_law_581 rfl ?_
  refine z_callVi (q := 22) (i := 0) (w9 := (RX11, TX11, 40)) (pc' := 585) (st := [.int r1]) (As := [.int (xs (i + 1)), .int (xs (i + 2)), .int (xs (i + 3))]) C (sc_X11_candle l E σ1 _ _ _ _ h) zwL_64_X11_candle zvL_64_X11_candle.1 zvL_64_X11_candle.2 (zL_mem (by decide) zo22) rfl rfl ⟨by decide, by decide⟩ ⟨hc1, hc2⟩ rfl rfl (Nat.le_of_ble_eq_true rfl) dL_law_582 rfl (fun r2 σ2 h => ?_)
  obtain ⟨e1, hI2⟩ := h
  subst e1
  exact z_icmp_eq (tgt := 1293) (pc' := 588) C dL_law_585 (by decide) rfl (fun _ => z_wide (Nat.le_add_right _ _) (Nat.le_add_right _ _) (k σ2 hI2)) (fun z => absurd rfl z)
set_option maxHeartbeats 4000000 in
theorem lc_10 (C : zX p s m args meth c cL_law 8 RL rt E) (hX : va_X b L xs s s.heap) (hbl : b < s.heap.size) (hbA : ¬ zA E s.heap.size b) (hi : i + 6 ≤ L) (hL : L ≤ 3072) (hkc : kc + 1 ≤ 601024) (hks : ks + 6 ≤ 7293034) (hI : Inv σ) (k : ∀ σ', Inv σ' → zG p l e room_1 s m args below meth c 8 E (kc + 1) (ks + 6) Q σ' 1293 (lvL E b i) []) : zG p l e room_1 s m args below meth c 8 E kc ks Q σ 590 (lvL E b i) [] := by
  have hc1 : kc ≤ room_1.cells := Nat.le_trans (Nat.le_succ kc) hkc
  have hc2 : ks ≤ room_1.slots := Nat.le_trans (Nat.le_add_right ks 6) hks
  refine z_aload_n (pc' := 591) C dL_law_590 rfl 2 rfl rfl ?_
  refine z_scr (k := 1) (pc' := 597) C hX hbl hbA hi hL (by decide) (by decide) dL_law_591 rfl dL_law_592 dL_law_594 dL_law_595 dL_law_596 rfl ?_
  refine z_scr (k := 2) (pc' := 603) C hX hbl hbA hi hL (by decide) (by decide) dL_law_597 rfl dL_law_598 dL_law_600 dL_law_601 dL_law_602 rfl ?_
  refine z_scr (k := 3) (pc' := 609) C hX hbl hbA hi hL (by decide) (by decide) dL_law_603 rfl dL_law_604 dL_law_606 dL_law_607 dL_law_608 rfl ?_
  refine z_callVi (q := 0) (i := 0) (w9 := (RX10, TX10, 12)) (pc' := 612) (st := []) (As := [.int (xs (i + 1)), .int (xs (i + 2)), .int (xs (i + 3))]) C (sc_X10_wins l E σ _ _ _ _ (st_wins hI _ _ _)) zwL_65_X10_wins zvL_65_X10_wins.1 zvL_65_X10_wins.2 (zL_mem (by decide) zo0) rfl rfl ⟨by decide, by decide⟩ ⟨hc1, hc2⟩ rfl rfl (by decide) dL_law_609 rfl (fun r1 σ1 h => ?_)
  refine z_aload_n (pc' := 613) C dL_law_612 rfl 3 rfl rfl ?_
  refine z_scr (k := 1) (pc' := 619) C hX hbl hbA hi hL (by decide) (by decide) dL_law_613 rfl dL_law_614 dL_law_616 dL_law_617 dL_law_618 rfl ?_
  refine z_scr (k := 2) (pc' := 625) C hX hbl hbA hi hL (by decide) (by decide) dL_law_619 rfl dL_law_620 dL_law_622 dL_law_623 dL_law_624 rfl ?_
  refine z_scr (k := 3) (pc' := 631) C hX hbl hbA hi hL (by decide) (by decide) dL_law_625 rfl dL_law_626 dL_law_628 dL_law_629 dL_law_630 rfl ?_
  refine z_callVi (q := 22) (i := 0) (w9 := (RX11, TX11, 40)) (pc' := 634) (st := [.int r1]) (As := [.int (xs (i + 1)), .int (xs (i + 2)), .int (xs (i + 3))]) C (sc_X11_wins l E σ1 _ _ _ _ h) zwL_68_X11_wins zvL_68_X11_wins.1 zvL_68_X11_wins.2 (zL_mem (by decide) zo22) rfl rfl ⟨by decide, by decide⟩ ⟨hc1, hc2⟩ rfl rfl (Nat.le_of_ble_eq_true rfl) dL_law_631 rfl (fun r2 σ2 h => ?_)
  obtain ⟨e1, hI2⟩ := h
  subst e1
  exact z_icmp_eq (tgt := 1293) (pc' := 637) C dL_law_634 (by decide) rfl (fun _ => z_wide (Nat.le_add_right _ _) (Nat.le_add_right _ _) (k σ2 hI2)) (fun z => absurd rfl z)
set_option maxHeartbeats 4000000 in
theorem lc_11 (C : zX p s m args meth c cL_law 8 RL rt E) (hX : va_X b L xs s s.heap) (hbl : b < s.heap.size) (hbA : ¬ zA E s.heap.size b) (hi : i + 6 ≤ L) (hL : L ≤ 3072) (hkc : kc + 1 ≤ 601024) (hks : ks + 6 ≤ 7293034) (hI : Inv σ) (k : ∀ σ', Inv σ' → zG p l e room_1 s m args below meth c 8 E (kc + 1) (ks + 6) Q σ' 1293 (lvL E b i) []) : zG p l e room_1 s m args below meth c 8 E kc ks Q σ 639 (lvL E b i) [] := by
  have hc1 : kc ≤ room_1.cells := Nat.le_trans (Nat.le_succ kc) hkc
  have hc2 : ks ≤ room_1.slots := Nat.le_trans (Nat.le_add_right ks 6) hks
  refine z_aload_n (pc' := 640) C dL_law_639 rfl 2 rfl rfl ?_
  refine z_scr (k := 1) (pc' := 646) C hX hbl hbA hi hL (by decide) (by decide) dL_law_640 rfl dL_law_641 dL_law_643 dL_law_644 dL_law_645 rfl ?_
  refine z_callVi (q := 0) (i := 0) (w9 := (RX10, TX10, 12)) (pc' := 649) (st := []) (As := [.int (xs (i + 1))]) C (sc_X10_lots l E σ _ _ (st_lots hI _)) zwL_69_X10_lots zvL_69_X10_lots.1 zvL_69_X10_lots.2 (zL_mem (by decide) zo0) rfl rfl ⟨by decide, by decide⟩ ⟨hc1, hc2⟩ rfl rfl (by decide) dL_law_646 rfl (fun r1 σ1 h => ?_)
  refine z_aload_n (pc' := 650) C dL_law_649 rfl 3 rfl rfl ?_
  refine z_scr (k := 1) (pc' := 656) C hX hbl hbA hi hL (by decide) (by decide) dL_law_650 rfl dL_law_651 dL_law_653 dL_law_654 dL_law_655 rfl ?_
  refine z_callVi (q := 22) (i := 0) (w9 := (RX11, TX11, 40)) (pc' := 659) (st := [.int r1]) (As := [.int (xs (i + 1))]) C (sc_X11_lots l E σ1 _ _ h) zwL_72_X11_lots zvL_72_X11_lots.1 zvL_72_X11_lots.2 (zL_mem (by decide) zo22) rfl rfl ⟨by decide, by decide⟩ ⟨hc1, hc2⟩ rfl rfl (Nat.le_of_ble_eq_true rfl) dL_law_656 rfl (fun r2 σ2 h => ?_)
  obtain ⟨e1, hI2⟩ := h
  subst e1
  exact z_icmp_eq (tgt := 1293) (pc' := 662) C dL_law_659 (by decide) rfl (fun _ => z_wide (Nat.le_add_right _ _) (Nat.le_add_right _ _) (k σ2 hI2)) (fun z => absurd rfl z)
set_option maxHeartbeats 4000000 in
theorem lc_12 (C : zX p s m args meth c cL_law 8 RL rt E) (hX : va_X b L xs s s.heap) (hbl : b < s.heap.size) (hbA : ¬ zA E s.heap.size b) (hi : i + 6 ≤ L) (hL : L ≤ 3072) (hkc : kc + 1 ≤ 601024) (hks : ks + 6 ≤ 7293034) (hI : Inv σ) (k : ∀ σ', Inv σ' → zG p l e room_1 s m args below meth c 8 E (kc + 1) (ks + 6) Q σ' 1293 (lvL E b i) []) : zG p l e room_1 s m args below meth c 8 E kc ks Q σ 664 (lvL E b i) [] := by
  have hc1 : kc ≤ room_1.cells := Nat.le_trans (Nat.le_succ kc) hkc
  have hc2 : ks ≤ room_1.slots := Nat.le_trans (Nat.le_add_right ks 6) hks
  refine z_aload_n (pc' := 665) C dL_law_664 rfl 2 rfl rfl ?_
  refine z_scr (k := 1) (pc' := 671) C hX hbl hbA hi hL (by decide) (by decide) dL_law_665 rfl dL_law_666 dL_law_668 dL_law_669 dL_law_670 rfl ?_
  refine z_callVi (q := 0) (i := 0) (w9 := (RX10, TX10, 12)) (pc' := 674) (st := []) (As := [.int (xs (i + 1))]) C (sc_X10_lotter l E σ _ _ (st_lotter hI _)) zwL_73_X10_lotter zvL_73_X10_lotter.1 zvL_73_X10_lotter.2 (zL_mem (by decide) zo0) rfl rfl ⟨by decide, by decide⟩ ⟨hc1, hc2⟩ rfl rfl (by decide) dL_law_671 rfl (fun r1 σ1 h => ?_)
  refine z_aload_n (pc' := 675) C dL_law_674 rfl 3 rfl rfl ?_
  refine z_scr (k := 1) (pc' := 681) C hX hbl hbA hi hL (by decide) (by decide) dL_law_675 rfl dL_law_676 dL_law_678 dL_law_679 dL_law_680 rfl ?_
  refine z_callVi (q := 22) (i := 0) (w9 := (RX11, TX11, 40)) (pc' := 684) (st := [.int r1]) (As := [.int (xs (i + 1))]) C (sc_X11_lotter l E σ1 _ _ h) zwL_76_X11_lotter zvL_76_X11_lotter.1 zvL_76_X11_lotter.2 (zL_mem (by decide) zo22) rfl rfl ⟨by decide, by decide⟩ ⟨hc1, hc2⟩ rfl rfl (Nat.le_of_ble_eq_true rfl) dL_law_681 rfl (fun r2 σ2 h => ?_)
  obtain ⟨e1, hI2⟩ := h
  subst e1
  exact z_icmp_eq (tgt := 1293) (pc' := 687) C dL_law_684 (by decide) rfl (fun _ => z_wide (Nat.le_add_right _ _) (Nat.le_add_right _ _) (k σ2 hI2)) (fun z => absurd rfl z)
set_option maxHeartbeats 4000000 in
theorem lc_13 (C : zX p s m args meth c cL_law 8 RL rt E) (hX : va_X b L xs s s.heap) (hbl : b < s.heap.size) (hbA : ¬ zA E s.heap.size b) (hi : i + 6 ≤ L) (hL : L ≤ 3072) (hkc : kc + 1 ≤ 601024) (hks : ks + 6 ≤ 7293034) (hI : Inv σ) (k : ∀ σ', Inv σ' → zG p l e room_1 s m args below meth c 8 E (kc + 1) (ks + 6) Q σ' 1293 (lvL E b i) []) : zG p l e room_1 s m args below meth c 8 E kc ks Q σ 689 (lvL E b i) [] := by
  have hc1 : kc ≤ room_1.cells := Nat.le_trans (Nat.le_succ kc) hkc
  have hc2 : ks ≤ room_1.slots := Nat.le_trans (Nat.le_add_right ks 6) hks
  refine z_aload_n (pc' := 690) C dL_law_689 rfl 2 rfl rfl ?_
  refine z_callVi (q := 0) (i := 0) (w9 := (RX10, TX10, 12)) (pc' := 693) (st := []) (As := []) C (sc_X10_ring l E σ _ (st_ring hI)) zwL_77_X10_ring zvL_77_X10_ring.1 zvL_77_X10_ring.2 (zL_mem (by decide) zo0) rfl rfl ⟨by decide, by decide⟩ ⟨hc1, hc2⟩ rfl rfl (by decide) dL_law_690 rfl (fun r1 σ1 h => ?_)
  refine z_aload_n (pc' := 694) C dL_law_693 rfl 3 rfl rfl ?_
  refine z_callVi (q := 22) (i := 0) (w9 := (RX11, TX11, 40)) (pc' := 697) (st := [.int r1]) (As := []) C (sc_X11_ring l E σ1 _ h) zwL_81_X11_ring zvL_81_X11_ring.1 zvL_81_X11_ring.2 (zL_mem (by decide) zo22) rfl rfl ⟨by decide, by decide⟩ ⟨hc1, hc2⟩ rfl rfl (Nat.le_of_ble_eq_true rfl) dL_law_694 rfl (fun r2 σ2 h => ?_)
  obtain ⟨e1, hI2⟩ := h
  subst e1
  exact z_icmp_eq (tgt := 1293) (pc' := 700) C dL_law_697 (by decide) rfl (fun _ => z_wide (Nat.le_add_right _ _) (Nat.le_add_right _ _) (k σ2 hI2)) (fun z => absurd rfl z)
set_option maxHeartbeats 4000000 in
theorem lc_14 (C : zX p s m args meth c cL_law 8 RL rt E) (hX : va_X b L xs s s.heap) (hbl : b < s.heap.size) (hbA : ¬ zA E s.heap.size b) (hi : i + 6 ≤ L) (hL : L ≤ 3072) (hkc : kc + 1 ≤ 601024) (hks : ks + 6 ≤ 7293034) (hI : Inv σ) (k : ∀ σ', Inv σ' → zG p l e room_1 s m args below meth c 8 E (kc + 1) (ks + 6) Q σ' 1293 (lvL E b i) []) : zG p l e room_1 s m args below meth c 8 E kc ks Q σ 702 (lvL E b i) [] := by
  have hc1 : kc ≤ room_1.cells := Nat.le_trans (Nat.le_succ kc) hkc
  have hc2 : ks ≤ room_1.slots := Nat.le_trans (Nat.le_add_right ks 6) hks
  refine z_aload_n (pc' := 703) C dL_law_702 rfl 2 rfl rfl ?_
  refine z_scr (k := 1) (pc' := 709) C hX hbl hbA hi hL (by decide) (by decide) dL_law_703 rfl dL_law_704 dL_law_706 dL_law_707 dL_law_708 rfl ?_
  refine z_callVi (q := 0) (i := 0) (w9 := (RX10, TX10, 12)) (pc' := 712) (st := []) (As := [.int (xs (i + 1))]) C (sc_X10_day l E σ _ _ (st_day hI _)) zwL_82_X10_day zvL_82_X10_day.1 zvL_82_X10_day.2 (zL_mem (by decide) zo0) rfl rfl ⟨by decide, by decide⟩ ⟨hc1, hc2⟩ rfl rfl (by decide) dL_law_709 rfl (fun r1 σ1 h => ?_)
  refine z_aload_n (pc' := 713) C dL_law_712 rfl 3 rfl rfl ?_
  refine z_scr (k := 1) (pc' := 719) C hX hbl hbA hi hL (by decide) (by decide) dL_law_713 rfl dL_law_714 dL_law_716 dL_law_717 dL_law_718 rfl ?_
  refine z_callVi (q := 22) (i := 0) (w9 := (RX11, TX11, 40)) (pc' := 722) (st := [.int r1]) (As := [.int (xs (i + 1))]) C (sc_X11_day l E σ1 _ _ h) zwL_85_X11_day zvL_85_X11_day.1 zvL_85_X11_day.2 (zL_mem (by decide) zo22) rfl rfl ⟨by decide, by decide⟩ ⟨hc1, hc2⟩ rfl rfl (Nat.le_of_ble_eq_true rfl) dL_law_719 rfl (fun r2 σ2 h => ?_)
  obtain ⟨e1, hI2⟩ := h
  subst e1
  exact z_icmp_eq (tgt := 1293) (pc' := 725) C dL_law_722 (by decide) rfl (fun _ => z_wide (Nat.le_add_right _ _) (Nat.le_add_right _ _) (k σ2 hI2)) (fun z => absurd rfl z)
set_option maxHeartbeats 4000000 in
theorem lc_15 (C : zX p s m args meth c cL_law 8 RL rt E) (hX : va_X b L xs s s.heap) (hbl : b < s.heap.size) (hbA : ¬ zA E s.heap.size b) (hi : i + 6 ≤ L) (hL : L ≤ 3072) (hkc : kc + 1 ≤ 601024) (hks : ks + 6 ≤ 7293034) (hI : Inv σ) (k : ∀ σ', Inv σ' → zG p l e room_1 s m args below meth c 8 E (kc + 1) (ks + 6) Q σ' 1293 (lvL E b i) []) : zG p l e room_1 s m args below meth c 8 E kc ks Q σ 727 (lvL E b i) [] := by
  have hc1 : kc ≤ room_1.cells := Nat.le_trans (Nat.le_succ kc) hkc
  have hc2 : ks ≤ room_1.slots := Nat.le_trans (Nat.le_add_right ks 6) hks
  by_cases hz : xs (i + 2) = 0
  · refine z_aload_n (pc' := 728) C dL_law_727 rfl 2 rfl rfl ?_
    refine z_scr (k := 1) (pc' := 734) C hX hbl hbA hi hL (by decide) (by decide) dL_law_728 rfl dL_law_729 dL_law_731 dL_law_732 dL_law_733 rfl ?_
    refine z_scr (k := 2) (pc' := 740) C hX hbl hbA hi hL (by decide) (by decide) dL_law_734 rfl dL_law_735 dL_law_737 dL_law_738 dL_law_739 rfl ?_
    refine z_if_eq (tgt := 747) (pc' := 743) C dL_law_740 (by decide) rfl (fun _ => ?_) (fun z => absurd hz z)
    refine z_iconst (v := 0) (pc' := 748) C dL_law_747 (by decide) rfl ?_
    refine z_callVi (q := 0) (i := 0) (w9 := (RX10, TX10, 12)) (pc' := 751) (st := []) (As := [.int (xs (i + 1)), .int 0]) C (sc_X10_rain l E σ _ _ _ (st_rain hI _ _ (Or.inl rfl))) zwL_86_X10_rain zvL_86_X10_rain.1 zvL_86_X10_rain.2 (zL_mem (by decide) zo0) rfl rfl ⟨by decide, by decide⟩ ⟨hc1, hc2⟩ rfl rfl (by decide) dL_law_748 rfl (fun r1 σ1 h => ?_)
    refine z_aload_n (pc' := 752) C dL_law_751 rfl 3 rfl rfl ?_
    refine z_scr (k := 1) (pc' := 758) C hX hbl hbA hi hL (by decide) (by decide) dL_law_752 rfl dL_law_753 dL_law_755 dL_law_756 dL_law_757 rfl ?_
    refine z_scr (k := 2) (pc' := 764) C hX hbl hbA hi hL (by decide) (by decide) dL_law_758 rfl dL_law_759 dL_law_761 dL_law_762 dL_law_763 rfl ?_
    refine z_if_eq (tgt := 771) (pc' := 767) C dL_law_764 (by decide) rfl (fun _ => ?_) (fun z => absurd hz z)
    refine z_iconst (v := 0) (pc' := 772) C dL_law_771 (by decide) rfl ?_
    refine z_callVi (q := 22) (i := 0) (w9 := (RX11, TX11, 40)) (pc' := 775) (st := [.int r1]) (As := [.int (xs (i + 1)), .int 0]) C (sc_X11_rain l E σ1 _ _ _ h) zwL_89_X11_rain zvL_89_X11_rain.1 zvL_89_X11_rain.2 (zL_mem (by decide) zo22) rfl rfl ⟨by decide, by decide⟩ ⟨hc1, hc2⟩ rfl rfl (Nat.le_of_ble_eq_true rfl) dL_law_772 rfl (fun r2 σ2 h => ?_)
    obtain ⟨e1, hI2⟩ := h
    subst e1
    exact z_icmp_eq (tgt := 1293) (pc' := 778) C dL_law_775 (by decide) rfl (fun _ => z_wide (Nat.le_add_right _ _) (Nat.le_add_right _ _) (k σ2 hI2)) (fun z => absurd rfl z)
  · refine z_aload_n (pc' := 728) C dL_law_727 rfl 2 rfl rfl ?_
    refine z_scr (k := 1) (pc' := 734) C hX hbl hbA hi hL (by decide) (by decide) dL_law_728 rfl dL_law_729 dL_law_731 dL_law_732 dL_law_733 rfl ?_
    refine z_scr (k := 2) (pc' := 740) C hX hbl hbA hi hL (by decide) (by decide) dL_law_734 rfl dL_law_735 dL_law_737 dL_law_738 dL_law_739 rfl ?_
    refine z_if_eq (tgt := 747) (pc' := 743) C dL_law_740 (by decide) rfl (fun z => absurd z hz) (fun _ => ?_)
    refine z_iconst (v := 1) (pc' := 744) C dL_law_743 (by decide) rfl ?_
    refine z_goto (tgt := 748) C dL_law_744 (by decide) ?_
    refine z_callVi (q := 0) (i := 0) (w9 := (RX10, TX10, 12)) (pc' := 751) (st := []) (As := [.int (xs (i + 1)), .int 1]) C (sc_X10_rain l E σ _ _ _ (st_rain hI _ _ (Or.inr rfl))) zwL_86_X10_rain zvL_86_X10_rain.1 zvL_86_X10_rain.2 (zL_mem (by decide) zo0) rfl rfl ⟨by decide, by decide⟩ ⟨hc1, hc2⟩ rfl rfl (by decide) dL_law_748 rfl (fun r1 σ1 h => ?_)
    refine z_aload_n (pc' := 752) C dL_law_751 rfl 3 rfl rfl ?_
    refine z_scr (k := 1) (pc' := 758) C hX hbl hbA hi hL (by decide) (by decide) dL_law_752 rfl dL_law_753 dL_law_755 dL_law_756 dL_law_757 rfl ?_
    refine z_scr (k := 2) (pc' := 764) C hX hbl hbA hi hL (by decide) (by decide) dL_law_758 rfl dL_law_759 dL_law_761 dL_law_762 dL_law_763 rfl ?_
    refine z_if_eq (tgt := 771) (pc' := 767) C dL_law_764 (by decide) rfl (fun z => absurd z hz) (fun _ => ?_)
    refine z_iconst (v := 1) (pc' := 768) C dL_law_767 (by decide) rfl ?_
    refine z_goto (tgt := 772) C dL_law_768 (by decide) ?_
    refine z_callVi (q := 22) (i := 0) (w9 := (RX11, TX11, 40)) (pc' := 775) (st := [.int r1]) (As := [.int (xs (i + 1)), .int 1]) C (sc_X11_rain l E σ1 _ _ _ h) zwL_89_X11_rain zvL_89_X11_rain.1 zvL_89_X11_rain.2 (zL_mem (by decide) zo22) rfl rfl ⟨by decide, by decide⟩ ⟨hc1, hc2⟩ rfl rfl (Nat.le_of_ble_eq_true rfl) dL_law_772 rfl (fun r2 σ2 h => ?_)
    obtain ⟨e1, hI2⟩ := h
    subst e1
    exact z_icmp_eq (tgt := 1293) (pc' := 778) C dL_law_775 (by decide) rfl (fun _ => z_wide (Nat.le_add_right _ _) (Nat.le_add_right _ _) (k σ2 hI2)) (fun z => absurd rfl z)
set_option maxHeartbeats 4000000 in
theorem lc_16 (C : zX p s m args meth c cL_law 8 RL rt E) (hX : va_X b L xs s s.heap) (hbl : b < s.heap.size) (hbA : ¬ zA E s.heap.size b) (hi : i + 6 ≤ L) (hL : L ≤ 3072) (hkc : kc + 1 ≤ 601024) (hks : ks + 6 ≤ 7293034) (hI : Inv σ) (k : ∀ σ', Inv σ' → zG p l e room_1 s m args below meth c 8 E (kc + 1) (ks + 6) Q σ' 1293 (lvL E b i) []) : zG p l e room_1 s m args below meth c 8 E kc ks Q σ 780 (lvL E b i) [] := by
  have hc1 : kc ≤ room_1.cells := Nat.le_trans (Nat.le_succ kc) hkc
  have hc2 : ks ≤ room_1.slots := Nat.le_trans (Nat.le_add_right ks 6) hks
  refine z_aload_n (pc' := 781) C dL_law_780 rfl 2 rfl rfl ?_
  refine z_scr (k := 1) (pc' := 787) C hX hbl hbA hi hL (by decide) (by decide) dL_law_781 rfl dL_law_782 dL_law_784 dL_law_785 dL_law_786 rfl ?_
  refine z_callVi (q := 0) (i := 0) (w9 := (RX10, TX10, 12)) (pc' := 790) (st := []) (As := [.int (xs (i + 1))]) C (sc_X10_way l E σ _ _ (st_way hI _)) zwL_90_X10_way zvL_90_X10_way.1 zvL_90_X10_way.2 (zL_mem (by decide) zo0) rfl rfl ⟨by decide, by decide⟩ ⟨hc1, hc2⟩ rfl rfl (by decide) dL_law_787 rfl (fun r1 σ1 h => ?_)
  refine z_aload_n (pc' := 791) C dL_law_790 rfl 3 rfl rfl ?_
  refine z_scr (k := 1) (pc' := 797) C hX hbl hbA hi hL (by decide) (by decide) dL_law_791 rfl dL_law_792 dL_law_794 dL_law_795 dL_law_796 rfl ?_
  refine z_callVi (q := 22) (i := 0) (w9 := (RX11, TX11, 40)) (pc' := 800) (st := [.int r1]) (As := [.int (xs (i + 1))]) C (sc_X11_way l E σ1 _ _ h) zwL_93_X11_way zvL_93_X11_way.1 zvL_93_X11_way.2 (zL_mem (by decide) zo22) rfl rfl ⟨by decide, by decide⟩ ⟨hc1, hc2⟩ rfl rfl (Nat.le_of_ble_eq_true rfl) dL_law_797 rfl (fun r2 σ2 h => ?_)
  obtain ⟨e1, hI2⟩ := h
  subst e1
  exact z_icmp_eq (tgt := 1293) (pc' := 803) C dL_law_800 (by decide) rfl (fun _ => z_wide (Nat.le_add_right _ _) (Nat.le_add_right _ _) (k σ2 hI2)) (fun z => absurd rfl z)
set_option maxHeartbeats 4000000 in
theorem lc_17 (C : zX p s m args meth c cL_law 8 RL rt E) (hX : va_X b L xs s s.heap) (hbl : b < s.heap.size) (hbA : ¬ zA E s.heap.size b) (hi : i + 6 ≤ L) (hL : L ≤ 3072) (hkc : kc + 1 ≤ 601024) (hks : ks + 6 ≤ 7293034) (hI : Inv σ) (k : ∀ σ', Inv σ' → zG p l e room_1 s m args below meth c 8 E (kc + 1) (ks + 6) Q σ' 1293 (lvL E b i) []) : zG p l e room_1 s m args below meth c 8 E kc ks Q σ 805 (lvL E b i) [] := by
  have hc1 : kc ≤ room_1.cells := Nat.le_trans (Nat.le_succ kc) hkc
  have hc2 : ks ≤ room_1.slots := Nat.le_trans (Nat.le_add_right ks 6) hks
  refine z_aload_n (pc' := 806) C dL_law_805 rfl 2 rfl rfl ?_
  refine z_scr (k := 1) (pc' := 812) C hX hbl hbA hi hL (by decide) (by decide) dL_law_806 rfl dL_law_807 dL_law_809 dL_law_810 dL_law_811 rfl ?_
  refine z_callVi (q := 0) (i := 0) (w9 := (RX10, TX10, 12)) (pc' := 815) (st := []) (As := [.int (xs (i + 1))]) C (sc_X10_cut l E σ _ _ (st_cut hI _)) zwL_94_X10_cut zvL_94_X10_cut.1 zvL_94_X10_cut.2 (zL_mem (by decide) zo0) rfl rfl ⟨by decide, by decide⟩ ⟨hc1, hc2⟩ rfl rfl (by decide) dL_law_812 rfl (fun r1 σ1 h => ?_)
  refine z_aload_n (pc' := 816) C dL_law_815 rfl 3 rfl rfl ?_
  refine z_scr (k := 1) (pc' := 822) C hX hbl hbA hi hL (by decide) (by decide) dL_law_816 rfl dL_law_817 dL_law_819 dL_law_820 dL_law_821 rfl ?_
  refine z_callVi (q := 22) (i := 0) (w9 := (RX11, TX11, 40)) (pc' := 825) (st := [.int r1]) (As := [.int (xs (i + 1))]) C (sc_X11_cut l E σ1 _ _ h) zwL_97_X11_cut zvL_97_X11_cut.1 zvL_97_X11_cut.2 (zL_mem (by decide) zo22) rfl rfl ⟨by decide, by decide⟩ ⟨hc1, hc2⟩ rfl rfl (Nat.le_of_ble_eq_true rfl) dL_law_822 rfl (fun r2 σ2 h => ?_)
  obtain ⟨e1, hI2⟩ := h
  subst e1
  exact z_icmp_eq (tgt := 1293) (pc' := 828) C dL_law_825 (by decide) rfl (fun _ => z_wide (Nat.le_add_right _ _) (Nat.le_add_right _ _) (k σ2 hI2)) (fun z => absurd rfl z)
set_option maxHeartbeats 4000000 in
theorem lc_18 (C : zX p s m args meth c cL_law 8 RL rt E) (hX : va_X b L xs s s.heap) (hbl : b < s.heap.size) (hbA : ¬ zA E s.heap.size b) (hi : i + 6 ≤ L) (hL : L ≤ 3072) (hkc : kc + 1 ≤ 601024) (hks : ks + 6 ≤ 7293034) (hI : Inv σ) (k : ∀ σ', Inv σ' → zG p l e room_1 s m args below meth c 8 E (kc + 1) (ks + 6) Q σ' 1293 (lvL E b i) []) : zG p l e room_1 s m args below meth c 8 E kc ks Q σ 830 (lvL E b i) [] := by
  have hc1 : kc ≤ room_1.cells := Nat.le_trans (Nat.le_succ kc) hkc
  have hc2 : ks ≤ room_1.slots := Nat.le_trans (Nat.le_add_right ks 6) hks
  refine z_aload_n (pc' := 831) C dL_law_830 rfl 2 rfl rfl ?_
  refine z_callVi (q := 0) (i := 0) (w9 := (RX10, TX10, 12)) (pc' := 834) (st := []) (As := []) C (sc_X10_best l E σ _ (st_best hI)) zwL_98_X10_best zvL_98_X10_best.1 zvL_98_X10_best.2 (zL_mem (by decide) zo0) rfl rfl ⟨by decide, by decide⟩ ⟨hc1, hc2⟩ rfl rfl (by decide) dL_law_831 rfl (fun r1 σ1 h => ?_)
  refine z_aload_n (pc' := 835) C dL_law_834 rfl 3 rfl rfl ?_
  refine z_callVi (q := 22) (i := 0) (w9 := (RX11, TX11, 40)) (pc' := 838) (st := [.int r1]) (As := []) C (sc_X11_best l E σ1 _ h) zwL_101_X11_best zvL_101_X11_best.1 zvL_101_X11_best.2 (zL_mem (by decide) zo22) rfl rfl ⟨by decide, by decide⟩ ⟨hc1, hc2⟩ rfl rfl (Nat.le_of_ble_eq_true rfl) dL_law_835 rfl (fun r2 σ2 h => ?_)
  obtain ⟨e1, hI2⟩ := h
  subst e1
  exact z_icmp_eq (tgt := 1293) (pc' := 841) C dL_law_838 (by decide) rfl (fun _ => z_wide (Nat.le_add_right _ _) (Nat.le_add_right _ _) (k σ2 hI2)) (fun z => absurd rfl z)
set_option maxHeartbeats 4000000 in
theorem lc_19 (C : zX p s m args meth c cL_law 8 RL rt E) (hX : va_X b L xs s s.heap) (hbl : b < s.heap.size) (hbA : ¬ zA E s.heap.size b) (hi : i + 6 ≤ L) (hL : L ≤ 3072) (hkc : kc + 1 ≤ 601024) (hks : ks + 6 ≤ 7293034) (hI : Inv σ) (k : ∀ σ', Inv σ' → zG p l e room_1 s m args below meth c 8 E (kc + 1) (ks + 6) Q σ' 1293 (lvL E b i) []) : zG p l e room_1 s m args below meth c 8 E kc ks Q σ 843 (lvL E b i) [] := by
  have hc1 : kc ≤ room_1.cells := Nat.le_trans (Nat.le_succ kc) hkc
  have hc2 : ks ≤ room_1.slots := Nat.le_trans (Nat.le_add_right ks 6) hks
  refine z_aload_n (pc' := 844) C dL_law_843 rfl 2 rfl rfl ?_
  refine z_scr (k := 1) (pc' := 850) C hX hbl hbA hi hL (by decide) (by decide) dL_law_844 rfl dL_law_845 dL_law_847 dL_law_848 dL_law_849 rfl ?_
  refine z_callVi (q := 0) (i := 0) (w9 := (RX10, TX10, 12)) (pc' := 853) (st := []) (As := [.int (xs (i + 1))]) C (sc_X10_order l E σ _ _ (st_order hI _)) zwL_102_X10_order zvL_102_X10_order.1 zvL_102_X10_order.2 (zL_mem (by decide) zo0) rfl rfl ⟨by decide, by decide⟩ ⟨hc1, hc2⟩ rfl rfl (by decide) dL_law_850 rfl (fun r1 σ1 h => ?_)
  refine z_aload_n (pc' := 854) C dL_law_853 rfl 3 rfl rfl ?_
  refine z_scr (k := 1) (pc' := 860) C hX hbl hbA hi hL (by decide) (by decide) dL_law_854 rfl dL_law_855 dL_law_857 dL_law_858 dL_law_859 rfl ?_
  refine z_callVi (q := 22) (i := 0) (w9 := (RX11, TX11, 40)) (pc' := 863) (st := [.int r1]) (As := [.int (xs (i + 1))]) C (sc_X11_order l E σ1 _ _ h) zwL_105_X11_order zvL_105_X11_order.1 zvL_105_X11_order.2 (zL_mem (by decide) zo22) rfl rfl ⟨by decide, by decide⟩ ⟨hc1, hc2⟩ rfl rfl (Nat.le_of_ble_eq_true rfl) dL_law_860 rfl (fun r2 σ2 h => ?_)
  obtain ⟨e1, hI2⟩ := h
  subst e1
  exact z_icmp_eq (tgt := 1293) (pc' := 866) C dL_law_863 (by decide) rfl (fun _ => z_wide (Nat.le_add_right _ _) (Nat.le_add_right _ _) (k σ2 hI2)) (fun z => absurd rfl z)
set_option maxHeartbeats 4000000 in
theorem lc_20 (C : zX p s m args meth c cL_law 8 RL rt E) (hX : va_X b L xs s s.heap) (hbl : b < s.heap.size) (hbA : ¬ zA E s.heap.size b) (hi : i + 6 ≤ L) (hL : L ≤ 3072) (hkc : kc + 1 ≤ 601024) (hks : ks + 6 ≤ 7293034) (hI : Inv σ) (k : ∀ σ', Inv σ' → zG p l e room_1 s m args below meth c 8 E (kc + 1) (ks + 6) Q σ' 1293 (lvL E b i) []) : zG p l e room_1 s m args below meth c 8 E kc ks Q σ 868 (lvL E b i) [] := by
  have hc1 : kc ≤ room_1.cells := Nat.le_trans (Nat.le_succ kc) hkc
  have hc2 : ks ≤ room_1.slots := Nat.le_trans (Nat.le_add_right ks 6) hks
  refine z_aload_n (pc' := 869) C dL_law_868 rfl 2 rfl rfl ?_
  refine z_scr (k := 1) (pc' := 875) C hX hbl hbA hi hL (by decide) (by decide) dL_law_869 rfl dL_law_870 dL_law_872 dL_law_873 dL_law_874 rfl ?_
  refine z_callVi (q := 0) (i := 0) (w9 := (RX10, TX10, 12)) (pc' := 878) (st := []) (As := [.int (xs (i + 1))]) C (sc_X10_dry l E σ _ _ (st_dry hI _)) zwL_106_X10_dry zvL_106_X10_dry.1 zvL_106_X10_dry.2 (zL_mem (by decide) zo0) rfl rfl ⟨by decide, by decide⟩ ⟨hc1, hc2⟩ rfl rfl (by decide) dL_law_875 rfl (fun r1 σ1 h => ?_)
  refine z_aload_n (pc' := 879) C dL_law_878 rfl 3 rfl rfl ?_
  refine z_scr (k := 1) (pc' := 885) C hX hbl hbA hi hL (by decide) (by decide) dL_law_879 rfl dL_law_880 dL_law_882 dL_law_883 dL_law_884 rfl ?_
  refine z_callVi (q := 22) (i := 0) (w9 := (RX11, TX11, 40)) (pc' := 888) (st := [.int r1]) (As := [.int (xs (i + 1))]) C (sc_X11_dry l E σ1 _ _ h) zwL_109_X11_dry zvL_109_X11_dry.1 zvL_109_X11_dry.2 (zL_mem (by decide) zo22) rfl rfl ⟨by decide, by decide⟩ ⟨hc1, hc2⟩ rfl rfl (Nat.le_of_ble_eq_true rfl) dL_law_885 rfl (fun r2 σ2 h => ?_)
  obtain ⟨e1, hI2⟩ := h
  subst e1
  exact z_icmp_eq (tgt := 1293) (pc' := 891) C dL_law_888 (by decide) rfl (fun _ => z_wide (Nat.le_add_right _ _) (Nat.le_add_right _ _) (k σ2 hI2)) (fun z => absurd rfl z)
set_option maxHeartbeats 4000000 in
theorem lc_21 (C : zX p s m args meth c cL_law 8 RL rt E) (hX : va_X b L xs s s.heap) (hbl : b < s.heap.size) (hbA : ¬ zA E s.heap.size b) (hi : i + 6 ≤ L) (hL : L ≤ 3072) (hkc : kc + 1 ≤ 601024) (hks : ks + 6 ≤ 7293034) (hI : Inv σ) (k : ∀ σ', Inv σ' → zG p l e room_1 s m args below meth c 8 E (kc + 1) (ks + 6) Q σ' 1293 (lvL E b i) []) : zG p l e room_1 s m args below meth c 8 E kc ks Q σ 893 (lvL E b i) [] := by
  have hc1 : kc ≤ room_1.cells := Nat.le_trans (Nat.le_succ kc) hkc
  have hc2 : ks ≤ room_1.slots := Nat.le_trans (Nat.le_add_right ks 6) hks
  refine z_aload_n (pc' := 894) C dL_law_893 rfl 2 rfl rfl ?_
  refine z_scr (k := 1) (pc' := 900) C hX hbl hbA hi hL (by decide) (by decide) dL_law_894 rfl dL_law_895 dL_law_897 dL_law_898 dL_law_899 rfl ?_
  refine z_callVi (q := 0) (i := 0) (w9 := (RX10, TX10, 12)) (pc' := 903) (st := []) (As := [.int (xs (i + 1))]) C (sc_X10_barn l E σ _ _ (st_barn hI _)) zwL_110_X10_barn zvL_110_X10_barn.1 zvL_110_X10_barn.2 (zL_mem (by decide) zo0) rfl rfl ⟨by decide, by decide⟩ ⟨hc1, hc2⟩ rfl rfl (by decide) dL_law_900 rfl (fun r1 σ1 h => ?_)
  refine z_aload_n (pc' := 904) C dL_law_903 rfl 3 rfl rfl ?_
  refine z_scr (k := 1) (pc' := 910) C hX hbl hbA hi hL (by decide) (by decide) dL_law_904 rfl dL_law_905 dL_law_907 dL_law_908 dL_law_909 rfl ?_
  refine z_callVi (q := 22) (i := 0) (w9 := (RX11, TX11, 40)) (pc' := 913) (st := [.int r1]) (As := [.int (xs (i + 1))]) C (sc_X11_barn l E σ1 _ _ h) zwL_113_X11_barn zvL_113_X11_barn.1 zvL_113_X11_barn.2 (zL_mem (by decide) zo22) rfl rfl ⟨by decide, by decide⟩ ⟨hc1, hc2⟩ rfl rfl (Nat.le_of_ble_eq_true rfl) dL_law_910 rfl (fun r2 σ2 h => ?_)
  obtain ⟨e1, hI2⟩ := h
  subst e1
  exact z_icmp_eq (tgt := 1293) (pc' := 916) C dL_law_913 (by decide) rfl (fun _ => z_wide (Nat.le_add_right _ _) (Nat.le_add_right _ _) (k σ2 hI2)) (fun z => absurd rfl z)
set_option maxHeartbeats 4000000 in
theorem lc_22 (C : zX p s m args meth c cL_law 8 RL rt E) (hX : va_X b L xs s s.heap) (hbl : b < s.heap.size) (hbA : ¬ zA E s.heap.size b) (hi : i + 6 ≤ L) (hL : L ≤ 3072) (hkc : kc + 1 ≤ 601024) (hks : ks + 6 ≤ 7293034) (hI : Inv σ) (k : ∀ σ', Inv σ' → zG p l e room_1 s m args below meth c 8 E (kc + 1) (ks + 6) Q σ' 1293 (lvL E b i) []) : zG p l e room_1 s m args below meth c 8 E kc ks Q σ 918 (lvL E b i) [] := by
  have hc1 : kc ≤ room_1.cells := Nat.le_trans (Nat.le_succ kc) hkc
  have hc2 : ks ≤ room_1.slots := Nat.le_trans (Nat.le_add_right ks 6) hks
  refine z_aload_n (pc' := 919) C dL_law_918 rfl 2 rfl rfl ?_
  refine z_scr (k := 1) (pc' := 925) C hX hbl hbA hi hL (by decide) (by decide) dL_law_919 rfl dL_law_920 dL_law_922 dL_law_923 dL_law_924 rfl ?_
  refine z_callVi (q := 0) (i := 0) (w9 := (RX10, TX10, 12)) (pc' := 928) (st := []) (As := [.int (xs (i + 1))]) C (sc_X10_tithe l E σ _ _ (st_tithe hI _)) zwL_114_X10_tithe zvL_114_X10_tithe.1 zvL_114_X10_tithe.2 (zL_mem (by decide) zo0) rfl rfl ⟨by decide, by decide⟩ ⟨hc1, hc2⟩ rfl rfl (by decide) dL_law_925 rfl (fun r1 σ1 h => ?_)
  refine z_aload_n (pc' := 929) C dL_law_928 rfl 3 rfl rfl ?_
  refine z_scr (k := 1) (pc' := 935) C hX hbl hbA hi hL (by decide) (by decide) dL_law_929 rfl dL_law_930 dL_law_932 dL_law_933 dL_law_934 rfl ?_
  refine z_callVi (q := 22) (i := 0) (w9 := (RX11, TX11, 40)) (pc' := 938) (st := [.int r1]) (As := [.int (xs (i + 1))]) C (sc_X11_tithe l E σ1 _ _ h) zwL_117_X11_tithe zvL_117_X11_tithe.1 zvL_117_X11_tithe.2 (zL_mem (by decide) zo22) rfl rfl ⟨by decide, by decide⟩ ⟨hc1, hc2⟩ rfl rfl (Nat.le_of_ble_eq_true rfl) dL_law_935 rfl (fun r2 σ2 h => ?_)
  obtain ⟨e1, hI2⟩ := h
  subst e1
  exact z_icmp_eq (tgt := 1293) (pc' := 941) C dL_law_938 (by decide) rfl (fun _ => z_wide (Nat.le_add_right _ _) (Nat.le_add_right _ _) (k σ2 hI2)) (fun z => absurd rfl z)
set_option maxHeartbeats 4000000 in
theorem lc_23 (C : zX p s m args meth c cL_law 8 RL rt E) (hX : va_X b L xs s s.heap) (hbl : b < s.heap.size) (hbA : ¬ zA E s.heap.size b) (hi : i + 6 ≤ L) (hL : L ≤ 3072) (hkc : kc + 1 ≤ 601024) (hks : ks + 6 ≤ 7293034) (hI : Inv σ) (k : ∀ σ', Inv σ' → zG p l e room_1 s m args below meth c 8 E (kc + 1) (ks + 6) Q σ' 1293 (lvL E b i) []) : zG p l e room_1 s m args below meth c 8 E kc ks Q σ 943 (lvL E b i) [] := by
  have hc1 : kc ≤ room_1.cells := Nat.le_trans (Nat.le_succ kc) hkc
  have hc2 : ks ≤ room_1.slots := Nat.le_trans (Nat.le_add_right ks 6) hks
  refine z_aload_n (pc' := 944) C dL_law_943 rfl 2 rfl rfl ?_
  refine z_scr (k := 1) (pc' := 950) C hX hbl hbA hi hL (by decide) (by decide) dL_law_944 rfl dL_law_945 dL_law_947 dL_law_948 dL_law_949 rfl ?_
  refine z_scr (k := 2) (pc' := 956) C hX hbl hbA hi hL (by decide) (by decide) dL_law_950 rfl dL_law_951 dL_law_953 dL_law_954 dL_law_955 rfl ?_
  refine z_callVi (q := 0) (i := 0) (w9 := (RX10, TX10, 12)) (pc' := 959) (st := []) (As := [.int (xs (i + 1)), .int (xs (i + 2))]) C (sc_X10_pays l E σ _ _ _ (st_pays hI _ _)) zwL_118_X10_pays zvL_118_X10_pays.1 zvL_118_X10_pays.2 (zL_mem (by decide) zo0) rfl rfl ⟨by decide, by decide⟩ ⟨hc1, hc2⟩ rfl rfl (by decide) dL_law_956 rfl (fun r1 σ1 h => ?_)
  refine z_aload_n (pc' := 960) C dL_law_959 rfl 3 rfl rfl ?_
  refine z_scr (k := 1) (pc' := 966) C hX hbl hbA hi hL (by decide) (by decide) dL_law_960 rfl dL_law_961 dL_law_963 dL_law_964 dL_law_965 rfl ?_
  refine z_scr (k := 2) (pc' := 972) C hX hbl hbA hi hL (by decide) (by decide) dL_law_966 rfl dL_law_967 dL_law_969 dL_law_970 dL_law_971 rfl ?_
  refine z_callVi (q := 22) (i := 0) (w9 := (RX11, TX11, 40)) (pc' := 975) (st := [.int r1]) (As := [.int (xs (i + 1)), .int (xs (i + 2))]) C (sc_X11_pays l E σ1 _ _ _ h) zwL_121_X11_pays zvL_121_X11_pays.1 zvL_121_X11_pays.2 (zL_mem (by decide) zo22) rfl rfl ⟨by decide, by decide⟩ ⟨hc1, hc2⟩ rfl rfl (Nat.le_of_ble_eq_true rfl) dL_law_972 rfl (fun r2 σ2 h => ?_)
  obtain ⟨e1, hI2⟩ := h
  subst e1
  exact z_icmp_eq (tgt := 1293) (pc' := 978) C dL_law_975 (by decide) rfl (fun _ => z_wide (Nat.le_add_right _ _) (Nat.le_add_right _ _) (k σ2 hI2)) (fun z => absurd rfl z)
set_option maxHeartbeats 4000000 in
theorem lc_24 (C : zX p s m args meth c cL_law 8 RL rt E) (hX : va_X b L xs s s.heap) (hbl : b < s.heap.size) (hbA : ¬ zA E s.heap.size b) (hi : i + 6 ≤ L) (hL : L ≤ 3072) (hkc : kc + 1 ≤ 601024) (hks : ks + 6 ≤ 7293034) (hI : Inv σ) (k : ∀ σ', Inv σ' → zG p l e room_1 s m args below meth c 8 E (kc + 1) (ks + 6) Q σ' 1293 (lvL E b i) []) : zG p l e room_1 s m args below meth c 8 E kc ks Q σ 980 (lvL E b i) [] := by
  have hc1 : kc ≤ room_1.cells := Nat.le_trans (Nat.le_succ kc) hkc
  have hc2 : ks ≤ room_1.slots := Nat.le_trans (Nat.le_add_right ks 6) hks
  refine z_aload_n (pc' := 981) C dL_law_980 rfl 2 rfl rfl ?_
  refine z_scr (k := 1) (pc' := 987) C hX hbl hbA hi hL (by decide) (by decide) dL_law_981 rfl dL_law_982 dL_law_984 dL_law_985 dL_law_986 rfl ?_
  refine z_callVi (q := 0) (i := 0) (w9 := (RX10, TX10, 12)) (pc' := 990) (st := []) (As := [.int (xs (i + 1))]) C (sc_X10_count l E σ _ _ (st_count hI _)) zwL_122_X10_count zvL_122_X10_count.1 zvL_122_X10_count.2 (zL_mem (by decide) zo0) rfl rfl ⟨by decide, by decide⟩ ⟨hc1, hc2⟩ rfl rfl (by decide) dL_law_987 rfl (fun r1 σ1 h => ?_)
  refine z_aload_n (pc' := 991) C dL_law_990 rfl 3 rfl rfl ?_
  refine z_scr (k := 1) (pc' := 997) C hX hbl hbA hi hL (by decide) (by decide) dL_law_991 rfl dL_law_992 dL_law_994 dL_law_995 dL_law_996 rfl ?_
  refine z_callVi (q := 22) (i := 0) (w9 := (RX11, TX11, 40)) (pc' := 1000) (st := [.int r1]) (As := [.int (xs (i + 1))]) C (sc_X11_count l E σ1 _ _ h) zwL_125_X11_count zvL_125_X11_count.1 zvL_125_X11_count.2 (zL_mem (by decide) zo22) rfl rfl ⟨by decide, by decide⟩ ⟨hc1, hc2⟩ rfl rfl (Nat.le_of_ble_eq_true rfl) dL_law_997 rfl (fun r2 σ2 h => ?_)
  obtain ⟨e1, hI2⟩ := h
  subst e1
  exact z_icmp_eq (tgt := 1293) (pc' := 1003) C dL_law_1000 (by decide) rfl (fun _ => z_wide (Nat.le_add_right _ _) (Nat.le_add_right _ _) (k σ2 hI2)) (fun z => absurd rfl z)
set_option maxHeartbeats 4000000 in
theorem lc_25 (C : zX p s m args meth c cL_law 8 RL rt E) (hX : va_X b L xs s s.heap) (hbl : b < s.heap.size) (hbA : ¬ zA E s.heap.size b) (hi : i + 6 ≤ L) (hL : L ≤ 3072) (hkc : kc + 1 ≤ 601024) (hks : ks + 6 ≤ 7293034) (hI : Inv σ) (k : ∀ σ', Inv σ' → zG p l e room_1 s m args below meth c 8 E (kc + 1) (ks + 6) Q σ' 1293 (lvL E b i) []) : zG p l e room_1 s m args below meth c 8 E kc ks Q σ 1005 (lvL E b i) [] := by
  have hc1 : kc ≤ room_1.cells := Nat.le_trans (Nat.le_succ kc) hkc
  have hc2 : ks ≤ room_1.slots := Nat.le_trans (Nat.le_add_right ks 6) hks
  refine z_aload_n (pc' := 1006) C dL_law_1005 rfl 2 rfl rfl ?_
  refine z_scr (k := 1) (pc' := 1012) C hX hbl hbA hi hL (by decide) (by decide) dL_law_1006 rfl dL_law_1007 dL_law_1009 dL_law_1010 dL_law_1011 rfl ?_
  refine z_scr (k := 2) (pc' := 1018) C hX hbl hbA hi hL (by decide) (by decide) dL_law_1012 rfl dL_law_1013 dL_law_1015 dL_law_1016 dL_law_1017 rfl ?_
  refine z_scr (k := 3) (pc' := 1024) C hX hbl hbA hi hL (by decide) (by decide) dL_law_1018 rfl dL_law_1019 dL_law_1021 dL_law_1022 dL_law_1023 rfl ?_
  refine z_callVi (q := 0) (i := 0) (w9 := (RX10, TX10, 12)) (pc' := 1027) (st := []) (As := [.int (xs (i + 1)), .int (xs (i + 2)), .int (xs (i + 3))]) C (sc_X10_keep l E σ _ _ _ _ (st_keep hI _ _ _)) zwL_126_X10_keep zvL_126_X10_keep.1 zvL_126_X10_keep.2 (zL_mem (by decide) zo0) rfl rfl ⟨by decide, by decide⟩ ⟨hc1, hc2⟩ rfl rfl (by decide) dL_law_1024 rfl (fun r1 σ1 h => ?_)
  refine z_aload_n (pc' := 1028) C dL_law_1027 rfl 3 rfl rfl ?_
  refine z_scr (k := 1) (pc' := 1034) C hX hbl hbA hi hL (by decide) (by decide) dL_law_1028 rfl dL_law_1029 dL_law_1031 dL_law_1032 dL_law_1033 rfl ?_
  refine z_scr (k := 2) (pc' := 1040) C hX hbl hbA hi hL (by decide) (by decide) dL_law_1034 rfl dL_law_1035 dL_law_1037 dL_law_1038 dL_law_1039 rfl ?_
  refine z_scr (k := 3) (pc' := 1046) C hX hbl hbA hi hL (by decide) (by decide) dL_law_1040 rfl dL_law_1041 dL_law_1043 dL_law_1044 dL_law_1045 rfl ?_
  refine z_callVi (q := 22) (i := 0) (w9 := (RX11, TX11, 40)) (pc' := 1049) (st := [.int r1]) (As := [.int (xs (i + 1)), .int (xs (i + 2)), .int (xs (i + 3))]) C (sc_X11_keep l E σ1 _ _ _ _ h) zwL_129_X11_keep zvL_129_X11_keep.1 zvL_129_X11_keep.2 (zL_mem (by decide) zo22) rfl rfl ⟨by decide, by decide⟩ ⟨hc1, hc2⟩ rfl rfl (Nat.le_of_ble_eq_true rfl) dL_law_1046 rfl (fun r2 σ2 h => ?_)
  obtain ⟨e1, hI2⟩ := h
  subst e1
  exact z_icmp_eq (tgt := 1293) (pc' := 1052) C dL_law_1049 (by decide) rfl (fun _ => z_wide (Nat.le_add_right _ _) (Nat.le_add_right _ _) (k σ2 hI2)) (fun z => absurd rfl z)
set_option maxHeartbeats 4000000 in
theorem lc_26 (C : zX p s m args meth c cL_law 8 RL rt E) (hX : va_X b L xs s s.heap) (hbl : b < s.heap.size) (hbA : ¬ zA E s.heap.size b) (hi : i + 6 ≤ L) (hL : L ≤ 3072) (hkc : kc + 1 ≤ 601024) (hks : ks + 6 ≤ 7293034) (hI : Inv σ) (k : ∀ σ', Inv σ' → zG p l e room_1 s m args below meth c 8 E (kc + 1) (ks + 6) Q σ' 1293 (lvL E b i) []) : zG p l e room_1 s m args below meth c 8 E kc ks Q σ 1054 (lvL E b i) [] := by
  have hc1 : kc ≤ room_1.cells := Nat.le_trans (Nat.le_succ kc) hkc
  have hc2 : ks ≤ room_1.slots := Nat.le_trans (Nat.le_add_right ks 6) hks
  refine z_aload_n (pc' := 1055) C dL_law_1054 rfl 2 rfl rfl ?_
  refine z_scr (k := 1) (pc' := 1061) C hX hbl hbA hi hL (by decide) (by decide) dL_law_1055 rfl dL_law_1056 dL_law_1058 dL_law_1059 dL_law_1060 rfl ?_
  refine z_scr (k := 2) (pc' := 1067) C hX hbl hbA hi hL (by decide) (by decide) dL_law_1061 rfl dL_law_1062 dL_law_1064 dL_law_1065 dL_law_1066 rfl ?_
  refine z_scr (k := 3) (pc' := 1073) C hX hbl hbA hi hL (by decide) (by decide) dL_law_1067 rfl dL_law_1068 dL_law_1070 dL_law_1071 dL_law_1072 rfl ?_
  refine z_callVi (q := 0) (i := 0) (w9 := (RX10, TX10, 12)) (pc' := 1076) (st := []) (As := [.int (xs (i + 1)), .int (xs (i + 2)), .int (xs (i + 3))]) C (sc_X10_make l E σ _ _ _ _ (st_make hI _ _ _)) zwL_130_X10_make zvL_130_X10_make.1 zvL_130_X10_make.2 (zL_mem (by decide) zo0) rfl rfl ⟨by decide, by decide⟩ ⟨hc1, hc2⟩ rfl rfl (by decide) dL_law_1073 rfl (fun r1 σ1 h => ?_)
  refine z_aload_n (pc' := 1077) C dL_law_1076 rfl 3 rfl rfl ?_
  refine z_scr (k := 1) (pc' := 1083) C hX hbl hbA hi hL (by decide) (by decide) dL_law_1077 rfl dL_law_1078 dL_law_1080 dL_law_1081 dL_law_1082 rfl ?_
  refine z_scr (k := 2) (pc' := 1089) C hX hbl hbA hi hL (by decide) (by decide) dL_law_1083 rfl dL_law_1084 dL_law_1086 dL_law_1087 dL_law_1088 rfl ?_
  refine z_scr (k := 3) (pc' := 1095) C hX hbl hbA hi hL (by decide) (by decide) dL_law_1089 rfl dL_law_1090 dL_law_1092 dL_law_1093 dL_law_1094 rfl ?_
  refine z_callVi (q := 22) (i := 0) (w9 := (RX11, TX11, 40)) (pc' := 1098) (st := [.int r1]) (As := [.int (xs (i + 1)), .int (xs (i + 2)), .int (xs (i + 3))]) C (sc_X11_make l E σ1 _ _ _ _ h) zwL_133_X11_make zvL_133_X11_make.1 zvL_133_X11_make.2 (zL_mem (by decide) zo22) rfl rfl ⟨by decide, by decide⟩ ⟨hc1, hc2⟩ rfl rfl (Nat.le_of_ble_eq_true rfl) dL_law_1095 rfl (fun r2 σ2 h => ?_)
  obtain ⟨e1, hI2⟩ := h
  subst e1
  exact z_icmp_eq (tgt := 1293) (pc' := 1101) C dL_law_1098 (by decide) rfl (fun _ => z_wide (Nat.le_add_right _ _) (Nat.le_add_right _ _) (k σ2 hI2)) (fun z => absurd rfl z)
set_option maxHeartbeats 4000000 in
theorem lc_28 (C : zX p s m args meth c cL_law 8 RL rt E) (hX : va_X b L xs s s.heap) (hbl : b < s.heap.size) (hbA : ¬ zA E s.heap.size b) (hi : i + 6 ≤ L) (hL : L ≤ 3072) (hkc : kc + 1 ≤ 601024) (hks : ks + 6 ≤ 7293034) (hI : Inv σ) (k : ∀ σ', Inv σ' → zG p l e room_1 s m args below meth c 8 E (kc + 1) (ks + 6) Q σ' 1293 (lvL E b i) []) : zG p l e room_1 s m args below meth c 8 E kc ks Q σ 1170 (lvL E b i) [] := by
  have hc1 : kc ≤ room_1.cells := Nat.le_trans (Nat.le_succ kc) hkc
  have hc2 : ks ≤ room_1.slots := Nat.le_trans (Nat.le_add_right ks 6) hks
  refine z_aload_n (pc' := 1171) C dL_law_1170 rfl 2 rfl rfl ?_
  refine z_scr (k := 1) (pc' := 1177) C hX hbl hbA hi hL (by decide) (by decide) dL_law_1171 rfl dL_law_1172 dL_law_1174 dL_law_1175 dL_law_1176 rfl ?_
  refine z_scr (k := 2) (pc' := 1183) C hX hbl hbA hi hL (by decide) (by decide) dL_law_1177 rfl dL_law_1178 dL_law_1180 dL_law_1181 dL_law_1182 rfl ?_
  refine z_scr (k := 3) (pc' := 1189) C hX hbl hbA hi hL (by decide) (by decide) dL_law_1183 rfl dL_law_1184 dL_law_1186 dL_law_1187 dL_law_1188 rfl ?_
  refine z_scr (k := 4) (pc' := 1195) C hX hbl hbA hi hL (by decide) (by decide) dL_law_1189 rfl dL_law_1190 dL_law_1192 dL_law_1193 dL_law_1194 rfl ?_
  refine z_scr (k := 5) (pc' := 1201) C hX hbl hbA hi hL (by decide) (by decide) dL_law_1195 rfl dL_law_1196 dL_law_1198 dL_law_1199 dL_law_1200 rfl ?_
  refine z_callVi (q := 0) (i := 0) (w9 := (RX10, TX10, 12)) (pc' := 1204) (st := []) (As := [.int (xs (i + 1)), .int (xs (i + 2)), .int (xs (i + 3)), .int (xs (i + 4)), .int (xs (i + 5))]) C (sc_X10_copy l E σ _ _ _ _ _ _ (st_copy hI _ _ _ _ _)) zwL_143_X10_copy zvL_143_X10_copy.1 zvL_143_X10_copy.2 (zL_mem (by decide) zo0) rfl rfl ⟨by decide, by decide⟩ ⟨hc1, hc2⟩ rfl rfl (by decide) dL_law_1201 rfl (fun r1 σ1 h => ?_)
  refine z_aload_n (pc' := 1205) C dL_law_1204 rfl 3 rfl rfl ?_
  refine z_scr (k := 1) (pc' := 1211) C hX hbl hbA hi hL (by decide) (by decide) dL_law_1205 rfl dL_law_1206 dL_law_1208 dL_law_1209 dL_law_1210 rfl ?_
  refine z_scr (k := 2) (pc' := 1217) C hX hbl hbA hi hL (by decide) (by decide) dL_law_1211 rfl dL_law_1212 dL_law_1214 dL_law_1215 dL_law_1216 rfl ?_
  refine z_scr (k := 3) (pc' := 1223) C hX hbl hbA hi hL (by decide) (by decide) dL_law_1217 rfl dL_law_1218 dL_law_1220 dL_law_1221 dL_law_1222 rfl ?_
  refine z_scr (k := 4) (pc' := 1229) C hX hbl hbA hi hL (by decide) (by decide) dL_law_1223 rfl dL_law_1224 dL_law_1226 dL_law_1227 dL_law_1228 rfl ?_
  refine z_scr (k := 5) (pc' := 1235) C hX hbl hbA hi hL (by decide) (by decide) dL_law_1229 rfl dL_law_1230 dL_law_1232 dL_law_1233 dL_law_1234 rfl ?_
  refine z_callVi (q := 22) (i := 0) (w9 := (RX11, TX11, 40)) (pc' := 1238) (st := [.int r1]) (As := [.int (xs (i + 1)), .int (xs (i + 2)), .int (xs (i + 3)), .int (xs (i + 4)), .int (xs (i + 5))]) C (sc_X11_copy l E σ1 _ _ _ _ _ _ h) zwL_147_X11_copy zvL_147_X11_copy.1 zvL_147_X11_copy.2 (zL_mem (by decide) zo22) rfl rfl ⟨by decide, by decide⟩ ⟨hc1, hc2⟩ rfl rfl (Nat.le_of_ble_eq_true rfl) dL_law_1235 rfl (fun r2 σ2 h => ?_)
  obtain ⟨e1, hI2⟩ := h
  subst e1
  exact z_icmp_eq (tgt := 1293) (pc' := 1241) C dL_law_1238 (by decide) rfl (fun _ => z_wide (Nat.le_add_right _ _) (Nat.le_add_right _ _) (k σ2 hI2)) (fun z => absurd rfl z)
set_option maxHeartbeats 4000000 in
theorem lc_29 (C : zX p s m args meth c cL_law 8 RL rt E) (hX : va_X b L xs s s.heap) (hbl : b < s.heap.size) (hbA : ¬ zA E s.heap.size b) (hi : i + 6 ≤ L) (hL : L ≤ 3072) (hkc : kc + 1 ≤ 601024) (hks : ks + 6 ≤ 7293034) (hI : Inv σ) (k : ∀ σ', Inv σ' → zG p l e room_1 s m args below meth c 8 E (kc + 1) (ks + 6) Q σ' 1293 (lvL E b i) []) : zG p l e room_1 s m args below meth c 8 E kc ks Q σ 1243 (lvL E b i) [] := by
  have hc1 : kc ≤ room_1.cells := Nat.le_trans (Nat.le_succ kc) hkc
  have hc2 : ks ≤ room_1.slots := Nat.le_trans (Nat.le_add_right ks 6) hks
  refine z_aload_n (pc' := 1244) C dL_law_1243 rfl 2 rfl rfl ?_
  refine z_scr (k := 1) (pc' := 1250) C hX hbl hbA hi hL (by decide) (by decide) dL_law_1244 rfl dL_law_1245 dL_law_1247 dL_law_1248 dL_law_1249 rfl ?_
  refine z_callVi (q := 0) (i := 0) (w9 := (RX10, TX10, 12)) (pc' := 1253) (st := []) (As := [.int (xs (i + 1))]) C (sc_X10_weight l E σ _ _ (st_weight hI _)) zwL_148_X10_weight zvL_148_X10_weight.1 zvL_148_X10_weight.2 (zL_mem (by decide) zo0) rfl rfl ⟨by decide, by decide⟩ ⟨hc1, hc2⟩ rfl rfl (by decide) dL_law_1250 rfl (fun r1 σ1 h => ?_)
  refine z_aload_n (pc' := 1254) C dL_law_1253 rfl 3 rfl rfl ?_
  refine z_scr (k := 1) (pc' := 1260) C hX hbl hbA hi hL (by decide) (by decide) dL_law_1254 rfl dL_law_1255 dL_law_1257 dL_law_1258 dL_law_1259 rfl ?_
  refine z_callVi (q := 22) (i := 0) (w9 := (RX11, TX11, 40)) (pc' := 1263) (st := [.int r1]) (As := [.int (xs (i + 1))]) C (sc_X11_weight l E σ1 _ _ h) zwL_151_X11_weight zvL_151_X11_weight.1 zvL_151_X11_weight.2 (zL_mem (by decide) zo22) rfl rfl ⟨by decide, by decide⟩ ⟨hc1, hc2⟩ rfl rfl (Nat.le_of_ble_eq_true rfl) dL_law_1260 rfl (fun r2 σ2 h => ?_)
  obtain ⟨e1, hI2⟩ := h
  subst e1
  exact z_icmp_eq (tgt := 1293) (pc' := 1266) C dL_law_1263 (by decide) rfl (fun _ => z_wide (Nat.le_add_right _ _) (Nat.le_add_right _ _) (k σ2 hI2)) (fun z => absurd rfl z)
end ZLW
