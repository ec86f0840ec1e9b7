/-! the law's loop -/
theorem and31 (x : Int32) : ∃ k, k < 32 ∧ x &&& 31 = nI k := by
  refine ⟨(x &&& 31).toBitVec.toNat, ?_, ?_⟩
  · have e1 : (x &&& 31).toBitVec = x.toBitVec &&& (31 : Int32).toBitVec := rfl
    rw [e1, BitVec.toNat_and]
    exact Nat.lt_of_le_of_lt Nat.and_le_right (by decide)
  · apply Int32.toBitVec_inj.1
    apply BitVec.eq_of_toNat_eq
    have e1 : (x &&& 31).toBitVec.toNat < 2 ^ 32 := BitVec.isLt _
    show _ = (BitVec.ofNat 32 (x &&& 31).toBitVec.toNat).toNat
    rw [BitVec.toNat_ofNat, Nat.mod_eq_of_lt e1]
section ZLO
variable {p : Program} {l : Launch} {e : Env} {s : State} {m : MethodId} {below : List Frame} {meth : Method} {c : Code} {nL kc ks : Nat} {E : zE} {Q : State → Prop} {σ : zMem} {b L i : Nat} {xs : Nat → Int32}
theorem law_end (C : zX p s m #[.ref b] meth c cL_law 8 RL ret E) (hE : ∀ q : Nat × Nat, q ∈ zL → s.heap.size ≤ E.2.2 q.1 q.2) (hkc : kc ≤ 601024) (hks : ks ≤ 7293034) : zG p l e room_1 s m #[.ref b] below meth c 8 E kc ks (lw_Z below #[.ref b] s) σ 1299 (lvL E b i) [] := by
  refine z_iconst (v := 1) (pc' := 1300) C dL_law_1299 (by decide) rfl ?_
  intro ls H locs h1 h2 h3
  refine va_forget (fun q hq => ?_) (W.widen hkc hks (lw_ret C.1.1 C.1.2.1 C.2.2.2.1 C.2.2.2.2 dL_law_1300))
  rcases h3.2.2 q hq with ⟨c9, h8, h9⟩ | h9
  · rw [← h9]
    exact hE c9 h8
  · exact h9
set_option maxHeartbeats 8000000 in
theorem law_turn (hl : l.stackTraces = false) (hT : TX (zA E s.heap.size) s) (C : zX p s m #[.ref b] meth c cL_law 8 RL ret E) (hX : va_X b L xs s s.heap) (hbl : b < s.heap.size) (hbA : ¬ zA E s.heap.size b) (hi : i + 6 ≤ L) (hL : L ≤ 3072) (hkc : kc + 1 ≤ 601024) (hks : ks + 6 ≤ 7293034) (hI : Inv σ) (k : ∀ σ', Inv σ' → zG p l e room_1 s m #[.ref b] below meth c 8 E (kc + 1) (ks + 6) Q σ' 1293 (lvL E b i) []) : zG p l e room_1 s m #[.ref b] below meth c 8 E kc ks Q σ 33 (lvL E b i) [] := by
  refine z_aload_n (pc' := 34) C dL_law_33 rfl 1 rfl rfl ?_
  refine z_iload (pc' := 36) C dL_law_34 0 rfl rfl ?_
  refine z_sld (pc' := 37) C hX hbl hbA (by omega) hL dL_law_36 rfl ?_
  refine z_bipush (v := 31) (pc' := 39) C dL_law_37 (by decide) rfl ?_
  refine z_iand (pc' := 40) C dL_law_39 rfl ?_
  obtain ⟨k9, hk9, e9⟩ := and31 (xs i)
  by_cases h31 : k9 = 31
  · refine z_tabOut (tgt := 1293) C dL_law_40 (Or.inr ?_) (by decide) (z_wide (Nat.le_add_right _ _) (Nat.le_add_right _ _) (k σ hI))
    rw [e9, h31]
    decide
  by_cases h0 : k9 = 0
  · subst h0
    exact z_tabIn (off := 140) (tgt := 180) C dL_law_40 (nI 0) e9 (by decide) (by decide) (by decide +kernel) (by decide) (lc_0 C hX hbl hbA hi hL hkc hks hI k)
  by_cases h1 : k9 = 1
  · subst h1
    exact z_tabIn (off := 189) (tgt := 229) C dL_law_40 (nI 1) e9 (by decide) (by decide) (by decide +kernel) (by decide) (lc_1 C hX hbl hbA hi hL hkc hks hI k)
  by_cases h2 : k9 = 2
  · subst h2
    exact z_tabIn (off := 238) (tgt := 278) C dL_law_40 (nI 2) e9 (by decide) (by decide) (by decide +kernel) (by decide) (lc_2 C hX hbl hbA hi hL hkc hks hI k)
  by_cases h3 : k9 = 3
  · subst h3
    exact z_tabIn (off := 275) (tgt := 315) C dL_law_40 (nI 3) e9 (by decide) (by decide) (by decide +kernel) (by decide) (lc_3 C hX hbl hbA hi hL hkc hks hI k)
  by_cases h4 : k9 = 4
  · subst h4
    exact z_tabIn (off := 328) (tgt := 368) C dL_law_40 (nI 4) e9 (by decide) (by decide) (by decide +kernel) (by decide) (lc_4 C hX hbl hbA hi hL hkc hks hI k)
  by_cases h5 : k9 = 5
  · subst h5
    exact z_tabIn (off := 365) (tgt := 405) C dL_law_40 (nI 5) e9 (by decide) (by decide) (by decide +kernel) (by decide) (lc_5 C hX hbl hbA hi hL hkc hks hI k)
  by_cases h6 : k9 = 6
  · subst h6
    exact z_tabIn (off := 390) (tgt := 430) C dL_law_40 (nI 6) e9 (by decide) (by decide) (by decide +kernel) (by decide) (lc_6 C hX hbl hbA hi hL hkc hks hI k)
  by_cases h7 : k9 = 7
  · subst h7
    exact z_tabIn (off := 427) (tgt := 467) C dL_law_40 (nI 7) e9 (by decide) (by decide) (by decide +kernel) (by decide) (lc_7 C hX hbl hbA hi hL hkc hks hI k)
  by_cases h8 : k9 = 8
  · subst h8
    exact z_tabIn (off := 464) (tgt := 504) C dL_law_40 (nI 8) e9 (by decide) (by decide) (by decide +kernel) (by decide) (lc_8 C hX hbl hbA hi hL hkc hks hI k)
  by_cases h9 : k9 = 9
  · subst h9
    exact z_tabIn (off := 501) (tgt := 541) C dL_law_40 (nI 9) e9 (by decide) (by decide) (by decide +kernel) (by decide) (lc_9 C hX hbl hbA hi hL hkc hks hI k)
  by_cases h10 : k9 = 10
  · subst h10
    exact z_tabIn (off := 550) (tgt := 590) C dL_law_40 (nI 10) e9 (by decide) (by decide) (by decide +kernel) (by decide) (lc_10 C hX hbl hbA hi hL hkc hks hI k)
  by_cases h11 : k9 = 11
  · subst h11
    exact z_tabIn (off := 599) (tgt := 639) C dL_law_40 (nI 11) e9 (by decide) (by decide) (by decide +kernel) (by decide) (lc_11 C hX hbl hbA hi hL hkc hks hI k)
  by_cases h12 : k9 = 12
  · subst h12
    exact z_tabIn (off := 624) (tgt := 664) C dL_law_40 (nI 12) e9 (by decide) (by decide) (by decide +kernel) (by decide) (lc_12 C hX hbl hbA hi hL hkc hks hI k)
  by_cases h13 : k9 = 13
  · subst h13
    exact z_tabIn (off := 649) (tgt := 689) C dL_law_40 (nI 13) e9 (by decide) (by decide) (by decide +kernel) (by decide) (lc_13 C hX hbl hbA hi hL hkc hks hI k)
  by_cases h14 : k9 = 14
  · subst h14
    exact z_tabIn (off := 662) (tgt := 702) C dL_law_40 (nI 14) e9 (by decide) (by decide) (by decide +kernel) (by decide) (lc_14 C hX hbl hbA hi hL hkc hks hI k)
  by_cases h15 : k9 = 15
  · subst h15
    exact z_tabIn (off := 687) (tgt := 727) C dL_law_40 (nI 15) e9 (by decide) (by decide) (by decide +kernel) (by decide) (lc_15 C hX hbl hbA hi hL hkc hks hI k)
  by_cases h16 : k9 = 16
  · subst h16
    exact z_tabIn (off := 740) (tgt := 780) C dL_law_40 (nI 16) e9 (by decide) (by decide) (by decide +kernel) (by decide) (lc_16 C hX hbl hbA hi hL hkc hks hI k)
  by_cases h17 : k9 = 17
  · subst h17
    exact z_tabIn (off := 765) (tgt := 805) C dL_law_40 (nI 17) e9 (by decide) (by decide) (by decide +kernel) (by decide) (lc_17 C hX hbl hbA hi hL hkc hks hI k)
  by_cases h18 : k9 = 18
  · subst h18
    exact z_tabIn (off := 790) (tgt := 830) C dL_law_40 (nI 18) e9 (by decide) (by decide) (by decide +kernel) (by decide) (lc_18 C hX hbl hbA hi hL hkc hks hI k)
  by_cases h19 : k9 = 19
  · subst h19
    exact z_tabIn (off := 803) (tgt := 843) C dL_law_40 (nI 19) e9 (by decide) (by decide) (by decide +kernel) (by decide) (lc_19 C hX hbl hbA hi hL hkc hks hI k)
  by_cases h20 : k9 = 20
  · subst h20
    exact z_tabIn (off := 828) (tgt := 868) C dL_law_40 (nI 20) e9 (by decide) (by decide) (by decide +kernel) (by decide) (lc_20 C hX hbl hbA hi hL hkc hks hI k)
  by_cases h21 : k9 = 21
  · subst h21
    exact z_tabIn (off := 853) (tgt := 893) C dL_law_40 (nI 21) e9 (by decide) (by decide) (by decide +kernel) (by decide) (lc_21 C hX hbl hbA hi hL hkc hks hI k)
  by_cases h22 : k9 = 22
  · subst h22
    exact z_tabIn (off := 878) (tgt := 918) C dL_law_40 (nI 22) e9 (by decide) (by decide) (by decide +kernel) (by decide) (lc_22 C hX hbl hbA hi hL hkc hks hI k)
  by_cases h23 : k9 = 23
  · subst h23
    exact z_tabIn (off := 903) (tgt := 943) C dL_law_40 (nI 23) e9 (by decide) (by decide) (by decide +kernel) (by decide) (lc_23 C hX hbl hbA hi hL hkc hks hI k)
  by_cases h24 : k9 = 24
  · subst h24
    exact z_tabIn (off := 940) (tgt := 980) C dL_law_40 (nI 24) e9 (by decide) (by decide) (by decide +kernel) (by decide) (lc_24 C hX hbl hbA hi hL hkc hks hI k)
  by_cases h25 : k9 = 25
  · subst h25
    exact z_tabIn (off := 965) (tgt := 1005) C dL_law_40 (nI 25) e9 (by decide) (by decide) (by decide +kernel) (by decide) (lc_25 C hX hbl hbA hi hL hkc hks hI k)
  by_cases h26 : k9 = 26
  · subst h26
    exact z_tabIn (off := 1014) (tgt := 1054) C dL_law_40 (nI 26) e9 (by decide) (by decide) (by decide +kernel) (by decide) (lc_26 C hX hbl hbA hi hL hkc hks hI k)
  by_cases h27 : k9 = 27
  · subst h27
    exact z_tabIn (off := 1063) (tgt := 1103) C dL_law_40 (nI 27) e9 (by decide) (by decide) (by decide +kernel) (by decide) (lc_27 hl hT C hX hbl hbA hi hL hkc hks hI k)
  by_cases h28 : k9 = 28
  · subst h28
    exact z_tabIn (off := 1130) (tgt := 1170) C dL_law_40 (nI 28) e9 (by decide) (by decide) (by decide +kernel) (by decide) (lc_28 C hX hbl hbA hi hL hkc hks hI k)
  by_cases h29 : k9 = 29
  · subst h29
    exact z_tabIn (off := 1203) (tgt := 1243) C dL_law_40 (nI 29) e9 (by decide) (by decide) (by decide +kernel) (by decide) (lc_29 C hX hbl hbA hi hL hkc hks hI k)
  by_cases h30 : k9 = 30
  · subst h30
    exact z_tabIn (off := 1228) (tgt := 1268) C dL_law_40 (nI 30) e9 (by decide) (by decide) (by decide +kernel) (by decide) (lc_30 hl hT C hX hbl hbA hi hL hkc hks hI k)
  omega
theorem law_loop (hl : l.stackTraces = false) (hT : TX (zA E s.heap.size) s) (C : zX p s m #[.ref b] meth c cL_law 8 RL ret E) (hE : ∀ q : Nat × Nat, q ∈ zL → s.heap.size ≤ E.2.2 q.1 q.2) (hX : va_X b L xs s s.heap) (hbl : b < s.heap.size) (hL : L ≤ 3072) (hkc : kc + 514 ≤ 601024) (hks : ks + 3084 ≤ 7293034) : ∀ f n σ, n + f = 513 → Inv σ → zG p l e room_1 s m #[.ref b] below meth c 8 E (kc + n) (ks + 6 * n) (lw_Z below #[.ref b] s) σ 23 (lvL E b (6 * n)) [] := by
  have hbA : ¬ zA E s.heap.size b := by
    rintro (⟨c9, h8, h9⟩ | h9)
    · have := hE c9 h8
      omega
    · omega
  have e6 : (6 : Int32).toInt = 6 := rfl
  have eL : (Int32.ofNat L).toInt = L := ti (k := L) (by omega)
  have eL6 : (Int32.ofNat L - 6).toInt = (L : Int) - 6 := by
    rw [Int32.toInt_sub, fb_bmod, eL, e6]
    · rw [eL, e6]; omega
    · rw [eL, e6]; omega
  have head : ∀ n σ, n ≤ 513 → Inv σ → (6 * n + 6 ≤ L → zG p l e room_1 s m #[.ref b] below meth c 8 E (kc + n) (ks + 6 * n) (lw_Z below #[.ref b] s) σ 33 (lvL E b (6 * n)) []) → zG p l e room_1 s m #[.ref b] below meth c 8 E (kc + n) (ks + 6 * n) (lw_Z below #[.ref b] s) σ 23 (lvL E b (6 * n)) [] := by
    intro n σ hn hI k
    refine z_iload (pc' := 25) C dL_law_23 0 rfl rfl ?_
    refine z_aload_n (pc' := 26) C dL_law_25 rfl 1 rfl rfl ?_
    intro ls H locs h1 h2 h3
    refine va_slen C.1.1 C.1.2.1 hX hbl hbA h3 dL_law_26 ?_
    refine (?_ : zG p l e room_1 s m #[.ref b] below meth c 8 E (kc + n) (ks + 6 * n) (lw_Z below #[.ref b] s) σ 27 (lvL E b (6 * n)) [.int (Int32.ofNat L), .int (nI (6 * n))]) ls H locs h1 h2 h3
    refine z_bipush (v := 6) (pc' := 29) C dL_law_27 (by decide) rfl ?_
    refine z_isub (pc' := 30) C dL_law_29 rfl ?_
    refine z_icmp_gt (tgt := 1299) (pc' := 33) C dL_law_30 (by decide) rfl (fun _ => law_end C hE (by omega) (by omega)) (fun c3 => k ?_)
    rw [tl, eL6, ti (by omega)] at c3
    omega
  intro f
  induction f with
  | zero =>
    intro n σ hn hI
    exact head n σ (by omega) hI (fun z => by omega)
  | succ f ih =>
    intro n σ hn hI
    refine head n σ (by omega) hI (fun z => ?_)
    refine law_turn hl hT C hX hbl hbA z hL (by omega) (by omega) hI (fun σ' hI' => ?_)
    refine z_iinc (pc' := 1296) (j := 0) (v := nI (6 * (n + 1))) (lv' := lvL E b (6 * (n + 1))) C dL_law_1293 rfl ?_ (by decide) rfl rfl ?_
    · exact nadd (a := 6 * n) (b := 6) (by omega)
    · exact z_goto (tgt := 23) C dL_law_1296 (by decide) (ih (n + 1) σ' (by omega) hI')
end ZLO
