/-! the reference's side by itself; candle -/
theorem mm_stands {σ : zMem} {p : Nat} (hp : p < 24) {Q : Int32 → zMem → Prop} (k : Q (sv σ p) σ) : vc_X11_stands σ (nI p) Q := by
  have hv' : vp_in (nI p) 24 := in_nI hp (by decide)
  unfold vc_X11_stands
  rw [cl (by omega)]
  refine ⟨hv', ?_⟩
  by_cases hs : σ 25 0 p = 0
  · rw [sv, if_pos hs] at k
    exact kt hs k
  · rw [sv, if_neg hs] at k
    refine kf hs ⟨hv', ?_⟩
    by_cases hc : σ 29 0 p = 0
    · rw [if_pos hc] at k
      refine kt' hc ⟨hv', ?_⟩
      by_cases hg : σ 24 0 p ≤ 0
      · rw [if_pos hg] at k
        exact kt hg k
      · rw [if_neg hg] at k
        exact kf hg k
    · rw [if_neg hc] at k
      exact kf' hc k
def hvM (σ : zMem) (p : Nat) : Int32 := σ 24 0 p * zchance (σ 23 0 p).toNatClampNeg / 100
def kM (σ : zMem) : Prop := ∀ p, p < 24 → ∃ k, k < 4 ∧ σ 23 0 p = nI k
theorem mm_hayOf {σ : zMem} (h : kM σ) {p : Nat} (hp : p < 24) {Q : Int32 → zMem → Prop} (k : Q (hvM σ p) σ) : vc_X11_hayOf σ (nI p) Q := by
  obtain ⟨g, hg, h3⟩ := h p hp
  have hv' : vp_in (nI p) 24 := in_nI hp (by decide)
  refine ⟨hv', hv', ?_⟩
  rw [cl (by omega), h3]
  refine m_chanceOf hg ?_
  rw [hvM, h3, cl (by omega)] at k
  exact k
def fHM (σ : zMem) (b p : Nat) : Int32 := if σ 25 0 p = 0 then 0 else if σ 26 0 p = nI b then hvM σ p else 0
theorem ll_hayHeld {σ : zMem} (h : kM σ) {b : Nat} {Q : Int32 → zMem → Prop} (k : Q (sm (fHM σ b) 24) σ) : ∀ m p, p + m = 24 → vc_X11_hayHeld_4 (nI b) Q (m + 1) σ (sm (fHM σ b) p) (nI p)
  | 0, p, hp => by
    obtain rfl : p = 24 := by omega
    exact kt (by decide) k
  | m + 1, p, hp => by
    have ih := ll_hayHeld h k m (p + 1) (by omega)
    rw [vc_X11_hayHeld_4]
    refine kf (g24 (by omega)) (m_has (by omega) ?_)
    rw [s1]
    have e1 : sm (fHM σ b) (p + 1) = sm (fHM σ b) p + fHM σ b p := rfl
    unfold hs
    by_cases h1 : σ 25 0 p = 0
    · rw [if_pos h1]
      rw [e1, fHM, if_pos h1] at ih
      exact k0 ih
    · rw [if_neg h1]
      by_cases h2 : σ 26 0 p = nI b
      · rw [if_pos h2]
        rw [e1, fHM, if_neg h1, if_pos h2] at ih
        exact k1 (mm_hayOf h (by omega) ih)
      · rw [if_neg h2]
        rw [e1, fHM, if_neg h1, if_neg h2] at ih
        exact k0 ih
def wbM (σ : zMem) (b p : Nat) : Int32 := 10 * hvM σ p - 5 * nI (dst p (σ 33 0 b).toNatClampNeg)
def wvM (σ : zMem) (b p : Nat) : Int32 :=
  if ob σ b p 24 = 0 then
    (if 12 * σ 31 0 b ≤ sm (fHM σ b) 24 then (if wbM σ b p < 0 then 0 else wbM σ b p) else (if wbM σ b p * 2 < 0 then 0 else wbM σ b p * 2))
  else
    (if 12 * σ 31 0 b ≤ sm (fHM σ b) 24 then (if wbM σ b p + 20 < 0 then 0 else wbM σ b p + 20) else (if (wbM σ b p + 20) * 2 < 0 then 0 else (wbM σ b p + 20) * 2))
theorem ll_worthOf {σ : zMem} (hI : kM σ) {b p : Nat} (hb : b < 10) (hp : p < 24) {Q : Int32 → zMem → Prop} (k : Q (wvM σ b p) σ) : ∀ m q, q + m = 24 → vc_X11_worthOf_28 (nI p) (nI b) (wbM σ b p) Q (m + 1) σ (ob σ b p q) (nI q)
  | 0, q, hq => by
    obtain rfl : q = 24 := by omega
    have hv' : vp_in (nI b) 10 := in_nI hb (by decide)
    unfold wvM at k
    rw [vc_X11_worthOf_28]
    rw [cl (by omega)]
    refine kt (by decide) ⟨fun c => ⟨25, ll_hayHeld hI ⟨hv', ?_⟩ 24 0 rfl⟩, fun c => ⟨25, ll_hayHeld hI ⟨hv', ?_⟩ 24 0 rfl⟩⟩
    · rw [if_pos c] at k
      refine ⟨fun c2 => posn (Q := fun r => Q r σ) ?_, fun c2 => posn (Q := fun r => Q r σ) ?_⟩
      · rw [if_pos c2] at k
        exact k
      · rw [if_neg c2] at k
        exact k
    · rw [if_neg c] at k
      refine ⟨fun c2 => posn (Q := fun r => Q r σ) ?_, fun c2 => posn (Q := fun r => Q r σ) ?_⟩
      · rw [if_pos c2] at k
        exact k
      · rw [if_neg c2] at k
        exact k
  | m + 1, q, hq => by
    have ih := ll_worthOf hI hb hp k m (q + 1) (by omega)
    rw [vc_X11_worthOf_28]
    refine kf (g24 (by omega)) ?_
    rw [s1]
    rw [ob] at ih
    by_cases h0 : ob σ b p q = 0
    · rw [if_pos h0] at ih
      refine kt' h0 (m_steps hp (by omega) ?_)
      have hdl := dst_lt p hp q (by omega)
      by_cases hd : dst p q = 1
      · rw [if_pos hd] at ih
        refine kt' (by rw [hd]; rfl) (m_has (by omega) ?_)
        rcases hs01 σ b q with e | e
        · rw [e] at ih ⊢
          exact k0 ih
        · rw [e] at ih ⊢
          exact k1 ih
      · rw [if_neg hd] at ih
        refine kf' ?_ ih
        intro z
        exact hd ((nI_eq (b := 1) (by omega) (by decide)).mp z)
    · rw [if_neg h0] at ih
      exact kf' h0 ih
theorem mm_worthOf {σ : zMem} (hI : kM σ) {b p h : Nat} (hb : b < 10) (hh : h < 24) (h32 : σ 33 0 b = nI h) (hp : p < 24) {Q : Int32 → zMem → Prop} (k : Q (wvM σ b p) σ) : vc_X11_worthOf σ (nI p) (nI b) Q := by
  refine mm_hayOf hI hp ⟨in_nI (by omega) (by decide), ?_⟩
  rw [cl (k := b) (by omega), h32]
  refine m_steps hp hh ⟨25, ?_⟩
  have h9 := ll_worthOf hI (by omega) hp k 24 0 rfl
  unfold wbM at h9
  rw [h32, cl (by omega)] at h9
  exact h9
def SameM (σ σ' : zMem) : Prop := ∀ q i j, 22 ≤ q → ps q j = true → σ' q i j = σ q i j
theorem Same.m {σ σ' : zMem} (h : Same σ σ') : SameM σ σ' := fun q i j _ z => h q i j z
theorem SameM.tr {σ σ' σ'' : zMem} (h : SameM σ σ') (h' : SameM σ' σ'') : SameM σ σ'' := fun q i j a z => (h' q i j a z).trans (h q i j a z)
theorem SameM.um {σ σ' : zMem} (h : SameM σ σ') {q i j : Nat} {v : Int32} (hq : q < 22) : SameM σ (um σ' q i j v) := fun q' i' j' a z => by
  rw [um_q σ' v (by omega)]
  exact h q' i' j' a z
theorem hvM_same {σ σ' : zMem} (h : SameM σ σ') (p : Nat) : hvM σ' p = hvM σ p := by
  unfold hvM
  rw [h 24 0 p (by decide) rfl, h 23 0 p (by decide) rfl]
theorem hs_sameM {σ σ' : zMem} (h : SameM σ σ') (b p : Nat) : hs σ' b p = hs σ b p := by
  unfold hs
  rw [h 25 0 p (by decide) rfl, h 26 0 p (by decide) rfl]
theorem ob_sameM {σ σ' : zMem} (h : SameM σ σ') (b p : Nat) : ∀ n, ob σ' b p n = ob σ b p n
  | 0 => rfl
  | n + 1 => by rw [ob, ob, ob_sameM h b p n, hs_sameM h]
theorem wvM_same {σ σ' : zMem} (h : SameM σ σ') (b p : Nat) : wvM σ' b p = wvM σ b p := by
  have e1 : sm (fHM σ' b) 24 = sm (fHM σ b) 24 := sm_congr (fun q hq => by unfold fHM; rw [h 25 0 q (by decide) rfl, h 26 0 q (by decide) rfl, hvM_same h])
  unfold wvM wbM
  rw [ob_sameM h, e1, h 31 0 b (by decide) rfl, hvM_same h, h 33 0 b (by decide) rfl]
theorem debt_sameM {σ σ' : zMem} (h : SameM σ σ') (b : Nat) : debt σ' b = debt σ b := by
  unfold debt
  exact sm_congr (fun q hq => by rw [h 25 0 q (by decide) rfl, h 26 0 q (by decide) rfl, h 27 0 q (by decide) rfl])
theorem kM_same {σ σ' : zMem} (h : SameM σ σ') (hk : kM σ) : kM σ' := fun p hp => by
  obtain ⟨k, h1, h2⟩ := hk p hp
  exact ⟨k, h1, (h 23 0 p (by decide) rfl).trans h2⟩
def rsM (σ : zMem) (b : Nat) : Int32 := σ 32 0 b - debt σ b
theorem ll_value {σ : zMem} (hI : kM σ) {nb p : Nat} (hn : nb ≤ 10) (hb9 : σ 22 0 9 = nI nb) (hh : ∀ b, b < nb → ∃ h, h < 24 ∧ σ 33 0 b = nI h) (hp : p < 24) {Q : zMem → Prop} (k : ∀ σ', Same σ σ' → (∀ b, b < nb → σ' 37 0 b = wvM σ b p ∧ σ' 38 0 b = rsM σ b) → Q σ') :
    ∀ m b σ', b + m = nb → Same σ σ' → (∀ b', b' < b → σ' 37 0 b' = wvM σ b' p ∧ σ' 38 0 b' = rsM σ b') → vc_X11_value_2 (nI p) Q (m + 1) σ' (nI b)
  | 0, b, σ', hb, h1, h4 => by
    obtain rfl : b = nb := by omega
    have e8 : σ' 22 0 9 = nI b := (h1 22 0 9 rfl).trans hb9
    exact kt (by rw [e8, te]; omega) (k σ' h1 h4)
  | m + 1, b, σ', hb, h1, h4 => by
    have e9 : σ' 22 0 9 = nI nb := (h1 22 0 9 rfl).trans hb9
    have hv' : vp_in (nI b) 10 := in_nI (by omega) (by decide)
    obtain ⟨h, hh1, hh2⟩ := hh b (by omega)
    rw [vc_X11_value_2]
    refine kf (by rw [e9]; exact nI_ge (by omega) (by omega)) (mm_worthOf (kM_same h1.m hI) (by omega) hh1 ((h1 33 0 b rfl).trans hh2) hp ⟨hv', hv', m_debt ⟨hv', ?_⟩⟩)
    have h5 : Same σ (um σ' 37 0 b (wvM σ' b p)) := h1.um rfl
    rw [cl (by omega), s1, debt_same h5, wvM_same h1.m, um_q σ' _ (by decide), h1 32 0 b rfl]
    refine ll_value hI hn hb9 hh hp k m (b + 1) _ (by omega) ((h1.um rfl).um rfl) (fun b' hb' => ?_)
    by_cases hbb : b' = b
    · subst hbb
      exact ⟨by simp [um], by simp [um, rsM]⟩
    · simpa [um, hbb] using h4 b' (by omega)
theorem mm_value {σ : zMem} (hI : kM σ) {nb p : Nat} (hn : nb ≤ 10) (hb9 : σ 22 0 9 = nI nb) (hh : ∀ b, b < nb → ∃ h, h < 24 ∧ σ 33 0 b = nI h) (hp : p < 24) {Q : zMem → Prop} (k : ∀ σ', Same σ σ' → (∀ b, b < nb → σ' 37 0 b = wvM σ b p ∧ σ' 38 0 b = rsM σ b) → Q σ') : vc_X11_value σ (nI p) Q :=
  ⟨nb + 1, ll_value hI hn hb9 hh hp k nb 0 σ (by omega) Same.rf (fun b' h => absurd h (by omega))⟩
theorem kM_of {σ : zMem} (h : iP σ) : kM σ := fun p hp => by
  obtain ⟨⟨k, hk, h1, h2, h3⟩, -, -⟩ := h p hp
  exact ⟨k, hk, h3⟩
theorem hvM_eq {σ : zMem} (h : iP σ) {p : Nat} (hp : p < 24) : hvM σ p = hv σ p := by
  obtain ⟨⟨k, hk, h1, h2, h3⟩, ⟨g, hg, h4, h5⟩, -⟩ := h p hp
  rw [hvM, hv, h5, h4, h3, h2]
theorem wvM_eq {σ : zMem} (hI : Inv σ) {nb b p : Nat} (hn : nb ≤ 10) (hb8 : σ 0 0 8 = nI nb) (hb : b < nb) (hp : p < 24) : wvM σ b p = wv σ b p := by
  obtain ⟨nb', hn', hb8', hb9, hB⟩ := hI.2.1
  have e : nb' = nb := (nI_eq (by omega) (by omega)).mp (hb8'.symm.trans hb8)
  obtain ⟨q1, q2, ⟨h, hh, q3, q4⟩, -, -, -, -⟩ := (hB b (by omega)).1 (by omega)
  have e1 : sm (fHM σ b) 24 = sm (fH σ b) 24 := sm_congr (fun q hq => by unfold fHM fH; rw [hvM_eq hI.1 hq])
  unfold wvM wbM wv wb
  rw [e1, q1, hvM_eq hI.1 hp, q3, q4]
theorem rsM_eq {σ : zMem} (hI : Inv σ) {nb b : Nat} (hn : nb ≤ 10) (hb8 : σ 0 0 8 = nI nb) (hb : b < nb) : rsM σ b = rs σ b := by
  obtain ⟨nb', hn', hb8', hb9, hB⟩ := hI.2.1
  have e : nb' = nb := (nI_eq (by omega) (by omega)).mp (hb8'.symm.trans hb8)
  obtain ⟨q1, q2, -, -, -, -, q7⟩ := (hB b (by omega)).1 (by omega)
  rw [rsM, rs, q2, q7]
theorem Same_cong {σ σ' : zMem} (h : Same σ σ') (q i j : Nat) (v : Int32) : Same (um σ q i j v) (um σ' q i j v) := fun q' i' j' z => by
  simp only [um]
  split
  · rfl
  · exact h q' i' j' z
theorem Inv_sell {σ : zMem} (hI : Inv σ) {nb p t : Nat} {bid lot : Int32} (hn : nb ≤ 10) (hb8 : σ 0 0 8 = nI nb) (hp : p < 24) (ht : t < nb) (h0 : σ 25 0 p = 0) :
    Inv (um (um (um (um (um (um (um (um σ 0 0 11 (σ 0 0 11 + (bid - lot))) 4 p 3 (nI t)) 4 p 4 bid) 6 t 3 (σ 6 t 3 + bid)) 25 0 p 1) 26 0 p (nI t)) 27 0 p bid) 28 0 p lot) := by
  obtain ⟨nb', hn', hb8', hb9, hB⟩ := hI.2.1
  obtain rfl : nb' = nb := (nI_eq (by omega) (by omega)).mp (hb8'.symm.trans hb8)
  refine ⟨fun p' hp' => ?_, ⟨nb', hn, by simpa [um] using hb8, by simpa [um] using hb9, fun b' hb' => ?_⟩, ?_, ?_, ?_⟩
  · by_cases hpp : p' = p
    · subst hpp
      obtain ⟨h1, h2, h3⟩ := hI.1 p' hp
      refine ⟨by simpa [um] using h1, by simpa [um] using h2, Or.inr ⟨by simp [um], ⟨t, nb', ht, hn, by simpa [um] using hb8, by simp [um], by simp [um]⟩, by simp [um], ?_⟩⟩
      rcases h3 with h3 | h3
      · exact Or.inl (by simpa [um] using h3.2.2.2)
      · rw [h3.1] at h0
        exact absurd h0 (by decide)
    · simpa [um, hpp] using hI.1 p' hp'
  · refine ⟨fun hb => ?_, fun hb => ?_⟩
    · obtain ⟨q1, q2, q3, q4, q5, q6, q7⟩ := (hB b' hb').1 hb
      by_cases hbb : b' = t
      · subst hbb
        refine ⟨by simpa [um] using q1, by simpa [um] using q2, by simpa [um] using q3, by simpa [um] using q4, by simpa [um] using q5, by simpa [um] using q6, ?_⟩
        have e : debt (um (um (um (um (um (um (um (um σ 0 0 11 (σ 0 0 11 + (bid - lot))) 4 p 3 (nI b')) 4 p 4 bid) 6 b' 3 (σ 6 b' 3 + bid)) 25 0 p 1) 26 0 p (nI b')) 27 0 p bid) 28 0 p lot) b' = debt σ b' + bid := by
          unfold debt
          refine sm_upd hp (fun k hk hkp => by simp [um, hkp]) ?_
          simp [um, h0]
        rw [e, ← q7]
        simp [um]
      · refine ⟨by simpa [um] using q1, by simpa [um] using q2, by simpa [um] using q3, by simpa [um] using q4, by simpa [um] using q5, by simpa [um] using q6, ?_⟩
        have e : debt (um (um (um (um (um (um (um (um σ 0 0 11 (σ 0 0 11 + (bid - lot))) 4 p 3 (nI t)) 4 p 4 bid) 6 t 3 (σ 6 t 3 + bid)) 25 0 p 1) 26 0 p (nI t)) 27 0 p bid) 28 0 p lot) b' = debt σ b' := by
          unfold debt
          refine sm_congr (fun k hk => ?_)
          by_cases hkp : k = p
          · subst hkp
            have hne : ¬ nI t = nI b' := fun z => hbb ((nI_eq (by omega) (by omega)).mp z).symm
            simp [um, h0, hne]
          · simp [um, hkp]
        rw [e, ← q7]
        simp [um, hbb]
    · have hbb : ¬ b' = t := by omega
      simpa [um, hbb] using (hB b' hb').2 hb
  · simpa [um, iD] using hI.2.2.1
  · have h9 := hI.2.2.2.1
    unfold iR at h9 ⊢
    have e : sm (fun p' => if (um (um (um (um (um (um (um (um σ 0 0 11 (σ 0 0 11 + (bid - lot))) 4 p 3 (nI t)) 4 p 4 bid) 6 t 3 (σ 6 t 3 + bid)) 25 0 p 1) 26 0 p (nI t)) 27 0 p bid) 28 0 p lot) 25 0 p' = 0 then 0 else (um (um (um (um (um (um (um (um σ 0 0 11 (σ 0 0 11 + (bid - lot))) 4 p 3 (nI t)) 4 p 4 bid) 6 t 3 (σ 6 t 3 + bid)) 25 0 p 1) 26 0 p (nI t)) 27 0 p bid) 28 0 p lot) 27 0 p' - (um (um (um (um (um (um (um (um σ 0 0 11 (σ 0 0 11 + (bid - lot))) 4 p 3 (nI t)) 4 p 4 bid) 6 t 3 (σ 6 t 3 + bid)) 25 0 p 1) 26 0 p (nI t)) 27 0 p bid) 28 0 p lot) 28 0 p') 24 = sm (fun p => if σ 25 0 p = 0 then 0 else σ 27 0 p - σ 28 0 p) 24 + (bid - lot) := by
      refine sm_upd hp (fun k hk hkp => by simp [um, hkp]) ?_
      simp [um, h0]
    rw [e, ← h9]
    simp [um]
  · simpa [um, iS] using hI.2.2.2.2
