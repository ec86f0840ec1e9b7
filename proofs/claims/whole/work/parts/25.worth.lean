/-! steps, sides, worths -/
def dst (a b : Nat) : Nat := (if a % 6 ≤ b % 6 then b % 6 - a % 6 else a % 6 - b % 6) + (if a / 6 ≤ b / 6 then b / 6 - a / 6 else a / 6 - b / 6)
def bsN (p s : Nat) : Nat := match s with
  | 0 => if 0 < p % 6 then p - 1 else 24
  | 1 => if p % 6 < 5 then p + 1 else 24
  | 2 => if 6 ≤ p then p - 6 else 24
  | _ => if p < 18 then p + 6 else 24
set_option maxRecDepth 100000 in
theorem dst_a : ∀ a, a < 24 → ∀ b, b < 24 → ((if 0 ≤ (nI a - nI a / 6 * 6) - (nI b - nI b / 6 * 6) then (nI a - nI a / 6 * 6) - (nI b - nI b / 6 * 6) else 0 - ((nI a - nI a / 6 * 6) - (nI b - nI b / 6 * 6)))) + ((if 0 ≤ (nI a / 6) - (nI b / 6) then (nI a / 6) - (nI b / 6) else 0 - ((nI a / 6) - (nI b / 6)))) = nI (dst a b) := by decide +kernel
set_option maxRecDepth 100000 in
theorem dst_m : ∀ a, a < 24 → ∀ b, b < 24 → (if (nI a - nI a / 6 * 6) ≤ (nI b - nI b / 6 * 6) then (nI b - nI b / 6 * 6) - (nI a - nI a / 6 * 6) else (nI a - nI a / 6 * 6) - (nI b - nI b / 6 * 6)) + (if (nI a / 6) ≤ (nI b / 6) then (nI b / 6) - (nI a / 6) else (nI a / 6) - (nI b / 6)) = nI (dst a b) := by decide +kernel
set_option maxRecDepth 100000 in
theorem adj_bs : ∀ p, p < 24 → ∀ q, q < 24 → (dst p q = 1 ↔ (bsN p 0 = q ∨ bsN p 1 = q ∨ bsN p 2 = q ∨ bsN p 3 = q)) := by decide +kernel
theorem bs_adj : ∀ p, p < 24 → ∀ s, s < 4 → bsN p s < 24 → dst p (bsN p s) = 1 := by decide +kernel
theorem dst_lt : ∀ p, p < 24 → ∀ q, q < 24 → dst p q < 9 := by decide +kernel
theorem dst_sym : ∀ p, p < 24 → ∀ q, q < 24 → dst p q = dst q p := by decide +kernel
theorem bs0 : ∀ p, p < 24 → ((nI p - nI p / 6 * 6) ≤ 0 → bsN p 0 = 24) ∧ (¬ (nI p - nI p / 6 * 6) ≤ 0 → bsN p 0 < 24 ∧ nI p - 1 = nI (bsN p 0)) := by decide +kernel
theorem bs1 : ∀ p, p < 24 → (5 ≤ (nI p - nI p / 6 * 6) → bsN p 1 = 24) ∧ (¬ 5 ≤ (nI p - nI p / 6 * 6) → bsN p 1 < 24 ∧ nI p + 1 = nI (bsN p 1)) := by decide +kernel
theorem bs2 : ∀ p, p < 24 → (nI p < 6 → bsN p 2 = 24) ∧ (¬ nI p < 6 → bsN p 2 < 24 ∧ nI p - 6 = nI (bsN p 2)) := by decide +kernel
theorem bs3 : ∀ p, p < 24 → (18 ≤ nI p → bsN p 3 = 24) ∧ (¬ 18 ≤ nI p → bsN p 3 < 24 ∧ nI p + 6 = nI (bsN p 3)) := by decide +kernel
def bv (p s : Nat) : Int32 := if bsN p s < 24 then nI (bsN p s) else -1
theorem p_beside {σ : zMem} {p s : Nat} (hp : p < 24) (hs : s < 4) {Q : Int32 → zMem → Prop} (k : Q (bv p s) σ) : vc_X5_beside σ (nI p) (nI s) Q := by
  have key : ∀ {A : Prop} [Decidable A] {v : Int32}, (A → bsN p s = 24) → (¬ A → bsN p s < 24 ∧ v = nI (bsN p s)) → (A → Q (-1) σ) ∧ (¬ A → Q v σ) := by
    intro A _ v h1 h2
    refine ⟨fun c => ?_, fun c => ?_⟩
    · rw [bv, if_neg (by rw [h1 c]; decide)] at k
      exact k
    · obtain ⟨q1, q2⟩ := h2 c
      rw [bv, if_pos q1] at k
      rw [q2]
      exact k
  rcases (show s = 0 ∨ s = 1 ∨ s = 2 ∨ s = 3 by omega) with rfl | rfl | rfl | rfl
  · exact ⟨fun _ => key (bs0 p hp).1 (bs0 p hp).2, fun c => absurd c (by decide), fun c => absurd c (by decide), fun c => absurd rfl c⟩
  · exact ⟨fun c => absurd c (by decide), fun _ => key (bs1 p hp).1 (bs1 p hp).2, fun c => absurd c (by decide), fun _ c => absurd rfl c⟩
  · exact ⟨fun c => absurd c (by decide), fun c => absurd c (by decide), fun _ => key (bs2 p hp).1 (bs2 p hp).2, fun _ _ c => absurd rfl c⟩
  · exact ⟨fun c => absurd c (by decide), fun c => absurd c (by decide), fun c => absurd c (by decide), fun _ _ _ => key (bs3 p hp).1 (bs3 p hp).2⟩
theorem p_steps {σ : zMem} {a b : Nat} (ha : a < 24) (hb : b < 24) {Q : Int32 → zMem → Prop} (k : Q (nI (dst a b)) σ) : vc_X5_steps σ (nI a) (nI b) Q := by
  unfold vc_X5_steps
  rw [dst_a a ha b hb]
  exact k
theorem m_apart {σ : zMem} {a b : Int32} {Q : Int32 → zMem → Prop} (k : Q (if a ≤ b then b - a else a - b) σ) : vc_X11_apart σ a b Q := by
  refine ⟨fun c => ?_, fun c => ?_⟩
  · rw [if_pos c] at k
    exact k
  · rw [if_neg c] at k
    exact k
theorem m_steps {σ : zMem} {a b : Nat} (ha : a < 24) (hb : b < 24) {Q : Int32 → zMem → Prop} (k : Q (nI (dst a b)) σ) : vc_X11_steps σ (nI a) (nI b) Q := by
  refine m_apart (m_apart ?_)
  rw [dst_m a ha b hb]
  exact k
/-- whether a neighbour is the buyer's -/
def ob (σ : zMem) (b p : Nat) : Nat → Int32
  | 0 => 0
  | n + 1 => if ob σ b p n = 0 then (if dst p n = 1 then hs σ b n else 0) else 1
theorem hs01 (σ : zMem) (b p : Nat) : zbool (hs σ b p) := by
  unfold hs zbool
  split
  · exact Or.inl rfl
  · split
    · exact Or.inr rfl
    · exact Or.inl rfl
theorem ob01 (σ : zMem) (b p : Nat) : ∀ n, zbool (ob σ b p n)
  | 0 => Or.inl rfl
  | n + 1 => by
    rw [ob]
    split
    · split
      · exact hs01 σ b n
      · exact Or.inl rfl
    · exact Or.inr rfl
theorem ob_iff (σ : zMem) (b p : Nat) : ∀ n, ob σ b p n = 1 ↔ ∃ q, q < n ∧ dst p q = 1 ∧ hs σ b q = 1
  | 0 => ⟨fun h => absurd h (by rw [ob]; decide), fun ⟨q, h, _⟩ => absurd h (by omega)⟩
  | n + 1 => by
    have ih := ob_iff σ b p n
    rw [ob]
    rcases ob01 σ b p n with h0 | h0
    · rw [if_pos h0]
      have hno : ¬ ∃ q, q < n ∧ dst p q = 1 ∧ hs σ b q = 1 := fun h => absurd (ih.mpr h) (by rw [h0]; decide)
      by_cases hd : dst p n = 1
      · rw [if_pos hd]
        exact ⟨fun h => ⟨n, by omega, hd, h⟩, fun ⟨q, h1, h2, h3⟩ => by
          by_cases hq : q = n
          · subst hq; exact h3
          · exact absurd ⟨q, by omega, h2, h3⟩ hno⟩
      · rw [if_neg hd]
        exact ⟨fun h => absurd h (by decide), fun ⟨q, h1, h2, h3⟩ => by
          by_cases hq : q = n
          · subst hq; exact absurd h2 hd
          · exact absurd ⟨q, by omega, h2, h3⟩ hno⟩
    · rw [if_neg (by rw [h0]; decide)]
      obtain ⟨q, h1, h2, h3⟩ := ih.mp h0
      exact ⟨fun _ => ⟨q, by omega, h2, h3⟩, fun _ => rfl⟩
theorem hs_ow {σ : zMem} (h : iP σ) {p b : Nat} (hp : p < 24) (hb : b < 10) : hs σ b p = 1 ↔ σ 4 p 3 = nI b := by
  rw [ow h hp (by omega), hs]
  by_cases h1 : σ 25 0 p = 0
  · rw [if_pos h1]
    exact ⟨fun c => absurd c (by decide), fun c => absurd h1 c.1⟩
  · rw [if_neg h1]
    by_cases h2 : σ 26 0 p = nI b
    · rw [if_pos h2]
      exact ⟨fun _ => ⟨h1, h2⟩, fun _ => rfl⟩
    · rw [if_neg h2]
      exact ⟨fun c => absurd c (by decide), fun c => absurd c.2 h2⟩
theorem g4 {s : Nat} (hs : s < 4) : ¬ (4 : Int32) ≤ nI s := nI_ge (b := 4) hs (by decide)
theorem l_owns {σ : zMem} (h : iP σ) {b p : Nat} (hb : b < 10) (hp : p < 24) {Q : Int32 → zMem → Prop} (k : Q (ob σ b p 24) σ) : ∀ m s, s + m = 4 → (∀ s', s' < s → bsN p s' < 24 → ¬ hs σ b (bsN p s') = 1) → vc_X10_ownsBeside_2 (nI b) (nI p) Q (m + 1) σ (nI s)
  | 0, s, hs0, hno => by
    obtain rfl : s = 4 := by omega
    have e0 : ob σ b p 24 = 0 := by
      rcases ob01 σ b p 24 with h0 | h0
      · exact h0
      · obtain ⟨q, h1, h2, h3⟩ := (ob_iff σ b p 24).mp h0
        rcases (adj_bs p hp q h1).mp h2 with e | e | e | e
        · exact absurd h3 (by rw [← e]; exact hno 0 (by omega) (by rw [e]; exact h1))
        · exact absurd h3 (by rw [← e]; exact hno 1 (by omega) (by rw [e]; exact h1))
        · exact absurd h3 (by rw [← e]; exact hno 2 (by omega) (by rw [e]; exact h1))
        · exact absurd h3 (by rw [← e]; exact hno 3 (by omega) (by rw [e]; exact h1))
    rw [e0] at k
    exact kt (by decide) k
  | m + 1, s, hs0, hno => by
    rw [vc_X10_ownsBeside_2]
    refine kf (g4 (by omega)) (p_beside hp (by omega) ?_)
    rw [s1]
    by_cases hq : bsN p s < 24
    · rw [bv, if_pos hq]
      refine kf (nI_pos (by omega)) ⟨in_nI hq (by decide), ?_⟩
      rw [cl (by omega)]
      by_cases ho : σ 4 (bsN p s) 3 = nI b
      · refine kt' ho ?_
        have e1 : ob σ b p 24 = 1 := (ob_iff σ b p 24).mpr ⟨bsN p s, hq, bs_adj p hp s (by omega) hq, (hs_ow h hq hb).mpr ho⟩
        rw [e1] at k
        exact k
      · refine kf' ho ?_
        refine l_owns h hb hp k m (s + 1) (by omega) (fun s' h1 h2 => ?_)
        by_cases hss : s' = s
        · subst hss
          exact fun z => ho ((hs_ow h hq hb).mp z)
        · exact hno s' (by omega) h2
    · rw [bv, if_neg hq]
      refine kt (by decide) ?_
      refine l_owns h hb hp k m (s + 1) (by omega) (fun s' h1 h2 => ?_)
      by_cases hss : s' = s
      · subst hss
        exact absurd h2 hq
      · exact hno s' (by omega) h2
def wb (σ : zMem) (b p : Nat) : Int32 := 10 * hv σ p - 5 * nI (dst p (σ 6 b 2).toNatClampNeg)
def wv (σ : zMem) (b p : Nat) : Int32 :=
  if ob σ b p 24 = 0 then
    (if 12 * σ 6 b 0 ≤ sm (fH σ b) 24 then (if wb σ b p < 0 then 0 else wb σ b p) else (if wb σ b p * 2 < 0 then 0 else wb σ b p * 2))
  else
    (if 12 * σ 6 b 0 ≤ sm (fH σ b) 24 then (if wb σ b p + 20 < 0 then 0 else wb σ b p + 20) else (if (wb σ b p + 20) * 2 < 0 then 0 else (wb σ b p + 20) * 2))
theorem p_worthTo {σ : zMem} (hI : Inv σ) {nb b p : Nat} (hn : nb ≤ 10) (hb8 : σ 0 0 8 = nI nb) (hb : b < nb) (hp : p < 24) {Q : Int32 → zMem → Prop} (k : Q (wv σ b p) σ) : vc_X10_worthTo σ (nI b) (nI p) Q := by
  obtain ⟨nb', hn', hb8', hb9, hB⟩ := hI.2.1
  have e : nb' = nb := (nI_eq (by omega) (by omega)).mp (hb8'.symm.trans hb8)
  obtain ⟨h1, h2, ⟨h, hh, h31, h32⟩, h4, h5, h6, h7⟩ := (hB b (by omega)).1 (by omega)
  unfold vc_X10_worthTo
  rw [cl (k := b) (by omega), cl (k := p) (by omega)]
  refine ⟨in_nI (by omega) (by decide), in_nI hp (by decide), p_hay hI.1 hp ?_⟩
  rw [h31]
  refine p_steps hp hh ⟨_, l_owns hI.1 (by omega) hp ?_ 4 0 rfl (fun s' h => absurd h (by omega))⟩
  unfold wv wb at k
  rw [h31, cl (by omega)] at k
  refine ⟨fun c => p_hayOf hI.1 (by omega) ?_, fun c => p_hayOf hI.1 (by omega) ?_⟩
  · rw [if_pos c] at k
    refine ⟨fun c2 => ?_, fun c2 => ?_⟩
    · rw [if_pos c2] at k
      exact k
    · rw [if_neg c2] at k
      exact k
  · rw [if_neg c] at k
    refine ⟨fun c2 => ?_, fun c2 => ?_⟩
    · rw [if_pos c2] at k
      exact k
    · rw [if_neg c2] at k
      exact k
theorem posn {x : Int32} {Q : Int32 → Prop} (k : Q (if x < 0 then 0 else x)) : (0 ≤ x → Q x) ∧ (¬ 0 ≤ x → Q 0) := by
  have e0 : (0 : Int32).toInt = 0 := rfl
  refine ⟨fun c => ?_, fun c => ?_⟩
  · rw [if_neg (by rw [te] at c; rw [tl]; omega)] at k
    exact k
  · rw [if_pos (by rw [te] at c; rw [tl]; omega)] at k
    exact k
theorem l_worthOf {σ : zMem} (hI : iP σ) {b p : Nat} (hb : b < 10) (hp : p < 24) (h1 : σ 6 b 0 = σ 31 0 b) {Q : Int32 → zMem → Prop} (k : Q (wv σ b p) σ) : ∀ m q, q + m = 24 → vc_X11_worthOf_28 (nI p) (nI b) (wb σ b p) Q (m + 1) σ (ob σ b p q) (nI q)
  | 0, q, hq => by
    obtain rfl : q = 24 := by omega
    have hv' : vp_in (nI b) 10 := in_nI hb (by decide)
    unfold wv at k
    rw [h1] at k
    rw [vc_X11_worthOf_28]
    rw [cl (by omega)]
    refine kt (by decide) ⟨fun c => m_hayHeld hI ⟨hv', ?_⟩, fun c => m_hayHeld hI ⟨hv', ?_⟩⟩
    · rw [if_pos c] at k
      refine ⟨fun c2 => posn (Q := fun r => Q r σ) ?_, fun c2 => posn (Q := fun r => Q r σ) ?_⟩
      · rw [if_pos c2] at k
        exact k
      · rw [if_neg c2] at k
        exact k
    · rw [if_neg c] at k
      refine ⟨fun c2 => posn (Q := fun r => Q r σ) ?_, fun c2 => posn (Q := fun r => Q r σ) ?_⟩
      · rw [if_pos c2] at k
        exact k
      · rw [if_neg c2] at k
        exact k
  | m + 1, q, hq => by
    have ih := l_worthOf hI hb hp h1 k m (q + 1) (by omega)
    rw [vc_X11_worthOf_28]
    refine kf (g24 (by omega)) ?_
    rw [s1]
    rw [ob] at ih
    by_cases h0 : ob σ b p q = 0
    · rw [if_pos h0] at ih
      refine kt' h0 (m_steps hp (by omega) ?_)
      have hdl := dst_lt p hp q (by omega)
      by_cases hd : dst p q = 1
      · rw [if_pos hd] at ih
        refine kt' (by rw [hd]; rfl) (m_has (by omega) ?_)
        rcases hs01 σ b q with e | e
        · rw [e] at ih ⊢
          exact k0 ih
        · rw [e] at ih ⊢
          exact k1 ih
      · rw [if_neg hd] at ih
        refine kf' ?_ ih
        intro z
        exact hd ((nI_eq (b := 1) (by omega) (by decide)).mp z)
    · rw [if_neg h0] at ih
      exact kf' h0 ih
theorem m_worthOf {σ : zMem} (hI : Inv σ) {nb b p : Nat} (hn : nb ≤ 10) (hb8 : σ 0 0 8 = nI nb) (hb : b < nb) (hp : p < 24) {Q : Int32 → zMem → Prop} (k : Q (wv σ b p) σ) : vc_X11_worthOf σ (nI p) (nI b) Q := by
  obtain ⟨nb', hn', hb8', hb9, hB⟩ := hI.2.1
  have e : nb' = nb := (nI_eq (by omega) (by omega)).mp (hb8'.symm.trans hb8)
  obtain ⟨h1, h2, ⟨h, hh, h31, h32⟩, h4, h5, h6, h7⟩ := (hB b (by omega)).1 (by omega)
  refine m_hayOf hI.1 hp ⟨in_nI (by omega) (by decide), ?_⟩
  rw [cl (k := b) (by omega), h32]
  refine m_steps hp hh ⟨25, ?_⟩
  have h9 := l_worthOf hI.1 (by omega) hp h1 k 24 0 rfl
  unfold wb at h9
  rw [h31, cl (by omega)] at h9
  exact h9
theorem st_worth {σ : zMem} (hI : Inv σ) (a b : Int32) : vc_X10_worth σ a b (fun r σ1 => vc_X11_worth σ1 a b (fun r2 σ2 => r = r2 ∧ Inv σ2)) := by
  obtain ⟨nb, hn, hb8, hb9, hB⟩ := hI.2.1
  by_cases ha : vp_in a 24
  · refine p_isPlot_t ha (k1 ?_)
    by_cases hb : vp_in b nb
    · refine p_isBuyer_t hb8 hn hb (k1' ?_)
      obtain ⟨p, hp, rfl⟩ := in_of ha (by decide)
      obtain ⟨k, hk, rfl⟩ := in_of hb (by omega)
      refine p_worthTo hI hn hb8 hk hp ?_
      refine m_isPlot_t ha (k1 ?_)
      refine m_isBuyer_t hb9 hn hb (k1 ?_)
      exact m_worthOf hI hn hb8 hk hp ⟨rfl, hI⟩
    · refine p_isBuyer_f hb8 hn hb (k0' ?_)
      refine m_isPlot_t ha (k1 ?_)
      exact m_isBuyer_f hb9 hn hb (k0 ⟨rfl, hI⟩)
  · refine p_isPlot_f ha (k0 ?_)
    exact m_isPlot_f ha (k0 ⟨rfl, hI⟩)
theorem hv_same {σ σ' : zMem} (h : Same σ σ') (p : Nat) : hv σ' p = hv σ p := by
  unfold hv
  rw [h 4 p 2 rfl, h 4 p 1 rfl]
theorem hs_same {σ σ' : zMem} (h : Same σ σ') (b p : Nat) : hs σ' b p = hs σ b p := by
  unfold hs
  rw [h 25 0 p rfl, h 26 0 p rfl]
theorem ob_same {σ σ' : zMem} (h : Same σ σ') (b p : Nat) : ∀ n, ob σ' b p n = ob σ b p n
  | 0 => rfl
  | n + 1 => by rw [ob, ob, ob_same h b p n, hs_same h]
theorem wv_same {σ σ' : zMem} (h : Same σ σ') (b p : Nat) : wv σ' b p = wv σ b p := by
  have e1 : sm (fH σ' b) 24 = sm (fH σ b) 24 := sm_congr (fun q hq => by unfold fH; rw [h 25 0 q rfl, h 26 0 q rfl, hv_same h])
  unfold wv wb
  rw [ob_same h, e1, h 6 b 0 rfl, hv_same h, h 6 b 2 rfl]
theorem debt_same {σ σ' : zMem} (h : Same σ σ') (b : Nat) : debt σ' b = debt σ b := by
  unfold debt
  exact sm_congr (fun q hq => by rw [h 25 0 q rfl, h 26 0 q rfl, h 27 0 q rfl])
theorem sv_same {σ σ' : zMem} (h : Same σ σ') (p : Nat) : sv σ' p = sv σ p := by
  unfold sv
  rw [h 25 0 p rfl, h 29 0 p rfl, h 24 0 p rfl]
