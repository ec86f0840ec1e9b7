/-! values of the small methods, and their sums over the plots -/
theorem neg_nI {b : Nat} (h : b < 2147483648) : ¬ (-2 : Int32) = nI b := by
  rw [tq, ti h]
  have e2 : (-2 : Int32).toInt = -2 := rfl
  omega
theorem sold01 {σ : zMem} (h : iP σ) {p : Nat} (hp : p < 24) : σ 25 0 p = 0 ∨ σ 25 0 p = 1 := by
  rcases (h p hp).2.2 with h | h
  · exact Or.inl h.1
  · exact Or.inr h.1
theorem cut01 {σ : zMem} (h : iP σ) {p : Nat} (hp : p < 24) : σ 29 0 p = 0 ∨ σ 29 0 p = 1 := by
  rcases (h p hp).2.2 with h | h
  · exact Or.inl h.2.2.2.1
  · rcases h.2.2.2 with h | h
    · exact Or.inl h.1
    · exact Or.inr h.1
theorem ow {σ : zMem} (h : iP σ) {p b : Nat} (hp : p < 24) (hb : b < 2147483648) : σ 4 p 3 = nI b ↔ (¬ σ 25 0 p = 0 ∧ σ 26 0 p = nI b) := by
  rcases (h p hp).2.2 with h | h
  · rw [h.1, h.2.1]
    exact ⟨fun c => absurd c (neg_nI hb), fun c => absurd rfl c.1⟩
  · obtain ⟨o, nb, ho, hnb, h0, h1, h2⟩ := h.2.1
    rw [h.1, h1, h2]
    exact ⟨fun c => ⟨by decide, c⟩, fun c => c.2⟩
theorem p_isSold {σ : zMem} (h : iP σ) {p : Nat} (hp : p < 24) {Q : Int32 → zMem → Prop} (k : Q (σ 25 0 p) σ) : vc_X5_isSold σ p Q := by
  rcases (h p hp).2.2 with h | h
  · rw [h.1] at k
    exact kt h.2.1 k
  · rw [h.1] at k
    obtain ⟨o, nb, ho, hnb, h0, h1, h2⟩ := h.2.1
    exact kf (by rw [h1]; exact fun c => neg_nI (b := o) (by omega) c.symm) k
theorem p_isCut {σ : zMem} (h : iP σ) {p : Nat} (hp : p < 24) {Q : Int32 → zMem → Prop} (k : Q (σ 29 0 p) σ) : vc_X5_isCut σ p Q := by
  rcases (h p hp).2.2 with h | h
  · rw [h.2.2.2.1] at k
    exact kt h.2.2.2.2 k
  · rcases h.2.2.2 with h | h
    · rw [h.1] at k
      exact kt h.2 k
    · rw [h.1] at k
      obtain ⟨d, hd, h1, -⟩ := h.2
      exact kf (by rw [h1]; exact fun c => neg_nI (b := d) (by omega) c.symm) k
/-- hay of a plot -/
def hv (σ : zMem) (p : Nat) : Int32 := σ 4 p 2 * zchance (σ 4 p 1).toNatClampNeg / 100
theorem p_hay {σ : zMem} (h : iP σ) {p : Nat} (hp : p < 24) {Q : Int32 → zMem → Prop} (k : Q (hv σ p) σ) : vc_X5_hay σ p Q := by
  obtain ⟨⟨g, hg, h1, h2, h3⟩, -, -⟩ := h p hp
  exact ⟨by rw [h2, cl (by omega)]; exact hg, k⟩
theorem m_chanceOf {σ : zMem} {g : Nat} (hg : g < 4) {Q : Int32 → zMem → Prop} (k : Q (zchance g) σ) : vc_X11_chanceOf σ (nI g) Q := by
  rcases (show g = 0 ∨ g = 1 ∨ g = 2 ∨ g = 3 by omega) with rfl | rfl | rfl | rfl
  · refine ⟨?_, ?_⟩ <;> intro c
    all_goals first | exact absurd rfl c | exact absurd c (by decide) | exact k | skip
  all_goals
    refine ⟨fun c => ?_, fun c => ?_⟩
    all_goals first | exact absurd c (by decide) | exact k | skip
    all_goals try (refine ⟨fun c => ?_, fun c => ?_⟩)
    all_goals first | exact absurd c (by decide) | exact k | skip
    all_goals try (refine ⟨fun c => ?_, fun c => ?_⟩)
    all_goals first | exact absurd c (by decide) | exact k | skip
theorem m_hayOf {σ : zMem} (h : iP σ) {p : Nat} (hp : p < 24) {Q : Int32 → zMem → Prop} (k : Q (hv σ p) σ) : vc_X11_hayOf σ (nI p) Q := by
  obtain ⟨⟨g, hg, h1, h2, h3⟩, ⟨gr, hgr, h4, h5⟩, -⟩ := h p hp
  have hv' : vp_in (nI p) 24 := in_nI hp (by decide)
  refine ⟨hv', hv', ?_⟩
  rw [cl (by omega), h3]
  refine m_chanceOf hg ?_
  rw [hv, h4, h2, cl (by omega)] at k
  rw [h5]
  exact k
/-- whether a plot stands -/
def sv (σ : zMem) (p : Nat) : Int32 := if σ 25 0 p = 0 then 0 else if σ 29 0 p = 0 then (if σ 24 0 p ≤ 0 then 0 else 1) else 0
theorem sv01 (σ : zMem) (p : Nat) : zbool (sv σ p) := by
  unfold sv zbool
  split
  · exact Or.inl rfl
  · split
    · split
      · exact Or.inl rfl
      · exact Or.inr rfl
    · exact Or.inl rfl
theorem p_stands {σ : zMem} (h : iP σ) {p : Nat} (hp : p < 24) {Q : Int32 → zMem → Prop} (k : Q (sv σ p) σ) : vc_X5_stands σ p Q := by
  obtain ⟨-, ⟨gr, hgr, h4, h5⟩, -⟩ := h p hp
  refine p_isSold h hp ?_
  rcases sold01 h hp with hs | hs
  · rw [sv, if_pos hs] at k
    rw [hs]
    exact k0 k
  · rw [sv, if_neg (by rw [hs]; decide)] at k
    rw [hs]
    refine k1 (p_isCut h hp ?_)
    rcases cut01 h hp with hc | hc
    · rw [if_pos hc] at k
      rw [hc]
      refine k0' ?_
      rw [h4, ← h5]
      by_cases hg : σ 24 0 p ≤ 0
      · rw [if_pos hg] at k
        exact kt hg k
      · rw [if_neg hg] at k
        exact kf hg k
    · rw [if_neg (by rw [hc]; decide)] at k
      rw [hc]
      exact k1' k
theorem m_stands {σ : zMem} (h : iP σ) {p : Nat} (hp : p < 24) {Q : Int32 → zMem → Prop} (k : Q (sv σ p) σ) : vc_X11_stands σ (nI p) Q := by
  have hv' : vp_in (nI p) 24 := in_nI hp (by decide)
  unfold vc_X11_stands
  rw [cl (by omega)]
  refine ⟨hv', ?_⟩
  rcases sold01 h hp with hs | hs
  · rw [sv, if_pos hs] at k
    exact kt hs k
  · have hs' : ¬ σ 25 0 p = 0 := by rw [hs]; decide
    rw [sv, if_neg hs'] at k
    refine kf hs' ⟨hv', ?_⟩
    rcases cut01 h hp with hc | hc
    · rw [if_pos hc] at k
      refine kt' hc ⟨hv', ?_⟩
      by_cases hg : σ 24 0 p ≤ 0
      · rw [if_pos hg] at k
        exact kt hg k
      · rw [if_neg hg] at k
        exact kf hg k
    · have hc' : ¬ σ 29 0 p = 0 := by rw [hc]; decide
      rw [if_neg hc'] at k
      exact kf' hc' k
def hs (σ : zMem) (b p : Nat) : Int32 := if σ 25 0 p = 0 then 0 else if σ 26 0 p = nI b then 1 else 0
theorem m_has {σ : zMem} {b p : Nat} (hp : p < 24) {Q : Int32 → zMem → Prop} (k : Q (hs σ b p) σ) : vc_X11_has σ (nI b) (nI p) Q := by
  have hv' : vp_in (nI p) 24 := in_nI hp (by decide)
  unfold vc_X11_has
  rw [cl (by omega)]
  refine ⟨hv', ?_⟩
  unfold hs at k
  by_cases h1 : σ 25 0 p = 0
  · rw [if_pos h1] at k
    exact kt h1 k
  · rw [if_neg h1] at k
    refine kf h1 ⟨hv', ?_⟩
    by_cases h2 : σ 26 0 p = nI b
    · rw [if_pos h2] at k
      exact kt' h2 k
    · rw [if_neg h2] at k
      exact kf' h2 k
theorem g24 {p : Nat} (hp : p < 24) : ¬ (24 : Int32) ≤ nI p := nI_ge (b := 24) hp (by decide)
theorem g31 {p : Nat} (hp : p < 31) : ¬ (30 : Int32) < nI p := nI_nlt (a := 30) (b := p) (by omega) (by decide)
theorem s1 (p : Nat) : nI p + 1 = nI (p + 1) := nI_1 p
def fH (σ : zMem) (b p : Nat) : Int32 := if σ 25 0 p = 0 then 0 else if σ 26 0 p = nI b then hv σ p else 0
theorem l_hayOf {σ : zMem} (h : iP σ) {b : Nat} (hb : b < 10) {Q : Int32 → zMem → Prop} (k : Q (sm (fH σ b) 24) σ) : ∀ m p, p + m = 24 → vc_X10_hayOf_4 (nI b) Q (m + 1) σ (sm (fH σ b) p) (nI p)
  | 0, p, hp => by
    obtain rfl : p = 24 := by omega
    exact kt (by decide) k
  | m + 1, p, hp => by
    have hv' : vp_in (nI p) 24 := in_nI (by omega) (by decide)
    have ih := l_hayOf h hb k m (p + 1) (by omega)
    rw [vc_X10_hayOf_4]
    refine kf (g24 (by omega)) ⟨hv', ?_⟩
    rw [cl (by omega), s1]
    have e1 : sm (fH σ b) (p + 1) = sm (fH σ b) p + fH σ b p := rfl
    by_cases ho : σ 4 p 3 = nI b
    · refine kt' ho ⟨hv', p_hay h (by omega) ?_⟩
      obtain ⟨h1, h2⟩ := (ow h (by omega) (by omega)).mp ho
      rw [e1, fH, if_neg h1, if_pos h2] at ih
      exact ih
    · refine kf' ho ?_
      have e2 : fH σ b p = 0 := by
        unfold fH
        by_cases h1 : σ 25 0 p = 0
        · rw [if_pos h1]
        · rw [if_neg h1, if_neg (fun h2 => ho ((ow h (by omega) (by omega)).mpr ⟨h1, h2⟩))]
      rw [e1, e2, Int32.add_zero] at ih
      exact ih
theorem p_hayOf {σ : zMem} (h : iP σ) {b : Nat} (hb : b < 10) {Q : Int32 → zMem → Prop} (k : Q (sm (fH σ b) 24) σ) : vc_X10_hayOf σ (nI b) Q := ⟨_, l_hayOf h hb k 24 0 rfl⟩
theorem l_hayHeld {σ : zMem} (h : iP σ) {b : Nat} {Q : Int32 → zMem → Prop} (k : Q (sm (fH σ b) 24) σ) : ∀ m p, p + m = 24 → vc_X11_hayHeld_4 (nI b) Q (m + 1) σ (sm (fH σ b) p) (nI p)
  | 0, p, hp => by
    obtain rfl : p = 24 := by omega
    exact kt (by decide) k
  | m + 1, p, hp => by
    have ih := l_hayHeld h k m (p + 1) (by omega)
    rw [vc_X11_hayHeld_4]
    refine kf (g24 (by omega)) (m_has (by omega) ?_)
    rw [s1]
    have e1 : sm (fH σ b) (p + 1) = sm (fH σ b) p + fH σ b p := rfl
    unfold hs
    by_cases h1 : σ 25 0 p = 0
    · rw [if_pos h1]
      rw [e1, fH, if_pos h1] at ih
      exact k0 ih
    · rw [if_neg h1]
      by_cases h2 : σ 26 0 p = nI b
      · rw [if_pos h2]
        rw [e1, fH, if_neg h1, if_pos h2] at ih
        exact k1 (m_hayOf h (by omega) ih)
      · rw [if_neg h2]
        rw [e1, fH, if_neg h1, if_neg h2] at ih
        exact k0 ih
theorem m_hayHeld {σ : zMem} (h : iP σ) {b : Nat} {Q : Int32 → zMem → Prop} (k : Q (sm (fH σ b) 24) σ) : vc_X11_hayHeld σ (nI b) Q := ⟨_, l_hayHeld h k 24 0 rfl⟩
theorem l_debt {σ : zMem} {b : Nat} {Q : Int32 → zMem → Prop} (k : Q (debt σ b) σ) : ∀ m p, p + m = 24 → vc_X11_debt_4 (nI b) Q (m + 1) σ (sm (fun p => if σ 25 0 p = 0 then 0 else if σ 26 0 p = nI b then σ 27 0 p else 0) p) (nI p)
  | 0, p, hp => by
    obtain rfl : p = 24 := by omega
    exact kt (by decide) k
  | m + 1, p, hp => by
    have hv' : vp_in (nI p) 24 := in_nI (by omega) (by decide)
    have ih := l_debt k m (p + 1) (by omega)
    rw [vc_X11_debt_4]
    refine kf (g24 (by omega)) (m_has (by omega) ?_)
    rw [s1, cl (by omega)]
    rw [sm] at ih
    unfold hs
    by_cases h1 : σ 25 0 p = 0
    · rw [if_pos h1]
      rw [if_pos h1] at ih
      exact k0 ih
    · rw [if_neg h1]
      rw [if_neg h1] at ih
      by_cases h2 : σ 26 0 p = nI b
      · rw [if_pos h2]
        rw [if_pos h2] at ih
        exact k1 ⟨hv', ih⟩
      · rw [if_neg h2]
        rw [if_neg h2] at ih
        exact k0 ih
theorem m_debt {σ : zMem} {b : Nat} {Q : Int32 → zMem → Prop} (k : Q (debt σ b) σ) : vc_X11_debt σ (nI b) Q := ⟨_, l_debt k 24 0 rfl⟩
theorem l_standing {σ : zMem} (h : iP σ) {Q : Int32 → zMem → Prop} (k : Q (sm (sv σ) 24) σ) : ∀ m p, p + m = 24 → vc_X10_standing_4 Q (m + 1) σ (sm (sv σ) p) (nI p)
  | 0, p, hp => by
    obtain rfl : p = 24 := by omega
    exact kt (by decide) k
  | m + 1, p, hp => by
    have hv' : vp_in (nI p) 24 := in_nI (by omega) (by decide)
    have ih := l_standing h k m (p + 1) (by omega)
    rw [vc_X10_standing_4]
    refine kf (g24 (by omega)) ⟨hv', ?_⟩
    rw [cl (by omega), s1]
    exact p_stands h (by omega) (p_oneIf (sv01 σ p) ih)
theorem p_standing {σ : zMem} (h : iP σ) {Q : Int32 → zMem → Prop} (k : Q (sm (sv σ) 24) σ) : vc_X10_standing σ Q := ⟨_, l_standing h k 24 0 rfl⟩
theorem l_sold {σ : zMem} (h : iP σ) {Q : Int32 → zMem → Prop} (k : Q (sm (σ 25 0) 24) σ) : ∀ m p, p + m = 24 → vc_X10_sold_4 Q (m + 1) σ (sm (σ 25 0) p) (nI p)
  | 0, p, hp => by
    obtain rfl : p = 24 := by omega
    exact kt (by decide) k
  | m + 1, p, hp => by
    have hv' : vp_in (nI p) 24 := in_nI (by omega) (by decide)
    have ih := l_sold h k m (p + 1) (by omega)
    rw [vc_X10_sold_4]
    refine kf (g24 (by omega)) ⟨hv', ?_⟩
    rw [cl (by omega), s1]
    exact p_isSold h (by omega) (p_oneIf (sold01 h (by omega)) ih)
theorem p_sold {σ : zMem} (h : iP σ) {Q : Int32 → zMem → Prop} (k : Q (sm (σ 25 0) 24) σ) : vc_X10_sold σ Q := ⟨_, l_sold h k 24 0 rfl⟩
theorem l_allHay {σ : zMem} (h : iP σ) {Q : Int32 → zMem → Prop} (k : Q (sm (hv σ) 24) σ) : ∀ m p, p + m = 24 → vc_X10_allHay_4 Q (m + 1) σ (sm (hv σ) p) (nI p)
  | 0, p, hp => by
    obtain rfl : p = 24 := by omega
    exact kt (by decide) k
  | m + 1, p, hp => by
    have hv' : vp_in (nI p) 24 := in_nI (by omega) (by decide)
    have ih := l_allHay h k m (p + 1) (by omega)
    rw [vc_X10_allHay_4]
    refine kf (g24 (by omega)) ⟨hv', ?_⟩
    rw [cl (by omega), s1]
    exact p_hay h (by omega) ih
theorem p_allHay {σ : zMem} (h : iP σ) {Q : Int32 → zMem → Prop} (k : Q (sm (hv σ) 24) σ) : vc_X10_allHay σ Q := ⟨_, l_allHay h k 24 0 rfl⟩
theorem l_rainy {σ : zMem} (h : iD σ) {Q : Int32 → zMem → Prop} (k : Q (sm (σ 11 0) 31) σ) : ∀ m p, p + m = 31 → vc_X10_rainyDays_4 Q (m + 1) σ (sm (σ 11 0) p) (nI p)
  | 0, p, hp => by
    obtain rfl : p = 31 := by omega
    exact kt (by decide) k
  | m + 1, p, hp => by
    have hv' : vp_in (nI p) 31 := in_nI (by omega) (by decide)
    have ih := l_rainy h k m (p + 1) (by omega)
    rw [vc_X10_rainyDays_4]
    refine kf (g31 (by omega)) ⟨hv', ?_⟩
    rw [cl (by omega), s1]
    exact p_oneIf (h.2.2 p (by omega)).2 ih
theorem p_rainy {σ : zMem} (h : iD σ) {Q : Int32 → zMem → Prop} (k : Q (sm (σ 11 0) 31) σ) : vc_X10_rainyDays σ Q := ⟨_, l_rainy h k 31 0 rfl⟩
