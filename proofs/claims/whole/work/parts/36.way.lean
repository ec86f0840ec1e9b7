/-! the class's way -/
def sS (σ : zMem) (s : Nat → Nat) : Prop := ∀ v, v < 24 → σ 17 0 v = nI (s v) ∧ s v ≤ 1000000
def tS (σ : zMem) (T : Nat → Nat) : Prop := ∀ v, v < 24 → σ 16 0 v = nI (T v) ∧ T v ≤ 20
def so (T s : Nat → Nat) : Prop := ∀ v, v < 24 → s v = 1000000 ∨ ∃ t, wk 0 v t ∧ s v = T v + sT T t
def cpl (T s : Nat → Nat) (k : Nat) (v : Nat) : Prop := ∀ t, wk 0 v t → t.length ≤ k → s v ≤ T v + sT T t
def fx (T s : Nat → Nat) (v : Nat) : Prop := ∀ u, u < 24 → dst v u = 1 → s v ≤ s u + T v
theorem l_least {σ : zMem} {s : Nat → Nat} (hs : sS σ s) {p : Nat} (hp : p < 24) {Q : Int32 → zMem → Prop} (k : ∀ l, l ≤ 1000000 → (∀ u, u < 24 → dst p u = 1 → l ≤ s u) → (l = 1000000 ∨ ∃ u, u < 24 ∧ dst p u = 1 ∧ l = s u) → Q (nI l) σ) :
    ∀ m j l, j + m = 4 → l ≤ 1000000 → (∀ j', j' < j → bsN p j' < 24 → l ≤ s (bsN p j')) → (l = 1000000 ∨ ∃ u, u < 24 ∧ dst p u = 1 ∧ l = s u) → vc_X8_leastBeside_5 (nI p) Q (m + 1) σ (nI l) (nI j)
  | 0, j, l, hj, h0, h1, h2 => by
    obtain rfl : j = 4 := by omega
    refine kt (by decide) (k l h0 (fun u hu hd => ?_) h2)
    rcases (adj_bs p hp u hu).mp hd with e | e | e | e
    · rw [← e]; exact h1 0 (by omega) (by rw [e]; exact hu)
    · rw [← e]; exact h1 1 (by omega) (by rw [e]; exact hu)
    · rw [← e]; exact h1 2 (by omega) (by rw [e]; exact hu)
    · rw [← e]; exact h1 3 (by omega) (by rw [e]; exact hu)
  | m + 1, j, l, hj, h0, h1, h2 => by
    rw [vc_X8_leastBeside_5]
    refine kf (g4 (by omega)) (p_beside hp (by omega) ?_)
    rw [s1]
    by_cases hq : bsN p j < 24
    · rw [bv, if_pos hq]
      refine kf (nI_pos (by omega)) ⟨in_nI hq (by decide), ?_⟩
      obtain ⟨e1, e2⟩ := hs _ hq
      rw [cl (by omega), e1]
      by_cases hl : s (bsN p j) < l
      · rw [if_pos ((nlt (by omega) (by omega)).mpr hl)]
        refine l_least hs hp k m (j + 1) _ (by omega) e2 (fun j' a1 a2 => ?_) (Or.inr ⟨_, hq, bs_adj p hp j (by omega) hq, rfl⟩)
        by_cases hjj : j' = j
        · subst hjj; exact Nat.le_refl _
        · have := h1 j' (by omega) a2
          omega
      · rw [if_neg (fun z => hl ((nlt (by omega) (by omega)).mp z))]
        refine l_least hs hp k m (j + 1) _ (by omega) h0 (fun j' a1 a2 => ?_) h2
        by_cases hjj : j' = j
        · subst hjj; omega
        · exact h1 j' (by omega) a2
    · rw [bv, if_neg hq]
      refine kt (by decide) ?_
      refine l_least hs hp k m (j + 1) _ (by omega) h0 (fun j' a1 a2 => ?_) h2
      by_cases hjj : j' = j
      · subst hjj; exact absurd a2 hq
      · exact h1 j' (by omega) a2
theorem p_least {σ : zMem} {s : Nat → Nat} (hs : sS σ s) {p : Nat} (hp : p < 24) {Q : Int32 → zMem → Prop} (k : ∀ l, l ≤ 1000000 → (∀ u, u < 24 → dst p u = 1 → l ≤ s u) → (l = 1000000 ∨ ∃ u, u < 24 ∧ dst p u = 1 ∧ l = s u) → Q (nI l) σ) : vc_X8_leastBeside σ (nI p) Q :=
  ⟨5, l_least hs hp k 4 0 1000000 rfl (Nat.le_refl _) (fun j h => absurd h (by omega)) (Or.inl rfl)⟩
def fn (s : Nat → Nat) (i v : Nat) (j : Nat) : Nat := if j = i then v else s j
theorem sS_um {σ : zMem} {s : Nat → Nat} (hs : sS σ s) {p v : Nat} (hv : v ≤ 1000000) : sS (um σ 17 0 p (nI v)) (fn s p v) := fun u hu => by
  by_cases h : u = p
  · subst h; simp [um, fn, hv]
  · simpa [um, fn, h] using hs u hu
theorem tS_um {σ : zMem} {T : Nat → Nat} (hs : tS σ T) {p : Nat} {v : Int32} : tS (um σ 17 0 p v) T := fun u hu => by simpa [um] using hs u hu
theorem l_round {σ0 : zMem} {T : Nat → Nat} {x2 : Nat} {Q : zMem → Prop} {K : zMem → Int32 → Int32 → Prop}
    (k : ∀ σ s x, Out 17 σ0 σ → tS σ T → sS σ s → so T s → (∀ v, v < 24 → cpl T s (x2 + 1) v) → (x = 1 ∨ (x = 0 ∧ ∀ v, v < 24 → fx T s v)) → K σ x (nI (x2 + 1))) :
    ∀ m p σ s x, p + m = 24 → Out 17 σ0 σ → tS σ T → sS σ s → so T s → (∀ v, v < 24 → cpl T s x2 v) → (∀ v, v < p → cpl T s (x2 + 1) v) → (x = 1 ∨ (x = 0 ∧ ∀ v, v < p → fx T s v)) → vc_X8_spread_39 (nI x2) Q K (m + 1) σ x (nI p)
  | 0, p, σ, s, x, hp, h0, h1, h2, h3, h4, h5, h6 => by
    obtain rfl : p = 24 := by omega
    refine kt (by decide) ?_
    rw [s1]
    exact k σ s x h0 h1 h2 h3 h5 h6
  | m + 1, p, σ, s, x, hp, h0, h1, h2, h3, h4, h5, h6 => by
    have hp' : p < 24 := by omega
    have hv' : vp_in (nI p) 24 := in_nI hp' (by decide)
    rw [vc_X8_spread_39]
    refine kf (g24 hp') (p_least h2 hp' (fun l hl hl1 hl2 => ⟨hv', hv', ?_⟩))
    obtain ⟨e1, e2⟩ := h1 p hp'
    obtain ⟨e3, e4⟩ := h2 p hp'
    rw [cl (by omega), e1, e3, s1, nadd (by omega)]
    have hstep : ∀ s' : Nat → Nat, (∀ v, v < 24 → s' v ≤ s v) → s' p ≤ l + T p → cpl T s' (x2 + 1) p := by
      intro s' hs' hb t ht hlen
      cases t with
      | nil => exact Nat.le_trans (hs' p hp') (h4 p hp' [] ht (by simp))
      | cons b t =>
        have a1 := hl1 b ht.2.1 ht.1
        have a2 := h4 b ht.2.1 t ht.2.2 (by simp only [List.length_cons] at hlen; omega)
        simp only [sT]
        omega
    refine ⟨fun c => ?_, fun c => ⟨hv', ?_⟩⟩
    · have c' := (nle (by omega) (by omega)).mp c
      refine l_round k m (p + 1) σ s x (by omega) h0 h1 h2 h3 h4 (fun v hv => ?_) ?_
      · by_cases hvp : v = p
        · subst hvp; exact hstep s (fun _ _ => Nat.le_refl _) c'
        · exact h5 v (by omega)
      · rcases h6 with h6 | ⟨h6, h7⟩
        · exact Or.inl h6
        · refine Or.inr ⟨h6, fun v hv => ?_⟩
          by_cases hvp : v = p
          · subst hvp
            intro u hu hd
            have := hl1 u hu hd
            omega
          · exact h7 v (by omega)
    · have c' : ¬ s p ≤ l + T p := fun z => c ((nle (by omega) (by omega)).mpr z)
      have hdec : ∀ v, v < 24 → fn s p (l + T p) v ≤ s v := fun v hv => by
        unfold fn
        split
        · rename_i e; subst e; omega
        · exact Nat.le_refl _
      have hmon : ∀ j v, v < 24 → cpl T s j v → cpl T (fn s p (l + T p)) j v := fun j v hv hc t ht hlen => Nat.le_trans (hdec v hv) (hc t ht hlen)
      refine l_round k m (p + 1) _ (fn s p (l + T p)) 1 (by omega) h0.um (tS_um h1) (sS_um h2 (by omega)) (fun v hv => ?_) (fun v hv => hmon _ v hv (h4 v hv)) (fun v hv => ?_) (Or.inl rfl)
      · by_cases hvp : v = p
        · subst hvp
          right
          have e5 : fn s v (l + T v) v = l + T v := by simp [fn]
          rw [e5]
          rcases hl2 with hl2 | ⟨u, hu, hd, hl2⟩
          · omega
          · rcases h3 u hu with h | ⟨t, ht, h⟩
            · omega
            · exact ⟨u :: t, ⟨hd, hu, ht⟩, by simp only [sT]; omega⟩
        · have e5 : fn s p (l + T p) v = s v := by simp [fn, hvp]
          rw [e5]
          exact h3 v hv
      · by_cases hvp : v = p
        · subst hvp; exact hstep _ hdec (by simp [fn])
        · exact hmon _ v (by omega) (h5 v (by omega))
theorem all_of {T s : Nat → Nat} (h0 : s 0 ≤ T 0) (h : ∀ v, v < 24 → fx T s v) : ∀ t v, v < 24 → wk 0 v t → s v ≤ T v + sT T t
  | [], v, hv, ht => by
    have ht' : v = 0 := ht
    subst ht'
    simp only [sT]
    omega
  | b :: t, v, hv, ht => by
    have h1 := all_of h0 h t b ht.2.1 ht.2.2
    have h2 := h v hv b ht.2.1 ht.1
    simp only [sT]
    omega
theorem l_spread {σ0 : zMem} {T : Nat → Nat} {Q : zMem → Prop}
    (k : ∀ σ s, Out 17 σ0 σ → tS σ T → sS σ s → so T s → (∀ t v, v < 24 → wk 0 v t → s v ≤ T v + sT T t) → Q σ) :
    ∀ m x2 σ s x, x2 + m = 24 → Out 17 σ0 σ → tS σ T → sS σ s → so T s → (∀ v, v < 24 → cpl T s x2 v) → (x = 1 ∨ (x = 0 ∧ ∀ v, v < 24 → fx T s v)) → vc_X8_spread_25 Q (m + 1) σ x (nI x2)
  | 0, x2, σ, s, x, hx, h0, h1, h2, h3, h4, h6 => by
    obtain rfl : x2 = 24 := by omega
    refine kt (by decide) (k σ s h0 h1 h2 h3 (fun t v hv ht => ?_))
    obtain ⟨t', a1, a2, a3⟩ := short (T := T) hv ht
    have := h4 v hv t' a1 (by omega)
    omega
  | m + 1, x2, σ, s, x, hx, h0, h1, h2, h3, h4, h6 => by
    rw [vc_X8_spread_25]
    refine kf (g24 (by omega)) ⟨fun c => ?_, fun c => ⟨25, ?_⟩⟩
    · rcases h6 with h6 | ⟨h6, h7⟩
      · rw [h6] at c
        exact absurd c (by decide)
      · exact k σ s h0 h1 h2 h3 (all_of (h4 0 (by omega) [] rfl (by simp)) h7)
    · exact l_round (σ0 := σ0) (T := T) (fun σ s x a0 a1 a2 a3 a4 a5 => l_spread k m (x2 + 1) σ s x (by omega) a0 a1 a2 a3 a4 a5) 24 0 σ s 0 (by omega) h0 h1 h2 h3 h4 (fun v hv => absurd hv (by omega)) (Or.inr ⟨rfl, fun v hv => absurd hv (by omega)⟩)
theorem l_fill17 {σ0 : zMem} {Q : zMem → Prop} (k : ∀ σ, Out 17 σ0 σ → (∀ v, v < 24 → σ 17 0 v = 1000000) → Q σ) : ∀ m p σ, p + m = 24 → Out 17 σ0 σ → (∀ v, v < p → σ 17 0 v = 1000000) → vc_J7_fill_53178_17_5 1000000 24 Q (m + 1) σ (nI p)
  | 0, p, σ, hp, h0, h1 => by
    obtain rfl : p = 24 := by omega
    exact kt (by decide) (k σ h0 h1)
  | m + 1, p, σ, hp, h0, h1 => by
    rw [vc_J7_fill_53178_17_5]
    refine kf (g24 (by omega)) ⟨in_nI (by omega) (by decide), ?_⟩
    rw [cl (by omega), s1]
    refine l_fill17 k m (p + 1) _ (by omega) h0.um (fun v hv => ?_)
    by_cases hvp : v = p
    · subst hvp; simp [um]
    · simpa [um, hvp] using h1 v (by omega)
def s0 (T : Nat → Nat) (v : Nat) : Nat := if v = 0 then T 0 else 1000000
theorem p_spread {σ0 : zMem} {T : Nat → Nat} (hT : tS σ0 T) {Q : zMem → Prop}
    (k : ∀ σ s, Out 17 σ0 σ → tS σ T → sS σ s → so T s → (∀ t v, v < 24 → wk 0 v t → s v ≤ T v + sT T t) → Q σ) : vc_X8_spread σ0 Q := by
  refine ⟨25, l_fill17 (σ0 := σ0) (fun σ h0 h1 => ⟨in_nI (k := 0) (by decide) (by decide), in_nI (k := 0) (by decide) (by decide), 25, ?_⟩) 24 0 σ0 rfl Out.rf (fun v hv => absurd hv (by omega))⟩
  have e : (0 : Int32).toNatClampNeg = 0 := rfl
  have h2 : tS σ T := fun v hv => by rw [h0 16 0 v (by decide)]; exact hT v hv
  have hs : ∀ v, v < 24 → (um σ 17 0 0 (σ 16 0 0)) 17 0 v = nI (s0 T v) ∧ s0 T v ≤ 1000000 := by
    intro v hv
    have := h2 0 (by omega)
    by_cases hv0 : v = 0
    · subst hv0; simp only [um_s, s0, if_pos]; exact ⟨this.1, by omega⟩
    · simp only [s0, if_neg hv0]
      refine ⟨?_, Nat.le_refl _⟩
      rw [um_n _ _ (fun z => hv0 z.2.2), h1 v hv]
      rfl
  rw [e]
  refine l_spread k 24 0 _ (s0 T) 1 (by omega) h0.um (tS_um h2) hs (fun v hv => ?_) (fun v hv t ht hlen => ?_) (Or.inl rfl)
  · by_cases hv0 : v = 0
    · subst hv0; exact Or.inr ⟨[], rfl, by simp [s0, sT]⟩
    · exact Or.inl (by simp [s0, hv0])
  · cases t with
    | nil =>
      have ht' : v = 0 := ht
      subst ht'
      simp [s0, sT]
    | cons b t => simp at hlen
/-- the toll of a plot -/
def tO (σ : zMem) (p : Nat) : Nat := if sv σ p = 0 then 0 else (σ 24 0 p).toNatClampNeg / 10
theorem tO_same {σ σ' : zMem} (h : Same σ σ') (p : Nat) : tO σ' p = tO σ p := by
  rw [tO, tO, sv_same h, h 24 0 p rfl]
theorem tO_le {σ : zMem} (h : iP σ) {p : Nat} (hp : p < 24) : tO σ p ≤ 20 := by
  obtain ⟨-, ⟨gr, hgr, h4, h5⟩, -⟩ := h p hp
  unfold tO
  rw [h5, cl (by omega)]
  split <;> omega
theorem p_toll {σ : zMem} (h : iP σ) {p : Nat} (hp : p < 24) {Q : Int32 → zMem → Prop} (k : Q (nI (tO σ p)) σ) : vc_X5_toll σ p Q := by
  obtain ⟨-, ⟨gr, hgr, h4, h5⟩, -⟩ := h p hp
  refine p_stands h hp ⟨fun c => ?_, fun c => ?_⟩
  · rw [tO, if_pos c] at k
    exact k
  · rw [tO, if_neg c, h5, cl (by omega)] at k
    rw [h4, ndiv10 gr (by omega)]
    exact k
theorem l_tramp {σ0 : zMem} (hI : Inv σ0) {p : Nat} (hp : p < 24) {Q : Int32 → zMem → Prop} (k : ∀ σ c, Same σ0 σ → wm (tO σ0) p c → c ≤ 460 → Q (nI c) σ) :
    ∀ m j σ, j + m = 24 → Same σ0 σ → (∀ v, v < j → σ 16 0 v = nI (tO σ0 v)) → vc_X8_trampled_2 (nI p) Q (m + 1) σ (nI j)
  | 0, j, σ, hj, h0, h1 => by
    obtain rfl : j = 24 := by omega
    have hv' : vp_in (nI p) 24 := in_nI hp (by decide)
    have hT : ∀ v, v < 24 → tO σ0 v ≤ 20 := fun v hv => tO_le hI.1 hv
    refine kt (by decide) (p_spread (T := tO σ0) (fun v hv => ⟨h1 v hv, hT v hv⟩) (fun σ' s a0 a1 a2 a3 a4 => ⟨hv', hv', ?_⟩))
    obtain ⟨t, b1, b2⟩ := far_lt hT hp
    have b3 := a4 t p hp b1
    have b4 := hT p hp
    rw [cl (by omega), (a1 p hp).1, (a2 p hp).1]
    rcases a3 p hp with c1 | ⟨t', c1, c2⟩
    · omega
    · rw [nsub (by omega) (by omega)]
      refine k σ' _ (h0.tr (a0.same (fun j => rfl))) ⟨⟨t', c1, by omega⟩, fun t2 d1 => ?_⟩ (by omega)
      have := a4 t2 p hp d1
      omega
  | m + 1, j, σ, hj, h0, h1 => by
    have hv' : vp_in (nI j) 24 := in_nI (by omega) (by decide)
    rw [vc_X8_trampled_2]
    refine kf (g24 (by omega)) ⟨hv', ?_⟩
    rw [cl (by omega), s1]
    refine p_toll (Inv_same h0 hI).1 (by omega) ⟨hv', ?_⟩
    rw [tO_same h0]
    refine l_tramp hI hp k m (j + 1) _ (by omega) (h0.um rfl) (fun v hv => ?_)
    by_cases hvj : v = j
    · subst hvj; simp [um]
    · simpa [um, hvj] using h1 v (by omega)
theorem p_tramp {σ : zMem} (hI : Inv σ) {p : Nat} (hp : p < 24) {Q : Int32 → zMem → Prop} (k : ∀ σ' c, Same σ σ' → wm (tO σ) p c → c ≤ 460 → Q (nI c) σ') : vc_X8_trampled σ (nI p) Q :=
  ⟨25, l_tramp hI hp k 24 0 σ rfl Same.rf (fun v hv => absurd hv (by omega))⟩
