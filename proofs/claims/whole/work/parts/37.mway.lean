/-! the reference's way -/
def fS (σ : zMem) (f : Nat → Nat) : Prop := ∀ v, v < 24 → σ 40 0 v = nI (f v) ∧ f v ≤ 1000000
def uT (σ : zMem) (v : Nat) : Nat := if σ 41 0 v = 0 then 0 else (σ 24 0 v).toNatClampNeg / 10
def gM (σ : zMem) : Prop := ∀ p, p < 24 → ∃ g, g ≤ 200 ∧ σ 24 0 p = nI g
def sn (f : Nat → Nat) : Nat → Nat
  | 0 => 0
  | n + 1 => sn f n + f n
theorem sn_le {f g : Nat → Nat} : ∀ {n}, (∀ k, k < n → g k ≤ f k) → sn g n ≤ sn f n
  | 0, _ => Nat.le_refl _
  | n + 1, h => by
    have h1 := sn_le (n := n) (fun k hk => h k (by omega))
    have h2 := h n (by omega)
    simp only [sn]
    omega
theorem sn_lt {f g : Nat → Nat} {p : Nat} : ∀ {n}, p < n → (∀ k, k < n → g k ≤ f k) → g p < f p → sn g n < sn f n
  | 0, h, _, _ => absurd h (by omega)
  | n + 1, h, h1, h2 => by
    simp only [sn]
    by_cases hp : p = n
    · subst hp
      have h3 := sn_le (n := p) (f := f) (g := g) (fun k hk => h1 k (by omega))
      omega
    · have h3 := sn_lt (n := n) (by omega) (fun k hk => h1 k (by omega)) h2
      have h4 := h1 n (by omega)
      omega
theorem uT_out {σ σ' : zMem} (h : Out 40 σ σ') (v : Nat) : uT σ' v = uT σ v := by
  rw [uT, uT, h 41 0 v (by decide), h 24 0 v (by decide)]
theorem uT_le {σ : zMem} (h : gM σ) {v : Nat} (hv : v < 24) : uT σ v ≤ 20 := by
  obtain ⟨g, hg, e⟩ := h v hv
  rw [uT, e, cl (by omega)]
  split <;> omega
theorem fS_um {σ : zMem} {s : Nat → Nat} (hs : fS σ s) {p v : Nat} (hv : v ≤ 1000000) : fS (um σ 40 0 p (nI v)) (fn s p v) := fun u hu => by
  by_cases h : u = p
  · subst h; simp [um, fn, hv]
  · simpa [um, fn, h] using hs u hu
def fo (T f : Nat → Nat) (p : Nat) : Prop := f p = 0 ∧ ∀ v, v < 24 → f v = 1000000 ∨ ∃ t, wk v p t ∧ f v = sT T t
def rx (T f : Nat → Nat) (p b q : Nat) : Prop := dst b q = 1 → ¬ q = p → f q ≤ f b + T q
def G (σ0 σ : zMem) (f : Nat → Nat) (p F0 : Nat) (x : Int32) (done : Nat → Nat → Prop) : Prop :=
  Out 40 σ0 σ ∧ fS σ f ∧ fo (uT σ0) f p ∧ ((x = 1 ∧ sn f 24 < F0) ∨ (x = 0 ∧ sn f 24 ≤ F0 ∧ ∀ b q, b < 24 → q < 24 → done b q → rx (uT σ0) f p b q))
theorem l_m50 {σ0 : zMem} (hg : gM σ0) {p F0 b : Nat} (hp : p < 24) (hb : b < 24) {Q : Int32 → zMem → Prop} {K33 : zMem → Int32 → Prop} {K : zMem → Int32 → Int32 → Prop}
    (k : ∀ σ f x, G σ0 σ f p F0 x (fun b' q' => b' < b + 1) → K σ x (nI (b + 1))) :
    ∀ m q σ f x, q + m = 24 → G σ0 σ f p F0 x (fun b' q' => b' < b ∨ (b' = b ∧ q' < q)) → vc_X11_wayFrom_50 (nI p) (nI b) Q K33 K (m + 1) σ x (nI q)
  | 0, q, σ, f, x, hq, hG => by
    obtain rfl : q = 24 := by omega
    refine kt (by decide) ?_
    rw [s1]
    refine k σ f x ⟨hG.1, hG.2.1, hG.2.2.1, ?_⟩
    rcases hG.2.2.2 with h | h
    · exact Or.inl h
    · exact Or.inr ⟨h.1, h.2.1, fun b' q' h1 h2 h3 => h.2.2 b' q' h1 h2 (by omega)⟩
  | m + 1, q, σ, f, x, hq, hG => by
    have hq' : q < 24 := by omega
    have hv' : vp_in (nI q) 24 := in_nI hq' (by decide)
    have hvb : vp_in (nI b) 24 := in_nI hb (by decide)
    rw [vc_X11_wayFrom_50]
    refine kf (g24 hq') (m_steps hb hq' ?_)
    rw [cl (by omega), cl (by omega), s1]
    have skip : rx (uT σ0) f p b q → vc_X11_wayFrom_50 (nI p) (nI b) Q K33 K (m + 1) σ x (nI (q + 1)) := by
      intro hr
      refine l_m50 hg hp hb k m (q + 1) σ f x (by omega) ⟨hG.1, hG.2.1, hG.2.2.1, ?_⟩
      rcases hG.2.2.2 with h | h
      · exact Or.inl h
      · refine Or.inr ⟨h.1, h.2.1, fun b' q' h1 h2 h3 => ?_⟩
        by_cases hbq : b' = b ∧ q' = q
        · obtain ⟨rfl, rfl⟩ := hbq
          exact hr
        · exact h.2.2 b' q' h1 h2 (by omega)
    have hT20 := uT_le hg hq'
    obtain ⟨f1, f2⟩ := hG.2.1 b hb
    obtain ⟨f3, f4⟩ := hG.2.1 q hq'
    have body : dst b q = 1 → ((nI q = nI p → vc_X11_wayFrom_50 (nI p) (nI b) Q K33 K (m + 1) σ x (nI (q + 1))) ∧ (¬ nI q = nI p → vp_in (nI q) 24 ∧ ((σ 40 0 q ≤ σ 40 0 b + nI (uT σ0 q)) → vc_X11_wayFrom_50 (nI p) (nI b) Q K33 K (m + 1) σ x (nI (q + 1))) ∧ (¬ (σ 40 0 q ≤ σ 40 0 b + nI (uT σ0 q)) → vp_in (nI q) 24 ∧ vc_X11_wayFrom_50 (nI p) (nI b) Q K33 K (m + 1) (um σ 40 0 q (σ 40 0 b + nI (uT σ0 q))) 1 (nI (q + 1))))) := by
      intro hd
      refine ⟨fun c => skip (fun _ z => absurd ((nI_eq (by omega) (by omega)).mp c) z), fun c => ⟨hv', ?_⟩⟩
      have hqp : ¬ q = p := fun z => c (by rw [z])
      rw [f1, f3, nadd (by omega)]
      refine ⟨fun c2 => skip (fun _ _ => (nle (by omega) (by omega)).mp c2), fun c2 => ⟨hv', ?_⟩⟩
      have c3 : ¬ f q ≤ f b + uT σ0 q := fun z => c2 ((nle (by omega) (by omega)).mpr z)
      have hdec : ∀ v, v < 24 → fn f q (f b + uT σ0 q) v ≤ f v := fun v hv => by
        unfold fn
        split
        · rename_i e; subst e; omega
        · exact Nat.le_refl _
      have hlt : sn (fn f q (f b + uT σ0 q)) 24 < sn f 24 := sn_lt hq' hdec (by simp only [fn, if_pos]; omega)
      refine l_m50 hg hp hb k m (q + 1) _ (fn f q (f b + uT σ0 q)) 1 (by omega) ⟨hG.1.um, fS_um hG.2.1 (by omega), ⟨?_, fun v hv => ?_⟩, Or.inl ⟨rfl, ?_⟩⟩
      · have e5 : fn f q (f b + uT σ0 q) p = f p := by
          unfold fn
          rw [if_neg (fun z => hqp z.symm)]
        rw [e5]
        exact hG.2.2.1.1
      · by_cases hvq : v = q
        · subst hvq
          have e5 : fn f v (f b + uT σ0 v) v = f b + uT σ0 v := by simp [fn]
          rw [e5]
          rcases hG.2.2.1.2 b hb with h | ⟨t, h1, h2⟩
          · omega
          · refine Or.inr ⟨t ++ [v], wk_app hd hv h1, ?_⟩
            rw [sT_app, ← h2]
            simp [sT]
        · have e5 : fn f q (f b + uT σ0 q) v = f v := by simp [fn, hvq]
          rw [e5]
          exact hG.2.2.1.2 v hv
      · rcases hG.2.2.2 with h | h
        · omega
        · omega
    refine ⟨fun c => ⟨hvb, hv', ?_⟩, fun c => skip (fun hd => absurd (by rw [hd]; rfl) c)⟩
    have hd : dst b q = 1 := (nI_eq (b := 1) (by have := dst_lt b hb q hq'; omega) (by decide)).mp c
    have hb' := body hd
    have e41 : σ 41 0 q = σ0 41 0 q := hG.1 41 0 q (by decide)
    have e24 : σ 24 0 q = σ0 24 0 q := hG.1 24 0 q (by decide)
    rw [e41, e24]
    refine ⟨fun c2 => ?_, fun c2 => ⟨hv', ?_⟩⟩
    · rw [uT, if_pos c2] at hb'
      exact hb'
    · obtain ⟨g, hg1, hg2⟩ := hg q hq'
      rw [uT, if_neg c2, hg2, cl (by omega), ← ndiv10 g (by omega)] at hb'
      rw [hg2]
      exact hb'
theorem l_m41 {σ0 : zMem} (hg : gM σ0) {p F0 : Nat} (hp : p < 24) {Q : Int32 → zMem → Prop} {K33 : zMem → Int32 → Prop}
    (k : ∀ σ f x, G σ0 σ f p F0 x (fun _ _ => True) → K33 σ x) :
    ∀ m b σ f x, b + m = 24 → G σ0 σ f p F0 x (fun b' q' => b' < b) → vc_X11_wayFrom_41 (nI p) Q K33 (m + 1) σ x (nI b)
  | 0, b, σ, f, x, hb, hG => by
    obtain rfl : b = 24 := by omega
    refine kt (by decide) (k σ f x ⟨hG.1, hG.2.1, hG.2.2.1, ?_⟩)
    rcases hG.2.2.2 with h | h
    · exact Or.inl h
    · exact Or.inr ⟨h.1, h.2.1, fun b' q' h1 h2 _ => h.2.2 b' q' h1 h2 h1⟩
  | m + 1, b, σ, f, x, hb, hG => by
    rw [vc_X11_wayFrom_41]
    refine kf (g24 (by omega)) ⟨25, ?_⟩
    refine l_m50 hg hp (by omega) (fun σ f x hG' => l_m41 hg hp k m (b + 1) σ f x (by omega) hG') 24 0 σ f x (by omega) ⟨hG.1, hG.2.1, hG.2.2.1, ?_⟩
    rcases hG.2.2.2 with h | h
    · exact Or.inl h
    · exact Or.inr ⟨h.1, h.2.1, fun b' q' h1 h2 h3 => h.2.2 b' q' h1 h2 (by omega)⟩
theorem f_all {T f : Nat → Nat} {p : Nat} (hp : f p = 0) (h : ∀ b q, b < 24 → q < 24 → rx T f p b q) : ∀ t a, a < 24 → wk 0 a t → f 0 ≤ f a + sT T t
  | [], a, ha, ht => by
    have ht' : a = 0 := ht
    subst ht'
    simp only [sT]
    omega
  | b :: t, a, ha, ht => by
    have h1 := f_all hp h t b ht.2.1 ht.2.2
    simp only [sT]
    by_cases hbp : b = p
    · rw [hbp, hp] at h1
      omega
    · have h2 := h a b ha ht.2.1 ht.1 hbp
      omega
theorem l_m33 {σ0 : zMem} (hg : gM σ0) {p : Nat} (hp : p < 24) {Q : Int32 → zMem → Prop} (k : ∀ σ c, Out 40 σ0 σ → wm (uT σ0) p c → c ≤ 460 → Q (nI c) σ) :
    ∀ n σ f x, Out 40 σ0 σ → fS σ f → fo (uT σ0) f p → ((x = 1 ∧ sn f 24 + 2 ≤ n) ∨ (x = 0 ∧ 1 ≤ n ∧ ∀ b q, b < 24 → q < 24 → rx (uT σ0) f p b q)) → vc_X11_wayFrom_33 (nI p) Q n σ x
  | 0, σ, f, x, h0, h1, h2, h3 => by omega
  | n + 1, σ, f, x, h0, h1, h2, h3 => by
    rw [vc_X11_wayFrom_33]
    rcases h3 with ⟨rfl, h4⟩ | ⟨rfl, h4, h5⟩
    · refine k1 ⟨25, l_m41 (F0 := sn f 24) hg hp (fun σ' f' x' hG => ?_) 24 0 σ f 0 (by omega) ⟨h0, h1, h2, Or.inr ⟨rfl, Nat.le_refl _, fun b' q' _ _ h => absurd h (by omega)⟩⟩⟩
      refine l_m33 hg hp k n σ' f' x' hG.1 hG.2.1 hG.2.2.1 ?_
      rcases hG.2.2.2 with h | h
      · exact Or.inl ⟨h.1, by omega⟩
      · exact Or.inr ⟨h.1, by omega, fun b q h1 h2 => h.2.2 b q h1 h2 trivial⟩
    · refine k0 ⟨in_nI (k := 0) (by decide) (by decide), ?_⟩
      have hT : ∀ v, v < 24 → uT σ0 v ≤ 20 := fun v hv => uT_le hg hv
      have key := f_all h2.1 h5
      have key2 : ∀ t, wk 0 p t → f 0 ≤ sT (uT σ0) t := fun t ht => by
        have := key t p hp ht
        rw [h2.1] at this
        omega
      obtain ⟨t, b1, b2⟩ := far_lt hT hp
      have b3 := key2 t b1
      show Q (σ 40 0 0) σ
      rw [(h1 0 (by omega)).1]
      rcases h2.2 0 (by omega) with c | ⟨t', c1, c2⟩
      · omega
      · exact k σ _ h0 ⟨⟨t', c1, c2⟩, key2⟩ (by omega)
theorem l_m2w {σ0 : zMem} (hg : gM σ0) {p : Nat} (hp : p < 24) {Q : Int32 → zMem → Prop} (k : ∀ σ c, Out 40 σ0 σ → wm (uT σ0) p c → c ≤ 460 → Q (nI c) σ) :
    ∀ m j σ, j + m = 24 → Out 40 σ0 σ → (∀ v, v < j → σ 40 0 v = nI (if v = p then 0 else 1000000)) → vc_X11_wayFrom_2 (nI p) Q (m + 1) σ (nI j)
  | 0, j, σ, hj, h0, h1 => by
    obtain rfl : j = 24 := by omega
    refine kt (by decide) ⟨_, l_m33 hg hp k (sn (fun v => if v = p then 0 else 1000000) 24 + 2) σ (fun v => if v = p then 0 else 1000000) 1 h0 (fun v hv => ⟨h1 v hv, by simp only []; split <;> omega⟩) ⟨by simp, fun v hv => ?_⟩ (Or.inl ⟨rfl, Nat.le_refl _⟩)⟩
    by_cases hvp : v = p
    · right
      refine ⟨[], hvp.symm, ?_⟩
      simp [hvp, sT]
    · left
      simp [hvp]
  | m + 1, j, σ, hj, h0, h1 => by
    have hv' : vp_in (nI j) 24 := in_nI (by omega) (by decide)
    rw [vc_X11_wayFrom_2]
    rw [cl (by omega), s1]
    refine kf (g24 (by omega)) ⟨fun c => ⟨hv', ?_⟩, fun c => ⟨hv', ?_⟩⟩
    · have hjp : ¬ j = p := fun z => c (by rw [z])
      refine l_m2w hg hp k m (j + 1) _ (by omega) h0.um (fun v hv => ?_)
      by_cases hvj : v = j
      · subst hvj; rw [um_s, if_neg hjp]; rfl
      · simpa [um, hvj] using h1 v (by omega)
    · have hjp : j = p := (nI_eq (by omega) (by omega)).mp c
      refine l_m2w hg hp k m (j + 1) _ (by omega) h0.um (fun v hv => ?_)
      by_cases hvj : v = j
      · subst hvj; rw [um_s, if_pos hjp]; rfl
      · simpa [um, hvj] using h1 v (by omega)
theorem m_wayFrom {σ : zMem} (hg : gM σ) {p : Nat} (hp : p < 24) {Q : Int32 → zMem → Prop} (k : ∀ σ' c, Out 40 σ σ' → wm (uT σ) p c → c ≤ 460 → Q (nI c) σ') : vc_X11_wayFrom σ (nI p) Q :=
  ⟨25, l_m2w hg hp k 24 0 σ rfl Out.rf (fun v hv => absurd hv (by omega))⟩
theorem l_up {σ0 : zMem} {Q : zMem → Prop} (k : ∀ σ, Out 41 σ0 σ → (∀ v, v < 24 → σ 41 0 v = sv σ0 v) → Q σ) : ∀ m j σ, j + m = 24 → Out 41 σ0 σ → (∀ v, v < j → σ 41 0 v = sv σ0 v) → vc_X11_standUp_2 Q (m + 1) σ (nI j)
  | 0, j, σ, hj, h0, h1 => by
    obtain rfl : j = 24 := by omega
    exact kt (by decide) (k σ h0 h1)
  | m + 1, j, σ, hj, h0, h1 => by
    have hv' : vp_in (nI j) 24 := in_nI (by omega) (by decide)
    have e : sv σ j = sv σ0 j := by rw [sv, sv, h0 25 0 j (by decide), h0 29 0 j (by decide), h0 24 0 j (by decide)]
    rw [vc_X11_standUp_2]
    refine kf (g24 (by omega)) (mm_stands (by omega) ⟨hv', ?_⟩)
    rw [cl (by omega), s1, nbool (sv01 σ j), e]
    refine l_up k m (j + 1) _ (by omega) h0.um (fun v hv => ?_)
    by_cases hvj : v = j
    · subst hvj; simp [um]
    · simpa [um, hvj] using h1 v (by omega)
theorem m_standUp {σ : zMem} {Q : zMem → Prop} (k : ∀ σ', Out 41 σ σ' → (∀ v, v < 24 → σ' 41 0 v = sv σ v) → Q σ') : vc_X11_standUp σ Q :=
  ⟨25, l_up k 24 0 σ rfl Out.rf (fun v hv => absurd hv (by omega))⟩
theorem gM_of {σ : zMem} (h : iP σ) : gM σ := fun p hp => by
  obtain ⟨-, ⟨gr, hgr, h4, h5⟩, -⟩ := h p hp
  exact ⟨gr, hgr, h5⟩
/-- all that the reference's way does -/
theorem m_way {σ : zMem} (hg : gM σ) {p : Nat} (hp : p < 24) {Q : Int32 → zMem → Prop} (k : ∀ σ' c, (∀ q i j, q ≠ 40 → q ≠ 41 → σ' q i j = σ q i j) → wm (tO σ) p c → c ≤ 460 → Q (nI c) σ') : vc_X11_standUp σ (fun σ4 => vc_X11_wayFrom σ4 (nI p) (fun r6 σ5 => Q r6 σ5)) := by
  refine m_standUp (fun σ1 a1 a2 => m_wayFrom (fun v hv => by rw [a1 24 0 v (by decide)]; exact hg v hv) hp (fun σ2 c b1 b2 b3 => k σ2 c (fun q i j h1 h2 => (b1 q i j h1).trans (a1 q i j h2)) (wm_congr (fun v hv => ?_) b2) b3))
  rw [uT, tO, a2 v hv, a1 24 0 v (by decide)]
theorem st_way {σ : zMem} (hI : Inv σ) (a : Int32) : vc_X10_way σ a (fun r σ1 => vc_X11_way σ1 a (fun r2 σ2 => r = r2 ∧ Inv σ2)) := by
  by_cases ha : vp_in a 24
  · refine p_isPlot_t ha (k1' ?_)
    obtain ⟨p, hp, rfl⟩ := in_of ha (by decide)
    refine p_tramp hI hp (fun σ1 c h1 h2 h3 => ?_)
    have hI1 := Inv_same h1 hI
    refine m_isPlot_t ha (k1' (m_way (gM_of hI1.1) hp (fun σ2 c' a1 a2 a3 => ⟨?_, Inv_same (fun q i j z => a1 q i j (fun e => by subst e; cases z) (fun e => by subst e; cases z)) hI1⟩)))
    rw [wm_u h2 (wm_congr (fun v hv => tO_same h1 v) a2)]
  · refine p_isPlot_f ha (k0' ?_)
    exact m_isPlot_f ha (k0' ⟨rfl, hI⟩)
