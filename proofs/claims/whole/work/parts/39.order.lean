/-! best, order -/
def sl (σ : zMem) : Nat → List Nat
  | 0 => []
  | n + 1 => if sv σ n = 0 then sl σ n else sl σ n ++ [n]
def gd (l : List Nat) (i : Nat) : Nat := l.getD i 0
theorem gd_l {l l' : List Nat} {i : Nat} (h : i < l.length) : gd (l ++ l') i = gd l i := by
  simp [gd, List.getD_eq_getElem?_getD, List.getElem?_append_left h]
theorem gd_r {l : List Nat} {x : Nat} : gd (l ++ [x]) l.length = x := by
  simp [gd, List.getD_eq_getElem?_getD]
theorem sl_lt {σ : zMem} : ∀ n i, i < (sl σ n).length → gd (sl σ n) i < n
  | 0, i, h => by simp [sl] at h
  | n + 1, i, h => by
    rw [sl] at h ⊢
    split at h
    · rename_i c
      rw [if_pos c]
      have := sl_lt n i h
      omega
    · rename_i c
      rw [if_neg c]
      simp only [List.length_append, List.length_cons, List.length_nil] at h
      by_cases hi : i < (sl σ n).length
      · rw [gd_l hi]
        have := sl_lt n i hi
        omega
      · obtain rfl : i = (sl σ n).length := by omega
        rw [gd_r]
        omega
theorem sl_inc {σ : zMem} : ∀ n i j, i < j → j < (sl σ n).length → gd (sl σ n) i < gd (sl σ n) j
  | 0, i, j, _, h => by simp [sl] at h
  | n + 1, i, j, hij, h => by
    rw [sl] at h ⊢
    split at h
    · rename_i c
      rw [if_pos c]
      exact sl_inc n i j hij h
    · rename_i c
      rw [if_neg c]
      simp only [List.length_append, List.length_cons, List.length_nil] at h
      by_cases hj : j < (sl σ n).length
      · rw [gd_l hj, gd_l (by omega)]
        exact sl_inc n i j hij hj
      · obtain rfl : j = (sl σ n).length := by omega
        rw [gd_r, gd_l hij]
        exact sl_lt n i hij
theorem sl_mono {σ : zMem} : ∀ m n, (sl σ n).length ≤ (sl σ (n + m)).length ∧ ∀ i, i < (sl σ n).length → gd (sl σ (n + m)) i = gd (sl σ n) i
  | 0, n => ⟨Nat.le_refl _, fun _ _ => rfl⟩
  | m + 1, n => by
    obtain ⟨h1, h2⟩ := sl_mono m n
    rw [show n + (m + 1) = (n + m) + 1 from rfl, sl]
    split
    · exact ⟨h1, h2⟩
    · refine ⟨by simp only [List.length_append]; omega, fun i hi => ?_⟩
      rw [gd_l (by omega)]
      exact h2 i hi
theorem sl_len {σ : zMem} : ∀ n, (sl σ n).length ≤ n
  | 0 => by simp [sl]
  | n + 1 => by
    have := sl_len (σ := σ) n
    rw [sl]
    split
    · omega
    · simp only [List.length_append, List.length_cons, List.length_nil]
      omega
theorem sl_sm {σ : zMem} : ∀ n, n ≤ 24 → sm (sv σ) n = nI (sl σ n).length
  | 0, _ => rfl
  | n + 1, h => by
    have hl := sl_len (σ := σ) n
    rw [sm, sl_sm n (by omega), sl]
    split
    · rename_i c
      rw [c, Int32.add_zero]
    · rename_i c
      rw [(sv01 σ n).resolve_left c]
      simp only [List.length_append, List.length_cons, List.length_nil]
      exact s1 _
theorem sl_same {σ σ' : zMem} (h : Same σ σ') : ∀ n, sl σ' n = sl σ n
  | 0 => rfl
  | n + 1 => by rw [sl, sl, sl_same h n, sv_same h]
theorem l_stAt {σ : zMem} (h : iP σ) {i : Nat} (hi : i < (sl σ 24).length) {Q : Int32 → zMem → Prop} (k : Q (nI (gd (sl σ 24) i)) σ) :
    ∀ m p, p + m = 24 → (sl σ p).length ≤ i → vc_X10_standingAt_4 (nI i) Q (m + 1) σ (nI (sl σ p).length) (nI p)
  | 0, p, hp, hl => by
    obtain rfl : p = 24 := by omega
    omega
  | m + 1, p, hp, hl => by
    rw [vc_X10_standingAt_4]
    have hll := sl_len (σ := σ) 24
    refine kf (g24 (by omega)) ⟨in_nI (by omega) (by decide), ?_⟩
    rw [cl (by omega), s1, s1]
    refine p_stands h (by omega) ⟨fun c => ?_, fun c => ⟨fun c2 => ?_, fun c2 => ?_⟩⟩
    · have ih := l_stAt h hi k m (p + 1) (by omega)
      rw [sl, if_pos c] at ih
      exact ih hl
    · have c3 : ¬ (sl σ p).length = i := fun z => c2 (by rw [z])
      have ih := l_stAt h hi k m (p + 1) (by omega)
      rw [sl, if_neg c] at ih
      simp only [List.length_append, List.length_cons, List.length_nil] at ih
      exact ih (by omega)
    · have c3 : (sl σ p).length = i := (nI_eq (by omega) (by omega)).mp c2
      have e := (sl_mono (σ := σ) m (p + 1)).2 i (by rw [sl, if_neg c]; simp only [List.length_append, List.length_cons, List.length_nil]; omega)
      have es : sl σ (p + 1) = sl σ p ++ [p] := by rw [sl, if_neg c]
      rw [show p + 1 + m = 24 by omega, es, ← c3, gd_r] at e
      rw [← c3, e] at k
      exact k
/-- sets of at most six, as numbers -/
def lw (s : Nat) : Nat := if s % 2 = 1 then 0 else if s % 4 = 2 then 1 else if s % 8 = 4 then 2 else if s % 16 = 8 then 3 else if s % 32 = 16 then 4 else 5
def tb (s i : Nat) : Nat := s / 2 ^ i % 2
def clr (s i : Nat) : Nat := if tb s i = 1 then s - 2 ^ i else s
set_option maxRecDepth 100000 in
theorem b_tb : ∀ s, s < 64 → ∀ i, i < 6 → ((nI s >>> (nI i &&& 31)) &&& 1) = nI (tb s i) := by decide +kernel
set_option maxRecDepth 100000 in
theorem b_clr : ∀ s, s < 64 → ∀ i, i < 6 → (nI s &&& ((1 <<< (nI i &&& 31)) ^^^ ((-1)))) = nI (clr s i) ∧ clr s i < 64 ∧ (tb s i = 1 → clr s i < s) := by decide +kernel
set_option maxRecDepth 100000 in
theorem b_six : ∀ s, s < 64 → ∀ i, i < 6 → 6 * nI s + nI i = nI (6 * s + i) := by decide +kernel
theorem b_pow : ∀ n, n < 7 → (1 <<< (nI n &&& 31) : Int32) = nI (2 ^ n) ∧ nI (2 ^ n) - 1 = nI (2 ^ n - 1) := by decide +kernel
set_option maxRecDepth 100000 in
theorem b_lw : ∀ s, s < 64 → 0 < s → tb s (lw s) = 1 ∧ (∀ i, i < 6 → tb s i = 1 → lw s ≤ i) ∧ lw s < 6 := by decide +kernel
set_option maxRecDepth 100000 in
theorem b_lwn : ∀ n, n < 7 → ∀ s, s < 64 → 0 < s → s < 2 ^ n → lw s < n := by decide +kernel
theorem b_top : ∀ n, n < 7 → ∀ j, j < 6 → j < n → lw (2 ^ n - 2 ^ j) = j ∧ clr (2 ^ n - 2 ^ j) j = 2 ^ n - 2 ^ (j + 1) ∧ 0 < 2 ^ n - 2 ^ j ∧ 2 ^ n - 2 ^ j < 64 := by decide +kernel
theorem tb01 (s i : Nat) : tb s i = 0 ∨ tb s i = 1 := by
  unfold tb
  omega
def WB (σ0 σ : zMem) (n : Nat) (L : Nat → Nat) : Prop := Same σ0 σ ∧ σ 22 0 25 = nI n ∧ ∀ i, i < n → σ 42 0 i = nI (L i)
theorem WB.um {σ0 σ : zMem} {n : Nat} {L : Nat → Nat} (h : WB σ0 σ n L) {q i j : Nat} {v : Int32} (hq : ps q j = false) (h1 : ¬ q = 22) (h2 : ¬ q = 42) : WB σ0 (um σ q i j v) n L :=
  ⟨h.1.um hq, by rw [um_q _ _ (by omega)]; exact h.2.1, fun i' hi => by rw [um_q _ _ (by omega)]; exact h.2.2 i' hi⟩
theorem WB.out {σ0 σ σ' : zMem} {n : Nat} {L : Nat → Nat} (h : WB σ0 σ n L) (ho : Out 40 σ σ') : WB σ0 σ' n L :=
  ⟨h.1.tr (ho.same (fun j => rfl)), by rw [ho _ _ _ (by decide)]; exact h.2.1, fun i' hi => by rw [ho _ _ _ (by decide)]; exact h.2.2 i' hi⟩
def Ds (σ : zMem) (s : Nat) : Prop := σ 43 0 0 = 0 ∧ ∀ s', 0 < s' → s' < s → σ 43 0 s' = 0 ∧ σ 44 0 (6 * s' + lw s') = 0
def Us (σ : zMem) (n : Nat) (L : Nat → Nat) (s j : Nat) : Prop := (∀ i, i < j → σ 41 0 (L i) = nI (tb s i)) ∧ ∀ v, v < 24 → (∀ i, i < n → ¬ v = L i) → σ 41 0 v = 0
theorem l_w152 {σ0 : zMem} (hg : gM σ0) {n s : Nat} {L : Nat → Nat} (hn : n ≤ 6) (hL : ∀ i, i < n → L i < 24) (hinc : ∀ i j, i < j → j < n → L i < L j) (hs : s < 64) (hs0 : 0 < s) (hsn : s < 2 ^ n) {Q : Int32 → zMem → Prop} {K : zMem → Int32 → Prop}
    (k : ∀ σ, WB σ0 σ n L → Ds σ (s + 1) → Us σ n L s n → K σ (nI (s + 1))) :
    ∀ m i σ, i + m = n → WB σ0 σ n L → Ds σ s → Us σ n L s n → (i ≤ lw s → σ 43 0 s = 1000000) → (lw s < i → σ 43 0 s = 0 ∧ σ 44 0 (6 * s + lw s) = 0) → vc_X11_workOut_152 (nI s) Q K (m + 1) σ (nI i)
  | 0, i, σ, hi, h0, h1, h2, h3, h4 => by
    obtain rfl : i = n := by omega
    refine kt (by rw [h0.2.1, te]; omega) ?_
    rw [s1]
    refine k σ h0 ⟨h1.1, fun s' a1 a2 => ?_⟩ h2
    by_cases hss : s' = s
    · subst hss
      exact h4 (b_lwn i (by omega) s' hs hs0 hsn)
    · exact h1.2 s' a1 (by omega)
  | m + 1, i, σ, hi, h0, h1, h2, h3, h4 => by
    have hv' : vp_in (nI i) 6 := in_nI (by omega) (by decide)
    have hvs : vp_in (nI s) 64 := in_nI (by omega) (by decide)
    obtain ⟨l1, l2, l3⟩ := b_lw s hs hs0
    obtain ⟨c1, c2, c3⟩ := b_clr s hs i (by omega)
    rw [vc_X11_workOut_152]
    refine kf (by rw [h0.2.1]; exact nI_ge (by omega) (by omega)) ?_
    rw [b_tb s hs i (by omega), s1, c1, b_six s hs i (by omega), cl (k := i) (by omega), cl (k := s) (by omega), cl (k := clr s i) (by omega), cl (k := 6 * s + i) (by omega), h0.2.2 i (by omega)]
    rcases tb01 s i with ht | ht
    · rw [ht]
      refine kt' rfl (l_w152 hg hn hL hinc hs hs0 hsn k m (i + 1) σ (by omega) h0 h1 h2 (fun z => h3 (by omega)) (fun z => h4 ?_))
      by_cases e : lw s = i
      · rw [e] at l1
        omega
      · omega
    · rw [ht]
      have hg' : gM σ := fun v hv => by rw [h0.1 24 0 v rfl]; exact hg v hv
      refine kf' (by decide) ⟨hv', m_wayFrom hg' (hL i (by omega)) (fun σ2 c b1 b2 b3 => ?_)⟩
      have hv6 : vp_in (nI (6 * s + i)) 384 := in_nI (by omega) (by decide)
      have hvc : vp_in (nI (clr s i)) 64 := in_nI (by omega) (by decide)
      have e0 : σ2 43 0 (clr s i) = 0 := by
        rw [b1 43 0 _ (by decide)]
        by_cases hz : clr s i = 0
        · rw [hz]; exact h1.1
        · exact (h1.2 _ (by omega) (c3 ht)).1
      have e1 : σ2 43 0 s = σ 43 0 s := b1 43 0 s (by decide)
      simp only [um_s, um_q _ _ (show (43 : Nat) ≠ 44 by decide)]
      rw [e0, Int32.add_zero, e1]
      have hle := l2 i (by omega) ht
      have fin : ∀ v, v = 0 ∧ (lw s = i → c = 0) → vc_X11_workOut_152 (nI s) Q K (m + 1) (um (um σ2 44 0 (6 * s + i) (nI c)) 43 0 s v) (nI (i + 1)) := by
        intro v hv
        refine l_w152 hg hn hL hinc hs hs0 hsn k m (i + 1) _ (by omega) (((h0.out b1).um rfl (by decide) (by decide)).um rfl (by decide) (by decide)) ⟨?_, fun s' a1 a2 => ?_⟩ ⟨fun i' hi' => ?_, fun v' a1 a2 => ?_⟩ (fun z => by omega) (fun z => ?_)
        · rw [um_n _ _ (by omega), um_q _ _ (by decide), b1 43 0 0 (by decide)]
          exact h1.1
        · rw [um_n _ _ (by omega), um_q _ _ (by decide), um_q _ _ (by decide), b1 43 0 _ (by decide)]
          have hl6 := (b_lw s' (by omega) a1).2.2
          rw [um_n _ _ (by omega), b1 44 0 _ (by decide)]
          exact h1.2 s' a1 a2
        · rw [um_q _ _ (by decide), um_q _ _ (by decide), b1 41 0 _ (by decide)]
          exact h2.1 i' hi'
        · rw [um_q _ _ (by decide), um_q _ _ (by decide), b1 41 0 _ (by decide)]
          exact h2.2 v' a1 a2
        · rw [um_s]
          refine ⟨hv.1, ?_⟩
          rw [um_q _ _ (by decide)]
          by_cases e : lw s = i
          · rw [← e, um_s, hv.2 e]
            rfl
          · rw [um_n _ _ (by omega), b1 44 0 _ (by decide)]
            exact (h4 (by omega)).2
      by_cases e : lw s = i
      · have hz : c = 0 := by
          obtain ⟨t, t1, t2⟩ := reach 24 (L i) (hL i (by omega)) (hL i (by omega))
          have := b2.2 t t1
          have e3 : sT (uT σ) t = 0 := by
            have : ∀ t : List Nat, (∀ x, x ∈ t → x < L i) → sT (uT σ) t = 0 := by
              intro t
              induction t with
              | nil => intro _; rfl
              | cons b t ih =>
                intro hx
                have hb := hx b (by simp)
                have e4 : σ 41 0 b = 0 := by
                  by_cases hex : ∃ i', i' < n ∧ b = L i'
                  · obtain ⟨i', hi', rfl⟩ := hex
                    rw [h2.1 i' hi']
                    rcases tb01 s i' with hb' | hb'
                    · rw [hb']; rfl
                    · have := l2 i' (by omega) hb'
                      by_cases hii : i' = i
                      · subst hii; omega
                      · have := hinc i i' (by omega) hi'
                        omega
                  · exact h2.2 b (by have := hL i (by omega); omega) (fun i' hi' hbe => hex ⟨i', hi', hbe⟩)
                have e5 : uT σ b = 0 := by rw [uT, if_pos e4]
                simp only [sT]
                rw [e5, ih (fun x hx' => hx x (by simp [hx']))]
            exact this t t2
          omega
        subst hz
        rw [h3 (by omega)]
        refine ⟨hv6, hv6, hvc, hvs, fun z => absurd z (by decide), fun _ => ⟨hvs, fin _ ⟨rfl, fun _ => rfl⟩⟩⟩
      · rw [(h4 (by omega)).1]
        refine ⟨hv6, hv6, hvc, hvs, fun _ => ⟨hvs, hvs, fin _ ⟨rfl, fun z => absurd z e⟩⟩, fun z => absurd ?_ z⟩
        rw [te, ti (by omega)]
        have e0 : (0 : Int32).toInt = 0 := rfl
        omega
theorem l_w103 {σ0 : zMem} (hg : gM σ0) {n s : Nat} {L : Nat → Nat} (hn : n ≤ 6) (hL : ∀ i, i < n → L i < 24) (hinc : ∀ i j, i < j → j < n → L i < L j) (hs : s < 64) (hs0 : 0 < s) (hsn : s < 2 ^ n) {Q : Int32 → zMem → Prop} {K : zMem → Int32 → Prop}
    (k : ∀ σ, WB σ0 σ n L → Ds σ (s + 1) → Us σ n L s n → K σ (nI (s + 1))) :
    ∀ m i σ, i + m = n → WB σ0 σ n L → Ds σ s → Us σ n L s i → vc_X11_workOut_103 (nI s) Q K (m + 1) σ (nI i)
  | 0, i, σ, hi, h0, h1, h2 => by
    obtain rfl : i = n := by omega
    refine kt (by rw [h0.2.1, te]; omega) ⟨in_nI hs (by decide), i + 1, ?_⟩
    rw [cl (by omega)]
    refine l_w152 hg hn hL hinc hs hs0 hsn k i 0 _ (by omega) (h0.um rfl (by decide) (by decide)) ⟨?_, fun s' a1 a2 => ?_⟩ ⟨fun i' hi' => ?_, fun v' a1 a2 => ?_⟩ (fun _ => um_s _ _ _ _ _) (fun z => absurd z (by omega))
    · rw [um_n _ _ (by omega)]
      exact h1.1
    · rw [um_n _ _ (by omega), um_q _ _ (by decide)]
      exact h1.2 s' a1 a2
    · rw [um_q _ _ (by decide)]
      exact h2.1 i' hi'
    · rw [um_q _ _ (by decide)]
      exact h2.2 v' a1 a2
  | m + 1, i, σ, hi, h0, h1, h2 => by
    have hv' : vp_in (nI i) 6 := in_nI (by omega) (by decide)
    have hvl : vp_in (nI (L i)) 24 := in_nI (hL i (by omega)) (by decide)
    have hLi := hL i (by omega)
    rw [vc_X11_workOut_103]
    refine kf (by rw [h0.2.1]; exact nI_ge (by omega) (by omega)) ⟨hv', ?_⟩
    rw [b_tb s hs i (by omega), s1, cl (k := i) (by omega), h0.2.2 i (by omega), cl (k := L i) (by omega)]
    have fin : ∀ v, v = nI (tb s i) → vc_X11_workOut_103 (nI s) Q K (m + 1) (um σ 41 0 (L i) v) (nI (i + 1)) := by
      intro v hv
      refine l_w103 hg hn hL hinc hs hs0 hsn k m (i + 1) _ (by omega) (h0.um rfl (by decide) (by decide)) ⟨by rw [um_q _ _ (by decide)]; exact h1.1, fun s' a1 a2 => by rw [um_q _ _ (by decide), um_q _ _ (by decide)]; exact h1.2 s' a1 a2⟩ ⟨fun i' hi' => ?_, fun v' a1 a2 => ?_⟩
      · by_cases e : i' = i
        · subst e; rw [um_s, hv]
        · have := hinc i' i (by omega) (by omega)
          rw [um_n _ _ (by omega)]
          exact h2.1 i' (by omega)
      · have := a2 i (by omega)
        rw [um_n _ _ (by omega)]
        exact h2.2 v' a1 a2
    rcases tb01 s i with ht | ht
    · rw [ht] at fin ⊢
      exact kf' (by decide) ⟨hvl, fin _ rfl⟩
    · rw [ht] at fin ⊢
      exact kt' rfl ⟨hvl, fin _ rfl⟩
theorem l_w91 {σ0 : zMem} (hg : gM σ0) {n : Nat} {L : Nat → Nat} (hn : n ≤ 6) (hL : ∀ i, i < n → L i < 24) (hinc : ∀ i j, i < j → j < n → L i < L j) {Q : Int32 → zMem → Prop}
    (k : ∀ σ, WB σ0 σ n L → Ds σ (2 ^ n) → Q 1 σ) :
    ∀ m s σ, s + m = 2 ^ n → 0 < s → WB σ0 σ n L → Ds σ s → (∀ v, v < 24 → (∀ i, i < n → ¬ v = L i) → σ 41 0 v = 0) → vc_X11_workOut_91 Q (m + 1) σ (nI s)
  | 0, s, σ, hs, hs0, h0, h1, h2 => by
    obtain rfl : s = 2 ^ n := by omega
    refine kt ?_ (k σ h0 h1)
    rw [h0.2.1, (b_pow n (by omega)).1, te]
    omega
  | m + 1, s, σ, hs, hs0, h0, h1, h2 => by
    have hp : 2 ^ n ≤ 64 := by
      have := Nat.pow_le_pow_right (n := 2) (by omega) hn
      omega
    rw [vc_X11_workOut_91]
    refine kf ?_ ⟨n + 1, l_w103 hg hn hL hinc (by omega) hs0 (by omega) (fun σ' a1 a2 a3 => l_w91 hg hn hL hinc k m (s + 1) σ' (by omega) (by omega) a1 a2 a3.2) n 0 σ (by omega) h0 h1 ⟨fun i hi => absurd hi (by omega), h2⟩⟩
    rw [h0.2.1, (b_pow n (by omega)).1]
    exact nI_ge (by omega) (by omega)
theorem l_w70 {σ0 : zMem} (hg : gM σ0) {n : Nat} {L : Nat → Nat} (hn : n ≤ 6) (hL : ∀ i, i < n → L i < 24) (hinc : ∀ i j, i < j → j < n → L i < L j) {Q : Int32 → zMem → Prop}
    (k : ∀ σ, WB σ0 σ n L → Ds σ (2 ^ n) → Q 1 σ) :
    ∀ m p σ, p + m = 24 → WB σ0 σ n L → σ 43 0 0 = 0 → (∀ v, v < p → σ 41 0 v = 0) → vc_X11_workOut_70 Q (m + 1) σ (nI p)
  | 0, p, σ, hp, h0, h1, h2 => by
    obtain rfl : p = 24 := by omega
    have hpos : 0 < 2 ^ n := Nat.pow_pos (by omega)
    exact kt (by decide) ⟨_, l_w91 hg hn hL hinc k (2 ^ n - 1) 1 σ (by omega) (by omega) h0 ⟨h1, fun s' a1 a2 => absurd a2 (by omega)⟩ (fun v hv _ => h2 v hv)⟩
  | m + 1, p, σ, hp, h0, h1, h2 => by
    rw [vc_X11_workOut_70]
    refine kf (g24 (by omega)) ⟨in_nI (by omega) (by decide), ?_⟩
    rw [cl (by omega), s1]
    refine l_w70 hg hn hL hinc k m (p + 1) _ (by omega) (h0.um rfl (by decide) (by decide)) (by rw [um_q _ _ (by decide)]; exact h1) (fun v hv => ?_)
    by_cases e : v = p
    · subst e; rw [um_s]; rfl
    · rw [um_n _ _ (by omega)]
      exact h2 v (by omega)
theorem l_w7 {σ0 : zMem} (hg : gM σ0) {Q : Int32 → zMem → Prop} (k0' : 6 < (sl σ0 24).length → ∀ σ, Same σ0 σ → Q 0 σ)
    (k : (sl σ0 24).length ≤ 6 → ∀ σ, WB σ0 σ (sl σ0 24).length (gd (sl σ0 24)) → Ds σ (2 ^ (sl σ0 24).length) → Q 1 σ) :
    ∀ m p σ, p + m = 24 → (sl σ0 p).length ≤ 6 → WB σ0 σ (sl σ0 p).length (gd (sl σ0 p)) → vc_X11_workOut_7 Q (m + 1) σ (nI p)
  | 0, p, σ, hp, hl, h0 => by
    obtain rfl : p = 24 := by omega
    refine kt (by decide) ⟨in_nI (k := 0) (by decide) (by decide), 25, ?_⟩
    exact l_w70 hg hl (fun i hi => sl_lt 24 i hi) (fun i j h1 h2 => sl_inc 24 i j h1 h2) (k hl) 24 0 _ rfl (h0.um rfl (by decide) (by decide)) (um_s _ _ _ _ _) (fun v hv => absurd hv (by omega))
  | m + 1, p, σ, hp, hl, h0 => by
    rw [vc_X11_workOut_7]
    refine kf (g24 (by omega)) (mm_stands (by omega) ?_)
    rw [sv_same h0.1, s1, h0.2.1, cl (by omega), um_q _ _ (by decide), h0.2.1, s1]
    refine ⟨fun c => ⟨fun c2 => ?_, fun c2 => ?_⟩, fun c => ?_⟩
    · have c3 : ¬ (sl σ0 p).length = 6 := fun z => c2 (by rw [z]; rfl)
      refine ⟨in_nI (by omega) (by decide), ?_⟩
      have e : sl σ0 (p + 1) = sl σ0 p ++ [p] := by rw [sl, if_neg c]
      have el : (sl σ0 (p + 1)).length = (sl σ0 p).length + 1 := by rw [e]; simp
      refine l_w7 hg k0' k m (p + 1) _ (by omega) (by omega) ⟨(h0.1.um rfl).um rfl, ?_, fun i hi => ?_⟩
      · rw [um_s, el]
      · rw [um_q _ _ (by decide)]
        by_cases hi2 : i = (sl σ0 p).length
        · subst hi2
          rw [um_s, e, gd_r]
        · rw [um_n _ _ (by omega), e, gd_l (by omega)]
          exact h0.2.2 i (by omega)
    · have c3 : (sl σ0 p).length = 6 := (nI_eq (b := 6) (by omega) (by decide)).mp c2
      refine k0' ?_ σ h0.1
      have e := (sl_mono (σ := σ0) m (p + 1)).1
      rw [show p + 1 + m = 24 by omega, sl, if_neg c] at e
      simp only [List.length_append, List.length_cons, List.length_nil] at e
      omega
    · have e : sl σ0 (p + 1) = sl σ0 p := by rw [sl, if_pos c]
      exact l_w7 hg k0' k m (p + 1) σ (by omega) (by rw [e]; exact hl) (by rw [e]; exact h0)
theorem m_workOut {σ : zMem} (hg : gM σ) {Q : Int32 → zMem → Prop} (k0' : 6 < (sl σ 24).length → ∀ σ', Same σ σ' → Q 0 σ')
    (k : (sl σ 24).length ≤ 6 → ∀ σ', WB σ σ' (sl σ 24).length (gd (sl σ 24)) → Ds σ' (2 ^ (sl σ 24).length) → Q 1 σ') : vc_X11_workOut σ Q :=
  ⟨25, l_w7 hg k0' k 24 0 _ rfl (by simp [sl]) ⟨Same.rf.um rfl, um_s _ _ _ _ _, fun i hi => by simp [sl] at hi⟩⟩
theorem st_best {σ : zMem} (hI : Inv σ) : vc_X10_best σ (fun r σ1 => vc_X11_best σ1 (fun r2 σ2 => r = r2 ∧ Inv σ2)) := by
  have hl := sl_len (σ := σ) 24
  refine p_standing hI.1 ?_
  rw [sl_sm 24 (Nat.le_refl _)]
  refine ⟨fun c => ?_, fun c => ?_⟩
  · have c1 : (sl σ 24).length ≤ 6 := (nle (b := 6) (by omega) (by decide)).mp c
    refine m_workOut (gM_of hI.1) (fun z => absurd z (by omega)) (fun _ σ' a1 a2 => k1 ?_)
    rw [a1.2.1, (b_pow _ (by omega)).1, (b_pow _ (by omega)).2]
    have hp : 2 ^ (sl σ 24).length ≤ 64 := by
      have := Nat.pow_le_pow_right (n := 2) (by omega) c1
      omega
    have hpos : 0 < 2 ^ (sl σ 24).length := Nat.pow_pos (by omega)
    refine ⟨in_nI (by omega) (by decide), ?_, Inv_same a1.1 hI⟩
    rw [cl (by omega)]
    by_cases hz : 2 ^ (sl σ 24).length - 1 = 0
    · rw [hz]; exact a2.1.symm
    · exact ((a2.2 _ (by omega) (by omega)).1).symm
  · have c1 : ¬ (sl σ 24).length ≤ 6 := fun z => c ((nle (b := 6) (by omega) (by decide)).mpr z)
    exact m_workOut (gM_of hI.1) (fun _ σ' a1 => k0 ⟨rfl, Inv_same a1 hI⟩) (fun z => absurd z c1)
theorem l_o49 {σ : zMem} {n j : Nat} (hn : n ≤ 6) (hj : j < n) (hD : Ds σ (2 ^ n)) {x1 x4 : Int32} {Q : Int32 → zMem → Prop} {K : zMem → Int32 → Int32 → Int32 → Prop}
    (k : K σ (nI (2 ^ n - 2 ^ (j + 1))) (nI j) (x4 + 1)) : ∀ m i, i + m = j → vc_X11_order_49 x1 (nI (2 ^ n - 2 ^ j)) x4 Q K (m + 1) σ (nI i)
  | 0, i, hi => by
    obtain rfl : i = j := by omega
    obtain ⟨b1, b2, b3, b4⟩ := b_top n (by omega) i (by omega) hj
    obtain ⟨c1, c2, c3⟩ := b_clr _ b4 i (by omega)
    have l1 := (b_lw _ b4 b3).1
    rw [b1] at l1
    have hpi : 0 < 2 ^ i := Nat.pow_pos (by omega)
    have hd := hD.2 _ b3 (by omega)
    rw [vc_X11_order_49, b_tb _ b4 i (by omega), l1, c1, b_six _ b4 i (by omega), b2, cl (by omega), cl (by omega), cl (by omega), hd.1]
    refine kf (by decide) ⟨in_nI (by omega) (by decide), in_nI (by omega) (by decide), in_nI b4 (by decide), kt ?_ k⟩
    rw [b1] at hd
    rw [hd.2]
    by_cases hz : 2 ^ n - 2 ^ (i + 1) = 0
    · rw [hz, hD.1]; rfl
    · have hpi2 : 0 < 2 ^ (i + 1) := Nat.pow_pos (by omega)
      rw [(hD.2 _ (by omega) (by omega)).1]
      rfl
  | m + 1, i, hi => by
    obtain ⟨b1, b2, b3, b4⟩ := b_top n (by omega) j (by omega) hj
    have l2 := (b_lw _ b4 b3).2.1 i (by omega)
    rw [vc_X11_order_49, b_tb _ b4 i (by omega), s1]
    rcases tb01 (2 ^ n - 2 ^ j) i with ht | ht
    · rw [ht]
      exact kt rfl (l_o49 hn hj hD k m (i + 1) (by omega))
    · have := l2 ht
      omega
theorem l_o41 {σ : zMem} {n a : Nat} {L : Nat → Nat} (hn : n ≤ 6) (ha : a < n) (hD : Ds σ (2 ^ n)) (hL : ∀ i, i < n → σ 42 0 i = nI (L i)) {Q : Int32 → zMem → Prop}
    (k : Q (nI (L a)) σ) : ∀ m j, j + m = a + 1 → vc_X11_order_41 (nI a) Q (m + 1) σ (nI (2 ^ n - 2 ^ j)) (nI (j - 1)) (nI j)
  | 0, j, hj => by
    obtain rfl : j = a + 1 := by omega
    refine kt ((nlt (by omega) (by omega)).mpr (by omega)) ⟨in_nI (by omega) (by decide), ?_⟩
    rw [cl (by omega), show a + 1 - 1 = a by omega, hL a ha]
    exact k
  | m + 1, j, hj => by
    rw [vc_X11_order_41]
    refine kf (fun z => absurd ((nlt (by omega) (by omega)).mp z) (by omega)) ⟨j + 1, l_o49 hn (by omega) hD ?_ j 0 (by omega)⟩
    rw [s1]
    exact l_o41 hn ha hD hL k m (j + 1) (by omega)
theorem st_order {σ : zMem} (hI : Inv σ) (a : Int32) : vc_X10_order σ a (fun r σ1 => vc_X11_order σ1 a (fun r2 σ2 => r = r2 ∧ Inv σ2)) := by
  have hl := sl_len (σ := σ) 24
  have e0 : (0 : Int32).toInt = 0 := rfl
  refine ⟨fun c0 => p_standing hI.1 ?_, fun c0 => kf c0 ⟨rfl, hI⟩⟩
  rw [sl_sm 24 (Nat.le_refl _)]
  refine ⟨fun c => ?_, fun c => ?_⟩
  · have c1 : (sl σ 24).length ≤ 6 := (nle (b := 6) (by omega) (by decide)).mp c
    refine ⟨fun c2 => ?_, fun c2 => ?_⟩
    · refine kt c0 (m_workOut (gM_of hI.1) (fun z => absurd z (by omega)) (fun _ σ' a1 a2 => k1' (kf ?_ ⟨rfl, Inv_same a1.1 hI⟩)))
      rw [a1.2.1, tl]
      rw [te] at c2
      omega
    · rw [te, ti (by omega)] at c2
      rw [te] at c0
      obtain ⟨i, hi, rfl⟩ := in_of (x := a) (n := (sl σ 24).length) (vp_in_iff.mpr (by omega)) (by omega)
      refine ⟨25, l_stAt hI.1 hi ?_ 24 0 rfl (by simp [sl])⟩
      refine kt (by rw [te]; exact c0) (m_workOut (gM_of hI.1) (fun z => absurd z (by omega)) (fun _ σ' a1 a2 => k1' (kt ?_ ⟨i + 1 + 1, ?_⟩)))
      · rw [a1.2.1]
        exact (nlt (by omega) (by omega)).mpr hi
      · rw [a1.2.1, (b_pow _ (by omega)).1, (b_pow _ (by omega)).2]
        exact l_o41 c1 hi a2 a1.2.2 ⟨rfl, Inv_same a1.1 hI⟩ (i + 1) 0 (by omega)
  · have c1 : ¬ (sl σ 24).length ≤ 6 := fun z => c ((nle (b := 6) (by omega) (by decide)).mpr z)
    exact kt c0 (m_workOut (gM_of hI.1) (fun _ σ' a1 => k0' ⟨rfl, Inv_same a1 hI⟩) (fun z => absurd z c1))
