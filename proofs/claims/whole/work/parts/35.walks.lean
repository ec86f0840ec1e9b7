/-! ways over the meadow: walks and their tolls -/
def sT (T : Nat → Nat) : List Nat → Nat
  | [] => 0
  | b :: t => T b + sT T t
def wk (z : Nat) : Nat → List Nat → Prop
  | a, [] => a = z
  | a, b :: t => dst a b = 1 ∧ b < 24 ∧ wk z b t
theorem wk_lt {z : Nat} : ∀ {t a}, wk z a t → ∀ x, x ∈ t → x < 24
  | [], a, _, x, hx => by cases hx
  | b :: t, a, h, x, hx => by
    rcases List.mem_cons.mp hx with rfl | hx
    · exact h.2.1
    · exact wk_lt h.2.2 x hx
theorem wk_suf {z : Nat} : ∀ {s a b t}, wk z a (s ++ b :: t) → wk z b t
  | [], a, b, t, h => h.2.2
  | c :: s, a, b, t, h => wk_suf (s := s) h.2.2
theorem sT_suf {T : Nat → Nat} : ∀ {s b t}, sT T t ≤ sT T (s ++ b :: t)
  | [], b, t => by simp [sT]
  | c :: s, b, t => by
    have := sT_suf (T := T) (s := s) (b := b) (t := t)
    simp only [List.cons_append, sT]
    omega
theorem sT_app {T : Nat → Nat} : ∀ {s t}, sT T (s ++ t) = sT T s + sT T t
  | [], t => by simp [sT]
  | c :: s, t => by
    have := sT_app (T := T) (s := s) (t := t)
    simp only [List.cons_append, sT]
    omega
theorem wk_app {z q : Nat} (hd : dst z q = 1) (hq : q < 24) : ∀ {t a}, wk z a t → wk q a (t ++ [q])
  | [], a, h => by
    have h' : a = z := h
    subst h'
    exact ⟨hd, hq, rfl⟩
  | b :: t, a, h => ⟨h.1, h.2.1, wk_app hd hq h.2.2⟩
theorem prune {z : Nat} {T : Nat → Nat} : ∀ t a, wk z a t → ∃ t', wk z a t' ∧ (a :: t').Nodup ∧ sT T t' ≤ sT T t
  | [], a, h => ⟨[], h, by simp, by simp [sT]⟩
  | b :: t, a, h => by
    obtain ⟨t1, h1, h2, h3⟩ := prune (T := T) t b h.2.2
    by_cases hm : a ∈ b :: t1
    · obtain ⟨s, u, e⟩ := List.append_of_mem hm
      have hw : wk z a (b :: t1) := ⟨h.1, h.2.1, h1⟩
      have hsuf : (a :: u).Nodup := by
        rw [e] at h2
        exact (List.nodup_append.mp h2).2.1
      refine ⟨u, wk_suf (s := s) (by rw [← e]; exact hw), hsuf, ?_⟩
      have e2 := sT_suf (T := T) (s := s) (b := a) (t := u)
      rw [← e] at e2
      simp only [sT] at e2 ⊢
      omega
    · refine ⟨b :: t1, ⟨h.1, h.2.1, h1⟩, List.nodup_cons.mpr ⟨hm, h2⟩, ?_⟩
      simp only [sT]
      omega
theorem nodup_len : ∀ n (l : List Nat), l.Nodup → (∀ x, x ∈ l → x < n) → l.length ≤ n
  | 0, l, _, h => by
    cases l with
    | nil => simp
    | cons a l => exact absurd (h a (by simp)) (by omega)
  | n + 1, l, hn, h => by
    by_cases hm : n ∈ l
    · have h1 := nodup_len n (l.erase n) (hn.erase n) (fun x hx => by
        have h2 := (List.Nodup.mem_erase_iff hn).mp hx
        have := h x h2.2
        have := h2.1
        omega)
      rw [List.length_erase_of_mem hm] at h1
      omega
    · have h1 := nodup_len n l hn (fun x hx => by
        have := h x hx
        have : x ≠ n := fun e => hm (e ▸ hx)
        omega)
      omega
theorem short {z : Nat} {T : Nat → Nat} {a : Nat} (ha : a < 24) {t : List Nat} (h : wk z a t) : ∃ t', wk z a t' ∧ t'.length ≤ 23 ∧ sT T t' ≤ sT T t := by
  obtain ⟨t1, h1, h2, h3⟩ := prune (T := T) t a h
  refine ⟨t1, h1, ?_, h3⟩
  have := nodup_len 24 (a :: t1) h2 (fun x hx => by
    rcases List.mem_cons.mp hx with rfl | hx
    · exact ha
    · exact wk_lt h1 x hx)
  simp only [List.length_cons] at this
  omega
theorem sT_le {T : Nat → Nat} (hT : ∀ v, v < 24 → T v ≤ 20) : ∀ {t : List Nat}, (∀ x, x ∈ t → x < 24) → sT T t ≤ 20 * t.length
  | [], _ => by simp [sT]
  | b :: t, h => by
    have h1 := hT b (h b (by simp))
    have h2 := sT_le hT (t := t) (fun x hx => h x (by simp [hx]))
    simp only [sT, List.length_cons]
    omega
theorem west : ∀ p, p < 24 → 0 < p → (0 < p % 6 → dst p (p - 1) = 1) ∧ (¬ 0 < p % 6 → dst p (p - 6) = 1) := by decide +kernel
/-- west in the row, then north along the edge: all plots have lesser numbers -/
theorem reach : ∀ n p, p < n → p < 24 → ∃ t, wk 0 p t ∧ ∀ x, x ∈ t → x < p
  | 0, p, h, _ => absurd h (by omega)
  | n + 1, p, h, hp => by
    by_cases h0 : 0 < p
    · by_cases h6 : 0 < p % 6
      · obtain ⟨t, h1, h2⟩ := reach n (p - 1) (by omega) (by omega)
        refine ⟨(p - 1) :: t, ⟨(west p hp h0).1 h6, by omega, h1⟩, fun x hx => ?_⟩
        rcases List.mem_cons.mp hx with rfl | hx
        · omega
        · have := h2 x hx
          omega
      · obtain ⟨t, h1, h2⟩ := reach n (p - 6) (by omega) (by omega)
        refine ⟨(p - 6) :: t, ⟨(west p hp h0).2 h6, by omega, h1⟩, fun x hx => ?_⟩
        rcases List.mem_cons.mp hx with rfl | hx
        · omega
        · have := h2 x hx
          omega
    · exact ⟨[], (by omega : p = 0), fun x hx => by cases hx⟩
/-- the least that a way from p to the gate tramples -/
def wm (T : Nat → Nat) (p c : Nat) : Prop := (∃ t, wk 0 p t ∧ c = sT T t) ∧ ∀ t, wk 0 p t → c ≤ sT T t
theorem wm_u {T : Nat → Nat} {p c c' : Nat} (h : wm T p c) (h' : wm T p c') : c = c' := by
  obtain ⟨t, h1, h2⟩ := h.1
  obtain ⟨t', h3, h4⟩ := h'.1
  have := h.2 t' h3
  have := h'.2 t h1
  omega
theorem far_lt {T : Nat → Nat} (hT : ∀ v, v < 24 → T v ≤ 20) {p : Nat} (hp : p < 24) : ∃ t, wk 0 p t ∧ sT T t ≤ 460 := by
  obtain ⟨t, h1, -⟩ := reach 24 p hp hp
  obtain ⟨t', h2, h3, -⟩ := short (T := T) hp h1
  have := sT_le hT (wk_lt h2)
  exact ⟨t', h2, by omega⟩
theorem wm_congr {T T' : Nat → Nat} {p c : Nat} (h : ∀ v, v < 24 → T v = T' v) (hw : wm T p c) : wm T' p c := by
  have e : ∀ t, (∀ x, x ∈ t → x < 24) → sT T t = sT T' t := by
    intro t
    induction t with
    | nil => intro _; rfl
    | cons b t ih =>
      intro hx
      simp only [sT]
      rw [h b (hx b (by simp)), ih (fun x hx' => hx x (by simp [hx']))]
  obtain ⟨⟨t, h1, h2⟩, h3⟩ := hw
  exact ⟨⟨t, h1, by rw [← e t (wk_lt h1)]; exact h2⟩, fun t ht => by rw [← e t (wk_lt ht)]; exact h3 t ht⟩
theorem nadd {a b : Nat} (h : a + b < 2147483648) : nI a + nI b = nI (a + b) := by
  rw [tq, fb_addI, ti h, ti (by omega), ti (by omega)]
  · omega
  · rw [ti (by omega), ti (by omega)]; omega
  · rw [ti (by omega), ti (by omega)]; omega
theorem nsub {a b : Nat} (h : a < 2147483648) (hb : b ≤ a) : nI a - nI b = nI (a - b) := by
  have e := nadd (a := a - b) (b := b) (by omega)
  rw [show a - b + b = a by omega] at e
  rw [← e, Int32.add_sub_cancel]
theorem nle {a b : Nat} (ha : a < 2147483648) (hb : b < 2147483648) : nI a ≤ nI b ↔ a ≤ b := by
  rw [te, ti ha, ti hb]
  omega
theorem nlt {a b : Nat} (ha : a < 2147483648) (hb : b < 2147483648) : nI a < nI b ↔ a < b := by
  rw [tl, ti ha, ti hb]
  omega
set_option maxRecDepth 100000 in
theorem ndiv10 : ∀ g, g < 201 → nI g / 10 = nI (g / 10) := by decide +kernel
theorem nFar : (1000000 : Int32) = nI 1000000 := rfl
def Out (q0 : Nat) (σ σ' : zMem) : Prop := ∀ q i j, q ≠ q0 → σ' q i j = σ q i j
theorem Out.rf {q0 : Nat} {σ : zMem} : Out q0 σ σ := fun _ _ _ _ => rfl
theorem Out.tr {q0 : Nat} {σ σ' σ'' : zMem} (h : Out q0 σ σ') (h' : Out q0 σ' σ'') : Out q0 σ σ'' := fun q i j z => (h' q i j z).trans (h q i j z)
theorem Out.um {q0 : Nat} {σ σ' : zMem} (h : Out q0 σ σ') {i j : Nat} {v : Int32} : Out q0 σ (um σ' q0 i j v) := fun q' i' j' z => by
  rw [um_q σ' v z]
  exact h q' i' j' z
theorem Out.same {q0 : Nat} {σ σ' : zMem} (h : Out q0 σ σ') (hq : ∀ j, ps q0 j = false) : Same σ σ' := fun q i j z => h q i j (fun e => by rw [e, hq j] at z; cases z)
