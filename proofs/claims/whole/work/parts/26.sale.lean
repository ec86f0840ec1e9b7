/-! a sale: what each would give, the candle, by lots -/
def rs (σ : zMem) (b : Nat) : Int32 := σ 6 b 1 - σ 6 b 3
def cap (σ : zMem) (b p : Nat) : Int32 := if rs σ b < wv σ b p then rs σ b else wv σ b p
theorem nb_le {σ : zMem} {nb b : Nat} (hn : nb ≤ 10) (hb8 : σ 0 0 8 = nI nb) (hb : b < nb) : ¬ σ 0 0 8 ≤ nI b := by
  rw [hb8]
  exact nI_ge hb (by omega)
theorem l_prep {σ : zMem} (hI : Inv σ) {nb p st : Nat} (hn : nb ≤ 10) (hb8 : σ 0 0 8 = nI nb) (hp : p < 24) {Q : zMem → Prop} (k : ∀ σ', Same σ σ' → σ' 12 0 2 = nI nb → σ' 12 0 3 = nI st → (∀ b, b < nb → σ' 13 0 b = cap σ b p ∧ σ' 14 0 b = σ 6 b 5) → Q σ') :
    ∀ m b σ', b + m = nb → Same σ σ' → σ' 12 0 2 = nI nb → σ' 12 0 3 = nI st → (∀ b', b' < b → σ' 13 0 b' = cap σ b' p ∧ σ' 14 0 b' = σ 6 b' 5) → vc_X10_prepareSale_24 (nI p) Q (m + 1) σ' (nI b)
  | 0, b, σ', hb, h1, h2, h3, h4 => by
    obtain rfl : b = nb := by omega
    have e8 : σ' 0 0 8 = nI b := (h1 0 0 8 rfl).trans hb8
    exact kt (by rw [e8, te]; omega) (k σ' h1 h2 h3 h4)
  | m + 1, b, σ', hb, h1, h2, h3, h4 => by
    have hI' := Inv_same h1 hI
    have e8 : σ' 0 0 8 = nI nb := (h1 0 0 8 rfl).trans hb8
    have hv' : vp_in (nI b) 10 := in_nI (by omega) (by decide)
    rw [vc_X10_prepareSale_24]
    refine kf (nb_le hn e8 (by omega)) (p_worthTo hI' hn e8 (by omega) hp ⟨hv', hv', hv', hv', hv', ?_⟩)
    rw [cl (by omega), s1, wv_same h1, um_q σ' _ (by decide), h1 6 b 1 rfl, h1 6 b 3 rfl, h1 6 b 5 rfl]
    obtain ⟨nb', hn', hb8', hb9, hB⟩ := hI.2.1
    have e : nb' = nb := (nI_eq (by omega) (by omega)).mp (hb8'.symm.trans hb8)
    obtain ⟨-, -, -, -, q5, -, -⟩ := (hB b (by omega)).1 (by omega)
    rw [nbool q5.1]
    refine l_prep hI hn hb8 hp k m (b + 1) _ (by omega) ((h1.um rfl).um rfl) (by simpa [um] using h2) (by simpa [um] using h3) (fun b' hb' => ?_)
    by_cases hbb : b' = b
    · subst hbb
      exact ⟨by simp [um]; rfl, by simp [um]⟩
    · simpa [um, hbb] using h4 b' (by omega)
theorem p_prepare {σ : zMem} (hI : Inv σ) {nb p st : Nat} (hn : nb ≤ 10) (hb8 : σ 0 0 8 = nI nb) (hst : σ 0 0 9 = nI st) (hp : p < 24) {Q : zMem → Prop} (k : ∀ σ', Same σ σ' → σ' 12 0 2 = nI nb → σ' 12 0 3 = nI st → (∀ b, b < nb → σ' 13 0 b = cap σ b p ∧ σ' 14 0 b = σ 6 b 5) → Q σ') : vc_X10_prepareSale σ (nI p) Q := by
  refine ⟨nb + 1, ?_⟩
  exact l_prep hI hn hb8 hp k nb 0 _ (by omega) ((Same.rf.um rfl).um rfl) (by simpa [um] using hb8) (by simpa [um] using hst) (fun b' h => absurd h (by omega))
theorem l_value {σ : zMem} (hI : Inv σ) {nb p : Nat} (hn : nb ≤ 10) (hb8 : σ 0 0 8 = nI nb) (hp : p < 24) {Q : zMem → Prop} (k : ∀ σ', Same σ σ' → (∀ b, b < nb → σ' 37 0 b = wv σ b p ∧ σ' 38 0 b = rs σ b) → Q σ') :
    ∀ m b σ', b + m = nb → Same σ σ' → (∀ b', b' < b → σ' 37 0 b' = wv σ b' p ∧ σ' 38 0 b' = rs σ b') → vc_X11_value_2 (nI p) Q (m + 1) σ' (nI b)
  | 0, b, σ', hb, h1, h4 => by
    obtain rfl : b = nb := by omega
    obtain ⟨nb', hn', hb8', hb9, hB⟩ := hI.2.1
    have e : nb' = b := (nI_eq (by omega) (by omega)).mp (hb8'.symm.trans hb8)
    have e8 : σ' 22 0 9 = nI b := (h1 22 0 9 rfl).trans (by rw [hb9, e])
    exact kt (by rw [e8, te]; omega) (k σ' h1 h4)
  | m + 1, b, σ', hb, h1, h4 => by
    have hI' := Inv_same h1 hI
    have e8 : σ' 0 0 8 = nI nb := (h1 0 0 8 rfl).trans hb8
    obtain ⟨nb', hn', hb8', hb9, hB⟩ := hI.2.1
    have e : nb' = nb := (nI_eq (by omega) (by omega)).mp (hb8'.symm.trans hb8)
    have e9 : σ' 22 0 9 = nI nb := (h1 22 0 9 rfl).trans (by rw [hb9, e])
    have hv' : vp_in (nI b) 10 := in_nI (by omega) (by decide)
    obtain ⟨q1, q2, -, -, q5, -, q7⟩ := (hB b (by omega)).1 (by omega)
    rw [vc_X11_value_2]
    refine kf (by rw [e9]; exact nI_ge (by omega) (by omega)) (m_worthOf hI' hn e8 (by omega) hp ⟨hv', hv', m_debt ⟨hv', ?_⟩⟩)
    have h5 : Same σ (um σ' 37 0 b (wv σ' b p)) := h1.um rfl
    rw [cl (by omega), s1, debt_same h5, wv_same h1, um_q σ' _ (by decide), h1 32 0 b rfl]
    refine l_value hI hn hb8 hp k m (b + 1) _ (by omega) ((h1.um rfl).um rfl) (fun b' hb' => ?_)
    by_cases hbb : b' = b
    · subst hbb
      exact ⟨by simp [um], by simp [um, rs, q2, q7]⟩
    · simpa [um, hbb] using h4 b' (by omega)
theorem m_value {σ : zMem} (hI : Inv σ) {nb p : Nat} (hn : nb ≤ 10) (hb8 : σ 0 0 8 = nI nb) (hp : p < 24) {Q : zMem → Prop} (k : ∀ σ', Same σ σ' → (∀ b, b < nb → σ' 37 0 b = wv σ b p ∧ σ' 38 0 b = rs σ b) → Q σ') : vc_X11_value σ (nI p) Q :=
  ⟨nb + 1, l_value hI hn hb8 hp k nb 0 σ (by omega) Same.rf (fun b' h => absurd h (by omega))⟩
/-- the candle -/
def bu (C Wt : Nat → Int32) (nb st : Nat) (B : Int32) (f : Nat) : Nat → Option Nat × Int32
  | 0 => (none, 0)
  | k + 1 => if (bu C Wt nb st B f k).1 = some ((f + k) % nb) ∨ C ((f + k) % nb) < (bu C Wt nb st B f k).2 + nI st ∨ (¬ Wt ((f + k) % nb) = 0 ∧ 3 * nI nb < B - nI k) then bu C Wt nb st B f k else (some ((f + k) % nb), (bu C Wt nb st B f k).2 + nI st)
theorem bu_lt {C Wt : Nat → Int32} {nb st : Nat} {B : Int32} {f : Nat} (h0 : 0 < nb) : ∀ k t, (bu C Wt nb st B f k).1 = some t → t < nb
  | 0, t, h => by simp [bu] at h
  | k + 1, t, h => by
    rw [bu] at h
    split at h
    · exact bu_lt h0 k t h
    · cases h
      exact Nat.mod_lt _ h0
def oC (r : Option Nat) : Int32 := match r with
  | none => -2
  | some t => nI t
def oM (r : Option Nat) : Int32 := match r with
  | none => -4
  | some t => nI t
theorem neg4_nI {b : Nat} (h : b < 2147483648) : ¬ (-4 : Int32) = nI b := by
  rw [tq, ti h]
  have e2 : (-4 : Int32).toInt = -4 := rfl
  omega
theorem oC_eq {r : Option Nat} {t : Nat} (ht : t < 100) (hr : ∀ x, r = some x → x < 100) : nI t = oC r ↔ r = some t := by
  cases r with
  | none => exact ⟨fun h => absurd h.symm (neg_nI (by omega)), fun h => by cases h⟩
  | some x =>
    have hx := hr x rfl
    show nI t = nI x ↔ _
    rw [nI_eq (by omega) (by omega)]
    exact ⟨fun h => by rw [h], fun h => (Option.some.inj h).symm⟩
theorem oM_eq {r : Option Nat} {t : Nat} (ht : t < 100) (hr : ∀ x, r = some x → x < 100) : nI t = oM r ↔ r = some t := by
  cases r with
  | none => exact ⟨fun h => absurd h.symm (neg4_nI (by omega)), fun h => by cases h⟩
  | some x =>
    have hx := hr x rfl
    show nI t = nI x ↔ _
    rw [nI_eq (by omega) (by omega)]
    exact ⟨fun h => by rw [h], fun h => (Option.some.inj h).symm⟩
theorem oC_none {r : Option Nat} (hr : ∀ x, r = some x → x < 100) : oC r = -2 ↔ r = none := by
  cases r with
  | none => exact ⟨fun _ => rfl, fun _ => rfl⟩
  | some x =>
    have hx := hr x rfl
    exact ⟨fun h => absurd h.symm (neg_nI (b := x) (by omega)), fun h => by cases h⟩
theorem oM_none {r : Option Nat} (hr : ∀ x, r = some x → x < 100) : oM r = -4 ↔ r = none := by
  cases r with
  | none => exact ⟨fun _ => rfl, fun _ => rfl⟩
  | some x =>
    have hx := hr x rfl
    exact ⟨fun h => absurd h.symm (neg4_nI (b := x) (by omega)), fun h => by cases h⟩
theorem b_turn {P : Int32 → Prop} {x nb f k : Nat} {y : Int32} (hy : y = nI nb) (hn : nb ≤ 10) (h0 : 0 < nb) (hx : x = (f + k) % nb) (hk : P (nI ((f + (k + 1)) % nb))) : ((y ≤ nI x + 1) → P 0) ∧ (¬ (y ≤ nI x + 1) → P (nI x + 1)) := by
  have hlt : x < nb := by rw [hx]; exact Nat.mod_lt _ h0
  have e : (f + (k + 1)) % nb = (x + 1) % nb := by rw [hx, Nat.mod_add_mod, Nat.add_assoc]
  rw [hy, s1]
  refine ⟨fun c => ?_, fun c => ?_⟩
  · rw [nI_leI (by omega) (by omega)] at c
    rw [e, show x + 1 = nb by omega, Nat.mod_self] at hk
    exact hk
  · rw [nI_leI (by omega) (by omega)] at c
    rw [e, Nat.mod_eq_of_lt (by omega)] at hk
    exact hk
def Bs (σ0 : zMem) (C Wt : Nat → Int32) (nb st : Nat) (r : Option Nat × Int32) (σ' : zMem) : Prop := Same σ0 σ' ∧ σ' 12 0 2 = nI nb ∧ σ' 12 0 3 = nI st ∧ (∀ b, b < nb → σ' 13 0 b = C b ∧ σ' 14 0 b = Wt b) ∧ σ' 12 0 4 = oC r.1 ∧ σ' 12 0 5 = r.2
theorem l_burn {σ0 : zMem} {C Wt : Nat → Int32} {nb st B f : Nat} (hn : nb ≤ 10) (h0 : 0 < nb) (hB : B ≤ 60) {Q : zMem → Prop} (k9 : ∀ σ', Bs σ0 C Wt nb st (bu C Wt nb st (nI B) f B) σ' → Q σ') :
    ∀ m k σ', k + m = B → Bs σ0 C Wt nb st (bu C Wt nb st (nI B) f k) σ' → vc_X6_burn_16 (nI B) Q (m + 1) σ' (nI ((f + k) % nb)) (nI k)
  | 0, k, σ', hk, hs => by
    obtain rfl : k = B := by omega
    exact kt (by rw [te]; omega) (k9 σ' hs)
  | m + 1, k, σ', hk, hs => by
    have hlt : (f + k) % nb < nb := Nat.mod_lt _ h0
    obtain ⟨t, ht⟩ : ∃ t, t = (f + k) % nb := ⟨_, rfl⟩
    rw [← ht] at hlt
    have hv' : vp_in (nI t) 10 := in_nI (by omega) (by decide)
    obtain ⟨q1, q2, q3, q4, q5, q6⟩ := id hs
    obtain ⟨q41, q42⟩ := q4 t hlt
    have hbt : ∀ x, (bu C Wt nb st (nI B) f k).1 = some x → x < 100 := fun x hx => by have := bu_lt h0 k x hx; omega
    have stay : bu C Wt nb st (nI B) f (k + 1) = bu C Wt nb st (nI B) f k → ((σ' 12 0 2 ≤ nI t + 1) → vc_X6_burn_16 (nI B) Q (m + 1) σ' 0 (nI (k + 1))) ∧ (¬ (σ' 12 0 2 ≤ nI t + 1) → vc_X6_burn_16 (nI B) Q (m + 1) σ' (nI t + 1) (nI (k + 1))) := by
      intro e
      exact b_turn (P := fun y => vc_X6_burn_16 (nI B) Q (m + 1) σ' y (nI (k + 1))) q2 hn h0 ht (l_burn hn h0 hB k9 m (k + 1) σ' (by omega) (by rw [e]; exact hs))
    have go : bu C Wt nb st (nI B) f (k + 1) = (some t, (bu C Wt nb st (nI B) f k).2 + nI st) → ((((um (um σ' 12 0 4 (nI t)) 12 0 5 (((um σ' 12 0 4 (nI t)) 12 0 5) + ((um σ' 12 0 4 (nI t)) 12 0 3))) 12 0 2) ≤ (nI t + 1)) → vc_X6_burn_16 (nI B) Q (m + 1) (um (um σ' 12 0 4 (nI t)) 12 0 5 (((um σ' 12 0 4 (nI t)) 12 0 5) + ((um σ' 12 0 4 (nI t)) 12 0 3))) 0 (nI (k + 1))) ∧ ((¬ ((um (um σ' 12 0 4 (nI t)) 12 0 5 (((um σ' 12 0 4 (nI t)) 12 0 5) + ((um σ' 12 0 4 (nI t)) 12 0 3))) 12 0 2) ≤ (nI t + 1)) → vc_X6_burn_16 (nI B) Q (m + 1) (um (um σ' 12 0 4 (nI t)) 12 0 5 (((um σ' 12 0 4 (nI t)) 12 0 5) + ((um σ' 12 0 4 (nI t)) 12 0 3))) (nI t + 1) (nI (k + 1))) := by
      intro e
      refine b_turn (P := fun y => vc_X6_burn_16 (nI B) Q (m + 1) (um (um σ' 12 0 4 (nI t)) 12 0 5 (((um σ' 12 0 4 (nI t)) 12 0 5) + ((um σ' 12 0 4 (nI t)) 12 0 3))) y (nI (k + 1))) (by simpa [um] using q2) hn h0 ht (l_burn hn h0 hB k9 m (k + 1) _ (by omega) ?_)
      rw [e]
      exact ⟨(q1.um rfl).um rfl, by simpa [um] using q2, by simpa [um] using q3, fun b hb => by simpa [um] using q4 b hb, by simp [um, oC], by simp [um, q3, q6]⟩
    rw [vc_X6_burn_16, ← ht]
    refine kf (by rw [nI_leI (by omega) (by omega)]; omega) ⟨hv', ?_⟩
    rw [cl (by omega), s1 k, q41, q42]
    have spk : ((nI t = σ' 12 0 4) → ((σ' 12 0 2 ≤ nI t + 1) → vc_X6_burn_16 (nI B) Q (m + 1) σ' 0 (nI (k + 1))) ∧ (¬ (σ' 12 0 2 ≤ nI t + 1) → vc_X6_burn_16 (nI B) Q (m + 1) σ' (nI t + 1) (nI (k + 1)))) := by
      intro c
      apply stay
      rw [q5, oC_eq (by omega) hbt] at c
      rw [bu, ← ht, if_pos (Or.inl c)]
    have spk2 : C t < σ' 12 0 5 + σ' 12 0 3 → ((σ' 12 0 2 ≤ nI t + 1) → vc_X6_burn_16 (nI B) Q (m + 1) σ' 0 (nI (k + 1))) ∧ (¬ (σ' 12 0 2 ≤ nI t + 1) → vc_X6_burn_16 (nI B) Q (m + 1) σ' (nI t + 1) (nI (k + 1))) := by
      intro c
      apply stay
      rw [q6, q3] at c
      rw [bu, ← ht, if_pos (Or.inr (Or.inl c))]
    refine ⟨fun w => ⟨spk, fun c1 => ⟨hv', spk2, fun c2 => ?_⟩⟩, fun w => ⟨fun c3 => ?_, fun c3 => ⟨spk, fun c1 => ⟨hv', spk2, fun c2 => ?_⟩⟩⟩⟩
    · apply go
      rw [q5, oC_eq (by omega) hbt] at c1
      rw [q6, q3] at c2
      rw [bu, ← ht, if_neg]
      rintro (z | z | z)
      · exact c1 z
      · exact c2 z
      · exact z.1 w
    · apply stay
      rw [q2] at c3
      rw [bu, ← ht, if_pos (Or.inr (Or.inr ⟨w, c3⟩))]
    · apply go
      rw [q5, oC_eq (by omega) hbt] at c1
      rw [q6, q3] at c2
      rw [q2] at c3
      rw [bu, ← ht, if_neg]
      rintro (z | z | z)
      · exact c1 z
      · exact c2 z
      · exact c3 z.2
theorem p_burn {σ0 : zMem} {C Wt : Nat → Int32} {nb st B f : Nat} (hn : nb ≤ 10) (hf : f < nb) (hB : B ≤ 60) {Q : zMem → Prop} {σ' : zMem} (h1 : Same σ0 σ') (h2 : σ' 12 0 2 = nI nb) (h3 : σ' 12 0 3 = nI st) (h4 : ∀ b, b < nb → σ' 13 0 b = C b ∧ σ' 14 0 b = Wt b) (k9 : ∀ σ', Bs σ0 C Wt nb st (bu C Wt nb st (nI B) f B) σ' → Q σ') : vc_X6_burn σ' (nI B) (nI f) Q := by
  refine ⟨B + 1, ?_⟩
  have h := l_burn (σ0 := σ0) hn (by omega) hB k9 B 0 (um (um σ' 12 0 4 (-2)) 12 0 5 0) (by omega) ⟨(h1.um rfl).um rfl, by simpa [um] using h2, by simpa [um] using h3, fun b hb => by simpa [um] using h4 b hb, by simp [um, bu, oC], by simp [um, bu]⟩
  rw [show (f + 0) % nb = f from Nat.mod_eq_of_lt hf] at h
  exact h
theorem minlt {r w x : Int32} : (if r < w then r else w) < x ↔ (w < x ∨ r < x) := by
  by_cases h : r < w
  · rw [if_pos h]
    exact ⟨Or.inr, fun z => z.elim (fun z => by rw [tl] at *; omega) id⟩
  · rw [if_neg h]
    exact ⟨Or.inl, fun z => z.elim id (fun z => by rw [tl] at *; omega)⟩
def Bm (σ0 : zMem) (Wv R : Nat → Int32) (nb : Nat) (r : Option Nat × Int32) (σ' : zMem) : Prop := Same σ0 σ' ∧ (∀ b, b < nb → σ' 37 0 b = Wv b ∧ σ' 38 0 b = R b) ∧ σ' 22 0 19 = r.2
theorem l_mburn {σ0 : zMem} {C Wv R Wt : Nat → Int32} {nb st B f : Nat} (hn : nb ≤ 10) (h0 : 0 < nb) (hf : f < nb) (hB : B ≤ 60) (hC : ∀ b, b < nb → C b = if R b < Wv b then R b else Wv b) (e9 : σ0 22 0 9 = nI nb) (e16 : σ0 22 0 16 = nI st) (e34 : ∀ b, b < nb → σ0 34 0 b = Wt b) {Q : Int32 → zMem → Prop} (k9 : ∀ σ', Bm σ0 Wv R nb (bu C Wt nb st (nI B) f B) σ' → Q (oM (bu C Wt nb st (nI B) f B).1) σ') :
    ∀ m k σ', k + m = B → Bm σ0 Wv R nb (bu C Wt nb st (nI B) f k) σ' → vc_X11_burn_11 (nI B) (nI f) Q (m + 1) σ' (oM (bu C Wt nb st (nI B) f k).1) (nI k)
  | 0, k, σ', hk, hs => by
    obtain rfl : k = B := by omega
    exact kt (by rw [te]; omega) (k9 σ' hs)
  | m + 1, k, σ', hk, hs => by
    have hlt : (f + k) % nb < nb := Nat.mod_lt _ h0
    obtain ⟨t, ht⟩ : ∃ t, t = (f + k) % nb := ⟨_, rfl⟩
    rw [← ht] at hlt
    have hv' : vp_in (nI t) 10 := in_nI (by omega) (by decide)
    obtain ⟨q1, q2, q3⟩ := id hs
    obtain ⟨q21, q22⟩ := q2 t hlt
    have hbt : ∀ x, (bu C Wt nb st (nI B) f k).1 = some x → x < 100 := fun x hx => by have := bu_lt h0 k x hx; omega
    have m9 : σ' 22 0 9 = nI nb := (q1 22 0 9 rfl).trans e9
    have m16 : σ' 22 0 16 = nI st := (q1 22 0 16 rfl).trans e16
    have m34 : σ' 34 0 t = Wt t := (q1 34 0 t rfl).trans (e34 t hlt)
    have er : (nI f + nI k) - (nI f + nI k) / nI nb * nI nb = nI t := by
      rw [nI_add, pk_rem (by omega) h0 (by omega), ht]
    have stay : bu C Wt nb st (nI B) f (k + 1) = bu C Wt nb st (nI B) f k → vc_X11_burn_11 (nI B) (nI f) Q (m + 1) σ' (oM (bu C Wt nb st (nI B) f k).1) (nI (k + 1)) := by
      intro e
      have h := l_mburn hn h0 hf hB hC e9 e16 e34 k9 m (k + 1) σ' (by omega) (by rw [e]; exact hs)
      rw [e] at h
      exact h
    have go : bu C Wt nb st (nI B) f (k + 1) = (some t, (bu C Wt nb st (nI B) f k).2 + nI st) → vc_X11_burn_11 (nI B) (nI f) Q (m + 1) (um σ' 22 0 19 (σ' 22 0 19 + nI st)) (nI t) (nI (k + 1)) := by
      intro e
      have h := l_mburn hn h0 hf hB hC e9 e16 e34 k9 m (k + 1) (um σ' 22 0 19 (σ' 22 0 19 + nI st)) (by omega) (by rw [e]; exact ⟨q1.um rfl, fun b hb => by simpa [um] using q2 b hb, by simp [um, q3]⟩)
      rw [e] at h
      exact h
    rw [vc_X11_burn_11]
    rw [m9, m16, er, cl (by omega), s1, q21, q22, m34]
    refine kf (by rw [nI_leI (by omega) (by omega)]; omega) ⟨fun z => by have := (nI_eq (a := nb) (b := 0) (by omega) (by decide)).mp z; omega, fun c1 => ?_, fun c1 => ⟨hv', fun c2 => ?_, fun c2 => ⟨hv', fun c3 => ?_, fun c3 => ⟨hv', fun w => ?_, fun w => ⟨fun c4 => ?_, fun c4 => ?_⟩⟩⟩⟩⟩
    · apply stay
      rw [oM_eq (by omega) hbt] at c1
      rw [bu, ← ht, if_pos (Or.inl c1)]
    · apply stay
      rw [q3] at c2
      rw [bu, ← ht, if_pos (Or.inr (Or.inl (by rw [hC t hlt, minlt]; exact Or.inl c2)))]
    · apply stay
      rw [q3] at c3
      rw [bu, ← ht, if_pos (Or.inr (Or.inl (by rw [hC t hlt, minlt]; exact Or.inr c3)))]
    · apply go
      rw [oM_eq (by omega) hbt] at c1
      rw [q3] at c2 c3
      rw [bu, ← ht, if_neg]
      rintro (z | z | z)
      · exact c1 z
      · rw [hC t hlt, minlt] at z
        exact z.elim c2 c3
      · exact z.1 w
    · apply go
      rw [oM_eq (by omega) hbt] at c1
      rw [q3] at c2 c3
      rw [bu, ← ht, if_neg]
      rintro (z | z | z)
      · exact c1 z
      · rw [hC t hlt, minlt] at z
        exact z.elim c2 c3
      · exact absurd z.2 (by rw [te] at c4; rw [tl]; omega)
    · apply stay
      rw [bu, ← ht, if_pos (Or.inr (Or.inr ⟨w, by rw [te] at c4; rw [tl]; omega⟩))]
theorem m_burn {σ0 : zMem} {C Wv R Wt : Nat → Int32} {nb st B f : Nat} (hn : nb ≤ 10) (hf : f < nb) (hB : B ≤ 60) (hC : ∀ b, b < nb → C b = if R b < Wv b then R b else Wv b) (e9 : σ0 22 0 9 = nI nb) (e16 : σ0 22 0 16 = nI st) (e34 : ∀ b, b < nb → σ0 34 0 b = Wt b) {Q : Int32 → zMem → Prop} {σ' : zMem} (h1 : Same σ0 σ') (h2 : ∀ b, b < nb → σ' 37 0 b = Wv b ∧ σ' 38 0 b = R b) (k9 : ∀ σ', Bm σ0 Wv R nb (bu C Wt nb st (nI B) f B) σ' → Q (oM (bu C Wt nb st (nI B) f B).1) σ') : vc_X11_burn σ' (nI B) (nI f) Q :=
  ⟨B + 1, l_mburn (σ0 := σ0) hn (by omega) hf hB hC e9 e16 e34 k9 B 0 (um σ' 22 0 19 0) (by omega) ⟨h1.um rfl, fun b hb => by simpa [um] using h2 b hb, by simp [um, bu]⟩⟩
