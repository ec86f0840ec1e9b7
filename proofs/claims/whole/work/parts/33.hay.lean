/-! dry, barn, tithe -/
def dd (R : Nat → Int32) : Nat → Nat → Nat → Option Nat
  | 0, _, _ => none
  | m + 1, s, d => if R d = 0 then (if s = 2 then some d else dd R m (s + 1) (d + 1)) else dd R m (s - 1) (d + 1)
def lf (R : Nat → Int32) : Nat → Nat → Nat → Int32 → Int32
  | 0, _, _, _ => 0
  | m + 1, s, d, l => if R d = 0 then (if s = 2 then l else lf R m (s + 1) (d + 1) l) else lf R m (s - 1) (d + 1) (l - l / 10)
theorem su_max : ∀ s, s < 3 → (if (nI s - 1) < 0 then 0 else nI s - 1) = nI (s - 1) := by decide +kernel
theorem su_3 : ∀ s, s < 3 → (nI s + 1 = 3 ↔ s = 2) := by decide +kernel
theorem su_n3 : ∀ s, s < 3 → ¬ nI (s - 1) = 3 := by decide +kernel
theorem su_le : ∀ s, s < 3 → ((nI s ≤ 0 → nI s - 0 = nI (s - 1)) ∧ (¬ nI s ≤ 0 → nI s - 1 = nI (s - 1))) := by decide +kernel
theorem dd_b {R : Nat → Int32} : ∀ m s d e, d + m = 31 → dd R m s d = some e → d ≤ e ∧ e ≤ 30
  | 0, s, d, e, hm, h => by simp [dd] at h
  | m + 1, s, d, e, hm, h => by
    rw [dd] at h
    split at h
    · split at h
      · cases h
        omega
      · have := dd_b m (s + 1) (d + 1) e (by omega) h
        omega
    · have := dd_b m (s - 1) (d + 1) e (by omega) h
      omega
theorem l_dry {σ : zMem} {Q : Int32 → zMem → Prop} : ∀ m s d, d + m = 31 → s < 3 → Q (oM (dd (σ 11 0) m s d)) σ → vc_X10_dryDay_9 Q (m + 1) σ (nI s) (nI d)
  | 0, s, d, hm, hs, k => by
    obtain rfl : d = 31 := by omega
    exact kt (by decide) k
  | m + 1, s, d, hm, hs, k => by
    have hv' : vp_in (nI d) 31 := in_nI (by omega) (by decide)
    rw [dd] at k
    rw [vc_X10_dryDay_9]
    refine kf (g31 (by omega)) ⟨hv', ?_⟩
    rw [cl (by omega), su_max s hs, s1 d]
    refine ⟨fun c => ?_, fun c => ?_⟩
    · rw [if_pos c] at k
      by_cases h2 : s = 2
      · rw [if_pos h2] at k
        exact kt' ((su_3 s hs).mpr h2) k
      · rw [if_neg h2] at k
        refine kf' (fun z => h2 ((su_3 s hs).mp z)) ?_
        rw [s1]
        exact l_dry m (s + 1) (d + 1) (by omega) (by omega) k
    · rw [if_neg c] at k
      exact kf' (su_n3 s hs) (l_dry m (s - 1) (d + 1) (by omega) (by omega) k)
theorem l_left {σ : zMem} {Q : Int32 → zMem → Prop} {e : Nat} : ∀ m s d l, d + m = 31 → dd (σ 11 0) m s d = some e → Q (lf (σ 11 0) m s d l) σ → ∃ n, vc_X10_inBarn_27 (nI e) Q n σ l (nI d)
  | 0, s, d, l, hm, h, k => by simp [dd] at h
  | m + 1, s, d, l, hm, h, k => by
    have hv' : vp_in (nI d) 31 := in_nI (by omega) (by decide)
    have hb := dd_b (m + 1) s d e hm h
    rw [dd] at h
    rw [lf] at k
    by_cases c : σ 11 0 d = 0
    · rw [if_pos c] at h k
      by_cases h2 : s = 2
      · rw [if_pos h2] at h k
        cases h
        refine ⟨2, ?_⟩
        rw [vc_X10_inBarn_27]
        refine kf (by rw [tl]; omega) ⟨hv', ?_⟩
        rw [cl (by omega), s1]
        exact kt c (kt (nI_lt (by omega) (by omega)) k)
      · rw [if_neg h2] at h k
        obtain ⟨n, hn⟩ := l_left m (s + 1) (d + 1) l (by omega) h k
        refine ⟨n + 1, ?_⟩
        rw [vc_X10_inBarn_27]
        refine kf (nI_nlt (by omega) (by omega)) ⟨hv', ?_⟩
        rw [cl (by omega), s1]
        exact kt c hn
    · rw [if_neg c] at h k
      obtain ⟨n, hn⟩ := l_left m (s - 1) (d + 1) (l - l / 10) (by omega) h k
      refine ⟨n + 1, ?_⟩
      rw [vc_X10_inBarn_27]
      refine kf (nI_nlt (by omega) (by omega)) ⟨hv', ?_⟩
      rw [cl (by omega), s1]
      exact kf c hn
theorem lf_lost {R : Nat → Int32} : ∀ m s d l, dd R m s d = none → lf R m s d l = 0
  | 0, _, _, _, _ => rfl
  | m + 1, s, d, l, h => by
    rw [dd] at h
    rw [lf]
    split at h
    · rename_i c
      rw [if_pos c]
      split at h
      · cases h
      · rename_i c2
        rw [if_neg c2]
        exact lf_lost m _ _ _ h
    · rename_i c
      rw [if_neg c]
      exact lf_lost m _ _ _ h
def cd (σ : zMem) (p : Nat) : Nat := (σ 4 p 5).toNatClampNeg
def dn (σ : zMem) (p : Nat) : Option Nat := dd (σ 11 0) (30 - cd σ p) 0 (cd σ p + 1)
def bn (σ : zMem) (p : Nat) : Int32 := lf (σ 11 0) (30 - cd σ p) 0 (cd σ p + 1) (hv σ p)
theorem cutd {σ : zMem} (h : iP σ) {p : Nat} (hp : p < 24) (hc : ¬ σ 29 0 p = 0) : cd σ p ≤ 30 ∧ σ 4 p 5 = nI (cd σ p) ∧ σ 30 0 p = nI (cd σ p) := by
  unfold cd
  rcases (h p hp).2.2 with h | h
  · exact absurd h.2.2.2.1 hc
  · rcases h.2.2.2 with h | h
    · exact absurd h.1 hc
    · obtain ⟨d, hd, h1, h2⟩ := h.2
      rw [h1, h2, cl (by omega)]
      exact ⟨hd, rfl, rfl⟩
theorem p_dryDay {σ : zMem} (h : iP σ) {p : Nat} (hp : p < 24) (hc : ¬ σ 29 0 p = 0) {Q : Int32 → zMem → Prop} (k : Q (oM (dn σ p)) σ) : vc_X10_dryDay σ p Q := by
  obtain ⟨h1, h2, h3⟩ := cutd h hp hc
  refine ⟨30 - cd σ p + 1, ?_⟩
  rw [h2, s1]
  exact l_dry (30 - cd σ p) 0 (cd σ p + 1) (by omega) (by omega) k
theorem p_inBarn {σ : zMem} (h : iP σ) {p : Nat} (hp : p < 24) (hc : ¬ σ 29 0 p = 0) {Q : Int32 → zMem → Prop} (k : Q (bn σ p) σ) : vc_X10_inBarn σ p Q := by
  obtain ⟨h1, h2, h3⟩ := cutd h hp hc
  refine p_dryDay h hp hc ?_
  unfold bn at k
  cases hd : dn σ p with
  | none =>
    refine kt' rfl ?_
    rw [lf_lost _ _ _ _ hd] at k
    exact k
  | some e =>
    have hb := dd_b (30 - cd σ p) 0 (cd σ p + 1) e (by omega) hd
    refine kf' (fun z => neg4_nI (b := e) (by omega) z.symm) (p_hay h hp ?_)
    rw [h2, s1]
    exact l_left (30 - cd σ p) 0 (cd σ p + 1) (hv σ p) (by omega) hd k
theorem l_mdry {σ0 : zMem} {R : Nat → Int32} (hR : ∀ d, d < 31 → σ0 39 0 d = R d) {Q : Int32 → zMem → Prop} : ∀ m s d σ', d + m = 31 → s < 3 → Same σ0 σ' → (∀ σ'', Same σ0 σ'' → σ'' 22 0 29 = lf R m s d (σ' 22 0 29) → Q (oM (dd R m s d)) σ'') → vc_X11_dries_20 Q (m + 1) σ' (nI s) (nI d)
  | 0, s, d, σ', hm, hs, h1, k => by
    obtain rfl : d = 31 := by omega
    exact kt (by decide) (k _ (h1.um rfl) (by simp [um, lf]))
  | m + 1, s, d, σ', hm, hs, h1, k => by
    have hv' : vp_in (nI d) 31 := in_nI (by omega) (by decide)
    have er : σ' 39 0 d = R d := (h1 39 0 d rfl).trans (hR d (by omega))
    rw [dd] at k
    rw [vc_X11_dries_20]
    refine kf (g31 (by omega)) ⟨hv', ?_⟩
    rw [cl (by omega), er, s1 d]
    refine ⟨fun c => ?_, fun c => ?_⟩
    · rw [if_pos c] at k
      by_cases h2 : s = 2
      · rw [if_pos h2] at k
        refine kt' ((su_3 s hs).mpr h2) (k σ' h1 ?_)
        rw [lf, if_pos c, if_pos h2]
      · rw [if_neg h2] at k
        refine kf' (fun z => h2 ((su_3 s hs).mp z)) ?_
        rw [s1]
        exact l_mdry hR m (s + 1) (d + 1) σ' (by omega) (by omega) h1 (fun σ'' g1 g2 => k σ'' g1 (by rw [lf, if_pos c, if_neg h2]; exact g2))
    · rw [if_neg c] at k
      have fin : vc_X11_dries_20 Q (m + 1) (um σ' 22 0 29 (σ' 22 0 29 - σ' 22 0 29 / 10)) (nI (s - 1)) (nI (d + 1)) := l_mdry hR m (s - 1) (d + 1) _ (by omega) (by omega) (h1.um rfl) (fun σ'' g1 g2 => k σ'' g1 (by rw [lf, if_neg c]; rw [um_s] at g2; exact g2))
      refine ⟨fun c2 => ?_, fun c2 => ?_⟩
      · rw [(su_le s hs).1 c2]
        exact fin
      · rw [(su_le s hs).2 c2]
        exact fin
theorem m_dries {σ : zMem} (hI : Inv σ) {p : Nat} (hp : p < 24) (hc : ¬ σ 29 0 p = 0) {Q : Int32 → zMem → Prop} (k : ∀ σ', Same σ σ' → σ' 22 0 29 = bn σ p → Q (oM (dn σ p)) σ') : vc_X11_dries σ (nI p) Q := by
  obtain ⟨h1, h2, h3⟩ := cutd hI.1 hp hc
  refine m_hayOf hI.1 hp ⟨in_nI hp (by decide), 30 - cd σ p + 1, ?_⟩
  rw [cl (by omega), um_q _ _ (by decide), h3, s1]
  refine l_mdry (σ0 := σ) (R := σ 11 0) (fun d hd => (hI.2.2.1.2.2 d hd).1.symm) (30 - cd σ p) 0 (cd σ p + 1) _ (by omega) (by omega) (Same.rf.um rfl) (fun σ'' g1 g2 => k σ'' g1 ?_)
  rw [um_s] at g2
  exact g2
theorem dn_same {σ σ' : zMem} (h : Same σ σ') (p : Nat) : dn σ' p = dn σ p := by
  unfold dn cd
  rw [h 4 p 5 rfl, show σ' 11 0 = σ 11 0 from funext (fun d => h 11 0 d rfl)]
theorem bn_same {σ σ' : zMem} (h : Same σ σ') (p : Nat) : bn σ' p = bn σ p := by
  unfold bn cd
  rw [h 4 p 5 rfl, show σ' 11 0 = σ 11 0 from funext (fun d => h 11 0 d rfl), hv_same h]
theorem st_dry {σ : zMem} (hI : Inv σ) (a : Int32) : vc_X10_dry σ a (fun r σ1 => vc_X11_dry σ1 a (fun r2 σ2 => r = r2 ∧ Inv σ2)) := by
  by_cases ha : vp_in a 24
  · refine p_isPlot_t ha (k1' ⟨ha, ?_⟩)
    obtain ⟨p, hp, rfl⟩ := in_of ha (by decide)
    rw [cl (by omega)]
    refine p_isCut hI.1 hp ?_
    by_cases hc : σ 29 0 p = 0
    · refine kt' hc ?_
      refine m_isPlot_t ha (k1' ⟨ha, ?_⟩)
      rw [cl (by omega)]
      exact kt' hc ⟨rfl, hI⟩
    · refine kf' hc ⟨ha, p_dryDay hI.1 hp hc ?_⟩
      refine m_isPlot_t ha (k1' ⟨ha, ?_⟩)
      rw [cl (by omega)]
      exact kf' hc (m_dries hI hp hc (fun σ' g1 g2 => ⟨rfl, Inv_same g1 hI⟩))
  · refine p_isPlot_f ha (k0' ?_)
    exact m_isPlot_f ha (k0' ⟨rfl, hI⟩)
theorem st_barn {σ : zMem} (hI : Inv σ) (a : Int32) : vc_X10_barn σ a (fun r σ1 => vc_X11_barn σ1 a (fun r2 σ2 => r = r2 ∧ Inv σ2)) := by
  by_cases ha : vp_in a 24
  · refine p_isPlot_t ha (k1' ⟨ha, ?_⟩)
    obtain ⟨p, hp, rfl⟩ := in_of ha (by decide)
    rw [cl (by omega)]
    refine p_isCut hI.1 hp ?_
    by_cases hc : σ 29 0 p = 0
    · refine kt' hc ?_
      refine m_isPlot_t ha (k1' ⟨ha, ?_⟩)
      rw [cl (by omega)]
      exact kt' hc ⟨rfl, hI⟩
    · refine kf' hc ⟨ha, p_inBarn hI.1 hp hc ?_⟩
      refine m_isPlot_t ha (k1' ⟨ha, ?_⟩)
      rw [cl (by omega)]
      exact kf' hc (m_dries hI hp hc (fun σ' g1 g2 => ⟨g2.symm, Inv_same g1 hI⟩))
  · refine p_isPlot_f ha (k0' ?_)
    exact m_isPlot_f ha (k0' ⟨rfl, hI⟩)
def fT (σ : zMem) (b p : Nat) : Int32 := if hs σ b p = 0 then 0 else if σ 29 0 p = 0 then 0 else bn σ p
theorem l_tithe {σ : zMem} (h : iP σ) {b : Nat} (hb : b < 10) {Q : Int32 → zMem → Prop} (k : Q (sm (fT σ b) 24 / 10) σ) : ∀ m p, p + m = 24 → vc_X10_tithe_14 (nI b) Q (m + 1) σ (sm (fT σ b) p) (nI p)
  | 0, p, hp => by
    obtain rfl : p = 24 := by omega
    exact kt (by decide) k
  | m + 1, p, hp => by
    have hv' : vp_in (nI p) 24 := in_nI (by omega) (by decide)
    have ih := l_tithe h hb k m (p + 1) (by omega)
    rw [sm] at ih
    rw [vc_X10_tithe_14]
    refine kf (g24 (by omega)) ⟨hv', ?_⟩
    rw [cl (by omega), s1]
    by_cases ho : σ 4 p 3 = nI b
    · have e1 : hs σ b p = 1 := (hs_ow h (by omega) hb).mpr ho
      refine kt' ho ⟨hv', p_isCut h (by omega) ?_⟩
      rw [fT, if_neg (by rw [e1]; decide)] at ih
      refine ⟨fun c => ?_, fun c => ⟨hv', p_inBarn h (by omega) c ?_⟩⟩
      · rw [if_pos c, Int32.add_zero] at ih
        exact ih
      · rw [if_neg c] at ih
        exact ih
    · have e1 : hs σ b p = 0 := (hs01 σ b p).resolve_right (fun z => ho ((hs_ow h (by omega) hb).mp z))
      rw [fT, if_pos e1, Int32.add_zero] at ih
      exact kf' ho ih
theorem l_mtithe {σ : zMem} (hI : Inv σ) {b : Nat} {Q : Int32 → zMem → Prop} (k : ∀ σ', Same σ σ' → Q (sm (fT σ b) 24 / 10) σ') : ∀ m p σ', p + m = 24 → Same σ σ' → vc_X11_tithe_14 (nI b) Q (m + 1) σ' (sm (fT σ b) p) (nI p)
  | 0, p, σ', hp, h1 => by
    obtain rfl : p = 24 := by omega
    exact kt (by decide) (k σ' h1)
  | m + 1, p, σ', hp, h1 => by
    have hv' : vp_in (nI p) 24 := in_nI (by omega) (by decide)
    have hI' := Inv_same h1 hI
    rw [vc_X11_tithe_14]
    refine kf (g24 (by omega)) (m_has (by omega) ?_)
    rw [cl (by omega), s1, hs_same h1, h1 29 0 p rfl]
    have e1 : sm (fT σ b) (p + 1) = sm (fT σ b) p + fT σ b p := rfl
    refine ⟨fun c => ?_, fun c => ⟨hv', fun c2 => ?_, fun c2 => ?_⟩⟩
    · have ih := l_mtithe hI k m (p + 1) σ' (by omega) h1
      rw [e1, fT, if_pos c] at ih
      exact ih
    · have ih := l_mtithe hI k m (p + 1) σ' (by omega) h1
      rw [e1, fT, if_neg c, if_pos c2] at ih
      exact ih
    · refine m_dries hI' (by omega) (by rw [h1 29 0 p rfl]; exact c2) (fun σ2 g1 g2 => ?_)
      have ih := l_mtithe hI k m (p + 1) σ2 (by omega) (h1.tr g1)
      rw [e1, fT, if_neg c, if_neg c2] at ih
      rw [g2, bn_same h1]
      exact ih
theorem st_tithe {σ : zMem} (hI : Inv σ) (a : Int32) : vc_X10_tithe σ a (fun r σ1 => vc_X11_tithe σ1 a (fun r2 σ2 => r = r2 ∧ Inv σ2)) := by
  obtain ⟨nb, hn, hb8, hb9, hB⟩ := hI.2.1
  by_cases ha : vp_in a nb
  · refine p_isBuyer_t hb8 hn ha (k1' ?_)
    obtain ⟨b, hb, rfl⟩ := in_of ha (by omega)
    refine ⟨25, l_tithe hI.1 (by omega) ?_ 24 0 rfl⟩
    refine m_isBuyer_t hb9 hn ha (k1' ⟨25, l_mtithe hI (fun σ' g => ⟨rfl, Inv_same g hI⟩) 24 0 σ rfl Same.rf⟩)
  · refine p_isBuyer_f hb8 hn ha (k0' ?_)
    exact m_isBuyer_f hb9 hn ha (k0' ⟨rfl, hI⟩)
