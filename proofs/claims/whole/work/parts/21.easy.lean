/-! the calls one by one: those that only look and set -/
theorem st_plot {σ : zMem} (hI : Inv σ) (a b c : Int32) : vc_X10_plot σ a b c (fun r σ1 => vc_X11_plot σ1 a b c (fun r2 σ2 => r = r2 ∧ Inv σ2)) := by
  have e0 : (0 : Int32).toInt = 0 := rfl
  have e3 : (3 : Int32).toInt = 3 := rfl
  have e200 : (200 : Int32).toInt = 200 := rfl
  by_cases ha : vp_in a 24
  · refine p_isPlot_t ha (k1 ?_)
    by_cases hb : 0 ≤ b.toInt ∧ b.toInt ≤ (3 : Int32).toInt
    · refine p_within_t hb (k1 ?_)
      by_cases hc : 0 ≤ c.toInt ∧ c.toInt ≤ (200 : Int32).toInt
      · refine p_within_t hc (k1' ⟨ha, ?_⟩)
        obtain ⟨p, hp, rfl⟩ := in_of ha (by decide)
        obtain ⟨k, hk, rfl⟩ := in_of (x := b) (n := 4) (vp_in_iff.mpr (by omega)) (by decide)
        obtain ⟨g, hg, rfl⟩ := in_of (x := c) (n := 201) (vp_in_iff.mpr (by omega)) (by decide)
        rw [cl (k := p) (by omega), cl (k := k) (by omega)]
        obtain ⟨h1, ⟨g0, hg0, hg1, hg2⟩, h3⟩ := hI.1 p hp
        rcases h3 with h3 | h3
        · refine kt h3.2.1 (k0 ⟨in_nI hk (by decide), ?_⟩)
          refine m_isPlot_t ha (k1 ?_)
          refine m_in_t (by omega) (k1 ?_)
          refine m_in_t (by omega) (k1' ⟨ha, ?_⟩)
          rw [cl (k := p) (by omega)]
          refine kt (by simpa [um] using h3.1) ⟨ha, ha, ha, ?_, ?_⟩
          · simp [um, hg1, hg2]
          · refine ⟨fun p' hp' => ?_, ?_, ?_, ?_, ?_⟩
            · by_cases hpp : p' = p
              · subst hpp
                exact ⟨⟨k, hk, by simp [um], by simp [um], by simp [um]⟩, ⟨g, by omega, by simp [um], by simp [um]⟩, Or.inl (by simpa [um] using h3)⟩
              · simpa [um, hpp] using hI.1 p' hp'
            · simpa [um, iB, debt] using hI.2.1
            · simpa [um, iD] using hI.2.2.1
            · simpa [um, iR] using hI.2.2.2.1
            · simpa [um, iS] using hI.2.2.2.2
        · have hs : ¬ σ 4 p 3 = -2 := by
            obtain ⟨o, nb, ho, hnb, -, h4, -⟩ := h3.2.1
            rw [h4, tq, ti (by omega)]
            have e2 : (-2 : Int32).toInt = -2 := rfl
            omega
          refine kf hs (k1 ?_)
          refine m_isPlot_t ha (k1 ?_)
          refine m_in_t (by omega) (k1 ?_)
          refine m_in_t (by omega) (k1' ⟨ha, ?_⟩)
          rw [cl (k := p) (by omega)]
          exact kf (by rw [h3.1]; decide) ⟨rfl, hI⟩
      · refine p_within_f hc (k0' ?_)
        refine m_isPlot_t ha (k1 ?_)
        refine m_in_t (by omega) (k1 ?_)
        exact m_in_f (by omega) (k0' ⟨rfl, hI⟩)
    · refine p_within_f hb (k0 ?_)
      refine m_isPlot_t ha (k1 ?_)
      exact m_in_f (by omega) (k0 ⟨rfl, hI⟩)
  · refine p_isPlot_f ha (k0 ?_)
    exact m_isPlot_f ha (k0 ⟨rfl, hI⟩)
theorem st_step {σ : zMem} (hI : Inv σ) (a : Int32) : vc_X10_step σ a (fun r σ1 => vc_X11_step σ1 a (fun r2 σ2 => r = r2 ∧ Inv σ2)) := by
  have e1 : (1 : Int32).toInt = 1 := rfl
  have e100 : (100 : Int32).toInt = 100 := rfl
  obtain ⟨s0, hs1, hs2, hs3, hs4⟩ := hI.2.2.1.1
  by_cases h1 : a < 1
  · refine kt h1 ?_
    rw [tl] at h1
    exact m_in_f (by omega) (k0' ⟨rfl, hI⟩)
  · refine kf h1 ?_
    rw [tl] at h1
    by_cases h2 : a ≤ 100
    · refine kt h2 ?_
      rw [te] at h2
      obtain ⟨k, hk, rfl⟩ := in_of (x := a) (n := 101) (vp_in_iff.mpr (by omega)) (by decide)
      rw [ti (by omega)] at h1 h2
      refine m_in_t (by rw [ti (by omega)]; omega) (k1' ⟨?_, ?_⟩)
      · simp [um, hs3, hs4]
      · refine ⟨?_, ?_, ⟨⟨k, by omega, by omega, by simp [um], by simp [um]⟩, ?_, ?_⟩, ?_, ?_⟩
        · simpa [um, iP] using hI.1
        · simpa [um, iB, debt] using hI.2.1
        · simpa [um] using hI.2.2.1.2.1
        · simpa [um] using hI.2.2.1.2.2
        · simpa [um, iR] using hI.2.2.2.1
        · simpa [um, iS] using hI.2.2.2.2
    · refine kf h2 ?_
      rw [te] at h2
      exact m_in_f (by omega) (k0' ⟨rfl, hI⟩)
theorem st_day {σ : zMem} (hI : Inv σ) (a : Int32) : vc_X10_day σ a (fun r σ1 => vc_X11_day σ1 a (fun r2 σ2 => r = r2 ∧ Inv σ2)) := by
  have e30 : (30 : Int32).toInt = 30 := rfl
  obtain ⟨t, ht1, ht2, ht3⟩ := hI.2.2.1.2.1
  have et : (nI t).toInt = t := ti (by omega)
  by_cases h1 : a < σ 0 0 10
  · refine kt h1 ?_
    rw [tl, ht2] at h1
    exact m_in_f (by rw [ht3]; omega) (k0' ⟨rfl, hI⟩)
  · refine kf h1 ?_
    rw [tl, ht2] at h1
    by_cases h2 : a ≤ 30
    · refine kt h2 ?_
      rw [te] at h2
      obtain ⟨k, hk, rfl⟩ := in_of (x := a) (n := 31) (vp_in_iff.mpr (by omega)) (by decide)
      refine m_in_t (by rw [um_q σ _ (by decide : (22 : Nat) ≠ 0), ht3]; omega) (k1' ⟨?_, ?_⟩)
      · simp [um, ht2, ht3]
      · refine ⟨?_, ?_, ⟨?_, ⟨k, by omega, by simp [um], by simp [um]⟩, ?_⟩, ?_, ?_⟩
        · simpa [um, iP] using hI.1
        · simpa [um, iB, debt] using hI.2.1
        · simpa [um] using hI.2.2.1.1
        · simpa [um] using hI.2.2.1.2.2
        · simpa [um, iR] using hI.2.2.2.1
        · simpa [um, iS] using hI.2.2.2.2
    · refine kf h2 ?_
      rw [te] at h2
      exact m_in_f (by omega) (k0' ⟨rfl, hI⟩)
theorem p_oneIf {σ : zMem} {a : Int32} {Q : Int32 → zMem → Prop} (h : zbool a) (k : Q a σ) : vc_X10_oneIf σ a Q := by
  rcases h with h | h <;> subst h
  · exact k0 k
  · exact k1 k
theorem st_rain {σ : zMem} (hI : Inv σ) (a b : Int32) (hb : zbool b) : vc_X10_rain σ a b (fun r σ1 => vc_X11_rain σ1 a b (fun r2 σ2 => r = r2 ∧ Inv σ2)) := by
  have e0 : (0 : Int32).toInt = 0 := rfl
  have e30 : (30 : Int32).toInt = 30 := rfl
  by_cases ha : 0 ≤ a.toInt ∧ a.toInt ≤ (30 : Int32).toInt
  · have hv : vp_in a 31 := vp_in_iff.mpr (by omega)
    refine p_within_t ha (k1' ⟨hv, hv, ?_⟩)
    obtain ⟨d, hd, rfl⟩ := in_of hv (by decide)
    rw [cl (by omega), nbool hb]
    obtain ⟨h1, h2⟩ := hI.2.2.1.2.2 d hd
    have hin : Inv (um (um σ 11 0 d b) 39 0 d b) := by
      refine ⟨?_, ?_, ⟨?_, ?_, fun d' hd' => ?_⟩, ?_, ?_⟩
      · simpa [um, iP] using hI.1
      · simpa [um, iB, debt] using hI.2.1
      · simpa [um] using hI.2.2.1.1
      · simpa [um] using hI.2.2.1.2.1
      · by_cases hdd : d' = d
        · subst hdd
          simpa [um] using hb
        · simpa [um, hdd] using hI.2.2.1.2.2 d' hd'
      · simpa [um, iR] using hI.2.2.2.1
      · simpa [um, iS] using hI.2.2.2.2
    by_cases hs : σ 11 0 d = b
    · refine kt hs (k0 ?_)
      refine m_in_t (by omega) (k1' ⟨hv, ?_⟩)
      rw [cl (by omega), nbool hb]
      exact kt (by simpa [um] using h1.symm.trans hs) ⟨hv, rfl, hin⟩
    · refine kf hs (k1 ?_)
      refine m_in_t (by omega) (k1' ⟨hv, ?_⟩)
      rw [cl (by omega), nbool hb]
      exact kf (by simp only [um]; rw [if_neg (by decide), ← h1]; exact hs) ⟨hv, rfl, hin⟩
  · refine p_within_f ha (k0' ?_)
    exact m_in_f (by omega) (k0' ⟨rfl, hI⟩)
theorem st_purse {σ : zMem} (hI : Inv σ) (a b : Int32) : vc_X10_purse σ a b (fun r σ1 => vc_X11_purse σ1 a b (fun r2 σ2 => r = r2 ∧ Inv σ2)) := by
  have e0 : (0 : Int32).toInt = 0 := rfl
  obtain ⟨nb, hn, hb8, hb9, hB⟩ := hI.2.1
  by_cases ha : vp_in a nb
  · refine p_isBuyer_t hb8 hn ha (k1 ?_)
    have hv : vp_in a 10 := vp_in_iff.mpr (by have := vp_in_iff.mp ha; omega)
    by_cases hb : 0 ≤ b.toInt ∧ b.toInt ≤ (100000 : Int32).toInt
    · refine p_within_t hb (k1' ⟨hv, hv, ?_⟩)
      refine m_isBuyer_t (nb := nb) (by simpa [um] using hb9) hn ha (k1 ?_)
      refine m_in_t (by omega) (k1' ⟨hv, hv, ?_⟩)
      obtain ⟨k, hk, rfl⟩ := in_of ha (by omega)
      rw [cl (by omega)]
      obtain ⟨h1, h2, h3, h4, h5, h6, h7⟩ := (hB k (by omega)).1 hk
      refine ⟨by simp [um, h2], ?_, ⟨nb, hn, by simpa [um] using hb8, by simpa [um] using hb9, fun b' hb' => ?_⟩, ?_, ?_, ?_⟩
      · simpa [um, iP] using hI.1
      · by_cases hbb : b' = k
        · subst hbb
          refine ⟨fun _ => ⟨?_, ?_, ?_, ?_, ?_, ?_, ?_⟩, fun hx => absurd hx (by omega)⟩
          · simpa [um] using h1
          · simp [um]
          · simpa [um] using h3
          · simpa [um] using h4
          · simpa [um] using h5
          · simpa [um] using h6
          · simpa [um, debt] using h7
        · simpa [um, hbb, debt] using hB b' hb'
      · simpa [um, iD] using hI.2.2.1
      · simpa [um, iR] using hI.2.2.2.1
      · simpa [um, iS] using hI.2.2.2.2
    · refine p_within_f hb (k0' ?_)
      refine m_isBuyer_t (nb := nb) hb9 hn ha (k1 ?_)
      exact m_in_f (by omega) (k0' ⟨rfl, hI⟩)
  · refine p_isBuyer_f hb8 hn ha (k0 ?_)
    exact m_isBuyer_f hb9 hn ha (k0 ⟨rfl, hI⟩)
