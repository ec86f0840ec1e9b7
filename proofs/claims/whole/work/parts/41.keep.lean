/-! keep -/
theorem p_worthTo2 {σ : zMem} (hP : iP σ) (hBb : iB σ) {nb b p : Nat} (hn : nb ≤ 10) (hb8 : σ 0 0 8 = nI nb) (hb : b < nb) (hp : p < 24) {Q : Int32 → zMem → Prop} (k : Q (wv σ b p) σ) : vc_X10_worthTo σ (nI b) (nI p) Q := by
  obtain ⟨nb', hn', hb8', hb9, hB⟩ := hBb
  have e : nb' = nb := (nI_eq (by omega) (by omega)).mp (hb8'.symm.trans hb8)
  obtain ⟨h1, h2, ⟨h, hh, h31, h32⟩, h4, h5, h6, h7⟩ := (hB b (by omega)).1 (by omega)
  unfold vc_X10_worthTo
  rw [cl (k := b) (by omega), cl (k := p) (by omega)]
  refine ⟨in_nI (by omega) (by decide), in_nI hp (by decide), p_hay hP hp ?_⟩
  rw [h31]
  refine p_steps hp hh ⟨_, l_owns hP (by omega) hp ?_ 4 0 rfl (fun s' h => absurd h (by omega))⟩
  unfold wv wb at k
  rw [h31, cl (by omega)] at k
  refine ⟨fun c => p_hayOf hP (by omega) ?_, fun c => p_hayOf hP (by omega) ?_⟩
  · rw [if_pos c] at k
    refine ⟨fun c2 => ?_, fun c2 => ?_⟩
    · rw [if_pos c2] at k
      exact k
    · rw [if_neg c2] at k
      exact k
  · rw [if_neg c] at k
    refine ⟨fun c2 => ?_, fun c2 => ?_⟩
    · rw [if_pos c2] at k
      exact k
    · rw [if_neg c2] at k
      exact k
theorem C8_PB {σ σ' : zMem} {d : Nat} (hI : Inv σ) (h : C8 d σ σ') : iP σ' ∧ iB σ' := by
  have nn : ∀ q i j : Nat, q < 8 ∨ 10 < q → ¬ ((q = 8 ∨ q = 9 ∨ q = 10) ∧ i = d) := fun q i j hq z => by omega
  have e0 : ∀ i j, σ' 0 i j = σ 0 i j := fun i j => h 0 i j (nn _ _ j (by omega))
  have e4 : ∀ i j, σ' 4 i j = σ 4 i j := fun i j => h 4 i j (nn _ _ j (by omega))
  have e6 : ∀ i j, σ' 6 i j = σ 6 i j := fun i j => h 6 i j (nn _ _ j (by omega))
  have m9 : σ' 22 0 9 = σ 22 0 9 := h 22 0 9 (nn _ _ 0 (by omega))
  have e23 : ∀ i j, σ' 23 i j = σ 23 i j := fun i j => h 23 i j (nn _ _ j (by omega))
  have e24 : ∀ i j, σ' 24 i j = σ 24 i j := fun i j => h 24 i j (nn _ _ j (by omega))
  have e25 : ∀ i j, σ' 25 i j = σ 25 i j := fun i j => h 25 i j (nn _ _ j (by omega))
  have e26 : ∀ i j, σ' 26 i j = σ 26 i j := fun i j => h 26 i j (nn _ _ j (by omega))
  have e27 : ∀ i j, σ' 27 i j = σ 27 i j := fun i j => h 27 i j (nn _ _ j (by omega))
  have e29 : ∀ i j, σ' 29 i j = σ 29 i j := fun i j => h 29 i j (nn _ _ j (by omega))
  have e30 : ∀ i j, σ' 30 i j = σ 30 i j := fun i j => h 30 i j (nn _ _ j (by omega))
  have e31 : ∀ i j, σ' 31 i j = σ 31 i j := fun i j => h 31 i j (nn _ _ j (by omega))
  have e32 : ∀ i j, σ' 32 i j = σ 32 i j := fun i j => h 32 i j (nn _ _ j (by omega))
  have e33 : ∀ i j, σ' 33 i j = σ 33 i j := fun i j => h 33 i j (nn _ _ j (by omega))
  have e34 : ∀ i j, σ' 34 i j = σ 34 i j := fun i j => h 34 i j (nn _ _ j (by omega))
  have e35 : ∀ i j, σ' 35 i j = σ 35 i j := fun i j => h 35 i j (nn _ _ j (by omega))
  have e36 : ∀ i j, σ' 36 i j = σ 36 i j := fun i j => h 36 i j (nn _ _ j (by omega))
  obtain ⟨h1, h2, -⟩ := hI
  constructor
  · unfold iP at h1 ⊢
    simp only [e0, e4, e23, e24, e25, e26, e27, e29, e30]
    exact h1
  · unfold iB debt at h2 ⊢
    simp only [e0, e6, m9, e25, e26, e27, e31, e32, e33, e34, e35, e36]
    exact h2
/-- the worth speaks of what shelves don't hold -/
theorem wv_C8 {σ σ' : zMem} {d : Nat} (hI : Inv σ) (h : C8 d σ σ') {nb b p : Nat} (hn : nb ≤ 10) (hb8 : σ 0 0 8 = nI nb) (hb : b < nb) (hp : p < 24) : wv σ' b p = wv σ b p := by
  have s : Same σ (fun q i j => if q = 8 ∨ q = 9 ∨ q = 10 then σ q i j else σ' q i j) := fun q i j _ => by
    by_cases hq : q = 8 ∨ q = 9 ∨ q = 10
    · simp only [if_pos hq]
    · simp only [if_neg hq]
      exact h q i j (fun z => hq z.1)
  have e := wv_same s b p
  rw [← e]
  rfl
theorem l_kw {σ0 : zMem} (hI : Inv σ0) {nb b d : Nat} (hn : nb ≤ 10) (hb8 : σ0 0 0 8 = nI nb) (hb : b < nb) {Q : Int32 → zMem → Prop} {v0 v6 : Int32} (k : ∀ σ, C8 d σ0 σ → σ 8 d 0 = v0 → σ 8 d 6 = v6 → (∀ j, j < 24 → σ 9 d j = wv σ0 b j) → Q 0 σ) :
    ∀ m p σ, p + m = 24 → C8 d σ0 σ → σ 8 d 0 = v0 → σ 8 d 6 = v6 → (∀ j, j < p → σ 9 d j = wv σ0 b j) → vc_X10_keepWorths_19 d (nI b) Q (m + 1) σ (nI p)
  | 0, p, σ, hp, h0, h1, h2, h3 => by
    obtain rfl : p = 24 := by omega
    exact kt (by decide) (k σ h0 h1 h2 h3)
  | m + 1, p, σ, hp, h0, h1, h2, h3 => by
    obtain ⟨iP', iB'⟩ := C8_PB hI h0
    have e8 : σ 0 0 8 = nI nb := (h0 0 0 8 (by omega)).trans hb8
    rw [vc_X10_keepWorths_19]
    refine kf (g24 (by omega)) (p_worthTo2 iP' iB' hn e8 hb (by omega) ⟨in_nI (by omega) (by decide), ?_⟩)
    rw [cl (by omega), s1, wv_C8 hI h0 hn hb8 hb (by omega)]
    refine l_kw hI hn hb8 hb k m (p + 1) _ (by omega) (h0.um (by omega)) (by rw [um_q _ _ (by decide)]; exact h1) (by rw [um_q _ _ (by decide)]; exact h2) (fun j hj => ?_)
    by_cases e : j = p
    · subst e; rw [um_s]
    · rw [um_n _ _ (by omega)]
      exact h3 j (by omega)
def oB (σ : zMem) (p : Nat) : Int32 := if σ 25 0 p = 0 then -1 else σ 26 0 p
theorem oB_fit {σ : zMem} (h : iP σ) {p : Nat} (hp : p < 24) : (oB σ p).toInt8.toInt32 = oB σ p := by
  unfold oB
  split
  · rfl
  · rcases (h p hp).2.2 with h | h
    · rename_i c
      exact absurd h.1 c
    · obtain ⟨o, nb, ho, hnb, h0, h1, h2⟩ := h.2.1
      rw [h2]
      exact fb_byte (by rw [ti (by omega)]; omega) (by rw [ti (by omega)]; omega)
theorem l_ko {σ0 : zMem} (hI : Inv σ0) {d : Nat} {Q : Int32 → zMem → Prop} {v0 v6 : Int32} (k : ∀ σ, C8 d σ0 σ → σ 8 d 0 = v0 → σ 8 d 6 = v6 → (∀ j, j < 24 → σ 10 d j = oB σ0 j) → Q 0 σ) :
    ∀ m p σ, p + m = 24 → C8 d σ0 σ → σ 8 d 0 = v0 → σ 8 d 6 = v6 → (∀ j, j < p → σ 10 d j = oB σ0 j) → vc_X10_keepOwners_9 d Q (m + 1) σ (nI p)
  | 0, p, σ, hp, h0, h1, h2, h3 => by
    obtain rfl : p = 24 := by omega
    exact kt (by decide) (k σ h0 h1 h2 h3)
  | m + 1, p, σ, hp, h0, h1, h2, h3 => by
    obtain ⟨iP', iB'⟩ := C8_PB hI h0
    rw [vc_X10_keepOwners_9]
    have fit := oB_fit hI.1 (p := p) (by omega)
    refine kf (g24 (by omega)) ⟨in_nI (by omega) (by decide), ?_⟩
    rw [cl (by omega), s1]
    have fin : ∀ v, v = oB σ0 p → vc_X10_keepOwners_9 d Q (m + 1) (um σ 10 d p v) (nI (p + 1)) := by
      intro v hv
      refine l_ko hI k m (p + 1) _ (by omega) (h0.um (by omega)) (by rw [um_q _ _ (by decide)]; exact h1) (by rw [um_q _ _ (by decide)]; exact h2) (fun j hj => ?_)
      by_cases e : j = p
      · subst e; rw [um_s, hv]
      · rw [um_n _ _ (by omega)]
        exact h3 j (by omega)
    refine p_isSold iP' (by omega) ?_
    rw [h0 25 0 p (by omega), h0 4 p 3 (by omega)]
    refine ⟨fun c => ⟨in_nI (by omega) (by decide), fin _ ?_⟩, fun c => ⟨in_nI (by omega) (by decide), in_nI (by omega) (by decide), fin _ ?_⟩⟩
    · rw [oB, if_pos c]
      rfl
    · rcases (hI.1 p (by omega)).2.2 with h | h
      · exact absurd h.1 c
      · obtain ⟨o, nb, ho, hnb, h0, h1, h2⟩ := h.2.1
        rw [oB, if_neg c, h2] at fit ⊢
        rw [h1]
        show ((nI o).toInt8.toInt32).toInt8.toInt32 = nI o
        rw [fit, fit]
/-- what the reference lays down for a row -/
def kR (σ : zMem) (w : Int32) (b p : Nat) : Int32 := if w = 3 then wvM σ b p else oB σ p
theorem l_mk2 {σ0 : zMem} (hk : kM σ0) {d b h : Nat} (hd : d < 8) {w a : Int32} (hw : w = 3 → a = nI b ∧ b < 10 ∧ h < 24 ∧ σ0 33 0 b = nI h) {Q : Int32 → zMem → Prop} (k : ∀ σ, ShM d σ0 σ → (∀ j, j < 24 → σ 54 0 (60 * d + j) = kR σ0 w b j) → Q 0 σ) :
    ∀ m p σ, p + m = 24 → ShM d σ0 σ → (∀ j, j < p → σ 54 0 (60 * d + j) = kR σ0 w b j) → vc_X11_keep_109 (nI d) w a Q (m + 1) σ (nI p)
  | 0, p, σ, hp, h0, h1 => by
    obtain rfl : p = 24 := by omega
    exact kt (by decide) (k σ h0 h1)
  | m + 1, p, σ, hp, h0, h1 => by
    rw [vc_X11_keep_109, n60 d hd p (by omega)]
    have hv6 : vp_in (nI (60 * d + p)) 480 := in_nI (by omega) (by decide)
    have hvp : vp_in (nI p) 24 := in_nI (by omega) (by decide)
    refine kf (g24 (by omega)) ?_
    rw [cl (k := 60 * d + p) (by omega), cl (k := p) (by omega), s1]
    have fin : ∀ v, v = kR σ0 w b p → vc_X11_keep_109 (nI d) w a Q (m + 1) (um σ 54 0 (60 * d + p) v) (nI (p + 1)) := by
      intro v hv
      refine l_mk2 hk hd hw k m (p + 1) _ (by omega) (h0.um (by omega)) (fun j hj => ?_)
      by_cases e : j = p
      · subst e; rw [um_s, hv]
      · rw [um_n _ _ (by omega)]
        exact h1 j (by omega)
    refine ⟨fun c => ⟨hvp, fun c2 => ⟨hv6, fin _ ?_⟩, fun c2 => ⟨hvp, hv6, fin _ ?_⟩⟩, fun c => ?_⟩
    · rw [h0 25 0 p (by omega)] at c2
      rw [kR, if_neg c, oB, if_pos c2]
    · rw [h0 25 0 p (by omega)] at c2
      rw [kR, if_neg c, oB, if_neg c2, h0 26 0 p (by omega)]
    · obtain ⟨w1, w2, w3, w4⟩ := hw c
      have sm : SameM (fun q i j => if q = 54 then σ q i j else σ0 q i j) σ := fun q i j _ _ => by
        by_cases hq : q = 54
        · simp only [if_pos hq]
        · simp only [if_neg hq]
          exact h0 q i j (fun z => hq z.1)
      have hkσ : kM σ := kM_same sm hk
      have e33 : σ 33 0 b = nI h := (h0 33 0 b (by omega)).trans w4
      have ew : wvM σ b p = wvM σ0 b p := wvM_same sm b p
      rw [w1]
      refine mm_worthOf hkσ w2 w3 e33 (by omega) ⟨hv6, ?_⟩
      rw [← w1]
      exact fin _ (by rw [kR, if_pos c, ew])
theorem wvM_at {σ σ' : zMem} (h : ∀ q i j, 23 ≤ q → q ≤ 36 → σ' q i j = σ q i j) (b p : Nat) : wvM σ' b p = wvM σ b p := by
  have sm : SameM (fun q i j => if 23 ≤ q ∧ q ≤ 36 then σ q i j else σ' q i j) σ' := fun q i j _ _ => by
    by_cases hq : 23 ≤ q ∧ q ≤ 36
    · simp only [if_pos hq]
      exact h q i j hq.1 hq.2
    · simp only [if_neg hq]
  rw [wvM_same sm b p]
  rfl
theorem st_keep {σ : zMem} (hI : Inv σ) (a w n : Int32) : vc_X10_keep σ a w n (fun r σ1 => vc_X11_keep σ1 a w n (fun r2 σ2 => r = r2 ∧ Inv σ2)) := by
  have e0 : (0 : Int32).toInt = 0 := rfl
  have e4 : (4 : Int32).toInt = 4 := rfl
  obtain ⟨nb, hn, hb8, hb9, hB⟩ := hI.2.1
  by_cases ha : vp_in a 8
  · refine p_isShelf_t ha (k1' ?_)
    obtain ⟨d, hd, rfl⟩ := in_of ha (by decide)
    rw [cl (by omega)]
    refine ⟨fun c => ?_, fun c => ?_, fun c => ?_, fun c => ?_, fun c => ?_, fun n0 n1 n2 n3 n4 => ?_⟩
    · subst c
      refine ⟨ha, m_isShelf_t ha (k1 (m_in_t (by decide) (k1 (kf (by decide) (kf' (by decide) (kf' (by decide) ⟨ha, kf' (by decide) (kf (by decide) ⟨rfl, ?_⟩)⟩))))))⟩
      rw [cl (by omega)]
      refine Inv_sh hI ((Sh.rf.um (shc8 (by omega))).um (shc49 (by decide) (by decide))) ⟨?_, Or.inl ?_⟩
      · rw [um_q _ _ (by decide), um_s, um_s]
      · rw [um_q _ _ (by decide), um_s]
    · subst c
      refine ⟨ha, ?_⟩
      by_cases hp : vp_in n 24
      · refine p_isPlot_t hp (k1' ⟨hp, ?_⟩)
        obtain ⟨p, hpp, rfl⟩ := in_of hp (by decide)
        obtain ⟨⟨g, hg, g1, g2, g3⟩, ⟨gr, hgr, g4, g5⟩, -⟩ := hI.1 p hpp
        rw [cl (k := p) (by omega), um_q _ _ (by decide), um_q _ _ (by decide), g2, cl (k := g) (by omega), um_q _ _ (by decide), um_q _ _ (by decide), um_q _ _ (by decide), g4]
        refine ⟨hg, hp, ?_⟩
        refine m_isShelf_t ha (k1 (m_in_t (by decide) (k1 (kf (by decide) (kt' rfl (m_isPlot_t hp (k1 (kf' (by decide) ⟨ha, kt' rfl ⟨ha, hp, ha, hp, ha, kf (by decide) ⟨rfl, ?_⟩⟩⟩))))))))
        rw [cl (k := d) (by omega), cl (k := p) (by omega)]
        have q1 : ∀ {q i j : Nat} {τ : zMem} {v : Int32}, ¬ q = 8 → um τ 8 i j v q = τ q := fun h => by funext i j; exact um_q _ _ h
        refine Inv_sh hI ((((((((Sh.rf.um (shc8 (by omega))).um (shc8 (by omega))).um (shc8 (by omega))).um (shc8 (by omega))).um (shc49 (by decide) (by decide))).um (shc49 (by decide) (by decide))).um (shc49 (by decide) (by decide))).um (shc49 (by decide) (by decide))) ⟨?_, Or.inr (Or.inl ⟨?_, ?_, ⟨g, hg, ?_, ?_⟩, ?_⟩)⟩
        · simp [um]
        · simp [um]
        · simp [um]
        · simp [um]
        · simpa [um] using g3
        · simpa [um] using g5.symm
      · refine p_isPlot_f hp (k0' ?_)
        exact m_isShelf_t ha (k1 (m_in_t (by decide) (k1 (kf (by decide) (kt' rfl (m_isPlot_f hp (k0 ⟨rfl, hI⟩)))))))
    · subst c
      exact m_isShelf_t ha (k1 (m_in_t (by decide) (k1 (kt rfl ⟨rfl, hI⟩))))
    · subst c
      refine ⟨ha, ?_⟩
      by_cases hb : vp_in n nb
      · refine p_isBuyer_t hb8 hn hb (k1' ?_)
        obtain ⟨b, hbb, rfl⟩ := in_of hb (by omega)
        obtain ⟨-, -, ⟨h, hh, h31, h32⟩, -, -, -, -⟩ := (hB b (by omega)).1 hbb
        refine p_takeRow (fun σ1 a1 a2 a3 a4 => ⟨25, l_kw hI hn hb8 hbb ?_ 24 0 σ1 rfl a1 a2 a3 (fun j hj => absurd hj (by omega))⟩)
        intro σ2 b1 b2 b3 b4
        have m9 : σ2 22 0 9 = nI nb := (b1 22 0 9 (by omega)).trans hb9
        refine m_isShelf_t ha (k1 (m_in_t (by decide) (k1 (kf (by decide) (kf' (by decide) (kt' rfl (m_isBuyer_t m9 hn hb (k1' ⟨ha, kf' (by decide) (kt (by decide) ⟨ha, 25, ?_⟩)⟩))))))))
        rw [cl (k := d) (by omega)]
        have cc : ∀ q i j, 23 ≤ q → q ≤ 36 → (um (um σ2 49 0 d 3) 53 0 d 24) q i j = σ q i j := fun q i j h1 h2 => by
          rw [um_q _ _ (by omega), um_q _ _ (by omega)]
          exact b1 q i j (by omega)
        refine l_mk2 (σ0 := um (um σ2 49 0 d 3) 53 0 d 24) (h := h) (b := b) (fun p hp => ?_) hd (fun _ => ⟨rfl, by omega, hh, by rw [cc _ _ _ (by decide) (by decide)]; exact h32⟩) (fun σ3 c1 c2 => ⟨rfl, ?_⟩) 24 0 _ rfl (fun _ _ _ _ => rfl) (fun j hj => absurd hj (by omega))
        · rw [cc _ _ _ (by decide) (by decide)]
          exact kM_of hI.1 p hp
        · have f49 : σ3 49 0 d = 3 := by rw [c1 _ _ _ (by omega), um_q _ _ (by decide), um_s]
          have f53 : σ3 53 0 d = 24 := by rw [c1 _ _ _ (by omega), um_s]
          have f8 : σ3 8 d 0 = 3 := by rw [c1 _ _ _ (by omega), um_q _ _ (by decide), um_q _ _ (by decide), b2]
          have f86 : σ3 8 d 6 = 24 := by rw [c1 _ _ _ (by omega), um_q _ _ (by decide), um_q _ _ (by decide), b3]
          refine Inv_sh hI (((b1.sh.um (shc49 (by decide) (by decide))).um (shc49 (by decide) (by decide))).tr c1.sh) ⟨by rw [f8, f49], Or.inr (Or.inr ⟨Or.inl f8, 24, by omega, f86, f53, fun j hj => ⟨fun _ => ?_, fun z => absurd (f8.symm.trans z) (by decide)⟩⟩)⟩
          rw [c1 _ _ _ (by omega), um_q _ _ (by decide), um_q _ _ (by decide), b4 j hj, c2 j hj, kR, if_pos rfl, wvM_at cc, wvM_eq hI hn hb8 hbb hj]
      · refine p_isBuyer_f hb8 hn hb (k0' ?_)
        exact m_isShelf_t ha (k1 (m_in_t (by decide) (k1 (kf (by decide) (kf' (by decide) (kt' rfl (m_isBuyer_f hb9 hn hb (k0' ⟨rfl, hI⟩))))))))
    · subst c
      refine ⟨ha, p_takeRow (fun σ1 a1 a2 a3 a4 => ⟨25, l_ko hI ?_ 24 0 σ1 rfl a1 a2 a3 (fun j hj => absurd hj (by omega))⟩)⟩
      intro σ2 b1 b2 b3 b4
      refine m_isShelf_t ha (k1 (m_in_t (by decide) (k1 (kf (by decide) (kf' (by decide) (kf' (by decide) ⟨ha, kf' (by decide) (kt (by decide) ⟨ha, 25, ?_⟩)⟩))))))
      rw [cl (k := d) (by omega)]
      have cc : ∀ q i j, 23 ≤ q → q ≤ 36 → (um (um σ2 49 0 d 4) 53 0 d 24) q i j = σ q i j := fun q i j h1 h2 => by
        rw [um_q _ _ (by omega), um_q _ _ (by omega)]
        exact b1 q i j (by omega)
      refine l_mk2 (σ0 := um (um σ2 49 0 d 4) 53 0 d 24) (h := 0) (b := 0) (fun p hp => ?_) hd (fun z => absurd z (by decide)) (fun σ3 c1 c2 => ⟨rfl, ?_⟩) 24 0 _ rfl (fun _ _ _ _ => rfl) (fun j hj => absurd hj (by omega))
      · rw [cc _ _ _ (by decide) (by decide)]
        exact kM_of hI.1 p hp
      · have f49 : σ3 49 0 d = 4 := by rw [c1 _ _ _ (by omega), um_q _ _ (by decide), um_s]
        have f53 : σ3 53 0 d = 24 := by rw [c1 _ _ _ (by omega), um_s]
        have f8 : σ3 8 d 0 = 4 := by rw [c1 _ _ _ (by omega), um_q _ _ (by decide), um_q _ _ (by decide), b2]
        have f86 : σ3 8 d 6 = 24 := by rw [c1 _ _ _ (by omega), um_q _ _ (by decide), um_q _ _ (by decide), b3]
        refine Inv_sh hI (((b1.sh.um (shc49 (by decide) (by decide))).um (shc49 (by decide) (by decide))).tr c1.sh) ⟨by rw [f8, f49], Or.inr (Or.inr ⟨Or.inr f8, 24, by omega, f86, f53, fun j hj => ⟨fun z => absurd (f8.symm.trans z) (by decide), fun _ => ?_⟩⟩)⟩
        have e9 : σ3 10 d j = oB σ j := by rw [c1 _ _ _ (by omega), um_q _ _ (by decide), um_q _ _ (by decide), b4 j hj]
        rw [e9, c2 j hj, kR, if_neg (by decide)]
        refine ⟨?_, oB_fit hI.1 hj⟩
        rw [oB, oB, cc _ _ _ (by decide) (by decide), cc _ _ _ (by decide) (by decide)]
    · refine m_isShelf_t ha (k1 (m_in_f (fun z => ?_) (k0 ⟨rfl, hI⟩)))
      rw [tq] at n0 n1 n2 n3 n4
      have e1 : (1 : Int32).toInt = 1 := rfl
      have e2 : (2 : Int32).toInt = 2 := rfl
      have e3 : (3 : Int32).toInt = 3 := rfl
      omega
  · refine p_isShelf_f ha (k0' ?_)
    exact m_isShelf_f ha (k0 ⟨rfl, hI⟩)
