/-! estuary, on both sides. -/
def zr (e : Nat → Int32) (i : Nat) : Nat → Int32 := fun j => if j < i then 0 else e j
theorem zr_0 (e : Nat → Int32) : zr e 0 = e := by
  funext j
  unfold zr
  rw [if_neg (by omega)]
theorem zr_s (e : Nat → Int32) (i : Nat) : upd (zr e i) i 0 = zr e (i + 1) := by
  funext j
  by_cases a : j = i
  · subst a; rw [upd_s]; unfold zr; rw [if_pos (by omega)]
  · rw [upd_n _ _ a]
    unfold zr
    by_cases b : j < i
    · rw [if_pos b, if_pos (by omega)]
    · rw [if_neg b, if_neg (by omega)]
theorem zr_z (e : Nat → Int32) : ∀ j, j < 43 → zr e 43 j = 0 := by
  intro j hj
  unfold zr
  rw [if_pos hj]
theorem mZero_L {h : AH} {k : Int32 → AH → Option (Int32 × AH)} : ∀ m i f, i + m = 43 → m < f → fX6_estuary_L2 f (nI i) (hr h 285 (zr (h 285) i)) k = k (nI 43) (hr h 285 (zr (h 285) 43)) := by
  intro m
  induction m with
  | zero =>
    intro i f hi hf
    obtain ⟨g, rfl, -⟩ := fuel_s hf
    have : i = 43 := by omega
    subst this
    rw [fX6_estuary_L2, if_neg (show ¬ nI 43 < 43 from nI_nlt (b := 43) (Nat.le_refl 43) (by omega))]
  | succ m ih =>
    intro i f hi hf
    obtain ⟨g, rfl, hg⟩ := fuel_s hf
    rw [fX6_estuary_L2, if_pos (show nI i < 43 from nI_lt (b := 43) (by omega) (by omega)), cW ln_285 (by omega), nI_clamp (by omega), sto_e, vl_e, nI_1, hs_hr, zr_s]
    exact ih (i + 1) g (by omega) (by omega)
theorem mEst {h : AH} {n : Nat} {bb : Nat → Nat} (b : MB h n bb) : match rAll n bb (zr (h 285) 43) with
    | .inl (f, pl) => ∃ h', fX6_estuary h = some (-1000100 - nI pl, h') ∧ (∀ k, k ≠ 278 → k ≠ 285 → h' k = h k) ∧ (∀ j, (j < 6 ∨ 12 < j) → h' 278 j = h 278 j) ∧ h' 278 6 = 0 ∧ h' 278 7 = nI f
    | .inr (T, P, e') => ∃ h', fX6_estuary h = some (nI T, h') ∧ (∀ k, k ≠ 278 → k ≠ 284 → k ≠ 285 → h' k = h k) ∧ (∀ j, (j < 6 ∨ j = 7 ∨ (12 < j ∧ j ≠ 17)) → h' 278 j = h 278 j) ∧ h' 278 6 = 0 ∧ h' 278 17 = 0 ∧ ∀ j, j < 43 → h' 284 j = e' j := by
  have go : ∀ K : Int32 → AH → Option (Int32 × AH), fX6_estuary_L2 FU 0 h K = K (nI 43) (hr h 285 (zr (h 285) 43)) := by
    intro K
    have := mZero_L (h := h) (k := K) 43 0 FU (by omega) (by have := FU_big; omega)
    rw [zr_0, hr_self, nI_0] at this
    exact this
  rw [est_eq, go, sto_e, sto_e]
  have b4 : MB (hs (hs (hr h 285 (zr (h 285) 43)) 278 9 0) 278 8 (-1)) n bb := b.to (by rw [hs_ki _ _ _ (by decide), hs_ki _ _ _ (by decide), hr_ne _ _ (by decide)]) (by rw [hs_q _ _ _ (by decide), hs_q _ _ _ (by decide), hr_ne _ _ (by decide)])
  have k4 : ∀ k, k ≠ 278 → k ≠ 285 → hs (hs (hr h 285 (zr (h 285) 43)) 278 9 0) 278 8 (-1) k = h k := fun k x y => by rw [hs_q _ _ _ x, hs_q _ _ _ x, hr_ne _ _ y]
  have j4 : ∀ j, (j < 8 ∨ 9 < j) → hs (hs (hr h 285 (zr (h 285) 43)) 278 9 0) 278 8 (-1) 278 j = h 278 j := fun j hj => by rw [hs_ki _ _ _ (by omega), hs_ki _ _ _ (by omega), hr_ne _ _ (by decide)]
  have e4 : hs (hs (hr h 285 (zr (h 285) 43)) 278 9 0) 278 8 (-1) 285 = zr (h 285) 43 := by rw [hs_q _ _ _ (by decide), hs_q _ _ _ (by decide), hr_eq]
  have a4 : hs (hs (hr h 285 (zr (h 285) 43)) 278 9 0) 278 8 (-1) 278 9 = nI 0 := by rw [hs_ki _ _ _ (by decide), hs_kj]; rfl
  have w4 : hs (hs (hr h 285 (zr (h 285) 43)) 278 9 0) 278 8 (-1) 278 8 = -1 := hs_kj _ _ _ _
  revert b4 k4 j4 e4 a4 w4
  generalize hs (hs (hr h 285 (zr (h 285) 43)) 278 9 0) 278 8 (-1) = g
  intro b4 k4 j4 e4 a4 w4
  have z := zr_z (h 285)
  revert e4 z
  generalize zr (h 285) 43 = e
  intro e4 z
  obtain ⟨h5, k5, m5, t5⟩ := mAdv b4 (Nat.zero_le n) a4
  rw [k5, bnd_e]
  have w5 := t5.w w4
  have e5 : h5 285 = e := (t5.1 285 (by decide)).trans e4
  have hn := b.1
  -- a fault, told of g
  have bad : ∀ f pl h', Fl g h' f pl → ∃ h2, eF h' = some (-1000100 - nI pl, h2) ∧ (∀ k, k ≠ 278 → k ≠ 285 → h2 k = h k) ∧ (∀ j, (j < 6 ∨ 12 < j) → h2 278 j = h 278 j) ∧ h2 278 6 = 0 ∧ h2 278 7 = nI f := by
    intro f pl h' F
    obtain ⟨h2, q1, q2, q3, q4, q5⟩ := eF_B F
    exact ⟨h2, q1, fun k x y => (q2 k x y).trans (k4 k x y), fun j hj => (q3 j hj).trans (j4 j (by omega)), q4, q5⟩
  have L := mLaw (z := nI 43) m5 w5
  unfold rAll
  cases r1 : rL n bb with
  | inl a =>
    obtain ⟨f, pl⟩ := a
    rw [r1] at L
    obtain ⟨h6, k6, F6⟩ := L
    simp only [sbd]
    rw [k6]
    exact bad _ _ _ (F6.pre t5.mf)
  | inr a =>
  obtain ⟨v, u, q⟩ := a
  rw [r1] at L
  obtain ⟨h6, k6, m6, t6, e6⟩ := L
  have gl := rL_le r1
  have s1 := G0_law z gl.2.1 gl.2.2
  rw [e5] at e6
  simp only [sbd]
  rw [k6]
  have f6 : Mf g h6 := t5.mf.tr t6
  have X := mTugs_L (z := nI 43) (k := fun h16 => eD (nI 43) h16) 6 0 q (upd (upd e 0 (nI v)) 1 (nI u)) FU h6 (by omega) (by have := FU_big; omega) m6 (f6.w w4) e6 s1.1.2.2.1
  cases r2 : rTs n bb 6 q (upd (upd e 0 (nI v)) 1 (nI u)) with
  | inl a =>
    obtain ⟨f, pl⟩ := a
    rw [r2] at X
    obtain ⟨h7, k7, F7⟩ := X
    simp only []
    rw [k7, eD_bad F7.2.2.2.2]
    exact bad _ _ _ (F7.pre f6)
  | inr a =>
  obtain ⟨T, p, e2⟩ := a
  rw [r2] at X
  obtain ⟨h7, k7, m7, t7, e7, T7⟩ := X
  have s2 := rTs_G 6 0 _ _ _ _ _ (by omega) s1 r2
  have f7 : Mf g h7 := f6.tr t7
  have hT := s2.1.1
  simp only []
  rw [k7]
  unfold eD
  have c2 : h7 285 (Int32.toNatClampNeg 2) = nI T := by rw [cl_2, e7, T7]
  rw [cW2 ln_285, c2]
  by_cases y : T = 0
  · rw [if_pos y, y, if_neg (show ¬ (0 : Int32) < nI 0 by decide)]
    obtain ⟨h8, k8, F8⟩ := mMust0 m7 (f7.w w4)
    obtain ⟨f', hf⟩ := FU_1
    rw [k8, bnd_e, hf, L158_bad F8.2.2.2.2, eE_bad F8.2.2.2.2]
    exact bad _ _ _ (F8.pre f7)
  · rw [if_neg y, if_pos (show (0 : Int32) < nI T from nI_lt (a := 0) (by omega) (by omega)), mMust1 (f7.w w4), bnd_e]
    have Y := mPiers_L (z := nI 43) (k := fun h18 => eE h18) 4 0 p e2 FU h7 (by omega) (by have := FU_big; omega) m7 (f7.w w4) e7 s2.1.2.2.2
    cases r3 : rQs n bb 4 p e2 with
    | inl a =>
      obtain ⟨f, pl⟩ := a
      rw [r3] at Y
      obtain ⟨h8, k8, F8⟩ := Y
      simp only []
      rw [k8, eE_bad F8.2.2.2.2]
      exact bad _ _ _ (F8.pre f7)
    | inr a =>
      obtain ⟨P, p3, e3⟩ := a
      rw [r3] at Y
      obtain ⟨h8, k8, m8, t8, e8⟩ := Y
      have s3 := rQs_G 4 0 _ _ _ _ _ (by omega) s2 r3
      have f8 : Mf g h8 := f7.tr t8
      have hp3 := m8.2.1
      simp only []
      rw [k8]
      unfold eE
      by_cases x : p3 = n
      · rw [if_pos x, if_pos (show h8 278 11 = 0 by rw [m8.2.2.2.1]; exact tk0.mpr (by omega)), mMust1 (f8.w w4), bnd_e]
        obtain ⟨h9, q1, q2, q3, q4, q5, q6⟩ := eF_G (f8.w w4)
        refine ⟨h9, ?_, fun k x y z => (q2 k x y).trans ((f8.1 k x z).trans (k4 k x z)), fun j hj => (q3 j hj).trans ((f8.2 j (by omega)).trans (j4 j (by omega))), q4, q5, fun j hj => by rw [q6 j hj, e8]⟩
        rw [q1, e8, s3.1.2.2.1]
      · rw [if_neg x, if_neg (show ¬ h8 278 11 = 0 by rw [m8.2.2.2.1]; exact fun y => x (by have := tk0.mp y; omega))]
        obtain ⟨h9, k9, F9⟩ := mMust0 m8 (f8.w w4)
        rw [k9, bnd_e]
        exact bad _ _ _ (F9.pre f8)
