/-! The reference reads the whole text. -/
def eF (h19 : AH) : Option (Int32 × AH) := (sto (hs h19 278 6 (0 : Int32)) fun h20 => (bnd (fX6_isWell  h20) fun v22 h21 => (if v22 = 0 then (some (((-1000100 : Int32) - (h21 278 8)), h21)) else (bnd (fX6_copies 285 (0 : Int32) 284 (0 : Int32) h21) fun _ h23 => (sto (hs h23 278 17 (0 : Int32)) fun h24 => (chk (inb (2 : Int32) (ln 284)) (some ((h24 284 (Int32.toNatClampNeg (2 : Int32))), h24))))))))
def eE (h18 : AH) : Option (Int32 × AH) := (if (h18 278 11) = 0 then (bnd (fX6_must (1 : Int32) h18) fun _ h19 => eF h19) else (bnd (fX6_must (0 : Int32) h18) fun _ h19 => eF h19))
def eD (z1 : Int32) (h16 : AH) : Option (Int32 × AH) := (chk (inb (2 : Int32) (ln 285)) (if 0 < (h16 285 (Int32.toNatClampNeg (2 : Int32))) then (bnd (fX6_must (1 : Int32) h16) fun _ h17 => (fX6_estuary_L158 z1 FU  h17 fun h18 => eE h18)) else (bnd (fX6_must (0 : Int32) h16) fun _ h17 => (fX6_estuary_L158 z1 FU  h17 fun h18 => eE h18))))
def eC (z1 : Int32) (h13 : AH) : Option (Int32 × AH) := (if (h13 278 11) = (4 : Int32) then (bnd (fX6_takes (1 : Int32) (1 : Int32) h13) fun _ h14 => (fX6_estuary_L108 z1 FU  h14 fun h16 => eD z1 h16)) else (bnd (fX6_takes (0 : Int32) (1 : Int32) h13) fun _ h14 => (fX6_estuary_L108 z1 FU  h14 fun h16 => eD z1 h16)))
def eB3 (z1 v12 : Int32) (h11 : AH) : Option (Int32 × AH) := (chk (inb (1 : Int32) (ln 285)) (sto (hs h11 285 (Int32.toNatClampNeg (1 : Int32)) v12) fun h13 => eC z1 h13))
def eB2 (z1 v9 : Int32) (h8 : AH) : Option (Int32 × AH) := (chk (inb (0 : Int32) (ln 285)) (sto (hs h8 285 (Int32.toNatClampNeg (0 : Int32)) v9) fun h10 => (bnd (fX6_follows (1 : Int32) (99 : Int32) h10) fun v12 h11 => eB3 z1 v12 h11)))
def eB (z1 : Int32) (h6 : AH) : Option (Int32 × AH) := (bnd (fX6_figure (1 : Int32) (60 : Int32) h6) fun v9 h8 => eB2 z1 v9 h8)
def eA (z1 : Int32) (h5 : AH) : Option (Int32 × AH) := (if (h5 278 11) = (1 : Int32) then (if (h5 278 12) = (116 : Int32) then (bnd (fX6_takes (1 : Int32) (1 : Int32) h5) fun _ h6 => eB z1 h6) else (bnd (fX6_takes (0 : Int32) (1 : Int32) h5) fun _ h6 => eB z1 h6)) else (bnd (fX6_takes (0 : Int32) (1 : Int32) h5) fun _ h6 => eB z1 h6))
theorem est_eq (h : AH) : fX6_estuary h = (fX6_estuary_L2  FU (0 : Int32) h fun z1 h2 => (sto (hs h2 278 9 (0 : Int32)) fun h3 => (sto (hs h3 278 8 (-1 : Int32)) fun h4 => (bnd (fX6_advances  h4) fun _ h5 => eA z1 h5)))) := rfl
theorem eE_bad {h : AH} (w : ¬ h 278 8 < 0) : eE h = eF h := by
  unfold eE
  rw [bMust w, bMust w, bnd_e]
  split <;> rfl
theorem FU_1 : ∃ f, FU = f + 1 := ⟨FU - 1, by have := FU_big; omega⟩
theorem eD_bad {z : Int32} {h : AH} (w : ¬ h 278 8 < 0) : eD z h = eF h := by
  obtain ⟨f, hf⟩ := FU_1
  unfold eD
  rw [cW2 ln_285, bMust w, bMust w, bnd_e, hf, L158_bad w, eE_bad w]
  split <;> rfl
theorem eC_bad {z : Int32} {h : AH} (w : ¬ h 278 8 < 0) : eC z h = eF h := by
  obtain ⟨f, hf⟩ := FU_1
  unfold eC
  rw [bTakes w, bTakes w, bnd_e, hf, L108_bad w, eD_bad w]
  split <;> rfl
theorem eB3_bad {z v : Int32} {h : AH} (w : ¬ h 278 8 < 0) : eB3 z v h = eF (hs h 285 1 v) := by
  unfold eB3
  rw [cW1 ln_285, sto_e, cl_1, eC_bad (by rw [hs_q _ _ _ (by decide)]; exact w)]
theorem eB2_bad {z v : Int32} {h : AH} (w : ¬ h 278 8 < 0) : eB2 z v h = eF (hs (hs h 285 0 v) 285 1 0) := by
  have w2 : ¬ hs h 285 0 v 278 8 < 0 := by rw [hs_q _ _ _ (by decide)]; exact w
  unfold eB2
  rw [cW0 ln_285, sto_e, cl_0, bFollows w2, bnd_e, eB3_bad w2]
theorem eB_bad {z : Int32} {h : AH} (w : ¬ h 278 8 < 0) : eB z h = eF (hs (hs h 285 0 0) 285 1 0) := by
  unfold eB
  rw [bFigure w, bnd_e, eB2_bad w]
theorem eF_B {h h' : AH} {f pl : Nat} (b : Fl h h' f pl) : ∃ h2, eF h' = some (-1000100 - nI pl, h2) ∧ (∀ k, k ≠ 278 → k ≠ 285 → h2 k = h k) ∧ (∀ j, (j < 6 ∨ 12 < j) → h2 278 j = h 278 j) ∧ h2 278 6 = 0 ∧ h2 278 7 = nI f := by
  have w2 : ¬ hs h' 278 6 0 278 8 < 0 := by rw [hs_ki _ _ _ (by decide)]; exact b.2.2.2.2
  unfold eF
  rw [sto_e, bad0 w2, bnd_e, if0, hs_ki _ _ _ (show (8 : Nat) ≠ 6 by decide), b.2.2.1]
  refine ⟨_, rfl, fun k x y => (hs_q _ _ _ x).trans (b.1 k x y), fun j hj => ?_, hs_kj _ _ _ _, ?_⟩
  · rw [hs_ki _ _ _ (by omega)]; exact b.2.1 j (by omega)
  · rw [hs_ki _ _ _ (by decide)]; exact b.2.2.2.1
theorem eF_G {h : AH} (w : h 278 8 = -1) : ∃ h2, eF h = some (h 285 2, h2) ∧ (∀ k, k ≠ 278 → k ≠ 284 → h2 k = h k) ∧ (∀ j, (j < 6 ∨ j = 7 ∨ (12 < j ∧ j ≠ 17)) → h2 278 j = h 278 j) ∧ h2 278 6 = 0 ∧ h2 278 17 = 0 ∧ ∀ j, j < 43 → h2 284 j = h 285 j := by
  have w2 : hs h 278 6 0 278 8 = -1 := by rw [hs_ki _ _ _ (by decide)]; exact w
  have c := mCopies (s := 285) (d := 284) (a := 0) (b := 0) (h := hs h 278 6 0) (by decide) (by rw [ln_285]; decide) (by rw [ln_284]; decide) (by rw [ln_285]; decide) (by rw [ln_284]; decide)
  rw [show nI 0 = 0 from rfl] at c
  have ci : ∀ j, j < 43 → cpR (hs h 278 6 0 285) (hs h 278 6 0 284) 0 0 43 j = h 285 j := by
    intro j hj
    have := cpR_in (f := hs h 278 6 0 285) (g := hs h 278 6 0 284) (a := 0) (b := 0) hj
    rw [Nat.zero_add] at this
    rw [this, hs_q _ _ _ (by decide)]
  revert c ci
  generalize cpR (hs h 278 6 0 285) (hs h 278 6 0 284) 0 0 43 = e
  intro c ci
  have r4 : hs (hr (hs h 278 6 0) 284 e) 278 17 0 284 = e := by rw [hs_q _ _ _ (by decide), hr_eq]
  unfold eF
  rw [sto_e, well1 w2, bnd_e, if1, c, bnd_e, sto_e, cW2 ln_284, cl_2, r4, ci 2 (by omega)]
  refine ⟨_, rfl, fun k x y => ?_, fun j hj => ?_, ?_, hs_kj _ _ _ _, fun j hj => ?_⟩
  · rw [hs_q _ _ _ x, hr_ne _ _ y, hs_q _ _ _ x]
  · rw [hs_ki _ _ _ (by omega), hr_ne _ _ (by decide), hs_ki _ _ _ (by omega)]
  · rw [hs_ki _ _ _ (by omega), hr_ne _ _ (by decide), hs_kj]
  · rw [r4]; exact ci j hj
theorem MT.to {h h' : AH} {n p : Nat} {bb : Nat → Nat} (m : MT h n bb p) (a : h' 278 = h 278) (b : h' 283 = h 283) : MT h' n bb p := by
  unfold MT
  rw [a]
  exact ⟨m.1.to (by rw [a]) b, m.2⟩
theorem mMust1 {h : AH} (w : h 278 8 = -1) : fX6_must 1 h = some ((), h) := by
  unfold fX6_must
  rw [well1 w, bnd_e, if1, if1]
theorem mMust0 {h : AH} {n p : Nat} {bb : Nat → Nat} (m : MT h n bb p) (w : h 278 8 = -1) : ∃ h', fX6_must 0 h = some ((), h') ∧ Fl h h' 1 p := by
  have hn := m.1.1
  have hp := m.2.1
  obtain ⟨h', k1, k2⟩ := mFault m w 1
  rw [show nI 1 = 1 from rfl] at k1
  refine ⟨h', ?_, k2.fl (by omega)⟩
  unfold fX6_must
  rw [well1 w, bnd_e, if1, if0, k1, bnd_e]
theorem mLet {z : Int32} {h : AH} {n p : Nat} {bb : Nat → Nat} (m : MT h n bb p) (w : h 278 8 = -1) : match rS n bb 116 p with
    | .inl (f, pl) => ∃ h', eA z h = eB z h' ∧ Fl h h' f pl
    | .inr q => ∃ h', eA z h = eB z h' ∧ MT h' n bb q ∧ Tf h h' := by
  have hn := m.1.1
  have hp := m.2.1
  unfold eA rS
  by_cases a : p < n ∧ bb p = 116
  · have e := m.2.2.2.2.1 (not_dig (by omega)) a.1
    obtain ⟨h', k1, m1, t1⟩ := mTake m w e.2 (by omega) 1
    rw [if_pos a, if_pos (show h 278 11 = 1 by rw [m.2.2.2.1]; exact tk1.mpr ⟨a.1, by omega⟩), if_pos (show h 278 12 = 116 by rw [e.1, a.2]; rfl), k1, bnd_e]
    exact ⟨h', rfl, m1, t1⟩
  · obtain ⟨h', k1, k2⟩ := mFault m w 1
    rw [show nI 1 = 1 from rfl] at k1
    rw [if_neg a]
    refine ⟨h', ?_, k2.fl (by omega)⟩
    by_cases b : p < n ∧ 97 ≤ bb p ∧ bb p ≤ 122
    · have e := m.2.2.2.2.1 (not_dig (by omega)) b.1
      rw [if_pos (show h 278 11 = 1 by rw [m.2.2.2.1]; exact tk1.mpr b), if_neg (show ¬ h 278 12 = 116 by rw [e.1]; exact fun y => a ⟨b.1, (nI_eq (b := 116) (by omega) (by omega)).mp y⟩), k1, bnd_e]
    · rw [if_neg (show ¬ h 278 11 = 1 by rw [m.2.2.2.1]; exact fun y => b (tk1.mp y)), k1, bnd_e]
theorem mLaw {z : Int32} {h : AH} {n : Nat} {bb : Nat → Nat} (m : MT h n bb 0) (w : h 278 8 = -1) : match rL n bb with
    | .inl (f, pl) => ∃ h', eA z h = eF h' ∧ Fl h h' f pl
    | .inr (v, u, q) => ∃ h', eA z h = (fX6_estuary_L108 z FU h' fun h16 => eD z h16) ∧ MT h' n bb q ∧ Mf h h' ∧ h' 285 = upd (upd (h 285) 0 (nI v)) 1 (nI u) := by
  have hn := m.1.1
  have L := mLet (z := z) m w
  unfold rL
  cases r0 : rS n bb 116 0 with
  | inl a =>
    obtain ⟨f, pl⟩ := a
    rw [r0] at L
    obtain ⟨h1, k1, k2⟩ := L
    simp only [sbd]
    refine ⟨_, ?_, (k2.w5 0 0).w5 1 0⟩
    rw [k1, eB_bad k2.2.2.2.2]
  | inr q0 =>
  rw [r0] at L
  obtain ⟨h1, k1, m1, t1⟩ := L
  simp only [sbd]
  rw [k1]
  unfold eB
  have M := mFigure (lo := 1) (hi := 60) m1 (t1.w w) (by omega) (by omega)
  rw [show nI 1 = 1 from rfl, show nI 60 = 60 from rfl] at M
  cases r1 : rN n bb 1 60 q0 with
  | inl a =>
    obtain ⟨f, pl⟩ := a
    rw [r1] at M
    obtain ⟨h2, k2, f2⟩ := M
    have pe := (rN_pl r1).1
    have g0 := rS_le r0
    have F := (f2.fl (by omega)).pre t1.mf
    simp only []
    refine ⟨_, ?_, (F.w5 0 0).w5 1 0⟩
    rw [k2, bnd_e, eB2_bad F.2.2.2.2]
  | inr a =>
  obtain ⟨v, q⟩ := a
  rw [r1] at M
  obtain ⟨h2, k2, m2, t2⟩ := M
  have g1 := rN_le r1
  simp only []
  rw [k2, bnd_e]
  unfold eB2
  rw [cW0 ln_285, sto_e, cl_0]
  have m3 : MT (hs h2 285 0 (nI v)) n bb q := m2.to (hs_q _ _ _ (by decide)) (hs_q _ _ _ (by decide))
  have t3 : Mf h (hs h2 285 0 (nI v)) := (t1.tr t2).mf.tr ⟨fun k x y => hs_q _ _ _ y, fun j _ => by rw [hs_q _ _ _ (by decide)]⟩
  have e3 : hs h2 285 0 (nI v) 285 = upd (h 285) 0 (nI v) := by rw [hs_k, (t1.tr t2).1 285 (by decide)]
  revert m3 t3 e3
  generalize hs h2 285 0 (nI v) = g3
  intro m3 t3 e3
  have N := mFollows (lo := 1) (hi := 99) m3 (t3.w w) (by omega) (by omega)
  rw [show nI 1 = 1 from rfl, show nI 99 = 99 from rfl] at N
  cases r2 : rF n bb 1 99 q with
  | inl a =>
    obtain ⟨f, pl⟩ := a
    rw [r2] at N
    obtain ⟨h4, k4, f4⟩ := N
    have pe := rF_pl r2
    have F := (f4.fl (by omega)).pre t3
    simp only []
    refine ⟨_, ?_, F.w5 1 0⟩
    rw [k4, bnd_e, eB3_bad F.2.2.2.2]
  | inr a =>
  obtain ⟨u, q2⟩ := a
  rw [r2] at N
  obtain ⟨h4, k4, m4, t4⟩ := N
  have g2 := rF_le r2
  simp only []
  rw [k4, bnd_e]
  unfold eB3
  rw [cW1 ln_285, sto_e, cl_1]
  have m5 : MT (hs h4 285 1 (nI u)) n bb q2 := m4.to (hs_q _ _ _ (by decide)) (hs_q _ _ _ (by decide))
  have t5 : Mf h (hs h4 285 1 (nI u)) := (t3.tr t4.mf).tr ⟨fun k x y => hs_q _ _ _ y, fun j _ => by rw [hs_q _ _ _ (by decide)]⟩
  have e5 : hs h4 285 1 (nI u) 285 = upd (upd (h 285) 0 (nI v)) 1 (nI u) := by rw [hs_k, t4.1 285 (by decide), e3]
  revert m5 t5 e5
  generalize hs h4 285 1 (nI u) = g5
  intro m5 t5 e5
  have ec : eC z g5 = bnd (if g5 278 11 = 4 then fX6_takes 1 1 g5 else fX6_takes 0 1 g5) fun _ h14 => (fX6_estuary_L108 z FU h14 fun h16 => eD z h16) := ib
  rw [ec]
  have S := mSign m5 (t5.w w) (by omega) (tk4 (n := n) (p := q2) (bb := bb))
  cases r3 : rS n bb 59 q2 with
  | inl a =>
    obtain ⟨f, pl⟩ := a
    rw [r3] at S
    obtain ⟨h6, k6, f6⟩ := S
    have pe := (rS_pl r3).1
    have F := (f6.fl (by omega)).pre t5
    obtain ⟨f', hf⟩ := FU_1
    simp only []
    refine ⟨h6, ?_, F⟩
    rw [k6, bnd_e, hf, L108_bad F.2.2.2.2, eD_bad F.2.2.2.2]
  | inr q3 =>
    rw [r3] at S
    obtain ⟨h6, v6, k6, m6, t6⟩ := S
    simp only []
    refine ⟨h6, ?_, m6, t5.tr t6.mf, ?_⟩
    · rw [k6, bnd_e]
    · rw [t6.1 285 (by decide), e5]
