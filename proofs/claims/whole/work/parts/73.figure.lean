/-! The reference reads: well, or once there is a fault not at all. -/
def Flt (h h' : AH) (f pl : Nat) : Prop := ∃ h1, Tf h h1 ∧ h' = hs (hs h1 278 8 (nI pl)) 278 7 (nI f)
theorem Flt.pre {h h0 h' : AH} {f pl : Nat} (a : Tf h h0) (b : Flt h0 h' f pl) : Flt h h' f pl := b.elim fun h1 q => ⟨h1, a.tr q.1, q.2⟩
theorem Flt.k {h h' : AH} {f pl k : Nat} (b : Flt h h' f pl) (hk : k ≠ 278) : h' k = h k := by
  obtain ⟨h1, t, rfl⟩ := b
  rw [hs_q _ _ _ hk, hs_q _ _ _ hk, t.1 k hk]
theorem Flt.j {h h' : AH} {f pl j : Nat} (b : Flt h h' f pl) (hj : j < 7 ∨ 12 < j) : h' 278 j = h 278 j := by
  obtain ⟨h1, t, rfl⟩ := b
  rw [hs_ki _ _ _ (by omega), hs_ki _ _ _ (by omega), t.2 j (by omega)]
theorem Flt.e8 {h h' : AH} {f pl : Nat} (b : Flt h h' f pl) : h' 278 8 = nI pl := by
  obtain ⟨h1, t, rfl⟩ := b
  rw [hs_ki _ _ _ (by decide), hs_kj]
theorem Flt.e7 {h h' : AH} {f pl : Nat} (b : Flt h h' f pl) : h' 278 7 = nI f := by
  obtain ⟨h1, t, rfl⟩ := b
  rw [hs_kj]
theorem well1 {h : AH} (w : h 278 8 = -1) : fX6_isWell h = some (1, h) := by
  unfold fX6_isWell
  rw [w, if_pos (show (-1 : Int32) < 0 by decide)]
theorem bad0 {h : AH} (w : ¬ h 278 8 < 0) : fX6_isWell h = some (0, h) := by
  unfold fX6_isWell
  rw [if_neg w]
theorem bTakes {h : AH} (w : ¬ h 278 8 < 0) (a b : Int32) : fX6_takes a b h = some (0, h) := by
  unfold fX6_takes
  rw [bad0 w, bnd_e, if0]
theorem bFigure {h : AH} (w : ¬ h 278 8 < 0) (a b : Int32) : fX6_figure a b h = some (0, h) := by
  unfold fX6_figure
  rw [bad0 w, bnd_e, if0]
  unfold fX6_in
  by_cases z : h 278 12 < a
  · rw [if_pos z, bnd_e, bTakes w, bnd_e]
  · rw [if_neg z]
    by_cases y : b < h 278 12
    · rw [if_pos y, bnd_e, bTakes w, bnd_e]
    · rw [if_neg y, bnd_e, bTakes w, bnd_e]
theorem bFollows {h : AH} (w : ¬ h 278 8 < 0) (a b : Int32) : fX6_follows a b h = some (0, h) := by
  unfold fX6_follows
  by_cases z : h 278 11 = 3
  · rw [if_pos z, bTakes w, bnd_e, bFigure w, bnd_e]
  · rw [if_neg z, bTakes w, bnd_e, bFigure w, bnd_e]
theorem bMust {h : AH} (w : ¬ h 278 8 < 0) (a : Int32) : fX6_must a h = some ((), h) := by
  unfold fX6_must
  rw [bad0 w, bnd_e, if0]
theorem mTake {h : AH} {n p q : Nat} {bb : Nat → Nat} (m : MT h n bb p) (w : h 278 8 = -1) (e9 : h 278 9 = nI q) (hq : q ≤ n) (k : Int32) : ∃ h', fX6_takes 1 k h = some (h 278 12, h') ∧ MT h' n bb q ∧ Tf h h' := by
  obtain ⟨h', k1, m1, t1⟩ := mAdv m.1 hq e9
  refine ⟨h', ?_, m1, t1⟩
  unfold fX6_takes
  rw [well1 w, bnd_e, if1, if1, vl_e, k1, bnd_e]
theorem mFault {h : AH} {n p : Nat} {bb : Nat → Nat} (m : MT h n bb p) (w : h 278 8 = -1) (f : Nat) : ∃ h', fX6_takes 0 (nI f) h = some (0, h') ∧ Flt h h' f p := by
  refine ⟨_, ?_, h, Tf.rf h, rfl⟩
  unfold fX6_takes
  rw [well1 w, bnd_e, if1, if0, sto_e, sto_e, m.2.2.1]
theorem rN_le {n lo hi p v q : Nat} {bb : Nat → Nat} (h : rN n bb lo hi p = .inr (v, q)) : q ≤ n ∧ lo ≤ v ∧ v ≤ hi ∧ p < q := by
  unfold rN at h
  cases d0 : isd n bb p with
  | false => rw [d0, if_pos rfl] at h; cases h
  | true =>
    have g0 := isd_lt d0
    rw [d0, if_neg (by decide)] at h
    cases d1 : isd n bb (p + 1) with
    | false =>
      rw [d1, if_pos rfl] at h
      by_cases z : lo ≤ bb p - 48 ∧ bb p - 48 ≤ hi
      · rw [if_pos z] at h; cases h; omega
      · rw [if_neg z] at h; cases h
    | true =>
      have g1 := isd_lt d1
      rw [d1, if_neg (by decide)] at h
      cases d2 : isd n bb (p + 2) with
      | false =>
        rw [d2, if_pos rfl] at h
        by_cases z : lo ≤ 10 * (bb p - 48) + (bb (p + 1) - 48) ∧ 10 * (bb p - 48) + (bb (p + 1) - 48) ≤ hi
        · rw [if_pos z] at h; cases h; omega
        · rw [if_neg z] at h; cases h
      | true => rw [d2, if_neg (by decide)] at h; cases h
theorem mFigure {h : AH} {n p lo hi : Nat} {bb : Nat → Nat} (m : MT h n bb p) (w : h 278 8 = -1) (hl : lo ≤ 100) (hh : hi ≤ 100) : match rN n bb lo hi p with
    | .inl (f, pl) => ∃ h', fX6_figure (nI lo) (nI hi) h = some (0, h') ∧ Flt h h' f pl
    | .inr (v, q) => ∃ h', fX6_figure (nI lo) (nI hi) h = some (nI v, h') ∧ MT h' n bb q ∧ Tf h h' := by
  have flt : ∀ f : Nat, (bnd (fX6_takes 0 (nI f) h) fun v12 h11 => some (v12, h11)) = fX6_takes 0 (nI f) h := by
    intro f
    cases fX6_takes 0 (nI f) h <;> rfl
  have no2 : ¬ h 278 11 = 2 → ∃ h', fX6_figure (nI lo) (nI hi) h = some (0, h') ∧ Flt h h' 1 p := by
    intro z
    obtain ⟨h', k1, f1⟩ := mFault m w 1
    refine ⟨h', ?_, f1⟩
    unfold fX6_figure
    rw [well1 w, bnd_e, if1, if_neg z, ← k1]
    exact flt 1
  -- a number of one figure or two
  have yes : ∀ v q, h 278 11 = 2 → h 278 12 = nI v → v < 200 → h 278 9 = nI q → q ≤ n → match (if lo ≤ v ∧ v ≤ hi then (.inr (v, q) : (Nat × Nat) ⊕ (Nat × Nat)) else .inl (2, p)) with
    | .inl (f, pl) => ∃ h', fX6_figure (nI lo) (nI hi) h = some (0, h') ∧ Flt h h' f pl
    | .inr (v, q) => ∃ h', fX6_figure (nI lo) (nI hi) h = some (nI v, h') ∧ MT h' n bb q ∧ Tf h h' := by
    intro v q e2 ev hv e9 hq
    unfold fX6_figure
    rw [well1 w, bnd_e, if1, if_pos e2, ev]
    by_cases z : lo ≤ v ∧ v ≤ hi
    · rw [if_pos z, mIn_i h (nI_nlt z.1 (by omega)) (nI_nlt z.2 (by omega)), bnd_e]
      obtain ⟨h', k1, m1, t1⟩ := mTake m w e9 hq 2
      refine ⟨h', ?_, m1, t1⟩
      rw [k1, bnd_e, ev]
    · rw [if_neg z]
      have nin : fX6_in (nI v) (nI lo) (nI hi) h = some (0, h) := by
        by_cases y : v < lo
        · exact mIn_l h (nI_lt y (by omega))
        · exact mIn_u h (nI_nlt (by omega) (by omega)) (nI_lt (by omega) (by omega))
      obtain ⟨h', k1, f1⟩ := mFault m w 2
      refine ⟨h', ?_, f1⟩
      rw [nin, bnd_e, ← k1]
      exact flt 2
  have tk := m.2.2.2.1
  unfold tkF at tk
  unfold rN
  cases d0 : isd n bb p with
  | false =>
    rw [if_pos rfl]
    refine no2 ?_
    rw [tk, d0, if_neg (show ¬ (false = true) by decide)]
    split
    · split
      · decide
      · split
        · decide
        · split <;> decide
    · decide
  | true =>
    have g0 := isd_lt d0
    rw [if_neg (show ¬ (true = false) by decide)]
    rw [d0, if_pos (show true = true from rfl)] at tk
    cases d1 : isd n bb (p + 1) with
    | false =>
      rw [if_pos rfl]
      rw [d1, Bool.false_and, if_neg (show ¬ (false = true) by decide)] at tk
      have e := m.2.2.2.2.2.1 d0 d1
      exact yes (bb p - 48) (p + 1) tk e.1 (by omega) e.2 (by omega)
    | true =>
      have g1 := isd_lt d1
      rw [if_neg (show ¬ (true = false) by decide)]
      rw [d1, Bool.true_and] at tk
      cases d2 : isd n bb (p + 2) with
      | false =>
        rw [if_pos rfl]
        rw [d2, if_neg (show ¬ (false = true) by decide)] at tk
        have e := m.2.2.2.2.2.2 d0 d1 d2
        exact yes _ (p + 2) tk e.1 (by omega) e.2 (by omega)
      | true =>
        rw [if_neg (show ¬ (true = false) by decide)]
        rw [d2, if_pos (show true = true from rfl)] at tk
        exact no2 (by rw [tk]; decide)
