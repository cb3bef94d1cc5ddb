/-! The class reads the whole text, by one pure reader. -/
/-- the law: mass, how far out, what is behind it -/
def rL (n : Nat) (bb : Nat → Nat) : (Nat × Nat) ⊕ (Nat × Nat × Nat) := sbd (rS n bb 116 0) fun p => sbd (rN n bb 1 60 p) fun a => sbd (rF n bb 1 99 a.2) fun b => sbd (rS n bb 59 b.2) fun q => .inr (a.1, b.1, q)
/-- the tugs, m more at most -/
def rTs (n : Nat) (bb : Nat → Nat) : Nat → Nat → (Nat → Int32) → (Nat × Nat) ⊕ (Nat × Nat × (Nat → Int32))
  | 0, p, e => if p < n ∧ kdN (bb p) ≠ 0 then .inl (3, p) else .inr (6, p, e)
  | m + 1, p, e => if p < n ∧ kdN (bb p) ≠ 0 then sbd (rP n bb 1 20 (p + 1)) fun a => rTs n bb m a.2.2 (addT e (5 - m) (kdN (bb p)) a.1 a.2.1) else .inr (5 - m, p, e)
/-- the piers, m more at most -/
def rQs (n : Nat) (bb : Nat → Nat) : Nat → Nat → (Nat → Int32) → (Nat × Nat) ⊕ (Nat × Nat × (Nat → Int32))
  | 0, p, e => if p < n ∧ bb p = 113 then .inl (3, p) else .inr (4, p, e)
  | m + 1, p, e => if p < n ∧ bb p = 113 then sbd (rP n bb 0 98 (p + 1)) fun a => rQs n bb m a.2.2 (addP e (3 - m) a.1 a.2.1) else .inr (3 - m, p, e)
def rAll (n : Nat) (bb : Nat → Nat) (e0 : Nat → Int32) : (Nat × Nat) ⊕ (Nat × Nat × (Nat → Int32)) :=
  sbd (rL n bb) fun a => sbd (rTs n bb 6 a.2.2 (upd (upd e0 0 (nI a.1)) 1 (nI a.2.1))) fun b => if b.1 = 0 then .inl (1, b.2.1) else
  sbd (rQs n bb 4 b.2.1 b.2.2) fun c => if c.2.1 = n then .inr (b.1, c.1, c.2.2) else .inl (1, c.2.1)
theorem rF_pl {n lo hi p f pl : Nat} {bb : Nat → Nat} (h : rF n bb lo hi p = .inl (f, pl)) : pl ≤ p + 1 := by
  unfold rF at h
  cases r : rS n bb 44 p with
  | inl a => rw [r] at h; obtain ⟨f', pl'⟩ := a; have := (rS_pl r).1; simp only [sbd] at h; cases h; omega
  | inr q => rw [r] at h; simp only [sbd] at h; have := (rN_pl h).1; have := (rS_le r).2; omega
theorem rF_le {n lo hi p v q : Nat} {bb : Nat → Nat} (h : rF n bb lo hi p = .inr (v, q)) : q ≤ n ∧ lo ≤ v ∧ v ≤ hi := by
  unfold rF at h
  cases r : rS n bb 44 p with
  | inl a => rw [r] at h; simp only [sbd] at h; cases h
  | inr q => rw [r] at h; simp only [sbd] at h; have := rN_le h; omega
theorem rP_le {n lo hi p v w q : Nat} {bb : Nat → Nat} (h : rP n bb lo hi p = .inr (v, w, q)) : q ≤ n ∧ (lo ≤ v ∧ v ≤ hi) ∧ 1 ≤ w ∧ w ≤ 20 := by
  unfold rP at h
  cases r1 : rN n bb lo hi p with
  | inl a => rw [r1] at h; simp only [sbd] at h; cases h
  | inr a =>
    rw [r1] at h; simp only [sbd] at h
    have g1 := rN_le r1
    cases r2 : rF n bb 1 20 a.2 with
    | inl b => rw [r2] at h; simp only [] at h; cases h
    | inr b =>
      rw [r2] at h; simp only [] at h
      have g2 := rF_le r2
      cases r3 : rS n bb 59 b.2 with
      | inl c => rw [r3] at h; simp only [] at h; cases h
      | inr c =>
        rw [r3] at h; simp only [] at h
        have g3 := rS_le r3
        cases h
        exact ⟨g3.1, ⟨g1.2.1, g1.2.2.1⟩, g2.2⟩
theorem xTugs_L {n P : Nat} {bb : Nat → Nat} {k : Int32 → AH → Option (Int32 × AH)} : ∀ m t p e f h, t + m = 6 → m < f → CT h n bb p → EstC e t P h 213 → (∀ u, t ≤ u → u < 6 → h 217 u = 0) → (∀ u, t ≤ u → u < 6 → e (8 + 5 * u) = 0) → match rTs n bb m p e with
    | .inl (x, pl) => ∃ h', fX4_readTugs_L15 213 f (nI t) h k = some (0, h') ∧ h' 18 3 = nI x ∧ h' 18 2 = nI pl ∧ Cf h h'
    | .inr (t', p', e') => ∃ h', fX4_readTugs_L15 213 f (nI t) h k = k (nI t') h' ∧ CT h' n bb p' ∧ h' 18 3 = h 18 3 ∧ Cf h h' ∧ EstC e' t' P h' 213 := by
  intro m
  induction m with
  | zero =>
    intro t p e f h ht hf c he z1 z2
    obtain ⟨g, rfl, -⟩ := fuel_s hf
    have ht : t = 6 := by omega
    subst ht
    unfold rTs
    rw [fX4_readTugs_L15, if_neg (show ¬ (6 : Int32) < nI 6 by decide), xSort c, bnd_e]
    by_cases a : p < n
    · rw [if_pos a]
      by_cases b : kdN (bb p) = 0
      · rw [if_neg (show ¬ (p < n ∧ kdN (bb p) ≠ 0) from fun w => w.2 b), b, if_pos (show nI 0 = 0 from rfl)]
        exact ⟨h, rfl, c, rfl, Cf.rf h, he⟩
      · rw [if_pos (show (p < n ∧ kdN (bb p) ≠ 0) from ⟨a, b⟩), if_neg (nI_ne0 (by omega) (by have := kdN_le (bb p); omega)), if_pos (show nI 6 = 6 by decide)]
        unfold fX4_faulty
        rw [sto_e, bnd_e, c01_0]
        refine ⟨_, rfl, hs_kj _ _ _ _, ?_, fun k w1 w2 => hs_q _ _ _ w1⟩
        rw [hs_ki _ _ _ (by decide)]; exact c.2.2.2.1
    · rw [if_neg a, if_neg (show ¬ (p < n ∧ kdN (bb p) ≠ 0) from fun w => a w.1), if_pos (show nI 0 = 0 from rfl)]
      exact ⟨h, rfl, c, rfl, Cf.rf h, he⟩
  | succ m ih =>
    intro t p e f h ht hf c he z1 z2
    obtain ⟨g, rfl, hg⟩ := fuel_s hf
    have et : 5 - m = t := by omega
    unfold rTs
    rw [fX4_readTugs_L15, if_neg (show ¬ (6 : Int32) < nI t from nI_nlt (a := 6) (by omega) (by omega)), xSort c, bnd_e, et]
    by_cases a : p < n
    · rw [if_pos a]
      by_cases b : kdN (bb p) = 0
      · rw [if_neg (show ¬ (p < n ∧ kdN (bb p) ≠ 0) from fun w => w.2 b), b, if_pos (show nI 0 = 0 from rfl)]
        exact ⟨h, rfl, c, rfl, Cf.rf h, he⟩
      · rw [if_pos (show (p < n ∧ kdN (bb p) ≠ 0) from ⟨a, b⟩), if_neg (nI_ne0 (by omega) (by have := kdN_le (bb p); omega)), if_neg (show ¬ nI t = 6 from fun w => by have := (nI_eq (b := 6) (by omega) (by omega)).mp w; omega)]
        have x := xTug (P := P) c a rfl (show t < 6 by omega) he (z1 t (by omega) (by omega)) (z2 t (by omega) (by omega))
        cases r : rP n bb 1 20 (p + 1) with
        | inl q =>
          obtain ⟨y, pl⟩ := q
          rw [r] at x
          obtain ⟨h', k1, k2, k3, k4⟩ := x
          simp only [sbd]
          rw [k1, bnd_e, if0]
          exact ⟨h', rfl, k2, k3, k4⟩
        | inr q =>
          obtain ⟨v, w, q⟩ := q
          rw [r] at x
          obtain ⟨h', k1, k2, k3, k4, k5, k6⟩ := x
          simp only [sbd]
          rw [k1, bnd_e, if1, vl_e, nI_1]
          have y := ih (t + 1) q (addT e t (kdN (bb p)) v w) g h' (by omega) (by omega) k2 k5 (fun u h1 h2 => by rw [k6]; exact z1 u (by omega) h2) (fun u h1 h2 => by
            unfold addT
            simp (disch := omega) only [upd_n]
            exact z2 u (by omega) h2)
          cases r2 : rTs n bb m q (addT e t (kdN (bb p)) v w) with
          | inl s =>
            obtain ⟨y1, y2⟩ := s
            rw [r2] at y
            obtain ⟨h2, j1, j2, j3, j4⟩ := y
            exact ⟨h2, j1, j2, j3, k4.tr j4⟩
          | inr s =>
            obtain ⟨y1, y2, y3⟩ := s
            rw [r2] at y
            obtain ⟨h2, j1, j2, j3, j4, j5⟩ := y
            exact ⟨h2, j1, j2, j3.trans k3, k4.tr j4, j5⟩
    · rw [if_neg a, if_neg (show ¬ (p < n ∧ kdN (bb p) ≠ 0) from fun w => a w.1), if_pos (show nI 0 = 0 from rfl)]
      exact ⟨h, rfl, c, rfl, Cf.rf h, he⟩
theorem bt_113 {n p : Nat} {bb : Nat → Nat} (hb : p < n → bb p ≤ 255) : btI n bb p = 113 ↔ p < n ∧ bb p = 113 := by
  unfold btI
  by_cases a : p < n
  · rw [if_pos a]
    have hb := hb a
    exact ⟨fun w => ⟨a, (nI_eq (b := 113) (by omega) (by omega)).mp w⟩, fun w => by rw [w.2]; rfl⟩
  · rw [if_neg a]
    exact ⟨fun w => absurd w (by decide), fun w => absurd w.1 a⟩
theorem xPiers_L {n T : Nat} {bb : Nat → Nat} {k : Int32 → AH → Option (Int32 × AH)} (hT : T ≤ 6) : ∀ m t p e f h, t + m = 4 → m < f → CT h n bb p → EstC e T t h 213 → match rQs n bb m p e with
    | .inl (x, pl) => ∃ h', fX4_readPiers_L2 213 f (nI t) h k = some (0, h') ∧ h' 18 3 = nI x ∧ h' 18 2 = nI pl ∧ Cf h h'
    | .inr (t', p', e') => ∃ h', fX4_readPiers_L2 213 f (nI t) h k = k (nI t') h' ∧ CT h' n bb p' ∧ h' 18 3 = h 18 3 ∧ Cf h h' ∧ EstC e' T t' h' 213 := by
  intro m
  induction m with
  | zero =>
    intro t p e f h ht hf c he
    obtain ⟨g, rfl, -⟩ := fuel_s hf
    have ht : t = 4 := by omega
    subst ht
    have q := bt_113 (n := n) (p := p) (bb := bb) (fun w => (c.2.2.2.2 p w).1)
    unfold rQs
    rw [fX4_readPiers_L2, if_neg (show ¬ (4 : Int32) < nI 4 by decide), xHere c, bnd_e]
    by_cases a : p < n ∧ bb p = 113
    · rw [if_pos a, if_pos (q.mpr a), if_pos (show nI 4 = 4 by decide)]
      unfold fX4_faulty
      rw [sto_e, bnd_e, c01_0]
      refine ⟨_, rfl, hs_kj _ _ _ _, ?_, fun k w1 w2 => hs_q _ _ _ w1⟩
      rw [hs_ki _ _ _ (by decide)]; exact c.2.2.2.1
    · rw [if_neg a, if_neg (fun w => a (q.mp w))]
      exact ⟨h, rfl, c, rfl, Cf.rf h, he⟩
  | succ m ih =>
    intro t p e f h ht hf c he
    obtain ⟨g, rfl, hg⟩ := fuel_s hf
    have et : 3 - m = t := by omega
    have q := bt_113 (n := n) (p := p) (bb := bb) (fun w => (c.2.2.2.2 p w).1)
    unfold rQs
    rw [fX4_readPiers_L2, if_neg (show ¬ (4 : Int32) < nI t from nI_nlt (a := 4) (by omega) (by omega)), xHere c, bnd_e, et]
    by_cases a : p < n ∧ bb p = 113
    · rw [if_pos a, if_pos (q.mpr a), if_neg (show ¬ nI t = 4 from fun w => by have := (nI_eq (b := 4) (by omega) (by omega)).mp w; omega)]
      have x := xPierR (T := T) c a.1 (show t < 4 by omega) hT he
      cases r : rP n bb 0 98 (p + 1) with
      | inl q =>
        obtain ⟨y, pl⟩ := q
        rw [r] at x
        obtain ⟨h', k1, k2, k3, k4⟩ := x
        simp only [sbd]
        rw [k1, bnd_e, if0]
        exact ⟨h', rfl, k2, k3, k4⟩
      | inr q =>
        obtain ⟨v, w, q⟩ := q
        rw [r] at x
        obtain ⟨h', k1, k2, k3, k4, k5⟩ := x
        simp only [sbd]
        rw [k1, bnd_e, if1, vl_e, nI_1]
        have y := ih (t + 1) q (addP e t v w) g h' (by omega) (by omega) k2 k5
        cases r2 : rQs n bb m q (addP e t v w) with
        | inl s =>
          obtain ⟨y1, y2⟩ := s
          rw [r2] at y
          obtain ⟨h2, j1, j2, j3, j4⟩ := y
          exact ⟨h2, j1, j2, j3, k4.tr j4⟩
        | inr s =>
          obtain ⟨y1, y2, y3⟩ := s
          rw [r2] at y
          obtain ⟨h2, j1, j2, j3, j4, j5⟩ := y
          exact ⟨h2, j1, j2, j3.trans k3, k4.tr j4, j5⟩
    · rw [if_neg a, if_neg (fun w => a (q.mp w))]
      exact ⟨h, rfl, c, rfl, Cf.rf h, he⟩
