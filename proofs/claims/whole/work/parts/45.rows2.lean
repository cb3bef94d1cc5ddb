theorem inN (a : Int32) {n : Nat} (hn : n < 2 ^ 30) : ((a < 0 ∨ (¬ a < 0 ∧ ¬ a < nI n)) ∧ ∀ h, fX6_in a 0 (nI n - 1) h = some (0, h)) ∨ ∃ k, k < n ∧ a = nI k ∧ ∀ h, fX6_in a 0 (nI n - 1) h = some (1, h) := by
  rcases sg a with q | ⟨k, hk, rfl⟩
  · exact Or.inl ⟨Or.inl q, fun h => mIn_l h q⟩
  · by_cases q : k < n
    · refine Or.inr ⟨k, q, rfl, fun h => ?_⟩
      rw [show nI n - (1 : Int32) = nI (n - 1) from pk_sub (b := 1) (by omega)]
      exact mIn_i h (n0_lt k hk) (nI_nlt (by omega) (by omega))
    · refine Or.inl ⟨Or.inr ⟨n0_lt k hk, nI_nlt (by omega) hk⟩, fun h => mIn_u h (n0_lt k hk) ?_⟩
      by_cases z : n = 0
      · subst z
        rw [Int32.lt_iff_toInt_lt, nI_toInt hk]
        have : (nI 0 - 1).toInt = -1 := by decide
        omega
      · rw [show nI n - (1 : Int32) = nI (n - 1) from pk_sub (b := 1) (by omega)]
        exact nI_lt (by omega) hk
theorem c1_ {n : Nat} (hn : n < 8) {α : Type} {o : Option α} : chk (inb (nI n) (ln 1)) o = o := chk_p (by rw [ln_1]; exact inb_n hn (by decide))
theorem c279 {n : Nat} (hn : n < 8) {α : Type} {o : Option α} : chk (inb (nI n) (ln 279)) o = o := chk_p (by rw [ln_279]; exact inb_n hn (by decide))
theorem c280 {n : Nat} (hn : n < 8) {α : Type} {o : Option α} : chk (inb (nI n) (ln 280)) o = o := chk_p (by rw [ln_280]; exact inb_n hn (by decide))
theorem c281 {n : Nat} (hn : n < 320) {α : Type} {o : Option α} : chk (inb (nI n) (ln 281)) o = o := chk_p (by rw [ln_281]; exact inb_n hn (by decide))
theorem c282 {n : Nat} (hn : n < 40) {α : Type} {o : Option α} : chk (inb (nI n) (ln 282)) o = o := chk_p (by rw [ln_282]; exact inb_n hn (by decide))
theorem cRi {n k : Nat} (hn : n < 8) (hk : k < 40) {α : Type} {o : Option α} : chk (inb (nI k) (ln (3 + 2 * n))) o = o := chk_p (by rw [lnR n hn]; exact inb_n hk (by decide))
theorem r3 (n : Nat) : 2 + 2 * n + 1 = 3 + 2 * n := by omega
theorem m40 (n : Nat) : (40 : Int32) * nI n = nI (40 * n) := pk_mul 40 n
theorem both_drop {h : AH} (i : Inv h) (a : Int32) : Both (fX5_drop a h) (fX6_drop a) := by
  unfold fX5_drop fX6_drop
  rcases rows_ a with ⟨q1, q2⟩ | ⟨n, hn, rfl, q1, q2⟩
  · refine Both.same (h := h) (v := -1000001) i ?_ ?_
    · rw [q1]; rfl
    · rw [q2]; rfl
  simp only [q1, q2, bnd_s, ↓reduceIte, if1, c1_ hn, c279 hn, c280 hn, nI_clamp (show n < 2 ^ 31 by omega), show 1 + 1 + 2 * n = 2 + 2 * n from rfl]
  rcases missing i.1 hn with ⟨q3, q4⟩ | ⟨l, m, hl, hm, p1, p2, p3, p4, p5, q3, q4⟩
  · rw [q3]
    refine Both.fnd (v := 1) (w := -1000010 - 1) i (by rfl) ?_
    rw [q4 _ (by rw [hs_q _ _ _ (by decide)])]; rfl
  · rw [q3]
    simp only [bnd_s, ↓reduceIte]
    unfold fX3_end
    simp only [vl_d, sto_d, bnd_s, xWell]
    refine Both.of rfl ?_
    rw [q4 _ (by simp (disch := omega) only [hs_q])]
    simp only [bnd_s, ↓reduceIte, sto_d, mWell]
    have e1 : hs (hs (hs (hs h (2 + 2 * n) 1 (-1)) (2 + 2 * n) 2 0) 0 7 0) 279 n (-1000000) 280 n = h (2 + 2 * n) 2 := by
      simp (disch := omega) only [hs_q]
      rw [p4, p3]
    rw [e1]
    refine ⟨_, rfl, i.rows (v := 0) (i.1.set hn (Or.inl ⟨?_, ?_⟩) ?_ ?_ ?_) ?_ ?_ ?_ ?_⟩
    · simp (disch := omega) only [hs_q, hr_ne, hs_k, hr_eq, upd_n, upd_s]
    · simp (disch := omega) only [hs_q, hr_ne, hs_k, hr_eq, upd_n, upd_s]
    · intro k h1 h2 h3 h4
      simp (disch := omega) only [hs_q, hr_ne]
    · intro j hj
      simp (disch := omega) only [hs_q, hr_ne, hs_k, hr_eq, upd_n, upd_s, and_self]
    · intro j hj
      simp (disch := omega) only [hs_q, hr_ne, hs_k, hr_eq, upd_n, upd_s]
    · simp (disch := omega) only [hs_q, hr_ne, hs_k, hr_eq, upd_n, upd_s]
    · simp (disch := omega) only [hs_q, hr_ne, hs_k, hr_eq, upd_n, upd_s]
    · intro k h1 h2 h3
      simp (disch := omega) only [hs_q, hr_ne]
    · intro j hj
      simp (disch := omega) only [hs_q, hr_ne, hs_k, hr_eq, upd_n, upd_s]
theorem both_set {h : AH} (i : Inv h) (a b c : Int32) : Both (fX5_set a b c h) (fX6_set a b c) := by
  unfold fX5_set fX6_set
  rcases rows_ a with ⟨q1, q2⟩ | ⟨n, hn, rfl, q1, q2⟩
  · refine Both.same (h := h) (v := -1000001) i ?_ ?_
    · rw [q1]; rfl
    · rw [q2]; rfl
  simp only [q1, q2, bnd_s, ↓reduceIte, if1, c1_ hn, c279 hn, c280 hn, nI_clamp (show n < 2 ^ 31 by omega), show 1 + 1 + 2 * n = 2 + 2 * n from rfl]
  rcases missing i.1 hn with ⟨q3, q4⟩ | ⟨l, m, hl, hm, p1, p2, p3, p4, p5, q3, q4⟩
  · rw [q3]
    refine Both.fnd (v := 1) (w := -1000010 - 1) i (by rfl) ?_
    rw [q4 _ (by rw [hs_q _ _ _ (by decide)])]; rfl
  rw [q3]
  simp only [bnd_s, ↓reduceIte]
  have inn : (fX3_hasRun (2 + 2 * n) b 1 h = some (0, h) ∧ ∀ h', fX6_in b 0 (nI m - 1) h' = some (0, h')) ∨ ∃ x, x < m ∧ b = nI x ∧ fX3_hasRun (2 + 2 * n) b 1 h = some (1, h) ∧ ∀ h', fX6_in b 0 (nI m - 1) h' = some (1, h') := by
    rcases inN b (show m < 2 ^ 30 by omega) with ⟨z, z2⟩ | ⟨k, hk, rfl, z2⟩
    · refine Or.inl ⟨?_, z2⟩
      rcases runs b 1 hm with ⟨y1, -⟩ | ⟨x, y, hxy, e1, e2, y1, -⟩
      · exact y1 h _ p3
      · have ey : y = 1 := (nI_eq (b := 1) (a := y) (by omega) (by omega)).mp e2.symm
        rcases z with z | ⟨-, z⟩
        · rw [e1] at z; exact absurd z (n0_lt x (by omega))
        · rw [e1] at z; exact absurd (nI_lt (show x < m by omega) (by omega)) z
    · refine Or.inr ⟨k, hk, rfl, ?_, z2⟩
      rcases runs (nI k) 1 hm with ⟨y1, -⟩ | ⟨x, y, hxy, e1, e2, y1, -⟩
      · have y2 := y1 h _ p3
        unfold fX3_hasRun at y2 ⊢
        rw [if_neg (n0_lt k (by omega)), if_neg (by decide), p3, if_neg (show ¬ nI m < 1 from nI_nlt (b := 1) (by omega) (by omega)), show nI m - (1 : Int32) = nI (m - 1) from pk_sub (b := 1) (by omega), if_neg (nI_nlt (by omega) (by omega))]
      · exact y1 h _ p3
  rcases inn with ⟨z1, z2⟩ | ⟨x, hx, rfl, z1, z2⟩
  · rw [z1]
    refine Both.fnd (v := 2) (w := -1000010 - 2) i (by rfl) ?_
    rw [q4 _ (by rw [hs_q _ _ _ (by decide)])]
    simp only [bnd_s, ↓reduceIte]
    rw [hs_q _ _ _ (by decide), p4, z2]; rfl
  rw [z1]
  simp only [bnd_s, if1]
  obtain ⟨v, n1, -⟩ := narrows hl c h h (2 + 2 * n) p1
  rw [n1]
  simp only [bnd_s, sto_d, r3, cRi hn (show x < 40 by omega), nI_clamp (show x < 2 ^ 31 by omega), xWell]
  refine Both.of rfl ?_
  rw [q4 _ (by simp (disch := omega) only [hs_q])]
  have e0 : hs (hs h (3 + 2 * n) x v) 0 7 0 280 n = nI m := by
    simp (disch := omega) only [hs_q]
    exact p4
  have e1 : hs (hs h (3 + 2 * n) x v) 0 7 0 279 n = nI l := by
    simp (disch := omega) only [hs_q]
    exact p2
  obtain ⟨v', n2, n3⟩ := narrows hl c h (hs (hs h (3 + 2 * n) x v) 0 7 0) (2 + 2 * n) p1
  have ev : v' = v := by rw [n1] at n2; cases n2; rfl
  simp only [bnd_s, ↓reduceIte, e0, z2, if1, e1, n3, m40, nI_add, c281 (show 40 * n + x < 320 by omega), sto_d, nI_clamp (show 40 * n + x < 2 ^ 31 by omega), mWell, hs_kj]
  rw [ev]
  refine ⟨_, rfl, i.rows (v := 0) (i.1.set hn (Or.inr ⟨l, m, hl, hm, ?_, ?_, ?_, ?_, fun j hj => ?_⟩) ?_ ?_ ?_) ?_ ?_ ?_ ?_⟩
  · simp (disch := omega) only [hs_q, hr_ne, hs_k, hr_eq, upd_n, upd_s]; exact p1
  · simp (disch := omega) only [hs_q, hr_ne, hs_k, hr_eq, upd_n, upd_s]; exact p2
  · simp (disch := omega) only [hs_q, hr_ne, hs_k, hr_eq, upd_n, upd_s]; exact p3
  · simp (disch := omega) only [hs_q, hr_ne, hs_k, hr_eq, upd_n, upd_s]; exact p4
  · by_cases ej : j = x
    · subst ej
      simp (disch := omega) only [hs_q, hr_ne, hs_k, hr_eq, upd_n, upd_s]
    · simp (disch := omega) only [hs_q, hr_ne, hs_k, hr_eq, upd_n, upd_s]
      exact p5 j hj
  · intro k h1 h2 h3 h4
    simp (disch := omega) only [hs_q, hr_ne]
  · intro j hj
    simp (disch := omega) only [hs_q, hr_ne, hs_k, hr_eq, upd_n, upd_s, and_self]
  · intro j hj
    simp (disch := omega) only [hs_q, hr_ne, hs_k, hr_eq, upd_n, upd_s]
  · simp (disch := omega) only [hs_q, hr_ne, hs_k, hr_eq, upd_n, upd_s]
  · simp (disch := omega) only [hs_q, hr_ne, hs_k, hr_eq, upd_n, upd_s]
  · intro k h1 h2 h3
    simp (disch := omega) only [hs_q, hr_ne]
  · intro j hj
    simp (disch := omega) only [hs_q, hr_ne, hs_k, hr_eq, upd_n, upd_s]
theorem mCopy1 {n x y : Nat} {p3 p4 : Int32} {h : AH} {k : Int32 → AH → Option (Int32 × AH)} (hn : n < 8) (hx : x + y ≤ 40) : ∀ m i f, i + m = y → m < f → fX6_copy_L92 (nI n) (nI x) p3 p4 (nI y) f (nI i) (hr h 282 (cpR (h 281) (h 282) (40 * n + x) 0 i)) k = k (nI y) (hr h 282 (cpR (h 281) (h 282) (40 * n + x) 0 y)) := by
  intro m
  induction m with
  | zero =>
    intro i f hi hf
    obtain ⟨g, rfl, -⟩ := fuel_s hf
    have : i = y := by omega
    subst this
    unfold fX6_copy_L92
    rw [if_neg (nI_nlt (Nat.le_refl i) (by omega))]
  | succ m ih =>
    intro i f hi hf
    obtain ⟨g, rfl, hg⟩ := fuel_s hf
    unfold fX6_copy_L92
    have z := cpR_s (f := h 281) (g := h 282) (a := 40 * n + x) (b := 0) (n := i)
    rw [Nat.zero_add] at z
    rw [if_pos (nI_lt (by omega) (by omega)), m40, nI_add, nI_add, c281 (by omega), c282 (by omega), nI_clamp (by omega), nI_clamp (by omega), sto_d, vl_d, nI_1, hs_hr, hr_ne _ _ (by decide), z]
    exact ih (i + 1) g (by omega) (by omega)
theorem mCopy2 {n x y : Nat} {p1 p2 : Int32} {h : AH} {k : Int32 → AH → Option (Int32 × AH)} (hn : n < 8) (hx : x + y ≤ 40) : ∀ m i f, i + m = y → m < f → fX6_copy_L129 p1 p2 (nI n) (nI x) (nI y) f (nI i) (hr h 281 (cpR (h 282) (h 281) 0 (40 * n + x) i)) k = k (nI y) (hr h 281 (cpR (h 282) (h 281) 0 (40 * n + x) y)) := by
  intro m
  induction m with
  | zero =>
    intro i f hi hf
    obtain ⟨g, rfl, -⟩ := fuel_s hf
    have : i = y := by omega
    subst this
    unfold fX6_copy_L129
    rw [if_neg (nI_nlt (Nat.le_refl i) (by omega))]
  | succ m ih =>
    intro i f hi hf
    obtain ⟨g, rfl, hg⟩ := fuel_s hf
    unfold fX6_copy_L129
    have z := cpR_s (f := h 282) (g := h 281) (a := 0) (b := 40 * n + x) (n := i)
    rw [Nat.zero_add] at z
    rw [if_pos (nI_lt (by omega) (by omega)), m40, nI_add, nI_add, c281 (by omega), c282 (by omega), nI_clamp (by omega), nI_clamp (by omega), sto_d, vl_d, nI_1, hs_hr, hr_ne _ _ (by decide), z]
    exact ih (i + 1) g (by omega) (by omega)
theorem both_copy {h : AH} (i : Inv h) (a b c d y0 : Int32) : Both (fX5_copy a b c d y0 h) (fX6_copy a b c d y0) := by
  unfold fX5_copy fX6_copy
  rcases rows_ a with ⟨q1, q2⟩ | ⟨n, hn, rfl, q1, q2⟩
  · refine Both.same (h := h) (v := -1000001) i ?_ ?_
    · rw [q1]; rfl
    · rw [q2]; rfl
  simp only [q1, q2, bnd_s, ↓reduceIte, if1]
  rcases rows_ c with ⟨t1, t2⟩ | ⟨n', hn', rfl, t1, t2⟩
  · refine Both.same (h := h) (v := -1000001) i ?_ ?_
    · rw [t1]; rfl
    · rw [t2]; rfl
  simp only [t1, t2, bnd_s, ↓reduceIte, if1, c1_ hn, c279 hn, c280 hn, c1_ hn', c279 hn', c280 hn', nI_clamp (show n < 2 ^ 31 by omega), nI_clamp (show n' < 2 ^ 31 by omega), show 1 + 1 + 2 * n = 2 + 2 * n from rfl, show 1 + 1 + 2 * n' = 2 + 2 * n' from rfl]
  rcases missing i.1 hn with ⟨q3, q4⟩ | ⟨l, m, hl, hm, p1, p2, p3, p4, p5, q3, q4⟩
  · rw [q3]
    refine Both.fnd (v := 1) (w := -1000010 - 1) i (by rfl) ?_
    rw [q4 _ (by rw [hs_q _ _ _ (by decide)])]; rfl
  rw [q3]
  simp only [bnd_s, ↓reduceIte]
  rcases missing i.1 hn' with ⟨t3, t4⟩ | ⟨l', m', hl', hm', s1, s2, s3, s4, s5, t3, t4⟩
  · rw [t3]
    refine Both.fnd (v := 1) (w := -1000010 - 1) i (by rfl) ?_
    rw [q4 _ (by rw [hs_q _ _ _ (by decide)])]
    simp only [bnd_s, ↓reduceIte]
    rw [t4 _ (by rw [hs_q _ _ _ (by decide)])]; rfl
  rw [t3]
  simp only [bnd_s, ↓reduceIte]
  rw [p1, s1]
  by_cases el : ¬ nI l = nI l'
  · rw [if_neg el]
    refine Both.fnd (v := 5) (w := -1000010 - 5) i (by rfl) ?_
    rw [q4 _ (by rw [hs_q _ _ _ (by decide)])]
    simp only [bnd_s, ↓reduceIte]
    rw [t4 _ (by rw [hs_q _ _ _ (by decide)])]
    simp only [bnd_s, ↓reduceIte]
    rw [hs_q _ _ _ (by decide), p2, s2, if_neg el]; rfl
  have el := Decidable.not_not.mp el
  rw [if_pos el]
  rcases runs b y0 hm with ⟨y1, y2⟩ | ⟨x, y, hxy, rfl, rfl, y1, y2⟩
  · rw [y1 h _ p3]
    refine Both.fnd (v := 2) (w := -1000010 - 2) i (by rfl) ?_
    rw [q4 _ (by rw [hs_q _ _ _ (by decide)])]
    simp only [bnd_s, ↓reduceIte]
    rw [t4 _ (by rw [hs_q _ _ _ (by decide)])]
    simp only [bnd_s, ↓reduceIte]
    rw [hs_q _ _ _ (by decide), p2, s2, if_pos el, y2 _ n hn (by rw [hs_q _ _ _ (by decide), p4])]; rfl
  rw [y1 h _ p3]
  simp only [bnd_s, if1]
  rcases runs d (nI y) hm' with ⟨w1, w2⟩ | ⟨z, y', hzy, rfl, ey, w1, w2⟩
  · rw [w1 h _ s3]
    refine Both.fnd (v := 2) (w := -1000010 - 2) i (by rfl) ?_
    rw [q4 _ (by rw [hs_q _ _ _ (by decide)])]
    simp only [bnd_s, ↓reduceIte]
    rw [t4 _ (by rw [hs_q _ _ _ (by decide)])]
    simp only [bnd_s, ↓reduceIte]
    rw [hs_q _ _ _ (by decide), p2, s2, if_pos el, y2 _ n hn (by rw [hs_q _ _ _ (by decide), p4])]
    simp only [bnd_s, if1]
    rw [w2 _ n' hn' (by rw [hs_q _ _ _ (by decide), s4])]; rfl
  have ey' : y' = y := ((nI_eq (by omega) (by omega)).mp ey).symm
  subst ey'
  rw [w1 h _ s3]
  simp only [bnd_s, if1, r3]
  rw [chk_p ⟨n0_lt x (by omega), n0_lt z (by omega), n0_lt y' (by omega), by rw [lnR n hn, nI_clamp (by omega), nI_clamp (by omega)]; omega, by rw [lnR n' hn', nI_clamp (by omega), nI_clamp (by omega)]; omega⟩]
  simp only [sto_d, nI_clamp (show x < 2 ^ 31 by omega), nI_clamp (show z < 2 ^ 31 by omega), nI_clamp (show y' < 2 ^ 31 by omega), xWell, bnd_s]
  refine Both.of rfl ?_
  rw [q4 _ (by simp (disch := omega) only [hs_q, hr_ne])]
  simp only [bnd_s, ↓reduceIte]
  rw [t4 _ (by simp (disch := omega) only [hs_q, hr_ne])]
  simp only [bnd_s, ↓reduceIte]
  rw [show hs (hr h (3 + 2 * n') (va_cpy (h (3 + 2 * n)) (h (3 + 2 * n')) x z y')) 0 7 0 279 = h 279 by simp (disch := omega) only [hs_q, hr_ne], p2, s2, if_pos el, y2 _ n hn (by simp (disch := omega) only [hs_q, hr_ne]; exact p4)]
  simp only [bnd_s, if1]
  rw [w2 _ n' hn' (by simp (disch := omega) only [hs_q, hr_ne]; exact s4)]
  simp only [bnd_s, if1]
  have lp := fun h k => mCopy1 (n := n) (x := x) (y := y') (p3 := nI n') (p4 := nI z) (h := h) (k := k) hn (by omega) y' 0 FU (by omega) (by have := FU_big; omega)
  simp only [nI_0, cpR_0, hr_self] at lp
  have lp2 := fun h k => mCopy2 (n := n') (x := z) (y := y') (p1 := nI n) (p2 := nI x) (h := h) (k := k) hn' (by omega) y' 0 FU (by omega) (by have := FU_big; omega)
  simp only [nI_0, cpR_0, hr_self] at lp2
  rw [lp, lp2]
  simp only [bnd_s, mWell]
  refine ⟨_, rfl, i.rows (v := 0) (i.1.set hn' (Or.inr ⟨l', m', hl', hm', ?_, ?_, ?_, ?_, fun j hj => ?_⟩) ?_ ?_ ?_) ?_ ?_ ?_ ?_⟩
  · simp (disch := omega) only [hs_q, hr_ne, hs_k, hr_eq, upd_n, upd_s]; exact s1
  · simp (disch := omega) only [hs_q, hr_ne, hs_k, hr_eq, upd_n, upd_s]; exact s2
  · simp (disch := omega) only [hs_q, hr_ne, hs_k, hr_eq, upd_n, upd_s]; exact s3
  · simp (disch := omega) only [hs_q, hr_ne, hs_k, hr_eq, upd_n, upd_s]; exact s4
  · simp (disch := omega) only [hs_q, hr_ne, hs_k, hr_eq, upd_n, upd_s]
    unfold va_cpy
    by_cases ej : z ≤ j ∧ j < z + y'
    · rw [if_pos ej]
      have e1 := cpR_in (f := cpR (h 281) (h 282) (40 * n + x) 0 y') (g := h 281) (a := 0) (b := 40 * n' + z) (n := y') (j := j - z) (by omega)
      rw [show 40 * n' + z + (j - z) = 40 * n' + j by omega] at e1
      rw [e1, cpR_in (by omega), p5 _ (by omega)]
      congr 1
      omega
    · rw [if_neg ej, cpR_out (by omega)]
      exact s5 j hj
  · intro k h1 h2 h3 h4
    simp (disch := omega) only [hs_q, hr_ne]
  · intro j hj
    simp (disch := omega) only [hs_q, hr_ne, hs_k, hr_eq, upd_n, upd_s, and_self]
  · intro j hj
    simp (disch := omega) only [hs_q, hr_ne, hs_k, hr_eq, upd_n, upd_s]
    exact cpR_out (by omega)
  · simp (disch := omega) only [hs_q, hr_ne, hs_k, hr_eq, upd_n, upd_s]
  · simp (disch := omega) only [hs_q, hr_ne, hs_k, hr_eq, upd_n, upd_s]
  · intro k h1 h2 h3
    simp (disch := omega) only [hs_q, hr_ne]
  · intro j hj
    simp (disch := omega) only [hs_q, hr_ne, hs_k, hr_eq, upd_n, upd_s]
