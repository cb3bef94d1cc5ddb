/-! The reference's estuary: a row w of 43 numbers. -/
theorem ix5 (t : Nat) : (5 : Int32) + (5 : Int32) * nI t = nI (5 + 5 * t) := by
  show nI 5 + nI 5 * nI t = _
  rw [pk_mul, nI_add]
theorem ix35 (p : Nat) : (35 : Int32) + (2 : Int32) * nI p = nI (35 + 2 * p) := by
  show nI 35 + nI 2 * nI p = _
  rw [pk_mul, nI_add]
theorem ix_1 (a : Nat) : nI a + (1 : Int32) = nI (a + 1) := nI_1 a
theorem ix_2 (a : Nat) : nI a + (2 : Int32) = nI (a + 2) := nI_add a 2
theorem ix_3 (a : Nat) : nI a + (3 : Int32) = nI (a + 3) := nI_add a 3
theorem ix_4 (a : Nat) : nI a + (4 : Int32) = nI (a + 4) := nI_add a 4
theorem i5_1 (t : Nat) : nI (5 + 5 * t) + (1 : Int32) = nI (6 + 5 * t) := by rw [ix_1]; congr 1; omega
theorem i5_2 (t : Nat) : nI (5 + 5 * t) + (2 : Int32) = nI (7 + 5 * t) := by rw [ix_2]; congr 1; omega
theorem i5_3 (t : Nat) : nI (5 + 5 * t) + (3 : Int32) = nI (8 + 5 * t) := by rw [ix_3]; congr 1; omega
theorem i5_4 (t : Nat) : nI (5 + 5 * t) + (4 : Int32) = nI (9 + 5 * t) := by rw [ix_4]; congr 1; omega
theorem i35_1 (p : Nat) : nI (35 + 2 * p) + (1 : Int32) = nI (36 + 2 * p) := by rw [ix_1]; congr 1; omega
theorem cl_0 : Int32.toNatClampNeg (0 : Int32) = 0 := by decide
theorem cl_1 : Int32.toNatClampNeg (1 : Int32) = 1 := by decide
theorem cl_2 : Int32.toNatClampNeg (2 : Int32) = 2 := by decide
theorem cl_3 : Int32.toNatClampNeg (3 : Int32) = 3 := by decide
theorem cl_4 : Int32.toNatClampNeg (4 : Int32) = 4 := by decide
theorem cW {w k : Nat} {α : Type} {o : Option α} (hw : ln w = 43) (hk : k < 43) : chk (inb (nI k) (ln w)) o = o := chk_p (by rw [hw]; exact inb_n hk (by decide))
theorem cW0 {w : Nat} {α : Type} {o : Option α} (hw : ln w = 43) : chk (inb (0 : Int32) (ln w)) o = o := cW (k := 0) hw (by omega)
theorem cW1 {w : Nat} {α : Type} {o : Option α} (hw : ln w = 43) : chk (inb (1 : Int32) (ln w)) o = o := cW (k := 1) hw (by omega)
theorem cW2 {w : Nat} {α : Type} {o : Option α} (hw : ln w = 43) : chk (inb (2 : Int32) (ln w)) o = o := cW (k := 2) hw (by omega)
theorem cW3 {w : Nat} {α : Type} {o : Option α} (hw : ln w = 43) : chk (inb (3 : Int32) (ln w)) o = o := cW (k := 3) hw (by omega)
theorem cW4 {w : Nat} {α : Type} {o : Option α} (hw : ln w = 43) : chk (inb (4 : Int32) (ln w)) o = o := cW (k := 4) hw (by omega)
theorem mDraw {w t : Nat} {h : AH} (hw : ln w = 43) (ht : t < 6) : fX6_draws w (nI t) h = some (drw (h w) t, h) := by
  unfold fX6_draws drw
  simp only [vl_d, ix5, i5_1, i5_4, cW hw (show 5 + 5 * t < 43 by omega), cW hw (show 6 + 5 * t < 43 by omega), cW hw (show 9 + 5 * t < 43 by omega), cW4 hw, cl_4, nI_clamp (show 5 + 5 * t < 2 ^ 31 by omega), nI_clamp (show 6 + 5 * t < 2 ^ 31 by omega), nI_clamp (show 9 + 5 * t < 2 ^ 31 by omega), chk_p ne_2, chk_p ne_3, chk_p ne_4]
  repeat' split
  all_goals first | rfl | contradiction
theorem mForce_L {w T : Nat} {h : AH} {k : Int32 → Int32 → AH → Option (Int32 × AH)} (hw : ln w = 43) (hT : T ≤ 6) (e2 : h w 2 = nI T) : ∀ m i f, i + m = T → m < f → fX6_force_L4 w f (nI i) (sumD (h w) i) h k = k (nI T) (sumD (h w) T) h := by
  intro m
  induction m with
  | zero =>
    intro i f hi hf
    obtain ⟨g, rfl, -⟩ := fuel_s hf
    rw [fX6_force_L4, cW2 hw, cl_2, e2, ite_lt (by omega) (by omega), if_neg (by omega), show i = T by omega]
  | succ m ih =>
    intro i f hi hf
    obtain ⟨g, rfl, hg2⟩ := fuel_s hf
    rw [fX6_force_L4, cW2 hw, cl_2, e2, ite_lt (by omega) (by omega), if_pos (by omega), mDraw hw (by omega)]
    simp only [bnd_s, vl_d, nI_1]
    exact ih (i + 1) g (by omega) (by omega)
theorem mForce {w T : Nat} {h : AH} (hw : ln w = 43) (hT : T ≤ 6) (e2 : h w 2 = nI T) : fX6_force w h = some (sumD (h w) T, h) := by
  unfold fX6_force
  have := mForce_L (k := fun _ z2 h3 => some (z2, h3)) hw hT e2 T 0 FU (by omega) (by have := FU_big; omega)
  rw [nI_0] at this
  exact this
theorem mSpeed {w : Nat} {h : AH} (f : Int32) (hw : ln w = 43) (e0 : ¬ h w 0 = 0) : fX6_speed w f h = some (spd (h w) f, h) := by
  unfold fX6_speed spd
  rw [cW0 hw, cl_0, chk_p e0, vl_d, cW1 hw, cl_1]
  split
  · rfl
  · split <;> rfl
def encM : Option Nat → Int32
  | none => -1000000
  | some b => nI b
theorem none_ne (b : Nat) (hb : b < 100) : ¬ nI b = (-1000000 : Int32) := by
  intro h
  have := congrArg Int32.toInt h
  rw [nI_toInt (by omega)] at this
  have h2 : (-1000000 : Int32).toInt = -1000000 := by decide
  omega
theorem mMet_L {w P : Nat} {h : AH} {s : Int32} {k : Int32 → Int32 → AH → Option (Int32 × AH)} (hw : ln w = 43) (hP : P ≤ 4) (e3 : h w 3 = nI P) : ∀ m i f, i + m = P → m < f → fX6_met_L5 w s f (nI i) (encM (mtl (h w) s i)) h k = k (nI P) (encM (mtl (h w) s P)) h := by
  intro m
  induction m with
  | zero =>
    intro i f hi hf
    obtain ⟨g, rfl, -⟩ := fuel_s hf
    rw [fX6_met_L5, cW3 hw, cl_3, e3, ite_lt (by omega) (by omega), if_neg (by omega), show i = P by omega]
  | succ m ih =>
    intro i f hi hf
    obtain ⟨g, rfl, hg2⟩ := fuel_s hf
    rw [fX6_met_L5, cW3 hw, cl_3, e3, ite_lt (by omega) (by omega), if_pos (by omega)]
    simp only [vl_d, ix35, i35_1, cW hw (show 35 + 2 * i < 43 by omega), cW hw (show 36 + 2 * i < 43 by omega), cW1 hw, cl_1, nI_clamp (show 35 + 2 * i < 2 ^ 31 by omega), nI_clamp (show 36 + 2 * i < 2 ^ 31 by omega), if_pos]
    simp only [nI_1]
    have ih' := ih (i + 1) g (by omega) (by omega)
    by_cases q1 : 0 < sd (h w) i
    · by_cases q2 : pa (h w) i < h w 1
      · by_cases q3 : pa (h w) i < h w 1 - s
        · rw [if_pos q1, if_pos q2, if_pos q3]
          rw [show mtl (h w) s (i + 1) = mtl (h w) s i by simp [mtl, onw, q3]] at ih'
          exact ih'
        · rw [if_pos q1, if_pos q2, if_neg q3, if_neg (by decide)]
          have hon : onw (h w) s i = true := by simp [onw, q1, q2, q3]
          cases hm : mtl (h w) s i with
          | none =>
            rw [if_pos (show encM none = -1000000 from rfl)]
            rw [show mtl (h w) s (i + 1) = some i by simp [mtl, hon, hm]] at ih'
            exact ih'
          | some b =>
            have hb := (mtl_lt hm).1
            rw [if_neg (show ¬ encM (some b) = -1000000 from none_ne b (by omega)), show encM (some b) = nI b from rfl, ix35, cW hw (by omega), nI_clamp (by omega)]
            by_cases q4 : pa (h w) b < pa (h w) i
            · rw [if_pos q4]
              rw [show mtl (h w) s (i + 1) = some i by simp [mtl, hon, hm, q4]] at ih'
              exact ih'
            · rw [if_neg q4]
              rw [show mtl (h w) s (i + 1) = some b by simp [mtl, hon, hm, q4]] at ih'
              exact ih'
      · rw [if_pos q1, if_neg q2]
        rw [show mtl (h w) s (i + 1) = mtl (h w) s i by simp [mtl, onw, q2]] at ih'
        exact ih'
    · rw [if_neg q1]
      rw [show mtl (h w) s (i + 1) = mtl (h w) s i by simp [mtl, onw, q1]] at ih'
      exact ih'
theorem mMet {w P : Nat} {h : AH} (s : Int32) (hw : ln w = 43) (hP : P ≤ 4) (e3 : h w 3 = nI P) : fX6_met w s h = some (encM (mtl (h w) s P), h) := by
  unfold fX6_met
  have := mMet_L (s := s) (k := fun _ z2 h3 => some (z2, h3)) hw hP e3 P 0 FU (by omega) (by have := FU_big; omega)
  rw [nI_0] at this
  exact this
theorem hr_hr (h : AH) (k : Nat) (f g : Nat → Int32) : hr (hr h k f) k g = hr h k g := by
  funext q
  by_cases e : q = k <;> simp [hr, e]
theorem hr_self (h : AH) (k : Nat) : hr h k (h k) = h := by
  funext q
  by_cases e : q = k
  · subst e; simp [hr]
  · simp [hr, e]
theorem hs_hr (h : AH) (k j : Nat) (f : Nat → Int32) (v : Int32) : hs (hr h k f) k j v = hr h k (upd f j v) := by
  unfold hs
  rw [hr_eq, hr_hr]
theorem hs_d (h : AH) (k j : Nat) (v : Int32) : hs h k j v = hr h k (upd (h k) j v) := rfl
theorem mComes {w P : Nat} {h : AH} (s : Int32) (hw : ln w = 43) (hP : P ≤ 4) (e3 : h w 3 = nI P) : fX6_comes w s h = some ((), hr h w (comeR (h w) P s)) := by
  unfold fX6_comes
  rw [mMet s hw hP e3]
  simp only [bnd_s, vl_d, sto_d, cW1 hw, cl_1]
  cases hm : mtl (h w) s P with
  | none =>
    rw [if_pos (show encM none = -1000000 from rfl)]
    have key : ∀ v, v = nOut (h w) P s → hs h w 1 v = hr h w (comeR (h w) P s) := by
      intro v hv
      rw [hs_d]
      congr 1
      funext j
      by_cases hj : j = 1
      · subst hj; rw [upd_s, cR_1]; exact hv
      · rw [upd_n _ _ hj]
        unfold comeR
        rw [if_neg hj]
        by_cases q : 35 ≤ j ∧ j < 35 + 2 * P
        · rw [if_pos q]
          by_cases q2 : j % 2 = 0
          · rw [if_pos q2]
            unfold nSd
            rw [hm, if_neg (by intro z; cases z)]
            show h w j = h w (36 + 2 * ((j - 35) / 2))
            rw [show 36 + 2 * ((j - 35) / 2) = j by omega]
          · rw [if_neg q2]
        · rw [if_neg q]
    by_cases q : s < h w 1
    · rw [if_pos q, key _ (by unfold nOut; rw [hm]; simp only; rw [if_pos q])]
    · rw [if_neg q, key _ (by unfold nOut; rw [hm]; simp only; rw [if_neg q])]
  | some p =>
    have hp := (mtl_lt hm).1
    rw [if_neg (show ¬ encM (some p) = -1000000 from none_ne p (by omega)), show encM (some p) = nI p from rfl]
    simp only [ix35, i35_1, cW hw (show 35 + 2 * p < 43 by omega), cW hw (show 36 + 2 * p < 43 by omega), nI_clamp (show 35 + 2 * p < 2 ^ 31 by omega), nI_clamp (show 36 + 2 * p < 2 ^ 31 by omega)]
    have key : ∀ v, v = nSd (h w) P s p → hs (hs h w (36 + 2 * p) v) w 1 (h w (35 + 2 * p) + 1) = hr h w (comeR (h w) P s) := by
      intro v hv
      rw [hs_d h, hs_hr]
      congr 1
      funext j
      by_cases hj : j = 1
      · subst hj
        rw [upd_s, cR_1]
        unfold nOut
        rw [hm]
      · rw [upd_n _ _ hj]
        by_cases hj2 : j = 36 + 2 * p
        · subst hj2
          rw [upd_s, hv]
          exact (cR_sd (h w) s hp).symm
        · rw [upd_n _ _ hj2]
          unfold comeR
          rw [if_neg hj]
          by_cases q : 35 ≤ j ∧ j < 35 + 2 * P
          · rw [if_pos q]
            by_cases q2 : j % 2 = 0
            · rw [if_pos q2]
              unfold nSd
              rw [hm, if_neg (by intro z; injection z with z; omega)]
              show h w j = h w (36 + 2 * ((j - 35) / 2))
              rw [show 36 + 2 * ((j - 35) / 2) = j by omega]
            · rw [if_neg q2]
          · rw [if_neg q]
    by_cases q : s - (h w 1 - (pa (h w) p + 1)) < sd (h w) p
    · rw [if_pos q, key _ (by unfold nSd; rw [hm, if_pos rfl, if_pos q])]
    · rw [if_neg q, key _ (by unfold nSd; rw [hm, if_pos rfl, if_neg q])]
