/-! Sets: who holds, what stands, how many. -/
def hm (e : Nat → Int32) : Nat → Nat
  | 0 => 0
  | n + 1 => hm e n + (if ho e n = 1 then 2 ^ n else 0)
def sm (e : Nat → Int32) : Nat → Nat
  | 0 => 0
  | n + 1 => sm e n + (if 0 < sd e n then 2 ^ n else 0)
theorem hm_lt (e : Nat → Int32) : ∀ n, hm e n < 2 ^ n := by
  intro n
  induction n with
  | zero => exact (by decide : (0 : Nat) < 1)
  | succ n ih =>
    unfold hm
    rw [Nat.pow_succ]
    split <;> omega
theorem sm_lt (e : Nat → Int32) : ∀ n, sm e n < 2 ^ n := by
  intro n
  induction n with
  | zero => exact (by decide : (0 : Nat) < 1)
  | succ n ih =>
    unfold sm
    rw [Nat.pow_succ]
    split <;> omega
theorem bit_add : ∀ n, n < 6 → ∀ m, m < 64 → m < 2 ^ n → ∀ t, t < 6 → (m + 2 ^ n).testBit t = (m.testBit t || (t == n)) := by decide +kernel
theorem bit_hi : ∀ n, n < 6 → ∀ m, m < 64 → m < 2 ^ n → ∀ t, t < 6 → n ≤ t → m.testBit t = false := by decide +kernel
theorem p2_64 {n : Nat} (h : n ≤ 6) : 2 ^ n ≤ 64 := Nat.pow_le_pow_right (by decide) h
theorem hm_bit (e : Nat → Int32) : ∀ n, n ≤ 6 → ∀ t, t < n → (hm e n).testBit t = decide (ho e t = 1) := by
  intro n
  induction n with
  | zero => intro _ t ht; omega
  | succ n ih =>
    intro hn t ht
    have h1 := hm_lt e n
    have h2 := p2_64 (show n ≤ 6 by omega)
    unfold hm
    by_cases q : ho e n = 1
    · rw [if_pos q, bit_add n (by omega) _ (by omega) h1 t (by omega)]
      by_cases q2 : t = n
      · subst q2; simp [q]
      · rw [ih (by omega) t (by omega)]; simp [q2]
    · rw [if_neg q, Nat.add_zero]
      by_cases q2 : t = n
      · subst q2; rw [bit_hi t (by omega) _ (by omega) h1 t (by omega) (Nat.le_refl t)]; simp [q]
      · exact ih (by omega) t (by omega)
theorem hm_Hb (e : Nat → Int32) {T : Nat} (hT : T ≤ 6) : Hb e T (hm e T) := ⟨hm_lt e T, hm_bit e T hT⟩
theorem Hb.uniq {e : Nat → Int32} {T m : Nat} (h : Hb e T m) (hT : T ≤ 6) : m = hm e T := by
  apply Nat.eq_of_testBit_eq
  intro t
  by_cases q : t < T
  · rw [h.2 t q, hm_bit e T hT t q]
  · have a : 2 ^ T ≤ 2 ^ t := Nat.pow_le_pow_right (by decide) (by omega)
    rw [Nat.testBit_lt_two_pow (Nat.lt_of_lt_of_le h.1 a), Nat.testBit_lt_two_pow (Nat.lt_of_lt_of_le (hm_lt e T) a)]
theorem EstC.hm {e : Nat → Int32} {T P : Nat} {h : AH} {r : Nat} (he : EstC e T P h r) (hT : T ≤ 6) : h r 5 = nI (hm e T) := by
  obtain ⟨m, hm5, hb⟩ := he.2.1.2.2.2.2.2
  rw [hm5, hb.uniq hT]
theorem hm_eq {e e' : Nat → Int32} : ∀ n, (∀ t, t < n → ho e' t = ho e t) → hm e' n = hm e n := by
  intro n
  induction n with
  | zero => intro _; rfl
  | succ n ih => intro q; unfold hm; rw [ih fun t ht => q t (by omega), q n (by omega)]
theorem sm_eq {e e' : Nat → Int32} : ∀ n, (∀ t, t < n → sd e' t = sd e t) → sm e' n = sm e n := by
  intro n
  induction n with
  | zero => intro _; rfl
  | succ n ih => intro q; unfold sm; rw [ih fun t ht => q t (by omega), q n (by omega)]
theorem or_1 : ∀ n, n < 6 → ∀ m, m < 64 → m < 2 ^ n → nI m ||| ((1 : Int32) <<< (nI n &&& 31)) = nI (m + 2 ^ n) := by decide +kernel
theorem or_0 : ∀ n, n < 6 → ∀ m, m < 64 → nI m ||| ((0 : Int32) <<< (nI n &&& 31)) = nI m := by decide +kernel
theorem or_00 : ∀ m, m < 64 → nI m ||| (0 : Int32) = nI m := by decide +kernel
theorem mHolding_L {w T : Nat} {h : AH} {k : Int32 → Int32 → AH → Option (Int32 × AH)} (hw : ln w = 43) (hT : T ≤ 6) (e2 : h w 2 = nI T) (hh : ∀ t, t < T → ho (h w) t = 0 ∨ ho (h w) t = 1) : ∀ m i f, i + m = T → m < f → fX6_holding_L4 w f (nI i) (nI (hm (h w) i)) h k = k (nI T) (nI (hm (h w) T)) h := by
  intro m
  induction m with
  | zero =>
    intro i f hi hf
    obtain ⟨g, rfl, -⟩ := fuel_s hf
    have : i = T := by omega
    subst this
    unfold fX6_holding_L4
    rw [cW2 hw, cl_2, e2, if_neg (nI_nlt (Nat.le_refl i) (by omega))]
  | succ m ih =>
    intro i f hi hf
    obtain ⟨g, rfl, hg⟩ := fuel_s hf
    unfold fX6_holding_L4
    rw [cW2 hw, cl_2, e2, if_pos (nI_lt (by omega) (by omega)), ix5, i5_4, cW hw (by omega), nI_clamp (by omega), vl_d, vl_d, nI_1]
    have key : nI (hm (h w) i) ||| (h w (9 + 5 * i) <<< (nI i &&& 31)) = nI (hm (h w) (i + 1)) := by
      have h1 := hm_lt (h w) i
      have h2 := p2_64 (show i ≤ 6 by omega)
      rcases hh i (by omega) with q | q
      · rw [show h w (9 + 5 * i) = 0 from q, or_0 i (by omega) _ (by omega)]
        show _ = nI (hm (h w) i + if ho (h w) i = 1 then 2 ^ i else 0)
        rw [if_neg (by rw [q]; decide), Nat.add_zero]
      · rw [show h w (9 + 5 * i) = 1 from q, or_1 i (by omega) _ (by omega) h1]
        show _ = nI (hm (h w) i + if ho (h w) i = 1 then 2 ^ i else 0)
        rw [if_pos q]
    rw [key]
    exact ih (i + 1) g (by omega) (by omega)
theorem mHolding {w T : Nat} {h : AH} (hw : ln w = 43) (hT : T ≤ 6) (e2 : h w 2 = nI T) (hh : ∀ t, t < T → ho (h w) t = 0 ∨ ho (h w) t = 1) : fX6_holding w h = some (nI (hm (h w) T), h) := by
  unfold fX6_holding
  have := mHolding_L (k := fun _ z2 h3 => some (z2, h3)) hw hT e2 hh T 0 FU (by omega) (by have := FU_big; omega)
  exact this
theorem Gd.hold {e : Nat → Int32} {T P B : Nat} (hg : Gd e T P B) : ∀ t, t < T → ho e t = 0 ∨ ho e t = 1 := fun t ht => one_lt (hg.2.2.2.2.1 t ht).2.2.2.2
theorem mStand_L {w P : Nat} {h : AH} {k : Int32 → Int32 → AH → Option (Int32 × AH)} (hw : ln w = 43) (hP : P ≤ 4) (e3 : h w 3 = nI P) : ∀ m i f, i + m = P → m < f → fX6_standing_L4 w f (nI i) (nI (sm (h w) i)) h k = k (nI P) (nI (sm (h w) P)) h := by
  intro m
  induction m with
  | zero =>
    intro i f hi hf
    obtain ⟨g, rfl, -⟩ := fuel_s hf
    have : i = P := by omega
    subst this
    unfold fX6_standing_L4
    rw [cW3 hw, cl_3, e3, if_neg (nI_nlt (Nat.le_refl i) (by omega))]
  | succ m ih =>
    intro i f hi hf
    obtain ⟨g, rfl, hg⟩ := fuel_s hf
    have h1 := sm_lt (h w) i
    have h2 := p2_64 (show i ≤ 6 by omega)
    unfold fX6_standing_L4
    rw [cW3 hw, cl_3, e3, if_pos (nI_lt (by omega) (by omega)), ix35, i35_1, cW hw (by omega), nI_clamp (by omega)]
    by_cases q : 0 < sd (h w) i
    · rw [if_pos q, vl_d, vl_d, nI_1, or_1 i (by omega) _ (by omega) h1]
      have : sm (h w) (i + 1) = sm (h w) i + 2 ^ i := by show sm (h w) i + (if 0 < sd (h w) i then 2 ^ i else 0) = _; rw [if_pos q]
      rw [← this]
      exact ih (i + 1) g (by omega) (by omega)
    · rw [if_neg q, vl_d, vl_d, nI_1, or_00 _ (by omega)]
      have : sm (h w) (i + 1) = sm (h w) i := by show sm (h w) i + (if 0 < sd (h w) i then 2 ^ i else 0) = _; rw [if_neg q, Nat.add_zero]
      rw [← this]
      exact ih (i + 1) g (by omega) (by omega)
theorem mStand {w P : Nat} {h : AH} (hw : ln w = 43) (hP : P ≤ 4) (e3 : h w 3 = nI P) : fX6_standing w h = some (nI (sm (h w) P), h) := by
  unfold fX6_standing
  exact mStand_L (k := fun _ z2 h3 => some (z2, h3)) hw hP e3 P 0 FU (by omega) (by have := FU_big; omega)
theorem xStand_L {e : Nat → Int32} {T P r : Nat} {h : AH} {k : Int32 → Int32 → AH → Option (Int32 × AH)} (he : EstC e T P h r) (hP : P ≤ 4) : ∀ m i f, i + m = P → m < f → fX2_standing_L4 r f (nI i) (nI (sm e i)) h k = k (nI P) (nI (sm e P)) h := by
  intro m
  induction m with
  | zero =>
    intro i f hi hf
    obtain ⟨g, rfl, -⟩ := fuel_s hf
    have : i = P := by omega
    subst this
    unfold fX2_standing_L4
    rw [he.2.1.2.1, if_neg (nI_nlt (Nat.le_refl i) (by omega))]
  | succ m ih =>
    intro i f hi hf
    obtain ⟨g, rfl, hg⟩ := fuel_s hf
    have h1 := sm_lt e i
    have h2 := p2_64 (show i ≤ 6 by omega)
    unfold fX2_standing_L4
    rw [he.2.1.2.1, if_pos (nI_lt (by omega) (by omega)), cE6 he.1 (by omega), nI_clamp (by omega), (he.2.2.2 i (by omega)).2]
    by_cases q : 0 < sd e i
    · rw [if_pos q, vl_d, vl_d, nI_1, or_1 i (by omega) _ (by omega) h1]
      have : sm e (i + 1) = sm e i + 2 ^ i := by show sm e i + (if 0 < sd e i then 2 ^ i else 0) = _; rw [if_pos q]
      rw [← this]
      exact ih (i + 1) g (by omega) (by omega)
    · rw [if_neg q, vl_d, vl_d, nI_1, or_00 _ (by omega)]
      have : sm e (i + 1) = sm e i := by show sm e i + (if 0 < sd e i then 2 ^ i else 0) = _; rw [if_neg q, Nat.add_zero]
      rw [← this]
      exact ih (i + 1) g (by omega) (by omega)
theorem xStand {e : Nat → Int32} {T P r : Nat} {h : AH} (he : EstC e T P h r) (hP : P ≤ 4) : fX2_standing r h = some (nI (sm e P), h) := by
  unfold fX2_standing
  exact xStand_L (k := fun _ z2 h3 => some (z2, h3)) he hP P 0 FU (by omega) (by have := FU_big; omega)
/-! how many -/
def ppc (m : Nat) : Nat := ((List.range 6).filter fun t => m.testBit t).length
theorem xBits : ∀ m, m < 64 → ∀ h, fJ6_bitCount_0f7a4 (nI m) h = some (nI (ppc m), h) := by
  have key : ∀ m, m < 64 → (fJ6_bitCount_0f7a4 (nI m) (fun _ _ => 0)).map Prod.fst = some (nI (ppc m)) := by decide +kernel
  intro m hm h
  have := key m hm
  unfold fJ6_bitCount_0f7a4 at this ⊢
  simp only [vl_d, Option.map_some, Option.some.injEq] at this ⊢
  rw [this]
theorem mOnes_L {p : Int32} {h : AH} {k : Int32 → Int32 → AH → Option (Int32 × AH)} (i f : Nat) (x : Int32) (hi : i < 6) : fX6_ones_L4 p (f + 1) (nI i) x h k = fX6_ones_L4 p f (nI (i + 1)) (x + ((p >>> (nI i &&& 31)) &&& 1)) h k := by
  rw [fX6_ones_L4, if_pos (show nI i < 6 from nI_lt (b := 6) hi (by omega)), vl_d, vl_d, nI_1]
def on6 (p : Int32) : Int32 := (((((0 + ((p >>> (nI 0 &&& 31)) &&& 1)) + ((p >>> (nI 1 &&& 31)) &&& 1)) + ((p >>> (nI 2 &&& 31)) &&& 1)) + ((p >>> (nI 3 &&& 31)) &&& 1)) + ((p >>> (nI 4 &&& 31)) &&& 1)) + ((p >>> (nI 5 &&& 31)) &&& 1)
theorem on6_n : ∀ m, m < 64 → on6 (nI m) = nI (ppc m) := by decide +kernel
theorem mOnes {m : Nat} (hm : m < 64) (h : AH) : fX6_ones (nI m) h = some (nI (ppc m), h) := by
  unfold fX6_ones
  rw [show FU = 1993 + 1 + 1 + 1 + 1 + 1 + 1 + 1 from rfl]
  show fX6_ones_L4 (nI m) (1993 + 1 + 1 + 1 + 1 + 1 + 1 + 1) (nI 0) 0 h _ = _
  rw [mOnes_L 0 _ _ (by omega), mOnes_L 1 _ _ (by omega), mOnes_L 2 _ _ (by omega), mOnes_L 3 _ _ (by omega), mOnes_L 4 _ _ (by omega), mOnes_L 5 _ _ (by omega), fX6_ones_L4, if_neg (show ¬ nI 6 < 6 from nI_nlt (b := 6) (Nat.le_refl 6) (by omega))]
  show some (on6 (nI m), h) = _
  rw [on6_n m hm]
theorem mHas {m t : Nat} (hm : m < 64) (ht : t < 6) (h : AH) : fX6_has (nI m) (nI t) h = some ((if m.testBit t then 1 else 0), h) := by
  unfold fX6_has
  rw [bit_at m hm t ht]
  cases m.testBit t <;> rfl
