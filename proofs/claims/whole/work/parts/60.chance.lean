/-! By chance fog. -/
def vF (T P c : Nat) : Nat → (Nat → Int32) → Nat
  | 0, X => if X 1 = 0 then 1 else 0
  | m + 1, X => c * vF T P c m (hourR X T P 1) + (10 - c) * vF T P c m (hourR X T P 0)
theorem vF_in {T P c : Nat} (hc : c ≤ 10) : ∀ m X B, Gd X T P B → B + m ≤ 20000 → X 1 = 0 → vF T P c m X = 10 ^ m := by
  intro m
  induction m with
  | zero => intro X B _ _ z; unfold vF; rw [if_pos z]
  | succ m ih =>
    intro X B hg hB z
    unfold vF
    rw [ih _ (B + 1) (Gd_hour 1 hg (by omega)) (by omega) (in_stays hg z 1), ih _ (B + 1) (Gd_hour 0 hg (by omega)) (by omega) (in_stays hg z 0), ← Nat.add_mul, show c + (10 - c) = 10 by omega, Nat.pow_succ, Nat.mul_comm]
theorem vF_le {T P c : Nat} (hc : c ≤ 10) : ∀ m X, vF T P c m X ≤ 10 ^ m := by
  intro m
  induction m with
  | zero => intro X; unfold vF; split <;> decide
  | succ m ih =>
    intro X
    unfold vF
    have h1 := Nat.mul_le_mul_left c (ih (hourR X T P 1))
    have h2 := Nat.mul_le_mul_left (10 - c) (ih (hourR X T P 0))
    have h3 : c * 10 ^ m + (10 - c) * 10 ^ m = 10 ^ (m + 1) := by rw [← Nat.add_mul, show c + (10 - c) = 10 by omega, Nat.pow_succ, Nat.mul_comm]
    omega
theorem xTen_L {n : Nat} {h : AH} {k : Int32 → Int32 → AH → Option (Int32 × AH)} (hn : n ≤ 8) : ∀ m i f, i + m = n → m < f → fX5_tenToThe_L4 (nI n) f (nI i) (nI (10 ^ i)) h k = k (nI n) (nI (10 ^ n)) h := by
  intro m
  induction m with
  | zero =>
    intro i f hi hf
    obtain ⟨g, rfl, -⟩ := fuel_s hf
    have : i = n := by omega
    subst this
    unfold fX5_tenToThe_L4
    rw [if_neg (nI_nlt (Nat.le_refl i) (by omega))]
  | succ m ih =>
    intro i f hi hf
    obtain ⟨g, rfl, hf'⟩ := fuel_s hf
    unfold fX5_tenToThe_L4
    rw [if_pos (nI_lt (by omega) (by omega)), vl_e, vl_e, nI_1, show nI (10 ^ i) * (10 : Int32) = nI (10 ^ i * 10) from pk_mul (10 ^ i) 10, ← Nat.pow_succ]
    exact ih (i + 1) g (by omega) (by omega)
theorem xTen {n : Nat} (hn : n ≤ 8) (h : AH) : fX5_tenToThe (nI n) h = some (nI (10 ^ n), h) := by
  unfold fX5_tenToThe
  exact xTen_L (k := fun _ z2 h3 => some (z2, h3)) hn n 0 FU (by omega) (by have := FU_big; omega)
theorem mTen_L {n : Nat} {p4 p2 p3 : Int32} {h : AH} {k : Int32 → Int32 → AH → Option (Int32 × AH)} (hn : n ≤ 8) : ∀ m i f, i + m = n → m < f → fX6_chance_L51 p4 (nI n) p2 p3 f (nI i) (nI (10 ^ i)) h k = k (nI n) (nI (10 ^ n)) h := by
  intro m
  induction m with
  | zero =>
    intro i f hi hf
    obtain ⟨g, rfl, -⟩ := fuel_s hf
    have : i = n := by omega
    subst this
    unfold fX6_chance_L51
    rw [if_neg (nI_nlt (Nat.le_refl i) (by omega))]
  | succ m ih =>
    intro i f hi hf
    obtain ⟨g, rfl, hf'⟩ := fuel_s hf
    unfold fX6_chance_L51
    rw [if_pos (nI_lt (by omega) (by omega)), vl_e, vl_e, nI_1, show nI (10 ^ i) * (10 : Int32) = nI (10 ^ i * 10) from pk_mul (10 ^ i) 10, ← Nat.pow_succ]
    exact ih (i + 1) g (by omega) (by omega)
theorem c212 {d : Nat} (hd : d < 9) {α : Type} {o : Option α} : chk (inb (nI d) (ln 212)) o = o := chk_p (by rw [ln_212]; exact inb_n hd (by decide))
theorem ten_c {c : Nat} (hc : c ≤ 10) : (10 : Int32) - nI c = nI (10 - c) := pk_sub (a := 10) hc
theorem xWays {T P n c : Nat} (hn : n ≤ 8) (hc : c ≤ 10) : ∀ m d f h X B, d + m = n → m < f → EstC X T P h (213 + 7 * d) → Gd X T P B → B + m ≤ 20000 → ∃ h', fX5_waysIn f (nI d) (nI n) (nI c) h = some (nI (vF T P c m X), h') ∧ ∀ q, (q < 213 + 7 * (d + 1) ∨ 275 < q) → h' q = h q := by
  intro m
  induction m with
  | zero =>
    intro d f h X B hd hf he hg hB
    obtain ⟨g, rfl, -⟩ := fuel_s hf
    have : d = n := by omega
    subst this
    refine ⟨h, ?_, fun _ _ => rfl⟩
    rw [fX5_waysIn, c212 (by omega), nI_clamp (by omega), show 212 + 1 + 7 * d = 213 + 7 * d from rfl, he.2.1.2.2.2.1]
    unfold vF
    by_cases z : X 1 = 0
    · rw [if_pos z, if_pos z, show nI d - nI d = nI 0 by rw [pk_sub (Nat.le_refl d), Nat.sub_self], xTen (by omega), bnd_e]
    · rw [if_neg z, if_neg z, if_neg (nI_nlt (Nat.le_refl d) (by omega))]; rfl
  | succ m ih =>
    intro d f h X B hd hf he hg hB
    have hT := hg.1.2.1
    have hP := hg.1.2.2.1
    obtain ⟨g, rfl, hf'⟩ := fuel_s hf
    rw [fX5_waysIn, c212 (by omega), nI_clamp (by omega), show 212 + 1 + 7 * d = 213 + 7 * d from rfl, he.2.1.2.2.2.1]
    by_cases z : X 1 = 0
    · refine ⟨h, ?_, fun _ _ => rfl⟩
      rw [if_pos z, pk_sub (by omega), show n - d = m + 1 by omega, xTen (by omega), bnd_e, vF_in hc (m + 1) X B hg (by omega) z]
    rw [if_neg z, if_pos (nI_lt (by omega) (by omega))]
    have beh : ∀ (fog : Int32) (h1 : AH), EstC X T P h1 (213 + 7 * d) → ∃ h2, fX5_waysInBehind (fX5_waysIn g) (nI d) (nI n) (nI c) fog h1 = some (nI (vF T P c m (hourR X T P fog)), h2) ∧ ∀ q, (q < 213 + 7 * (d + 1) ∨ 275 < q) → h2 q = h1 q := by
      intro fog h1 he1
      unfold fX5_waysInBehind
      obtain ⟨h2, k2, he2, q2⟩ := xTake (r := 213 + 7 * (d + 1)) he1 hT hP (kdD (d + 1) (by omega)) (by omega)
      obtain ⟨h3, k3, he3, q3⟩ := xHour fog hg (by omega) he2
      obtain ⟨h4, k4, q4⟩ := ih (d + 1) g h3 (hourR X T P fog) (B + 1) (by omega) (by omega) he3 (Gd_hour fog hg (by omega)) (by omega)
      rw [nI_1, if_pos (show nI (d + 1) < 9 from nI_lt (b := 9) (by omega) (by omega)), c212 (by omega), c212 (by omega), nI_clamp (by omega), nI_clamp (by omega), show 212 + 1 + 7 * d = 213 + 7 * d from rfl, show 212 + 1 + 7 * (d + 1) = 213 + 7 * (d + 1) from rfl, k2, bnd_e, k3, bnd_e, k4, bnd_e]
      exact ⟨h4, rfl, fun q hq => by rw [q4 q (by omega), q3 q (by omega), q2 q (by omega)]⟩
    have e0 : vF T P c (m + 1) X = c * vF T P c m (hourR X T P 1) + (10 - c) * vF T P c m (hourR X T P 0) := rfl
    by_cases c0 : c = 0
    · subst c0
      obtain ⟨h2, k2, q2⟩ := beh 0 h he
      rw [if_pos (show nI 0 = 0 from rfl), if_neg (show ¬ nI 0 = 10 by decide), k2, bnd_e, vl_e, ten_c hc, pk_mul, e0, Nat.zero_mul]
      exact ⟨h2, by rw [show (0 : Int32) = nI 0 from rfl, nI_add], q2⟩
    · obtain ⟨h2, k2, q2⟩ := beh 1 h he
      rw [if_neg (nI_ne0 (by omega) (by omega)), k2, bnd_e, vl_e, pk_mul]
      by_cases c10 : c = 10
      · subst c10
        rw [if_pos (show nI 10 = 10 from rfl), add0, e0, show (10 - 10) * vF T P 10 m (hourR X T P 0) = 0 by rw [Nat.sub_self, Nat.zero_mul], Nat.add_zero]
        exact ⟨h2, rfl, q2⟩
      · obtain ⟨h3, k3, q3⟩ := beh 0 h2 (he.fm fun k w1 w2 => q2 k (by omega))
        rw [if_neg (show ¬ nI c = 10 from fun w => c10 ((nI_eq (b := 10) (by omega) (by omega)).mp w)), k3, bnd_e, vl_e, ten_c hc, pk_mul, nI_add, e0]
        exact ⟨h3, rfl, fun q hq => by rw [q3 q hq, q2 q hq]⟩
/-! the sum over all that may be -/
def fg (b : Bool) : Int32 := if b then 1 else 0
def cF (T P c : Nat) (s : Nat) : Nat → Nat → (Nat → Int32) → Nat
  | 0, _, X => if X 1 = 0 then 1 else 0
  | m + 1, d, X => (if s.testBit d then c else 10 - c) * cF T P c s m (d + 1) (hourR X T P (fg (s.testBit d)))
theorem cF_sh {T P c s : Nat} : ∀ m d X, cF T P c s m (d + 1) X = cF T P c (s / 2) m d X := by
  intro m
  induction m with
  | zero => intro d X; rfl
  | succ m ih =>
    intro d X
    unfold cF
    rw [ih (d + 1), Nat.testBit_succ]
def sumS (F : Nat → Nat) : Nat → Nat
  | 0 => 0
  | n + 1 => sumS F n + F n
theorem sum_2 (F : Nat → Nat) : ∀ n, sumS F (2 * n) = sumS (fun s => F (2 * s) + F (2 * s + 1)) n := by
  intro n
  induction n with
  | zero => rfl
  | succ n ih =>
    show sumS F (2 * n + 1 + 1) = _
    unfold sumS
    rw [← ih]
    show sumS F (2 * n) + F (2 * n) + F (2 * n + 1) = _
    omega
theorem sum_eq {F G : Nat → Nat} (h : ∀ s, F s = G s) : ∀ n, sumS F n = sumS G n := by
  intro n
  induction n with
  | zero => rfl
  | succ n ih => unfold sumS; rw [ih, h n]
theorem sum_add (F G : Nat → Nat) (a b : Nat) : ∀ n, sumS (fun s => a * F s + b * G s) n = a * sumS F n + b * sumS G n := by
  intro n
  induction n with
  | zero => rfl
  | succ n ih => unfold sumS; rw [ih, Nat.mul_add, Nat.mul_add]; omega
theorem vF_sum {T P c : Nat} : ∀ m X, sumS (fun s => cF T P c s m 0 X) (2 ^ m) = vF T P c m X := by
  intro m
  induction m with
  | zero => intro X; show 0 + cF T P c 0 0 0 X = _; rw [Nat.zero_add]; rfl
  | succ m ih =>
    intro X
    rw [Nat.pow_succ, Nat.mul_comm, sum_2]
    have key : ∀ s, cF T P c (2 * s) (m + 1) 0 X + cF T P c (2 * s + 1) (m + 1) 0 X = (10 - c) * cF T P c s m 0 (hourR X T P 0) + c * cF T P c s m 0 (hourR X T P 1) := by
      intro s
      have b0 : (2 * s).testBit 0 = false := by simp [Nat.testBit_zero]
      have b1 : (2 * s + 1).testBit 0 = true := by simp [Nat.testBit_zero]
      have e0 : cF T P c (2 * s) (m + 1) 0 X = (if (2 * s).testBit 0 then c else 10 - c) * cF T P c (2 * s) m (0 + 1) (hourR X T P (fg ((2 * s).testBit 0))) := rfl
      have e1 : cF T P c (2 * s + 1) (m + 1) 0 X = (if (2 * s + 1).testBit 0 then c else 10 - c) * cF T P c (2 * s + 1) m (0 + 1) (hourR X T P (fg ((2 * s + 1).testBit 0))) := rfl
      rw [e0, e1, b0, b1, cF_sh, cF_sh, show 2 * s / 2 = s by omega, show (2 * s + 1) / 2 = s by omega]
      rfl
    rw [sum_eq key, sum_add, ih, ih]
    show _ = c * vF T P c m (hourR X T P 1) + (10 - c) * vF T P c m (hourR X T P 0)
    omega
theorem bit_8 : ∀ m, m < 256 → ∀ t, t < 8 → ((nI m >>> (nI t &&& 31)) &&& (1 : Int32)) = (if m.testBit t then 1 else 0) := by decide +kernel
theorem mHas8 {m t : Nat} (hm : m < 256) (ht : t < 8) (h : AH) : fX6_has (nI m) (nI t) h = some (fg (m.testBit t), h) := by
  unfold fX6_has fg
  rw [bit_8 m hm t ht]
  cases m.testBit t <;> rfl
theorem mWt_L {T P n c s : Nat} {p5 p4 p3 : Int32} (hn : n ≤ 8) (hc : c ≤ 10) (hs8 : s < 256) : ∀ m d f h X B w, d + m = n → m < f → Ag (h 286) X → Gd X T P B → B + m ≤ 20000 → ∃ h' W, (∀ k : Int32 → Int32 → AH → Option (Int32 × AH), fX6_chance_L100 (nI s) p5 p4 (nI n) (nI c) p3 f (nI d) (nI w) h k = k (nI n) (nI W) h') ∧ (if h' 286 1 = 0 then W else 0) = w * cF T P c s m d X ∧ ∀ k, k ≠ 286 → h' k = h k := by
  intro m
  induction m with
  | zero =>
    intro d f h X B w hd hf a hg hB
    obtain ⟨g, rfl, -⟩ := fuel_s hf
    have : d = n := by omega
    subst this
    refine ⟨h, w, fun k => ?_, ?_, fun _ _ => rfl⟩
    · unfold fX6_chance_L100
      rw [if_neg (nI_nlt (Nat.le_refl d) (by omega))]
    · rw [a 1 (by omega)]
      unfold cF
      by_cases z : X 1 = 0
      · rw [if_pos z, if_pos z, Nat.mul_one]
      · rw [if_neg z, if_neg z, Nat.mul_zero]
  | succ m ih =>
    intro d f h X B w hd hf a hg hB
    obtain ⟨g, rfl, hf'⟩ := fuel_s hf
    obtain ⟨h1, k1, a1, q1⟩ := mHr (fg (s.testBit d)) a hg
    obtain ⟨h', W, r1, r2, r3⟩ := ih (d + 1) g h1 _ (B + 1) (w * (if s.testBit d then c else 10 - c)) (by omega) (by omega) a1 (Gd_hour _ hg (by omega)) (by omega)
    refine ⟨h', W, fun k => ?_, ?_, fun k hk => by rw [r3 k hk, q1 k hk]⟩
    · unfold fX6_chance_L100
      rw [if_pos (nI_lt (by omega) (by omega)), mHas8 hs8 (by omega), bnd_e]
      simp only [mHas8 hs8 (show d < 8 by omega), bnd_e, vl_e, nI_1, ten_c hc, pk_mul, k1]
      have := r1 k
      cases hb : s.testBit d with
      | false =>
        rw [hb] at this
        rw [if_pos (show fg false = 0 from rfl)]
        exact this
      | true =>
        rw [hb] at this
        rw [if_neg (show ¬ fg true = 0 by decide)]
        exact this
    · rw [r2, Nat.mul_assoc]
      rfl
theorem mSum_L {T P n c : Nat} {e : Nat → Int32} {p5 p3 : Int32} (hg : Gd e T P 9999) (hn : n ≤ 8) (hc : c ≤ 10) : ∀ m i f h, i + m = 2 ^ n → m < f → h 284 = e → ∃ h', (∀ k : Int32 → Int32 → AH → Option (Int32 × AH), fX6_chance_L73 p5 (nI n) (nI c) p3 f (nI i) (nI (sumS (fun s => cF T P c s n 0 e) i)) h k = k (nI (2 ^ n)) (nI (sumS (fun s => cF T P c s n 0 e) (2 ^ n))) h') ∧ ∀ k, k ≠ 286 → h' k = h k := by
  have p8 : 2 ^ n ≤ 256 := Nat.pow_le_pow_right (n := 2) (by decide) hn
  have sh : ∀ n, n < 9 → (1 : Int32) <<< (nI n &&& 31) = nI (2 ^ n) := by decide +kernel
  intro m
  induction m with
  | zero =>
    intro i f h hi hf e284
    obtain ⟨g, rfl, -⟩ := fuel_s hf
    have : i = 2 ^ n := by omega
    subst this
    refine ⟨h, fun k => ?_, fun _ _ => rfl⟩
    unfold fX6_chance_L73
    rw [sh n (by omega), if_neg (nI_nlt (Nat.le_refl _) (by omega))]
  | succ m ih =>
    intro i f h hi hf e284
    obtain ⟨g, rfl, hf'⟩ := fuel_s hf
    obtain ⟨h1, k1, a1, q1⟩ := mTryA h
    rw [e284] at a1
    obtain ⟨h2, W, r1, r2, r3⟩ := mWt_L (T := T) (P := P) (n := n) (c := c) (s := i) (p5 := p5) (p4 := nI (sumS (fun s => cF T P c s n 0 e) i)) (p3 := p3) hn hc (by omega) n 0 FU h1 e 9999 1 (by omega) (by have := FU_big; omega) a1 hg (by omega)
    obtain ⟨h3, s1, s2⟩ := ih (i + 1) g h2 (by omega) (by omega) (by rw [r3 284 (by omega), q1 284 (by omega), e284])
    refine ⟨h3, fun k => ?_, fun k hk => by rw [s2 k hk, r3 k hk, q1 k hk]⟩
    unfold fX6_chance_L73
    have r1' := r1
    rw [nI_0, show nI 1 = 1 from rfl] at r1'
    rw [sh n (by omega), if_pos (nI_lt (by omega) (by omega)), k1, bnd_e, r1', cW1 ln_286, cl_1]
    rw [Nat.one_mul] at r2
    have := s1 k
    rw [show sumS (fun s => cF T P c s n 0 e) (i + 1) = sumS (fun s => cF T P c s n 0 e) i + cF T P c i n 0 e from rfl, ← r2] at this
    by_cases z : h2 286 1 = 0
    · rw [if_pos z, vl_e, vl_e, nI_1, nI_add]
      rw [if_pos z] at this
      exact this
    · rw [if_neg z, vl_e, vl_e, nI_1, add0]
      rw [if_neg z, Nat.add_zero] at this
      exact this
/-! the common divisor -/
theorem md {a b : Nat} (ha : a < 2 ^ 31) (h0 : 0 < b) (hb : b < 2 ^ 31) : nI a - nI a / nI b * nI b = nI (a % b) := by
  rw [pk_div ha h0 hb, pk_mul, pk_sub (Nat.div_mul_le_self a b)]
  congr 1
  have := Nat.div_add_mod a b
  rw [Nat.mul_comm] at this
  omega
theorem half_mod {b r : Nat} (h0 : 0 < r) (h : r < b) : 2 * (b % r) < b := by
  have h1 := Nat.mod_lt b h0
  have h2 := Nat.div_add_mod b r
  have h3 : 1 ≤ b / r := (Nat.one_le_div_iff h0).mpr (by omega)
  have h4 : r ≤ r * (b / r) := Nat.le_mul_of_pos_right r h3
  omega
theorem xGcd {p0 p1 : Int32} {h : AH} : ∀ k a b cnt f, b < 2 ^ k → k ≤ 30 → a < 2 ^ 31 → cnt + 2 * k < 100 → 2 * k < f → fX5_commonDivisor_L7 p0 p1 f (nI cnt) (nI b) (nI a) h (fun _ _ z3 h4 => some (z3, h4)) = some (nI (Nat.gcd a b), h) := by
  have fin : ∀ a cnt f, cnt < 100 → fX5_commonDivisor_L7 p0 p1 (f + 1) (nI cnt) (nI 0) (nI a) h (fun _ _ z3 h4 => some (z3, h4)) = some (nI (Nat.gcd a 0), h) := by
    intro a cnt f hc
    unfold fX5_commonDivisor_L7
    rw [if_pos (show nI cnt < 100 from nI_lt (b := 100) hc (by omega)), if_pos (show nI 0 = 0 from rfl), Nat.gcd_zero_right]
  have stp : ∀ a b cnt f, 0 < b → b < 2 ^ 31 → a < 2 ^ 31 → cnt < 100 → fX5_commonDivisor_L7 p0 p1 (f + 1) (nI cnt) (nI b) (nI a) h (fun _ _ z3 h4 => some (z3, h4)) = fX5_commonDivisor_L7 p0 p1 f (nI (cnt + 1)) (nI (a % b)) (nI b) h (fun _ _ z3 h4 => some (z3, h4)) := by
    intro a b cnt f h0 hb ha hc
    rw [fX5_commonDivisor_L7, if_pos (show nI cnt < 100 from nI_lt (b := 100) hc (by omega)), if_neg (nI_ne0 h0 hb), chk_p (nI_ne0 h0 hb), md ha h0 hb, vl_e, vl_e, nI_1]
  intro k
  induction k with
  | zero =>
    intro a b cnt f hb hk ha hc hf
    obtain ⟨g, rfl, -⟩ := fuel_s hf
    have : b = 0 := by have : 2 ^ 0 = 1 := rfl; omega
    subst this
    exact fin a cnt g (by omega)
  | succ k ih =>
    intro a b cnt f hb hk ha hc hf
    obtain ⟨g, rfl, hg⟩ := fuel_s (show 2 * k + 1 < f by omega)
    obtain ⟨g', rfl, hg'⟩ := fuel_s (show 2 * k < g by omega)
    have pw : 2 ^ (k + 1) ≤ 2 ^ 30 := Nat.pow_le_pow_right (by decide) (by omega)
    by_cases b0 : b = 0
    · subst b0; exact fin a cnt _ (by omega)
    · rw [stp a b cnt _ (by omega) (by omega) ha (by omega)]
      have r1 := Nat.mod_lt a (show 0 < b by omega)
      have g1 : Nat.gcd a b = Nat.gcd b (a % b) := by rw [Nat.gcd_comm a b, Nat.gcd_rec, Nat.gcd_comm]
      by_cases r0 : a % b = 0
      · rw [g1, r0]; exact fin b (cnt + 1) g' (by omega)
      · rw [stp b (a % b) (cnt + 1) _ (by omega) (by omega) (by omega) (by omega)]
        have hm := half_mod (show 0 < a % b by omega) r1
        have g2 : Nat.gcd b (a % b) = Nat.gcd (a % b) (b % (a % b)) := by rw [Nat.gcd_comm b, Nat.gcd_rec, Nat.gcd_comm]
        rw [g1, g2]
        exact ih (a % b) (b % (a % b)) (cnt + 1 + 1) g' (by rw [Nat.pow_succ] at hb; omega) (by omega) (by omega) (by omega) (by omega)
theorem mGcd {p5 p4 p1 p2 p3 : Int32} {h : AH} {kk : Int32 → Int32 → AH → Option (Int32 × AH)} : ∀ k a b f, b < 2 ^ k → k ≤ 30 → a < 2 ^ 31 → 2 * k < f → fX6_chance_L183 p5 p4 p1 p2 p3 f (nI b) (nI a) h kk = kk 0 (nI (Nat.gcd a b)) h := by
  have fin : ∀ a f, fX6_chance_L183 p5 p4 p1 p2 p3 (f + 1) (nI 0) (nI a) h kk = kk 0 (nI (Nat.gcd a 0)) h := by
    intro a f
    unfold fX6_chance_L183
    rw [if_pos (show nI 0 = 0 from rfl), Nat.gcd_zero_right, nI_0]
  have stp : ∀ a b f, 0 < b → b < 2 ^ 31 → a < 2 ^ 31 → fX6_chance_L183 p5 p4 p1 p2 p3 (f + 1) (nI b) (nI a) h kk = fX6_chance_L183 p5 p4 p1 p2 p3 f (nI (a % b)) (nI b) h kk := by
    intro a b f h0 hb ha
    rw [fX6_chance_L183, if_neg (nI_ne0 h0 hb), chk_p (nI_ne0 h0 hb), md ha h0 hb, vl_e]
  intro k
  induction k with
  | zero =>
    intro a b f hb hk ha hf
    obtain ⟨g, rfl, -⟩ := fuel_s hf
    have : b = 0 := by have : 2 ^ 0 = 1 := rfl; omega
    subst this
    exact fin a g
  | succ k ih =>
    intro a b f hb hk ha hf
    obtain ⟨g, rfl, hg⟩ := fuel_s (show 2 * k + 1 < f by omega)
    obtain ⟨g', rfl, hg'⟩ := fuel_s (show 2 * k < g by omega)
    have pw : 2 ^ (k + 1) ≤ 2 ^ 30 := Nat.pow_le_pow_right (by decide) (by omega)
    by_cases b0 : b = 0
    · subst b0; exact fin a _
    · rw [stp a b _ (by omega) (by omega) ha]
      have r1 := Nat.mod_lt a (show 0 < b by omega)
      have g1 : Nat.gcd a b = Nat.gcd b (a % b) := by rw [Nat.gcd_comm a b, Nat.gcd_rec, Nat.gcd_comm]
      by_cases r0 : a % b = 0
      · rw [g1, r0]; exact fin b g'
      · rw [stp b (a % b) _ (by omega) (by omega) (by omega)]
        have hm := half_mod (show 0 < a % b by omega) r1
        have g2 : Nat.gcd b (a % b) = Nat.gcd (a % b) (b % (a % b)) := by rw [Nat.gcd_comm b, Nat.gcd_rec, Nat.gcd_comm]
        rw [g1, g2]
        exact ih (a % b) (b % (a % b)) g' (by rw [Nat.pow_succ] at hb; omega) (by omega) (by omega) (by omega)
