/-! Salvage shared. -/
theorem sub0 (x : Int32) : x - 0 = x := Int32.sub_zero x
def pS (e : Nat → Int32) : Nat → Int32
  | 0 => 0
  | n + 1 => pS e n + (if ho e n = 1 then pl e n else 0)
theorem pS_nat {e : Nat → Int32} {T P B : Nat} (hg : Gd e T P B) : ∀ n, n ≤ T → ∃ s, s ≤ 20 * n ∧ pS e n = nI s ∧ ∀ t, t < n → ho e t = 1 → 1 ≤ s := by
  intro n
  induction n with
  | zero => intro _; exact ⟨0, by omega, rfl, fun t ht => by omega⟩
  | succ n ih =>
    intro hn
    obtain ⟨s, h1, h2, h3⟩ := ih (by omega)
    obtain ⟨u, u1, u2, eu⟩ := (hg.2.2.2.2.1 n (by omega)).2.1
    unfold pS
    by_cases z : ho e n = 1
    · rw [if_pos z, h2, eu, nI_add]
      exact ⟨s + u, by omega, rfl, fun _ _ _ => by omega⟩
    · rw [if_neg z, add0]
      refine ⟨s, by omega, h2, fun t ht hh => ?_⟩
      by_cases q : t = n
      · subst q; exact absurd hh z
      · exact h3 t (by omega) hh
def rmF (e : Nat → Int32) (S a : Int32) : Nat → Int32
  | 0 => a
  | n + 1 => rmF e S a n - (if ho e n = 1 then a * pl e n / S else 0)
def ctF (e : Nat → Int32) (t : Nat) : Nat → Int32
  | 0 => 0
  | n + 1 => ctF e t n + (if ho e n = 1 ∧ n < t then 1 else 0)
theorem xPull_L {e : Nat → Int32} {T P r : Nat} {h : AH} {k : Int32 → Int32 → AH → Option (Int32 × AH)} (he : EstC e T P h r) (hT : T ≤ 6) : ∀ m i f, i + m = T → m < f → fX2_pullOfHolders_L4 r f (nI i) (pS e i) h k = k (nI T) (pS e T) h := by
  intro m
  induction m with
  | zero =>
    intro i f hi hf
    obtain ⟨g, rfl, -⟩ := fuel_s hf
    have : i = T := by omega
    subst this
    unfold fX2_pullOfHolders_L4
    rw [he.2.1.1, if_neg (nI_nlt (Nat.le_refl i) (by omega))]
  | succ m ih =>
    intro i f hi hf
    obtain ⟨g, rfl, hf'⟩ := fuel_s hf
    unfold fX2_pullOfHolders_L4
    have := ih (i + 1) g (by omega) (by omega)
    rw [show pS e (i + 1) = pS e i + (if ho e i = 1 then pl e i else 0) from rfl] at this
    rw [he.2.1.1, if_pos (nI_lt (by omega) (by omega)), xHolds he hT (by omega), bnd_e]
    by_cases z : ho e i = 1
    · rw [if_pos z, if1, cE2 he.1 (by omega), nI_clamp (by omega), (he.2.2.1 i (by omega)).2.1, vl_e, vl_e, nI_1]
      rw [if_pos z] at this
      exact this
    · rw [if_neg z, if0, vl_e, vl_e, nI_1]
      rw [if_neg z] at this
      exact this
theorem mPull_L {e : Nat → Int32} {T P : Nat} {p1 p2 : Int32} {h : AH} {k : Int32 → Int32 → AH → Option (Int32 × AH)} (hg : Gd e T P 9999) (e284 : h 284 = e) : ∀ m i f, i + m = T → m < f → fX6_share_L46 (nI (hm e T)) p1 p2 f (nI i) (pS e i) h k = k (nI T) (pS e T) h := by
  have hT := hg.1.2.1
  have hM : hm e T < 64 := Nat.lt_of_lt_of_le (hm_lt e T) (p2_64 hT)
  intro m
  induction m with
  | zero =>
    intro i f hi hf
    obtain ⟨g, rfl, -⟩ := fuel_s hf
    have : i = T := by omega
    subst this
    unfold fX6_share_L46
    rw [cW2 ln_284, cl_2, e284, hg.1.2.2.2.1, if_neg (nI_nlt (Nat.le_refl i) (by omega))]
  | succ m ih =>
    intro i f hi hf
    obtain ⟨g, rfl, hf'⟩ := fuel_s hf
    unfold fX6_share_L46
    have := ih (i + 1) g (by omega) (by omega)
    rw [show pS e (i + 1) = pS e i + (if ho e i = 1 then pl e i else 0) from rfl] at this
    rw [cW2 ln_284, cl_2, e284, hg.1.2.2.2.1, if_pos (nI_lt (by omega) (by omega)), mHas hM (by omega), hm_bit e T hT i (by omega), bnd_e]
    by_cases z : ho e i = 1
    · rw [if_pos (show decide (ho e i = 1) = true by simp [z]), if1, ix5, i5_1, cW ln_284 (by omega), nI_clamp (by omega), vl_e, vl_e, nI_1, e284]
      rw [if_pos z] at this
      exact this
    · rw [if_neg (show ¬ decide (ho e i = 1) = true by simp [z]), if0, vl_e, vl_e, nI_1]
      rw [if_neg z] at this
      exact this
theorem xShare_L {e : Nat → Int32} {T P t : Nat} {S a : Int32} {h : AH} {k : Int32 → Int32 → Int32 → AH → Option (Int32 × AH)} (he : EstC e T P h 20) (hT : T ≤ 6) (ht : t < T) (hS : ¬ S = 0) : ∀ m i f, i + m = T → m < f → fX5_share_L57 S (nI t) a f (nI i) (ctF e t i) (rmF e S a i) h k = k (nI T) (ctF e t T) (rmF e S a T) h := by
  intro m
  induction m with
  | zero =>
    intro i f hi hf
    obtain ⟨g, rfl, -⟩ := fuel_s hf
    have : i = T := by omega
    subst this
    unfold fX5_share_L57
    rw [he.2.1.1, if_neg (nI_nlt (Nat.le_refl i) (by omega))]
  | succ m ih =>
    intro i f hi hf
    obtain ⟨g, rfl, hf'⟩ := fuel_s hf
    unfold fX5_share_L57
    have := ih (i + 1) g (by omega) (by omega)
    rw [show ctF e t (i + 1) = ctF e t i + (if ho e i = 1 ∧ i < t then 1 else 0) from rfl, show rmF e S a (i + 1) = rmF e S a i - (if ho e i = 1 then a * pl e i / S else 0) from rfl] at this
    rw [he.2.1.1, if_pos (nI_lt (by omega) (by omega)), xHolds he hT (by omega), bnd_e]
    by_cases z : ho e i = 1
    · rw [if_pos z, if1, cX ln_22 (by omega), chk_p hS, nI_clamp (by omega), (he.at20 (show i < T by omega)).2.1, vl_e]
      rw [if_pos z] at this
      by_cases y : i < t
      · rw [if_pos (nI_lt y (by omega)), vl_e, vl_e, nI_1]
        rw [if_pos ⟨z, y⟩] at this
        exact this
      · rw [if_neg (nI_nlt (by omega) (by omega)), vl_e, vl_e, nI_1]
        rw [if_neg (fun w => y w.2)] at this
        exact this
    · rw [if_neg z, if0, vl_e, nI_1]
      rw [if_neg z, if_neg (fun w => z w.1), add0, sub0] at this
      exact this
theorem mShare_L {e : Nat → Int32} {T P t : Nat} {S a : Int32} {h : AH} {k : Int32 → Int32 → Int32 → AH → Option (Int32 × AH)} (hg : Gd e T P 9999) (e284 : h 284 = e) (ht : t < T) (hS : ¬ S = 0) : ∀ m i f, i + m = T → m < f → fX6_share_L103 S (nI (hm e T)) (nI t) a f (nI i) (ctF e t i) (rmF e S a i) h k = k (nI T) (ctF e t T) (rmF e S a T) h := by
  have hT := hg.1.2.1
  have hM : hm e T < 64 := Nat.lt_of_lt_of_le (hm_lt e T) (p2_64 hT)
  intro m
  induction m with
  | zero =>
    intro i f hi hf
    obtain ⟨g, rfl, -⟩ := fuel_s hf
    have : i = T := by omega
    subst this
    unfold fX6_share_L103
    rw [cW2 ln_284, cl_2, e284, hg.1.2.2.2.1, if_neg (nI_nlt (Nat.le_refl i) (by omega))]
  | succ m ih =>
    intro i f hi hf
    obtain ⟨g, rfl, hf'⟩ := fuel_s hf
    unfold fX6_share_L103
    have := ih (i + 1) g (by omega) (by omega)
    rw [show ctF e t (i + 1) = ctF e t i + (if ho e i = 1 ∧ i < t then 1 else 0) from rfl, show rmF e S a (i + 1) = rmF e S a i - (if ho e i = 1 then a * pl e i / S else 0) from rfl] at this
    rw [cW2 ln_284, cl_2, e284, hg.1.2.2.2.1, if_pos (nI_lt (by omega) (by omega))]
    simp only [mHas hM (show i < 6 by omega), hm_bit e T hT i (by omega), bnd_e, vl_e, nI_1, add0, sub0]
    by_cases z : ho e i = 1
    · rw [if_pos z] at this
      simp only [if_pos (show decide (ho e i = 1) = true by simp [z]), if1]
      rw [ix5, i5_1, cW ln_284 (by omega), nI_clamp (by omega), chk_p hS, e284]
      by_cases y : i < t
      · rw [if_pos (nI_lt y (by omega))]
        rw [if_pos ⟨z, y⟩] at this
        exact this
      · rw [if_neg (nI_nlt (by omega) (by omega))]
        rw [if_neg (fun w => y w.2), add0] at this
        exact this
    · rw [if_neg z, if_neg (fun w => z w.1), add0, sub0] at this
      simp only [if_neg (show ¬ decide (ho e i = 1) = true by simp [z]), ↓reduceIte]
      by_cases y : i < t
      · rw [if_pos (nI_lt y (by omega))]; exact this
      · rw [if_neg (nI_nlt (by omega) (by omega))]; exact this
theorem both_share {h : AH} (i : Inv h) (a b : Int32) : Both (fX5_share a b h) (fX6_share a b) := by
  unfold fX5_share fX6_share
  rcases tugs i.2.2.2.1 a with ⟨q1, q2⟩ | ⟨T, P, t, hg, he, ht, rfl, q1, q2⟩
  · refine Both.same (h := h) (v := -1000001) i ?_ ?_
    · rw [q1]; rfl
    · rw [q2 h rfl]; rfl
  have hT := hg.1.2.1
  have hM : hm (h 284) T < 64 := Nat.lt_of_lt_of_le (hm_lt (h 284) T) (p2_64 hT)
  rw [q1, bnd_e, if0]
  rcases rl b 0 999 0 999 rfl rfl (by omega) (by omega) with p | ⟨p, p2⟩ | ⟨p, p2, s, -, hs2, -⟩
  · refine Both.same (h := h) (v := -1000001) i (by rw [if_pos p]) ?_
    rw [q2 h rfl, bnd_e, if1, mIn_l h p]; rfl
  · refine Both.same (h := h) (v := -1000001) i (by rw [if_neg p, if_pos p2]) ?_
    rw [q2 h rfl, bnd_e, if1, mIn_u h p p2]; rfl
  rw [if_neg p, if_neg p2]
  have xp : fX2_pullOfHolders 20 h = some (pS (h 284) T, h) := by
    unfold fX2_pullOfHolders
    exact xPull_L (k := fun _ z2 h3 => some (z2, h3)) he hT T 0 FU (by omega) (by have := FU_big; omega)
  have rf : ∀ kk : Int32 → AH → Option (Int32 × AH), (bnd (fX6_isTug (nI t) h) fun v2 h1 => if v2 = 0 then some (-1000001, h1) else bnd (fX6_in b 0 999 h1) fun v4 h3 => if v4 = 0 then some (-1000001, h3) else bnd (fX6_holding 284 h3) fun v6 h5 => kk v6 h5) = kk (nI (hm (h 284) T)) h := by
    intro kk
    rw [q2 h rfl, bnd_e, if1, mIn_i h p p2, bnd_e, if1, mHolding (T := T) ln_284 hT hg.1.2.2.2.1 hg.hold, bnd_e]
  rw [xp, bnd_e, xHolds he hT ht, bnd_e]
  by_cases z : ho (h 284) t = 1
  · rw [if_pos z, if1]
    obtain ⟨S, hS1, hS2, hS3⟩ := pS_nat hg T (Nat.le_refl T)
    have hS4 := hS3 t ht z
    have hS0 : ¬ pS (h 284) T = 0 := by rw [hS2]; exact nI_ne0 (by omega) (by omega)
    rw [if_neg (by rw [hS2]; exact nI_nlt (b := 1) (by omega) (by omega))]
    have lp := xShare_L (S := pS (h 284) T) (a := b) (k := fun z7 z8 z9 h10 => (chk (inb (nI t) (ln 22)) (chk (¬ pS (h 284) T = 0) (if z8 < z9 then (some ((((b * (h10 22 (Int32.toNatClampNeg (nI t)))) / pS (h 284) T) + 1), h10)) else (some ((((b * (h10 22 (Int32.toNatClampNeg (nI t)))) / pS (h 284) T) + 0), h10)))))) he hT ht hS0 T 0 FU (by omega) (by have := FU_big; omega)
    rw [nI_0, show ctF (h 284) t 0 = 0 from rfl, show rmF (h 284) (pS (h 284) T) b 0 = b from rfl] at lp
    rw [lp]
    have lp2 := mPull_L (p1 := nI t) (p2 := b) (h := h) (k := fun z9 z10 h11 => (fX6_share_L103 z10 (nI (hm (h 284) T)) (nI t) b FU 0 0 b h11 fun z12 z13 z14 h15 => (chk (inb ((5 + (5 * (nI t))) + 1) (ln 284)) (chk (¬ z10 = 0) (if z13 < z14 then (some ((((b * (h15 284 (Int32.toNatClampNeg ((5 + (5 * (nI t))) + 1)))) / z10) + 1), h15)) else (some ((((b * (h15 284 (Int32.toNatClampNeg ((5 + (5 * (nI t))) + 1)))) / z10) + 0), h15))))))) hg rfl T 0 FU (by omega) (by have := FU_big; omega)
    have lp3 := mShare_L (S := pS (h 284) T) (a := b) (h := h) (k := fun z12 z13 z14 h15 => (chk (inb ((5 + (5 * (nI t))) + 1) (ln 284)) (chk (¬ pS (h 284) T = 0) (if z13 < z14 then (some ((((b * (h15 284 (Int32.toNatClampNeg ((5 + (5 * (nI t))) + 1)))) / pS (h 284) T) + 1), h15)) else (some ((((b * (h15 284 (Int32.toNatClampNeg ((5 + (5 * (nI t))) + 1)))) / pS (h 284) T) + 0), h15)))))) hg rfl ht hS0 T 0 FU (by omega) (by have := FU_big; omega)
    rw [nI_0, show pS (h 284) 0 = 0 from rfl] at lp2
    rw [nI_0, show ctF (h 284) t 0 = 0 from rfl, show rmF (h 284) (pS (h 284) T) b 0 = b from rfl] at lp3
    have fin : ∀ w : Int32, (chk (inb (nI t) (ln 22)) (chk (¬ pS (h 284) T = 0) (if ctF (h 284) t T < rmF (h 284) (pS (h 284) T) b T then (some ((((b * (h 22 (Int32.toNatClampNeg (nI t)))) / pS (h 284) T) + 1), h)) else (some ((((b * (h 22 (Int32.toNatClampNeg (nI t)))) / pS (h 284) T) + 0), h))))) = some (if ctF (h 284) t T < rmF (h 284) (pS (h 284) T) b T then b * pl (h 284) t / pS (h 284) T + 1 else b * pl (h 284) t / pS (h 284) T + 0, h) := by
      intro w
      rw [cX ln_22 (by omega), chk_p hS0, nI_clamp (by omega), (he.at20 ht).2.1]
      split <;> rfl
    refine Both.same (h := h) i (fin 0) ?_
    rw [rf, mHas hM (by omega), hm_bit _ T hT t ht, bnd_e, if_pos (show decide (ho (h 284) t = 1) = true by simp [z]), if1, lp2, lp3, ix5, i5_1, cW ln_284 (by omega), nI_clamp (by omega), chk_p hS0]
    split <;> rfl
  · rw [if_neg z, if0]
    refine Both.same (h := h) (v := 0) i rfl ?_
    rw [rf, mHas hM (by omega), hm_bit _ T hT t ht, bnd_e, if_neg (show ¬ decide (ho (h 284) t = 1) = true by simp [z]), if0]
