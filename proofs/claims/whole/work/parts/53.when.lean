/-! When it is in, whose rope parts when, the least pull. -/
def arr (T P : Nat) : Nat → Nat → (Nat → Int32) → Int32
  | 0, i, e => if e 1 = 0 then nI i else -1000000
  | m + 1, i, e => if e 1 = 0 then nI i else arr T P m (i + 1) (hourR e T P 0)
theorem arr_in {T P : Nat} : ∀ m i e B, Gd e T P B → B + m ≤ 20000 → i + m < 1000 → (arr T P m i e = -1000000 ↔ ¬ hEs T P m e 1 = 0) := by
  intro m
  have nn : ∀ i, i < 1000 → ¬ nI i = (-1000000 : Int32) := by
    intro i hi z
    have h1 : (nI i).toInt = (-1000000 : Int32).toInt := by rw [z]
    rw [nI_toInt (by omega)] at h1
    have h2 : (-1000000 : Int32).toInt = -1000000 := by decide
    omega
  induction m with
  | zero =>
    intro i e B hg hB hi
    unfold arr
    by_cases z : e 1 = 0
    · rw [if_pos z]
      exact ⟨fun w => absurd w (nn i (by omega)), fun w => absurd z w⟩
    · rw [if_neg z]
      exact ⟨fun _ => z, fun _ => rfl⟩
  | succ m ih =>
    intro i e B hg hB hi
    unfold arr
    by_cases z : e 1 = 0
    · rw [if_pos z]
      exact ⟨fun w => absurd w (nn i (by omega)), fun w => absurd (in_stays_n (m + 1) e B hg hB z) w⟩
    · rw [if_neg z]
      exact ih (i + 1) (hourR e T P 0) (B + 1) (Gd_hour 0 hg (by omega)) (by omega) (by omega)
theorem xUntil_L {T P n r : Nat} (hn : n ≤ 100) : ∀ m i f h X B, i + m = n → m < f → EstC X T P h r → Gd X T P B → B + m ≤ 20000 → ∃ h', fX5_hoursUntilIn_L2 r (nI n) f (nI i) h (fun _ h2 => (if (h2 r 3) = 0 then (some ((nI n), h2)) else (some (-1000000, h2)))) = some (arr T P m i X, h') ∧ Fm r h h' := by
  intro m
  induction m with
  | zero =>
    intro i f h X B hi hf a hg hB
    obtain ⟨g, rfl, -⟩ := fuel_s hf
    have : i = n := by omega
    subst this
    unfold fX5_hoursUntilIn_L2 arr
    rw [if_neg (nI_nlt (Nat.le_refl i) (by omega))]
    dsimp only
    rw [a.2.1.2.2.2.1]
    by_cases z : X 1 = 0
    · rw [if_pos z, if_pos z]; exact ⟨h, rfl, Fm.rf _ _⟩
    · rw [if_neg z, if_neg z]; exact ⟨h, rfl, Fm.rf _ _⟩
  | succ m ih =>
    intro i f h X B hi hf a hg hB
    obtain ⟨g, rfl, hf'⟩ := fuel_s hf
    unfold fX5_hoursUntilIn_L2 arr
    rw [if_pos (nI_lt (by omega) (by omega)), a.2.1.2.2.2.1]
    by_cases z : X 1 = 0
    · rw [if_pos z, if_pos z]; exact ⟨h, rfl, Fm.rf _ _⟩
    · rw [if_neg z, if_neg z]
      obtain ⟨h1, k1, a1, q1⟩ := xHour 0 hg (by omega) a
      rw [k1]
      simp only [bnd_s, vl_d, nI_1]
      obtain ⟨h', r1, r3⟩ := ih (i + 1) g h1 (hourR X T P 0) (B + 1) (by omega) (by omega) a1 (Gd_hour 0 hg (by omega)) (by omega)
      exact ⟨h', r1, q1.tr r3⟩
theorem xUntil {T P n r B : Nat} {h : AH} {X : Nat → Int32} (hn : n ≤ 100) (he : EstC X T P h r) (hg : Gd X T P B) (hB : B + n ≤ 20000) : ∃ h', fX5_hoursUntilIn r (nI n) h = some (arr T P n 0 X, h') ∧ Fm r h h' := by
  unfold fX5_hoursUntilIn
  obtain ⟨h', r1, r2⟩ := xUntil_L (T := T) (P := P) hn n 0 FU h X B (by omega) (by have := FU_big; omega) he hg hB
  rw [nI_0] at r1
  exact ⟨h', r1, r2⟩
theorem mArr_L {T P : Nat} : ∀ m i f h X B, i + m = 60 → m + 1 < f → Ag (h 286) X → Gd X T P B → B + m + 1 ≤ 20000 → ∃ h', fX6_arrives_L25 f (nI i) h (fun _ h5 => some (-1000000, h5)) = some (arr T P m i X, h') ∧ ∀ k, k ≠ 286 → h' k = h k := by
  intro m
  induction m with
  | zero =>
    intro i f h X B hi hf a hg hB
    obtain ⟨g, rfl, hf'⟩ := fuel_s hf
    have : i = 60 := by omega
    subst this
    unfold fX6_arrives_L25 arr
    rw [if_pos (show nI 60 < 61 from nI_lt (b := 61) (by omega) (by omega)), cW1 ln_286, cl_1, a 1 (by omega)]
    by_cases z : X 1 = 0
    · rw [if_pos z, if_pos z]; exact ⟨h, rfl, fun _ _ => rfl⟩
    · rw [if_neg z, if_neg z]
      obtain ⟨h1, k1, a1, q1⟩ := mHr 0 a hg
      rw [k1]
      simp only [bnd_s, vl_d, nI_1]
      obtain ⟨g', rfl, -⟩ := fuel_s hf'
      unfold fX6_arrives_L25
      rw [if_neg (show ¬ nI (60 + 1) < 61 from nI_nlt (b := 61) (by omega) (by omega))]
      exact ⟨h1, rfl, q1⟩
  | succ m ih =>
    intro i f h X B hi hf a hg hB
    obtain ⟨g, rfl, hf'⟩ := fuel_s hf
    unfold fX6_arrives_L25 arr
    rw [if_pos (show nI i < 61 from nI_lt (b := 61) (by omega) (by omega)), cW1 ln_286, cl_1, a 1 (by omega)]
    by_cases z : X 1 = 0
    · rw [if_pos z, if_pos z]; exact ⟨h, rfl, fun _ _ => rfl⟩
    · rw [if_neg z, if_neg z]
      obtain ⟨h1, k1, a1, q1⟩ := mHr 0 a hg
      rw [k1]
      simp only [bnd_s, vl_d, nI_1]
      obtain ⟨h', r1, r3⟩ := ih (i + 1) g h1 (hourR X T P 0) (B + 1) (by omega) (by omega) a1 (Gd_hour 0 hg (by omega)) (by omega)
      exact ⟨h', r1, fun k hk => by rw [r3 k hk, q1 k hk]⟩
set_option maxRecDepth 4000 in
theorem both_arrives {h : AH} (i : Inv h) : Both (fX5_arrives h) fX6_arrives := by
  unfold fX5_arrives fX6_arrives
  rcases ests i.2.2.2.1 with ⟨q1, q2⟩ | ⟨T, P, hg, he, q1, q2⟩
  · refine Both.same (h := h) (v := -1000002) i ?_ ?_
    · rw [q1]; rfl
    · rw [q2 h rfl]; rfl
  have hT := hg.1.2.1
  have hP := hg.1.2.2.1
  rw [q1]
  simp only [bnd_s, ↓reduceIte]
  obtain ⟨h1, k1, he1, q3⟩ := xNow he hT hP
  rw [k1]
  simp only [bnd_s]
  obtain ⟨h2, k2, q4⟩ := xUntil (n := 60) (by omega) he1 hg (by omega)
  rw [chk_p kd_213, show (60 : Int32) = nI 60 from rfl, k2]
  simp only [bnd_s]
  refine Both.of rfl ?_
  have f2 : Fm 213 h h2 := q3.tr q4
  have e284 : h2 284 = h 284 := f2 284 (by omega)
  obtain ⟨h3, k3, a3, q5⟩ := mTryA h2
  rw [e284] at a3
  obtain ⟨h4, k4, q6⟩ := mArr_L (T := T) (P := P) 60 0 FU h3 (h 284) 9999 (by omega) (by have := FU_big; omega) a3 hg (by omega)
  rw [nI_0] at k4
  rw [q2 h2 e284]
  simp only [bnd_s, if1]
  rw [k3]
  simp only [bnd_s]
  rw [k4]
  exact ⟨_, rfl, i.sc (try_sc f2 fun k hk => by rw [q6 k hk, q5 k hk])⟩
def prF (T P t : Nat) : Nat → Nat → (Nat → Int32) → Int32
  | 0, i, e => if ho e t = 0 then nI i else -1000000
  | m + 1, i, e => if ho e t = 0 then nI i else prF T P t m (i + 1) (hourR e T P 0)
theorem xParts_L {T P r t : Nat} (ht : t < T) : ∀ m i f h X B, i + m = 60 → m + 1 < f → EstC X T P h r → Gd X T P B → B + m + 1 ≤ 20000 → ∃ h', fX5_parts_L18 r (nI t) f (nI i) h (fun _ h7 => some (-1000000, h7)) = some (prF T P t m i X, h') ∧ Fm r h h' := by
  intro m
  induction m with
  | zero =>
    intro i f h X B hi hf a hg hB
    obtain ⟨g, rfl, hf'⟩ := fuel_s hf
    have : i = 60 := by omega
    subst this
    unfold fX5_parts_L18 prF
    rw [if_neg (show ¬ (60 : Int32) < nI 60 from nI_nlt (a := 60) (by omega) (by omega)), xHolds a hg.1.2.1 ht]
    simp only [bnd_s]
    rcases hg.hold t ht with z | z
    · rw [z, if_neg (show ¬ (0 : Int32) = 1 by decide), if0]; exact ⟨h, by rfl, Fm.rf _ _⟩
    · rw [z, if_pos rfl, if1, if1]
      obtain ⟨h1, k1, a1, q1⟩ := xHour 0 hg (by omega) a
      rw [k1]
      simp only [bnd_s, vl_d, nI_1]
      obtain ⟨g', rfl, -⟩ := fuel_s hf'
      unfold fX5_parts_L18
      rw [if_pos (show (60 : Int32) < nI (60 + 1) from nI_lt (a := 60) (by omega) (by omega))]
      exact ⟨h1, rfl, q1⟩
  | succ m ih =>
    intro i f h X B hi hf a hg hB
    obtain ⟨g, rfl, hf'⟩ := fuel_s hf
    unfold fX5_parts_L18 prF
    rw [if_neg (show ¬ (60 : Int32) < nI i from nI_nlt (a := 60) (by omega) (by omega)), xHolds a hg.1.2.1 ht]
    simp only [bnd_s]
    rcases hg.hold t ht with z | z
    · rw [z, if_neg (show ¬ (0 : Int32) = 1 by decide), if0]; exact ⟨h, by rfl, Fm.rf _ _⟩
    · rw [z, if_pos rfl, if1, if1]
      obtain ⟨h1, k1, a1, q1⟩ := xHour 0 hg (by omega) a
      rw [k1]
      simp only [bnd_s, vl_d, nI_1]
      obtain ⟨h', r1, r3⟩ := ih (i + 1) g h1 (hourR X T P 0) (B + 1) (by omega) (by omega) a1 (Gd_hour 0 hg (by omega)) (by omega)
      exact ⟨h', r1, q1.tr r3⟩
theorem mParts_L {T P t : Nat} (ht : t < T) : ∀ m i f h X B, i + m = 60 → m + 1 < f → Ag (h 286) X → Gd X T P B → B + m + 1 ≤ 20000 → ∃ h', fX6_parts_L26 (nI t) f (nI i) h (fun _ h5 => some (-1000000, h5)) = some (prF T P t m i X, h') ∧ ∀ k, k ≠ 286 → h' k = h k := by
  intro m
  induction m with
  | zero =>
    intro i f h X B hi hf a hg hB
    have hT := hg.1.2.1
    obtain ⟨g, rfl, hf'⟩ := fuel_s hf
    have : i = 60 := by omega
    subst this
    unfold fX6_parts_L26 prF
    rw [if_pos (show nI 60 < 61 from nI_lt (b := 61) (by omega) (by omega)), ix5, i5_4, cW ln_286 (by omega), nI_clamp (by omega), a (9 + 5 * t) (by omega)]
    by_cases z : ho X t = 0
    · rw [if_pos z, if_pos z]; exact ⟨h, rfl, fun _ _ => rfl⟩
    · rw [if_neg z, if_neg z]
      obtain ⟨h1, k1, a1, q1⟩ := mHr 0 a hg
      rw [k1]
      simp only [bnd_s, vl_d, nI_1]
      obtain ⟨g', rfl, -⟩ := fuel_s hf'
      unfold fX6_parts_L26
      rw [if_neg (show ¬ nI (60 + 1) < 61 from nI_nlt (b := 61) (by omega) (by omega))]
      exact ⟨h1, rfl, q1⟩
  | succ m ih =>
    intro i f h X B hi hf a hg hB
    have hT := hg.1.2.1
    obtain ⟨g, rfl, hf'⟩ := fuel_s hf
    unfold fX6_parts_L26 prF
    rw [if_pos (show nI i < 61 from nI_lt (b := 61) (by omega) (by omega)), ix5, i5_4, cW ln_286 (by omega), nI_clamp (by omega), a (9 + 5 * t) (by omega)]
    by_cases z : ho X t = 0
    · rw [if_pos z, if_pos z]; exact ⟨h, rfl, fun _ _ => rfl⟩
    · rw [if_neg z, if_neg z]
      obtain ⟨h1, k1, a1, q1⟩ := mHr 0 a hg
      rw [k1]
      simp only [bnd_s, vl_d, nI_1]
      obtain ⟨h', r1, r3⟩ := ih (i + 1) g h1 (hourR X T P 0) (B + 1) (by omega) (by omega) a1 (Gd_hour 0 hg (by omega)) (by omega)
      exact ⟨h', r1, fun k hk => by rw [r3 k hk, q1 k hk]⟩
set_option maxRecDepth 4000 in
theorem both_parts {h : AH} (i : Inv h) (a : Int32) : Both (fX5_parts a h) (fX6_parts a) := by
  unfold fX5_parts fX6_parts
  rcases tugs i.2.2.2.1 a with ⟨q1, q2⟩ | ⟨T, P, t, hg, he, ht, rfl, q1, q2⟩
  · refine Both.same (h := h) (v := -1000001) i ?_ ?_
    · rw [q1]; rfl
    · rw [q2 h rfl]; rfl
  have hT := hg.1.2.1
  have hP := hg.1.2.2.1
  rw [q1]
  simp only [bnd_s, ↓reduceIte]
  obtain ⟨h1, k1, he1, q3⟩ := xNow he hT hP
  rw [k1]
  simp only [bnd_s]
  obtain ⟨h2, k2, q4⟩ := xParts_L ht 60 0 FU h1 (h 284) 9999 (by omega) (by have := FU_big; omega) he1 hg (by omega)
  rw [nI_0] at k2
  rw [chk_p kd_213, k2]
  refine Both.of rfl ?_
  have f2 : Fm 213 h h2 := q3.tr q4
  have e284 : h2 284 = h 284 := f2 284 (by omega)
  obtain ⟨h3, k3, a3, q5⟩ := mTryA h2
  rw [e284] at a3
  obtain ⟨h4, k4, q6⟩ := mParts_L (P := P) ht 60 0 FU h3 (h 284) 9999 (by omega) (by have := FU_big; omega) a3 hg (by omega)
  rw [nI_0] at k4
  rw [q2 h2 e284]
  simp only [bnd_s, if1]
  rw [k3]
  simp only [bnd_s]
  rw [k4]
  exact ⟨_, rfl, i.sc (try_sc f2 fun k hk => by rw [q6 k hk, q5 k hk])⟩
/-! the least pull -/
def lea (T P t n : Nat) (e : Nat → Int32) : Nat → Nat → Int32
  | 0, _ => -1000000
  | m + 1, v => if hEs T P n (upd e (6 + 5 * t) (nI v)) 1 = 0 then nI v else lea T P t n e m (v + 1)
theorem xLeast_L {T P t n : Nat} {e : Nat → Int32} (hg : Gd e T P 9999) (ht : t < T) (hn : n ≤ 30) : ∀ m v f h, v + m = 21 → 1 ≤ v → m < f → EstC e T P h 20 → ∃ h', fX5_least_L24 (nI t) (nI n) f (nI v) h (fun _ h4 => some (-1000000, h4)) = some (lea T P t n e m v, h') ∧ Fm 213 h h' := by
  have hT := hg.1.2.1
  have hP := hg.1.2.2.1
  intro m
  induction m with
  | zero =>
    intro v f h hv h1 hf he
    obtain ⟨g, rfl, -⟩ := fuel_s hf
    have : v = 21 := by omega
    subst this
    unfold fX5_least_L24 lea
    rw [if_pos (show (20 : Int32) < nI 21 from nI_lt (a := 20) (by omega) (by omega))]
    exact ⟨h, rfl, Fm.rf _ _⟩
  | succ m ih =>
    intro v f h hv h1 hf he
    obtain ⟨g, rfl, hf'⟩ := fuel_s hf
    unfold fX5_least_L24 lea
    rw [if_neg (show ¬ (20 : Int32) < nI v from nI_nlt (a := 20) (by omega) (by omega))]
    obtain ⟨h2, k2, he2, q2⟩ := xNow he hT hP
    rw [k2]
    simp only [bnd_s, chk_p kd_213, cE2 kd_213 (show t < 6 by omega), nI_clamp (show t < 2 ^ 31 by omega), sto_d]
    have hg3 := Gd_pull hg ht h1 (show v ≤ 20 by omega)
    have he3 := he2.pulS hT ht (nI v)
    obtain ⟨h4, k4, q4⟩ := xUntil (n := n) (by omega) he3 hg3 (by omega)
    rw [k4]
    simp only [bnd_s]
    have f4 : Fm 213 h h4 := (q2.tr (Fm.hs 213 h2 t _ (by omega))).tr q4
    have ai := arr_in n 0 _ 9999 hg3 (by omega) (by omega)
    by_cases z : hEs T P n (upd e (6 + 5 * t) (nI v)) 1 = 0
    · rw [if_pos z, if_neg (fun w => ai.mp w z)]
      exact ⟨h4, rfl, f4⟩
    · rw [if_neg z, if_pos (ai.mpr z), vl_d, nI_1]
      obtain ⟨h5, k5, q5⟩ := ih (v + 1) g h4 (by omega) (by omega) (by omega) (he.fm fun k w1 w2 => f4 k (by omega))
      exact ⟨h5, k5, f4.tr q5⟩
theorem mLeast_L {T P t n : Nat} {e : Nat → Int32} (hg : Gd e T P 9999) (ht : t < T) (hn : n ≤ 30) : ∀ m v f h, v + m = 21 → 1 ≤ v → m < f → h 284 = e → ∃ h', fX6_least_L20 (nI t) (nI n) f (nI v) h (fun _ h6 => some (-1000000, h6)) = some (lea T P t n e m v, h') ∧ ∀ k, k ≠ 286 → h' k = h k := by
  have hT := hg.1.2.1
  have hP := hg.1.2.2.1
  intro m
  induction m with
  | zero =>
    intro v f h hv h1 hf he
    obtain ⟨g, rfl, -⟩ := fuel_s hf
    have : v = 21 := by omega
    subst this
    unfold fX6_least_L20 lea
    rw [if_neg (show ¬ nI 21 < 21 from nI_nlt (b := 21) (by omega) (by omega))]
    exact ⟨h, rfl, fun _ _ => rfl⟩
  | succ m ih =>
    intro v f h hv h1 hf he
    obtain ⟨g, rfl, hf'⟩ := fuel_s hf
    unfold fX6_least_L20 lea
    rw [if_pos (show nI v < 21 from nI_lt (b := 21) (by omega) (by omega))]
    obtain ⟨h2, k2, a2, q2⟩ := mTryA h
    rw [he] at a2
    rw [k2]
    simp only [bnd_s, ix5, i5_1, cW ln_286 (show 6 + 5 * t < 43 by omega), nI_clamp (show 6 + 5 * t < 2 ^ 31 by omega), sto_d, cW1 ln_286, cl_1]
    have hg3 := Gd_pull hg ht h1 (show v ≤ 20 by omega)
    have a3 : Ag (hs h2 286 (6 + 5 * t) (nI v) 286) (upd e (6 + 5 * t) (nI v)) := by
      intro j hj
      rw [hs_k]
      by_cases z : j = 6 + 5 * t
      · subst z; rw [upd_s, upd_s]
      · rw [upd_n _ _ z, upd_n _ _ z, a2 j hj]
    obtain ⟨h4, k4, a4, q4⟩ := mGoes (n := n) (by omega) a3 hg3 (by omega)
    rw [k4]
    simp only [bnd_s]
    have f4 : ∀ k, k ≠ 286 → h4 k = h k := fun k hk => by rw [q4 k hk, hs_q _ _ _ hk, q2 k hk]
    rw [a4 1 (by omega)]
    by_cases z : hEs T P n (upd e (6 + 5 * t) (nI v)) 1 = 0
    · rw [if_pos z, if_pos z]
      exact ⟨h4, rfl, f4⟩
    · rw [if_neg z, if_neg z, vl_d, nI_1]
      obtain ⟨h5, k5, q5⟩ := ih (v + 1) g h4 (by omega) (by omega) (by omega) (by rw [f4 284 (by omega), he])
      exact ⟨h5, k5, fun k hk => by rw [q5 k hk, f4 k hk]⟩
theorem near (a : Int32) : ((a < 1 ∨ (¬ a < 1 ∧ 30 < a)) ∧ ∀ h, fX6_isNear a h = some (0, h)) ∨ ∃ n, 1 ≤ n ∧ n ≤ 30 ∧ a = nI n ∧ ¬ a < 1 ∧ ¬ 30 < a ∧ ∀ h, fX6_isNear a h = some (1, h) := by
  unfold fX6_isNear
  rcases rl a 1 30 1 30 rfl rfl (by omega) (by omega) with p | ⟨p, p2⟩ | ⟨p, p2, n, hn1, hn2, rfl⟩
  · exact Or.inl ⟨Or.inl p, fun h => by rw [mIn_l h p]; simp only [bnd_s]; exact c01_0⟩
  · exact Or.inl ⟨Or.inr ⟨p, p2⟩, fun h => by rw [mIn_u h p p2]; simp only [bnd_s]; exact c01_0⟩
  · exact Or.inr ⟨n, hn1, hn2, rfl, p, p2, fun h => by rw [mIn_i h p p2]; simp only [bnd_s]; exact c01_1⟩
set_option maxRecDepth 4000 in
theorem both_least {h : AH} (i : Inv h) (a b : Int32) : Both (fX5_least a b h) (fX6_least a b) := by
  unfold fX5_least fX6_least
  rcases tugs i.2.2.2.1 a with ⟨q1, q2⟩ | ⟨T, P, t, hg, he, ht, rfl, q1, q2⟩
  · refine Both.same (h := h) (v := -1000001) i ?_ ?_
    · rw [q1]; rfl
    · rw [q2 h rfl]; rfl
  rw [q1]
  simp only [bnd_s, ↓reduceIte]
  rcases near b with ⟨p, p3⟩ | ⟨n, hn1, hn2, rfl, p, p2, p3⟩
  · refine Both.same (h := h) (v := -1000001) i ?_ ?_
    · rcases p with p | ⟨p, p2⟩
      · rw [if_pos p]
      · rw [if_neg p, if_pos p2]
    · rw [q2 h rfl]; simp only [bnd_s, if1]; rw [p3]; rfl
  rw [if_neg p, if_neg p2]
  obtain ⟨h2, k2, q4⟩ := xLeast_L (n := n) hg ht hn2 20 1 FU h (by omega) (by omega) (by have := FU_big; omega) he
  rw [show nI 1 = 1 from rfl] at k2
  rw [k2]
  refine Both.of rfl ?_
  have e284 : h2 284 = h 284 := q4 284 (by omega)
  obtain ⟨h4, k4, q6⟩ := mLeast_L (n := n) hg ht hn2 20 1 FU h2 (by omega) (by omega) (by have := FU_big; omega) e284
  rw [show nI 1 = 1 from rfl] at k4
  rw [q2 h2 e284]
  simp only [bnd_s, if1]
  rw [p3]
  simp only [bnd_s, if1]
  rw [k4]
  exact ⟨_, rfl, i.sc (try_sc q4 q6)⟩
