/-! Which numbers fit what was seen. -/
def snF (T P : Nat) (it : Nat → Int32) : Nat → Nat → (Nat → Int32) → Bool
  | 0, _, _ => true
  | m + 1, i, X => if hourR X T P 0 1 = it i then snF T P it m (i + 1) (hourR X T P 0) else false
theorem xSeen_L {T P n x y : Nat} {p1 p2 p3 : Int32} {it : Nat → Int32} (hn : n < 8) (hy : y ≤ 12) (hx : x + y ≤ 40) : ∀ m i f h X B, i + m = y → m < f → EstC X T P h 213 → Gd X T P B → B + m ≤ 20000 → (∀ j, j < y → h (3 + 2 * n) (x + j) = it j) → ∃ h', fX5_isSoWith_L17 213 p1 p2 p3 (2 + 2 * n) (nI x) (nI y) f (nI i) h (fun _ h6 => some (1, h6)) = some ((if snF T P it m i X then 1 else 0), h') ∧ Fm 213 h h' := by
  intro m
  induction m with
  | zero =>
    intro i f h X B hi hf a hg hB hit
    obtain ⟨g, rfl, -⟩ := fuel_s hf
    have : i = y := by omega
    subst this
    unfold fX5_isSoWith_L17
    rw [if_neg (nI_nlt (Nat.le_refl i) (by omega))]
    exact ⟨h, rfl, Fm.rf _ _⟩
  | succ m ih =>
    intro i f h X B hi hf a hg hB hit
    obtain ⟨g, rfl, hf'⟩ := fuel_s hf
    unfold fX5_isSoWith_L17 snF
    obtain ⟨h1, k1, a1, q1⟩ := xHour 0 hg (by omega) a
    rw [if_pos (nI_lt (by omega) (by omega)), k1, bnd_e, nI_add, show 2 + 2 * n + 1 = 3 + 2 * n by omega, cRi hn (by omega), nI_clamp (by omega), a1.2.1.2.2.2.1, q1 (3 + 2 * n) (by omega), hit i (by omega)]
    by_cases z : hourR X T P 0 1 = it i
    · rw [if_pos z, if_pos z, vl_e, nI_1]
      obtain ⟨h', r1, r2⟩ := ih (i + 1) g h1 (hourR X T P 0) (B + 1) (by omega) (by omega) a1 (Gd_hour 0 hg (by omega)) (by omega) (fun j hj => by rw [q1 (3 + 2 * n) (by omega)]; exact hit j hj)
      exact ⟨h', r1, q1.tr r2⟩
    · rw [if_neg z, if_neg z]
      exact ⟨h1, rfl, q1⟩
theorem mSeen_L {T P s y : Nat} {p3 p4 : Int32} {it : Nat → Int32} (hy : y ≤ 12) (hsy : s + y ≤ 320) : ∀ m i f h X B (b : Bool), i + m = y → m < f → Ag (h 286) X → Gd X T P B → B + m ≤ 20000 → (∀ j, j < y → h 281 (s + j) = it j) → ∃ h', fX6_isSeen_L27 (nI s) (nI y) p3 p4 f (nI i) (if b then 1 else 0) h (fun _ z4 h5 => chk (z4 = 0 ∨ z4 = 1) (some (z4, h5))) = some ((if b && snF T P it m i X then 1 else 0), h') ∧ ∀ k, k ≠ 286 → h' k = h k := by
  intro m
  induction m with
  | zero =>
    intro i f h X B b hi hf a hg hB hit
    obtain ⟨g, rfl, -⟩ := fuel_s hf
    have : i = y := by omega
    subst this
    unfold fX6_isSeen_L27
    rw [if_neg (nI_nlt (Nat.le_refl i) (by omega))]
    cases b
    · exact ⟨h, c01_0, fun _ _ => rfl⟩
    · exact ⟨h, c01_1, fun _ _ => rfl⟩
  | succ m ih =>
    intro i f h X B b hi hf a hg hB hit
    obtain ⟨g, rfl, hf'⟩ := fuel_s hf
    unfold fX6_isSeen_L27 snF
    obtain ⟨h1, k1, a1, q1⟩ := mHr 0 a hg
    have go := fun b' => ih (i + 1) g h1 (hourR X T P 0) (B + 1) b' (by omega) (by omega) a1 (Gd_hour 0 hg (by omega)) (by omega) (fun j hj => by rw [q1 281 (by omega)]; exact hit j hj)
    rw [if_pos (nI_lt (by omega) (by omega)), k1, bnd_e]
    cases b
    · obtain ⟨h', r1, r2⟩ := go false
      refine ⟨h', ?_, fun k hk => by rw [r2 k hk, q1 k hk]⟩
      rw [if_neg (show ¬ (false = true) by decide), if0, vl_e, nI_1]
      rw [if_neg (show ¬ (false = true) by decide)] at r1
      rw [r1]; rfl
    · rw [if_pos (show true = true from rfl), if1, cW1 ln_286, cl_1, nI_add, c281 (by omega), nI_clamp (by omega), a1 1 (by omega), q1 281 (by omega), hit i (by omega)]
      by_cases z : hourR X T P 0 1 = it i
      · rw [if_pos z, if_pos z, vl_e, nI_1]
        obtain ⟨h', r1, r2⟩ := go true
        exact ⟨h', r1, fun k hk => by rw [r2 k hk, q1 k hk]⟩
      · rw [if_neg z, if_neg z, vl_e, nI_1]
        obtain ⟨h', r1, r2⟩ := go false
        exact ⟨h', r1, fun k hk => by rw [r2 k hk, q1 k hk]⟩
def fIx (w t : Nat) : Nat := if w < 3 then 5 + 5 * t + w else 0
def fMx (w : Nat) : Nat := if w = 0 then 5 else if w < 3 then 20 else 60
def fX (e : Nat → Int32) (w t v : Nat) : Nat → Int32 := upd e (fIx w t) (nI v)
theorem Gd_fX {e : Nat → Int32} {T P B w t v : Nat} (hg : Gd e T P B) (ht : t < T) (hw : w < 5) (h1 : 1 ≤ v) (h2 : v ≤ fMx w) : Gd (fX e w t v) T P B := by
  unfold fX fIx
  rcases (show w = 0 ∨ w = 1 ∨ w = 2 ∨ w = 3 ∨ w = 4 by omega) with z | z | z | z | z <;> subst z
  · exact Gd_kind hg ht h1 h2
  · rw [if_pos (by omega), show 5 + 5 * t + 1 = 6 + 5 * t by omega]; exact Gd_pull hg ht h1 h2
  · rw [if_pos (by omega), show 5 + 5 * t + 2 = 7 + 5 * t by omega]; exact Gd_rope hg ht h1 h2
  · exact Gd_mas hg h1 h2
  · exact Gd_mas hg h1 h2
theorem xSuppose {e : Nat → Int32} {T P w t v : Nat} {h : AH} (he : EstC e T P h 213) (hT : T ≤ 6) (ht : t < T) (hw : w < 5) : ∃ h', fX2_suppose 213 (nI t) (nI w) (nI v) h = some ((), h') ∧ EstC (fX e w t v) T P h' 213 ∧ Fm 213 h h' := by
  unfold fX2_suppose fX fIx
  rcases (show w = 0 ∨ w = 1 ∨ w = 2 ∨ w = 3 ∨ w = 4 by omega) with z | z | z | z | z <;> subst z
  · rw [if_pos (show nI 0 = 0 from rfl), cE1 kd_213 (by omega), nI_clamp (by omega), sto_e]
    exact ⟨_, rfl, he.kndS hT ht (nI v), Fm.hs 213 h t _ (by omega)⟩
  · rw [if_neg (show ¬ nI 1 = 0 by decide), if_pos (show nI 1 = 1 from rfl), cE2 kd_213 (by omega), nI_clamp (by omega), sto_e, if_pos (by omega), show 5 + 5 * t + 1 = 6 + 5 * t by omega]
    exact ⟨_, rfl, he.pulS hT ht (nI v), Fm.hs 213 h t _ (by omega)⟩
  · rw [if_neg (show ¬ nI 2 = 0 by decide), if_neg (show ¬ nI 2 = 1 by decide), if_pos (show nI 2 = 2 from rfl), cE3 kd_213 (by omega), nI_clamp (by omega), sto_e, if_pos (by omega), show 5 + 5 * t + 2 = 7 + 5 * t by omega]
    exact ⟨_, rfl, he.ropS hT ht (nI v), Fm.hs 213 h t _ (by omega)⟩
  · rw [if_neg (show ¬ nI 3 = 0 by decide), if_neg (show ¬ nI 3 = 1 by decide), if_neg (show ¬ nI 3 = 2 by decide), sto_e]
    exact ⟨_, rfl, he.masS (nI v), Fm.hs 213 h 2 _ (by omega)⟩
  · rw [if_neg (show ¬ nI 4 = 0 by decide), if_neg (show ¬ nI 4 = 1 by decide), if_neg (show ¬ nI 4 = 2 by decide), sto_e]
    exact ⟨_, rfl, he.masS (nI v), Fm.hs 213 h 2 _ (by omega)⟩
def pfV (T P w t y : Nat) (e it : Nat → Int32) (v : Nat) : Bool := snF T P it y 0 (fX e w t v)
theorem xSo {e : Nat → Int32} {T P w t v n x y : Nat} {it : Nat → Int32} {h : AH} (hg : Gd e T P 9999) (he : EstC e T P h 20) (ht : t < T) (hw : w < 5) (h1 : 1 ≤ v) (h2 : v ≤ fMx w) (hn : n < 8) (hy : y ≤ 12) (hx : x + y ≤ 40) (hit : ∀ j, j < y → h (3 + 2 * n) (x + j) = it j) : ∃ h', fX5_isSoWith (nI t) (nI w) (nI v) (2 + 2 * n) (nI x) (nI y) h = some ((if pfV T P w t y e it v then 1 else 0), h') ∧ Fm 213 h h' := by
  have hT := hg.1.2.1
  have hP := hg.1.2.2.1
  unfold fX5_isSoWith
  obtain ⟨h3, k3, he3, q3⟩ := xNow he hT hP
  obtain ⟨h4, k4, he4, q4⟩ := xSuppose (w := w) (v := v) he3 hT ht hw
  rw [k3, bnd_e, chk_p kd_213, k4, bnd_e]
  obtain ⟨h5, k5, q5⟩ := xSeen_L (it := it) (p1 := nI t) (p2 := nI w) (p3 := nI v) hn hy hx y 0 FU h4 (fX e w t v) 9999 (by omega) (by have := FU_big; omega) he4 (Gd_fX hg ht hw h1 h2) (by omega) (fun j hj => by rw [q4 (3 + 2 * n) (by omega), q3 (3 + 2 * n) (by omega)]; exact hit j hj)
  rw [nI_0] at k5
  rw [k5]
  exact ⟨h5, rfl, (q3.tr q4).tr q5⟩
theorem mSo {e : Nat → Int32} {T P w t v s y : Nat} {it : Nat → Int32} {h : AH} (hg : Gd e T P 9999) (e284 : h 284 = e) (ht : t < T) (hw : w < 5) (h1 : 1 ≤ v) (h2 : v ≤ fMx w) (hy : y ≤ 12) (hsy : s + y ≤ 320) (hit : ∀ j, j < y → h 281 (s + j) = it j) : ∃ h', fX6_isSeen (nI s) (nI y) (nI (fIx w t)) (nI v) h = some ((if pfV T P w t y e it v then 1 else 0), h') ∧ ∀ k, k ≠ 286 → h' k = h k := by
  have hT := hg.1.2.1
  unfold fX6_isSeen
  have hi : fIx w t < 43 := by unfold fIx; split <;> omega
  obtain ⟨h3, k3, a3, q3⟩ := mTryA h
  rw [e284] at a3
  rw [k3, bnd_e, cW ln_286 hi, nI_clamp (by omega), sto_e]
  have a4 : Ag (hs h3 286 (fIx w t) (nI v) 286) (fX e w t v) := by
    intro j hj
    rw [hs_k]
    unfold fX
    by_cases z : j = fIx w t
    · rw [z, upd_s, upd_s]
    · rw [upd_n _ _ z, upd_n _ _ z, a3 j hj]
  obtain ⟨h5, k5, q5⟩ := mSeen_L (it := it) (p3 := nI (fIx w t)) (p4 := nI v) hy hsy y 0 FU (hs h3 286 (fIx w t) (nI v)) (fX e w t v) 9999 true (by omega) (by have := FU_big; omega) a4 (Gd_fX hg ht hw h1 h2) (by omega) (fun j hj => by rw [hs_q _ _ _ (by decide), q3 281 (by omega)]; exact hit j hj)
  rw [nI_0, if_pos (show true = true from rfl), Bool.true_and] at k5
  rw [k5]
  exact ⟨h5, rfl, fun k hk => by rw [q5 k hk, hs_q _ _ _ hk, q3 k hk]⟩
/-! the numbers found: how many, the first, the set -/
def fcN (q : Nat → Bool) : Nat → Nat
  | 0 => 0
  | u + 1 => if q (u + 1) then fcN q u + 1 else fcN q u
def fcF (q : Nat → Bool) : Nat → Int32
  | 0 => -1000000
  | u + 1 => if q (u + 1) then (if fcF q u = -1000000 then nI (u + 1) else fcF q u) else fcF q u
def fbI (v : Nat) : Int32 := if v < 31 then 1 <<< (nI v &&& 31) else 0
def fcM (q : Nat → Bool) : Nat → Int32
  | 0 => 0
  | u + 1 => if q (u + 1) then fcM q u ||| fbI (u + 1) else fcM q u
theorem fcN_le (q : Nat → Bool) : ∀ u, fcN q u ≤ u := by
  intro u
  induction u with
  | zero => exact Nat.le_refl 0
  | succ u ih => unfold fcN; split <;> omega
theorem st0 : ∀ w, w < 5 → stV 0 w = nI (fMx w) := by decide +kernel
theorem st0_in {w : Nat} (hw : w < 5) {α : Type} {o : Option α} : chk (inb (nI w) (stL 0).length) o = o := chk_p (inb_n hw (by decide))
theorem fMx_le (w : Nat) : fMx w ≤ 60 := by unfold fMx; split; omega; split <;> omega
theorem xFits_L {e : Nat → Int32} {T P w t n x y : Nat} {p2 : Int32} {it : Nat → Int32} {k : Int32 → Int32 → Int32 → Int32 → AH → Option (Int32 × AH)} (hg : Gd e T P 9999) (ht : t < T) (hw : w < 5) (hn : n < 8) (hy : y ≤ 12) (hx : x + y ≤ 40) : ∀ m u f h, u + m = fMx w → m < f → EstC e T P h 20 → (∀ j, j < y → h (3 + 2 * n) (x + j) = it j) → ∃ h', fX5_fits_L97 (2 + 2 * n) (nI t) p2 (nI x) (nI y) (nI w) f (nI (u + 1)) (fcF (pfV T P w t y e it) u) (nI (fcN (pfV T P w t y e it) u)) (fcM (pfV T P w t y e it) u) h k = k (nI (fMx w + 1)) (fcF (pfV T P w t y e it) (fMx w)) (nI (fcN (pfV T P w t y e it) (fMx w))) (fcM (pfV T P w t y e it) (fMx w)) h' ∧ Fm 213 h h' := by
  have hmx := fMx_le w
  intro m
  induction m with
  | zero =>
    intro u f h hi hf he hit
    obtain ⟨g, rfl, -⟩ := fuel_s hf
    have : u = fMx w := by omega
    subst this
    unfold fX5_fits_L97
    rw [st0_in hw, nI_clamp (by omega), st0 w hw, if_pos (nI_lt (by omega) (by omega))]
    exact ⟨h, rfl, Fm.rf _ _⟩
  | succ m ih =>
    intro u f h hi hf he hit
    obtain ⟨g, rfl, hf'⟩ := fuel_s hf
    unfold fX5_fits_L97
    obtain ⟨h1, k1, q1⟩ := xSo (v := u + 1) hg he ht hw (by omega) (by omega) hn hy hx hit
    rw [st0_in hw, nI_clamp (by omega), st0 w hw, if_neg (nI_nlt (by omega) (by omega)), k1, bnd_e]
    obtain ⟨h', r1, r2⟩ := ih (u + 1) g h1 (by omega) (by omega) (he.fm fun k w1 w2 => q1 k (by omega)) (fun j hj => by rw [q1 (3 + 2 * n) (by omega)]; exact hit j hj)
    refine ⟨h', ?_, q1.tr r2⟩
    rw [show fcF (pfV T P w t y e it) (u + 1) = if pfV T P w t y e it (u + 1) then (if fcF (pfV T P w t y e it) u = -1000000 then nI (u + 1) else fcF (pfV T P w t y e it) u) else fcF (pfV T P w t y e it) u from rfl, show fcN (pfV T P w t y e it) (u + 1) = if pfV T P w t y e it (u + 1) then fcN (pfV T P w t y e it) u + 1 else fcN (pfV T P w t y e it) u from rfl, show fcM (pfV T P w t y e it) (u + 1) = if pfV T P w t y e it (u + 1) then fcM (pfV T P w t y e it) u ||| fbI (u + 1) else fcM (pfV T P w t y e it) u from rfl] at r1
    by_cases z : pfV T P w t y e it (u + 1) = true
    · rw [if_pos z, if_pos z, if_pos z] at r1
      rw [if_pos z, if1]
      simp only [vl_e, nI_1]
      unfold fbI at r1
      by_cases b : u + 1 < 31
      · rw [if_pos (show nI (u + 1) < 31 from nI_lt (b := 31) b (by omega))]
        rw [if_pos b] at r1
        by_cases c : fcF (pfV T P w t y e it) u = -1000000
        · rw [if_pos c]; rw [if_pos c] at r1; exact r1
        · rw [if_neg c]; rw [if_neg c] at r1; exact r1
      · rw [if_neg (show ¬ nI (u + 1) < 31 from nI_nlt (b := 31) (by omega) (by omega))]
        rw [if_neg b] at r1
        by_cases c : fcF (pfV T P w t y e it) u = -1000000
        · rw [if_pos c]; rw [if_pos c] at r1; exact r1
        · rw [if_neg c]; rw [if_neg c] at r1; exact r1
    · rw [if_neg z, if_neg z, if_neg z] at r1
      rw [if_neg z, if0]
      simp only [vl_e, nI_1]
      exact r1
def fcR (q : Nat → Bool) : Nat → Int32 → Int32
  | 0, a => a
  | u + 1, a => fcR q u (if q (u + 1) then nI (u + 1) else a)
theorem fcR_F (q : Nat → Bool) : ∀ u a, u ≤ 60 → fcR q u a = if fcF q u = -1000000 then a else fcF q u := by
  intro u
  induction u with
  | zero => intro a _; unfold fcR fcF; rw [if_pos rfl]
  | succ u ih =>
    intro a hu
    unfold fcR fcF
    rw [ih _ (by omega)]
    by_cases z : q (u + 1) = true
    · rw [if_pos z, if_pos z]
      by_cases c : fcF q u = -1000000
      · simp only [if_pos c, if_neg (none_ne (u + 1) (by omega))]
      · simp only [if_neg c]
    · rw [if_neg z, if_neg z]
theorem dec1 (u : Nat) : nI (u + 1) + (-1 : Int32) = nI u := by
  rw [nI_succ, Int32.add_assoc, show (1 : Int32) + (-1) = 0 by decide, add0]
theorem mFits_L {e : Nat → Int32} {T P w t n x y : Nat} {p7 : Int32} {it : Nat → Int32} {k : Int32 → Int32 → Int32 → Int32 → AH → Option (Int32 × AH)} (hg : Gd e T P 9999) (ht : t < T) (hw : w < 5) (hn : n < 8) (hy : y ≤ 12) (hx : x + y ≤ 40) : ∀ u f h (a b : Int32) (c : Nat), u ≤ fMx w → u < f → h 284 = e → (∀ j, j < y → h 281 (40 * n + x + j) = it j) → ∃ h' b', fX6_fits_L128 p7 (nI (fIx w t)) (nI t) (nI n) (nI x) (nI y) (nI w) f (nI u) a (nI c) b h k = k 0 (fcR (pfV T P w t y e it) u a) (nI (c + fcN (pfV T P w t y e it) u)) b' h' ∧ (w < 3 → b' = b ||| fcM (pfV T P w t y e it) u) ∧ ∀ k, k ≠ 286 → h' k = h k := by
  have hmx := fMx_le w
  intro u
  induction u with
  | zero =>
    intro f h a b c hu hf e284 hit
    obtain ⟨g, rfl, -⟩ := fuel_s hf
    unfold fX6_fits_L128
    rw [if_neg (show ¬ (0 : Int32) < nI 0 by decide), nI_0]
    refine ⟨h, b, rfl, fun _ => ?_, fun _ _ => rfl⟩
    exact (Int32.or_zero).symm
  | succ u ih =>
    intro f h a b c hu hf e284 hit
    obtain ⟨g, rfl, hf'⟩ := fuel_s hf
    unfold fX6_fits_L128
    obtain ⟨h1, k1, q1⟩ := mSo (v := u + 1) (s := 40 * n + x) hg e284 ht hw (by omega) hu hy (by omega) hit
    rw [if_pos (show (0 : Int32) < nI (u + 1) from nI_lt (a := 0) (by omega) (by omega)), m40, nI_add, k1, bnd_e]
    have go := fun a' b' c' => ih g h1 a' b' c' (by omega) (by omega) (by rw [q1 284 (by omega), e284]) (fun j hj => by rw [q1 281 (by omega)]; exact hit j hj)
    rw [show fcR (pfV T P w t y e it) (u + 1) a = fcR (pfV T P w t y e it) u (if pfV T P w t y e it (u + 1) then nI (u + 1) else a) from rfl, show fcN (pfV T P w t y e it) (u + 1) = if pfV T P w t y e it (u + 1) then fcN (pfV T P w t y e it) u + 1 else fcN (pfV T P w t y e it) u from rfl, show fcM (pfV T P w t y e it) (u + 1) = if pfV T P w t y e it (u + 1) then fcM (pfV T P w t y e it) u ||| fbI (u + 1) else fcM (pfV T P w t y e it) u from rfl]
    by_cases z : pfV T P w t y e it (u + 1) = true
    · simp only [if_pos z, if1, vl_e, nI_1, dec1]
      by_cases w3 : w < 3
      · rw [if_pos (show nI w < 3 from nI_lt (b := 3) w3 (by omega))]
        obtain ⟨h', b', r1, r2, r3⟩ := go (nI (u + 1)) (b ||| (1 <<< (nI (u + 1) &&& 31))) (c + 1)
        refine ⟨h', b', ?_, fun _ => ?_, fun k hk => by rw [r3 k hk, q1 k hk]⟩
        · rw [r1, show c + 1 + fcN (pfV T P w t y e it) u = c + (fcN (pfV T P w t y e it) u + 1) by omega]
        · have h20 : fMx w ≤ 20 := by unfold fMx; by_cases q : w = 0 <;> simp [q, w3]
          rw [r2 w3, Int32.or_assoc]
          congr 1
          rw [Int32.or_comm]
          unfold fbI
          rw [if_pos (by omega)]
      · rw [if_neg (show ¬ nI w < 3 from nI_nlt (b := 3) (by omega) (by omega))]
        obtain ⟨h', b', r1, -, r3⟩ := go (nI (u + 1)) (b ||| 0) (c + 1)
        refine ⟨h', b', ?_, fun w4 => absurd w4 w3, fun k hk => by rw [r3 k hk, q1 k hk]⟩
        rw [r1, show c + 1 + fcN (pfV T P w t y e it) u = c + (fcN (pfV T P w t y e it) u + 1) by omega]
    · simp only [if_neg z, ↓reduceIte, vl_e, dec1]
      obtain ⟨h', b', r1, r2, r3⟩ := go a b c
      exact ⟨h', b', r1, r2, fun k hk => by rw [r3 k hk, q1 k hk]⟩
