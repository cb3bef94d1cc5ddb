/-! Images, hours. -/
def hKs : Nat → Nat → Nat
  | 0, K => K
  | m + 1, K => hKs m (kpK K)
def hEs (T P : Nat) : Nat → (Nat → Int32) → Nat → Int32
  | 0, e => e
  | m + 1, e => hEs T P m (hourR e T P 0)
def hLs (T P : Nat) : Nat → Nat → (Nat → Nat → Int32) → (Nat → Int32) → Nat → Nat → Int32
  | 0, _, L, _ => L
  | m + 1, K, L, e => hLs T P m (kpK K) (kpL K L e) (hourR e T P 0)
theorem xHours_L {T P n : Nat} {k : Int32 → AH → Option (Int32 × AH)} (hn : n ≤ 24) : ∀ m i f h K O L e B, i + m = n → m < f → CA h K O L → EstC e T P h 20 → Gd e T P B → B + m ≤ 9999 → ∃ h' O', fX5_hours_L44 (nI n) f (nI i) h k = k (nI n) h' ∧ CA h' (hKs m K) O' (hLs T P m K L e) ∧ EstC (hEs T P m e) T P h' 20 ∧ Gd (hEs T P m e) T P (B + m) ∧ ∀ q, (q < 20 ∨ 196 < q) → h' q = h q := by
  intro m
  induction m with
  | zero =>
    intro i f h K O L e B hi hf ca he hg hB
    obtain ⟨g, rfl, -⟩ := fuel_s hf
    have : i = n := by omega
    subst this
    unfold fX5_hours_L44
    rw [if_neg (nI_nlt (Nat.le_refl i) (by omega))]
    exact ⟨h, O, rfl, ca, he, hg, fun _ _ => rfl⟩
  | succ m ih =>
    intro i f h K O L e B hi hf ca he hg hB
    obtain ⟨g, rfl, hf'⟩ := fuel_s hf
    unfold fX5_hours_L44
    rw [if_pos (nI_lt (by omega) (by omega))]
    obtain ⟨h5, O', k1, ca5, q5⟩ := xKeep ca he (hg.le (by omega))
    have he5 : EstC e T P h5 20 := he.fm fun k h1 h2 => q5 k (by omega)
    obtain ⟨h6, k2, he6, q6⟩ := xHour 0 hg (by omega) he5
    rw [k1]
    simp only [bnd_s]
    rw [k2]
    simp only [bnd_s, vl_d, nI_1]
    obtain ⟨h', O2, r1, r2, r3, r4, r5⟩ := ih (i + 1) g h6 (kpK K) O' (kpL K L e) (hourR e T P 0) (B + 1) (by omega) (by omega) (ca5.to fun k h1 h2 => q6 k (by omega)) he6 (Gd_hour 0 hg (by omega)) (by omega)
    refine ⟨h', O2, r1, r2, r3, by rw [show B + (m + 1) = B + 1 + m by omega]; exact r4, fun q hq => ?_⟩
    rw [r5 q hq, q6 q (by omega), q5 q (by omega)]
theorem mHours_L {T P n : Nat} {k : Int32 → AH → Option (Int32 × AH)} (hn : n ≤ 24) : ∀ m i f h K L B, i + m = n → m < f → K ≤ 24 → MA h K L → Gd (h 284) T P B → B + m ≤ 9999 → ∃ h', fX6_hours_L42 (nI n) f (nI i) h k = k (nI n) h' ∧ MA h' (hKs m K) (hLs T P m K L (h 284)) ∧ h' 284 = hEs T P m (h 284) ∧ (∀ q, q ≠ 278 → q ≠ 284 → q ≠ 287 → h' q = h q) ∧ ∀ j, j ≠ 17 → h' 278 j = h 278 j := by
  intro m
  induction m with
  | zero =>
    intro i f h K L B hi hf hK ma hg hB
    obtain ⟨g, rfl, -⟩ := fuel_s hf
    have : i = n := by omega
    subst this
    unfold fX6_hours_L42
    rw [if_neg (nI_nlt (Nat.le_refl i) (by omega))]
    exact ⟨h, rfl, ma, rfl, fun _ _ _ _ => rfl, fun _ _ => rfl⟩
  | succ m ih =>
    intro i f h K L B hi hf hK ma hg hB
    obtain ⟨g, rfl, hf'⟩ := fuel_s hf
    unfold fX6_hours_L42
    rw [if_pos (nI_lt (by omega) (by omega))]
    obtain ⟨h5, k1, ma5, q5, d5⟩ := mNotes hK ma
    have e5 : h5 284 = h 284 := q5 284 (by omega) (by omega)
    rw [k1]
    simp only [bnd_s]
    obtain ⟨m0, hm1, hm2, e0⟩ := hg.2.1
    rw [mHour (T := T) (P := P) 0 ln_284 hg.1.2.1 hg.1.2.2.1 (by rw [e5, e0]; exact nI_ne0 (by omega) (by omega)) (by rw [e5]; exact hg.1.2.2.2.1) (by rw [e5]; exact hg.1.2.2.2.2), e5]
    simp only [bnd_s, vl_d, nI_1]
    have e6 : hr h5 284 (hourR (h 284) T P 0) 284 = hourR (h 284) T P 0 := hr_eq _ _ _
    obtain ⟨h', r1, r2, r3, r4, r5⟩ := ih (i + 1) g (hr h5 284 (hourR (h 284) T P 0)) (kpK K) (kpL K L (h 284)) (B + 1) (by omega) (by omega) (by unfold kpK; split <;> omega) (ma5.to (hr_ne _ _ (by decide)) (by rw [hr_ne _ _ (by decide)])) (by rw [e6]; exact Gd_hour 0 hg (by omega)) (by omega)
    rw [e6] at r2 r3
    refine ⟨h', r1, r2, r3, fun q h1 h2 h3 => ?_, fun j hj => ?_⟩
    · rw [r4 q h1 h2 h3, hr_ne _ _ h2, q5 q h1 h3]
    · rw [r5 j hj, hr_ne _ _ (by decide), d5 j hj]
theorem both_hours {h : AH} (i : Inv h) (a : Int32) : Both (fX5_hours a h) (fX6_hours a) := by
  unfold fX5_hours fX6_hours
  rcases ests i.2.2.2.1 with ⟨q1, q2⟩ | ⟨T, P, hg, he, q1, q2⟩
  · refine Both.same (h := h) (v := -1000002) i ?_ ?_
    · rw [q1]; rfl
    · rw [q2 h rfl]; rfl
  rw [q1]
  simp only [bnd_s, ↓reduceIte, cW4 ln_284, cl_4, cW1 ln_284, cl_1]
  rcases rl a 1 24 1 24 rfl rfl (by omega) (by omega) with p | ⟨p, p2⟩ | ⟨p, p2, n, hn1, hn2, rfl⟩
  · refine Both.same (h := h) (v := -1000001) i (by rw [if_pos p]) ?_
    rw [q2 h rfl]; simp only [bnd_s, if1]; rw [mIn_l h p]; rfl
  · refine Both.same (h := h) (v := -1000001) i (by rw [if_neg p, if_pos p2]) ?_
    rw [q2 h rfl]; simp only [bnd_s, if1]; rw [mIn_u h p p2]; rfl
  rw [if_neg p, if_neg p2]
  obtain ⟨q, hq, e4⟩ := hg.2.2.2.1
  have h20 : h 20 4 = nI q := by rw [he.2.1.2.2.2.2.1, e4]
  rw [h20, nI_add]
  by_cases y : 9999 < q + n
  · refine Both.same (h := h) (v := -1000003) i (by rw [if_pos (show (9999 : Int32) < nI (q + n) from nI_lt (a := 9999) y (by omega))]) ?_
    rw [q2 h rfl]; simp only [bnd_s, if1]; rw [mIn_i h p p2]; simp only [bnd_s, if1]
    rw [e4, nI_add, if_pos (show (9999 : Int32) < nI (q + n) from nI_lt (a := 9999) y (by omega))]
  rw [if_neg (show ¬ (9999 : Int32) < nI (q + n) from nI_nlt (a := 9999) (by omega) (by omega))]
  have hgq : Gd (h 284) T P q := by
    obtain ⟨a1, a2, a3, -, a5⟩ := hg
    exact ⟨a1, a2, a3, ⟨q, Nat.le_refl q, e4⟩, a5⟩
  obtain ⟨K, O, L, ca, ma⟩ := i.2.2.2.2.1
  obtain ⟨h', O', r1, r2, r3, r4, r5⟩ := xHours_L (k := fun _ h4 => some (h4 20 3, h4)) hn2 n 0 FU h K O L (h 284) q (by omega) (by have := FU_big; omega) ca he hgq (by omega)
  rw [nI_0] at r1
  rw [r1]
  refine Both.of rfl ?_
  have e284 : h' 284 = h 284 := r5 284 (by omega)
  obtain ⟨h'', s1, s2, s3, s4, s5⟩ := mHours_L (T := T) (P := P) (k := fun _ h6 => some (h6 284 1, h6)) hn2 n 0 FU h' K L q (by omega) (by have := FU_big; omega) ca.1 (ma.to (r5 287 (by omega)) (by rw [r5 278 (by omega)])) (by rw [e284]; exact hgq) (by omega)
  rw [nI_0] at s1
  rw [q2 h' e284]
  simp only [bnd_s, if1]
  rw [mIn_i h' p p2]
  simp only [bnd_s, if1]
  rw [e284, e4, nI_add, if_neg (show ¬ (9999 : Int32) < nI (q + n) from nI_nlt (a := 9999) (by omega) (by omega)), s1, s3, e284, r3.2.1.2.2.2.1]
  rw [e284] at s2 s3
  refine ⟨_, rfl, i.act (r2.to fun k h1 h2 => s4 k (by omega) (by omega) (by omega)) s2 (Or.inr ⟨T, P, ?_, ?_⟩) (fun k hk => ?_) (fun j hj => ?_)⟩
  · rw [s3]; exact r4.le (by omega)
  · rw [s3]; exact r3.fm fun k h1 h2 => s4 k (by omega) (by omega) (by omega)
  · rw [s4 k (by omega) (by omega) (by omega), r5 k (by omega)]
  · rw [s5 j hj, r5 278 (by omega)]
theorem half (a : Int32) : ((∀ h, fX5_noHalf a h = some (1, h)) ∧ ∀ h, fX6_in a 0 1 h = some (0, h)) ∨ ∃ s, s < 2 ∧ a = nI s ∧ (∀ h, fX5_noHalf a h = some (0, h)) ∧ ∀ h, fX6_in a 0 1 h = some (1, h) := by
  unfold fX5_noHalf
  rcases rl a 0 1 0 1 rfl rfl (by omega) (by omega) with p | ⟨p, p2⟩ | ⟨p, p2, s, -, hs1, rfl⟩
  · exact Or.inl ⟨fun h => by rw [if_pos p], fun h => mIn_l h p⟩
  · exact Or.inl ⟨fun h => by rw [if_neg p, if_pos p2], fun h => mIn_u h p p2⟩
  · exact Or.inr ⟨s, by omega, rfl, fun h => by rw [if_neg p, if_neg p2], fun h => mIn_i h p p2⟩
theorem imgs (a : Int32) : ((∀ h, fX5_noImage a h = some (1, h)) ∧ ∀ h, fX6_in a 0 1 h = some (0, h)) ∨ ∃ s, s < 2 ∧ a = nI s ∧ (∀ h, fX5_noImage a h = some (0, h)) ∧ ∀ h, fX6_in a 0 1 h = some (1, h) := by
  unfold fX5_noImage
  rcases rl a 0 1 0 1 rfl rfl (by omega) (by omega) with p | ⟨p, p2⟩ | ⟨p, p2, s, -, hs1, rfl⟩
  · exact Or.inl ⟨fun h => by rw [if_pos p], fun h => mIn_l h p⟩
  · refine Or.inl ⟨fun h => ?_, fun h => mIn_u h p p2⟩
    rw [if_neg p, if_neg]
    obtain ⟨n, hn, rfl⟩ := nI_of p
    exact nI_nlt (b := 2) (by have := (nI_ltI (a := 1) (by omega) hn).mp p2; omega) hn
  · exact Or.inr ⟨s, by omega, rfl, fun h => by rw [if_neg p, if_pos (show nI s < 2 from nI_lt (b := 2) (by omega) (by omega))], fun h => mIn_i h p p2⟩
theorem nar_b : vp_nar .boolean 1 = 1 := by decide
theorem both_image {h : AH} (i : Inv h) (a : Int32) : Both (fX5_image a h) (fX6_image a) := by
  unfold fX5_image fX6_image
  rcases imgs a with ⟨q1, q2⟩ | ⟨s, hs2, rfl, q1, q2⟩
  · refine Both.same (h := h) (v := -1000001) i ?_ ?_
    · rw [q1]; rfl
    · rw [q2]; rfl
  simp only [q1, q2, bnd_s, ↓reduceIte, if1, nar_b]
  rcases ests i.2.2.2.1 with ⟨p1, p2⟩ | ⟨T, P, hg, he, p1, p2⟩
  · refine Both.same (h := h) (v := -1000002) i ?_ ?_
    · rw [p1]; rfl
    · rw [p2 h rfl]; rfl
  rw [p1]
  simp only [bnd_s, ↓reduceIte]
  rw [chk_p (by rw [ln_197]; exact inb_n hs2 (by decide))]
  simp only [nI_clamp (show s < 2 ^ 31 by omega), show 197 + 1 + 7 * s = 198 + 7 * s from rfl]
  obtain ⟨h1, k1, he1, q3⟩ := xTake (r := 198 + 7 * s) he hg.1.2.1 hg.1.2.2.1 (kdI s hs2) (by omega)
  rw [k1]
  simp only [bnd_s]
  refine Both.of rfl ?_
  have e284 : h1 284 = h 284 := q3 284 (by omega)
  rw [p2 h1 e284]
  simp only [bnd_s, if1]
  have e1 : (43 : Int32) * nI s = nI (43 * s) := pk_mul 43 s
  have cp := mCopies (s := 284) (d := 288) (a := 0) (b := 43 * s) (h := h1) (by decide) (by rw [ln_284]; decide) (by rw [ln_288]; omega) (by rw [ln_284]; decide) (by rw [ln_288]; decide)
  rw [nI_0] at cp
  rw [e1, cp]
  simp only [bnd_s]
  rw [chk_p (by rw [ln_289]; exact inb_n hs2 (by decide))]
  simp only [sto_d]
  obtain ⟨i1, i2, i3, i4, i5, i6, i7⟩ := i
  have qq : ∀ k, (k < 198 ∨ 211 < k) → k ≠ 288 → k ≠ 289 → hs (hr h1 288 (cpR (h1 284) (h1 288) 0 (43 * s) 43)) 289 s 1 k = h k := fun k h2 h3 h4 => by
    rw [hs_q _ _ _ h4, hr_ne _ _ h3, q3 k (by omega)]
  refine ⟨_, rfl, i1.to fun k hk => qq k (by omega) (by omega) (by omega), i2.to (fun k hk => qq k (by omega) (by omega) (by omega)) ?_ ?_ ?_ ?_, ?_, i4.to fun k hk => qq k (by omega) (by omega) (by omega), i5.to (fun k hk => qq k (by omega) (by omega) (by omega)) ?_, fun k hk => ?_, i7.to (fun k hk => qq k (by omega) (by omega) (by omega)) ?_⟩
  · rw [qq 18 (by omega) (by omega) (by omega)]
  · rw [qq 18 (by omega) (by omega) (by omega)]
  · rw [qq 278 (by omega) (by omega) (by omega)]
  · rw [qq 278 (by omega) (by omega) (by omega)]
  · unfold IS; rw [qq 0 (by omega) (by omega) (by omega), qq 278 (by omega) (by omega) (by omega)]; exact i3
  · rw [qq 278 (by omega) (by omega) (by omega)]
  · by_cases e : k = s
    · subst e
      have row : ∀ j, j < 43 → hs (hr h1 288 (cpR (h1 284) (h1 288) 0 (43 * k) 43)) 289 k 1 288 (43 * k + j) = h 284 j := by
        intro j hj
        rw [hs_q _ _ _ (by decide), hr_eq, cpR_in hj, Nat.zero_add, e284]
      refine Or.inr ⟨hs_kj _ _ _ _, T, P, hg.eq row, (he1.fm fun k' h2 h3 => ?_).eq hg.1.2.1 hg.1.2.2.1 row⟩
      rw [hs_q _ _ _ (by omega), hr_ne _ _ (by omega)]
    · have row : ∀ j, j < 43 → hs (hr h1 288 (cpR (h1 284) (h1 288) 0 (43 * s) 43)) 289 s 1 288 (43 * k + j) = h 288 (43 * k + j) := by
        intro j hj
        rw [hs_q _ _ _ (by decide), hr_eq, cpR_out (by omega), q3 288 (by omega)]
      have ro : ∀ k', 198 + 7 * k ≤ k' → k' ≤ 198 + 7 * k + 6 → hs (hr h1 288 (cpR (h1 284) (h1 288) 0 (43 * s) 43)) 289 s 1 k' = h k' := fun k' h2 h3 => by
        rw [hs_q _ _ _ (by omega), hr_ne _ _ (by omega), q3 k' (by omega)]
      have r9 : hs (hr h1 288 (cpR (h1 284) (h1 288) 0 (43 * s) 43)) 289 s 1 289 k = h 289 k := by
        rw [hs_ki _ _ _ e, hr_ne _ _ (by decide), q3 289 (by omega)]
      rcases i6 k hk with ⟨z1, z2⟩ | ⟨z1, T1, P1, hg1, he1⟩
      · exact Or.inl ⟨by rw [r9]; exact z1, by rw [ro _ (by omega) (by omega)]; exact z2⟩
      · exact Or.inr ⟨by rw [r9]; exact z1, T1, P1, hg1.eq row, (he1.fm ro).eq hg1.1.2.1 hg1.1.2.2.1 row⟩
  · rw [qq 278 (by omega) (by omega) (by omega)]
theorem both_restore {h : AH} (i : Inv h) (a : Int32) : Both (fX5_restore a h) (fX6_restore a) := by
  unfold fX5_restore fX6_restore
  rcases imgs a with ⟨q1, q2⟩ | ⟨s, hs2, rfl, q1, q2⟩
  · refine Both.same (h := h) (v := -1000001) i ?_ ?_
    · rw [q1]; rfl
    · rw [q2]; rfl
  have c1 : ∀ {o : Option (Int32 × AH)}, chk (inb (nI s) (ln 197)) o = o := chk_p (by rw [ln_197]; exact inb_n hs2 (by decide))
  have c2 : ∀ {o : Option (Int32 × AH)}, chk (inb (nI s) (ln 289)) o = o := chk_p (by rw [ln_289]; exact inb_n hs2 (by decide))
  simp only [q1, q2, bnd_s, ↓reduceIte, if1, c1, c2, nI_clamp (show s < 2 ^ 31 by omega), show 197 + 1 + 7 * s = 198 + 7 * s from rfl]
  rcases i.2.2.2.2.2.1 s hs2 with ⟨z1, z2⟩ | ⟨z1, T, P, hg, he⟩
  · rw [z2, if0]
    exact Both.same (h := h) (v := -1000002) i rfl (by rw [z1, if0])
  rw [he.2.1.1, if_neg (nI_ne0 (by have := hg.1; omega) (by have := hg.1; omega))]
  obtain ⟨h1, k1, he1, q3⟩ := xTake (r := 20) he hg.1.2.1 hg.1.2.2.1 kd_20 (by omega)
  rw [k1]
  simp only [bnd_s]
  unfold fX0_forget
  simp only [sto_d, bnd_s]
  refine Both.of rfl ?_
  have e1 : (43 : Int32) * nI s = nI (43 * s) := pk_mul 43 s
  have e289 : hs (hs h1 27 1 0) 27 2 0 289 s = 1 := by
    rw [hs_q _ _ _ (by decide), hs_q _ _ _ (by decide), q3 289 (by omega)]; exact z1
  have cp := mCopies (s := 288) (d := 284) (a := 43 * s) (b := 0) (h := hs (hs h1 27 1 0) 27 2 0) (by decide) (by rw [ln_288]; omega) (by rw [ln_284]; decide) (by rw [ln_288]; decide) (by rw [ln_284]; decide)
  rw [nI_0] at cp
  rw [e289, if1, e1, cp]
  simp only [bnd_s]
  have row : ∀ j, j < 43 → cpR (hs (hs h1 27 1 0) 27 2 0 288) (hs (hs h1 27 1 0) 27 2 0 284) (43 * s) 0 43 j = h 288 (43 * s + j) := by
    intro j hj
    have := cpR_in (f := hs (hs h1 27 1 0) 27 2 0 288) (g := hs (hs h1 27 1 0) 27 2 0 284) (a := 43 * s) (b := 0) hj
    rw [Nat.zero_add] at this
    rw [this, hs_q _ _ _ (by decide), hs_q _ _ _ (by decide), q3 288 (by omega)]
  refine ⟨_, rfl, i.act (K' := 0) (O' := 0) (L' := fun _ _ => 0) ⟨by omega, by omega, ?_, ?_, fun i hi => by omega⟩ ⟨?_, fun i hi => by omega⟩ (Or.inr ⟨T, P, ?_, ?_⟩) (fun k hk => ?_) (fun j hj => ?_)⟩
  · rw [hs_q _ _ _ (by decide), hr_ne _ _ (by decide), hs_kj]; rfl
  · rw [hs_q _ _ _ (by decide), hr_ne _ _ (by decide), hs_ki _ _ _ (by decide), hs_kj]; rfl
  · rw [hs_kj]; rfl
  · rw [hs_q _ _ _ (by decide), hr_eq]; exact hg.eq row
  · rw [hs_q _ _ _ (by decide), hr_eq]
    exact (he1.fm fun k h2 h3 => by rw [hs_q _ _ _ (by omega), hr_ne _ _ (by omega), hs_q _ _ _ (by omega), hs_q _ _ _ (by omega)]).eq hg.1.2.1 hg.1.2.2.1 row
  · rw [hs_q _ _ _ (by omega), hr_ne _ _ (by omega), hs_q _ _ _ (by omega), hs_q _ _ _ (by omega), q3 k (by omega)]
  · rw [hs_ki _ _ _ hj, hr_ne _ _ (by decide), hs_q _ _ _ (by decide), hs_q _ _ _ (by decide), q3 278 (by omega)]
