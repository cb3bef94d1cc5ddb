/-! The acts: on the one side a ring, on the other a row that is moved along. -/
def CA (h : AH) (K O : Nat) (L : Nat → Nat → Int32) : Prop := K ≤ 24 ∧ O < 24 ∧ h 27 2 = nI K ∧ h 27 1 = nI O ∧ ∀ i, i < K → ∃ T P, Gd (L i) T P 9999 ∧ EstC (L i) T P h (29 + 7 * ((O + i) % 24))
def MA (h : AH) (K : Nat) (L : Nat → Nat → Int32) : Prop := h 278 17 = nI K ∧ ∀ i, i < K → ∀ j, j < 43 → h 287 (43 * i + j) = L i j
def kpK (K : Nat) : Nat := if K < 24 then K + 1 else 24
def kpL (K : Nat) (L : Nat → Nat → Int32) (e : Nat → Int32) : Nat → Nat → Int32 := fun i => if K < 24 then (if i = K then e else L i) else (if i = 23 then e else L (i + 1))
theorem kdA : ∀ i, i < 24 → kd (29 + 7 * i) = 2 := by decide +kernel
theorem kdI : ∀ i, i < 2 → kd (198 + 7 * i) = 2 := by decide +kernel
theorem kdD : ∀ i, i < 9 → kd (213 + 7 * i) = 2 := by decide +kernel
theorem md24 (a : Nat) (h : a < 2 ^ 30) : nI a - nI a / (24 : Int32) * (24 : Int32) = nI (a % 24) := by
  show nI a - nI a / nI 24 * nI 24 = _
  rw [pk_div (by omega) (by omega) (by omega), pk_mul, pk_sub (by have := Nat.div_mul_le_self a 24; omega)]
  congr 1
  have := Nat.div_add_mod a 24
  omega
theorem CA.to {h h' : AH} {K O : Nat} {L : Nat → Nat → Int32} (c : CA h K O L) (q : ∀ k, 27 ≤ k → k ≤ 196 → h' k = h k) : CA h' K O L := by
  obtain ⟨a, b, c1, d, f⟩ := c
  refine ⟨a, b, by rw [q 27 (by omega) (by omega)]; exact c1, by rw [q 27 (by omega) (by omega)]; exact d, fun i hi => ?_⟩
  obtain ⟨T, P, hg, he⟩ := f i hi
  exact ⟨T, P, hg, he.fm fun k h1 h2 => q k (by omega) (by omega)⟩
theorem CA.eq {h : AH} {K O : Nat} {L L' : Nat → Nat → Int32} (c : CA h K O L) (q : ∀ i, i < K → ∀ j, j < 43 → L' i j = L i j) : CA h K O L' := by
  obtain ⟨a, b, c1, d, f⟩ := c
  refine ⟨a, b, c1, d, fun i hi => ?_⟩
  obtain ⟨T, P, hg, he⟩ := f i hi
  exact ⟨T, P, hg.eq (q i hi), he.eq hg.1.2.1 hg.1.2.2.1 (q i hi)⟩
theorem MA.eq {h : AH} {K : Nat} {L L' : Nat → Nat → Int32} (c : MA h K L) (q : ∀ i, i < K → ∀ j, j < 43 → L' i j = L i j) : MA h K L' := ⟨c.1, fun i hi j hj => (c.2 i hi j hj).trans (q i hi j hj).symm⟩
theorem xKeep {e : Nat → Int32} {T P K O : Nat} {h : AH} {L : Nat → Nat → Int32} (c : CA h K O L) (he : EstC e T P h 20) (hg : Gd e T P 9999) : ∃ h' O', fX0_keep 20 h = some ((), h') ∧ CA h' (kpK K) O' (kpL K L e) ∧ ∀ k, (k < 27 ∨ 196 < k) → h' k = h k := by
  obtain ⟨hK, hO, c2, c1, f⟩ := c
  have hj : (O + K) % 24 < 24 := Nat.mod_lt _ (by decide)
  obtain ⟨h2, ht, he2, hF⟩ := xTake (r := 29 + 7 * ((O + K) % 24)) he hg.1.2.1 hg.1.2.2.1 (kdA _ hj) (by omega)
  have q27 : h2 27 = h 27 := hF 27 (by omega)
  unfold fX0_keep
  rw [chk_p ne_24, c1, c2, nI_add, md24 _ (by omega), chk_p (by rw [ln_28]; exact inb_n hj (by decide)), nI_clamp (by omega), show 28 + 1 + 7 * ((O + K) % 24) = 29 + 7 * ((O + K) % 24) from rfl, ht]
  simp only [bnd_s]
  have old : ∀ i, i < K → (O + i) % 24 ≠ (O + K) % 24 → ∃ T P, Gd (L i) T P 9999 ∧ EstC (L i) T P h2 (29 + 7 * ((O + i) % 24)) := by
    intro i hi hne
    obtain ⟨T1, P1, hg1, he1⟩ := f i hi
    exact ⟨T1, P1, hg1, he1.fm fun k h1 h3 => hF k (by omega)⟩
  by_cases q : K < 24
  · rw [q27, c2, if_pos (show nI K < 24 from nI_lt (b := 24) q (by omega)), sto_d, nI_1]
    refine ⟨_, O, rfl, ⟨?_, hO, ?_, ?_, fun i hi => ?_⟩, fun k hk => ?_⟩
    · unfold kpK; rw [if_pos q]; omega
    · unfold kpK; rw [if_pos q, hs_kj]
    · rw [hs_ki _ _ _ (by omega), q27, c1]
    · have e1 : kpK K = K + 1 := by unfold kpK; rw [if_pos q]
      unfold kpL
      rw [if_pos q]
      by_cases hiK : i = K
      · rw [if_pos hiK, hiK]
        exact ⟨T, P, hg, he2.fm fun k h1 h3 => hs_q _ _ _ (by omega)⟩
      · rw [if_neg hiK]
        obtain ⟨T1, P1, hg1, he1⟩ := old i (by omega) (by omega)
        exact ⟨T1, P1, hg1, he1.fm fun k h1 h3 => hs_q _ _ _ (by omega)⟩
    · rw [hs_q _ _ _ (by omega)]
      exact hF k (by omega)
  · have hK24 : K = 24 := by omega
    have e1 : kpK K = 24 := by unfold kpK; rw [if_neg q]
    rw [q27, c2, c1, if_neg (show ¬ nI K < 24 from nI_nlt (b := 24) (by omega) (by omega)), chk_p ne_24, nI_1, md24 _ (by omega), sto_d]
    refine ⟨_, (O + 1) % 24, rfl, ⟨by omega, by omega, ?_, by rw [hs_kj], fun i hi => ?_⟩, fun k hk => ?_⟩
    · rw [hs_ki _ _ _ (by omega), q27, c2, e1, hK24]
    · unfold kpL
      rw [if_neg q]
      by_cases hi3 : i = 23
      · rw [if_pos hi3, show ((O + 1) % 24 + i) % 24 = (O + K) % 24 by omega]
        exact ⟨T, P, hg, he2.fm fun k h1 h3 => hs_q _ _ _ (by omega)⟩
      · rw [if_neg hi3, show ((O + 1) % 24 + i) % 24 = (O + (i + 1)) % 24 by omega]
        obtain ⟨T1, P1, hg1, he1⟩ := old (i + 1) (by omega) (by omega)
        exact ⟨T1, P1, hg1, he1.fm fun k h1 h3 => hs_q _ _ _ (by omega)⟩
    · rw [hs_q _ _ _ (by omega)]
      exact hF k (by omega)
/-- the last act taken back -/
theorem xBack {K O : Nat} {h : AH} {L : Nat → Nat → Int32} (c : CA h (K + 1) O L) : ∃ h' T P, fX0_takeBack 20 h = some (nI K, h') ∧ CA h' K O L ∧ Gd (L K) T P 9999 ∧ EstC (L K) T P h' 20 ∧ ∀ k, (k < 20 ∨ 27 < k) → h' k = h k := by
  obtain ⟨hK, hO, c2, c1, f⟩ := c
  obtain ⟨T, P, hg, he⟩ := f K (by omega)
  have hj : (O + K) % 24 < 24 := Nat.mod_lt _ (by decide)
  unfold fX0_takeBack
  rw [c2, if_pos (show (0 : Int32) < nI (K + 1) from nI_lt (a := 0) (by omega) (by omega)), sto_d]
  have e1 : nI (K + 1) - (1 : Int32) = nI K := pk_sub (b := 1) (by omega)
  rw [e1, hs_kj, hs_ki _ _ _ (by omega), c1, chk_p ne_24, nI_add, md24 _ (by omega), chk_p (by rw [ln_28]; exact inb_n hj (by decide)), nI_clamp (by omega), show 28 + 1 + 7 * ((O + K) % 24) = 29 + 7 * ((O + K) % 24) from rfl]
  have he1 : EstC (L K) T P (hs h 27 2 (nI K)) (29 + 7 * ((O + K) % 24)) := he.fm fun k h1 h2 => hs_q _ _ _ (by omega)
  obtain ⟨h2, ht, he2, hF⟩ := xTake (r := 20) he1 hg.1.2.1 hg.1.2.2.1 kd_20 (by omega)
  rw [ht]
  simp only [bnd_s]
  have q27 : h2 27 = hs h 27 2 (nI K) 27 := hF 27 (by omega)
  rw [q27, hs_kj]
  refine ⟨_, T, P, rfl, ⟨by omega, hO, by rw [q27, hs_kj], by rw [q27, hs_ki _ _ _ (by omega), c1], fun i hi => ?_⟩, hg, he2, fun k hk => ?_⟩
  · obtain ⟨T1, P1, hg1, he1⟩ := f i (by omega)
    exact ⟨T1, P1, hg1, he1.fm fun k h1 h3 => by rw [hF k (by omega), hs_q _ _ _ (by omega)]⟩
  · rw [hF k (by omega), hs_q _ _ _ (by omega)]
def shR (f : Nat → Int32) (i : Nat) : Nat → Int32 := fun j => if j < i then f (j + 43) else f j
theorem mNotes_L {h : AH} {k : Int32 → AH → Option (Unit × AH)} : ∀ m i f, i + m = 989 → m < f → fX6_notes_L11 f (nI i) (hr h 287 (shR (h 287) i)) k = k (nI 989) (hr h 287 (shR (h 287) 989)) := by
  intro m
  induction m with
  | zero =>
    intro i f hi hf
    obtain ⟨g, rfl, -⟩ := fuel_s hf
    have : i = 989 := by omega
    subst this
    unfold fX6_notes_L11
    rw [if_neg (show ¬ nI 989 < 989 from nI_nlt (b := 989) (Nat.le_refl 989) (by omega))]
  | succ m ih =>
    intro i f hi hf
    obtain ⟨g, rfl, hg⟩ := fuel_s hf
    unfold fX6_notes_L11
    have e43 : nI i + (43 : Int32) = nI (i + 43) := nI_add i 43
    rw [if_pos (show nI i < 989 from nI_lt (b := 989) (by omega) (by omega)), e43, chk_p (by rw [ln_287]; exact inb_n (by omega) (by decide)), chk_p (by rw [ln_287]; exact inb_n (by omega) (by decide)), nI_clamp (by omega), nI_clamp (by omega), sto_d, vl_d, nI_1, hs_hr, hr_eq]
    have e1 : upd (shR (h 287) i) i (shR (h 287) i (i + 43)) = shR (h 287) (i + 1) := by
      funext j
      by_cases q : j = i
      · subst q; rw [upd_s]; unfold shR; rw [if_neg (by omega), if_pos (by omega)]
      · rw [upd_n _ _ q]; unfold shR
        by_cases q2 : j < i
        · rw [if_pos q2, if_pos (by omega)]
        · rw [if_neg q2, if_neg (by omega)]
    rw [e1]
    exact ih (i + 1) g (by omega) (by omega)
theorem mNotes {K : Nat} {h : AH} {L : Nat → Nat → Int32} (hK : K ≤ 24) (c : MA h K L) : ∃ h', fX6_notes h = some ((), h') ∧ MA h' (kpK K) (kpL K L (h 284)) ∧ (∀ k, k ≠ 278 → k ≠ 287 → h' k = h k) ∧ ∀ j, j ≠ 17 → h' 278 j = h 278 j := by
  obtain ⟨c0, c1⟩ := c
  unfold fX6_notes
  rw [c0]
  by_cases q : K < 24
  · rw [if_neg (show ¬ nI K = 24 from fun z => absurd ((nI_eq (b := 24) (by omega) (by omega)).mp z) (by omega))]
    have e1 : (43 : Int32) * nI K = nI (43 * K) := pk_mul 43 K
    have := mCopies (s := 284) (d := 287) (a := 0) (b := 43 * K) (h := h) (by decide) (by rw [ln_284]; decide) (by rw [ln_287]; omega) (by rw [ln_284]; decide) (by rw [ln_287]; decide)
    rw [nI_0] at this
    rw [e1, this]
    simp only [bnd_s, sto_d]
    refine ⟨_, rfl, ⟨?_, fun i hi j hj => ?_⟩, fun k h1 h2 => ?_, fun j hj => ?_⟩
    · rw [hs_kj, hr_ne _ _ (by decide), c0, nI_1]; unfold kpK; rw [if_pos q]
    · have hk : kpK K = K + 1 := by unfold kpK; rw [if_pos q]
      rw [hs_q _ _ _ (by decide), hr_eq]
      unfold kpL
      rw [if_pos q]
      by_cases hi2 : i = K
      · rw [if_pos hi2, hi2, cpR_in hj, Nat.zero_add]
      · rw [if_neg hi2, cpR_out (by omega)]
        exact c1 i (by omega) j hj
    · rw [hs_q _ _ _ h1, hr_ne _ _ h2]
    · rw [hs_ki _ _ _ hj, hr_ne _ _ (by decide)]
  · have hK24 : K = 24 := by omega
    subst hK24
    rw [if_pos (show nI 24 = 24 from rfl)]
    have s0 : shR (h 287) 0 = h 287 := by
      funext j; unfold shR; rw [if_neg (by omega)]
    have lp := mNotes_L (h := h) (k := fun _ h2 => (sto (hs h2 278 17 ((h2 278 17) - 1)) fun h3 => (bnd (fX6_copies 284 0 287 (43 * (h3 278 17)) h3) fun _ h4 => (sto (hs h4 278 17 ((h4 278 17) + 1)) fun h5 => (some ((), h5)))))) 989 0 FU (by omega) (by have := FU_big; omega)
    rw [nI_0, s0, hr_self] at lp
    rw [lp]
    have e1 : nI 24 - (1 : Int32) = nI 23 := pk_sub (a := 24) (b := 1) (by omega)
    have e2 : (43 : Int32) * nI 23 = nI 989 := pk_mul 43 23
    simp only [sto_d]
    rw [hr_ne _ _ (by decide), c0, e1, hs_kj, e2]
    have := mCopies (s := 284) (d := 287) (a := 0) (b := 989) (h := hs (hr h 287 (shR (h 287) 989)) 278 17 (nI 23)) (by decide) (by rw [ln_284]; decide) (by rw [ln_287]; decide) (by rw [ln_284]; decide) (by rw [ln_287]; decide)
    rw [nI_0] at this
    rw [this]
    simp only [bnd_s]
    refine ⟨_, rfl, ⟨?_, fun i hi j hj => ?_⟩, fun k h1 h2 => ?_, fun j hj => ?_⟩
    · rw [hs_kj, hr_ne _ _ (by decide), hs_kj, nI_1]; rfl
    · rw [hs_q _ _ _ (by decide), hr_eq, hs_q _ _ _ (by decide), hs_q _ _ _ (by decide), hr_eq, hr_ne _ _ (by decide)]
      unfold kpL
      rw [if_neg (by omega)]
      have hi' : i < 24 := hi
      by_cases hi2 : i = 23
      · rw [if_pos hi2, hi2, cpR_in hj, Nat.zero_add]
      · rw [if_neg hi2, cpR_out (by omega)]
        unfold shR
        rw [if_pos (by omega), show 43 * i + j + 43 = 43 * (i + 1) + j by omega]
        exact c1 (i + 1) (by omega) j hj
    · rw [hs_q _ _ _ h1, hr_ne _ _ h2, hs_q _ _ _ h1, hr_ne _ _ h2]
    · rw [hs_ki _ _ _ hj, hr_ne _ _ (by decide), hs_ki _ _ _ hj, hr_ne _ _ (by decide)]
