/-! What stays so between the calls: the two sides tell the same. -/
def Rw (a it : Nat → Int32) (lane many : Int32) (its : Nat → Int32) : Prop := (a 1 = -1 ∧ lane = -1000000) ∨ ∃ l n, l ≤ 2 ∧ n ≤ 40 ∧ a 1 = nI l ∧ lane = nI l ∧ a 2 = nI n ∧ many = nI n ∧ ∀ i, i < n → it i = its i
def IR (h : AH) : Prop := ∀ r, r < 8 → Rw (h (2 + 2 * r)) (h (3 + 2 * r)) (h 279 r) (h 280 r) (fun i => h 281 (40 * r + i))
def IT (h : AH) : Prop := (∃ n, n ≤ 90 ∧ h 18 1 = nI n ∧ h 278 6 = nI n ∧ ∀ i, i < n → ∃ b, b ≤ 255 ∧ h 19 i = nI b ∧ h 283 i = nI b) ∧ h 18 3 = h 278 7
def IS (h : AH) : Prop := h 0 7 = h 278 4
def IN (h : AH) : Prop := ((h 20 0 = 0 ∧ h 20 1 = 0 ∧ h 20 2 = 0 ∧ h 20 3 = 0 ∧ h 20 4 = 0 ∧ h 20 5 = 0) ∧ ∀ j, j < 43 → h 284 j = 0) ∨ ∃ T P, Gd (h 284) T P 9999 ∧ EstC (h 284) T P h 20
def IA (h : AH) : Prop := ∃ K O L, CA h K O L ∧ MA h K L
def II (h : AH) : Prop := ∀ k, k < 2 → (h 289 k = 0 ∧ h (198 + 7 * k) 0 = 0) ∨ (h 289 k = 1 ∧ ∃ T P, Gd (fun j => h 288 (43 * k + j)) T P 9999 ∧ EstC (fun j => h 288 (43 * k + j)) T P h (198 + 7 * k))
def IX (h : AH) : Prop := ∃ n, n ≤ 16 ∧ h 276 1 = nI n ∧ h 278 21 = nI n ∧ ∀ i, i < n → h 277 i = h 290 i
def Inv (h : AH) : Prop := IR h ∧ IT h ∧ IS h ∧ IN h ∧ IA h ∧ II h ∧ IX h
def Both (o : Option (Int32 × AH)) (f : AH → Option (Int32 × AH)) : Prop := ∃ v h1 h2, o = some (v, h1) ∧ f h1 = some (v, h2) ∧ Inv h2
theorem IR.to {h h' : AH} (i : IR h) (q : ∀ k, (2 ≤ k ∧ k ≤ 17) ∨ (279 ≤ k ∧ k ≤ 281) → h' k = h k) : IR h' := by
  intro r hr
  have := i r hr
  rw [q (2 + 2 * r) (by omega), q (3 + 2 * r) (by omega), q 279 (by omega), q 280 (by omega), q 281 (by omega)]
  exact this
theorem IT.to {h h' : AH} (i : IT h) (q : ∀ k, k = 19 ∨ k = 283 → h' k = h k) (q1 : h' 18 1 = h 18 1) (q2 : h' 18 3 = h 18 3) (q3 : h' 278 6 = h 278 6) (q4 : h' 278 7 = h 278 7) : IT h' := by
  unfold IT
  rw [q 19 (by omega), q 283 (by omega), q1, q2, q3, q4]
  exact i
theorem IN.to {h h' : AH} (i : IN h) (q : ∀ k, (20 ≤ k ∧ k ≤ 26) ∨ k = 284 → h' k = h k) : IN h' := by
  unfold IN
  rw [q 284 (by omega), q 20 (by omega)]
  rcases i with i | ⟨T, P, hg, he⟩
  · exact Or.inl i
  · exact Or.inr ⟨T, P, hg, he.fm fun k h1 h2 => q k (by omega)⟩
theorem IA.to {h h' : AH} (i : IA h) (q : ∀ k, (27 ≤ k ∧ k ≤ 196) ∨ k = 287 → h' k = h k) (q1 : h' 278 17 = h 278 17) : IA h' := by
  obtain ⟨K, O, L, c, m⟩ := i
  refine ⟨K, O, L, c.to fun k h1 h2 => q k (by omega), ?_⟩
  unfold MA
  rw [q 287 (by omega), q1]
  exact m
theorem II.to {h h' : AH} (i : II h) (q : ∀ k, (198 ≤ k ∧ k ≤ 211) ∨ k = 288 ∨ k = 289 → h' k = h k) : II h' := by
  intro k hk
  rw [q 288 (by omega), q 289 (by omega), q (198 + 7 * k) (by omega)]
  rcases i k hk with i | ⟨i, T, P, hg, he⟩
  · exact Or.inl i
  · exact Or.inr ⟨i, T, P, hg, he.fm fun k h1 h2 => q k (by omega)⟩
theorem IX.to {h h' : AH} (i : IX h) (q : ∀ k, k = 276 ∨ k = 277 ∨ k = 290 → h' k = h k) (q1 : h' 278 21 = h 278 21) : IX h' := by
  unfold IX
  rw [q 276 (by omega), q 277 (by omega), q 290 (by omega), q1]
  exact i
/-- only what no call keeps has changed -/
def Sc (h h' : AH) : Prop := ∀ k, (k < 213 ∨ (275 < k ∧ k ≠ 282 ∧ k ≠ 285 ∧ k ≠ 286)) → h' k = h k
theorem Sc.rf (h : AH) : Sc h h := fun _ _ => rfl
theorem Sc.tr {h h1 h2 : AH} (a : Sc h h1) (b : Sc h1 h2) : Sc h h2 := fun k hk => (b k hk).trans (a k hk)
theorem Fm.sc {d : Nat} {h h' : AH} (hd : d < 9) (f : Fm (213 + 7 * d) h h') : Sc h h' := fun k hk => f k (by omega)
theorem sc_286 (h : AH) (f : Nat → Int32) : Sc h (hr h 286 f) := fun k hk => hr_ne _ _ (by omega)
theorem Inv.sc {h h' : AH} (i : Inv h) (s : Sc h h') : Inv h' := by
  obtain ⟨a, b, c, d, e, f, g⟩ := i
  refine ⟨a.to fun k hk => s k (by omega), b.to (fun k hk => s k (by omega)) ?_ ?_ ?_ ?_, ?_, d.to fun k hk => s k (by omega), e.to (fun k hk => s k (by omega)) ?_, f.to fun k hk => s k (by omega), g.to (fun k hk => s k (by omega)) ?_⟩
  · rw [s 18 (by omega)]
  · rw [s 18 (by omega)]
  · rw [s 278 (by omega)]
  · rw [s 278 (by omega)]
  · unfold IS; rw [s 0 (by omega), s 278 (by omega)]; exact c
  · rw [s 278 (by omega)]
  · rw [s 278 (by omega)]
theorem Both.same {h : AH} {o : Option (Int32 × AH)} {f : AH → Option (Int32 × AH)} {v : Int32} (i : Inv h) (a : o = some (v, h)) (b : f h = some (v, h)) : Both o f := ⟨v, h, h, a, b, i⟩
/-- both tell the same finding -/
theorem Inv.st {h h' : AH} {v : Int32} (i : Inv h) (a : h' 0 7 = v) (b : h' 278 4 = v) (c : ∀ k, k ≠ 0 → k ≠ 278 → h' k = h k) (d : ∀ j, j ≠ 4 → h' 278 j = h 278 j) : Inv h' := by
  obtain ⟨i1, i2, i3, i4, i5, i6, i7⟩ := i
  refine ⟨i1.to fun k hk => c k (by omega) (by omega), i2.to (fun k hk => c k (by omega) (by omega)) ?_ ?_ (d 6 (by omega)) (d 7 (by omega)), ?_, i4.to fun k hk => c k (by omega) (by omega), i5.to (fun k hk => c k (by omega) (by omega)) (d 17 (by omega)), i6.to fun k hk => c k (by omega) (by omega), i7.to (fun k hk => c k (by omega) (by omega)) (d 21 (by omega))⟩
  · rw [c 18 (by omega) (by omega)]
  · rw [c 18 (by omega) (by omega)]
  · unfold IS; rw [a, b]
theorem Inv.st2 {h : AH} (i : Inv h) (v : Int32) : Inv (hs (hs h 0 7 v) 278 4 v) :=
  i.st (v := v) (by rw [hs_q _ _ _ (by decide), hs_kj]) (by rw [hs_kj]) (fun k h1 h2 => by rw [hs_q _ _ _ h2, hs_q _ _ _ h1]) (fun j hj => by rw [hs_ki _ _ _ hj, hs_q _ _ _ (by decide)])
theorem h0_kd : ∀ r, r < 8 → kd (2 + 2 * r) = 3 := by decide +kernel
theorem Inv_0 : Inv h0 := by
  have z : ∀ k, kd k ≠ 3 → k ≠ 279 → ∀ j, h0 k j = 0 := by
    intro k h1 h2 j; unfold h0; rw [if_neg h1, if_neg h2]
  have n18 : kd 18 ≠ 3 := by decide +kernel
  have n0 : kd 0 ≠ 3 := by decide +kernel
  have n278 : kd 278 ≠ 3 := by decide +kernel
  have n20 : kd 20 ≠ 3 := by decide +kernel
  have n284 : kd 284 ≠ 3 := by decide +kernel
  have n27 : kd 27 ≠ 3 := by decide +kernel
  have n289 : kd 289 ≠ 3 := by decide +kernel
  have n276 : kd 276 ≠ 3 := by decide +kernel
  have n279 : kd 279 ≠ 3 := by decide +kernel
  refine ⟨fun r hr => Or.inl ⟨?_, ?_⟩, ⟨⟨0, by omega, z 18 n18 (by decide) 1, z 278 n278 (by decide) 6, fun i hi => by omega⟩, ?_⟩, ?_, Or.inl ⟨⟨z _ n20 (by decide) 0, z _ n20 (by decide) 1, z _ n20 (by decide) 2, z _ n20 (by decide) 3, z _ n20 (by decide) 4, z _ n20 (by decide) 5⟩, fun j _ => z 284 n284 (by decide) j⟩, ⟨0, 0, fun _ _ => 0, ⟨by omega, by omega, z 27 n27 (by decide) 2, z 27 n27 (by decide) 1, fun i hi => by omega⟩, z 278 n278 (by decide) 17, fun i hi => by omega⟩, fun k hk => Or.inl ⟨z 289 n289 (by decide) k, z _ ?_ (by omega) 0⟩, ⟨0, by omega, z 276 n276 (by decide) 1, z 278 n278 (by decide) 21, fun i hi => by omega⟩⟩
  · unfold h0; rw [if_pos (h0_kd r hr), if_pos rfl]
  · unfold h0; rw [if_neg n279, if_pos rfl]
  · rw [z 18 n18 (by decide), z 278 n278 (by decide)]
  · unfold IS; rw [z 0 n0 (by decide), z 278 n278 (by decide)]
  · rw [kdI k hk]; decide
/-! numbers given by the caller -/
theorem sg (a : Int32) : a < 0 ∨ ∃ n, n < 2 ^ 31 ∧ a = nI n := by
  by_cases h : a < 0
  · exact Or.inl h
  · exact Or.inr (nI_of h)
theorem ng_lt {a : Int32} {n : Nat} (h : a < 0) (hn : n < 2 ^ 31) : a < nI n := by
  rw [Int32.lt_iff_toInt_lt] at h ⊢
  rw [nI_toInt hn]
  have : (0 : Int32).toInt = 0 := by decide
  omega
theorem ng_nlt {a : Int32} {n : Nat} (h : a < 0) (hn : n < 2 ^ 31) : ¬ nI n < a := by
  rw [Int32.lt_iff_toInt_lt] at h ⊢
  rw [nI_toInt hn]
  have : (0 : Int32).toInt = 0 := by decide
  omega
theorem n0_lt (n : Nat) (hn : n < 2 ^ 31) : ¬ nI n < 0 := nI_pos hn
/-- below, above or within -/
theorem rng (a : Int32) (l u : Nat) (hlu : l ≤ u) (hu : u < 2 ^ 31) : (a < nI l) ∨ (¬ a < nI l ∧ nI u < a) ∨ (¬ a < nI l ∧ ¬ nI u < a ∧ ∃ n, l ≤ n ∧ n ≤ u ∧ a = nI n) := by
  rcases sg a with h | ⟨n, hn, rfl⟩
  · exact Or.inl (ng_lt h (by omega))
  · by_cases h1 : n < l
    · exact Or.inl (nI_lt h1 (by omega))
    · by_cases h2 : u < n
      · exact Or.inr (Or.inl ⟨nI_nlt (by omega) hn, nI_lt h2 hn⟩)
      · exact Or.inr (Or.inr ⟨nI_nlt (by omega) hn, nI_nlt (by omega) hu, n, by omega, by omega, rfl⟩)
theorem rl (a l u : Int32) (L U : Nat) (hl : l = nI L) (hu : u = nI U) (h : L ≤ U) (h2 : U < 2 ^ 31) : a < l ∨ (¬ a < l ∧ u < a) ∨ (¬ a < l ∧ ¬ u < a ∧ ∃ n, L ≤ n ∧ n ≤ U ∧ a = nI n) := by
  rw [hl, hu]
  exact rng a L U h h2
theorem mIn_l {a l u : Int32} (h : AH) (q : a < l) : fX6_in a l u h = some (0, h) := by unfold fX6_in; rw [if_pos q]
theorem mIn_u {a l u : Int32} (h : AH) (p : ¬ a < l) (q : u < a) : fX6_in a l u h = some (0, h) := by unfold fX6_in; rw [if_neg p, if_pos q]
theorem mIn_i {a l u : Int32} (h : AH) (p : ¬ a < l) (q : ¬ u < a) : fX6_in a l u h = some (1, h) := by unfold fX6_in; rw [if_neg p, if_neg q]
theorem c01_0 {α : Type} {o : Option α} : chk ((0 : Int32) = 0 ∨ (0 : Int32) = 1) o = o := chk_p (by decide)
theorem c01_1 {α : Type} {o : Option α} : chk ((1 : Int32) = 0 ∨ (1 : Int32) = 1) o = o := chk_p (by decide)
theorem tugs {h : AH} (i : IN h) (a : Int32) : (fX5_noTug a h = some (1, h) ∧ ∀ h', h' 284 = h 284 → fX6_isTug a h' = some (0, h')) ∨ ∃ T P t, Gd (h 284) T P 9999 ∧ EstC (h 284) T P h 20 ∧ t < T ∧ a = nI t ∧ fX5_noTug a h = some (0, h) ∧ ∀ h', h' 284 = h 284 → fX6_isTug a h' = some (1, h') := by
  unfold fX5_noTug fX6_isTug
  rcases i with ⟨⟨z, -⟩, zj⟩ | ⟨T, P, hg, he⟩
  · refine Or.inl ⟨?_, fun h' q => ?_⟩
    · rw [z]
      by_cases q : a < 0
      · rw [if_pos q]
      · rw [if_neg q, if_neg q]
    · rw [cW2 ln_284, cl_2, q, zj 2 (by omega)]
      by_cases p : a < 0
      · rw [mIn_l h' p]; simp only [bnd_s]; exact c01_0
      · have : (0 : Int32) - 1 < a := by
          obtain ⟨n, hn, rfl⟩ := nI_of p
          rw [Int32.lt_iff_toInt_lt, nI_toInt hn]
          have : ((0 : Int32) - 1).toInt = -1 := by decide
          omega
        rw [mIn_u h' p this]; simp only [bnd_s]; exact c01_0
  · have hT := hg.1
    have e2 := hg.1.2.2.2.1
    have eT : nI T - (1 : Int32) = nI (T - 1) := pk_sub (b := 1) hT.1
    rcases rng a 0 (T - 1) (by omega) (by omega) with q | ⟨q, q2⟩ | ⟨q, q2, n, -, hn, rfl⟩
    · refine Or.inl ⟨by rw [if_pos (show a < 0 from q)], fun h' q3 => ?_⟩
      rw [cW2 ln_284, cl_2, mIn_l h' (show a < 0 from q)]; simp only [bnd_s]; exact c01_0
    · refine Or.inl ⟨?_, fun h' q3 => ?_⟩
      · rw [if_neg (show ¬ a < 0 from q), he.2.1.1, if_neg]
        obtain ⟨n, hn, rfl⟩ := nI_of (show ¬ a < 0 from q)
        exact nI_nlt (by have := (nI_ltI (by omega) hn).mp q2; omega) hn
      · rw [cW2 ln_284, cl_2, q3, e2, eT, mIn_u h' (show ¬ a < 0 from q) q2]; simp only [bnd_s]; exact c01_0
    · refine Or.inr ⟨T, P, n, hg, he, by omega, rfl, ?_, fun h' q3 => ?_⟩
      · rw [if_neg (show ¬ nI n < 0 from q), he.2.1.1, if_pos (nI_lt (by omega) (by omega))]
      · rw [cW2 ln_284, cl_2, q3, e2, eT, mIn_i h' (show ¬ nI n < 0 from q) q2]; simp only [bnd_s]; exact c01_1
theorem piers {h : AH} (i : IN h) (a : Int32) : (fX5_noPier a h = some (1, h) ∧ ∀ h', h' 284 = h 284 → fX6_isPier a h' = some (0, h')) ∨ ∃ T P t, Gd (h 284) T P 9999 ∧ EstC (h 284) T P h 20 ∧ t < P ∧ a = nI t ∧ fX5_noPier a h = some (0, h) ∧ ∀ h', h' 284 = h 284 → fX6_isPier a h' = some (1, h') := by
  unfold fX5_noPier fX6_isPier
  have none : h 20 1 = 0 → h 284 3 = 0 → (if a < 0 then some ((1 : Int32), h) else if a < h 20 1 then some (0, h) else some (1, h)) = some (1, h) ∧ ∀ h' : AH, h' 284 = h 284 → (chk (inb 3 (ln 284)) (bnd (fX6_in a 0 (h' 284 (Int32.toNatClampNeg 3) - 1) h') fun v2 h1 => chk (v2 = 0 ∨ v2 = 1) (some (v2, h1)))) = some (0, h') := by
    intro z1 z2
    refine ⟨?_, fun h' q => ?_⟩
    · rw [z1]
      by_cases q : a < 0
      · rw [if_pos q]
      · rw [if_neg q, if_neg q]
    · rw [cW3 ln_284, cl_3, q, z2]
      by_cases p : a < 0
      · rw [mIn_l h' p]; simp only [bnd_s]; exact c01_0
      · have : (0 : Int32) - 1 < a := by
          obtain ⟨n, hn, rfl⟩ := nI_of p
          rw [Int32.lt_iff_toInt_lt, nI_toInt hn]
          have : ((0 : Int32) - 1).toInt = -1 := by decide
          omega
        rw [mIn_u h' p this]; simp only [bnd_s]; exact c01_0
  rcases i with ⟨⟨-, z, -⟩, zj⟩ | ⟨T, P, hg, he⟩
  · exact Or.inl (none z (zj 3 (by omega)))
  · have hT := hg.1
    have e3 := hg.1.2.2.2.2
    by_cases hP0 : P = 0
    · subst hP0
      exact Or.inl (none he.2.1.2.1 e3)
    have eT : nI P - (1 : Int32) = nI (P - 1) := pk_sub (b := 1) (by omega)
    rcases rng a 0 (P - 1) (by omega) (by omega) with q | ⟨q, q2⟩ | ⟨q, q2, n, -, hn, rfl⟩
    · refine Or.inl ⟨by rw [if_pos (show a < 0 from q)], fun h' q3 => ?_⟩
      rw [cW3 ln_284, cl_3, mIn_l h' (show a < 0 from q)]; simp only [bnd_s]; exact c01_0
    · refine Or.inl ⟨?_, fun h' q3 => ?_⟩
      · rw [if_neg (show ¬ a < 0 from q), he.2.1.2.1, if_neg]
        obtain ⟨n, hn, rfl⟩ := nI_of (show ¬ a < 0 from q)
        exact nI_nlt (by have := (nI_ltI (by omega) hn).mp q2; omega) hn
      · rw [cW3 ln_284, cl_3, q3, e3, eT, mIn_u h' (show ¬ a < 0 from q) q2]; simp only [bnd_s]; exact c01_0
    · refine Or.inr ⟨T, P, n, hg, he, by omega, rfl, ?_, fun h' q3 => ?_⟩
      · rw [if_neg (show ¬ nI n < 0 from q), he.2.1.2.1, if_pos (nI_lt (by omega) (by omega))]
      · rw [cW3 ln_284, cl_3, q3, e3, eT, mIn_i h' (show ¬ nI n < 0 from q) q2]; simp only [bnd_s]; exact c01_1
theorem ests {h : AH} (i : IN h) : (fX5_noEstuary h = some (1, h) ∧ ∀ h', h' 284 = h 284 → fX6_isEstuary h' = some (0, h')) ∨ ∃ T P, Gd (h 284) T P 9999 ∧ EstC (h 284) T P h 20 ∧ fX5_noEstuary h = some (0, h) ∧ ∀ h', h' 284 = h 284 → fX6_isEstuary h' = some (1, h') := by
  unfold fX5_noEstuary fX6_isEstuary
  rcases i with ⟨⟨z, -⟩, zj⟩ | ⟨T, P, hg, he⟩
  · refine Or.inl ⟨by rw [if_pos z], fun h' q => ?_⟩
    rw [cW0 ln_284, cl_0, q, zj 0 (by omega), if_neg (by decide)]
  · obtain ⟨m, h1, h2, e0⟩ := hg.2.1
    refine Or.inr ⟨T, P, hg, he, ?_, fun h' q => ?_⟩
    · rw [he.2.1.1, if_neg (nI_ne0 (by have := hg.1; omega) (by have := hg.1; omega))]
    · rw [cW0 ln_284, cl_0, q, e0, if_pos (show (0 : Int32) < nI m from nI_lt (a := 0) (by omega) (by omega))]
theorem rows_ (a : Int32) : ((∀ h, fX5_noRow a h = some (1, h)) ∧ ∀ h, fX6_isRow a h = some (0, h)) ∨ ∃ r, r < 8 ∧ a = nI r ∧ (∀ h, fX5_noRow a h = some (0, h)) ∧ ∀ h, fX6_isRow a h = some (1, h) := by
  unfold fX5_noRow fX6_isRow
  rcases rng a 0 7 (by omega) (by omega) with q | ⟨q, q2⟩ | ⟨q, q2, n, -, hn, rfl⟩
  · refine Or.inl ⟨fun h => by rw [if_pos (show a < 0 from q)], fun h => ?_⟩
    rw [mIn_l h (show a < 0 from q)]; simp only [bnd_s]; exact c01_0
  · refine Or.inl ⟨fun h => ?_, fun h => ?_⟩
    · rw [if_neg (show ¬ a < 0 from q), if_neg]
      obtain ⟨n, hn, rfl⟩ := nI_of (show ¬ a < 0 from q)
      exact nI_nlt (b := 8) (by have := (nI_ltI (by omega) hn).mp q2; omega) hn
    · rw [mIn_u h (show ¬ a < 0 from q) (show (7 : Int32) < a from q2)]; simp only [bnd_s]; exact c01_0
  · refine Or.inr ⟨n, by omega, rfl, fun h => ?_, fun h => ?_⟩
    · rw [if_neg (show ¬ nI n < 0 from q), if_pos (show nI n < 8 from nI_lt (b := 8) (by omega) (by omega))]
    · rw [mIn_i h (show ¬ nI n < 0 from q) (show ¬ (7 : Int32) < nI n from q2)]; simp only [bnd_s]; exact c01_1
