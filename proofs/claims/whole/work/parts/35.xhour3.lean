/-- where the thing is, which piers stand, behind a speed -/
def comeR (e : Nat → Int32) (P : Nat) (s : Int32) : Nat → Int32 := fun j => if j = 1 then nOut e P s else if 35 ≤ j ∧ j < 35 + 2 * P then (if j % 2 = 0 then nSd e P s ((j - 35) / 2) else e j) else e j
theorem cR_1 (e : Nat → Int32) (P : Nat) (s : Int32) : comeR e P s 1 = nOut e P s := by simp [comeR]
theorem cR_lo (e : Nat → Int32) (P : Nat) (s : Int32) {j : Nat} (h1 : j ≠ 1) (h2 : j < 35) : comeR e P s j = e j := by
  unfold comeR
  rw [if_neg h1, if_neg (by omega)]
theorem cR_pa (e : Nat → Int32) {P p : Nat} (s : Int32) (hp : p < P) : pa (comeR e P s) p = pa e p := by
  show comeR e P s (35 + 2 * p) = e (35 + 2 * p)
  unfold comeR
  rw [if_neg (by omega), if_pos (by omega), if_neg (by omega)]
theorem cR_sd (e : Nat → Int32) {P p : Nat} (s : Int32) (hp : p < P) : sd (comeR e P s) p = nSd e P s p := by
  show comeR e P s (36 + 2 * p) = _
  unfold comeR
  rw [if_neg (by omega), if_pos (by omega), if_pos (by omega), show (36 + 2 * p - 35) / 2 = p by omega]
theorem max0 {o s : Nat} (ho : o ≤ 99) (hs : s ≤ 99) : (if (0 : Int32) < nI o - nI s then nI o - nI s else 0) = if nI s < nI o then nI o - nI s else 0 := by
  rw [ite_lt (by omega) (by omega)]
  by_cases h : s < o
  · rw [if_pos h, nn_sub (by omega), if_pos (show (0 : Int32) < nI (o - s) from nI_lt (a := 0) (by omega) (by omega))]
  · rw [if_neg h]
    by_cases h2 : s = o
    · subst h2
      rw [nn_sub (Nat.le_refl _), Nat.sub_self]
      decide
    · rw [if_neg]
      intro q
      exact absurd (Int32.lt_trans q (pk_sneg (by omega) (by omega))) (by decide)
theorem EstC.come {e : Nat → Int32} {T P : Nat} {h h' : AH} {r : Nat} {s : Int32} (he : EstC e T P h r) (hT : T ≤ 6) (h1 : h' r 3 = nOut e P s) (h2 : ∀ j, j ≠ 3 → h' r j = h r j) (h3 : ∀ q, q ≠ r → q ≠ r + 6 → h' q = h q) (h4 : ∀ p, p < P → h' (r + 6) p = nSd e P s p) : EstC (comeR e P s) T P h' r := by
  obtain ⟨a, ⟨b0, b1, b2, b3, b4, m, b5, b6⟩, c, d⟩ := he
  refine ⟨a, ⟨?_, ?_, ?_, ?_, ?_, m, ?_, b6.1, fun t q => ?_⟩, fun t q => ?_, fun p q => ?_⟩
  · rw [h2 _ (by omega)]; exact b0
  · rw [h2 _ (by omega)]; exact b1
  · rw [h2 _ (by omega), cR_lo _ _ _ (by omega) (by omega)]; exact b2
  · rw [h1, cR_1]
  · rw [h2 _ (by omega), cR_lo _ _ _ (by omega) (by omega)]; exact b4
  · rw [h2 _ (by omega)]; exact b5
  · show _ = decide (comeR e P s (9 + 5 * t) = 1)
    rw [cR_lo _ _ _ (by omega) (by omega)]; exact b6.2 t q
  · show h' (r + 1) t = comeR e P s (5 + 5 * t) ∧ h' (r + 2) t = comeR e P s (6 + 5 * t) ∧ h' (r + 3) t = comeR e P s (7 + 5 * t) ∧ h' (r + 4) t = comeR e P s (8 + 5 * t)
    rw [h3 _ (by omega) (by omega), h3 _ (by omega) (by omega), h3 _ (by omega) (by omega), h3 _ (by omega) (by omega), cR_lo _ _ _ (by omega) (by omega), cR_lo _ _ _ (by omega) (by omega), cR_lo _ _ _ (by omega) (by omega), cR_lo _ _ _ (by omega) (by omega)]
    exact c t q
  · rw [h3 _ (by omega) (by omega), cR_pa e s q, cR_sd e s q, h4 p q]
    exact ⟨(d p q).1, rfl⟩
theorem xCome {e : Nat → Int32} {T P B s : Nat} {h : AH} {r : Nat} (hg : Gd e T P B) (hs : s ≤ 9) (he : EstC e T P h r) : ∃ h', fX2_comeNearer r (nI s) h = some ((), h') ∧ EstC (comeR e P (nI s)) T P h' r ∧ Fm r h h' := by
  have hg' := hg
  obtain ⟨⟨hT1, hT, hP, e2, e3⟩, hm, ⟨o, ho1, eo⟩, -, -, hpr⟩ := hg
  have hr := he.1
  have h3 : h r 3 = e 1 := he.2.1.2.2.2.1
  unfold fX2_comeNearer
  rw [xPier (nI s) hg' he]
  simp only [bnd, sto_d, vl_d]
  cases hm : mtl e (nI s) P with
  | none =>
    rw [if_pos (show encC none < 0 by decide), h3]
    refine ⟨_, rfl, ?_, Fm.hs r h 3 _ (by omega)⟩
    refine he.come hT ?_ (fun j hj => hs_ki h r _ hj) (fun q h1 _ => hs_q h _ _ h1) (fun p hp => ?_)
    · rw [hs_kj, eo, max0 ho1 (by omega)]
      unfold nOut
      rw [hm, eo]
    · rw [hs_q h _ _ (by omega), (he.2.2.2 p hp).2]
      unfold nSd
      rw [hm, if_neg (by intro q; cases q)]
  | some p =>
    obtain ⟨hp, hon⟩ := mtl_lt hm
    obtain ⟨⟨a, ha, ea⟩, d, hd, ed⟩ := hpr p hp
    rw [if_neg (show ¬ encC (some p) < 0 from nI_pos (by omega)), show encC (some p) = nI p from rfl]
    rw [cE5 hr (by omega), cE6 hr (by omega), cE6 hr (by omega), nI_clamp (by omega), (he.2.2.2 p hp).1, (he.2.2.2 p hp).2, h3]
    refine ⟨_, rfl, ?_, (Fm.hs r h p _ (by omega)).tr (Fm.hs r _ 3 _ (by omega))⟩
    rw [onw_nat ho1 hs hd ha eo ea ed] at hon
    simp only [Bool.and_eq_true, decide_eq_true_eq] at hon
    refine he.come hT ?_ (fun j hj => ?_) (fun q h1 h2 => ?_) (fun p' hp' => ?_)
    · rw [hs_kj]
      unfold nOut
      rw [hm]
    · rw [hs_ki _ r _ hj, hs_q h _ _ (by omega)]
    · rw [hs_q _ _ _ h1, hs_q h _ _ h2]
    · rw [hs_q _ _ _ (by omega)]
      unfold nSd
      by_cases hpp : p' = p
      · subst hpp
        have e5 : nI s - (e 1 - (pa e p' + 1)) = nI (s - (o - (a + 1))) := by
          rw [eo, ea]
          rw [show nI a + 1 = nI (a + 1) from nI_1 a, nn_sub (by omega), nn_sub (by omega)]
        rw [hs_kj, hm, if_pos rfl, e5, ed, max0 (by omega) (by omega)]
      · rw [hs_ki h _ _ hpp, (he.2.2.2 p' hp').2, hm, if_neg (by intro q; cases q; exact hpp rfl)]
theorem xThrough {e : Nat → Int32} {T P : Nat} {h : AH} {r t : Nat} (he : EstC e T P h r) (hT : T ≤ 6) (ht : t < T) : fX2_ropeIsThrough r (nI t) h = some ((if fr e t < lim e t then 0 else 1), h) := by
  have hr := he.1
  obtain ⟨f1, f2, f3, f4⟩ := he.2.2.1 t ht
  unfold fX2_ropeIsThrough lim
  rw [cE4 hr (by omega), cE1 hr (by omega), nI_clamp (by omega), f1, f4]
  by_cases q : kn e t = 3
  · rw [if_pos q, if_pos q]
    split <;> rfl
  · rw [if_neg q, if_neg q]
    split <;> rfl
/-- the first i tugs frayed, parted by that -/
def fray0 (e : Nat → Int32) (i : Nat) : Nat → Int32 := fun j => if 5 ≤ j ∧ j < 5 + 5 * i then (if j % 5 = 3 then (if ho e ((j - 5) / 5) = 1 then (if fr1 e ((j - 5) / 5) < lim e ((j - 5) / 5) then fr1 e ((j - 5) / 5) else 0) else fr e ((j - 5) / 5)) else if j % 5 = 4 then (if ho e ((j - 5) / 5) = 1 then (if fr1 e ((j - 5) / 5) < lim e ((j - 5) / 5) then 1 else 0) else ho e ((j - 5) / 5)) else e j) else e j
theorem f0_0 (e : Nat → Int32) : fray0 e 0 = e := by
  funext j
  unfold fray0
  rw [if_neg (by omega)]
theorem f0_lo (e : Nat → Int32) (i : Nat) {j : Nat} (h : j < 5) : fray0 e i j = e j := by
  unfold fray0
  rw [if_neg (by omega)]
theorem f0_hi (e : Nat → Int32) {i j : Nat} (h : 5 + 5 * i ≤ j) : fray0 e i j = e j := by
  unfold fray0
  rw [if_neg (by omega)]
theorem f0_x (e : Nat → Int32) (i : Nat) {j : Nat} (h1 : j % 5 ≠ 3) (h2 : j % 5 ≠ 4) : fray0 e i j = e j := by
  unfold fray0
  by_cases q : 5 ≤ j ∧ j < 5 + 5 * i
  · rw [if_pos q, if_neg h1, if_neg h2]
  · rw [if_neg q]
theorem f0_fr (e : Nat → Int32) {i t : Nat} (h : t < i) : fr (fray0 e i) t = if ho e t = 1 then (if fr1 e t < lim e t then fr1 e t else 0) else fr e t := by
  show fray0 e i (8 + 5 * t) = _
  unfold fray0
  rw [if_pos (by omega), if_pos (by omega), show (8 + 5 * t - 5) / 5 = t by omega]
theorem f0_ho (e : Nat → Int32) {i t : Nat} (h : t < i) : ho (fray0 e i) t = if ho e t = 1 then (if fr1 e t < lim e t then 1 else 0) else ho e t := by
  show fray0 e i (9 + 5 * t) = _
  unfold fray0
  rw [if_pos (by omega), if_neg (by omega), if_pos (by omega), show (9 + 5 * t - 5) / 5 = t by omega]
/-- one more of them: when its two numbers are so -/
theorem f0_s (e : Nat → Int32) {i : Nat} {e' : Nat → Int32} (h1 : ∀ j, j ≠ 8 + 5 * i → j ≠ 9 + 5 * i → e' j = fray0 e i j) (h2 : fr e' i = if ho e i = 1 then (if fr1 e i < lim e i then fr1 e i else 0) else fr e i) (h3 : ho e' i = if ho e i = 1 then (if fr1 e i < lim e i then 1 else 0) else ho e i) : fray0 e (i + 1) = e' := by
  funext j
  by_cases q1 : j = 8 + 5 * i
  · subst q1
    exact (f0_fr e (by omega)).trans h2.symm
  · by_cases q2 : j = 9 + 5 * i
    · subst q2
      exact (f0_ho e (by omega)).trans h3.symm
    · rw [h1 j q1 q2]
      by_cases q3 : j < 5 + 5 * i
      · unfold fray0
        by_cases q4 : 5 ≤ j
        · rw [if_pos (show 5 ≤ j ∧ j < 5 + 5 * (i + 1) by omega), if_pos (show 5 ≤ j ∧ j < 5 + 5 * i by omega)]
        · rw [if_neg (show ¬ (5 ≤ j ∧ j < 5 + 5 * (i + 1)) by omega), if_neg (show ¬ (5 ≤ j ∧ j < 5 + 5 * i) by omega)]
      · rw [f0_hi (i := i) e (show 5 + 5 * i ≤ j by omega)]
        by_cases q4 : j < 5 + 5 * (i + 1)
        · exact f0_x e (i + 1) (j := j) (by omega) (by omega)
        · exact f0_hi (i := i + 1) (j := j) e (by omega)
