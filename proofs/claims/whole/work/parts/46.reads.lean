/-! What is only told. -/
theorem both_status {h : AH} (i : Inv h) : Both (fX5_status h) fX6_status := Both.same i rfl (by unfold fX6_status; rw [show h 278 4 = h 0 7 from i.2.2.1.symm])
theorem both_fault {h : AH} (i : Inv h) : Both (fX5_fault h) fX6_fault := Both.same i rfl (by unfold fX6_fault; rw [show h 278 7 = h 18 3 from i.2.1.2.symm])
theorem both_feed {h : AH} (i : Inv h) (a : Int32) : Both (fX5_feed a h) (fX6_feed a) := by
  unfold fX5_feed fX6_feed
  rcases rl a 0 255 0 255 rfl rfl (by omega) (by omega) with p | ⟨p, p2⟩ | ⟨p, p2, b, -, hb, rfl⟩
  · refine Both.same (h := h) (v := -1000001) i (by rw [if_pos p]) ?_
    rw [mIn_l h p]; rfl
  · refine Both.same (h := h) (v := -1000001) i (by rw [if_neg p, if_pos p2]) ?_
    rw [mIn_u h p p2]; rfl
  rw [if_neg p, if_neg p2]
  simp only [mIn_i _ p p2, bnd_s, if1]
  obtain ⟨⟨n, hn, e1, e2, e3⟩, e4⟩ := i.2.1
  rw [e1]
  by_cases q : n < 90
  · rw [if_pos (show nI n < 90 from nI_lt (b := 90) q (by omega))]
    unfold fX4_append
    rw [e1, if_pos (show nI n < 90 from nI_lt (b := 90) q (by omega)), chk_p (by rw [ln_19]; exact inb_n q (by decide)), nI_clamp (by omega)]
    simp only [sto_d, hs_q _ _ _ (show (18 : Nat) ≠ 19 by decide), e1, nI_1, bnd_s, hs_kj]
    refine Both.of rfl ?_
    have e5 : hs (hs h 19 n (nI b)) 18 1 (nI (n + 1)) 278 6 = nI n := by
      simp (disch := omega) only [hs_q]; exact e2
    simp only [e5]
    rw [if_neg (show ¬ nI n = 90 from fun z => absurd ((nI_eq (b := 90) (by omega) (by omega)).mp z) (by omega)), chk_p (by rw [ln_283]; exact inb_n q (by decide)), nI_clamp (by omega)]
    simp only [hs_q _ _ _ (show (278 : Nat) ≠ 283 by decide), e5, nI_1, hs_kj]
    refine ⟨_, rfl, ?_⟩
    obtain ⟨i1, i2, i3, i4, i5, i6, i7⟩ := i
    refine ⟨i1.to fun k hk => ?_, ⟨⟨n + 1, by omega, ?_, ?_, fun j hj => ?_⟩, ?_⟩, ?_, i4.to fun k hk => ?_, i5.to (fun k hk => ?_) ?_, i6.to fun k hk => ?_, i7.to (fun k hk => ?_) ?_⟩
    · simp (disch := omega) only [hs_q]
    · simp (disch := omega) only [hs_q, hs_kj]
    · simp (disch := omega) only [hs_q, hs_kj]
    · by_cases ej : j = n
      · subst ej
        refine ⟨b, hb, ?_, ?_⟩
        · simp (disch := omega) only [hs_q, hs_kj]
        · simp (disch := omega) only [hs_q, hs_kj]
      · obtain ⟨c, hc, f1, f2⟩ := e3 j (by omega)
        refine ⟨c, hc, ?_, ?_⟩
        · simp (disch := omega) only [hs_q, hs_ki]; exact f1
        · simp (disch := omega) only [hs_q, hs_ki]; exact f2
    · simp (disch := omega) only [hs_q, hs_ki]; exact e4
    · unfold IS
      simp (disch := omega) only [hs_q, hs_ki]; exact i3
    · simp (disch := omega) only [hs_q]
    · simp (disch := omega) only [hs_q]
    · simp (disch := omega) only [hs_q, hs_ki]
    · simp (disch := omega) only [hs_q]
    · simp (disch := omega) only [hs_q]
    · simp (disch := omega) only [hs_q, hs_ki]
  · have e90 : n = 90 := by omega
    subst e90
    refine Both.same (h := h) (v := -1000003) i ?_ ?_
    · rw [if_neg (show ¬ nI 90 < 90 from nI_nlt (b := 90) (Nat.le_refl 90) (by omega))]
    · rw [e2, if_pos (show nI 90 = 90 from rfl)]
theorem both_trace {h : AH} (i : Inv h) (a : Int32) : Both (fX5_trace a h) (fX6_trace a) := by
  unfold fX5_trace fX6_trace
  obtain ⟨n, hn, e1, e2, e3⟩ := i.2.2.2.2.2.2
  rcases inN a (show n < 2 ^ 30 by omega) with ⟨z, z2⟩ | ⟨k, hk, rfl, z2⟩
  · refine Both.same (h := h) (v := -1000000) i ?_ ?_
    · rw [e1]
      rcases z with z | ⟨z, z3⟩
      · rw [if_pos z]
      · rw [if_neg z, if_neg z3]
    · rw [e2, z2]; rfl
  · refine Both.same (h := h) (v := h 277 k) i ?_ ?_
    · rw [e1, if_neg (n0_lt k (by omega)), if_pos (nI_lt hk (by omega)), chk_p (by rw [ln_277]; exact inb_n (by omega) (by decide)), nI_clamp (by omega)]
    · rw [e2, z2]
      simp only [bnd_s, if1]
      rw [chk_p (by rw [ln_290]; exact inb_n (by omega) (by decide)), nI_clamp (by omega), e3 k hk]
/-! of the tugs and the piers -/
theorem cX {w t : Nat} {α : Type} {o : Option α} (hw : ln w = 6) (ht : t < 6) : chk (inb (nI t) (ln w)) o = o := chk_p (by rw [hw]; exact inb_n ht (by decide))
theorem cX4 {w t : Nat} {α : Type} {o : Option α} (hw : ln w = 4) (ht : t < 4) : chk (inb (nI t) (ln w)) o = o := chk_p (by rw [hw]; exact inb_n ht (by decide))
theorem EstC.at20 {e : Nat → Int32} {T P t : Nat} {h : AH} (he : EstC e T P h 20) (ht : t < T) : h 21 t = kn e t ∧ h 22 t = pl e t ∧ h 23 t = rp e t ∧ h 24 t = fr e t := he.2.2.1 t ht
theorem EstC.pr20 {e : Nat → Int32} {T P t : Nat} {h : AH} (he : EstC e T P h 20) (ht : t < P) : h 25 t = pa e t ∧ h 26 t = sd e t := he.2.2.2 t ht
theorem both_kind {h : AH} (i : Inv h) (a : Int32) : Both (fX5_kind a h) (fX6_kind a) := by
  unfold fX5_kind fX6_kind fX6_kindIn
  rcases tugs i.2.2.2.1 a with ⟨q1, q2⟩ | ⟨T, P, t, hg, he, ht, rfl, q1, q2⟩
  · refine Both.same (h := h) (v := -1000001) i ?_ ?_
    · rw [q1]; rfl
    · rw [q2 h rfl]; rfl
  have hT := hg.1.2.1
  refine Both.same (h := h) (v := kn (h 284) t) i ?_ ?_
  · rw [q1]
    simp only [bnd_s, ↓reduceIte, cX ln_21 (show t < 6 by omega), nI_clamp (show t < 2 ^ 31 by omega), (he.at20 ht).1]
  · rw [q2 h rfl]
    simp only [bnd_s, if1, ix5, cW ln_284 (show 5 + 5 * t < 43 by omega), nI_clamp (show 5 + 5 * t < 2 ^ 31 by omega)]
theorem both_pier {h : AH} (i : Inv h) (a b : Int32) : Both (fX5_pier a b h) (fX6_pier a b) := by
  unfold fX5_pier fX6_pier
  rcases piers i.2.2.2.1 a with ⟨q1, q2⟩ | ⟨T, P, t, hg, he, ht, rfl, q1, q2⟩
  · refine Both.same (h := h) (v := -1000001) i ?_ ?_
    · rw [q1]; rfl
    · rw [q2 h rfl]; rfl
  have hP := hg.1.2.2.1
  rw [q1]
  simp only [bnd_s, ↓reduceIte]
  rcases rl b 0 1 0 1 rfl rfl (by omega) (by omega) with p | ⟨p, p2⟩ | ⟨p, p2, s, -, hs1, rfl⟩
  · refine Both.same (h := h) (v := -1000001) i ?_ ?_
    · rw [if_neg (fun z => by rw [z] at p; revert p; decide), if_neg (fun z => by rw [z] at p; revert p; decide)]
    · rw [q2 h rfl]; simp only [bnd_s, if1]; rw [mIn_l h p]; rfl
  · refine Both.same (h := h) (v := -1000001) i ?_ ?_
    · rw [if_neg (fun z => by rw [z] at p2; revert p2; decide), if_neg (fun z => by rw [z] at p2; revert p2; decide)]
    · rw [q2 h rfl]; simp only [bnd_s, if1]; rw [mIn_u h p p2]; rfl
  · rcases (show s = 0 ∨ s = 1 by omega) with e | e <;> subst e
    · refine Both.same (h := h) (v := pa (h 284) t) i ?_ ?_
      · rw [if_pos (show nI 0 = 0 from rfl), cX4 ln_25 (by omega), nI_clamp (by omega), (he.pr20 ht).1]
      · rw [q2 h rfl]
        simp only [bnd_s, if1]
        rw [mIn_i h p p2]
        simp only [bnd_s, if1, ix35, nI_add, Nat.add_zero, cW ln_284 (show 35 + 2 * t < 43 by omega), nI_clamp (show 35 + 2 * t < 2 ^ 31 by omega)]
    · refine Both.same (h := h) (v := sd (h 284) t) i ?_ ?_
      · rw [if_neg (show ¬ nI 1 = 0 by decide), if_pos (show nI 1 = 1 from rfl), cX4 ln_26 (by omega), nI_clamp (by omega), (he.pr20 ht).2]
      · rw [q2 h rfl]
        simp only [bnd_s, if1]
        rw [mIn_i h p p2]
        simp only [bnd_s, if1, ix35, nI_add, show 35 + 2 * t + 1 = 36 + 2 * t by omega, cW ln_284 (show 36 + 2 * t < 43 by omega), nI_clamp (show 36 + 2 * t < 2 ^ 31 by omega)]
theorem both_tug {h : AH} (i : Inv h) (a b : Int32) : Both (fX5_tug a b h) (fX6_tug a b) := by
  unfold fX5_tug fX6_tug
  rcases tugs i.2.2.2.1 a with ⟨q1, q2⟩ | ⟨T, P, t, hg, he, ht, rfl, q1, q2⟩
  · refine Both.same (h := h) (v := -1000001) i ?_ ?_
    · rw [q1]; rfl
    · rw [q2 h rfl]; rfl
  have hT := hg.1.2.1
  obtain ⟨f1, f2, f3, f4⟩ := he.at20 ht
  rw [q1]
  simp only [bnd_s, ↓reduceIte, ix5, i5_1, i5_2, i5_3, i5_4, cW ln_284 (show 6 + 5 * t < 43 by omega), cW ln_284 (show 7 + 5 * t < 43 by omega), cW ln_284 (show 8 + 5 * t < 43 by omega), cW ln_284 (show 9 + 5 * t < 43 by omega), cX ln_22 (show t < 6 by omega), cX ln_23 (show t < 6 by omega), cX ln_24 (show t < 6 by omega), nI_clamp (show t < 2 ^ 31 by omega), nI_clamp (show 6 + 5 * t < 2 ^ 31 by omega), nI_clamp (show 7 + 5 * t < 2 ^ 31 by omega), nI_clamp (show 8 + 5 * t < 2 ^ 31 by omega), nI_clamp (show 9 + 5 * t < 2 ^ 31 by omega)]
  by_cases b0 : b = 0
  · exact Both.same (h := h) (v := pl (h 284) t) i (by rw [if_pos b0, f2]) (by rw [q2 h rfl]; simp only [bnd_s, if1]; rw [if_pos b0])
  by_cases b1 : b = 1
  · exact Both.same (h := h) (v := rp (h 284) t) i (by rw [if_neg b0, if_pos b1, f3]) (by rw [q2 h rfl]; simp only [bnd_s, if1]; rw [if_neg b0, if_pos b1])
  by_cases b2 : b = 2
  · exact Both.same (h := h) (v := fr (h 284) t) i (by rw [if_neg b0, if_neg b1, if_pos b2, f4]) (by rw [q2 h rfl]; simp only [bnd_s, if1]; rw [if_neg b0, if_neg b1, if_pos b2])
  by_cases b3 : b = 3
  · refine Both.same (h := h) (v := ho (h 284) t) i ?_ (by rw [q2 h rfl]; simp only [bnd_s, if1]; rw [if_neg b0, if_neg b1, if_neg b2, if_pos b3])
    rw [if_neg b0, if_neg b1, if_neg b2, if_pos b3, xHolds he hT ht]
    simp only [bnd_s]
    rcases hg.hold t ht with z | z <;> rw [z] <;> rfl
  by_cases b4 : b = 4
  · refine Both.same (h := h) (v := drw (h 284) t) i ?_ ?_
    · rw [if_neg b0, if_neg b1, if_neg b2, if_neg b3, if_pos b4, xDraw hg (by omega) he ht]; rfl
    · rw [q2 h rfl]; simp only [bnd_s, if1]; rw [if_neg b0, if_neg b1, if_neg b2, if_neg b3, if_pos b4, mDraw ln_284 (by omega)]; rfl
  · exact Both.same (h := h) (v := -1000001) i (by rw [if_neg b0, if_neg b1, if_neg b2, if_neg b3, if_neg b4]) (by rw [q2 h rfl]; simp only [bnd_s, if1]; rw [if_neg b0, if_neg b1, if_neg b2, if_neg b3, if_neg b4])
/-! of which kind -/
def isAg (p1 : Int32) : Nat → Int32 → Int32 → Option Int32
  | 0, _, _ => none
  | n + 1, x3, x2 => if 5 < x3 then some 0 else if x2 < 0 then some 0 else if 5 < x2 then some 0 else if x2 = p1 then some 1 else chk (inb x2 (stL 1).length) (isAg p1 n (x3 + 1) (stV 1 (Int32.toNatClampNeg x2)))
theorem isA_g (p0 p1 : Int32) (h : AH) : ∀ n x3 x2, fX5_isA_L4 p0 p1 n x3 x2 h (fun _ _ h3 => some (0, h3)) = (isAg p1 n x3 x2).map fun v => (v, h) := by
  intro n
  induction n with
  | zero => intro x3 x2; rfl
  | succ n ih =>
    intro x3 x2
    unfold fX5_isA_L4 isAg
    by_cases q1 : 5 < x3
    · rw [if_pos q1, if_pos q1]; rfl
    rw [if_neg q1, if_neg q1]
    by_cases q2 : x2 < 0
    · rw [if_pos q2, if_pos q2]; rfl
    rw [if_neg q2, if_neg q2]
    by_cases q3 : 5 < x2
    · rw [if_pos q3, if_pos q3]; rfl
    rw [if_neg q3, if_neg q3]
    by_cases q4 : x2 = p1
    · rw [if_pos q4, if_pos q4]; rfl
    rw [if_neg q4, if_neg q4]
    unfold chk
    by_cases q5 : inb x2 (stL 1).length
    · rw [if_pos q5, if_pos q5, vl_d, vl_d]; exact ih _ _
    · rw [if_neg q5, if_neg q5]; rfl
def isaT (k a : Nat) : Bool := (a == 0) || (a == k) || ((a == 1) && decide (k < 4)) || ((a == 4) && (k == 5))
theorem isA_t : ∀ k, k < 6 → ∀ a, a < 6 → 1 ≤ k → isAg (nI a) FU 0 (nI k) = some (if isaT k a then 1 else 0) := by decide +kernel
theorem mAs_t : ∀ k, k < 6 → ∀ a, a < 6 → 1 ≤ k → isaT k a = (decide (nI a = 0) || decide (nI a = nI k) || (decide (nI a = 1) && decide (nI k < 4)) || (decide (nI a = 4) && decide (nI k = 5))) := by decide +kernel
theorem both_as {h : AH} (i : Inv h) (a b : Int32) : Both (fX5_as a b h) (fX6_as a b) := by
  unfold fX5_as fX6_as
  rcases tugs i.2.2.2.1 a with ⟨q1, q2⟩ | ⟨T, P, t, hg, he, ht, rfl, q1, q2⟩
  · refine Both.same (h := h) (v := -1000001) i ?_ ?_
    · rw [q1]; rfl
    · rw [q2 h rfl]; rfl
  have hT := hg.1.2.1
  obtain ⟨f1, f2, f3, f4⟩ := he.at20 ht
  rw [q1]
  simp only [bnd_s, ↓reduceIte, cX ln_21 (show t < 6 by omega), nI_clamp (show t < 2 ^ 31 by omega), f1]
  rcases rl b 0 5 0 5 rfl rfl (by omega) (by omega) with p | ⟨p, p2⟩ | ⟨p, p2, s, -, hs1, rfl⟩
  · refine Both.same (h := h) (v := -1000001) i (by rw [if_pos p]) ?_
    rw [q2 h rfl]; simp only [bnd_s, if1]; rw [mIn_l h p]; rfl
  · refine Both.same (h := h) (v := -1000001) i (by rw [if_neg p, if_pos p2]) ?_
    rw [q2 h rfl]; simp only [bnd_s, if1]; rw [mIn_u h p p2]; rfl
  rw [if_neg p, if_neg p2]
  obtain ⟨k, hk1, hk2, ek⟩ := (hg.2.2.2.2.1 t ht).1
  unfold fX5_isA
  rw [ek, isA_g, isA_t k (by omega) s (by omega) hk1]
  have tbl := mAs_t k (by omega) s (by omega) hk1
  have fin : ∀ h' : AH, h' 284 = h 284 → ∀ w1 w2 : Option (Int32 × AH), (if nI s = 0 then w1 else if nI s = nI k then w1 else if nI s = 1 then (if nI k < 4 then w1 else if nI s = 4 then (if nI k = 5 then w1 else w2) else w2) else if nI s = 4 then (if nI k = 5 then w1 else w2) else w2) = if isaT k s then w1 else w2 := by
    intro h' _ w1 w2
    rw [tbl]
    by_cases z1 : nI s = 0
    · simp [z1]
    by_cases z2 : nI s = nI k
    · simp [z2]
    by_cases z3 : nI s = 1
    · have z4 : ¬ nI s = 4 := by rw [z3]; decide
      by_cases z5 : nI k < 4
      · rw [if_neg z1, if_neg z2, if_pos z3, if_pos z5]; simp [z3, z5]
      · rw [if_neg z1, if_neg z2, if_pos z3, if_neg z5, if_neg z4, if_neg]
        intro hh
        simp only [Bool.or_eq_true, Bool.and_eq_true, decide_eq_true_eq] at hh
        rcases hh with ((x | x) | ⟨-, x⟩) | ⟨x, -⟩
        · exact z1 x
        · exact z2 x
        · exact z5 x
        · exact z4 x
    · rw [if_neg z1, if_neg z2, if_neg z3]
      by_cases z4 : nI s = 4
      · rw [if_pos z4]
        by_cases z5 : nI k = 5
        · rw [if_pos z5]; simp [z4, z5]
        · rw [if_neg z5]; simp [z1, z2, z3, z5]
      · rw [if_neg z4]; simp [z1, z2, z3, z4]
  by_cases z : isaT k s = true
  · rw [if_pos z]
    refine Both.fnd (v := 0) (w := nI t) i (by rfl) ?_
    rw [q2 _ (by rw [hs_q _ _ _ (by decide)])]
    simp only [bnd_s, if1, mIn_i _ p p2, fX6_kindIn, ix5, cW ln_284 (show 5 + 5 * t < 43 by omega), nI_clamp (show 5 + 5 * t < 2 ^ 31 by omega), hs_q _ _ _ (show (284 : Nat) ≠ 0 by decide), ↓reduceIte]
    rw [show h 284 (5 + 5 * t) = nI k from ek, fin (hs h 0 7 0) (hs_q _ _ _ (by decide)), if_pos z]; rfl
  · rw [if_neg z]
    refine Both.fnd (v := 3) (w := -1000010 - 3) i (by rfl) ?_
    rw [q2 _ (by rw [hs_q _ _ _ (by decide)])]
    simp only [bnd_s, if1, mIn_i _ p p2, fX6_kindIn, ix5, cW ln_284 (show 5 + 5 * t < 43 by omega), nI_clamp (show 5 + 5 * t < 2 ^ 31 by omega), hs_q _ _ _ (show (284 : Nat) ≠ 0 by decide), ↓reduceIte]
    rw [show h 284 (5 + 5 * t) = nI k from ek, fin (hs h 0 7 0) (hs_q _ _ _ (by decide)), if_neg z]; rfl
