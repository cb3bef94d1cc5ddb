theorem one_lt {e : Nat → Int32} {t : Nat} (h : (ho e t = 0 ∧ fr e t = 0) ∨ ho e t = 1) : ho e t = 0 ∨ ho e t = 1 := h.elim (fun q => Or.inl q.1) Or.inr
theorem nn_sub {a b : Nat} (h : b ≤ a) : nI a - nI b = nI (a - b) := pk_sub h
/-- what onw says, by numbers -/
theorem onw_nat {e : Nat → Int32} {p o s a d : Nat} (ho : o ≤ 99) (hs : s ≤ 9) (hd : d ≤ 20) (ha : a ≤ 98) (e1 : e 1 = nI o) (ea : pa e p = nI a) (ed : sd e p = nI d) : onw e (nI s) p = (decide (0 < d) && (decide (a < o) && decide (o ≤ a + s))) := by
  unfold onw
  rw [e1, ea, ed]
  have h1 : ((0 : Int32) < nI d) ↔ 0 < d := nI_ltI (a := 0) (by omega) (by omega)
  have h2 : (nI a < nI o) ↔ a < o := nI_ltI (by omega) (by omega)
  have h3 : (nI a < nI o - nI s) ↔ ¬ o ≤ a + s := by
    by_cases q : s ≤ o
    · rw [nn_sub q, nI_ltI (by omega) (by omega)]
      omega
    · constructor
      · intro h
        have h4 := pk_sneg (a := o) (b := s) (by omega) (by omega)
        exact absurd (Int32.lt_trans h h4) (nI_pos (by omega))
      · intro h; omega
  simp only [h1, h2, h3]
  by_cases q : o ≤ a + s <;> simp [q]
theorem hour_Gd {e : Nat → Int32} {T P B s : Nat} (hg : Gd e T P B) (hB : B ≤ 20000) (hs : s ≤ 9) : Gd (hourS e T P (nI s)) T P (B + 1) := by
  have hg' := hg
  obtain ⟨⟨hT1, hT, hP, e2, e3⟩, hm, ⟨o, ho1, eo⟩, ⟨q, hq, e4⟩, htg, hpr⟩ := hg
  refine ⟨⟨hT1, hT, hP, by rw [hS_2]; exact e2, by rw [hS_3]; exact e3⟩, by rw [hS_0]; exact hm, ?_, ⟨q + 1, by omega, by rw [hS_4, e4]; exact nI_1 q⟩, fun t ht => ?_, fun p hp => ?_⟩
  · rw [hS_1]
    unfold nOut
    cases hm : mtl e (nI s) P with
    | none =>
      show ∃ o, o ≤ 99 ∧ (if nI s < e 1 then e 1 - nI s else 0) = nI o
      rw [eo, ite_lt (by omega) (by omega)]
      by_cases h : s < o
      · rw [if_pos h, nn_sub (by omega)]; exact ⟨o - s, by omega, rfl⟩
      · rw [if_neg h]; exact ⟨0, by omega, rfl⟩
    | some p =>
      obtain ⟨k, hk, ek⟩ := (hpr p (mtl_lt hm).1).1
      exact ⟨k + 1, by omega, by show pa e p + 1 = nI (k + 1); rw [ek]; exact nI_1 k⟩
  · obtain ⟨h1, h2, h3, ⟨f, hf, ef⟩, h5⟩ := htg t ht
    refine ⟨by rw [hS_kn e _ hT ht]; exact h1, by rw [hS_pl e _ hT ht]; exact h2, by rw [hS_rp e _ hT ht]; exact h3, ?_, ?_⟩
    · rw [hS_fr e _ hT ht]
      unfold nFr
      by_cases q1 : ho e t = 1
      · rw [if_pos q1]
        by_cases q2 : prt e (nI s) t = true
        · rw [if_pos q2]; exact ⟨0, by omega, rfl⟩
        · rw [if_neg q2]
          have q3 : fr1 e t < lim e t := by
            unfold prt at q2
            by_cases q4 : fr1 e t < lim e t
            · exact q4
            · simp [q4] at q2
          have q4 : ∃ f, fr1 e t = nI f ∧ f ≤ 6 := by
            unfold fr1
            by_cases q5 : rp e t < drw e t
            · rw [if_pos q5, ef]; exact ⟨f + 1, nI_1 f, by omega⟩
            · rw [if_neg q5, ef]; exact ⟨f, rfl, by omega⟩
          obtain ⟨g, eg, hg6⟩ := q4
          rw [eg] at q3 ⊢
          refine ⟨g, ?_, rfl⟩
          unfold lim at q3
          by_cases q5 : kn e t = 3
          · rw [if_pos q5] at q3
            have := (nI_ltI (a := g) (b := 6) (by omega) (by omega)).mp q3
            omega
          · rw [if_neg q5] at q3
            have := (nI_ltI (a := g) (b := 3) (by omega) (by omega)).mp q3
            omega
      · rw [if_neg q1]; exact ⟨f, hf, ef⟩
    · rw [hS_fr e _ hT ht, hS_ho e _ hT ht]
      unfold nFr nHo
      rcases h5 with ⟨z1, z2⟩ | z1
      · rw [if_neg (by rw [z1]; decide), if_neg (by rw [z1]; decide)]; exact Or.inl ⟨z1, z2⟩
      · rw [if_pos z1, if_pos z1]
        by_cases q2 : prt e (nI s) t = true
        · rw [if_pos q2, if_pos q2]; exact Or.inl ⟨rfl, rfl⟩
        · rw [if_neg q2, if_neg q2]; exact Or.inr rfl
  · obtain ⟨⟨a, ha, ea⟩, d, hd, ed⟩ := hpr p hp
    refine ⟨⟨a, ha, by rw [hS_pa e _ hT hp]; exact ea⟩, ?_⟩
    rw [hS_sd e _ hT hp]
    unfold nSd
    by_cases hm : mtl e (nI s) P = some p
    · rw [if_pos hm]
      have hon := (mtl_lt hm).2
      rw [onw_nat ho1 hs hd ha eo ea ed] at hon
      simp only [Bool.and_eq_true, decide_eq_true_eq] at hon
      have e5 : nI s - (e 1 - (pa e p + 1)) = nI (s - (o - (a + 1))) := by
        rw [eo, ea]
        rw [show nI a + 1 = nI (a + 1) from nI_1 a, nn_sub (by omega), nn_sub (by omega)]
      rw [e5, ed, ite_lt (by omega) (by omega)]
      by_cases h : s - (o - (a + 1)) < d
      · rw [if_pos h, nn_sub (by omega)]; exact ⟨d - (s - (o - (a + 1))), by omega, rfl⟩
      · rw [if_neg h]; exact ⟨0, by omega, rfl⟩
    · rw [if_neg hm]; exact ⟨d, hd, ed⟩
def encC : Option Nat → Int32
  | none => -1
  | some b => nI b
theorem xPier_L {e : Nat → Int32} {T P B : Nat} {h : AH} {r : Nat} {s : Int32} {k : Int32 → Int32 → AH → Option (Int32 × AH)} (hg : Gd e T P B) (he : EstC e T P h r) : ∀ m i f, i + m = P → m < f → fX2_pierOnTheWay_L4 r s f (nI i) (encC (mtl e s i)) h k = k (nI P) (encC (mtl e s P)) h := by
  have hP : P ≤ 4 := hg.1.2.2.1
  have hr := he.1
  have h1 : h r 1 = nI P := he.2.1.2.1
  have h3 : h r 3 = e 1 := he.2.1.2.2.2.1
  intro m
  induction m with
  | zero =>
    intro i f hi hf
    obtain ⟨g, rfl, -⟩ := fuel_s hf
    rw [fX2_pierOnTheWay_L4, h1, ite_lt (by omega) (by omega), if_neg (by omega), show i = P by omega]
  | succ m ih =>
    intro i f hi hf
    obtain ⟨g, rfl, hg2⟩ := fuel_s hf
    obtain ⟨d1, d2⟩ := he.2.2.2 i (by omega)
    rw [fX2_pierOnTheWay_L4, h1, ite_lt (by omega) (by omega), if_pos (by omega)]
    simp only [cE5 hr (show i < 4 by omega), cE6 hr (show i < 4 by omega), nI_clamp (show i < 2 ^ 31 by omega), d1, d2, h3, vl_d, nI_1, if_pos]
    have ih' := ih (i + 1) g (by omega) (by omega)
    by_cases q1 : 0 < sd e i
    · by_cases q2 : pa e i < e 1
      · by_cases q3 : pa e i < e 1 - s
        · rw [if_pos q1, if_pos q2, if_pos q3]
          rw [show mtl e s (i + 1) = mtl e s i by simp [mtl, onw, q3]] at ih'
          exact ih'
        · rw [if_pos q1, if_pos q2, if_neg q3, if_neg (by decide)]
          have hon : onw e s i = true := by simp [onw, q1, q2, q3]
          cases hm : mtl e s i with
          | none =>
            rw [if_pos (show encC none < 0 by decide)]
            rw [show mtl e s (i + 1) = some i by simp [mtl, hon, hm]] at ih'
            exact ih'
          | some b =>
            have hb := (mtl_lt hm).1
            rw [if_neg (show ¬ encC (some b) < 0 from nI_pos (by omega)), show encC (some b) = nI b from rfl, cE5 hr (by omega), nI_clamp (by omega), (he.2.2.2 b (by omega)).1]
            by_cases q4 : pa e b < pa e i
            · rw [if_pos q4]
              rw [show mtl e s (i + 1) = some i by simp [mtl, hon, hm, q4]] at ih'
              exact ih'
            · rw [if_neg q4]
              rw [show mtl e s (i + 1) = some b by simp [mtl, hon, hm, q4]] at ih'
              exact ih'
      · rw [if_pos q1, if_neg q2]
        rw [show mtl e s (i + 1) = mtl e s i by simp [mtl, onw, q2]] at ih'
        exact ih'
    · rw [if_neg q1]
      rw [show mtl e s (i + 1) = mtl e s i by simp [mtl, onw, q1]] at ih'
      exact ih'
theorem xPier {e : Nat → Int32} {T P B : Nat} {h : AH} {r : Nat} (s : Int32) (hg : Gd e T P B) (he : EstC e T P h r) : fX2_pierOnTheWay r s h = some (encC (mtl e s P), h) := by
  have hP : P ≤ 4 := hg.1.2.2.1
  unfold fX2_pierOnTheWay
  have := xPier_L (s := s) (k := fun _ z2 h3 => some (z2, h3)) hg he P 0 FU (by omega) (by have := FU_big; omega)
  rw [nI_0] at this
  exact this
