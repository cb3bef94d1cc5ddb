/-! The reference's tokens. -/
def MB (h : AH) (n : Nat) (bb : Nat → Nat) : Prop := n ≤ 90 ∧ h 278 6 = nI n ∧ ∀ i, i < n → bb i ≤ 255 ∧ h 283 i = nI (bb i)
def tkF (n : Nat) (bb : Nat → Nat) (p : Nat) : Int32 := if isd n bb p then (if isd n bb (p + 1) && isd n bb (p + 2) then 5 else 2) else if p < n then (if 97 ≤ bb p ∧ bb p ≤ 122 then 1 else if bb p = 44 then 3 else if bb p = 59 then 4 else 5) else 0
def MT (h : AH) (n : Nat) (bb : Nat → Nat) (p : Nat) : Prop := MB h n bb ∧ p ≤ n ∧ h 278 10 = nI p ∧ h 278 11 = tkF n bb p ∧
  (isd n bb p = false → p < n → h 278 12 = nI (bb p) ∧ h 278 9 = nI (p + 1)) ∧
  (isd n bb p = true → isd n bb (p + 1) = false → h 278 12 = nI (bb p - 48) ∧ h 278 9 = nI (p + 1)) ∧
  (isd n bb p = true → isd n bb (p + 1) = true → isd n bb (p + 2) = false → h 278 12 = nI (10 * (bb p - 48) + (bb (p + 1) - 48)) ∧ h 278 9 = nI (p + 2))
/-- only the place and the token have changed -/
def Tf (h h' : AH) : Prop := (∀ k, k ≠ 278 → h' k = h k) ∧ ∀ j, (j < 9 ∨ 12 < j) → h' 278 j = h 278 j
theorem Tf.rf (h : AH) : Tf h h := ⟨fun _ _ => rfl, fun _ _ => rfl⟩
theorem Tf.tr {h h1 h2 : AH} (a : Tf h h1) (b : Tf h1 h2) : Tf h h2 := ⟨fun k hk => (b.1 k hk).trans (a.1 k hk), fun j hj => (b.2 j hj).trans (a.2 j hj)⟩
theorem Tf.hs (h : AH) {j : Nat} (v : Int32) (hj : 9 ≤ j ∧ j ≤ 12) : Tf h (hs h 278 j v) := ⟨fun k hk => hs_q _ _ _ hk, fun i hi => hs_ki _ _ _ (by omega)⟩
theorem MB.to {h h' : AH} {n : Nat} {bb : Nat → Nat} (b : MB h n bb) (q1 : h' 278 6 = h 278 6) (q2 : h' 283 = h 283) : MB h' n bb := by
  unfold MB
  rw [q1, q2]
  exact b
theorem MB.tf {h h' : AH} {n : Nat} {bb : Nat → Nat} (b : MB h n bb) (t : Tf h h') : MB h' n bb := b.to (t.2 6 (by omega)) (t.1 283 (by omega))
theorem mByte {h : AH} {n q : Nat} {bb : Nat → Nat} (c : MB h n bb) (hq : q < 2 ^ 30) : fX6_byteAt (nI q) h = some (btI n bb q, h) := by
  obtain ⟨h1, h3, h5⟩ := c
  unfold fX6_byteAt btI
  rw [h3]
  by_cases z : q < n
  · rw [if_pos (nI_lt z (by omega)), if_pos z, chk_p (by rw [ln_283]; exact inb_n (by omega) (by decide)), nI_clamp (by omega), (h5 q z).2]
  · rw [if_neg (nI_nlt (by omega) (by omega)), if_neg z]
theorem mFig {n p : Nat} {bb : Nat → Nat} (hb : ∀ i, i < n → bb i ≤ 255) (h : AH) : fX6_in (btI n bb p) 48 57 h = some ((if isd n bb p then 1 else 0), h) := by
  have := fig_d (p := p) hb h
  unfold fX4_isFigure at this
  unfold fX6_in
  exact this
theorem adv_step {h : AH} {n p q : Nat} {bb : Nat → Nat} {v3 : Int32} {f : Nat} {k : AH → Option (Unit × AH)} (b : MB h n bb) (e9 : h 278 9 = nI q) (e10 : h 278 10 = nI p) (hpq : p ≤ q) (hq : q < 2 ^ 20) (hd : isd n bb q = true) : fX6_advances_L38 v3 (f + 1) h k = fX6_advances_L38 v3 f (hs (hs h 278 12 (if q < p + 2 then 10 * h 278 12 + nI (bb q) - 48 else h 278 12)) 278 9 (nI (q + 1))) k := by
  have bt : btI n bb q = nI (bb q) := by unfold btI; rw [if_pos (isd_lt hd).1]
  rw [fX6_advances_L38, e9, mByte b (by omega), bnd_e, mFig (fun i hi => (b.2.2 i hi).1), bnd_e, if_pos hd, if1, e9, e10, pk_sub hpq, mByte b (by omega), bnd_e]
  by_cases z : q < p + 2
  · rw [if_pos (show nI (q - p) < 2 from nI_lt (b := 2) (by omega) (by omega)), if_pos z, sto_e, sto_e, hs_ki _ _ _ (show (9 : Nat) ≠ 12 by decide), e9, nI_1, bt]
  · rw [if_neg (show ¬ nI (q - p) < 2 from nI_nlt (b := 2) (by omega) (by omega)), if_neg z, sto_e, sto_e, hs_ki _ _ _ (show (9 : Nat) ≠ 12 by decide), e9, nI_1]
theorem adv_stop {h : AH} {n q : Nat} {bb : Nat → Nat} {v3 : Int32} {f : Nat} {k : AH → Option (Unit × AH)} (b : MB h n bb) (e9 : h 278 9 = nI q) (hq : q < 2 ^ 20) (hd : isd n bb q = false) : fX6_advances_L38 v3 (f + 1) h k = k h := by
  rw [fX6_advances_L38, e9, mByte b (by omega), bnd_e, mFig (fun i hi => (b.2.2 i hi).1), bnd_e, hd, if_neg (show ¬ (false = true) by decide), if0]
theorem adv_tail {n p : Nat} {bb : Nat → Nat} {v3 : Int32} {k : AH → Option (Unit × AH)} : ∀ m q f h, n ≤ q + m → m < f → MB h n bb → h 278 9 = nI q → h 278 10 = nI p → p + 2 ≤ q → q ≤ 100 → ∃ h' q', fX6_advances_L38 v3 f h k = k h' ∧ q ≤ q' ∧ q' < 2 ^ 20 ∧ h' 278 9 = nI q' ∧ h' 278 10 = nI p ∧ Tf h h' := by
  intro m
  induction m with
  | zero =>
    intro q f h hm hf b e9 e10 hp hq
    obtain ⟨g, rfl, -⟩ := fuel_s hf
    have hd : isd n bb q = false := by
      cases z : isd n bb q with
      | false => rfl
      | true => have := isd_lt z; omega
    rw [adv_stop b e9 (by omega) hd]
    exact ⟨h, q, rfl, by omega, by omega, e9, e10, Tf.rf _⟩
  | succ m ih =>
    intro q f h hm hf b e9 e10 hp hq
    obtain ⟨g, rfl, hg⟩ := fuel_s hf
    cases hd : isd n bb q with
    | false =>
      rw [adv_stop b e9 (by omega) hd]
      exact ⟨h, q, rfl, by omega, by omega, e9, e10, Tf.rf _⟩
    | true =>
      have hn := b.1
      have := isd_lt hd
      rw [adv_step b e9 e10 (by omega) (by omega) hd, if_neg (by omega)]
      have tf : Tf h (hs (hs h 278 12 (h 278 12)) 278 9 (nI (q + 1))) := (Tf.hs h _ (by omega)).tr (Tf.hs _ _ (by omega))
      obtain ⟨h', q', r1, r2, r3, r4, r5, r6⟩ := ih (q + 1) g _ (by omega) (by omega) (b.tf tf) (hs_kj _ _ _ _) (by rw [hs_ki _ _ _ (by decide), hs_ki _ _ _ (by decide)]; exact e10) (by omega) (by omega)
      exact ⟨h', q', r1, by omega, r3, r4, r5, tf.tr r6⟩
theorem ofl : ∀ b, b ≤ 255 → ((nI b < 97 ∨ 122 < nI b) ↔ ¬ (97 ≤ b ∧ b ≤ 122)) ∧ (nI b = 44 ↔ b = 44) ∧ (nI b = 59 ↔ b = 59) := by
  intro b hb
  refine ⟨⟨fun z w => ?_, fun z => ?_⟩, nI_eq (b := 44) (by omega) (by omega), nI_eq (b := 59) (by omega) (by omega)⟩
  · rcases z with z | z
    · exact nI_nlt (b := 97) (by omega) (by omega) z
    · exact nI_nlt (a := 122) (by omega) (by omega) z
  · by_cases q : b < 97
    · exact Or.inl (nI_lt (b := 97) q (by omega))
    · exact Or.inr (nI_lt (a := 122) (by omega) (by omega))
