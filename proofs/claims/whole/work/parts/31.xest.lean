/-! The class's estuary. -/
theorem lt_lit {a b : Nat} (ha : a < 2 ^ 31) (hb : b < 2 ^ 31) : (nI a < nI b) = (a < b) := propext (nI_ltI ha hb)
theorem eq_lit {a b : Nat} (ha : a < 2 ^ 31) (hb : b < 2 ^ 31) : (nI a = nI b) = (a = b) := propext (nI_eq ha hb)
theorem ite_lt {α : Type} {a b : Nat} {x y : α} (ha : a < 2 ^ 31) (hb : b < 2 ^ 31) : (if nI a < nI b then x else y) = if a < b then x else y := by
  by_cases h : a < b
  · rw [if_pos h, if_pos (nI_lt h hb)]
  · rw [if_neg h, if_neg (nI_nlt (by omega) ha)]
theorem ite_eq {α : Type} {a b : Nat} {x y : α} (ha : a < 2 ^ 31) (hb : b < 2 ^ 31) : (if nI a = nI b then x else y) = if a = b then x else y := by
  by_cases h : a = b
  · rw [if_pos h, if_pos (by rw [h])]
  · rw [if_neg h, if_neg (fun q => h ((nI_eq ha hb).mp q))]
theorem min5 {q : Nat} (hq : q ≤ 20000) : (if nI q / (4 : Int32) < (5 : Int32) then nI q / (4 : Int32) else (5 : Int32)) = if (20 : Int32) < nI q then (5 : Int32) else nI q / (4 : Int32) := by
  have e4 : nI q / (4 : Int32) = nI (q / 4) := pk_div (d := 4) (by omega) (by omega) (by omega)
  rw [e4]
  show (if nI (q / 4) < nI 5 then nI (q / 4) else nI 5) = if nI 20 < nI q then nI 5 else nI (q / 4)
  rw [ite_lt (by omega) (by omega), ite_lt (by omega) (by omega)]
  by_cases h1 : 20 < q
  · by_cases h2 : q / 4 < 5
    · omega
    · rw [if_neg h2, if_pos h1]
  · by_cases h2 : q / 4 < 5
    · rw [if_pos h2, if_neg h1]
    · rw [if_neg h2, if_neg h1, show q / 4 = 5 by omega]
theorem kn_cases {x : Int32} (h : ∃ k, 1 ≤ k ∧ k ≤ 5 ∧ x = nI k) : x = 1 ∨ x = 2 ∨ x = 3 ∨ x = 4 ∨ x = 5 := by
  obtain ⟨k, h1, h2, rfl⟩ := h
  rcases (show k = 1 ∨ k = 2 ∨ k = 3 ∨ k = 4 ∨ k = 5 by omega) with e | e | e | e | e <;> subst e
  · exact Or.inl rfl
  · exact Or.inr (Or.inl rfl)
  · exact Or.inr (Or.inr (Or.inl rfl))
  · exact Or.inr (Or.inr (Or.inr (Or.inl rfl)))
  · exact Or.inr (Or.inr (Or.inr (Or.inr rfl)))
theorem cE1 {r t : Nat} {α : Type} {o : Option α} (hr : kd r = 2) (ht : t < 6) : chk (inb (nI t) (ln (r + 1))) o = o := chk_p (by rw [lnE_1 hr]; exact inb_n ht (by decide))
theorem cE2 {r t : Nat} {α : Type} {o : Option α} (hr : kd r = 2) (ht : t < 6) : chk (inb (nI t) (ln (r + 2))) o = o := chk_p (by rw [lnE_2 hr]; exact inb_n ht (by decide))
theorem cE3 {r t : Nat} {α : Type} {o : Option α} (hr : kd r = 2) (ht : t < 6) : chk (inb (nI t) (ln (r + 3))) o = o := chk_p (by rw [lnE_3 hr]; exact inb_n ht (by decide))
theorem cE4 {r t : Nat} {α : Type} {o : Option α} (hr : kd r = 2) (ht : t < 6) : chk (inb (nI t) (ln (r + 4))) o = o := chk_p (by rw [lnE_4 hr]; exact inb_n ht (by decide))
theorem cE5 {r t : Nat} {α : Type} {o : Option α} (hr : kd r = 2) (ht : t < 4) : chk (inb (nI t) (ln (r + 5))) o = o := chk_p (by rw [lnE_5 hr]; exact inb_n ht (by decide))
theorem cE6 {r t : Nat} {α : Type} {o : Option α} (hr : kd r = 2) (ht : t < 4) : chk (inb (nI t) (ln (r + 6))) o = o := chk_p (by rw [lnE_6 hr]; exact inb_n ht (by decide))
theorem xDraw {e : Nat → Int32} {T P B : Nat} {h : AH} {r t : Nat} (hg : Gd e T P B) (hB : B ≤ 20000) (he : EstC e T P h r) (ht : t < T) : fX2_drawOf r (nI t) h = some (drw e t, h) := by
  obtain ⟨⟨hT1, hT, hP, -, -⟩, -, -, ⟨q, hq, e4⟩, htg, -⟩ := hg
  have hr := he.1
  obtain ⟨f1, f2, f3, f4⟩ := he.2.2.1 t ht
  have h4 : h r 4 = e 4 := he.2.1.2.2.2.2.1
  have ht6 : t < 6 := by omega
  unfold fX2_drawOf
  rw [xHolds he hT ht]
  simp only [bnd]
  rcases (htg t ht).2.2.2.2 with ⟨h0, -⟩ | h1
  · rw [if_neg (show ¬ ho e t = 1 by rw [h0]; decide), if_pos rfl]
    simp [drw, h0]
  · rw [if_pos h1, if_neg (by decide), cE1 hr ht6]
    simp only [cE2 hr ht6, nI_clamp (show t < 2 ^ 31 by omega), f1, f2, h4, chk_p ne_2, chk_p ne_3, chk_p ne_4]
    have hn0 : ¬ ho e t = 0 := by rw [h1]; decide
    unfold drw
    rw [if_neg hn0]
    rcases kn_cases (htg t ht).1 with k | k | k | k | k <;> rw [k]
    · simp
    · simp only [if_neg (show ¬ (2 : Int32) = 1 by decide), if_pos]
      split <;> rfl
    · simp only [if_neg (show ¬ (3 : Int32) = 1 by decide), if_neg (show ¬ (3 : Int32) = 2 by decide), if_pos]
      rw [e4, min5 (show q ≤ 20000 by omega)]
      split <;> rfl
    · simp only [if_neg (show ¬ (4 : Int32) = 1 by decide), if_neg (show ¬ (4 : Int32) = 2 by decide), if_neg (show ¬ (4 : Int32) = 3 by decide), if_pos]
      split <;> rfl
    · simp only [if_neg (show ¬ (5 : Int32) = 1 by decide), if_neg (show ¬ (5 : Int32) = 2 by decide), if_neg (show ¬ (5 : Int32) = 3 by decide), if_neg (show ¬ (5 : Int32) = 4 by decide), if_pos]
      split <;> rfl
theorem xForce_L {e : Nat → Int32} {T P B : Nat} {h : AH} {r : Nat} {k : Int32 → Int32 → AH → Option (Int32 × AH)} (hg : Gd e T P B) (hB : B ≤ 20000) (he : EstC e T P h r) : ∀ m i f, i + m = T → m < f → fX2_force_L4 r f (nI i) (sumD e i) h k = k (nI T) (sumD e T) h := by
  have hT : T ≤ 6 := hg.1.2.1
  have h0 : h r 0 = nI T := he.2.1.1
  intro m
  induction m with
  | zero =>
    intro i f hi hf
    obtain ⟨g, rfl, -⟩ := fuel_s hf
    rw [fX2_force_L4, h0, ite_lt (by omega) (by omega), if_neg (by omega), show i = T by omega]
  | succ m ih =>
    intro i f hi hf
    obtain ⟨g, rfl, hg2⟩ := fuel_s hf
    rw [fX2_force_L4, h0, ite_lt (by omega) (by omega), if_pos (by omega), xDraw hg hB he (by omega)]
    simp only [bnd, vl_d, nI_1]
    exact ih (i + 1) g (by omega) (by omega)
theorem xForce {e : Nat → Int32} {T P B : Nat} {h : AH} {r : Nat} (hg : Gd e T P B) (hB : B ≤ 20000) (he : EstC e T P h r) : fX2_force r h = some (sumD e T, h) := by
  have hT : T ≤ 6 := hg.1.2.1
  unfold fX2_force
  have := xForce_L (k := fun _ z2 h3 => some (z2, h3)) hg hB he T 0 FU (by omega) (by have := FU_big; omega)
  rw [nI_0] at this
  exact this
/-! speed -/
def spd (e : Nat → Int32) (f : Int32) : Int32 := if e 1 = 0 then 0 else if 9 < 4 * f / e 0 then 9 else 4 * f / e 0
theorem min9 (x : Int32) : (if x < (9 : Int32) then x else (9 : Int32)) = if (9 : Int32) < x then (9 : Int32) else x := by
  by_cases h1 : x < 9
  · rw [if_pos h1, if_neg (fun q => absurd (Int32.lt_trans h1 q) (Int32.lt_irrefl))]
  · rw [if_neg h1]
    by_cases h2 : 9 < x
    · rw [if_pos h2]
    · rw [if_neg h2]
      exact Int32.le_antisymm (Int32.not_lt.mp h1) (Int32.not_lt.mp h2)
theorem xSpeed {e : Nat → Int32} {T P B : Nat} {h : AH} {r : Nat} (f : Int32) (hg : Gd e T P B) (hB : B ≤ 20000) (he : EstC e T P h r) : fX2_speedBy r f h = some (spd e f, h) := by
  obtain ⟨-, ⟨m, hm1, hm2, e0⟩, -⟩ := hg
  have h2 : h r 2 = e 0 := he.2.1.2.2.1
  have h3 : h r 3 = e 1 := he.2.1.2.2.2.1
  have hlt : ¬ e 0 < (1 : Int32) := by
    rw [e0]
    exact nI_nlt (a := m) (b := 1) (by omega) (by omega)
  have hne : ¬ e 0 = 0 := by
    rw [e0]
    exact nI_ne0 (by omega) (by omega)
  unfold fX2_speedBy spd
  rw [h2, h3, if_neg hlt, chk_p hne, min9]
  by_cases q : e 1 = 0
  · rw [if_pos q, if_pos q]
  · rw [if_neg q, if_neg q]
