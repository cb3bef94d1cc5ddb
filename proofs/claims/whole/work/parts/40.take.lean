/-! Taking over, copying. -/
theorem Gd_hour {e : Nat → Int32} {T P B : Nat} (fog : Int32) (hg : Gd e T P B) (hB : B ≤ 20000) : Gd (hourR e T P fog) T P (B + 1) := by
  obtain ⟨s, h9, es⟩ := spF_nat hg hB fog
  unfold hourR
  rw [es]
  exact hour_Gd hg hB h9
theorem Gd.eq {e e' : Nat → Int32} {T P B : Nat} (hg : Gd e T P B) (h : ∀ j, j < 43 → e' j = e j) : Gd e' T P B := by
  obtain ⟨⟨a1, a2, a3, a4, a5⟩, b, c, d, f, g⟩ := hg
  refine ⟨⟨a1, a2, a3, by rw [h 2 (by omega)]; exact a4, by rw [h 3 (by omega)]; exact a5⟩, by rw [h 0 (by omega)]; exact b, by rw [h 1 (by omega)]; exact c, by rw [h 4 (by omega)]; exact d, fun t ht => ?_, fun p hp => ?_⟩
  · have := f t ht
    simp only [kn, pl, rp, fr, ho] at this ⊢
    rw [h (5 + 5 * t) (by omega), h (6 + 5 * t) (by omega), h (7 + 5 * t) (by omega), h (8 + 5 * t) (by omega), h (9 + 5 * t) (by omega)]
    exact this
  · have := g p hp
    simp only [pa, sd] at this ⊢
    rw [h (35 + 2 * p) (by omega), h (36 + 2 * p) (by omega)]
    exact this
theorem Gd.le {e : Nat → Int32} {T P B B' : Nat} (hg : Gd e T P B) (h : B ≤ B') : Gd e T P B' := by
  obtain ⟨a, b, c, ⟨q, hq, e4⟩, f⟩ := hg
  exact ⟨a, b, c, ⟨q, by omega, e4⟩, f⟩
theorem EstC.eq {e e' : Nat → Int32} {T P : Nat} {h : AH} {r : Nat} (he : EstC e T P h r) (hT : T ≤ 6) (hP : P ≤ 4) (q : ∀ j, j < 43 → e' j = e j) : EstC e' T P h r :=
  he.to (q 0 (by omega)) (q 1 (by omega)) (q 4 (by omega)) (fun t ht => ⟨q (5 + 5 * t) (by omega), q (6 + 5 * t) (by omega), q (7 + 5 * t) (by omega), q (8 + 5 * t) (by omega), q (9 + 5 * t) (by omega)⟩) (fun p hp => ⟨q (35 + 2 * p) (by omega), q (36 + 2 * p) (by omega)⟩)
/-- an estuary lies in its seven rows -/
theorem EstC.fm {e : Nat → Int32} {T P : Nat} {h h' : AH} {r : Nat} (he : EstC e T P h r) (q : ∀ k, r ≤ k → k ≤ r + 6 → h' k = h k) : EstC e T P h' r := by
  obtain ⟨a, b, c, d⟩ := he
  refine ⟨a, ?_, fun t ht => ?_, fun p hp => ?_⟩
  · rw [q r (by omega) (by omega)]; exact b
  · rw [q (r + 1) (by omega) (by omega), q (r + 2) (by omega) (by omega), q (r + 3) (by omega) (by omega), q (r + 4) (by omega) (by omega)]; exact c t ht
  · rw [q (r + 5) (by omega) (by omega), q (r + 6) (by omega) (by omega)]; exact d p hp
theorem ctk6 {x y : Nat} {α : Type} {o : Option α} (h1 : ln x = 6) (h2 : ln y = 6) : chk (¬ (0 : Int32) < 0 ∧ ¬ (0 : Int32) < 0 ∧ ¬ (6 : Int32) < 0 ∧ Int32.toNatClampNeg (0 : Int32) + Int32.toNatClampNeg (6 : Int32) ≤ ln x ∧ Int32.toNatClampNeg (0 : Int32) + Int32.toNatClampNeg (6 : Int32) ≤ ln y) o = o := chk_p ⟨by decide, by decide, by decide, by rw [h1]; decide, by rw [h2]; decide⟩
theorem ctk4 {x y : Nat} {α : Type} {o : Option α} (h1 : ln x = 4) (h2 : ln y = 4) : chk (¬ (0 : Int32) < 0 ∧ ¬ (0 : Int32) < 0 ∧ ¬ (4 : Int32) < 0 ∧ Int32.toNatClampNeg (0 : Int32) + Int32.toNatClampNeg (4 : Int32) ≤ ln x ∧ Int32.toNatClampNeg (0 : Int32) + Int32.toNatClampNeg (4 : Int32) ≤ ln y) o = o := chk_p ⟨by decide, by decide, by decide, by rw [h1]; decide, by rw [h2]; decide⟩
theorem cl_6 : Int32.toNatClampNeg (6 : Int32) = 6 := by decide
theorem cpy_at {f g : Nat → Int32} {n j : Nat} (h : j < n) : va_cpy f g 0 0 n j = f j := by
  unfold va_cpy
  rw [if_pos ⟨by omega, by omega⟩]
  congr 1
  omega
theorem xTake {e : Nat → Int32} {T P : Nat} {h : AH} {r a : Nat} (he : EstC e T P h a) (hT : T ≤ 6) (hP : P ≤ 4) (hr2 : kd r = 2) (hd : r + 6 < a ∨ a + 6 < r) : ∃ h', fX2_take r a h = some ((), h') ∧ EstC e T P h' r ∧ Fm r h h' := by
  have ha := he.1
  unfold fX2_take
  simp only [sto_d, ctk6 (lnE_1 ha) (lnE_1 hr2), ctk6 (lnE_2 ha) (lnE_2 hr2), ctk6 (lnE_3 ha) (lnE_3 hr2), ctk6 (lnE_4 ha) (lnE_4 hr2), ctk4 (lnE_5 ha) (lnE_5 hr2), ctk4 (lnE_6 ha) (lnE_6 hr2)]
  simp only [cl_0, cl_6, cl_4]
  refine ⟨_, rfl, ⟨hr2, ?_, fun t ht => ?_, fun p hp => ?_⟩, fun q hq => ?_⟩
  · simp (disch := omega) only [hs_q, hr_ne, hs_k, hr_eq, upd_n, upd_s]
    exact he.2.1
  · simp (disch := omega) only [hs_q, hr_ne, hs_k, hr_eq, upd_n, upd_s, cpy_at]
    exact he.2.2.1 t ht
  · simp (disch := omega) only [hs_q, hr_ne, hs_k, hr_eq, upd_n, upd_s, cpy_at]
    exact he.2.2.2 p hp
  · simp (disch := omega) only [hs_q, hr_ne]
/-- the reference's copying of forty-three numbers -/
def cpR (f g : Nat → Int32) (a b n : Nat) : Nat → Int32 := fun j => if b ≤ j ∧ j < b + n then f (a + (j - b)) else g j
theorem cpR_in {f g : Nat → Int32} {a b n j : Nat} (h : j < n) : cpR f g a b n (b + j) = f (a + j) := by
  unfold cpR
  rw [if_pos ⟨by omega, by omega⟩, Nat.add_sub_cancel_left]
theorem cpR_out {f g : Nat → Int32} {a b n j : Nat} (h : j < b ∨ b + n ≤ j) : cpR f g a b n j = g j := by
  unfold cpR
  rw [if_neg (by omega)]
theorem cpR_0 {f g : Nat → Int32} {a b : Nat} : cpR f g a b 0 = g := by
  funext j
  exact cpR_out (by omega)
theorem cpR_s {f g : Nat → Int32} {a b n : Nat} : upd (cpR f g a b n) (b + n) (f (a + n)) = cpR f g a b (n + 1) := by
  funext j
  by_cases h : j = b + n
  · subst h; rw [upd_s, cpR_in (by omega)]
  · rw [upd_n _ _ h]
    unfold cpR
    by_cases h2 : b ≤ j ∧ j < b + n
    · rw [if_pos h2, if_pos (by omega)]
    · rw [if_neg h2, if_neg (by omega)]
theorem mCopies_L {s d a b : Nat} {h : AH} {k : Int32 → AH → Option (Unit × AH)} (hne : s ≠ d) (ha : a + 43 ≤ ln s) (hb : b + 43 ≤ ln d) (ls : ln s < 2 ^ 31) (ld : ln d < 2 ^ 31) : ∀ m i f, i + m = 43 → m < f → fX6_copies_L3 s (nI a) d (nI b) f (nI i) (hr h d (cpR (h s) (h d) a b i)) k = k (nI 43) (hr h d (cpR (h s) (h d) a b 43)) := by
  intro m
  induction m with
  | zero =>
    intro i f hi hf
    obtain ⟨g, rfl, -⟩ := fuel_s hf
    have : i = 43 := by omega
    subst this
    unfold fX6_copies_L3
    rw [if_neg (show ¬ nI 43 < 43 from nI_nlt (b := 43) (Nat.le_refl 43) (by omega))]
  | succ m ih =>
    intro i f hi hf
    obtain ⟨g, rfl, hg⟩ := fuel_s hf
    unfold fX6_copies_L3
    rw [if_pos (show nI i < 43 from nI_lt (b := 43) (by omega) (by omega)), nI_add, nI_add, chk_p (inb_n (by omega) ls), chk_p (inb_n (by omega) ld), nI_clamp (by omega), nI_clamp (by omega), sto_d, vl_d, nI_1, hs_hr, hr_ne _ _ hne, cpR_s]
    exact ih (i + 1) g (by omega) (by omega)
theorem mCopies {s d a b : Nat} {h : AH} (hne : s ≠ d) (ha : a + 43 ≤ ln s) (hb : b + 43 ≤ ln d) (ls : ln s < 2 ^ 31) (ld : ln d < 2 ^ 31) : fX6_copies s (nI a) d (nI b) h = some ((), hr h d (cpR (h s) (h d) a b 43)) := by
  unfold fX6_copies
  have := mCopies_L (h := h) (k := fun _ h2 => some ((), h2)) hne ha hb ls ld 43 0 FU (by omega) (by have := FU_big; omega)
  rw [nI_0, cpR_0, hr_self] at this
  exact this
/-- the row of the tries after the copying of now -/
theorem mTry (h : AH) : ∃ e, fX6_copies 284 (0 : Int32) 286 (0 : Int32) h = some ((), hr h 286 e) ∧ ∀ j, j < 43 → e j = h 284 j := by
  refine ⟨_, mCopies (a := 0) (b := 0) (by decide) (by rw [ln_284]; decide) (by rw [ln_286]; decide) (by rw [ln_284]; decide) (by rw [ln_286]; decide), fun j hj => ?_⟩
  have := cpR_in (f := h 284) (g := h 286) (a := 0) (b := 0) hj
  rw [Nat.zero_add] at this
  exact this
