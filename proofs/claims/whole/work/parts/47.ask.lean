/-! How many, and the bodies that are asked. -/
def rt (h : AH) : Nat → Nat
  | 0 => 0
  | n + 1 => rt h n + (if h (2 + 2 * n) 1 = -1 then 0 else 1)
theorem xRows_L {h : AH} {k : Int32 → Int32 → AH → Option (Int32 × AH)} : ∀ m i f, i + m = 8 → m < f → fX5_rowsThere_L4 f (nI i) (nI (rt h i)) h k = k (nI 8) (nI (rt h 8)) h := by
  intro m
  induction m with
  | zero =>
    intro i f hi hf
    obtain ⟨g, rfl, -⟩ := fuel_s hf
    have : i = 8 := by omega
    subst this
    unfold fX5_rowsThere_L4
    rw [if_neg (show ¬ nI 8 < 8 from nI_nlt (b := 8) (Nat.le_refl 8) (by omega))]
  | succ m ih =>
    intro i f hi hf
    obtain ⟨g, rfl, hg⟩ := fuel_s hf
    unfold fX5_rowsThere_L4
    rw [if_pos (show nI i < 8 from nI_lt (b := 8) (by omega) (by omega)), c1_ (by omega), nI_clamp (by omega), show 1 + 1 + 2 * i = 2 + 2 * i from rfl]
    unfold fX3_missing
    have := ih (i + 1) g (by omega) (by omega)
    unfold rt at this
    by_cases q : h (2 + 2 * i) 1 = -1
    · rw [if_pos q]
      simp only [bnd_s, if1, vl_d, add0, nI_1]
      rw [if_pos q, Nat.add_zero] at this
      exact this
    · rw [if_neg q]
      simp only [bnd_s, ↓reduceIte, vl_d, nI_1]
      rw [if_neg q] at this
      exact this
theorem mRows_L {h : AH} {p : Int32} {k : Int32 → Int32 → AH → Option (Int32 × AH)} (ir : IR h) : ∀ m i f, i + m = 8 → m < f → fX6_count_L54 p f (nI i) (nI (rt h i)) h k = k (nI 8) (nI (rt h 8)) h := by
  intro m
  induction m with
  | zero =>
    intro i f hi hf
    obtain ⟨g, rfl, -⟩ := fuel_s hf
    have : i = 8 := by omega
    subst this
    unfold fX6_count_L54
    rw [if_neg (show ¬ nI 8 < 8 from nI_nlt (b := 8) (Nat.le_refl 8) (by omega))]
  | succ m ih =>
    intro i f hi hf
    obtain ⟨g, rfl, hg⟩ := fuel_s hf
    unfold fX6_count_L54
    rw [if_pos (show nI i < 8 from nI_lt (b := 8) (by omega) (by omega))]
    have := ih (i + 1) g (by omega) (by omega)
    unfold rt at this
    rcases missing ir (show i < 8 by omega) with ⟨q3, q4⟩ | ⟨l, m, hl, hm, p1, p2, p3, p4, p5, q3, q4⟩
    · rw [q4 h rfl]
      simp only [bnd_s, if1, vl_d, add0, nI_1]
      have q : h (2 + 2 * i) 1 = -1 := by
        unfold fX3_missing at q3
        by_cases z : h (2 + 2 * i) 1 = -1
        · exact z
        · rw [if_neg z] at q3; cases q3
      rw [if_pos q, Nat.add_zero] at this
      exact this
    · rw [q4 h rfl]
      simp only [bnd_s, ↓reduceIte, vl_d, nI_1]
      have q : ¬ h (2 + 2 * i) 1 = -1 := by
        unfold fX3_missing at q3
        intro z
        rw [if_pos z] at q3; cases q3
      rw [if_neg q] at this
      exact this
theorem both_count {h : AH} (i : Inv h) (a : Int32) : Both (fX5_count a h) (fX6_count a) := by
  unfold fX5_count fX6_count
  by_cases a0 : a = 0
  · refine Both.same (h := h) (v := nI (rt h 8)) i ?_ ?_
    · rw [if_pos a0]
      unfold fX5_rowsThere
      have := xRows_L (h := h) (k := fun z1 z2 h3 => some (z2, h3)) 8 0 FU (by omega) (by have := FU_big; omega)
      rw [show nI 0 = 0 from rfl, show nI (rt h 0) = 0 from rfl] at this
      rw [this]; rfl
    · rw [if_pos a0]
      have := mRows_L (h := h) (p := a) (k := fun z1 z2 h3 => some (z2, h3)) i.1 8 0 FU (by omega) (by have := FU_big; omega)
      rw [show nI 0 = 0 from rfl, show nI (rt h 0) = 0 from rfl] at this
      exact this
  simp only [if_neg a0, cW2 ln_284, cW3 ln_284, cW4 ln_284, cW0 ln_284, cW1 ln_284, cl_0, cl_1, cl_2, cl_3, cl_4]
  have nw : h 20 0 = h 284 2 ∧ h 20 1 = h 284 3 ∧ h 20 4 = h 284 4 ∧ h 20 2 = h 284 0 ∧ h 20 3 = h 284 1 ∧ fX6_holding 284 h = some (h 20 5, h) := by
    rcases i.2.2.2.1 with ⟨⟨z0, z1, z2, z3, z4, z5⟩, zj⟩ | ⟨T, P, hg, he⟩
    · refine ⟨by rw [z0, zj 2 (by omega)], by rw [z1, zj 3 (by omega)], by rw [z4, zj 4 (by omega)], by rw [z2, zj 0 (by omega)], by rw [z3, zj 1 (by omega)], ?_⟩
      rw [mHolding (T := 0) ln_284 (by omega) (zj 2 (by omega)) (fun t ht => by omega), z5]; rfl
    · obtain ⟨b0, b1, b2, b3, b4, -⟩ := he.2.1
      refine ⟨by rw [b0, hg.1.2.2.2.1], by rw [b1, hg.1.2.2.2.2], b4, b2, b3, ?_⟩
      rw [mHolding ln_284 hg.1.2.1 hg.1.2.2.2.1 hg.hold, he.hm hg.1.2.1]
  obtain ⟨w1, w2, w3, w4, w5, w6⟩ := nw
  by_cases a1 : a = 1
  · exact Both.same i (by rw [if_pos a1]) (by rw [if_pos a1, w1])
  simp only [if_neg a1]
  by_cases a2 : a = 2
  · exact Both.same i (by rw [if_pos a2]) (by rw [if_pos a2, w2])
  simp only [if_neg a2]
  by_cases a3 : a = 3
  · exact Both.same i (by rw [if_pos a3]) (by rw [if_pos a3, w3])
  simp only [if_neg a3]
  by_cases a4 : a = 4
  · exact Both.same i (by rw [if_pos a4]) (by rw [if_pos a4, w4])
  simp only [if_neg a4]
  by_cases a5 : a = 5
  · exact Both.same i (by rw [if_pos a5]) (by rw [if_pos a5, w5])
  simp only [if_neg a5]
  by_cases a6 : a = 6
  · exact Both.same i (by rw [if_pos a6]) (by rw [if_pos a6, w6]; rfl)
  simp only [if_neg a6]
  by_cases a7 : a = 7
  · obtain ⟨K, O, L, c, m⟩ := i.2.2.2.2.1
    exact Both.same i (by rw [if_pos a7]) (by rw [if_pos a7, m.1, c.2.2.1])
  simp only [if_neg a7]
  by_cases a8 : a = 8
  · obtain ⟨n, hn, e1, e2, -⟩ := i.2.1.1
    exact Both.same i (by rw [if_pos a8]) (by rw [if_pos a8, e1, e2])
  simp only [if_neg a8]
  exact Both.same i rfl rfl
/-! the bodies -/
def rowOf (f : Nat → Int32) (l : List Int32) : Nat → Int32 := fun j => l.getD j (f j)
theorem rowOf_s (f : Nat → Int32) (l : List Int32) (v : Int32) : upd (rowOf f l) l.length v = rowOf f (l ++ [v]) := by
  funext j
  unfold rowOf
  by_cases q : j = l.length
  · subst q; rw [upd_s]; simp
  · rw [upd_n _ _ q]
    by_cases q2 : j < l.length
    · simp [List.getD, List.getElem?_append, q2]
    · simp [List.getD, List.getElem?_append, q2, show ¬ j < l.length + 1 by omega, show j - l.length ≠ 0 by omega]
def tX (h : AH) (l : List Int32) : AH := hr (hr h 276 (upd (h 276) 1 (nI l.length))) 277 (rowOf (h 277) l)
def tM (h : AH) (l : List Int32) : AH := hr (hr h 278 (upd (h 278) 21 (nI l.length))) 290 (rowOf (h 290) l)
theorem upd_u (f : Nat → Int32) (j : Nat) (a b : Int32) : upd (upd f j a) j b = upd f j b := by
  funext i
  by_cases q : i = j
  · subst q; rw [upd_s, upd_s]
  · rw [upd_n _ _ q, upd_n _ _ q, upd_n _ _ q]
theorem hr_cm (h : AH) {a b : Nat} (f g : Nat → Int32) (q : a ≠ b) : hr (hr h a f) b g = hr (hr h b g) a f := by
  funext k
  unfold hr
  by_cases q1 : k = b
  · rw [if_pos q1, if_neg (by omega), if_pos q1]
  · rw [if_neg q1]
    by_cases q2 : k = a
    · rw [if_pos q2, if_pos q2]
    · rw [if_neg q2, if_neg q2, if_neg q1]
theorem xLeave (h : AH) (l : List Int32) (v : Int32) (hl : l.length < 16) : fX1_leave v (tX h l) = some ((), tX h (l ++ [v])) := by
  have e1 : tX h l 276 1 = nI l.length := by unfold tX; rw [hr_ne _ _ (by decide), hr_eq, upd_s]
  unfold fX1_leave
  rw [e1, if_pos (show nI l.length < 16 from nI_lt (b := 16) hl (by omega)), chk_p (by rw [ln_277]; exact inb_n hl (by decide)), nI_clamp (by omega), sto_d, sto_d, hs_q _ _ _ (by decide), e1, nI_1]
  unfold tX
  rw [hs_hr, rowOf_s, hs_d, hr_ne _ _ (by decide), hr_eq, hr_cm _ _ _ (show (277 : Nat) ≠ 276 by decide), hr_hr, upd_u]
  simp
theorem mBegins (h : AH) (l : List Int32) (v : Int32) (hl : l.length < 16) : fX6_begins v (tM h l) = some ((), tM h (l ++ [v])) := by
  have e1 : tM h l 278 21 = nI l.length := by unfold tM; rw [hr_ne _ _ (by decide), hr_eq, upd_s]
  unfold fX6_begins
  rw [e1, if_pos (show nI l.length < 16 from nI_lt (b := 16) hl (by omega)), chk_p (by rw [ln_290]; exact inb_n hl (by decide)), nI_clamp (by omega), sto_d, sto_d, hs_q _ _ _ (by decide), e1, nI_1]
  unfold tM
  rw [hs_hr, rowOf_s, hs_d, hr_ne _ _ (by decide), hr_eq, hr_cm _ _ _ (show (290 : Nat) ≠ 278 by decide), hr_hr, upd_u]
  simp
theorem tX_q (h : AH) (l : List Int32) {k : Nat} (h1 : k ≠ 276) (h2 : k ≠ 277) : tX h l k = h k := by unfold tX; rw [hr_ne _ _ h2, hr_ne _ _ h1]
theorem tM_q (h : AH) (l : List Int32) {k : Nat} (h1 : k ≠ 278) (h2 : k ≠ 290) : tM h l k = h k := by unfold tM; rw [hr_ne _ _ h2, hr_ne _ _ h1]
theorem b_go {n d : Nat} {a1 : Int32} {t : Int32} {h : AH} {l : List Int32} (hd : d ≤ 16) (hl : l.length < 16) : fX1_body (n + 1) a1 20 t (nI d) (tX h l) = (if a1 = (10 : Int32) then (chk (inb t (ln (20 + 2))) (some ((tX h (l ++ [a1]) (20 + 2) (Int32.toNatClampNeg t)), tX h (l ++ [a1])))) else (if a1 = (11 : Int32) then (bnd (fX1_body n (10 : Int32) 20 t (nI (d + 1)) (tX h (l ++ [a1]))) fun v5 h4 => (bnd (fX1_begin (fX1_body n) (1 : Int32) 20 t (nI (d + 1)) h4) fun v7 h6 => (some ((v5 + v7), h6)))) else (if a1 = (12 : Int32) then (bnd (fX1_body n (11 : Int32) 20 t (nI (d + 1)) (tX h (l ++ [a1]))) fun v10 h9 => (some ((-v10), h9))) else (if a1 = (13 : Int32) then (bnd (fX1_body n (10 : Int32) 20 t (nI (d + 1)) (tX h (l ++ [a1]))) fun v13 h12 => (some ((v13 - (100 : Int32)), h12))) else (if a1 = (14 : Int32) then (bnd (fX1_body n (13 : Int32) 20 t (nI (d + 1)) (tX h (l ++ [a1]))) fun v16 h15 => (some (((2 : Int32) * v16), h15))) else (if a1 = (15 : Int32) then (some ((0 : Int32), tX h (l ++ [a1]))) else (if a1 = (16 : Int32) then (some ((0 : Int32), tX h (l ++ [a1]))) else (if a1 = (17 : Int32) then (some ((0 : Int32), tX h (l ++ [a1]))) else (if a1 = (18 : Int32) then (some ((0 : Int32), tX h (l ++ [a1]))) else (if a1 = (19 : Int32) then (some ((0 : Int32), tX h (l ++ [a1]))) else (if a1 = (20 : Int32) then (some (t, tX h (l ++ [a1]))) else (if a1 = (21 : Int32) then (bnd (fX1_body n (20 : Int32) 20 t (nI (d + 1)) (tX h (l ++ [a1]))) fun v25 h24 => (chk (inb t (ln (20 + 4))) (some ((v25 + (h24 (20 + 4) (Int32.toNatClampNeg t))), h24)))) else (if a1 = (22 : Int32) then (bnd (fX1_body n (21 : Int32) 20 t (nI (d + 1)) (tX h (l ++ [a1]))) fun v28 h27 => (some ((v28 - (1000 : Int32)), h27))) else (if a1 = (23 : Int32) then (bnd (fX1_body n (20 : Int32) 20 t (nI (d + 1)) (tX h (l ++ [a1]))) fun v31 h30 => (bnd (fX1_begin (fX1_body n) (0 : Int32) 20 t (nI (d + 1)) h30) fun v33 h32 => (some ((v31 - v33), h32)))) else (if a1 = (24 : Int32) then (bnd (fX1_body n (21 : Int32) 20 t (nI (d + 1)) (tX h (l ++ [a1]))) fun v36 h35 => (some (((2 : Int32) * v36), h35))) else (some ((0 : Int32), tX h (l ++ [a1])))))))))))))))))) := by
  rw [fX1_body, if_neg (show ¬ (16 : Int32) < nI d from nI_nlt (a := 16) hd (by omega)), xLeave h l a1 hl]
  simp only [bnd_s, vl_d, nI_1]
