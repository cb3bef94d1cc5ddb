/-! The fewest piers. -/
def clR (e : Nat → Int32) (x : Nat) : Nat → Nat → Int32
  | 0 => e
  | i + 1 => if x.testBit i then upd (clR e x i) (36 + 2 * i) 0 else clR e x i
theorem clR_hi (e : Nat → Int32) (x : Nat) : ∀ i j, (j < 36 ∨ 36 + 2 * i ≤ j) → clR e x i j = e j := by
  intro i
  induction i with
  | zero => intro j _; rfl
  | succ i ih =>
    intro j hj
    unfold clR
    split
    · rw [upd_n _ _ (by omega)]
      exact ih j (by omega)
    · exact ih j (by omega)
theorem Gd_clR {e : Nat → Int32} {T P B x : Nat} (hg : Gd e T P B) : ∀ i, i ≤ P → Gd (clR e x i) T P B := by
  intro i
  induction i with
  | zero => intro _; exact hg
  | succ i ih =>
    intro hi
    unfold clR
    split
    · exact Gd_std (v := 0) (ih (by omega)) (by omega) (by omega)
    · exact ih (by omega)
theorem xClear_L {T P x r : Nat} {p2 : Int32} {e : Nat → Int32} {k : Int32 → AH → Option (Int32 × AH)} (hT : T ≤ 6) (hP : P ≤ 4) (hx : x < 64) : ∀ m i f h, i + m = P → m < f → EstC (clR e x i) T P h r → ∃ h', fX5_inByCleared_L8 r (nI x) p2 f (nI i) h k = k (nI P) h' ∧ EstC (clR e x P) T P h' r ∧ Fm r h h' := by
  intro m
  induction m with
  | zero =>
    intro i f h hi hf a
    obtain ⟨g, rfl, -⟩ := fuel_s hf
    have : i = P := by omega
    subst this
    unfold fX5_inByCleared_L8
    rw [a.2.1.2.1, if_neg (nI_nlt (Nat.le_refl i) (by omega))]
    exact ⟨h, rfl, a, Fm.rf _ _⟩
  | succ m ih =>
    intro i f h hi hf a
    obtain ⟨g, rfl, hf'⟩ := fuel_s hf
    unfold fX5_inByCleared_L8
    rw [a.2.1.2.1, if_pos (nI_lt (by omega) (by omega)), bitS hx (by omega)]
    by_cases z : x.testBit i = true
    · rw [if_pos z, if_pos rfl, cE6 a.1 (by omega), nI_clamp (by omega), sto_e, vl_e, nI_1]
      have a1 := a.stdS hT (show i < P by omega) 0
      have a2 : EstC (clR e x (i + 1)) T P (hs h (r + 6) i 0) r := by
        show EstC (if x.testBit i then upd (clR e x i) (36 + 2 * i) 0 else clR e x i) T P _ r
        rw [if_pos z]; exact a1
      obtain ⟨h', r1, r2, r3⟩ := ih (i + 1) g _ (by omega) (by omega) a2
      exact ⟨h', r1, r2, (Fm.hs r h i _ (by omega)).tr r3⟩
    · rw [if_neg z, if_neg (by decide), vl_e, nI_1]
      have a2 : EstC (clR e x (i + 1)) T P h r := by
        show EstC (if x.testBit i then upd (clR e x i) (36 + 2 * i) 0 else clR e x i) T P h r
        rw [if_neg z]; exact a
      exact ih (i + 1) g h (by omega) (by omega) a2
theorem xByClear {T P x n : Nat} {e : Nat → Int32} {h : AH} (hg : Gd e T P 9999) (hx : x < 64) (hn : n ≤ 30) (he : EstC e T P h 20) : ∃ h', fX5_inByCleared (nI x) (nI n) h = some ((if hEs T P n (clR e x P) 1 = 0 then 1 else 0), h') ∧ Fm 213 h h' := by
  have hT := hg.1.2.1
  have hP := hg.1.2.2.1
  unfold fX5_inByCleared
  obtain ⟨h1, k1, he1, q1⟩ := xNow he hT hP
  rw [k1]
  simp only [bnd_e, chk_p kd_213]
  obtain ⟨h2, k2, he2, q2⟩ := xClear_L (r := 213) (x := x) (p2 := nI n) (k := fun _ h5 => (bnd (fX5_hoursUntilIn 213 (nI n) h5) fun v7 h6 => (if v7 = -1000000 then (some (0, h6)) else (some (1, h6))))) hT hP hx P 0 FU h1 (by omega) (by have := FU_big; omega) he1
  rw [nI_0] at k2
  rw [k2]
  have hgc := Gd_clR (x := x) hg P (Nat.le_refl P)
  obtain ⟨h3, k3, q3⟩ := xUntil (n := n) (by omega) he2 hgc (by omega)
  rw [k3]
  simp only [bnd_e]
  have ai := arr_in n 0 _ 9999 hgc (by omega) (by omega)
  by_cases z : hEs T P n (clR e x P) 1 = 0
  · rw [if_pos z, if_neg (fun w => ai.mp w z)]; exact ⟨h3, rfl, (q1.tr q2).tr q3⟩
  · rw [if_neg z, if_pos (ai.mpr z)]; exact ⟨h3, rfl, (q1.tr q2).tr q3⟩
def clQ (T P n : Nat) (e : Nat → Int32) (x : Nat) : Bool := decide (hEs T P n (clR e x P) 1 = 0)
theorem xClearB_L {T P n : Nat} {p2 : Int32} {e : Nat → Int32} {k : Int32 → Int32 → AH → Option (Int32 × AH)} (hg : Gd e T P 9999) (hn : n ≤ 30) : ∀ m i f h, i + m = 16 → m < f → EstC e T P h 20 → ∃ h', fX5_cleared_L46 (nI (sm e P)) (nI n) p2 f (nI i) (encM (bst (sm e P) (clQ T P n e) i)) h k = k (nI 16) (encM (bst (sm e P) (clQ T P n e) 16)) h' ∧ Fm 213 h h' := by
  have hP := hg.1.2.2.1
  intro m
  induction m with
  | zero =>
    intro i f h hi hf a
    obtain ⟨g, rfl, -⟩ := fuel_s hf
    have : i = 16 := by omega
    subst this
    unfold fX5_cleared_L46
    rw [if_neg (show ¬ nI 16 < 16 from nI_nlt (b := 16) (by omega) (by omega))]
    exact ⟨h, rfl, Fm.rf _ _⟩
  | succ m ih =>
    intro i f h hi hf a
    obtain ⟨g, rfl, hf'⟩ := fuel_s hf
    unfold fX5_cleared_L46
    have hM : sm e P < 64 := Nat.lt_of_lt_of_le (sm_lt e P) (p2_64 (by omega))
    have e1 : bst (sm e P) (clQ T P n e) (i + 1) = if sbs i (sm e P) && (few i (bst (sm e P) (clQ T P n e) i) && clQ T P n e i) then some i else bst (sm e P) (clQ T P n e) i := rfl
    have sa := sbs_at i (by omega) (sm e P) hM
    rw [if_pos (show nI i < 16 from nI_lt (b := 16) (by omega) (by omega))]
    by_cases z : sbs i (sm e P) = true
    · rw [if_pos (sa.mpr z), xFewer (by omega) (enc_lt (by omega))]
      simp only [bnd_e]
      by_cases w : few i (bst (sm e P) (clQ T P n e) i) = true
      · rw [if_pos w, if1]
        obtain ⟨h1, k1, q1⟩ := xByClear (x := i) hg (by omega) hn a
        rw [k1]
        simp only [bnd_e, vl_e, nI_1]
        have a1 : EstC e T P h1 20 := a.fm fun k w1 w2 => q1 k (by omega)
        obtain ⟨h', r1, r2⟩ := ih (i + 1) g h1 (by omega) (by omega) a1
        rw [e1, z, w] at r1
        by_cases y : hEs T P n (clR e i P) 1 = 0
        · rw [if_pos y, if1]
          rw [if_pos (by simp [clQ, y])] at r1
          exact ⟨h', r1, q1.tr r2⟩
        · rw [if_neg y, if0]
          rw [if_neg (by simp [clQ, y])] at r1
          exact ⟨h', r1, q1.tr r2⟩
      · rw [if_neg w, if0, vl_e, nI_1]
        obtain ⟨h', r1, r2⟩ := ih (i + 1) g h (by omega) (by omega) a
        rw [e1, if_neg (by simp [w])] at r1
        exact ⟨h', r1, r2⟩
    · rw [if_neg (fun w => z (sa.mp w)), vl_e, nI_1]
      obtain ⟨h', r1, r2⟩ := ih (i + 1) g h (by omega) (by omega) a
      rw [e1, if_neg (by simp [z])] at r1
      exact ⟨h', r1, r2⟩
theorem mClear_L {T P x : Nat} {p6 p4 p3 p1 p2 : Int32} {e : Nat → Int32} (hg : Gd e T P 9999) (hx : x < 64) : ∀ m i f h, i + m = P → m < f → h 284 = e → Ag (h 286) (clR e x i) → ∃ h', (∀ k : Int32 → AH → Option (Int32 × AH), fX6_cleared_L107 p6 (nI x) p4 p3 p1 p2 f (nI i) h k = k (nI P) h') ∧ Ag (h' 286) (clR e x P) ∧ ∀ k, k ≠ 286 → h' k = h k := by
  have hP := hg.1.2.2.1
  intro m
  induction m with
  | zero =>
    intro i f h hi hf e284 a
    obtain ⟨g, rfl, -⟩ := fuel_s hf
    have : i = P := by omega
    subst this
    refine ⟨h, fun k => ?_, a, fun _ _ => rfl⟩
    unfold fX6_cleared_L107
    rw [cW3 ln_284, cl_3, e284, hg.1.2.2.2.2, if_neg (nI_nlt (Nat.le_refl i) (by omega))]
  | succ m ih =>
    intro i f h hi hf e284 a
    obtain ⟨g, rfl, hf'⟩ := fuel_s hf
    unfold fX6_cleared_L107
    simp only [cW3 ln_284, cl_3, e284, hg.1.2.2.2.2, ix35, i35_1, cW ln_284 (show 36 + 2 * i < 43 by omega), cW ln_286 (show 36 + 2 * i < 43 by omega), nI_clamp (show 36 + 2 * i < 2 ^ 31 by omega)]
    simp only [if_pos (nI_lt (show i < P by omega) (show P < 2 ^ 31 by omega)), mHas hx (show i < 6 by omega), bnd_e, vl_e, sto_e, nI_1]
    by_cases y : x.testBit i = true
    · simp only [if_pos y, if1]
      obtain ⟨h', r1, r2, r3⟩ := ih (i + 1) g (hs h 286 (36 + 2 * i) 0) (by omega) (by omega) (by rw [hs_q _ _ _ (by decide), e284]) (by
        show Ag _ (if x.testBit i then upd (clR e x i) (36 + 2 * i) 0 else clR e x i)
        rw [if_pos y, hs_k]
        intro j hj
        by_cases j8 : j = 36 + 2 * i
        · subst j8; rw [upd_s, upd_s]
        · rw [upd_n _ _ j8, upd_n _ _ j8, a j hj])
      exact ⟨h', r1, r2, fun k hk => by rw [r3 k hk, hs_q _ _ _ hk]⟩
    · simp only [if_neg y, ↓reduceIte, e284]
      obtain ⟨h', r1, r2, r3⟩ := ih (i + 1) g (hs h 286 (36 + 2 * i) (e (36 + 2 * i))) (by omega) (by omega) (by rw [hs_q _ _ _ (by decide), e284]) (by
        show Ag _ (if x.testBit i then upd (clR e x i) (36 + 2 * i) 0 else clR e x i)
        rw [if_neg y, hs_k]
        intro j hj
        by_cases j8 : j = 36 + 2 * i
        · subst j8; rw [upd_s, clR_hi e x i _ (by omega)]
        · rw [upd_n _ _ j8, a j hj])
      exact ⟨h', r1, r2, fun k hk => by rw [r3 k hk, hs_q _ _ _ hk]⟩
theorem mClearTry {T P x n : Nat} {p4 p3 p1 p2 : Int32} {e : Nat → Int32} {h : AH} (hg : Gd e T P 9999) (hx : x < 64) (hn : n ≤ 30) (e284 : h 284 = e) : ∃ h', h' 286 1 = hEs T P n (clR e x P) 1 ∧ (∀ k, k ≠ 286 → h' k = h k) ∧ ∀ kk : AH → Option (Int32 × AH), (bnd (fX6_copies 284 0 286 0 h) fun _ h201 => fX6_cleared_L107 1 (nI x) p4 p3 p1 p2 FU 0 h201 fun _ h203 => bnd (fX6_goesOn (nI n) h203) fun _ h204 => kk h204) = kk h' := by
  obtain ⟨h1, k1, a1, q1⟩ := mTryA h
  rw [e284] at a1
  have hgc := Gd_clR (x := x) hg P (Nat.le_refl P)
  obtain ⟨h2, k2, a2, q2⟩ := mClear_L (p6 := 1) (p4 := p4) (p3 := p3) (p1 := p1) (p2 := p2) hg hx P 0 FU h1 (by omega) (by have := FU_big; have := hg.1; omega) (by rw [q1 284 (by omega), e284]) a1
  rw [nI_0] at k2
  obtain ⟨h3, k3, a3, q3⟩ := mGoes (n := n) (by omega) a2 hgc (by omega)
  refine ⟨h3, a3 1 (by omega), fun k hk => by rw [q3 k hk, q2 k hk, q1 k hk], fun kk => ?_⟩
  rw [k1]
  simp only [bnd_e]
  rw [k2, k3]
  simp only [bnd_e]
theorem mClearB_L {T P n : Nat} {p2 : Int32} {e : Nat → Int32} (hg : Gd e T P 9999) (hn : n ≤ 30) : ∀ m i f h, i + m = sm e P + 1 → m < f → h 284 = e → ∃ h', (∀ k : Int32 → Int32 → AH → Option (Int32 × AH), fX6_cleared_L44 (nI (sm e P)) (nI n) p2 f (nI i) (encM (bst (sm e P) (clQ T P n e) i)) h k = k (nI (sm e P + 1)) (encM (bst (sm e P) (clQ T P n e) (sm e P + 1))) h') ∧ ∀ k, k ≠ 286 → h' k = h k := by
  have hP := hg.1.2.2.1
  have hM : sm e P < 64 := Nat.lt_of_lt_of_le (sm_lt e P) (p2_64 (by omega))
  intro m
  induction m with
  | zero =>
    intro i f h hi hf a
    obtain ⟨g, rfl, -⟩ := fuel_s hf
    have : i = sm e P + 1 := by omega
    subst this
    refine ⟨h, fun k => ?_, fun _ _ => rfl⟩
    unfold fX6_cleared_L44
    rw [if_pos (nI_lt (by omega) (by omega))]
  | succ m ih =>
    intro i f h hi hf a
    obtain ⟨g, rfl, hf'⟩ := fuel_s hf
    unfold fX6_cleared_L44
    have e1 : bst (sm e P) (clQ T P n e) (i + 1) = if sbs i (sm e P) && (few i (bst (sm e P) (clQ T P n e) i) && clQ T P n e i) then some i else bst (sm e P) (clQ T P n e) i := rfl
    have sa := sbs_at i (by omega) (sm e P) hM
    simp only [if_neg (nI_nlt (show i ≤ sm e P by omega) (show sm e P < 2 ^ 31 by omega))]
    have skip : (sbs i (sm e P) && (few i (bst (sm e P) (clQ T P n e) i) && clQ T P n e i)) = false → ∀ h1 : AH, h1 284 = e → (∀ k, k ≠ 286 → h1 k = h k) → ∃ h', (∀ k : Int32 → Int32 → AH → Option (Int32 × AH), fX6_cleared_L44 (nI (sm e P)) (nI n) p2 g (nI (i + 1)) (encM (bst (sm e P) (clQ T P n e) i)) h1 k = k (nI (sm e P + 1)) (encM (bst (sm e P) (clQ T P n e) (sm e P + 1))) h') ∧ ∀ k, k ≠ 286 → h' k = h k := by
      intro z h1 a1 q1
      obtain ⟨h', r1, r2⟩ := ih (i + 1) g h1 (by omega) (by omega) a1
      rw [e1, z, if_neg (by decide)] at r1
      exact ⟨h', r1, fun k hk => by rw [r2 k hk, q1 k hk]⟩
    have doit : sbs i (sm e P) = true → few i (bst (sm e P) (clQ T P n e) i) = true → ∃ h', (∀ k : Int32 → Int32 → AH → Option (Int32 × AH), (bnd (fX6_copies 284 0 286 0 h) fun _ h201 => (fX6_cleared_L107 1 (nI i) (encM (bst (sm e P) (clQ T P n e) i)) (nI (sm e P)) (nI n) p2 FU 0 h201 fun z202 h203 => (bnd (fX6_goesOn (nI n) h203) fun _ h204 => (if (h204 286 1) = 0 then (vl (nI i + 1) fun z205 => fX6_cleared_L44 (nI (sm e P)) (nI n) p2 g z205 (nI i) h204 k) else (vl (nI i + 1) fun z206 => fX6_cleared_L44 (nI (sm e P)) (nI n) p2 g z206 (encM (bst (sm e P) (clQ T P n e) i)) h204 k))))) = k (nI (sm e P + 1)) (encM (bst (sm e P) (clQ T P n e) (sm e P + 1))) h') ∧ ∀ k, k ≠ 286 → h' k = h k := by
      intro z w
      obtain ⟨h1, y1, q1, k1⟩ := mClearTry (x := i) (n := n) (p4 := encM (bst (sm e P) (clQ T P n e) i)) (p3 := nI (sm e P)) (p1 := nI n) (p2 := p2) hg (by omega) hn a
      have a1 : h1 284 = e := by rw [q1 284 (by omega), a]
      simp only [k1, vl_e, nI_1]
      rw [y1]
      by_cases y : hEs T P n (clR e i P) 1 = 0
      · simp only [if_pos y]
        obtain ⟨h', r1, r2⟩ := ih (i + 1) g h1 (by omega) (by omega) a1
        rw [e1, if_pos (by simp [z, w, clQ, y])] at r1
        exact ⟨h', r1, fun k hk => by rw [r2 k hk, q1 k hk]⟩
      · simp only [if_neg y]
        exact skip (by simp [clQ, y]) h1 a1 q1
    cases hb : bst (sm e P) (clQ T P n e) i with
    | none =>
      rw [hb] at doit skip
      simp only [if_pos (show encM none = (-1000000 : Int32) from rfl), if1, cW1 ln_286, cl_1]
      by_cases z : sbs i (sm e P) = true
      · simp only [if_pos (sa.mpr z)]
        exact doit z rfl
      · simp only [if_neg (fun w => z (sa.mp w)), vl_e, nI_1]
        exact skip (by simp [z]) h a fun _ _ => rfl
    | some y =>
      have hy : y < 64 := enc_lt (N := i) (by omega) y hb
      rw [hb] at doit skip
      simp only [show encM (some y) = nI y from rfl]
      simp only [if_neg (none_ne y (by omega)), if1, cW1 ln_286, cl_1, mOnes (show i < 64 by omega), mOnes hy, bnd_e]
      have h1 := ppc_le i (by omega)
      have h2 := ppc_le y hy
      by_cases w : ppc i < ppc y
      · simp only [if_pos (nI_lt w (by omega))]
        by_cases z : sbs i (sm e P) = true
        · simp only [if_pos (sa.mpr z)]
          exact doit z (by simp [few, w])
        · simp only [if_neg (fun w => z (sa.mp w)), vl_e, nI_1]
          exact skip (by simp [z]) h a fun _ _ => rfl
      · simp only [if_neg (nI_nlt (show ppc y ≤ ppc i by omega) (show ppc i < 2 ^ 31 by omega))]
        by_cases z : sbs i (sm e P) = true
        · simp only [if_pos (sa.mpr z), ↓reduceIte, vl_e, nI_1]
          exact skip (by simp [few, w]) h a fun _ _ => rfl
        · simp only [if_neg (fun w => z (sa.mp w)), vl_e, nI_1]
          exact skip (by simp [z]) h a fun _ _ => rfl
set_option maxRecDepth 4000 in
theorem both_cleared {h : AH} (i : Inv h) (a b : Int32) : Both (fX5_cleared a b h) (fX6_cleared a b) := by
  unfold fX5_cleared fX6_cleared
  rcases ests i.2.2.2.1 with ⟨q1, q2⟩ | ⟨T, P, hg, he, q1, q2⟩
  · refine Both.same (h := h) (v := -1000002) i ?_ ?_
    · rw [q1]; rfl
    · rw [q2 h rfl]; rfl
  have hP := hg.1.2.2.1
  rw [q1]
  simp only [bnd_e, ↓reduceIte]
  rcases near a with ⟨p, p3⟩ | ⟨n, hn1, hn2, rfl, p, p2, p3⟩
  · refine Both.same (h := h) (v := -1000001) i ?_ ?_
    · rcases p with p | ⟨p, p2⟩
      · rw [if_pos p]
      · rw [if_neg p, if_pos p2]
    · rw [q2 h rfl]; simp only [bnd_e, if1]; rw [p3]; rfl
  rw [if_neg p, if_neg p2]
  rcases half b with ⟨w1, w2⟩ | ⟨s, hs2, rfl, w1, w2⟩
  · refine Both.same (h := h) (v := -1000001) i ?_ ?_
    · rw [w1]; rfl
    · rw [q2 h rfl]; simp only [bnd_e, if1]; rw [p3]; simp only [bnd_e, if1]; rw [w2]; rfl
  rw [w1]
  simp only [bnd_e, ↓reduceIte]
  rw [xStand he hP]
  simp only [bnd_e]
  have hM : sm (h 284) P < 16 := Nat.lt_of_lt_of_le (sm_lt (h 284) P) (Nat.pow_le_pow_right (n := 2) (by decide) hP)
  obtain ⟨h2, k2, q4⟩ := xClearB_L (n := n) (p2 := nI s) (k := fun z5 z6 h7 => (bnd (fX5_sizeOrSet z6 (nI s) h7) fun v9 h8 => (some (v9, h8)))) hg hn2 16 0 FU h (by omega) (by have := FU_big; omega) he
  rw [nI_0, show encM (bst (sm (h 284) P) (clQ T P n (h 284)) 0) = -1000000 from rfl] at k2
  rw [k2]
  have e284 : h2 284 = h 284 := q4 284 (by omega)
  obtain ⟨h4, k4, q6⟩ := mClearB_L (T := T) (P := P) (n := n) (p2 := nI s) hg hn2 (sm (h 284) P + 1) 0 FU h2 (by omega) (by have := FU_big; omega) e284
  rw [nI_0, show encM (bst (sm (h 284) P) (clQ T P n (h 284)) 0) = -1000000 from rfl] at k4
  have tp := bst_top (q := clQ T P n (h 284)) (show sm (h 284) P < 64 by omega) (15 - sm (h 284) P) (by omega)
  rw [show sm (h 284) P + 1 + (15 - sm (h 284) P) = 16 by omega] at tp
  rw [tp]
  obtain ⟨v, y1, y2⟩ := xSizeSet (b := bst (sm (h 284) P) (clQ T P n (h 284)) (sm (h 284) P + 1)) hs2 (enc_lt (by omega)) h2 h4
  rw [y1]
  refine Both.of rfl ?_
  rw [q2 h2 e284]
  simp only [bnd_e, if1]
  rw [p3]
  simp only [bnd_e, if1]
  rw [w2]
  simp only [bnd_e, if1]
  rw [mStand (P := P) ln_284 hP (by rw [e284]; exact hg.1.2.2.2.2), e284]
  simp only [bnd_e]
  rw [k4, y2]
  exact ⟨_, rfl, i.sc (try_sc q4 q6)⟩
