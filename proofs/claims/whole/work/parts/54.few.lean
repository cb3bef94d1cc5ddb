/-! The fewest. -/
theorem bnd_e {β γ : Type} {v : β} {h : AH} {g : β → AH → Option γ} : bnd (some (v, h)) g = g v h := by
  have q : bnd (some (v, h)) g = g v h := rfl
  exact q.trans (Eq.refl _)
theorem sto_e {β : Type} (h : AH) (k : AH → β) : sto h k = k h := by
  have q : sto h k = k h := rfl
  exact q.trans (Eq.refl _)
theorem vl_e {α β : Type} (v : α) (k : α → β) : vl v k = k v := by
  have q : vl v k = k v := rfl
  exact q.trans (Eq.refl _)
def sbs (x M : Nat) : Bool := (x &&& M) == x
theorem sbs_at : ∀ x, x < 64 → ∀ M, M < 64 → ((nI x &&& (nI M ^^^ (-1 : Int32))) = 0 ↔ sbs x M = true) := by decide +kernel
theorem sbs_le : ∀ x, x < 64 → ∀ M, M < 64 → sbs x M = true → x ≤ M := by decide +kernel
theorem ppc_le : ∀ m, m < 64 → ppc m ≤ 6 := by decide +kernel
def few (x : Nat) : Option Nat → Bool
  | none => true
  | some y => decide (ppc x < ppc y)
def bst (M : Nat) (q : Nat → Bool) : Nat → Option Nat
  | 0 => none
  | n + 1 => if sbs n M && (few n (bst M q n) && q n) then some n else bst M q n
theorem bst_lt {M : Nat} {q : Nat → Bool} : ∀ n y, bst M q n = some y → y < n := by
  intro n
  induction n with
  | zero => intro y h; cases h
  | succ n ih =>
    intro y h
    unfold bst at h
    by_cases z : (sbs n M && (few n (bst M q n) && q n)) = true
    · rw [if_pos z] at h; cases h; omega
    · rw [if_neg z] at h; have := ih y h; omega
theorem bst_top {M : Nat} {q : Nat → Bool} (hM : M < 64) : ∀ d, M + 1 + d ≤ 64 → bst M q (M + 1 + d) = bst M q (M + 1) := by
  intro d
  induction d with
  | zero => intro _; rfl
  | succ d ih =>
    intro hd
    have e1 : bst M q (M + 1 + (d + 1)) = if sbs (M + 1 + d) M && (few (M + 1 + d) (bst M q (M + 1 + d)) && q (M + 1 + d)) then some (M + 1 + d) else bst M q (M + 1 + d) := rfl
    rw [e1, if_neg, ih (by omega)]
    intro z
    simp only [Bool.and_eq_true] at z
    have := sbs_le (M + 1 + d) (by omega) M hM z.1
    omega
theorem xFewer {x : Nat} (hx : x < 64) {b : Option Nat} (hb : ∀ y, b = some y → y < 64) (h : AH) : fX5_fewer (nI x) (encM b) h = some ((if few x b then 1 else 0), h) := by
  unfold fX5_fewer
  cases b with
  | none => rw [if_pos (show encM none = -1000000 from rfl)]; rfl
  | some y =>
    have hy := hb y rfl
    rw [if_neg (show ¬ encM (some y) = -1000000 from none_ne y (by omega)), xBits x hx]
    simp only [bnd_e]
    rw [show encM (some y) = nI y from rfl, xBits y hy]
    simp only [bnd_e]
    have h1 := ppc_le x hx
    have h2 := ppc_le y hy
    unfold few
    by_cases z : ppc x < ppc y
    · rw [if_pos (nI_lt z (by omega))]; simp [z]
    · rw [if_neg (nI_nlt (by omega) (by omega))]; simp [z]
theorem xSizeSet {s : Nat} (hs2 : s < 2) {b : Option Nat} (hb : ∀ y, b = some y → y < 64) (h h' : AH) : ∃ v, fX5_sizeOrSet (encM b) (nI s) h = some (v, h) ∧ (if encM b = -1000000 then some (encM b, h') else if nI s = 1 then some (encM b, h') else bnd (fX6_ones (encM b) h') fun v13 h12 => some (v13, h12)) = some (v, h') := by
  unfold fX5_sizeOrSet
  by_cases z : encM b = -1000000
  · exact ⟨encM b, by rw [if_pos z], by rw [if_pos z]⟩
  rw [if_neg z, if_neg z]
  by_cases w : nI s = 1
  · exact ⟨encM b, by rw [if_pos w], by rw [if_pos w]⟩
  rw [if_neg w, if_neg w]
  cases b with
  | none => exact absurd rfl z
  | some y =>
    rw [show encM (some y) = nI y from rfl, xBits y (hb y rfl), mOnes (hb y rfl)]
    exact ⟨_, rfl, rfl⟩
/-! of the tugs -/
def crR (e : Nat → Int32) (x : Nat) : Nat → Nat → Int32
  | 0 => e
  | i + 1 => if x.testBit i then crR e x i else dropR (crR e x i) i
theorem crR_hi (e : Nat → Int32) (x : Nat) : ∀ i j, (j < 5 ∨ 5 + 5 * i ≤ j) → crR e x i j = e j := by
  intro i
  induction i with
  | zero => intro j _; rfl
  | succ i ih =>
    intro j hj
    unfold crR
    split
    · exact ih j (by omega)
    · unfold dropR
      rw [upd_n _ _ (by omega), upd_n _ _ (by omega)]
      exact ih j (by omega)
theorem Gd_crR {e : Nat → Int32} {T P B x : Nat} (hg : Gd e T P B) : ∀ i, i ≤ T → Gd (crR e x i) T P B := by
  intro i
  induction i with
  | zero => intro _; exact hg
  | succ i ih =>
    intro hi
    unfold crR
    split
    · exact ih (by omega)
    · exact Gd_drop (ih (by omega)) (by omega)
theorem bitS {x t : Nat} (hx : x < 64) (ht : t < 6) : ((nI x >>> (nI t &&& 31)) &&& (1 : Int32)) = if x.testBit t then 1 else 0 := bit_at x hx t ht
theorem xCrew_L {T P x r : Nat} {p2 : Int32} {e : Nat → Int32} {k : Int32 → AH → Option (Int32 × AH)} (hT : T ≤ 6) (hx : x < 64) : ∀ m i f h, i + m = T → m < f → EstC (crR e x i) T P h r → ∃ h', fX5_inByCrew_L8 r (nI x) p2 f (nI i) h k = k (nI T) h' ∧ EstC (crR e x T) T P h' r ∧ Fm r h h' := by
  intro m
  induction m with
  | zero =>
    intro i f h hi hf a
    obtain ⟨g, rfl, -⟩ := fuel_s hf
    have : i = T := by omega
    subst this
    unfold fX5_inByCrew_L8
    rw [a.2.1.1, if_neg (nI_nlt (Nat.le_refl i) (by omega))]
    exact ⟨h, rfl, a, Fm.rf _ _⟩
  | succ m ih =>
    intro i f h hi hf a
    obtain ⟨g, rfl, hf'⟩ := fuel_s hf
    unfold fX5_inByCrew_L8
    rw [a.2.1.1, if_pos (nI_lt (by omega) (by omega)), bitS hx (by omega)]
    by_cases z : x.testBit i = true
    · rw [if_pos z, if1, vl_e, nI_1]
      have a1 : EstC (crR e x (i + 1)) T P h r := by
        show EstC (if x.testBit i then crR e x i else dropR (crR e x i) i) T P h r
        rw [if_pos z]; exact a
      exact ih (i + 1) g h (by omega) (by omega) a1
    · rw [if_neg z, if0]
      obtain ⟨h1, k1, a1, q1⟩ := xLetGo a hT (show i < T by omega)
      rw [k1]
      simp only [bnd_e, vl_e, nI_1]
      have a2 : EstC (crR e x (i + 1)) T P h1 r := by
        show EstC (if x.testBit i then crR e x i else dropR (crR e x i) i) T P h1 r
        rw [if_neg z]; exact a1
      obtain ⟨h', r1, r2, r3⟩ := ih (i + 1) g h1 (by omega) (by omega) a2
      exact ⟨h', r1, r2, q1.tr r3⟩
theorem xByCrew {T P x n : Nat} {e : Nat → Int32} {h : AH} (hg : Gd e T P 9999) (hx : x < 64) (hn : n ≤ 30) (he : EstC e T P h 20) : ∃ h', fX5_inByCrew (nI x) (nI n) h = some ((if hEs T P n (crR e x T) 1 = 0 then 1 else 0), h') ∧ Fm 213 h h' := by
  have hT := hg.1.2.1
  have hP := hg.1.2.2.1
  unfold fX5_inByCrew
  obtain ⟨h1, k1, he1, q1⟩ := xNow he hT hP
  rw [k1]
  simp only [bnd_e, chk_p kd_213]
  obtain ⟨h2, k2, he2, q2⟩ := xCrew_L (r := 213) (x := x) (p2 := nI n) (k := fun _ h5 => (bnd (fX5_hoursUntilIn 213 (nI n) h5) fun v7 h6 => (if v7 = -1000000 then (some (0, h6)) else (some (1, h6))))) hT hx T 0 FU h1 (by omega) (by have := FU_big; omega) he1
  rw [nI_0] at k2
  rw [k2]
  have hgc := Gd_crR (x := x) hg T (Nat.le_refl T)
  obtain ⟨h3, k3, q3⟩ := xUntil (n := n) (by omega) he2 hgc (by omega)
  rw [k3]
  simp only [bnd_e]
  have ai := arr_in n 0 _ 9999 hgc (by omega) (by omega)
  by_cases z : hEs T P n (crR e x T) 1 = 0
  · rw [if_pos z, if_neg (fun w => ai.mp w z)]; exact ⟨h3, rfl, (q1.tr q2).tr q3⟩
  · rw [if_neg z, if_pos (ai.mpr z)]; exact ⟨h3, rfl, (q1.tr q2).tr q3⟩
def crQ (T P n : Nat) (e : Nat → Int32) (x : Nat) : Bool := decide (hEs T P n (crR e x T) 1 = 0)
theorem enc_lt {M N : Nat} {q : Nat → Bool} (hN : N ≤ 64) : ∀ y, bst M q N = some y → y < 64 := fun y hy => by have := bst_lt N y hy; omega
theorem xCrewB_L {T P n : Nat} {p2 : Int32} {e : Nat → Int32} {k : Int32 → Int32 → AH → Option (Int32 × AH)} (hg : Gd e T P 9999) (hn : n ≤ 30) : ∀ m i f h, i + m = 64 → m < f → EstC e T P h 20 → ∃ h', fX5_crew_L37 (nI n) p2 f (nI i) (encM (bst (hm e T) (crQ T P n e) i)) h k = k (nI 64) (encM (bst (hm e T) (crQ T P n e) 64)) h' ∧ Fm 213 h h' := by
  have hT := hg.1.2.1
  intro m
  induction m with
  | zero =>
    intro i f h hi hf a
    obtain ⟨g, rfl, -⟩ := fuel_s hf
    have : i = 64 := by omega
    subst this
    unfold fX5_crew_L37
    rw [if_neg (show ¬ nI 64 < 64 from nI_nlt (b := 64) (by omega) (by omega))]
    exact ⟨h, rfl, Fm.rf _ _⟩
  | succ m ih =>
    intro i f h hi hf a
    obtain ⟨g, rfl, hf'⟩ := fuel_s hf
    unfold fX5_crew_L37
    have hM : hm e T < 64 := Nat.lt_of_lt_of_le (hm_lt e T) (p2_64 hT)
    have e1 : bst (hm e T) (crQ T P n e) (i + 1) = if sbs i (hm e T) && (few i (bst (hm e T) (crQ T P n e) i) && crQ T P n e i) then some i else bst (hm e T) (crQ T P n e) i := rfl
    have sa := sbs_at i (by omega) (hm e T) hM
    rw [if_pos (show nI i < 64 from nI_lt (b := 64) (by omega) (by omega)), a.hm hT]
    by_cases z : sbs i (hm e T) = true
    · rw [if_pos (sa.mpr z), xFewer (by omega) (enc_lt (by omega))]
      simp only [bnd_e]
      by_cases w : few i (bst (hm e T) (crQ T P n e) i) = true
      · rw [if_pos w, if1]
        obtain ⟨h1, k1, q1⟩ := xByCrew (x := i) hg (by omega) hn a
        rw [k1]
        simp only [bnd_e, vl_e, nI_1]
        have a1 : EstC e T P h1 20 := a.fm fun k w1 w2 => q1 k (by omega)
        obtain ⟨h', r1, r2⟩ := ih (i + 1) g h1 (by omega) (by omega) a1
        rw [e1, z, w] at r1
        by_cases y : hEs T P n (crR e i T) 1 = 0
        · rw [if_pos y, if1]
          rw [if_pos (by simp [crQ, y])] at r1
          exact ⟨h', r1, q1.tr r2⟩
        · rw [if_neg y, if0]
          rw [if_neg (by simp [crQ, y])] at r1
          exact ⟨h', r1, q1.tr r2⟩
      · rw [if_neg w, if0, vl_e, nI_1]
        obtain ⟨h', r1, r2⟩ := ih (i + 1) g h (by omega) (by omega) a
        rw [e1, if_neg (by simp [w])] at r1
        exact ⟨h', r1, r2⟩
    · rw [if_neg (fun w => z (sa.mp w)), vl_e, nI_1]
      obtain ⟨h', r1, r2⟩ := ih (i + 1) g h (by omega) (by omega) a
      rw [e1, if_neg (by simp [z])] at r1
      exact ⟨h', r1, r2⟩
theorem mCrew_L {T P x : Nat} {p6 p4 p1 p2 : Int32} {e : Nat → Int32} (hg : Gd e T P 9999) (hx : x < 64) : ∀ m i f h, i + m = T → m < f → h 284 = e → Ag (h 286) (crR e x i) → ∃ h', (∀ k : Int32 → AH → Option (Int32 × AH), fX6_crew_L107 p6 (nI x) p4 (nI (hm e T)) p1 p2 f (nI i) h k = k (nI T) h') ∧ Ag (h' 286) (crR e x T) ∧ ∀ k, k ≠ 286 → h' k = h k := by
  have hT := hg.1.2.1
  intro m
  induction m with
  | zero =>
    intro i f h hi hf e284 a
    obtain ⟨g, rfl, -⟩ := fuel_s hf
    have : i = T := by omega
    subst this
    refine ⟨h, fun k => ?_, a, fun _ _ => rfl⟩
    unfold fX6_crew_L107
    rw [cW2 ln_284, cl_2, e284, hg.1.2.2.2.1, if_neg (nI_nlt (Nat.le_refl i) (by omega))]
  | succ m ih =>
    intro i f h hi hf e284 a
    obtain ⟨g, rfl, hf'⟩ := fuel_s hf
    have hM : hm e T < 64 := Nat.lt_of_lt_of_le (hm_lt e T) (p2_64 hT)
    unfold fX6_crew_L107
    simp only [cW2 ln_284, cl_2, e284, hg.1.2.2.2.1]
    simp only [if_pos (nI_lt (show i < T by omega) (show T < 2 ^ 31 by omega)), mHas hM (show i < 6 by omega), hm_bit e T hT i (by omega), bnd_e, mHas hx (show i < 6 by omega), mDrops ln_286 (show i < 6 by omega), vl_e, nI_1]
    rcases (hg.2.2.2.2.1 i (by omega)).2.2.2.2 with ⟨z1, z2⟩ | z
    · have d0 : decide (ho e i = 1) = false := by rw [z1]; decide
      simp only [d0, Bool.false_eq_true, ↓reduceIte]
      refine ih (i + 1) g h (by omega) (by omega) e284 ?_
      show Ag (h 286) (if x.testBit i then crR e x i else dropR (crR e x i) i)
      by_cases y : x.testBit i = true
      · rw [if_pos y]; exact a
      · rw [if_neg y]
        intro j hj
        rw [a j hj]
        unfold dropR
        by_cases j8 : j = 8 + 5 * i
        · subst j8; rw [upd_s, crR_hi e x i _ (by omega)]; exact z2
        · rw [upd_n _ _ j8]
          by_cases j9 : j = 9 + 5 * i
          · subst j9; rw [upd_s, crR_hi e x i _ (by omega)]; exact z1
          · rw [upd_n _ _ j9]
    · have d1 : decide (ho e i = 1) = true := by rw [z]; decide
      simp only [d1, ↓reduceIte, if1]
      by_cases y : x.testBit i = true
      · simp only [if_pos y, if1]
        refine ih (i + 1) g h (by omega) (by omega) e284 ?_
        show Ag (h 286) (if x.testBit i then crR e x i else dropR (crR e x i) i)
        rw [if_pos y]; exact a
      · simp only [if_neg y, ↓reduceIte]
        obtain ⟨h', r1, r2, r3⟩ := ih (i + 1) g (hr h 286 (dropR (h 286) i)) (by omega) (by omega) (by rw [hr_ne _ _ (by decide), e284]) (by
          show Ag _ (if x.testBit i then crR e x i else dropR (crR e x i) i)
          rw [if_neg y, hr_eq]
          intro j hj
          unfold dropR
          by_cases j8 : j = 8 + 5 * i
          · subst j8; rw [upd_s, upd_s]
          · rw [upd_n _ _ j8, upd_n _ _ j8]
            by_cases j9 : j = 9 + 5 * i
            · subst j9; rw [upd_s, upd_s]
            · rw [upd_n _ _ j9, upd_n _ _ j9, a j hj])
        exact ⟨h', r1, r2, fun k hk => by rw [r3 k hk, hr_ne _ _ hk]⟩
theorem mCrewTry {T P x n : Nat} {p4 p1 p2 : Int32} {e : Nat → Int32} {h : AH} (hg : Gd e T P 9999) (hx : x < 64) (hn : n ≤ 30) (e284 : h 284 = e) : ∃ h', h' 286 1 = hEs T P n (crR e x T) 1 ∧ (∀ k, k ≠ 286 → h' k = h k) ∧ ∀ kk : AH → Option (Int32 × AH), (bnd (fX6_copies 284 0 286 0 h) fun _ h201 => fX6_crew_L107 1 (nI x) p4 (nI (hm e T)) p1 p2 FU 0 h201 fun _ h203 => bnd (fX6_goesOn (nI n) h203) fun _ h204 => kk h204) = kk h' := by
  obtain ⟨h1, k1, a1, q1⟩ := mTryA h
  rw [e284] at a1
  have hgc := Gd_crR (x := x) hg T (Nat.le_refl T)
  obtain ⟨h2, k2, a2, q2⟩ := mCrew_L (p6 := 1) (p4 := p4) (p1 := p1) (p2 := p2) hg hx T 0 FU h1 (by omega) (by have := FU_big; have := hg.1; omega) (by rw [q1 284 (by omega), e284]) a1
  rw [nI_0] at k2
  obtain ⟨h3, k3, a3, q3⟩ := mGoes (n := n) (by omega) a2 hgc (by omega)
  refine ⟨h3, a3 1 (by omega), fun k hk => by rw [q3 k hk, q2 k hk, q1 k hk], fun kk => ?_⟩
  rw [k1]
  simp only [bnd_e]
  rw [k2, k3]
  simp only [bnd_e]
theorem mCrewB_L {T P n : Nat} {p2 : Int32} {e : Nat → Int32} (hg : Gd e T P 9999) (hn : n ≤ 30) : ∀ m i f h, i + m = hm e T + 1 → m < f → h 284 = e → ∃ h', (∀ k : Int32 → Int32 → AH → Option (Int32 × AH), fX6_crew_L44 (nI (hm e T)) (nI n) p2 f (nI i) (encM (bst (hm e T) (crQ T P n e) i)) h k = k (nI (hm e T + 1)) (encM (bst (hm e T) (crQ T P n e) (hm e T + 1))) h') ∧ ∀ k, k ≠ 286 → h' k = h k := by
  have hT := hg.1.2.1
  have hM : hm e T < 64 := Nat.lt_of_lt_of_le (hm_lt e T) (p2_64 hT)
  intro m
  induction m with
  | zero =>
    intro i f h hi hf a
    obtain ⟨g, rfl, -⟩ := fuel_s hf
    have : i = hm e T + 1 := by omega
    subst this
    refine ⟨h, fun k => ?_, fun _ _ => rfl⟩
    unfold fX6_crew_L44
    rw [if_pos (nI_lt (by omega) (by omega))]
  | succ m ih =>
    intro i f h hi hf a
    obtain ⟨g, rfl, hf'⟩ := fuel_s hf
    unfold fX6_crew_L44
    have e1 : bst (hm e T) (crQ T P n e) (i + 1) = if sbs i (hm e T) && (few i (bst (hm e T) (crQ T P n e) i) && crQ T P n e i) then some i else bst (hm e T) (crQ T P n e) i := rfl
    have sa := sbs_at i (by omega) (hm e T) hM
    simp only [if_neg (nI_nlt (show i ≤ hm e T by omega) (show hm e T < 2 ^ 31 by omega))]
    have skip : (sbs i (hm e T) && (few i (bst (hm e T) (crQ T P n e) i) && crQ T P n e i)) = false → ∀ h1 : AH, h1 284 = e → (∀ k, k ≠ 286 → h1 k = h k) → ∃ h', (∀ k : Int32 → Int32 → AH → Option (Int32 × AH), fX6_crew_L44 (nI (hm e T)) (nI n) p2 g (nI (i + 1)) (encM (bst (hm e T) (crQ T P n e) i)) h1 k = k (nI (hm e T + 1)) (encM (bst (hm e T) (crQ T P n e) (hm e T + 1))) h') ∧ ∀ k, k ≠ 286 → h' k = h k := by
      intro z h1 a1 q1
      obtain ⟨h', r1, r2⟩ := ih (i + 1) g h1 (by omega) (by omega) a1
      rw [e1, z, if_neg (by decide)] at r1
      exact ⟨h', r1, fun k hk => by rw [r2 k hk, q1 k hk]⟩
    have doit : sbs i (hm e T) = true → few i (bst (hm e T) (crQ T P n e) i) = true → ∃ h', (∀ k : Int32 → Int32 → AH → Option (Int32 × AH), (bnd (fX6_copies 284 0 286 0 h) fun _ h201 => (fX6_crew_L107 1 (nI i) (encM (bst (hm e T) (crQ T P n e) i)) (nI (hm e T)) (nI n) p2 FU 0 h201 fun z202 h203 => (bnd (fX6_goesOn (nI n) h203) fun _ h204 => (if (h204 286 1) = 0 then (vl (nI i + 1) fun z205 => fX6_crew_L44 (nI (hm e T)) (nI n) p2 g z205 (nI i) h204 k) else (vl (nI i + 1) fun z206 => fX6_crew_L44 (nI (hm e T)) (nI n) p2 g z206 (encM (bst (hm e T) (crQ T P n e) i)) h204 k))))) = k (nI (hm e T + 1)) (encM (bst (hm e T) (crQ T P n e) (hm e T + 1))) h') ∧ ∀ k, k ≠ 286 → h' k = h k := by
      intro z w
      obtain ⟨h1, y1, q1, k1⟩ := mCrewTry (x := i) (n := n) (p4 := encM (bst (hm e T) (crQ T P n e) i)) (p1 := nI n) (p2 := p2) hg (by omega) hn a
      have a1 : h1 284 = e := by rw [q1 284 (by omega), a]
      simp only [k1, vl_e, nI_1]
      rw [y1]
      by_cases y : hEs T P n (crR e i T) 1 = 0
      · simp only [if_pos y]
        obtain ⟨h', r1, r2⟩ := ih (i + 1) g h1 (by omega) (by omega) a1
        rw [e1, if_pos (by simp [z, w, crQ, y])] at r1
        exact ⟨h', r1, fun k hk => by rw [r2 k hk, q1 k hk]⟩
      · simp only [if_neg y]
        exact skip (by simp [crQ, y]) h1 a1 q1
    cases hb : bst (hm e T) (crQ T P n e) i with
    | none =>
      rw [hb] at doit skip
      simp only [if_pos (show encM none = (-1000000 : Int32) from rfl), if1, cW1 ln_286, cl_1]
      by_cases z : sbs i (hm e T) = true
      · simp only [if_pos (sa.mpr z)]
        exact doit z rfl
      · simp only [if_neg (fun w => z (sa.mp w)), vl_e, nI_1]
        exact skip (by simp [z]) h a fun _ _ => rfl
    | some y =>
      have hy : y < 64 := enc_lt (N := i) (by omega) y hb
      rw [hb] at doit skip
      simp only [show encM (some y) = nI y from rfl]
      simp only [if_neg (none_ne y (by omega)), if1, cW1 ln_286, cl_1, mOnes (show i < 64 by omega), mOnes hy, bnd_e]
      have h1 := ppc_le i (by omega)
      have h2 := ppc_le y hy
      by_cases w : ppc i < ppc y
      · simp only [if_pos (nI_lt w (by omega))]
        by_cases z : sbs i (hm e T) = true
        · simp only [if_pos (sa.mpr z)]
          exact doit z (by simp [few, w])
        · simp only [if_neg (fun w => z (sa.mp w)), vl_e, nI_1]
          exact skip (by simp [z]) h a fun _ _ => rfl
      · simp only [if_neg (nI_nlt (show ppc y ≤ ppc i by omega) (show ppc i < 2 ^ 31 by omega))]
        by_cases z : sbs i (hm e T) = true
        · simp only [if_pos (sa.mpr z), ↓reduceIte, vl_e, nI_1]
          exact skip (by simp [few, w]) h a fun _ _ => rfl
        · simp only [if_neg (fun w => z (sa.mp w)), vl_e, nI_1]
          exact skip (by simp [z]) h a fun _ _ => rfl
set_option maxRecDepth 4000 in
theorem both_crew {h : AH} (i : Inv h) (a b : Int32) : Both (fX5_crew a b h) (fX6_crew a b) := by
  unfold fX5_crew fX6_crew
  rcases ests i.2.2.2.1 with ⟨q1, q2⟩ | ⟨T, P, hg, he, q1, q2⟩
  · refine Both.same (h := h) (v := -1000002) i ?_ ?_
    · rw [q1]; rfl
    · rw [q2 h rfl]; rfl
  have hT := hg.1.2.1
  rw [q1]
  simp only [bnd_e, ↓reduceIte]
  rcases near a with ⟨p, p3⟩ | ⟨n, hn1, hn2, rfl, p, p2, p3⟩
  · refine Both.same (h := h) (v := -1000001) i ?_ ?_
    · rcases p with p | ⟨p, p2⟩
      · rw [if_pos p]
      · rw [if_neg p, if_pos p2]
    · rw [q2 h rfl]; simp only [bnd_e, if1]; rw [p3]; rfl
  rw [if_neg p, if_neg p2]
  rcases half b with ⟨w1, w2⟩ | ⟨s, hs2, rfl, w1, w2⟩
  · refine Both.same (h := h) (v := -1000001) i ?_ ?_
    · rw [w1]; rfl
    · rw [q2 h rfl]; simp only [bnd_e, if1]; rw [p3]; simp only [bnd_e, if1]; rw [w2]; rfl
  rw [w1]
  simp only [bnd_e, ↓reduceIte]
  have hM : hm (h 284) T < 64 := Nat.lt_of_lt_of_le (hm_lt (h 284) T) (p2_64 hT)
  obtain ⟨h2, k2, q4⟩ := xCrewB_L (n := n) (p2 := nI s) (k := fun z5 z6 h7 => (bnd (fX5_sizeOrSet z6 (nI s) h7) fun v9 h8 => (some (v9, h8)))) hg hn2 64 0 FU h (by omega) (by have := FU_big; omega) he
  rw [nI_0, show encM (bst (hm (h 284) T) (crQ T P n (h 284)) 0) = -1000000 from rfl] at k2
  rw [k2]
  have e284 : h2 284 = h 284 := q4 284 (by omega)
  obtain ⟨h4, k4, q6⟩ := mCrewB_L (T := T) (P := P) (n := n) (p2 := nI s) hg hn2 (hm (h 284) T + 1) 0 FU h2 (by omega) (by have := FU_big; omega) e284
  rw [nI_0, show encM (bst (hm (h 284) T) (crQ T P n (h 284)) 0) = -1000000 from rfl] at k4
  have tp := bst_top (q := crQ T P n (h 284)) hM (63 - hm (h 284) T) (by omega)
  rw [show hm (h 284) T + 1 + (63 - hm (h 284) T) = 64 by omega] at tp
  rw [tp]
  obtain ⟨v, y1, y2⟩ := xSizeSet (b := bst (hm (h 284) T) (crQ T P n (h 284)) (hm (h 284) T + 1)) hs2 (enc_lt (by omega)) h2 h4
  rw [y1]
  refine Both.of rfl ?_
  rw [q2 h2 e284]
  simp only [bnd_e, if1]
  rw [p3]
  simp only [bnd_e, if1]
  rw [w2]
  simp only [bnd_e, if1]
  rw [mHolding (T := T) ln_284 hT (by rw [e284]; exact hg.1.2.2.2.1) (by rw [e284]; exact hg.hold), e284]
  simp only [bnd_e]
  rw [k4, y2]
  exact ⟨_, rfl, i.sc (try_sc q4 q6)⟩
