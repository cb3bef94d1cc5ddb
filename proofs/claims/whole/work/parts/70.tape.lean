/-! The text: what it tells, byte by byte. -/
def isd (n : Nat) (bb : Nat → Nat) (p : Nat) : Bool := decide (p < n) && (decide (48 ≤ bb p) && decide (bb p ≤ 57))
def btI (n : Nat) (bb : Nat → Nat) (p : Nat) : Int32 := if p < n then nI (bb p) else -1
/-- a number read: the fault and its place, or the number and what is behind it -/
def rN (n : Nat) (bb : Nat → Nat) (lo hi p : Nat) : (Nat × Nat) ⊕ (Nat × Nat) :=
  if isd n bb p = false then .inl (1, p) else
  if isd n bb (p + 1) = false then (if lo ≤ bb p - 48 ∧ bb p - 48 ≤ hi then .inr (bb p - 48, p + 1) else .inl (2, p)) else
  if isd n bb (p + 2) = false then (if lo ≤ 10 * (bb p - 48) + (bb (p + 1) - 48) ∧ 10 * (bb p - 48) + (bb (p + 1) - 48) ≤ hi then .inr (10 * (bb p - 48) + (bb (p + 1) - 48), p + 2) else .inl (2, p)) else .inl (1, p)
def rS (n : Nat) (bb : Nat → Nat) (c p : Nat) : (Nat × Nat) ⊕ Nat := if p < n ∧ bb p = c then .inr (p + 1) else .inl (1, p)
def CT (h : AH) (n : Nat) (bb : Nat → Nat) (p : Nat) : Prop := n ≤ 90 ∧ p ≤ n ∧ h 18 1 = nI n ∧ h 18 2 = nI p ∧ ∀ i, i < n → bb i ≤ 255 ∧ h 19 i = nI (bb i)
theorem isd_lt {n p : Nat} {bb : Nat → Nat} (h : isd n bb p = true) : p < n ∧ 48 ≤ bb p ∧ bb p ≤ 57 := by
  unfold isd at h
  simp only [Bool.and_eq_true, decide_eq_true_eq] at h
  exact ⟨h.1, h.2.1, h.2.2⟩
theorem isd_no {n p : Nat} {bb : Nat → Nat} (h : isd n bb p = false) : n ≤ p ∨ bb p < 48 ∨ 57 < bb p := by
  by_cases a : p < n
  · by_cases b : 48 ≤ bb p
    · by_cases c : bb p ≤ 57
      · unfold isd at h; simp [a, b, c] at h
      · omega
    · omega
  · omega
theorem m1_lt : (-1 : Int32) < 48 := by decide
theorem xByte {h : AH} {n p q : Nat} {bb : Nat → Nat} (c : CT h n bb p) (hq : q < 2 ^ 30) : fX4_byteAt (nI q) h = some (btI n bb q, h) := by
  obtain ⟨h1, h2, h3, h4, h5⟩ := c
  unfold fX4_byteAt btI
  rw [if_neg (n0_lt q (by omega)), h3]
  by_cases z : q < n
  · rw [if_pos (nI_lt z (by omega)), if_pos z, chk_p (by rw [ln_19]; exact inb_n (by omega) (by decide)), nI_clamp (by omega), (h5 q z).2]
  · rw [if_neg (nI_nlt (by omega) (by omega)), if_neg z]
theorem xHere {h : AH} {n p : Nat} {bb : Nat → Nat} (c : CT h n bb p) : fX4_here h = some (btI n bb p, h) := by
  unfold fX4_here
  rw [c.2.2.2.1, xByte c (by have := c.1; have := c.2.1; omega), bnd_e]
theorem fig_d {n p : Nat} {bb : Nat → Nat} (hb : ∀ i, i < n → bb i ≤ 255) (h : AH) : fX4_isFigure (btI n bb p) h = some ((if isd n bb p then 1 else 0), h) := by
  unfold fX4_isFigure btI
  by_cases z : p < n
  · have hb := hb p z
    rw [if_pos z]
    by_cases a : bb p < 48
    · rw [if_pos (show nI (bb p) < 48 from nI_lt (b := 48) a (by omega)), if_neg]
      intro w; have := isd_lt w; omega
    · rw [if_neg (show ¬ nI (bb p) < 48 from nI_nlt (b := 48) (by omega) (by omega))]
      by_cases b : 57 < bb p
      · rw [if_pos (show (57 : Int32) < nI (bb p) from nI_lt (a := 57) b (by omega)), if_neg]
        intro w; have := isd_lt w; omega
      · rw [if_neg (show ¬ (57 : Int32) < nI (bb p) from nI_nlt (a := 57) (by omega) (by omega)), if_pos]
        unfold isd
        simp [z]; omega
  · rw [if_neg z, if_pos m1_lt, if_neg]
    intro w; have := isd_lt w; omega
theorem xSign {h : AH} {n p c : Nat} {bb : Nat → Nat} (t : CT h n bb p) (hc : c ≤ 255) : fX4_readSign (nI c) h = (match rS n bb c p with
    | .inl _ => some (0, hs h 18 3 (nI 1))
    | .inr q => some (1, hs h 18 2 (nI q))) := by
  unfold fX4_readSign rS
  rw [xHere t, bnd_e]
  unfold btI
  by_cases z : p < n
  · have hb := (t.2.2.2.2 p z).1
    rw [if_pos z]
    by_cases y : bb p = c
    · rw [if_pos (by rw [y]), if_pos ⟨z, y⟩, sto_e, t.2.2.2.1, nI_1]
    · rw [if_neg (fun w => y ((nI_eq (by omega) (by omega)).mp w)), if_neg (fun w => y w.2)]
      unfold fX4_faulty
      rw [sto_e, bnd_e]
      exact c01_0
  · have ne : ¬ (-1 : Int32) = nI c := by
      intro w
      have h1 : (-1 : Int32).toInt = (nI c).toInt := by rw [w]
      rw [nI_toInt (by omega)] at h1
      have h2 : (-1 : Int32).toInt = -1 := by decide
      omega
    rw [if_neg z, if_neg ne, if_neg (fun w => z w.1)]
    unfold fX4_faulty
    rw [sto_e, bnd_e]
    exact c01_0
theorem num_step {h : AH} {n p x : Nat} {bb : Nat → Nat} {p1 p2 v : Int32} {k : Int32 → Int32 → AH → Option (Int32 × AH)} {f : Nat} (t : CT h n bb p) (hx : x < 3) (hd : isd n bb (p + x) = true) : fX4_readNumber_L11 (nI p) p1 p2 (f + 1) v (nI x) h k = fX4_readNumber_L11 (nI p) p1 p2 f (v * 10 + nI (bb (p + x)) - 48) (nI (x + 1)) h k := by
  have hp : p < 2 ^ 20 := by have := t.1; have := t.2.1; omega
  rw [fX4_readNumber_L11, if_pos (show nI x < 3 from nI_lt (b := 3) hx (by omega)), nI_add, xByte t (by omega), bnd_e, fig_d (fun i hi => (t.2.2.2.2 i hi).1), bnd_e, if_pos hd, if1, xByte t (by omega), bnd_e, vl_e, vl_e, nI_1]
  unfold btI
  rw [if_pos (isd_lt hd).1]
theorem num_stop {h : AH} {n p x : Nat} {bb : Nat → Nat} {p1 p2 v : Int32} {k : Int32 → Int32 → AH → Option (Int32 × AH)} {f : Nat} (t : CT h n bb p) (hx : x < 3) (hd : isd n bb (p + x) = false) : fX4_readNumber_L11 (nI p) p1 p2 (f + 1) v (nI x) h k = k v (nI x) h := by
  have hp : p < 2 ^ 20 := by have := t.1; have := t.2.1; omega
  rw [fX4_readNumber_L11, if_pos (show nI x < 3 from nI_lt (b := 3) hx (by omega)), nI_add, xByte t (by omega), bnd_e, fig_d (fun i hi => (t.2.2.2.2 i hi).1), bnd_e, hd, if_neg (show ¬ (false = true) by decide), if0]
theorem d1_at {b : Nat} (h1 : 48 ≤ b) (h2 : b ≤ 57) : (0 : Int32) * 10 + nI b - 48 = nI (b - 48) := by
  rw [show (0 : Int32) * 10 = nI 0 by decide, nI_add, Nat.zero_add]
  exact pk_sub (b := 48) h1
theorem d2_at {v b : Nat} (h1 : 48 ≤ b) : nI v * (10 : Int32) + nI b - 48 = nI (10 * v + (b - 48)) := by
  rw [show nI v * (10 : Int32) = nI (v * 10) from pk_mul v 10, nI_add, show nI (v * 10 + b) - (48 : Int32) = nI (v * 10 + b - 48) from pk_sub (b := 48) (by omega)]
  congr 1
  omega
theorem xNum {h : AH} {n p lo hi : Nat} {bb : Nat → Nat} (t : CT h n bb p) (hl : lo ≤ 100) (hh : hi ≤ 100) : fX4_readNumber (nI lo) (nI hi) h = (match rN n bb lo hi p with
    | .inl (f, _) => some (0, hs h 18 3 (nI f))
    | .inr (v, q) => some (1, hs (hs h 18 4 (nI v)) 18 2 (nI q))) := by
  have fl : ∀ f : Nat, (bnd (fX4_faulty (nI f) h) fun v6 h5 => chk (v6 = 0 ∨ v6 = 1) (some (v6, h5))) = some (0, hs h 18 3 (nI f)) := by
    intro f
    unfold fX4_faulty
    rw [sto_e, bnd_e]
    exact c01_0
  have f1 := fl 1
  have f2 := fl 2
  rw [show nI 1 = 1 from rfl] at f1
  rw [show nI 2 = 2 from rfl] at f2
  unfold fX4_readNumber rN
  rw [vl_e, t.2.2.2.1, show FU = 1996 + 1 + 1 + 1 + 1 from rfl, show (fX4_readNumber_L11 (nI p) (nI lo) (nI hi) (1996 + 1 + 1 + 1 + 1) 0 0 h) = (fX4_readNumber_L11 (nI p) (nI lo) (nI hi) (1996 + 1 + 1 + 1 + 1) 0 (nI 0) h) from rfl]
  -- what follows a number of c figures
  have fin : ∀ v c : Nat, v < 200 → 1 ≤ c → c < 3 → (if nI c = 0 then (bnd (fX4_faulty (1) h) fun v6 h5 => (chk (v6 = 0 ∨ v6 = 1) (some (v6, h5)))) else (if nI c = (3) then (bnd (fX4_faulty (1) h) fun v8 h7 => (chk (v8 = 0 ∨ v8 = 1) (some (v8, h7)))) else (if nI v < nI lo then (bnd (fX4_faulty (2) h) fun v10 h9 => (chk (v10 = 0 ∨ v10 = 1) (some (v10, h9)))) else (if nI hi < nI v then (bnd (fX4_faulty (2) h) fun v12 h11 => (chk (v12 = 0 ∨ v12 = 1) (some (v12, h11)))) else (sto (hs h 18 4 (nI v)) fun h13 => (sto (hs h13 18 2 (nI p + nI c)) fun h14 => (some (1, h14)))))))) = (match (if lo ≤ v ∧ v ≤ hi then (.inr (v, p + c) : (Nat × Nat) ⊕ (Nat × Nat)) else .inl (2, p)) with
    | .inl (f, _) => some (0, hs h 18 3 (nI f))
    | .inr (v, q) => some (1, hs (hs h 18 4 (nI v)) 18 2 (nI q))) := by
    intro v c hv c1 c3
    rw [if_neg (nI_ne0 (by omega) (by omega)), if_neg (show ¬ nI c = 3 from fun w => absurd ((nI_eq (b := 3) (by omega) (by omega)).mp w) (by omega)), ite_lt (by omega) (by omega), ite_lt (by omega) (by omega), f2]
    by_cases a : v < lo
    · rw [if_pos a, if_neg (by omega)]; rfl
    · rw [if_neg a]
      by_cases b : hi < v
      · rw [if_pos b, if_neg (by omega)]; rfl
      · rw [if_neg b, if_pos (by omega), sto_e, sto_e, nI_add]
  cases d0 : isd n bb p with
  | false =>
    rw [num_stop t (by omega) (by rw [Nat.add_zero]; exact d0), if_pos rfl, if_pos (show nI 0 = 0 from rfl), f1]; rfl
  | true =>
    have g0 := isd_lt d0
    rw [num_step t (by omega) (by rw [Nat.add_zero]; exact d0), show p + 0 = p from rfl, d1_at g0.2.1 g0.2.2, if_neg (show ¬ (true = false) by decide)]
    cases d1 : isd n bb (p + 1) with
    | false =>
      rw [num_stop t (by omega) d1, if_pos rfl]
      exact fin (bb p - 48) 1 (by omega) (by omega) (by omega)
    | true =>
      have g1 := isd_lt d1
      rw [num_step t (by omega) d1, show p + (0 + 1) = p + 1 from rfl, d2_at g1.2.1, if_neg (show ¬ (true = false) by decide)]
      cases d2 : isd n bb (p + 2) with
      | false =>
        rw [num_stop t (by omega) d2, if_pos rfl]
        exact fin (10 * (bb p - 48) + (bb (p + 1) - 48)) 2 (by omega) (by omega) (by omega)
      | true =>
        rw [num_step t (by omega) d2, fX4_readNumber_L11, if_neg (show ¬ nI (0 + 1 + 1 + 1) < 3 by decide), if_neg (show ¬ nI (0 + 1 + 1 + 1) = 0 by decide), if_pos (show nI (0 + 1 + 1 + 1) = 3 by decide), if_neg (show ¬ (true = false) by decide), f1]; rfl
