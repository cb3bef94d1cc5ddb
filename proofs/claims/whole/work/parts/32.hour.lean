/-! An hour, told by numbers. -/
def onw (e : Nat → Int32) (s : Int32) (p : Nat) : Bool := decide (0 < sd e p) && (decide (pa e p < e 1) && !decide (pa e p < e 1 - s))
/-- of the first n piers the one that is met by a speed -/
def mtl (e : Nat → Int32) (s : Int32) : Nat → Option Nat
  | 0 => none
  | n + 1 => if onw e s n then (match mtl e s n with
    | none => some n
    | some b => if pa e b < pa e n then some n else some b) else mtl e s n
theorem mtl_lt {e : Nat → Int32} {s : Int32} : ∀ {n b : Nat}, mtl e s n = some b → b < n ∧ onw e s b = true := by
  intro n
  induction n with
  | zero => intro b h; cases h
  | succ n ih =>
    intro b h
    unfold mtl at h
    by_cases q : onw e s n = true
    · rw [if_pos q] at h
      cases hm : mtl e s n with
      | none => rw [hm] at h; cases h; exact ⟨by omega, q⟩
      | some c =>
        rw [hm] at h
        by_cases q2 : pa e c < pa e n
        · simp only [if_pos q2] at h; cases h; exact ⟨by omega, q⟩
        · simp only [if_neg q2] at h; cases h; exact ⟨by have := (ih hm).1; omega, (ih hm).2⟩
    · rw [if_neg q] at h
      exact ⟨by have := (ih h).1; omega, (ih h).2⟩
def nOut (e : Nat → Int32) (P : Nat) (s : Int32) : Int32 := match mtl e s P with
  | none => if s < e 1 then e 1 - s else 0
  | some p => pa e p + 1
def nSd (e : Nat → Int32) (P : Nat) (s : Int32) (p : Nat) : Int32 := if mtl e s P = some p then (if s - (e 1 - (pa e p + 1)) < sd e p then sd e p - (s - (e 1 - (pa e p + 1))) else 0) else sd e p
def fr1 (e : Nat → Int32) (t : Nat) : Int32 := if rp e t < drw e t then fr e t + 1 else fr e t
def lim (e : Nat → Int32) (t : Nat) : Int32 := if kn e t = 3 then 6 else 3
/-- the rope of one that holds parts -/
def prt (e : Nat → Int32) (s : Int32) (t : Nat) : Bool := !decide (fr1 e t < lim e t) || (decide (kn e t = 5) && decide (4 < s))
def nFr (e : Nat → Int32) (s : Int32) (t : Nat) : Int32 := if ho e t = 1 then (if prt e s t then 0 else fr1 e t) else fr e t
def nHo (e : Nat → Int32) (s : Int32) (t : Nat) : Int32 := if ho e t = 1 then (if prt e s t then 0 else 1) else ho e t
def spF (e : Nat → Int32) (T : Nat) (fog : Int32) : Int32 := spd e (if fog = 0 then sumD e T else sumD e T / 2)
def hourS (e : Nat → Int32) (T P : Nat) (s : Int32) : Nat → Int32 := fun j => if j = 1 then nOut e P s else if j = 4 then e 4 + 1 else
  if 5 ≤ j ∧ j < 5 + 5 * T then (if j % 5 = 3 then nFr e s ((j - 5) / 5) else if j % 5 = 4 then nHo e s ((j - 5) / 5) else e j) else
  if 35 ≤ j ∧ j < 35 + 2 * P then (if j % 2 = 0 then nSd e P s ((j - 35) / 2) else e j) else e j
def hourR (e : Nat → Int32) (T P : Nat) (fog : Int32) : Nat → Int32 := hourS e T P (spF e T fog)
theorem hS_0 (e : Nat → Int32) (T P : Nat) (s : Int32) : hourS e T P s 0 = e 0 := by simp [hourS]
theorem hS_1 (e : Nat → Int32) (T P : Nat) (s : Int32) : hourS e T P s 1 = nOut e P s := by simp [hourS]
theorem hS_2 (e : Nat → Int32) (T P : Nat) (s : Int32) : hourS e T P s 2 = e 2 := by simp [hourS]
theorem hS_3 (e : Nat → Int32) (T P : Nat) (s : Int32) : hourS e T P s 3 = e 3 := by simp [hourS]
theorem hS_4 (e : Nat → Int32) (T P : Nat) (s : Int32) : hourS e T P s 4 = e 4 + 1 := by simp [hourS]
theorem hS_kn (e : Nat → Int32) {T P t : Nat} (s : Int32) (hT : T ≤ 6) (ht : t < T) : kn (hourS e T P s) t = kn e t := by
  show hourS e T P s (5 + 5 * t) = e (5 + 5 * t)
  unfold hourS
  rw [if_neg (by omega), if_neg (by omega), if_pos (by omega), if_neg (by omega), if_neg (by omega)]
theorem hS_pl (e : Nat → Int32) {T P t : Nat} (s : Int32) (hT : T ≤ 6) (ht : t < T) : pl (hourS e T P s) t = pl e t := by
  show hourS e T P s (6 + 5 * t) = e (6 + 5 * t)
  unfold hourS
  rw [if_neg (by omega), if_neg (by omega), if_pos (by omega), if_neg (by omega), if_neg (by omega)]
theorem hS_rp (e : Nat → Int32) {T P t : Nat} (s : Int32) (hT : T ≤ 6) (ht : t < T) : rp (hourS e T P s) t = rp e t := by
  show hourS e T P s (7 + 5 * t) = e (7 + 5 * t)
  unfold hourS
  rw [if_neg (by omega), if_neg (by omega), if_pos (by omega), if_neg (by omega), if_neg (by omega)]
theorem hS_fr (e : Nat → Int32) {T P t : Nat} (s : Int32) (hT : T ≤ 6) (ht : t < T) : fr (hourS e T P s) t = nFr e s t := by
  show hourS e T P s (8 + 5 * t) = _
  unfold hourS
  rw [if_neg (by omega), if_neg (by omega), if_pos (by omega), if_pos (by omega), show (8 + 5 * t - 5) / 5 = t by omega]
theorem hS_ho (e : Nat → Int32) {T P t : Nat} (s : Int32) (hT : T ≤ 6) (ht : t < T) : ho (hourS e T P s) t = nHo e s t := by
  show hourS e T P s (9 + 5 * t) = _
  unfold hourS
  rw [if_neg (by omega), if_neg (by omega), if_pos (by omega), if_neg (by omega), if_pos (by omega), show (9 + 5 * t - 5) / 5 = t by omega]
theorem hS_pa (e : Nat → Int32) {T P p : Nat} (s : Int32) (hT : T ≤ 6) (hp : p < P) : pa (hourS e T P s) p = pa e p := by
  show hourS e T P s (35 + 2 * p) = e (35 + 2 * p)
  unfold hourS
  rw [if_neg (by omega), if_neg (by omega), if_neg (by omega), if_pos (by omega), if_neg (by omega)]
theorem hS_sd (e : Nat → Int32) {T P p : Nat} (s : Int32) (hT : T ≤ 6) (hp : p < P) : sd (hourS e T P s) p = nSd e P s p := by
  show hourS e T P s (36 + 2 * p) = _
  unfold hourS
  rw [if_neg (by omega), if_neg (by omega), if_neg (by omega), if_pos (by omega), if_pos (by omega), show (36 + 2 * p - 35) / 2 = p by omega]
/-! numbers within bounds -/
theorem sum_nat {e : Nat → Int32} {T P B : Nat} (hg : Gd e T P B) (hB : B ≤ 20000) : ∀ n, n ≤ T → ∃ k, k ≤ 25 * n ∧ sumD e n = nI k := by
  intro n
  induction n with
  | zero => exact fun _ => ⟨0, by omega, rfl⟩
  | succ n ih =>
    intro hn
    obtain ⟨k, hk, ek⟩ := ih (by omega)
    obtain ⟨-, -, -, ⟨q, hq, e4⟩, htg, -⟩ := hg
    obtain ⟨hkn, ⟨u, hu1, hu2, eu⟩, -⟩ := htg n (by omega)
    have key : ∃ d, d ≤ 25 ∧ drw e n = nI d := by
      unfold drw
      by_cases h1 : ho e n = 0
      · rw [if_pos h1]; exact ⟨0, by omega, rfl⟩
      · rw [if_neg h1]
        by_cases h2 : kn e n = 1
        · rw [if_pos h2]; exact ⟨u, by omega, eu⟩
        · rw [if_neg h2]
          by_cases h3 : kn e n = 2
          · rw [if_pos h3]
            by_cases h4 : e 4 - e 4 / 2 * 2 = 1
            · rw [if_pos h4, eu]
              exact ⟨u / 2, by omega, pk_div (d := 2) (by omega) (by omega) (by omega)⟩
            · rw [if_neg h4]; exact ⟨u, by omega, eu⟩
          · rw [if_neg h3]
            by_cases h4 : kn e n = 3
            · rw [if_pos h4, e4, eu]
              show ∃ d, d ≤ 25 ∧ (if nI 20 < nI q then nI u + nI 5 else nI u + nI q / nI 4) = nI d
              rw [ite_lt (by omega) (by omega), pk_div (by omega) (by omega) (by omega), nI_add, nI_add]
              by_cases h5 : 20 < q
              · rw [if_pos h5]; exact ⟨u + 5, by omega, rfl⟩
              · rw [if_neg h5]; exact ⟨u + q / 4, by omega, rfl⟩
            · rw [if_neg h4]
              by_cases h5 : e 4 - e 4 / 3 * 3 = 0
              · rw [if_pos h5]; exact ⟨0, by omega, rfl⟩
              · rw [if_neg h5]; exact ⟨u, by omega, eu⟩
    obtain ⟨d, hd, ed⟩ := key
    exact ⟨k + d, by omega, by unfold sumD; rw [ek, ed, nI_add]⟩
theorem spd_nat {e : Nat → Int32} {T P B f : Nat} (hg : Gd e T P B) (hf : f ≤ 150) : ∃ s, s ≤ 9 ∧ spd e (nI f) = nI s := by
  obtain ⟨-, ⟨m, hm1, hm2, e0⟩, -⟩ := hg
  unfold spd
  by_cases h1 : e 1 = 0
  · rw [if_pos h1]; exact ⟨0, by omega, rfl⟩
  · rw [if_neg h1, e0]
    show ∃ s, s ≤ 9 ∧ (if nI 9 < nI 4 * nI f / nI m then nI 9 else nI 4 * nI f / nI m) = nI s
    have hd : 4 * f / m ≤ 4 * f := Nat.div_le_self _ _
    rw [pk_mul, pk_div (by omega) (by omega) (by omega), ite_lt (by omega) (by omega)]
    by_cases h2 : 9 < 4 * f / m
    · rw [if_pos h2]; exact ⟨9, by omega, rfl⟩
    · rw [if_neg h2]; exact ⟨4 * f / m, by omega, rfl⟩
theorem spF_nat {e : Nat → Int32} {T P B : Nat} (hg : Gd e T P B) (hB : B ≤ 20000) (fog : Int32) : ∃ s, s ≤ 9 ∧ spF e T fog = nI s := by
  obtain ⟨k, hk, ek⟩ := sum_nat hg hB T (Nat.le_refl T)
  have hT := hg.1.2.1
  unfold spF
  by_cases h : fog = 0
  · rw [if_pos h, ek]; exact spd_nat hg (by omega)
  · rw [if_neg h, ek]
    have : nI k / (2 : Int32) = nI (k / 2) := pk_div (d := 2) (by omega) (by omega) (by omega)
    rw [this]
    exact spd_nat hg (by omega)
