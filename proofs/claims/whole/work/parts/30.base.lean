/-! Pure part: what the functions of the parts before do, by rows of numbers. -/
theorem chk_p {α : Type} {c : Prop} {inst : Decidable c} {o : Option α} (h : c) : @chk α c inst o = o := by unfold chk; rw [if_pos h]
theorem inb_n {k n : Nat} (h : k < n) (hn : n < 2 ^ 31) : inb (nI k) n := nI_in h hn
theorem bnd_s {β γ : Type} {v : β} {h : AH} {g : β → AH → Option γ} : bnd (some (v, h)) g = g v h := rfl
theorem sto_d {β : Type} (h : AH) (k : AH → β) : sto h k = k h := rfl
theorem vl_d {α β : Type} (v : α) (k : α → β) : vl v k = k v := rfl
theorem hs_k (h : AH) (k j : Nat) (v : Int32) : hs h k j v k = upd (h k) j v := by simp [hs, hr]
theorem hs_q (h : AH) {k q : Nat} (j : Nat) (v : Int32) (e : q ≠ k) : hs h k j v q = h q := by simp [hs, hr, e]
theorem hs_kj (h : AH) (k j : Nat) (v : Int32) : hs h k j v k j = v := by simp [hs, hr, upd]
theorem hs_ki (h : AH) (k : Nat) {i j : Nat} (v : Int32) (e : i ≠ j) : hs h k j v k i = h k i := by simp [hs, hr, upd, e]
theorem upd_s (f : Nat → Int32) (k : Nat) (x : Int32) : upd f k x k = x := by simp [upd]
theorem upd_n (f : Nat → Int32) {k j : Nat} (x : Int32) (h : j ≠ k) : upd f k x j = f j := by simp [upd, h]
theorem ne_2 : ¬ (2 : Int32) = 0 := by decide
theorem ne_3 : ¬ (3 : Int32) = 0 := by decide
theorem ne_4 : ¬ (4 : Int32) = 0 := by decide
theorem ne_24 : ¬ (24 : Int32) = 0 := by decide
theorem fu_s {m : Nat} (h : m < FU) : ∃ f, FU = f + 1 := ⟨FU - 1, by unfold FU; rfl⟩
theorem FU_big : 1500 < FU := by decide
theorem fuel_s {m f : Nat} (h : m < f) : ∃ g, f = g + 1 ∧ m ≤ g := ⟨f - 1, by omega, by omega⟩
/-! The numbers of an estuary, as the reference lays them in a row. -/
abbrev kn (e : Nat → Int32) (t : Nat) : Int32 := e (5 + 5 * t)
abbrev pl (e : Nat → Int32) (t : Nat) : Int32 := e (6 + 5 * t)
abbrev rp (e : Nat → Int32) (t : Nat) : Int32 := e (7 + 5 * t)
abbrev fr (e : Nat → Int32) (t : Nat) : Int32 := e (8 + 5 * t)
abbrev ho (e : Nat → Int32) (t : Nat) : Int32 := e (9 + 5 * t)
abbrev pa (e : Nat → Int32) (p : Nat) : Int32 := e (35 + 2 * p)
abbrev sd (e : Nat → Int32) (p : Nat) : Int32 := e (36 + 2 * p)
def drw (e : Nat → Int32) (t : Nat) : Int32 := if ho e t = 0 then 0 else if kn e t = 1 then pl e t else if kn e t = 2 then (if e 4 - e 4 / 2 * 2 = 1 then pl e t / 2 else pl e t) else if kn e t = 3 then (if 20 < e 4 then pl e t + 5 else pl e t + e 4 / 4) else if e 4 - e 4 / 3 * 3 = 0 then 0 else pl e t
def sumD (e : Nat → Int32) : Nat → Int32
  | 0 => 0
  | n + 1 => sumD e n + drw e n
/-- what numbers an estuary may have: T tugs, P piers, its hour B at most -/
def Gd (e : Nat → Int32) (T P B : Nat) : Prop := (1 ≤ T ∧ T ≤ 6 ∧ P ≤ 4 ∧ e 2 = nI T ∧ e 3 = nI P) ∧ (∃ m, 1 ≤ m ∧ m ≤ 60 ∧ e 0 = nI m) ∧ (∃ o, o ≤ 99 ∧ e 1 = nI o) ∧ (∃ q, q ≤ B ∧ e 4 = nI q) ∧
  (∀ t, t < T → (∃ k, 1 ≤ k ∧ k ≤ 5 ∧ kn e t = nI k) ∧ (∃ k, 1 ≤ k ∧ k ≤ 20 ∧ pl e t = nI k) ∧ (∃ k, 1 ≤ k ∧ k ≤ 20 ∧ rp e t = nI k) ∧ (∃ k, k ≤ 5 ∧ fr e t = nI k) ∧ ((ho e t = 0 ∧ fr e t = 0) ∨ ho e t = 1)) ∧
  (∀ p, p < P → (∃ k, k ≤ 98 ∧ pa e p = nI k) ∧ (∃ k, k ≤ 20 ∧ sd e p = nI k))
/-- m is the set of those of the first T that hold -/
def Hb (e : Nat → Int32) (T m : Nat) : Prop := m < 2 ^ T ∧ ∀ t, t < T → m.testBit t = decide (ho e t = 1)
/-- the class's estuary at r has the numbers e -/
def EstC (e : Nat → Int32) (T P : Nat) (h : AH) (r : Nat) : Prop := kd r = 2 ∧ (h r 0 = nI T ∧ h r 1 = nI P ∧ h r 2 = e 0 ∧ h r 3 = e 1 ∧ h r 4 = e 4 ∧ ∃ m, h r 5 = nI m ∧ Hb e T m) ∧
  (∀ t, t < T → h (r + 1) t = kn e t ∧ h (r + 2) t = pl e t ∧ h (r + 3) t = rp e t ∧ h (r + 4) t = fr e t) ∧ (∀ p, p < P → h (r + 5) p = pa e p ∧ h (r + 6) p = sd e p)
theorem bit_at : ∀ m, m < 64 → ∀ t, t < 6 → ((nI m >>> (nI t &&& 31)) &&& (1 : Int32)) = (if m.testBit t then 1 else 0) := by decide +kernel
theorem Hb.lt {e : Nat → Int32} {T m : Nat} (h : Hb e T m) (hT : T ≤ 6) : m < 64 := Nat.lt_of_lt_of_le h.1 (Nat.pow_le_pow_right (by decide) hT)
theorem xHolds {e : Nat → Int32} {T P : Nat} {h : AH} {r t : Nat} (he : EstC e T P h r) (hT : T ≤ 6) (ht : t < T) : fX2_holds r (nI t) h = some ((if ho e t = 1 then 1 else 0), h) := by
  obtain ⟨-, ⟨-, -, -, -, -, m, hm, hb⟩, -⟩ := he
  unfold fX2_holds
  rw [hm, bit_at m (hb.lt hT) t (by omega), hb.2 t ht]
  by_cases q : ho e t = 1
  · simp [q]
  · simp [q]
