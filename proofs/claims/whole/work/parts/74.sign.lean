/-! Signs; one reader for both. -/
theorem tk_no {n p : Nat} {bb : Nat → Nat} (h : isd n bb p = false) : tkF n bb p = if p < n then (if 97 ≤ bb p ∧ bb p ≤ 122 then 1 else if bb p = 44 then 3 else if bb p = 59 then 4 else 5) else 0 := by
  unfold tkF
  rw [h, if_neg (show ¬ (false = true) by decide)]
theorem tk_yes {n p : Nat} {bb : Nat → Nat} (h : isd n bb p = true) : tkF n bb p = 5 ∨ tkF n bb p = 2 := by
  unfold tkF
  rw [h, if_pos (show true = true from rfl)]
  split
  · exact Or.inl rfl
  · exact Or.inr rfl
theorem tk3 {n p : Nat} {bb : Nat → Nat} : tkF n bb p = 3 ↔ p < n ∧ bb p = 44 := by
  cases d : isd n bb p with
  | true =>
    have g := isd_lt d
    refine ⟨fun z => ?_, fun z => by omega⟩
    rcases tk_yes d with w | w <;> rw [w] at z <;> exact absurd z (by decide)
  | false =>
    rw [tk_no d]
    by_cases a : p < n
    · rw [if_pos a]
      by_cases b : 97 ≤ bb p ∧ bb p ≤ 122
      · rw [if_pos b]; exact ⟨fun z => absurd z (by decide), fun z => by omega⟩
      · rw [if_neg b]
        by_cases c : bb p = 44
        · rw [if_pos c]; exact ⟨fun _ => ⟨a, c⟩, fun _ => rfl⟩
        · rw [if_neg c]
          by_cases e : bb p = 59
          · rw [if_pos e]; exact ⟨fun z => absurd z (by decide), fun z => by omega⟩
          · rw [if_neg e]; exact ⟨fun z => absurd z (by decide), fun z => by omega⟩
    · rw [if_neg a]; exact ⟨fun z => absurd z (by decide), fun z => by omega⟩
theorem tk4 {n p : Nat} {bb : Nat → Nat} : tkF n bb p = 4 ↔ p < n ∧ bb p = 59 := by
  cases d : isd n bb p with
  | true =>
    have g := isd_lt d
    refine ⟨fun z => ?_, fun z => by omega⟩
    rcases tk_yes d with w | w <;> rw [w] at z <;> exact absurd z (by decide)
  | false =>
    rw [tk_no d]
    by_cases a : p < n
    · rw [if_pos a]
      by_cases b : 97 ≤ bb p ∧ bb p ≤ 122
      · rw [if_pos b]; exact ⟨fun z => absurd z (by decide), fun z => by omega⟩
      · rw [if_neg b]
        by_cases c : bb p = 44
        · rw [if_pos c]; exact ⟨fun z => absurd z (by decide), fun z => by omega⟩
        · rw [if_neg c]
          by_cases e : bb p = 59
          · rw [if_pos e]; exact ⟨fun _ => ⟨a, e⟩, fun _ => rfl⟩
          · rw [if_neg e]; exact ⟨fun z => absurd z (by decide), fun z => by omega⟩
    · rw [if_neg a]; exact ⟨fun z => absurd z (by decide), fun z => by omega⟩
theorem tk1 {n p : Nat} {bb : Nat → Nat} : tkF n bb p = 1 ↔ p < n ∧ 97 ≤ bb p ∧ bb p ≤ 122 := by
  cases d : isd n bb p with
  | true =>
    have g := isd_lt d
    refine ⟨fun z => ?_, fun z => by omega⟩
    rcases tk_yes d with w | w <;> rw [w] at z <;> exact absurd z (by decide)
  | false =>
    rw [tk_no d]
    by_cases a : p < n
    · rw [if_pos a]
      by_cases b : 97 ≤ bb p ∧ bb p ≤ 122
      · rw [if_pos b]; exact ⟨fun _ => ⟨a, b⟩, fun _ => rfl⟩
      · rw [if_neg b]
        by_cases c : bb p = 44
        · rw [if_pos c]; exact ⟨fun z => absurd z (by decide), fun z => by omega⟩
        · rw [if_neg c]
          by_cases e : bb p = 59
          · rw [if_pos e]; exact ⟨fun z => absurd z (by decide), fun z => by omega⟩
          · rw [if_neg e]; exact ⟨fun z => absurd z (by decide), fun z => by omega⟩
    · rw [if_neg a]; exact ⟨fun z => absurd z (by decide), fun z => by omega⟩
theorem tk0 {n p : Nat} {bb : Nat → Nat} : tkF n bb p = 0 ↔ n ≤ p := by
  cases d : isd n bb p with
  | true =>
    have g := isd_lt d
    refine ⟨fun z => ?_, fun z => by omega⟩
    rcases tk_yes d with w | w <;> rw [w] at z <;> exact absurd z (by decide)
  | false =>
    rw [tk_no d]
    by_cases a : p < n
    · rw [if_pos a]
      refine ⟨fun z => ?_, fun z => by omega⟩
      exfalso
      revert z
      split
      · decide
      · split
        · decide
        · split <;> decide
    · rw [if_neg a]; exact ⟨fun _ => by omega, fun _ => rfl⟩
theorem not_dig {n p : Nat} {bb : Nat → Nat} (h : bb p < 48 ∨ 57 < bb p) : isd n bb p = false := by
  cases d : isd n bb p with
  | false => rfl
  | true => have := isd_lt d; omega
theorem ib {c : Prop} {inst : Decidable c} {A B : Option (Int32 × AH)} {γ : Type} {K : Int32 → AH → Option γ} : (@ite _ c inst (bnd A K) (bnd B K)) = bnd (@ite _ c inst A B) K := by
  by_cases z : c
  · rw [if_pos z, if_pos z]
  · rw [if_neg z, if_neg z]
theorem mSign {h : AH} {n p c : Nat} {bb : Nat → Nat} {tk : Int32} (m : MT h n bb p) (w : h 278 8 = -1) (hc : c < 48 ∨ 57 < c) (ht : tkF n bb p = tk ↔ p < n ∧ bb p = c) : match rS n bb c p with
    | .inl (f, pl) => ∃ h', (if h 278 11 = tk then fX6_takes 1 1 h else fX6_takes 0 1 h) = some (0, h') ∧ Flt h h' f pl
    | .inr q => ∃ h' v, (if h 278 11 = tk then fX6_takes 1 1 h else fX6_takes 0 1 h) = some (v, h') ∧ MT h' n bb q ∧ Tf h h' := by
  unfold rS
  by_cases z : p < n ∧ bb p = c
  · rw [if_pos z, if_pos (show h 278 11 = tk by rw [m.2.2.2.1]; exact ht.mpr z)]
    have e := m.2.2.2.2.1 (not_dig (by rw [z.2]; exact hc)) z.1
    obtain ⟨h', k1, m1, t1⟩ := mTake m w e.2 (by omega) 1
    exact ⟨h', _, k1, m1, t1⟩
  · rw [if_neg z, if_neg (show ¬ h 278 11 = tk by rw [m.2.2.2.1]; exact fun y => z (ht.mp y))]
    exact mFault m w 1
def sbd {α β : Type} (x : (Nat × Nat) ⊕ α) (f : α → (Nat × Nat) ⊕ β) : (Nat × Nat) ⊕ β := match x with
  | .inl a => .inl a
  | .inr b => f b
def rF (n : Nat) (bb : Nat → Nat) (lo hi p : Nat) : (Nat × Nat) ⊕ (Nat × Nat) := sbd (rS n bb 44 p) fun q => rN n bb lo hi q
/-- two numbers and the end of what they tell -/
def rP (n : Nat) (bb : Nat → Nat) (lo hi p : Nat) : (Nat × Nat) ⊕ (Nat × Nat × Nat) := sbd (rN n bb lo hi p) fun a => sbd (rF n bb 1 20 a.2) fun b => sbd (rS n bb 59 b.2) fun q => .inr (a.1, b.1, q)
theorem rS_le {n c p q : Nat} {bb : Nat → Nat} (h : rS n bb c p = .inr q) : q ≤ n ∧ q = p + 1 := by
  unfold rS at h
  by_cases z : p < n ∧ bb p = c
  · rw [if_pos z] at h; cases h; omega
  · rw [if_neg z] at h; cases h
theorem Tf.w {h h' : AH} (t : Tf h h') (w : h 278 8 = -1) : h' 278 8 = -1 := by rw [t.2 8 (by omega)]; exact w
theorem Flt.nw {h h' : AH} {f pl : Nat} (b : Flt h h' f pl) (hp : pl < 2 ^ 31) : ¬ h' 278 8 < 0 := by rw [b.e8]; exact n0_lt pl hp
theorem rN_pl {n lo hi p f pl : Nat} {bb : Nat → Nat} (h : rN n bb lo hi p = .inl (f, pl)) : pl = p ∧ f ≤ 2 := by
  unfold rN at h
  cases d0 : isd n bb p with
  | false => rw [d0, if_pos rfl] at h; cases h; exact ⟨rfl, by omega⟩
  | true =>
    rw [d0, if_neg (by decide)] at h
    cases d1 : isd n bb (p + 1) with
    | false =>
      rw [d1, if_pos rfl] at h
      by_cases z : lo ≤ bb p - 48 ∧ bb p - 48 ≤ hi
      · rw [if_pos z] at h; cases h
      · rw [if_neg z] at h; cases h; exact ⟨rfl, by omega⟩
    | true =>
      rw [d1, if_neg (by decide)] at h
      cases d2 : isd n bb (p + 2) with
      | false =>
        rw [d2, if_pos rfl] at h
        by_cases z : lo ≤ 10 * (bb p - 48) + (bb (p + 1) - 48) ∧ 10 * (bb p - 48) + (bb (p + 1) - 48) ≤ hi
        · rw [if_pos z] at h; cases h
        · rw [if_neg z] at h; cases h; exact ⟨rfl, by omega⟩
      | true => rw [d2, if_neg (by decide)] at h; cases h; exact ⟨rfl, by omega⟩
theorem rS_pl {n c p f pl : Nat} {bb : Nat → Nat} (h : rS n bb c p = .inl (f, pl)) : pl = p ∧ f = 1 := by
  unfold rS at h
  by_cases z : p < n ∧ bb p = c
  · rw [if_pos z] at h; cases h
  · rw [if_neg z] at h; cases h; exact ⟨rfl, rfl⟩
theorem mFollows {h : AH} {n p lo hi : Nat} {bb : Nat → Nat} (m : MT h n bb p) (w : h 278 8 = -1) (hl : lo ≤ 100) (hh : hi ≤ 100) : match rF n bb lo hi p with
    | .inl (f, pl) => ∃ h', fX6_follows (nI lo) (nI hi) h = some (0, h') ∧ Flt h h' f pl
    | .inr (v, q) => ∃ h', fX6_follows (nI lo) (nI hi) h = some (nI v, h') ∧ MT h' n bb q ∧ Tf h h' := by
  have b1 : ∀ o : Option (Int32 × AH), bnd o (fun v h => some (v, h)) = o := by intro o; cases o <;> rfl
  have e1 : fX6_follows (nI lo) (nI hi) h = bnd (if h 278 11 = 3 then fX6_takes 1 1 h else fX6_takes 0 1 h) fun v2 h1 => fX6_figure (nI lo) (nI hi) h1 := by
    unfold fX6_follows
    rw [ib]
    congr 1
    funext v2 h1
    exact b1 _
  rw [e1]
  have s := mSign m w (by omega) (tk3 (n := n) (p := p) (bb := bb))
  have hn := m.1.1
  have hp := m.2.1
  unfold rF
  cases r : rS n bb 44 p with
  | inl a =>
    obtain ⟨f, pl⟩ := a
    rw [r] at s
    obtain ⟨h', k1, f1⟩ := s
    have pe := rS_pl r
    refine ⟨h', ?_, f1⟩
    rw [k1, bnd_e, bFigure (f1.nw (by omega))]
  | inr q =>
    rw [r] at s
    obtain ⟨h', v, k1, m1, t1⟩ := s
    have g := mFigure m1 (t1.w w) hl hh
    rw [k1, bnd_e]
    show match rN n bb lo hi q with
      | .inl (f, pl) => ∃ h'', fX6_figure (nI lo) (nI hi) h' = some (0, h'') ∧ Flt h h'' f pl
      | .inr (v, q) => ∃ h'', fX6_figure (nI lo) (nI hi) h' = some (nI v, h'') ∧ MT h'' n bb q ∧ Tf h h''
    cases r2 : rN n bb lo hi q with
    | inl a =>
      obtain ⟨f, pl⟩ := a
      rw [r2] at g
      obtain ⟨h2, k2, f2⟩ := g
      exact ⟨h2, k2, f2.pre t1⟩
    | inr a =>
      obtain ⟨v2, q2⟩ := a
      rw [r2] at g
      obtain ⟨h2, k2, m2, t2⟩ := g
      exact ⟨h2, k2, m2, t1.tr t2⟩
