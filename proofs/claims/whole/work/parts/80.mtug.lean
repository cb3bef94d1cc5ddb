/-! The reference reads a tug, a pier. -/
def Mf (h h' : AH) : Prop := (∀ k, k ≠ 278 → k ≠ 285 → h' k = h k) ∧ ∀ j, (j < 9 ∨ 12 < j) → h' 278 j = h 278 j
theorem Mf.rf (h : AH) : Mf h h := ⟨fun _ _ _ => rfl, fun _ _ => rfl⟩
theorem Mf.tr {h h1 h2 : AH} (a : Mf h h1) (b : Mf h1 h2) : Mf h h2 := ⟨fun k x y => (b.1 k x y).trans (a.1 k x y), fun j hj => (b.2 j hj).trans (a.2 j hj)⟩
theorem Tf.mf {h h' : AH} (a : Tf h h') : Mf h h' := ⟨fun k x _ => a.1 k x, a.2⟩
theorem Mf.w {h h' : AH} (t : Mf h h') (w : h 278 8 = -1) : h' 278 8 = -1 := by rw [t.2 8 (by omega)]; exact w
def Fl (h h' : AH) (f pl : Nat) : Prop := (∀ k, k ≠ 278 → k ≠ 285 → h' k = h k) ∧ (∀ j, (j < 7 ∨ 12 < j) → h' 278 j = h 278 j) ∧ h' 278 8 = nI pl ∧ h' 278 7 = nI f ∧ ¬ h' 278 8 < 0
theorem Flt.fl {h h' : AH} {f pl : Nat} (b : Flt h h' f pl) (hp : pl < 2 ^ 31) : Fl h h' f pl := ⟨fun _ x _ => b.k x, fun _ x => b.j x, b.e8, b.e7, b.nw hp⟩
theorem Fl.pre {h h0 h' : AH} {f pl : Nat} (a : Mf h h0) (b : Fl h0 h' f pl) : Fl h h' f pl := ⟨fun k x y => (b.1 k x y).trans (a.1 k x y), fun j hj => (b.2.1 j hj).trans (a.2 j (by omega)), b.2.2⟩
theorem Fl.w5 {h h' : AH} {f pl : Nat} (b : Fl h h' f pl) (j : Nat) (v : Int32) : Fl h (hs h' 285 j v) f pl := by
  refine ⟨fun k x y => (hs_q _ _ _ y).trans (b.1 k x y), fun i hi => ?_, ?_, ?_, ?_⟩
  · rw [hs_q _ _ _ (by decide)]; exact b.2.1 i hi
  · rw [hs_q _ _ _ (by decide)]; exact b.2.2.1
  · rw [hs_q _ _ _ (by decide)]; exact b.2.2.2.1
  · rw [hs_q _ _ _ (by decide)]; exact b.2.2.2.2
theorem kdN_let {b : Nat} (h : kdN b ≠ 0) : 97 ≤ b ∧ b ≤ 122 := by
  unfold kdN at h
  by_cases h1 : b = 97
  · omega
  rw [if_neg h1] at h
  by_cases h2 : b = 98
  · omega
  rw [if_neg h2] at h
  by_cases h3 : b = 108
  · omega
  rw [if_neg h3] at h
  by_cases h4 : b = 112
  · omega
  rw [if_neg h4] at h
  by_cases h5 : b = 115
  · omega
  rw [if_neg h5] at h
  exact absurd rfl h
theorem mKind {b : Nat} (hb : b ≤ 255) (h : AH) : fX6_kindOf (nI b) h = some (nI (kdN b), h) := by
  have q : ∀ x : Nat, x ≤ 255 → (nI b = nI x ↔ b = x) := fun x hx => nI_eq (by omega) (by omega)
  unfold fX6_kindOf kdN
  by_cases a4 : b = 112
  · rw [if_pos (show nI b = 112 from (q 112 (by omega)).mpr a4), a4]; rfl
  rw [if_neg (show ¬ nI b = 112 from fun w => a4 ((q 112 (by omega)).mp w)), if_neg a4]
  by_cases a3 : b = 108
  · rw [if_pos (show nI b = 108 from (q 108 (by omega)).mpr a3), a3]; rfl
  rw [if_neg (show ¬ nI b = 108 from fun w => a3 ((q 108 (by omega)).mp w)), if_neg a3]
  by_cases a5 : b = 115
  · rw [if_pos (show nI b = 115 from (q 115 (by omega)).mpr a5), a5]; rfl
  rw [if_neg (show ¬ nI b = 115 from fun w => a5 ((q 115 (by omega)).mp w)), if_neg a5]
  by_cases a1 : b = 97
  · rw [if_pos (show nI b = 97 from (q 97 (by omega)).mpr a1), if_pos a1]; rfl
  rw [if_neg (show ¬ nI b = 97 from fun w => a1 ((q 97 (by omega)).mp w)), if_neg a1]
  by_cases a2 : b = 98
  · rw [if_pos (show nI b = 98 from (q 98 (by omega)).mpr a2), if_pos a2]; rfl
  rw [if_neg (show ¬ nI b = 98 from fun w => a2 ((q 98 (by omega)).mp w)), if_neg a2]
  rfl
theorem rP_pl {n lo hi p f pl : Nat} {bb : Nat → Nat} (hp : p ≤ n) (h : rP n bb lo hi p = .inl (f, pl)) : pl ≤ n + 1 := by
  unfold rP at h
  cases r1 : rN n bb lo hi p with
  | inl a => rw [r1] at h; simp only [sbd] at h; cases h; have := (rN_pl r1).1; omega
  | inr a =>
    rw [r1] at h; simp only [sbd] at h
    have g1 := rN_le r1
    cases r2 : rF n bb 1 20 a.2 with
    | inl b => rw [r2] at h; simp only [] at h; cases h; have := rF_pl r2; omega
    | inr b =>
      rw [r2] at h; simp only [] at h
      have g2 := rF_le r2
      cases r3 : rS n bb 59 b.2 with
      | inl c => rw [r3] at h; simp only [] at h; cases h; have := (rS_pl r3).1; omega
      | inr c => rw [r3] at h; simp only [] at h; cases h
/-- what is read of a tug, a pier: two numbers and the end; then E -/
theorem mPair {h : AH} {n p lo hi : Nat} {bb : Nat → Nat} {E : Int32 → Int32 → AH → Option (Unit × AH)} (m : MT h n bb p) (w : h 278 8 = -1) (hl : lo ≤ 100) (hh : hi ≤ 100) (bad : ∀ a b g, ¬ g 278 8 < 0 → E a b g = some ((), g)) : match rP n bb lo hi p with
    | .inl (f, pl) => ∃ h', (bnd (fX6_figure (nI lo) (nI hi) h) fun v7 h6 => bnd (fX6_follows 1 20 h6) fun v9 h8 => bnd (if h8 278 11 = 4 then fX6_takes 1 1 h8 else fX6_takes 0 1 h8) fun _ h10 => E v7 v9 h10) = some ((), h') ∧ Fl h h' f pl ∧ h' 285 = h 285
    | .inr (v, u, q) => ∃ h', (bnd (fX6_figure (nI lo) (nI hi) h) fun v7 h6 => bnd (fX6_follows 1 20 h6) fun v9 h8 => bnd (if h8 278 11 = 4 then fX6_takes 1 1 h8 else fX6_takes 0 1 h8) fun _ h10 => E v7 v9 h10) = E (nI v) (nI u) h' ∧ MT h' n bb q ∧ Tf h h' := by
  have hn := m.1.1
  have hp := m.2.1
  have tk : ∀ g : AH, ¬ g 278 8 < 0 → (if g 278 11 = 4 then fX6_takes 1 1 g else fX6_takes 0 1 g) = some (0, g) := by
    intro g hg
    rw [bTakes hg, bTakes hg]
    split <;> rfl
  have M := mFigure m w hl hh
  unfold rP
  cases r1 : rN n bb lo hi p with
  | inl a =>
    obtain ⟨f, pl⟩ := a
    rw [r1] at M
    obtain ⟨h1, k1, k2⟩ := M
    have pe := (rN_pl r1).1
    have nw := k2.nw (by omega)
    simp only [sbd]
    refine ⟨h1, ?_, k2.fl (by omega), k2.k (by decide)⟩
    rw [k1, bnd_e, bFollows nw, bnd_e, tk h1 nw, bnd_e, bad _ _ _ nw]
  | inr a =>
    obtain ⟨v, q⟩ := a
    rw [r1] at M
    obtain ⟨h1, k1, m1, t1⟩ := M
    have g1 := rN_le r1
    simp only [sbd]
    rw [k1, bnd_e]
    have N := mFollows (lo := 1) (hi := 20) m1 (t1.w w) (by omega) (by omega)
    rw [show nI 1 = 1 from rfl, show nI 20 = 20 from rfl] at N
    cases r2 : rF n bb 1 20 q with
    | inl b =>
      obtain ⟨f, pl⟩ := b
      rw [r2] at N
      obtain ⟨h2, k2, k3⟩ := N
      have pe := rF_pl r2
      have nw := k3.nw (by omega)
      simp only []
      refine ⟨h2, ?_, (k3.fl (by omega)).pre t1.mf, (k3.k (by decide)).trans (t1.1 285 (by decide))⟩
      rw [k2, bnd_e, tk h2 nw, bnd_e, bad _ _ _ nw]
    | inr b =>
      obtain ⟨u, q2⟩ := b
      rw [r2] at N
      obtain ⟨h2, k2, m2, t2⟩ := N
      have g2 := rF_le r2
      simp only []
      rw [k2, bnd_e]
      have S := mSign m2 ((t1.tr t2).w w) (by omega) (tk4 (n := n) (p := q2) (bb := bb))
      cases r3 : rS n bb 59 q2 with
      | inl c =>
        obtain ⟨f, pl⟩ := c
        rw [r3] at S
        obtain ⟨h3, k3, k4⟩ := S
        have pe := (rS_pl r3).1
        have nw := k4.nw (by omega)
        simp only []
        refine ⟨h3, ?_, (k4.fl (by omega)).pre (t1.tr t2).mf, (k4.k (by decide)).trans ((t1.tr t2).1 285 (by decide))⟩
        rw [k3, bnd_e, bad _ _ _ nw]
      | inr q3 =>
        rw [r3] at S
        obtain ⟨h3, v3, k3, m3, t3⟩ := S
        simp only []
        refine ⟨h3, ?_, m3, (t1.tr t2).tr t3⟩
        rw [k3, bnd_e]
def tE (z v2 v7 v9 : Int32) (h10 : AH) : Option (Unit × AH) := (bnd (fX6_isWell  h10) fun v13 h12 => (if v13 = 0 then (some ((), h12)) else (chk (inb z (ln 285)) (sto (hs h12 285 (Int32.toNatClampNeg z) v2) fun h14 => (chk (inb (z + (1 : Int32)) (ln 285)) (sto (hs h14 285 (Int32.toNatClampNeg (z + (1 : Int32))) v7) fun h15 => (chk (inb (z + (2 : Int32)) (ln 285)) (sto (hs h15 285 (Int32.toNatClampNeg (z + (2 : Int32))) v9) fun h16 => (chk (inb (z + (4 : Int32)) (ln 285)) (sto (hs h16 285 (Int32.toNatClampNeg (z + (4 : Int32))) (1 : Int32)) fun h17 => (chk (inb (2 : Int32) (ln 285)) (chk (inb (2 : Int32) (ln 285)) (sto (hs h17 285 (Int32.toNatClampNeg (2 : Int32)) ((h17 285 (Int32.toNatClampNeg (2 : Int32))) + (1 : Int32))) fun h18 => (some ((), h18)))))))))))))))
theorem tE_bad {z a b c : Int32} {h : AH} (w : ¬ h 278 8 < 0) : tE z a b c h = some ((), h) := by
  unfold tE
  rw [bad0 w, bnd_e, if0]
theorem tE_well {h : AH} {e : Nat → Int32} {t k v u : Nat} (w : h 278 8 = -1) (he : h 285 = e) (e2 : e 2 = nI t) (ht : t < 6) : ∃ h', tE (nI (5 + 5 * t)) (nI k) (nI v) (nI u) h = some ((), h') ∧ h' 285 = addT e t k v u ∧ ∀ k, k ≠ 285 → h' k = h k := by
  unfold tE
  rw [well1 w, bnd_e, if1, show nI (5 + 5 * t) + (1 : Int32) = nI (6 + 5 * t) from (nI_add (5 + 5 * t) 1).trans (congrArg nI (by omega)), show nI (5 + 5 * t) + (2 : Int32) = nI (7 + 5 * t) from (nI_add (5 + 5 * t) 2).trans (congrArg nI (by omega)), show nI (5 + 5 * t) + (4 : Int32) = nI (9 + 5 * t) from (nI_add (5 + 5 * t) 4).trans (congrArg nI (by omega)),
    cW ln_285 (show 5 + 5 * t < 43 by omega), sto_e, cW ln_285 (show 6 + 5 * t < 43 by omega), sto_e, cW ln_285 (show 7 + 5 * t < 43 by omega), sto_e, cW ln_285 (show 9 + 5 * t < 43 by omega), sto_e, cW2 ln_285, cW2 ln_285, sto_e, cl_2, nI_clamp (show 5 + 5 * t < 2 ^ 31 by omega), nI_clamp (show 6 + 5 * t < 2 ^ 31 by omega), nI_clamp (show 7 + 5 * t < 2 ^ 31 by omega), nI_clamp (show 9 + 5 * t < 2 ^ 31 by omega)]
  refine ⟨_, rfl, ?_, fun k hk => ?_⟩
  · simp (disch := omega) only [hs_k, upd_n]
    unfold addT
    rw [he, e2, nI_1]
  · simp (disch := omega) only [hs_q]
theorem mTugR {h : AH} {n p t : Nat} {bb : Nat → Nat} {e : Nat → Int32} (m : MT h n bb p) (w : h 278 8 = -1) (hz : p < n) (hk : kdN (bb p) ≠ 0) (he : h 285 = e) (e2 : e 2 = nI t) (ht : t < 6) : match rP n bb 1 20 (p + 1) with
    | .inl (f, pl) => ∃ h', fX6_readsTug h = some ((), h') ∧ Fl h h' f pl
    | .inr (v, u, q) => ∃ h', fX6_readsTug h = some ((), h') ∧ MT h' n bb q ∧ Mf h h' ∧ h' 285 = addT e t (kdN (bb p)) v u := by
  have lt := kdN_let hk
  have nd : isd n bb p = false := not_dig (by omega)
  have e := m.2.2.2.2.1 nd hz
  obtain ⟨h3, k1, m3, t3⟩ := mTake m w e.2 (by omega) 3
  have e3 : h3 285 = h 285 := t3.1 285 (by decide)
  have go : fX6_readsTug h = bnd (fX6_figure (nI 1) (nI 20) h3) fun v7 h6 => bnd (fX6_follows 1 20 h6) fun v9 h8 => bnd (if h8 278 11 = 4 then fX6_takes 1 1 h8 else fX6_takes 0 1 h8) fun _ h10 => tE (nI (5 + 5 * t)) (nI (kdN (bb p))) v7 v9 h10 := by
    unfold fX6_readsTug tE
    have l1 : h 285 (Int32.toNatClampNeg 2) < 6 := by rw [cl_2, he, e2]; exact nI_lt (b := 6) ht (by omega)
    have l3 : h3 285 (Int32.toNatClampNeg 2) < 6 := by rw [e3]; exact l1
    have z5 : (5 : Int32) + 5 * h3 285 (Int32.toNatClampNeg 2) = nI (5 + 5 * t) := by
      rw [e3, cl_2, he, e2]
      exact (congrArg (fun x => nI 5 + x) (pk_mul 5 t)).trans (nI_add 5 (5 * t))
    rw [e.1, mKind (by omega), bnd_e, cW2 ln_285, if_pos l1, k1, bnd_e, cW2 ln_285, if_pos l3, cW2 ln_285, z5, vl_e]
    refine congrArg (bnd _) (funext fun v7 => funext fun h6 => congrArg (bnd _) (funext fun v9 => funext fun h8 => ib))
  rw [go]
  have X := mPair (lo := 1) (hi := 20) (E := fun v7 v9 h10 => tE (nI (5 + 5 * t)) (nI (kdN (bb p))) v7 v9 h10) m3 (t3.w w) (by omega) (by omega) (fun a b g hg => tE_bad hg)
  cases r : rP n bb 1 20 (p + 1) with
  | inl a =>
    obtain ⟨f, pl⟩ := a
    rw [r] at X
    obtain ⟨h', j1, j2, j3⟩ := X
    exact ⟨h', j1, j2.pre t3.mf⟩
  | inr a =>
    obtain ⟨v, u, q⟩ := a
    rw [r] at X
    obtain ⟨h', j1, j2, j3⟩ := X
    obtain ⟨h4, i1, i2, i3⟩ := tE_well (h := h') (k := kdN (bb p)) (v := v) (u := u) ((t3.tr j3).w w) (((t3.tr j3).1 285 (by decide)).trans he) e2 ht
    refine ⟨h4, j1.trans i1, ?_, (t3.tr j3).mf.tr ⟨fun k _ y => i3 k y, fun j _ => by rw [i3 278 (by decide)]⟩, i2⟩
    unfold MT
    rw [i3 278 (by decide)]
    exact ⟨j2.1.to (by rw [i3 278 (by decide)]) (i3 283 (by decide)), j2.2⟩
theorem mTugF {h : AH} {n p : Nat} {bb : Nat → Nat} (m : MT h n bb p) (w : h 278 8 = -1) (hz : p < n) (hk : kdN (bb p) ≠ 0) (e2 : h 285 2 = nI 6) : ∃ h', fX6_readsTug h = some ((), h') ∧ Fl h h' 3 p := by
  have lt := kdN_let hk
  have nd : isd n bb p = false := not_dig (by omega)
  have e := m.2.2.2.2.1 nd hz
  have hn := m.1.1
  obtain ⟨h3, k1, f3⟩ := mFault m w 3
  rw [show nI 3 = 3 from rfl] at k1
  have e3 : h3 285 = h 285 := f3.k (by decide)
  have nw := f3.nw (by omega)
  refine ⟨h3, ?_, f3.fl (by omega)⟩
  have bk : ∀ x : Int32, (tE x (nI (kdN (bb p))) 0 0 h3) = some ((), h3) := fun x => tE_bad nw
  unfold tE at bk
  unfold fX6_readsTug
  have l1 : ¬ h 285 (Int32.toNatClampNeg 2) < 6 := by rw [cl_2, e2]; decide
  have l3 : ¬ h3 285 (Int32.toNatClampNeg 2) < 6 := by rw [e3]; exact l1
  rw [e.1, mKind (by omega), bnd_e, cW2 ln_285, if_neg l1, k1, bnd_e, cW2 ln_285, if_neg l3, vl_e, bFigure nw, bnd_e, bFollows nw, bnd_e, bTakes nw, bTakes nw, bnd_e]
  split
  · exact bk _
  · exact bk _
