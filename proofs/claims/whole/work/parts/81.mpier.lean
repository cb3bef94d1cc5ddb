def pE (z v5 v7 : Int32) (h8 : AH) : Option (Unit × AH) := (bnd (fX6_isWell  h8) fun v11 h10 => (if v11 = 0 then (some ((), h10)) else (chk (inb z (ln 285)) (sto (hs h10 285 (Int32.toNatClampNeg z) v5) fun h12 => (chk (inb (z + (1 : Int32)) (ln 285)) (sto (hs h12 285 (Int32.toNatClampNeg (z + (1 : Int32))) v7) fun h13 => (chk (inb (3 : Int32) (ln 285)) (chk (inb (3 : Int32) (ln 285)) (sto (hs h13 285 (Int32.toNatClampNeg (3 : Int32)) ((h13 285 (Int32.toNatClampNeg (3 : Int32))) + (1 : Int32))) fun h14 => (some ((), h14)))))))))))
theorem pE_bad {z a b : Int32} {h : AH} (w : ¬ h 278 8 < 0) : pE z a b h = some ((), h) := by
  unfold pE
  rw [bad0 w, bnd_e, if0]
theorem pE_well {h : AH} {e : Nat → Int32} {t v u : Nat} (w : h 278 8 = -1) (he : h 285 = e) (e2 : e 3 = nI t) (ht : t < 4) : ∃ h', pE (nI (35 + 2 * t)) (nI v) (nI u) h = some ((), h') ∧ h' 285 = addP e t v u ∧ ∀ k, k ≠ 285 → h' k = h k := by
  unfold pE
  rw [well1 w, bnd_e, if1, show nI (35 + 2 * t) + (1 : Int32) = nI (36 + 2 * t) from (nI_add (35 + 2 * t) 1).trans (congrArg nI (by omega)),
    cW ln_285 (show 35 + 2 * t < 43 by omega), sto_e, cW ln_285 (show 36 + 2 * t < 43 by omega), sto_e, cW3 ln_285, cW3 ln_285, sto_e, cl_3, nI_clamp (show 35 + 2 * t < 2 ^ 31 by omega), nI_clamp (show 36 + 2 * t < 2 ^ 31 by omega)]
  refine ⟨_, rfl, ?_, fun k hk => ?_⟩
  · simp (disch := omega) only [hs_k, upd_n]
    unfold addP
    rw [he, e2, nI_1]
  · simp (disch := omega) only [hs_q]
theorem mPierR {h : AH} {n p t : Nat} {bb : Nat → Nat} {e : Nat → Int32} (m : MT h n bb p) (w : h 278 8 = -1) (hz : p < n) (hk : bb p = 113) (he : h 285 = e) (e2 : e 3 = nI t) (ht : t < 4) : match rP n bb 0 98 (p + 1) with
    | .inl (f, pl) => ∃ h', fX6_readsPier h = some ((), h') ∧ Fl h h' f pl
    | .inr (v, u, q) => ∃ h', fX6_readsPier h = some ((), h') ∧ MT h' n bb q ∧ Mf h h' ∧ h' 285 = addP e t v u := by
  have nd : isd n bb p = false := not_dig (by omega)
  have e := m.2.2.2.2.1 nd hz
  obtain ⟨h3, k1, m3, t3⟩ := mTake m w e.2 (by omega) 3
  have e3 : h3 285 = h 285 := t3.1 285 (by decide)
  have go : fX6_readsPier h = bnd (fX6_figure (nI 0) (nI 98) h3) fun v7 h6 => bnd (fX6_follows 1 20 h6) fun v9 h8 => bnd (if h8 278 11 = 4 then fX6_takes 1 1 h8 else fX6_takes 0 1 h8) fun _ h10 => pE (nI (35 + 2 * t)) v7 v9 h10 := by
    unfold fX6_readsPier pE
    have l1 : h 285 (Int32.toNatClampNeg 3) < 4 := by rw [cl_3, he, e2]; exact nI_lt (b := 4) ht (by omega)
    have l3 : h3 285 (Int32.toNatClampNeg 3) < 4 := by rw [e3]; exact l1
    have z5 : (35 : Int32) + 2 * h3 285 (Int32.toNatClampNeg 3) = nI (35 + 2 * t) := by
      rw [e3, cl_3, he, e2]
      exact (congrArg (fun x => nI 35 + x) (pk_mul 2 t)).trans (nI_add 35 (2 * t))
    rw [cW3 ln_285, if_pos l1, k1, bnd_e, cW3 ln_285, if_pos l3, cW3 ln_285, z5, vl_e]
    refine congrArg (bnd _) (funext fun v7 => funext fun h6 => congrArg (bnd _) (funext fun v9 => funext fun h8 => ib))
  rw [go]
  have X := mPair (lo := 0) (hi := 98) (E := fun v7 v9 h10 => pE (nI (35 + 2 * t)) v7 v9 h10) m3 (t3.w w) (by omega) (by omega) (fun a b g hg => pE_bad hg)
  cases r : rP n bb 0 98 (p + 1) with
  | inl a =>
    obtain ⟨f, pl⟩ := a
    rw [r] at X
    obtain ⟨h', j1, j2, j3⟩ := X
    exact ⟨h', j1, j2.pre t3.mf⟩
  | inr a =>
    obtain ⟨v, u, q⟩ := a
    rw [r] at X
    obtain ⟨h', j1, j2, j3⟩ := X
    obtain ⟨h4, i1, i2, i3⟩ := pE_well (h := h') (v := v) (u := u) ((t3.tr j3).w w) (((t3.tr j3).1 285 (by decide)).trans he) e2 ht
    refine ⟨h4, j1.trans i1, ?_, (t3.tr j3).mf.tr ⟨fun k _ y => i3 k y, fun j _ => by rw [i3 278 (by decide)]⟩, i2⟩
    unfold MT
    rw [i3 278 (by decide)]
    exact ⟨j2.1.to (by rw [i3 278 (by decide)]) (i3 283 (by decide)), j2.2⟩
theorem mPierF {h : AH} {n p : Nat} {bb : Nat → Nat} (m : MT h n bb p) (w : h 278 8 = -1) (e2 : h 285 3 = nI 4) : ∃ h', fX6_readsPier h = some ((), h') ∧ Fl h h' 3 p := by
  have hn := m.1.1
  have hp := m.2.1
  obtain ⟨h3, k1, f3⟩ := mFault m w 3
  rw [show nI 3 = 3 from rfl] at k1
  have e3 : h3 285 = h 285 := f3.k (by decide)
  have nw := f3.nw (by omega)
  refine ⟨h3, ?_, f3.fl (by omega)⟩
  have bk : ∀ x : Int32, (pE x 0 0 h3) = some ((), h3) := fun x => pE_bad nw
  unfold pE at bk
  unfold fX6_readsPier
  have l1 : ¬ h 285 (Int32.toNatClampNeg 3) < 4 := by rw [cl_3, e2]; decide
  have l3 : ¬ h3 285 (Int32.toNatClampNeg 3) < 4 := by rw [e3]; exact l1
  rw [cW3 ln_285, if_neg l1, k1, bnd_e, cW3 ln_285, if_neg l3, vl_e, bFigure nw, bnd_e, bFollows nw, bnd_e, bTakes nw, bTakes nw, bnd_e]
  split
  · exact bk _
  · exact bk _
theorem L108_bad {z : Int32} {f : Nat} {h : AH} {k : AH → Option (Int32 × AH)} (w : ¬ h 278 8 < 0) : fX6_estuary_L108 z (f + 1) h k = k h := by
  rw [fX6_estuary_L108, bad0 w, bnd_e, if0]
theorem L158_bad {z : Int32} {f : Nat} {h : AH} {k : AH → Option (Int32 × AH)} (w : ¬ h 278 8 < 0) : fX6_estuary_L158 z (f + 1) h k = k h := by
  rw [fX6_estuary_L158, bad0 w, bnd_e, if0]
/-- the head of the loop over the tugs -/
theorem L108_at {z : Int32} {f n p : Nat} {bb : Nat → Nat} {h : AH} {k : AH → Option (Int32 × AH)} (m : MT h n bb p) (w : h 278 8 = -1) : fX6_estuary_L108 z (f + 1) h k = if p < n ∧ kdN (bb p) ≠ 0 then (bnd (fX6_readsTug h) fun _ h305 => fX6_estuary_L108 z f h305 k) else k h := by
  rw [fX6_estuary_L108, well1 w, bnd_e, if1]
  by_cases a : p < n ∧ 97 ≤ bb p ∧ bb p ≤ 122
  · have e := m.2.2.2.2.1 (not_dig (by omega)) a.1
    rw [if_pos (show h 278 11 = 1 by rw [m.2.2.2.1]; exact tk1.mpr a), e.1, mKind (by omega), bnd_e]
    by_cases b : kdN (bb p) = 0
    · rw [b, if_neg (show ¬ (0 : Int32) < nI 0 by decide), if_neg (fun w => w.2 rfl)]
    · rw [if_pos (show (0 : Int32) < nI (kdN (bb p)) from nI_lt (a := 0) (by omega) (by have := kdN_le (bb p); omega)), if_pos ⟨a.1, b⟩]
  · rw [if_neg (show ¬ h 278 11 = 1 by rw [m.2.2.2.1]; exact fun y => a (tk1.mp y)), if_neg (fun y => a ⟨y.1, kdN_let y.2⟩)]
theorem L158_at {z : Int32} {f n p : Nat} {bb : Nat → Nat} {h : AH} {k : AH → Option (Int32 × AH)} (m : MT h n bb p) (w : h 278 8 = -1) : fX6_estuary_L158 z (f + 1) h k = if p < n ∧ bb p = 113 then (bnd (fX6_readsPier h) fun _ h305 => fX6_estuary_L158 z f h305 k) else k h := by
  rw [fX6_estuary_L158, well1 w, bnd_e, if1]
  by_cases a : p < n ∧ 97 ≤ bb p ∧ bb p ≤ 122
  · have e := m.2.2.2.2.1 (not_dig (by omega)) a.1
    rw [if_pos (show h 278 11 = 1 by rw [m.2.2.2.1]; exact tk1.mpr a), e.1]
    by_cases b : bb p = 113
    · rw [if_pos (show nI (bb p) = 113 by rw [b]; rfl), if_pos ⟨a.1, b⟩]
    · rw [if_neg (show ¬ nI (bb p) = 113 from fun y => b ((nI_eq (b := 113) (by omega) (by omega)).mp y)), if_neg (fun y => b y.2)]
  · rw [if_neg (show ¬ h 278 11 = 1 by rw [m.2.2.2.1]; exact fun y => a (tk1.mp y)), if_neg (fun y => a ⟨y.1, by omega⟩)]
theorem mTugs_L {n : Nat} {bb : Nat → Nat} {z : Int32} {k : AH → Option (Int32 × AH)} : ∀ m t p e f h, t + m = 6 → m + 1 < f → MT h n bb p → h 278 8 = -1 → h 285 = e → e 2 = nI t → match rTs n bb m p e with
    | .inl (x, pl) => ∃ h', fX6_estuary_L108 z f h k = k h' ∧ Fl h h' x pl
    | .inr (t', p', e') => ∃ h', fX6_estuary_L108 z f h k = k h' ∧ MT h' n bb p' ∧ Mf h h' ∧ h' 285 = e' ∧ e' 2 = nI t' := by
  intro m
  induction m with
  | zero =>
    intro t p e f h ht hf c w he e2
    obtain ⟨g, rfl, hg⟩ := fuel_s hf
    have ht : t = 6 := by omega
    subst ht
    unfold rTs
    rw [L108_at c w]
    by_cases a : p < n ∧ kdN (bb p) ≠ 0
    · rw [if_pos a, if_pos a]
      obtain ⟨h', k1, k2⟩ := mTugF c w a.1 a.2 (by rw [he]; exact e2)
      obtain ⟨g2, rfl, -⟩ := fuel_s (show 0 < g by omega)
      rw [k1, bnd_e, L108_bad k2.2.2.2.2]
      exact ⟨h', rfl, k2⟩
    · rw [if_neg a, if_neg a]
      exact ⟨h, rfl, c, Mf.rf h, he, e2⟩
  | succ m ih =>
    intro t p e f h ht hf c w he e2
    obtain ⟨g, rfl, hg⟩ := fuel_s hf
    have et : 5 - m = t := by omega
    unfold rTs
    rw [L108_at c w, et]
    by_cases a : p < n ∧ kdN (bb p) ≠ 0
    · rw [if_pos a, if_pos a]
      have X := mTugR c w a.1 a.2 he e2 (by omega)
      cases r : rP n bb 1 20 (p + 1) with
      | inl q =>
        obtain ⟨y, pl⟩ := q
        rw [r] at X
        obtain ⟨h', k1, k2⟩ := X
        obtain ⟨g2, rfl, -⟩ := fuel_s (show 0 < g by omega)
        simp only [sbd]
        rw [k1, bnd_e, L108_bad k2.2.2.2.2]
        exact ⟨h', rfl, k2⟩
      | inr q =>
        obtain ⟨v, u, q⟩ := q
        rw [r] at X
        obtain ⟨h', k1, k2, k3, k4⟩ := X
        simp only [sbd]
        rw [k1, bnd_e]
        have y := ih (t + 1) q (addT e t (kdN (bb p)) v u) g h' (by omega) (by omega) k2 (k3.w w) k4 (by unfold addT; exact upd_s _ _ _)
        cases r2 : rTs n bb m q (addT e t (kdN (bb p)) v u) with
        | inl s =>
          obtain ⟨y1, y2⟩ := s
          rw [r2] at y
          obtain ⟨h2, j1, j2⟩ := y
          exact ⟨h2, j1, j2.pre k3⟩
        | inr s =>
          obtain ⟨y1, y2, y3⟩ := s
          rw [r2] at y
          obtain ⟨h2, j1, j2, j3, j4⟩ := y
          exact ⟨h2, j1, j2, k3.tr j3, j4⟩
    · rw [if_neg a, if_neg a]
      exact ⟨h, rfl, c, Mf.rf h, he, e2⟩
theorem mPiers_L {n : Nat} {bb : Nat → Nat} {z : Int32} {k : AH → Option (Int32 × AH)} : ∀ m t p e f h, t + m = 4 → m + 1 < f → MT h n bb p → h 278 8 = -1 → h 285 = e → e 3 = nI t → match rQs n bb m p e with
    | .inl (x, pl) => ∃ h', fX6_estuary_L158 z f h k = k h' ∧ Fl h h' x pl
    | .inr (t', p', e') => ∃ h', fX6_estuary_L158 z f h k = k h' ∧ MT h' n bb p' ∧ Mf h h' ∧ h' 285 = e' := by
  intro m
  induction m with
  | zero =>
    intro t p e f h ht hf c w he e2
    obtain ⟨g, rfl, hg⟩ := fuel_s hf
    have ht : t = 4 := by omega
    subst ht
    unfold rQs
    rw [L158_at c w]
    by_cases a : p < n ∧ bb p = 113
    · rw [if_pos a, if_pos a]
      obtain ⟨h', k1, k2⟩ := mPierF c w (by rw [he]; exact e2)
      obtain ⟨g2, rfl, -⟩ := fuel_s (show 0 < g by omega)
      rw [k1, bnd_e, L158_bad k2.2.2.2.2]
      exact ⟨h', rfl, k2⟩
    · rw [if_neg a, if_neg a]
      exact ⟨h, rfl, c, Mf.rf h, he⟩
  | succ m ih =>
    intro t p e f h ht hf c w he e2
    obtain ⟨g, rfl, hg⟩ := fuel_s hf
    have et : 3 - m = t := by omega
    unfold rQs
    rw [L158_at c w, et]
    by_cases a : p < n ∧ bb p = 113
    · rw [if_pos a, if_pos a]
      have X := mPierR c w a.1 a.2 he e2 (by omega)
      cases r : rP n bb 0 98 (p + 1) with
      | inl q =>
        obtain ⟨y, pl⟩ := q
        rw [r] at X
        obtain ⟨h', k1, k2⟩ := X
        obtain ⟨g2, rfl, -⟩ := fuel_s (show 0 < g by omega)
        simp only [sbd]
        rw [k1, bnd_e, L158_bad k2.2.2.2.2]
        exact ⟨h', rfl, k2⟩
      | inr q =>
        obtain ⟨v, u, q⟩ := q
        rw [r] at X
        obtain ⟨h', k1, k2, k3, k4⟩ := X
        simp only [sbd]
        rw [k1, bnd_e]
        have y := ih (t + 1) q (addP e t v u) g h' (by omega) (by omega) k2 (k3.w w) k4 (by unfold addP; exact upd_s _ _ _)
        cases r2 : rQs n bb m q (addP e t v u) with
        | inl s =>
          obtain ⟨y1, y2⟩ := s
          rw [r2] at y
          obtain ⟨h2, j1, j2⟩ := y
          exact ⟨h2, j1, j2.pre k3⟩
        | inr s =>
          obtain ⟨y1, y2, y3⟩ := s
          rw [r2] at y
          obtain ⟨h2, j1, j2, j3, j4⟩ := y
          exact ⟨h2, j1, j2, k3.tr j3, j4⟩
    · rw [if_neg a, if_neg a]
      exact ⟨h, rfl, c, Mf.rf h, he⟩
