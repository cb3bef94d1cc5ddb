/-! Years by draws. -/
def bf1 (T : Nat) (X : Nat → Int32) (z : Nat) : Nat → Int32 := if ho X (z % T) = 0 then mendR X (z % T) else if lg_cmp (lN (z % 5)) (0 : Int64) = 0 then dropR X (z % T) else X
def bfR (T : Nat) (X : Nat → Int32) (z : Nat) : Nat → Int32 := if bf1 T X z 1 = 0 then upd (bf1 T X z) 1 (nI (z % 99 + 1)) else bf1 T X z
theorem Gd_bf1 {X : Nat → Int32} {T P B z : Nat} (hg : Gd X T P B) : Gd (bf1 T X z) T P B := by
  have ht : z % T < T := Nat.mod_lt _ (by have := hg.1; omega)
  unfold bf1
  split
  · exact Gd_mend hg ht
  · split
    · exact Gd_drop hg ht
    · exact hg
theorem Gd_bfR {X : Nat → Int32} {T P B z : Nat} (hg : Gd X T P B) : Gd (bfR T X z) T P B := by
  unfold bfR
  split
  · exact Gd_out (Gd_bf1 hg) (by omega)
  · exact Gd_bf1 hg
theorem lt5_ : (5 : Int64) = lN 5 := by decide
theorem lt99_ : (99 : Int64) = lN 99 := by decide
theorem ne5 : ¬ (5 : Int64) = 0 := by decide
theorem ne99 : ¬ (99 : Int64) = 0 := by decide
theorem neM : ¬ (2147483647 : Int64) = 0 := by decide
theorem rem5 {z : Nat} (h : z < 2 ^ 31) : lN z - lN z / (5 : Int64) * (5 : Int64) = lN (z % 5) := by rw [lt5_, pk_lRem (by omega) (by omega) (by omega)]
theorem rem99 {z : Nat} (h : z < 2 ^ 31) : Int64.toInt32 (lN z - lN z / (99 : Int64) * (99 : Int64)) + 1 = nI (z % 99 + 1) := by rw [lt99_, pk_lRem (by omega) (by omega) (by omega), lN_i, nI_1]
theorem remT {z T : Nat} (h : z < 2 ^ 31) (h1 : 1 ≤ T) (h2 : T ≤ 6) : Int64.toInt32 (lN z - lN z / (Int32.toInt64 (nI T)) * (Int32.toInt64 (nI T))) = nI (z % T) := by rw [nI_l (by omega), pk_lRem (by omega) (by omega) (by omega), lN_i]
theorem neT {T : Nat} (h1 : 1 ≤ T) (h2 : T ≤ 6) : ¬ (Int32.toInt64 (nI T)) = 0 := by
  rw [nI_l (by omega)]
  intro q
  have := (pk_lEQ (a := T) (b := 0) (by omega) (by omega)).mp q
  omega
def nxt (z : Nat) : Nat := z * 16807 % 2147483647
theorem nxt_lt (z : Nat) : nxt z < 2 ^ 31 := by
  unfold nxt
  have := Nat.mod_lt (z * 16807) (show 0 < 2147483647 by decide)
  omega
theorem nxt_at {z : Nat} (h : z < 2 ^ 31) : (lN z * (16807 : Int64)) - (lN z * (16807 : Int64)) / (2147483647 : Int64) * (2147483647 : Int64) = lN (nxt z) := by
  have e1 : (16807 : Int64) = lN 16807 := by decide
  have e2 : (2147483647 : Int64) = lN 2147483647 := by decide
  rw [e1, e2, lN_mul, pk_lRem (by omega) (by omega) (by omega)]
  rfl
theorem xBefall {X : Nat → Int32} {T P B r z : Nat} {h : AH} (hg : Gd X T P B) (he : EstC X T P h r) (hz : z < 2 ^ 31) : ∃ h', fX2_befall r (lN z) h = some ((), h') ∧ EstC (bfR T X z) T P h' r ∧ Fm r h h' := by
  have hT1 := hg.1.1
  have hT := hg.1.2.1
  have ht : z % T < T := Nat.mod_lt _ (by omega)
  have last : ∀ (h1 : AH), EstC (bf1 T X z) T P h1 r → Fm r h h1 → ∃ h', (if (h1 r 3) = 0 then (chk (¬ (99 : Int64) = 0) (sto (hs h1 r 3 ((Int64.toInt32 (lN z - lN z / (99 : Int64) * (99 : Int64))) + 1)) fun h5 => (some ((), h5)))) else (some ((), h1))) = some ((), h') ∧ EstC (bfR T X z) T P h' r ∧ Fm r h h' := by
    intro h1 he1 q1
    unfold bfR
    rw [he1.2.1.2.2.2.1]
    by_cases y : bf1 T X z 1 = 0
    · rw [if_pos y, if_pos y, chk_p ne99, rem99 hz, sto_e]
      exact ⟨_, rfl, he1.outS _, q1.tr (Fm.hs r h1 3 _ (by omega))⟩
    · rw [if_neg y, if_neg y]
      exact ⟨_, rfl, he1, q1⟩
  unfold fX2_befall
  rw [he.2.1.1, if_neg (show ¬ nI T < 1 from nI_nlt (b := 1) (by omega) (by omega)), chk_p (neT hT1 hT), remT hz hT1 hT, vl_e, xHolds he hT ht, bnd_e]
  rcases hg.hold (z % T) ht with y | y
  · rw [if_neg (show ¬ ho X (z % T) = 1 by rw [y]; decide), if0]
    obtain ⟨h1, k1, he1, q1⟩ := xMend he hT ht
    rw [k1, bnd_e]
    exact last h1 (by unfold bf1; rw [if_pos y]; exact he1) q1
  · have yn : ¬ ho X (z % T) = 0 := by rw [y]; decide
    rw [if_pos y, if1, chk_p ne5, rem5 hz]
    by_cases w : lg_cmp (lN (z % 5)) (0 : Int64) = 0
    · rw [if_pos w]
      obtain ⟨h1, k1, he1, q1⟩ := xLetGo he hT ht
      rw [k1, bnd_e]
      exact last h1 (by unfold bf1; rw [if_neg yn, if_pos w]; exact he1) q1
    · rw [if_neg w]
      exact last h (by unfold bf1; rw [if_neg yn, if_neg w]; exact he) (Fm.rf _ _)
def dr (T P : Nat) : Nat → Nat → (Nat → Int32) → Int32 → Int32 × (Nat → Int32)
  | 0, _, X, c => (c, X)
  | m + 1, z, X, c => dr T P m (nxt z) (hourR (bfR T X (nxt z)) T P 0) (if hourR (bfR T X (nxt z)) T P 0 1 = 0 then c + 1 else c)
theorem Gd_dr {T P : Nat} : ∀ m z X c B, Gd X T P B → B + m ≤ 20000 → Gd (dr T P m z X c).2 T P (B + m) := by
  intro m
  induction m with
  | zero => intro z X c B hg _; exact hg
  | succ m ih =>
    intro z X c B hg hB
    have := ih (nxt z) (hourR (bfR T X (nxt z)) T P 0) (if hourR (bfR T X (nxt z)) T P 0 1 = 0 then c + 1 else c) (B + 1) (Gd_hour 0 (Gd_bfR hg) (by omega)) (by omega)
    rw [show B + 1 + m = B + (m + 1) by omega] at this
    exact this
theorem xDrawn_L {T P n r : Nat} {p2 p3 : Int32} {k : Int32 → Int32 → Int64 → AH → Option (Int32 × AH)} (hn : n ≤ 60) : ∀ m i f h X B z c, i + m = n → m < f → EstC X T P h r → Gd X T P B → B + m ≤ 20000 → z < 2 ^ 31 → ∃ h' zz, fX5_drawn_L57 r (nI n) p2 p3 f (nI i) c (lN z) h k = k (nI n) (dr T P m z X c).1 zz h' ∧ EstC (dr T P m z X c).2 T P h' r ∧ Fm r h h' := by
  intro m
  induction m with
  | zero =>
    intro i f h X B z c hi hf a hg hB hz
    obtain ⟨g, rfl, -⟩ := fuel_s hf
    have : i = n := by omega
    subst this
    unfold fX5_drawn_L57
    rw [if_neg (nI_nlt (Nat.le_refl i) (by omega))]
    exact ⟨h, lN z, rfl, a, Fm.rf _ _⟩
  | succ m ih =>
    intro i f h X B z c hi hf a hg hB hz
    obtain ⟨g, rfl, hf'⟩ := fuel_s hf
    unfold fX5_drawn_L57
    have hz' := nxt_lt z
    obtain ⟨h1, k1, a1, q1⟩ := xBefall hg a hz'
    have hg1 := Gd_bfR (z := nxt z) hg
    obtain ⟨h2, k2, a2, q2⟩ := xHour 0 hg1 (by omega) a1
    rw [if_pos (nI_lt (by omega) (by omega)), chk_p neM, nxt_at hz, vl_e, k1, bnd_e, k2, bnd_e, a2.2.1.2.2.2.1]
    obtain ⟨h', zz, r1, r2, r3⟩ := ih (i + 1) g h2 (hourR (bfR T X (nxt z)) T P 0) (B + 1) (nxt z) (if hourR (bfR T X (nxt z)) T P 0 1 = 0 then c + 1 else c) (by omega) (by omega) a2 (Gd_hour 0 hg1 (by omega)) (by omega) hz'
    refine ⟨h', zz, ?_, r2, (q1.tr q2).tr r3⟩
    by_cases y : hourR (bfR T X (nxt z)) T P 0 1 = 0
    · rw [if_pos y, vl_e, vl_e, nI_1]
      rw [if_pos y] at r1
      rw [r1]
      show _ = k (nI n) (dr T P m (nxt z) (hourR (bfR T X (nxt z)) T P 0) (if hourR (bfR T X (nxt z)) T P 0 1 = 0 then c + 1 else c)).1 zz h'
      rw [if_pos y]
    · rw [if_neg y, vl_e, vl_e, nI_1, add0]
      rw [if_neg y] at r1
      rw [r1]
      show _ = k (nI n) (dr T P m (nxt z) (hourR (bfR T X (nxt z)) T P 0) (if hourR (bfR T X (nxt z)) T P 0 1 = 0 then c + 1 else c)).1 zz h'
      rw [if_neg y]
theorem Ag.upd {a b : Nat → Int32} (h : Ag a b) (j : Nat) (v : Int32) : Ag (upd a j v) (upd b j v) := by
  intro i hi
  by_cases q : i = j
  · subst q; rw [upd_s, upd_s]
  · rw [upd_n _ _ q, upd_n _ _ q, h i hi]
theorem mDrawn_L {T P n : Nat} {e : Nat → Int32} {p2 p3 : Int32} {k : Int32 → Int32 → Int64 → AH → Option (Int32 × AH)} (hn : n ≤ 60) (he2 : e 2 = nI T) : ∀ m i f h X B z c, i + m = n → m < f → h 284 = e → Ag (h 286) X → Gd X T P B → B + m ≤ 20000 → z < 2 ^ 31 → ∃ h' zz, fX6_drawn_L65 (nI n) p2 p3 f (nI i) c (lN z) h k = k (nI n) (dr T P m z X c).1 zz h' ∧ Ag (h' 286) (dr T P m z X c).2 ∧ ∀ k, k ≠ 286 → h' k = h k := by
  intro m
  induction m with
  | zero =>
    intro i f h X B z c hi hf e284 a hg hB hz
    obtain ⟨g, rfl, -⟩ := fuel_s hf
    have : i = n := by omega
    subst this
    unfold fX6_drawn_L65
    rw [if_neg (nI_nlt (Nat.le_refl i) (by omega))]
    exact ⟨h, lN z, rfl, a, fun _ _ => rfl⟩
  | succ m ih =>
    intro i f h X B z c hi hf e284 a hg hB hz
    obtain ⟨g, rfl, hf'⟩ := fuel_s hf
    have hT1 := hg.1.1
    have hT := hg.1.2.1
    have hz' := nxt_lt z
    have ht : nxt z % T < T := Nat.mod_lt _ (by omega)
    have hg1 := Gd_bfR (z := nxt z) hg
    -- from the hour on
    have hour : ∀ h1 : AH, (∀ k, k ≠ 286 → h1 k = h k) → Ag (h1 286) (bfR T X (nxt z)) → ∃ h' zz, (bnd (fX6_passes 286 0 h1) fun _ h206 => (chk (inb 1 (ln 286)) (if (h206 286 (Int32.toNatClampNeg 1)) = 0 then (vl (c + 1) fun z207 => (vl (nI i + 1) fun z208 => fX6_drawn_L65 (nI n) p2 p3 g z208 z207 (lN (nxt z)) h206 k)) else (vl (c + 0) fun z209 => (vl (nI i + 1) fun z210 => fX6_drawn_L65 (nI n) p2 p3 g z210 z209 (lN (nxt z)) h206 k))))) = k (nI n) (dr T P (m + 1) z X c).1 zz h' ∧ Ag (h' 286) (dr T P (m + 1) z X c).2 ∧ ∀ k, k ≠ 286 → h' k = h k := by
      intro h1 q1 a1
      obtain ⟨h2, k2, a2, q2⟩ := mHr 0 a1 hg1
      rw [k2, bnd_e, cW1 ln_286, cl_1, a2 1 (by omega)]
      obtain ⟨h', zz, r1, r2, r3⟩ := ih (i + 1) g h2 (hourR (bfR T X (nxt z)) T P 0) (B + 1) (nxt z) (if hourR (bfR T X (nxt z)) T P 0 1 = 0 then c + 1 else c) (by omega) (by omega) (by rw [q2 284 (by omega), q1 284 (by omega), e284]) a2 (Gd_hour 0 hg1 (by omega)) (by omega) hz'
      refine ⟨h', zz, ?_, r2, fun k hk => by rw [r3 k hk, q2 k hk, q1 k hk]⟩
      by_cases y : hourR (bfR T X (nxt z)) T P 0 1 = 0
      · rw [if_pos y, vl_e, vl_e, nI_1]
        rw [if_pos y] at r1
        rw [r1]
        show _ = k (nI n) (dr T P m (nxt z) (hourR (bfR T X (nxt z)) T P 0) (if hourR (bfR T X (nxt z)) T P 0 1 = 0 then c + 1 else c)).1 zz h'
        rw [if_pos y]
      · rw [if_neg y, vl_e, vl_e, nI_1, add0]
        rw [if_neg y] at r1
        rw [r1]
        show _ = k (nI n) (dr T P m (nxt z) (hourR (bfR T X (nxt z)) T P 0) (if hourR (bfR T X (nxt z)) T P 0 1 = 0 then c + 1 else c)).1 zz h'
        rw [if_neg y]
    -- from where it is, if it is in
    have outw : ∀ h1 : AH, (∀ k, k ≠ 286 → h1 k = h k) → Ag (h1 286) (bf1 T X (nxt z)) → ∃ h' zz, (chk (inb 1 (ln 286)) (if (h1 286 (Int32.toNatClampNeg 1)) = 0 then (chk (¬ (99 : Int64) = 0) (chk (inb 1 (ln 286)) (sto (hs h1 286 (Int32.toNatClampNeg 1) ((Int64.toInt32 (lN (nxt z) - lN (nxt z) / (99 : Int64) * (99 : Int64))) + 1)) fun h205 => (bnd (fX6_passes 286 0 h205) fun _ h206 => (chk (inb 1 (ln 286)) (if (h206 286 (Int32.toNatClampNeg 1)) = 0 then (vl (c + 1) fun z207 => (vl (nI i + 1) fun z208 => fX6_drawn_L65 (nI n) p2 p3 g z208 z207 (lN (nxt z)) h206 k)) else (vl (c + 0) fun z209 => (vl (nI i + 1) fun z210 => fX6_drawn_L65 (nI n) p2 p3 g z210 z209 (lN (nxt z)) h206 k)))))))) else (bnd (fX6_passes 286 0 h1) fun _ h211 => (chk (inb 1 (ln 286)) (if (h211 286 (Int32.toNatClampNeg 1)) = 0 then (vl (c + 1) fun z212 => (vl (nI i + 1) fun z213 => fX6_drawn_L65 (nI n) p2 p3 g z213 z212 (lN (nxt z)) h211 k)) else (vl (c + 0) fun z214 => (vl (nI i + 1) fun z215 => fX6_drawn_L65 (nI n) p2 p3 g z215 z214 (lN (nxt z)) h211 k))))))) = k (nI n) (dr T P (m + 1) z X c).1 zz h' ∧ Ag (h' 286) (dr T P (m + 1) z X c).2 ∧ ∀ k, k ≠ 286 → h' k = h k := by
      intro h1 q1 a1
      have h1' : h1 286 (Int32.toNatClampNeg 1) = bf1 T X (nxt z) 1 := by rw [cl_1]; exact a1 1 (by omega)
      rw [cW1 ln_286, h1']
      by_cases y : bf1 T X (nxt z) 1 = 0
      · rw [if_pos y, chk_p ne99, cW1 ln_286, sto_e, rem99 hz']
        refine hour _ (fun k hk => by rw [hs_q _ _ _ hk, q1 k hk]) ?_
        rw [cl_1, hs_k]
        unfold bfR
        rw [if_pos y]
        exact a1.upd 1 _
      · rw [if_neg y]
        refine hour _ q1 ?_
        unfold bfR
        rw [if_neg y]
        exact a1
    unfold fX6_drawn_L65
    rw [if_pos (nI_lt (by omega) (by omega)), chk_p neM, nxt_at hz, vl_e, cW2 ln_284, cl_2, e284, he2, chk_p (neT hT1 hT), remT hz' hT1 hT, vl_e, ix5, i5_4, i5_3, cW ln_286 (by omega)]
    simp only [nI_clamp (show 9 + 5 * (nxt z % T) < 2 ^ 31 by omega), nI_clamp (show 8 + 5 * (nxt z % T) < 2 ^ 31 by omega)]
    rw [a (9 + 5 * (nxt z % T)) (by omega)]
    rcases hg.hold (nxt z % T) ht with y | y
    · rw [if_pos (show X (9 + 5 * (nxt z % T)) = 0 from y), cW ln_286 (by omega), sto_e, cW ln_286 (by omega), sto_e]
      refine outw _ (fun k hk => by rw [hs_q _ _ _ hk, hs_q _ _ _ hk]) ?_
      unfold bf1
      rw [if_pos y, hs_k, hs_k]
      exact (a.upd _ _).upd _ _
    · have yn : ¬ ho X (nxt z % T) = 0 := by rw [y]; decide
      rw [if_neg (show ¬ X (9 + 5 * (nxt z % T)) = 0 from yn), chk_p ne5, rem5 hz']
      by_cases w : lg_cmp (lN (nxt z % 5)) (0 : Int64) = 0
      · rw [if_pos w, mDrops ln_286 (by omega), bnd_e]
        refine outw _ (fun k hk => hr_ne _ _ hk) ?_
        unfold bf1
        rw [if_neg yn, if_pos w, hr_eq]
        exact (a.upd _ _).upd _ _
      · rw [if_neg w]
        refine outw _ (fun _ _ => rfl) ?_
        unfold bf1
        rw [if_neg yn, if_neg w]
        exact a
set_option maxRecDepth 4000 in
theorem both_drawn {h : AH} (i : Inv h) (a b c : Int32) : Both (fX5_drawn a b c h) (fX6_drawn a b c) := by
  unfold fX5_drawn fX6_drawn
  rcases ests i.2.2.2.1 with ⟨q1, q2⟩ | ⟨T, P, hg, he, q1, q2⟩
  · refine Both.same (h := h) (v := -1000002) i ?_ ?_
    · rw [q1]; rfl
    · rw [q2 h rfl]; rfl
  have hT := hg.1.2.1
  have hP := hg.1.2.2.1
  rw [q1, bnd_e, if0]
  rcases rl a 0 60 0 60 rfl rfl (by omega) (by omega) with p | ⟨p, p2⟩ | ⟨p, p2, n, -, hn, rfl⟩
  · refine Both.same (h := h) (v := -1000001) i (by rw [if_pos p]) ?_
    rw [q2 h rfl, bnd_e, if1, mIn_l h p]; rfl
  · refine Both.same (h := h) (v := -1000001) i (by rw [if_neg p, if_pos p2]) ?_
    rw [q2 h rfl, bnd_e, if1, mIn_u h p p2]; rfl
  rw [if_neg p, if_neg p2]
  rcases rl b 1 999999 1 999999 rfl rfl (by omega) (by omega) with s | ⟨s, s2⟩ | ⟨s, s2, z, hz1, hz, rfl⟩
  · refine Both.same (h := h) (v := -1000001) i (by rw [if_pos s]) ?_
    rw [q2 h rfl, bnd_e, if1, mIn_i h p p2, bnd_e, if1, mIn_l h s]; rfl
  · refine Both.same (h := h) (v := -1000001) i (by rw [if_neg s, if_pos s2]) ?_
    rw [q2 h rfl, bnd_e, if1, mIn_i h p p2, bnd_e, if1, mIn_u h s s2]; rfl
  rw [if_neg s, if_neg s2]
  rcases half c with ⟨w1, w2⟩ | ⟨w, hw2, rfl, w1, w2⟩
  · refine Both.same (h := h) (v := -1000001) i ?_ ?_
    · rw [w1]; rfl
    · rw [q2 h rfl, bnd_e, if1, mIn_i h p p2, bnd_e, if1, mIn_i h s s2, bnd_e, if1, w2]; rfl
  rw [w1, bnd_e, if0]
  obtain ⟨h1, k1, he1, q3⟩ := xNow he hT hP
  rw [k1, bnd_e, chk_p kd_213, vl_e, nI_l (by omega)]
  obtain ⟨h2, zz, r1, r2, r3⟩ := xDrawn_L (r := 213) (n := n) (p2 := nI z) (p3 := nI w) (k := fun z9 z10 z11 h12 => (if nI w = 0 then (some (z10, h12)) else (bnd (fJ6_bitCount_0f7a4 (h12 213 5) h12) fun v14 h13 => (some (v14, h13))))) hn n 0 FU h1 (h 284) 9999 z 0 (by omega) (by have := FU_big; omega) he1 hg (by omega) (by omega)
  rw [nI_0] at r1
  rw [r1]
  have f2 : Fm 213 h h2 := q3.tr r3
  have e284 : h2 284 = h 284 := f2 284 (by omega)
  obtain ⟨h3, k3, a3, q5⟩ := mTryA h2
  rw [e284] at a3
  obtain ⟨h4, zz', s1, s3, s4⟩ := mDrawn_L (P := P) (n := n) (p2 := nI z) (p3 := nI w) (k := fun z11 z12 z13 h14 => (if nI w = 0 then (some (z12, h14)) else (bnd (fX6_holding 286 h14) fun v16 h15 => (bnd (fX6_ones v16 h15) fun v18 h17 => (some (v18, h17)))))) hn hg.1.2.2.2.1 n 0 FU h3 (h 284) 9999 z 0 (by omega) (by have := FU_big; omega) (by rw [q5 284 (by omega), e284]) a3 hg (by omega) (by omega)
  rw [nI_0] at s1
  have iv : Inv h4 := i.sc (try_sc f2 fun k hk => by rw [s4 k hk, q5 k hk])
  have hgn := Gd_dr n z (h 284) 0 9999 hg (by omega)
  have way : ∀ kk : AH → Option (Int32 × AH), (bnd (fX6_isEstuary h2) fun v2 h1 => (if v2 = 0 then (some (-1000002, h1)) else (bnd (fX6_in (nI n) 0 60 h1) fun v4 h3 => (if v4 = 0 then (some (-1000001, h3)) else (bnd (fX6_in (nI z) 1 999999 h3) fun v6 h5 => (if v6 = 0 then (some (-1000001, h5)) else (bnd (fX6_in (nI w) 0 1 h5) fun v8 h7 => (if v8 = 0 then (some (-1000001, h7)) else (bnd (fX6_copies 284 0 286 0 h7) fun _ h9 => kk h9))))))))) = kk h3 := by
    intro kk
    rw [q2 h2 e284, bnd_e, if1, mIn_i h2 p p2, bnd_e, if1, mIn_i h2 s s2, bnd_e, if1, w2, bnd_e, if1, k3, bnd_e]
  by_cases y : nI w = 0
  · rw [if_pos y]
    refine Both.of rfl ⟨h4, ?_, iv⟩
    rw [way, vl_e, s1, if_pos y]
  · have hM : hm (dr T P n z (h 284) 0).2 T < 64 := Nat.lt_of_lt_of_le (hm_lt _ T) (p2_64 hT)
    rw [if_neg y, r2.hm hT, xBits _ hM, bnd_e]
    refine Both.of rfl ⟨h4, ?_, iv⟩
    rw [way, vl_e, s1, if_neg y, mHolding (T := T) ln_286 hT (by rw [s3 2 (by omega)]; exact hgn.1.2.2.2.1) (fun t ht => by rw [show ho (h4 286) t = _ from s3 (9 + 5 * t) (by omega)]; exact hgn.hold t ht), bnd_e, hm_eq T fun t ht => s3 (9 + 5 * t) (by omega), mOnes hM, bnd_e]
