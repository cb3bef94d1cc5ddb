/-! The rows. -/
theorem Both.of {o : Option (Int32 × AH)} {f : AH → Option (Int32 × AH)} {v : Int32} {h1 : AH} (a : o = some (v, h1)) (b : ∃ h2, f h1 = some (v, h2) ∧ Inv h2) : Both o f := b.elim fun h2 q => ⟨v, h1, h2, a, q.1, q.2⟩
theorem if1 {α : Type} {x y : α} : (if (1 : Int32) = 0 then x else y) = y := if_neg (by decide)
theorem if0 {α : Type} {x y : α} : (if (0 : Int32) = 0 then x else y) = x := if_pos rfl
theorem cut8 (a : Int32) : (a <<< ((24 : Int32) &&& 31)) >>> ((24 : Int32) &&& 31) = a.toInt8.toInt32 := by
  apply Int32.toBitVec_inj.mp
  show ((a.toBitVec <<< ((24 : Int32) &&& 31).toBitVec.smod 32).sshiftRight (((24 : Int32) &&& 31).toBitVec.smod 32).toNat) = (a.toBitVec.signExtend 8).signExtend 32
  have e1 : ((24 : Int32) &&& 31).toBitVec.smod 32 = 24#32 := by decide
  rw [e1]
  apply BitVec.eq_of_getLsbD_eq
  intro i hi
  simp only [BitVec.getLsbD_sshiftRight, BitVec.getLsbD_signExtend, BitVec.msb_eq_getLsbD_last, BitVec.shiftLeft_eq', BitVec.getLsbD_shiftLeft]
  have : (24#32).toNat = 24 := by decide
  rw [this]
  by_cases q : i < 8
  · simp [q, hi, show 24 + i < 32 by omega, show ¬ 32 ≤ i by omega, show i < 32 by omega]
  · simp [q, hi, show ¬ 24 + i < 32 by omega, show ¬ 32 ≤ i by omega]
theorem cut16 (a : Int32) : (a <<< ((16 : Int32) &&& 31)) >>> ((16 : Int32) &&& 31) = a.toInt16.toInt32 := by
  apply Int32.toBitVec_inj.mp
  show ((a.toBitVec <<< ((16 : Int32) &&& 31).toBitVec.smod 32).sshiftRight (((16 : Int32) &&& 31).toBitVec.smod 32).toNat) = (a.toBitVec.signExtend 16).signExtend 32
  have e1 : ((16 : Int32) &&& 31).toBitVec.smod 32 = 16#32 := by decide
  rw [e1]
  apply BitVec.eq_of_getLsbD_eq
  intro i hi
  simp only [BitVec.getLsbD_sshiftRight, BitVec.getLsbD_signExtend, BitVec.msb_eq_getLsbD_last, BitVec.shiftLeft_eq', BitVec.getLsbD_shiftLeft]
  have : (16#32).toNat = 16 := by decide
  rw [this]
  by_cases q : i < 16
  · simp [q, hi, show 16 + i < 32 by omega, show ¬ 32 ≤ i by omega, show i < 32 by omega]
  · simp [q, hi, show ¬ 16 + i < 32 by omega, show ¬ 32 ≤ i by omega]
theorem narrows {l : Nat} (hl : l ≤ 2) (a : Int32) (h h' : AH) (r : Nat) (q : h r 1 = nI l) : ∃ v, fX3_narrowed r a h = some (v, h) ∧ fX6_cut (nI l) a h' = some (v, h') := by
  unfold fX3_narrowed fX6_cut
  rw [q, cut8, cut16]
  rcases (show l = 0 ∨ l = 1 ∨ l = 2 by omega) with e | e | e <;> subst e
  · exact ⟨_, rfl, rfl⟩
  · exact ⟨_, rfl, rfl⟩
  · exact ⟨_, rfl, rfl⟩
theorem lnR : ∀ r, r < 8 → ln (3 + 2 * r) = 40 := by decide +kernel
theorem IR.set {h h' : AH} {n : Nat} (i : IR h) (hn : n < 8) (new : Rw (h' (2 + 2 * n)) (h' (3 + 2 * n)) (h' 279 n) (h' 280 n) (fun i => h' 281 (40 * n + i))) (q1 : ∀ k, 2 ≤ k → k ≤ 17 → k ≠ 2 + 2 * n → k ≠ 3 + 2 * n → h' k = h k) (q2 : ∀ j, j ≠ n → h' 279 j = h 279 j ∧ h' 280 j = h 280 j) (q3 : ∀ j, (j < 40 * n ∨ 40 * n + 40 ≤ j) → h' 281 j = h 281 j) : IR h' := by
  intro r hr
  by_cases e : r = n
  · subst e; exact new
  · rw [q1 (2 + 2 * r) (by omega) (by omega) (by omega) (by omega), q1 (3 + 2 * r) (by omega) (by omega) (by omega) (by omega), (q2 r e).1, (q2 r e).2]
    rcases i r hr with a | ⟨l, m, a1, a2, a3, a4, a5, a6, a7⟩
    · exact Or.inl a
    · exact Or.inr ⟨l, m, a1, a2, a3, a4, a5, a6, fun j hj => by show _ = h' 281 (40 * r + j); rw [a7 j hj, q3 (40 * r + j) (by omega)]⟩
theorem Inv.rows {h h' : AH} {v : Int32} (i : Inv h) (ir : IR h') (a : h' 0 7 = v) (b : h' 278 4 = v) (c : ∀ k, 18 ≤ k → k ≠ 278 → (k < 279 ∨ 282 < k) → h' k = h k) (d : ∀ j, j ≠ 4 → h' 278 j = h 278 j) : Inv h' := by
  obtain ⟨-, i2, i3, i4, i5, i6, i7⟩ := i
  refine ⟨ir, i2.to (fun k hk => c k (by omega) (by omega) (by omega)) ?_ ?_ (d 6 (by omega)) (d 7 (by omega)), ?_, i4.to fun k hk => c k (by omega) (by omega) (by omega), i5.to (fun k hk => c k (by omega) (by omega) (by omega)) (d 17 (by omega)), i6.to fun k hk => c k (by omega) (by omega) (by omega), i7.to (fun k hk => c k (by omega) (by omega) (by omega)) (d 21 (by omega))⟩
  · rw [c 18 (by omega) (by omega) (by omega)]
  · rw [c 18 (by omega) (by omega) (by omega)]
  · unfold IS; rw [a, b]
theorem xFound (v : Int32) (h : AH) : fX5_found v h = some (-1000010 - v, hs h 0 7 v) := rfl
theorem mFound (v : Int32) (h : AH) : fX6_found v h = some (-1000010 - v, hs h 278 4 v) := rfl
theorem xWell (v : Int32) (h : AH) : fX5_well v h = some (v, hs h 0 7 0) := rfl
theorem mWell (v : Int32) (h : AH) : fX6_well v h = some (v, hs h 278 4 0) := rfl
theorem Both.fnd {h : AH} {o : Option (Int32 × AH)} {f : AH → Option (Int32 × AH)} {v w : Int32} (i : Inv h) (a : o = some (w, hs h 0 7 v)) (b : f (hs h 0 7 v) = some (w, hs (hs h 0 7 v) 278 4 v)) : Both o f := ⟨w, _, _, a, b, i.st2 v⟩
/-- is the row there? -/
theorem missing {h : AH} {n : Nat} (i : IR h) (hn : n < 8) : ((fX3_missing (2 + 2 * n) h = some (1, h)) ∧ ∀ h', h' 279 = h 279 → fX6_isMissing (nI n) h' = some (1, h')) ∨ ∃ l m, l ≤ 2 ∧ m ≤ 40 ∧ h (2 + 2 * n) 1 = nI l ∧ h 279 n = nI l ∧ h (2 + 2 * n) 2 = nI m ∧ h 280 n = nI m ∧ (∀ i, i < m → h (3 + 2 * n) i = h 281 (40 * n + i)) ∧ fX3_missing (2 + 2 * n) h = some (0, h) ∧ ∀ h', h' 279 = h 279 → fX6_isMissing (nI n) h' = some (0, h') := by
  unfold fX3_missing fX6_isMissing
  rcases i n hn with ⟨a1, a2⟩ | ⟨l, m, a1, a2, a3, a4, a5, a6, a7⟩
  · refine Or.inl ⟨by rw [if_pos a1], fun h' q => ?_⟩
    rw [chk_p (by rw [ln_279]; exact inb_n hn (by decide)), nI_clamp (by omega), q, if_pos a2]
  · refine Or.inr ⟨l, m, a1, a2, a3, a4, a5, a6, a7, ?_, fun h' q => ?_⟩
    · rw [a3, if_neg]
      rcases (show l = 0 ∨ l = 1 ∨ l = 2 by omega) with e | e | e <;> subst e <;> decide
    · rw [chk_p (by rw [ln_279]; exact inb_n hn (by decide)), nI_clamp (by omega), q, a4, if_neg (none_ne l (by omega))]
theorem runs (a b : Int32) {m : Nat} (hm : m ≤ 40) : ((∀ (h : AH) r, h r 2 = nI m → fX3_hasRun r a b h = some (0, h)) ∧ ∀ (h : AH) n, n < 8 → h 280 n = nI m → fX6_isPart (nI n) a b h = some (0, h)) ∨ ∃ x y, x + y ≤ m ∧ a = nI x ∧ b = nI y ∧ (∀ (h : AH) r, h r 2 = nI m → fX3_hasRun r a b h = some (1, h)) ∧ ∀ (h : AH) n, n < 8 → h 280 n = nI m → fX6_isPart (nI n) a b h = some (1, h) := by
  unfold fX3_hasRun fX6_isPart
  rcases sg a with qa | ⟨x, hx, rfl⟩
  · exact Or.inl ⟨fun h r _ => by rw [if_pos qa], fun h n _ _ => by rw [if_pos qa]⟩
  rcases sg b with qb | ⟨y, hy, rfl⟩
  · exact Or.inl ⟨fun h r _ => by rw [if_neg (n0_lt x hx), if_pos qb], fun h n _ _ => by rw [if_neg (n0_lt x hx), if_pos qb]⟩
  have c : ∀ n, n < 8 → ∀ {o : Option (Int32 × AH)}, chk (inb (nI n) (ln 280)) o = o := fun n hn _ => chk_p (by rw [ln_280]; exact inb_n hn (by decide))
  by_cases q : x + y ≤ m
  · refine Or.inr ⟨x, y, q, rfl, rfl, fun h r e => ?_, fun h n hn e => ?_⟩
    · rw [if_neg (n0_lt x hx), if_neg (n0_lt y hy), e, if_neg (nI_nlt (by omega) (by omega)), pk_sub (by omega), if_neg (nI_nlt (by omega) (by omega))]
    · rw [if_neg (n0_lt x hx), if_neg (n0_lt y hy), c n hn, c n hn, nI_clamp (by omega), e, if_neg (nI_nlt (by omega) (by omega)), pk_sub (by omega), if_neg (nI_nlt (by omega) (by omega))]
  · refine Or.inl ⟨fun h r e => ?_, fun h n hn e => ?_⟩
    · rw [if_neg (n0_lt x hx), if_neg (n0_lt y hy), e]
      by_cases q2 : m < y
      · rw [if_pos (nI_lt q2 hy)]
      · rw [if_neg (nI_nlt (by omega) (by omega)), pk_sub (by omega), if_pos (nI_lt (by omega) hx)]
    · rw [if_neg (n0_lt x hx), if_neg (n0_lt y hy), c n hn, c n hn, nI_clamp (by omega), e]
      by_cases q2 : m < x
      · rw [if_pos (nI_lt q2 hx)]
      · rw [if_neg (nI_nlt (by omega) (by omega)), pk_sub (by omega), if_pos (nI_lt (by omega) hy)]
def zR (f : Nat → Int32) (b i : Nat) : Nat → Int32 := fun j => if b ≤ j ∧ j < b + i then 0 else f j
theorem zR_0 (f : Nat → Int32) (b : Nat) : zR f b 0 = f := by
  funext j; unfold zR; rw [if_neg (by omega)]
theorem zR_s (f : Nat → Int32) (b i : Nat) : upd (zR f b i) (b + i) 0 = zR f b (i + 1) := by
  funext j
  by_cases q : j = b + i
  · subst q; rw [upd_s]; unfold zR; rw [if_pos (by omega)]
  · rw [upd_n _ _ q]; unfold zR
    by_cases q2 : b ≤ j ∧ j < b + i
    · rw [if_pos q2, if_pos (by omega)]
    · rw [if_neg q2, if_neg (by omega)]
theorem zR_in {f : Nat → Int32} {b i j : Nat} (h : j < i) : zR f b i (b + j) = 0 := by unfold zR; rw [if_pos (by omega)]
theorem zR_out {f : Nat → Int32} {b i j : Nat} (h : j < b ∨ b + i ≤ j) : zR f b i j = f j := by unfold zR; rw [if_neg (by omega)]
theorem xBegin_L {n a3 : Nat} {p1 : Int32} {h : AH} {k : Int32 → AH → Option (Unit × AH)} (hn : n < 8) (ha : a3 ≤ 40) : ∀ m i f, i + m = a3 → m < f → fX3_begin_L12 (2 + 2 * n) p1 (nI a3) f (nI i) (hr h (3 + 2 * n) (zR (h (3 + 2 * n)) 0 i)) k = k (nI a3) (hr h (3 + 2 * n) (zR (h (3 + 2 * n)) 0 a3)) := by
  intro m
  induction m with
  | zero =>
    intro i f hi hf
    obtain ⟨g, rfl, -⟩ := fuel_s hf
    have : i = a3 := by omega
    subst this
    unfold fX3_begin_L12
    rw [if_neg (nI_nlt (Nat.le_refl i) (by omega))]
  | succ m ih =>
    intro i f hi hf
    obtain ⟨g, rfl, hg⟩ := fuel_s hf
    unfold fX3_begin_L12
    have z := zR_s (h (3 + 2 * n)) 0 i
    rw [Nat.zero_add] at z
    rw [if_pos (nI_lt (by omega) (by omega)), if_pos (show nI i < 40 from nI_lt (b := 40) (by omega) (by omega)), show 2 + 2 * n + 1 = 3 + 2 * n by omega, chk_p (by rw [lnR n hn]; exact inb_n (by omega) (by decide)), nI_clamp (by omega), sto_d, vl_d, nI_1, hs_hr, z]
    exact ih (i + 1) g (by omega) (by omega)
theorem mRow_L {n : Nat} {p2 p3 : Int32} {h : AH} {k : Int32 → AH → Option (Int32 × AH)} (hn : n < 8) : ∀ m i f, i + m = 40 → m < f → fX6_row_L52 (nI n) p2 p3 f (nI i) (hr h 281 (zR (h 281) (40 * n) i)) k = k (nI 40) (hr h 281 (zR (h 281) (40 * n) 40)) := by
  intro m
  induction m with
  | zero =>
    intro i f hi hf
    obtain ⟨g, rfl, -⟩ := fuel_s hf
    have : i = 40 := by omega
    subst this
    unfold fX6_row_L52
    rw [if_neg (show ¬ nI 40 < 40 from nI_nlt (b := 40) (Nat.le_refl 40) (by omega))]
  | succ m ih =>
    intro i f hi hf
    obtain ⟨g, rfl, hg⟩ := fuel_s hf
    unfold fX6_row_L52
    have e1 : (40 : Int32) * nI n = nI (40 * n) := pk_mul 40 n
    rw [if_pos (show nI i < 40 from nI_lt (b := 40) (by omega) (by omega)), e1, nI_add, chk_p (by rw [ln_281]; exact inb_n (by omega) (by decide)), nI_clamp (by omega), sto_d, vl_d, nI_1, hs_hr, zR_s]
    exact ih (i + 1) g (by omega) (by omega)
theorem both_row {h : AH} (i : Inv h) (a b c : Int32) : Both (fX5_row a b c h) (fX6_row a b c) := by
  unfold fX5_row fX6_row
  rcases rows_ a with ⟨q1, q2⟩ | ⟨n, hn, rfl, q1, q2⟩
  · refine Both.same (h := h) (v := -1000001) i ?_ ?_
    · rw [q1]; rfl
    · rw [q2]; rfl
  rw [q1]
  simp only [q2, bnd_s, ↓reduceIte, if1]
  rcases rl b 0 2 0 2 rfl rfl (by omega) (by omega) with p | ⟨p, p2⟩ | ⟨p, p2, l, -, hl, rfl⟩
  · refine Both.same (h := h) (v := -1000001) i (by rw [if_pos p]) ?_
    rw [mIn_l h p]; rfl
  · refine Both.same (h := h) (v := -1000001) i (by rw [if_neg p, if_pos p2]) ?_
    rw [mIn_u h p p2]; rfl
  rw [if_neg p, if_neg p2]
  simp only [mIn_i _ p p2, bnd_s, if1]
  by_cases c1 : (40 : Int32) < c
  · exact Both.same (h := h) (v := -1000001) i (by rw [if_pos c1]) (by rw [if_pos c1])
  rw [if_neg c1]
  by_cases c2 : c < 0
  · refine Both.fnd (v := 4) (w := -1000010 - 4) i (by rw [if_pos c2]; rfl) (by rw [if_neg c1, if_pos c2]; rfl)
  obtain ⟨m, hm0, rfl⟩ := nI_of c2
  have hm : m ≤ 40 := by
    have := (nI_ltI (a := 40) (b := m) (by omega) hm0)
    have z : ¬ (40 < m) := fun z => c1 (this.mpr z)
    omega
  rw [if_neg c2, chk_p (by rw [ln_1]; exact inb_n hn (by decide))]
  unfold fX3_begin
  simp only [sto_d, nI_clamp (show n < 2 ^ 31 by omega), show 1 + 1 + 2 * n = 2 + 2 * n from rfl]
  have lp := xBegin_L (n := n) (p1 := nI l) (h := hs (hs h (2 + 2 * n) 1 (nI l)) (2 + 2 * n) 2 (nI m)) (k := fun _ h4 => some ((), h4)) hn hm m 0 FU (by omega) (by have := FU_big; omega)
  rw [nI_0, zR_0, hr_self] at lp
  rw [lp]
  simp only [bnd_s, xWell]
  refine Both.of rfl ?_
  rw [if_neg c1, if_neg c2, chk_p (by rw [ln_279]; exact inb_n hn (by decide)), chk_p (by rw [ln_280]; exact inb_n hn (by decide))]
  have lp2 := fun h => mRow_L (n := n) (p2 := nI l) (p3 := nI m) (h := h) (k := fun _ h10 => bnd (fX6_well (nI m) h10) fun v12 h11 => some (v12, h11)) hn 40 0 FU (by omega) (by have := FU_big; omega)
  simp only [nI_0, zR_0, hr_self] at lp2
  rw [lp2]
  refine ⟨_, rfl, ?_⟩
  · refine i.rows (v := 0) (i.1.set hn ?_ ?_ ?_ ?_) ?_ ?_ ?_ ?_
    · refine Or.inr ⟨l, m, hl, hm, ?_, ?_, ?_, ?_, fun j hj => ?_⟩
      · simp (disch := omega) only [hs_q, hr_ne, hs_k, hr_eq, upd_n, upd_s]
      · simp (disch := omega) only [hs_q, hr_ne, hs_k, hr_eq, upd_n, upd_s]
      · simp (disch := omega) only [hs_q, hr_ne, hs_k, hr_eq, upd_n, upd_s]
      · simp (disch := omega) only [hs_q, hr_ne, hs_k, hr_eq, upd_n, upd_s]
      · have z := zR_in (f := h (3 + 2 * n)) (b := 0) hj
        rw [Nat.zero_add] at z
        simp (disch := omega) only [hs_q, hr_ne, hs_k, hr_eq, upd_n, upd_s]
        rw [z, zR_in (by omega)]
    · intro k h1 h2 h3 h4
      simp (disch := omega) only [hs_q, hr_ne]
    · intro j hj
      simp (disch := omega) only [hs_q, hr_ne, hs_k, hr_eq, upd_n, upd_s, and_self]
    · intro j hj
      simp (disch := omega) only [hs_q, hr_ne, hs_k, hr_eq, upd_n, upd_s]
      exact zR_out hj
    · simp (disch := omega) only [hs_q, hr_ne, hs_k, hr_eq, upd_n, upd_s]
    · simp (disch := omega) only [hs_q, hr_ne, hs_k, hr_eq, upd_n, upd_s]
    · intro k h1 h2 h3
      simp (disch := omega) only [hs_q, hr_ne]
    · intro j hj
      simp (disch := omega) only [hs_q, hr_ne, hs_k, hr_eq, upd_n, upd_s]
