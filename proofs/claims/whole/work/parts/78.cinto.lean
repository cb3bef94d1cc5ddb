/-! The class: the law, and all of the text. -/
theorem xEmpty_L {k : Int32 → AH → Option (Unit × AH)} : ∀ m i f h, i + m = 6 → m < f → (∀ j, j < i → h 217 j = 0) → ∃ h', fX2_empty_L32 213 f (nI i) h k = k (nI 6) h' ∧ (∀ j, j < 6 → h' 217 j = 0) ∧ ∀ q, q ≠ 217 → h' q = h q := by
  intro m
  induction m with
  | zero =>
    intro i f h hi hf z
    obtain ⟨g, rfl, -⟩ := fuel_s hf
    have : i = 6 := by omega
    subst this
    rw [fX2_empty_L32, if_neg (show ¬ nI 6 < 6 by decide)]
    exact ⟨h, rfl, z, fun _ _ => rfl⟩
  | succ m ih =>
    intro i f h hi hf z
    obtain ⟨g, rfl, hg⟩ := fuel_s hf
    rw [fX2_empty_L32, if_pos (show nI i < 6 from nI_lt (b := 6) (by omega) (by omega)), cE4 kd_213 (by omega), nI_clamp (by omega), sto_e, vl_e, nI_1]
    obtain ⟨h', k1, k2, k3⟩ := ih (i + 1) g (hs h 217 i 0) (by omega) (by omega) (fun j hj => by
      by_cases y : j = i
      · subst y; exact hs_kj _ _ _ _
      · rw [hs_ki _ _ _ y]; exact z j (by omega))
    exact ⟨h', k1, k2, fun q hq => (k3 q hq).trans (hs_q _ _ _ hq)⟩
theorem xEmpty (h : AH) : ∃ h', fX2_empty 213 h = some ((), h') ∧ (∀ j, j < 6 → h' 213 j = 0) ∧ (∀ j, j < 6 → h' 217 j = 0) ∧ ∀ q, q ≠ 213 → q ≠ 217 → h' q = h q := by
  unfold fX2_empty
  rw [sto_e, sto_e, sto_e, sto_e, sto_e, sto_e]
  obtain ⟨h', k1, k2, k3⟩ := xEmpty_L (k := fun _ h8 => some ((), h8)) 6 0 FU (hs (hs (hs (hs (hs (hs h 213 0 0) 213 1 0) 213 2 0) 213 3 0) 213 4 0) 213 5 0) (by omega) (by have := FU_big; omega) (fun j hj => by omega)
  rw [nI_0] at k1
  refine ⟨h', k1, fun j hj => ?_, k2, fun q h1 h2 => ?_⟩
  · rw [k3 213 (by decide)]
    have : j = 0 ∨ j = 1 ∨ j = 2 ∨ j = 3 ∨ j = 4 ∨ j = 5 := by omega
    rcases this with rfl | rfl | rfl | rfl | rfl | rfl <;> simp (disch := omega) only [hs_ki, hs_kj]
  · rw [k3 q h2]
    simp (disch := omega) only [hs_q]
theorem xLaw {h : AH} {n : Nat} {bb : Nat → Nat} {e : Nat → Int32} (c : CT h n bb 0) (he : EstC e 0 0 h 213) : match rL n bb with
    | .inl (f, pl) => ∃ h', fX4_readLaw 213 h = some (0, h') ∧ h' 18 3 = nI f ∧ h' 18 2 = nI pl ∧ Cf h h'
    | .inr (v, w, q) => ∃ h', fX4_readLaw 213 h = some (1, h') ∧ CT h' n bb q ∧ h' 18 3 = h 18 3 ∧ Cf h h' ∧ EstC (upd (upd e 0 (nI v)) 1 (nI w)) 0 0 h' 213 ∧ h' 217 = h 217 := by
  unfold fX4_readLaw rL
  have x0 := xSign (c := 116) c (by omega)
  rw [show nI 116 = 116 from rfl] at x0
  rw [x0]
  cases r0 : rS n bb 116 0 with
  | inl a =>
    obtain ⟨f, pl⟩ := a
    obtain ⟨rfl, rfl⟩ := rS_pl r0
    simp only [sbd]
    rw [bnd_e, if0]
    refine ⟨_, rfl, hs_kj _ _ _ _, ?_, fun k w1 w2 => ?_⟩
    · rw [hs_ki _ _ _ (by decide)]; exact c.2.2.2.1
    · simp (disch := omega) only [hs_q]
  | inr q0 =>
  have g0 := rS_le r0
  simp only [sbd]
  rw [bnd_e, if1]
  have c4 : CT (hs h 18 2 (nI q0)) n bb q0 := c.to g0.1 (by simp (disch := omega) only [hs_q, hs_ki]) (hs_kj _ _ _ _) (by simp (disch := omega) only [hs_q])
  have x4 := xNum (lo := 1) (hi := 60) c4 (by omega) (by omega)
  rw [show nI 1 = 1 from rfl, show nI 60 = 60 from rfl] at x4
  rw [x4]
  cases r1 : rN n bb 1 60 q0 with
  | inl a =>
    obtain ⟨f, pl⟩ := a
    have pe := (rN_pl r1).1
    subst pe
    simp only []
    rw [bnd_e, if0]
    refine ⟨_, rfl, hs_kj _ _ _ _, ?_, fun k w1 w2 => ?_⟩
    · rw [hs_ki _ _ _ (by decide), hs_kj]
    · simp (disch := omega) only [hs_q]
  | inr a =>
    obtain ⟨v, q⟩ := a
    have g1 := rN_le r1
    simp only []
    rw [bnd_e, if1, sto_e, hs_ki _ _ _ (show (4 : Nat) ≠ 2 by decide), hs_kj]
    have c7 : CT (hs (hs (hs (hs h 18 2 (nI q0)) 18 4 (nI v)) 18 2 (nI q)) 213 2 (nI v)) n bb q := c4.to g1.1 (by simp (disch := omega) only [hs_q, hs_ki]) (by rw [hs_q _ _ _ (by decide), hs_kj]) (by simp (disch := omega) only [hs_q])
    have x7 := xSign (c := 44) c7 (by omega)
    rw [show nI 44 = 44 from rfl] at x7
    rw [x7]
    unfold rF
    cases r2 : rS n bb 44 q with
    | inl a =>
      obtain ⟨f, pl⟩ := a
      obtain ⟨rfl, rfl⟩ := rS_pl r2
      simp only [sbd]
      rw [bnd_e, if0]
      refine ⟨_, rfl, hs_kj _ _ _ _, ?_, fun k w1 w2 => ?_⟩
      · rw [hs_ki _ _ _ (by decide), hs_q _ _ _ (by decide), hs_kj]
      · simp (disch := omega) only [hs_q]
    | inr q2 =>
      have g2 := rS_le r2
      simp only [sbd]
      rw [bnd_e, if1]
      have c8 : CT (hs (hs (hs (hs (hs h 18 2 (nI q0)) 18 4 (nI v)) 18 2 (nI q)) 213 2 (nI v)) 18 2 (nI q2)) n bb q2 := c7.to g2.1 (by simp (disch := omega) only [hs_q, hs_ki]) (hs_kj _ _ _ _) (by simp (disch := omega) only [hs_q])
      have x8 := xNum (lo := 1) (hi := 99) c8 (by omega) (by omega)
      rw [show nI 1 = 1 from rfl, show nI 99 = 99 from rfl] at x8
      rw [x8]
      cases r3 : rN n bb 1 99 q2 with
      | inl a =>
        obtain ⟨f, pl⟩ := a
        have pe := (rN_pl r3).1
        subst pe
        simp only []
        rw [bnd_e, if0]
        refine ⟨_, rfl, hs_kj _ _ _ _, ?_, fun k w1 w2 => ?_⟩
        · rw [hs_ki _ _ _ (by decide), hs_kj]
        · simp (disch := omega) only [hs_q]
      | inr a =>
        obtain ⟨w, q3⟩ := a
        have g3 := rN_le r3
        simp only []
        rw [bnd_e, if1, sto_e, hs_ki _ _ _ (show (4 : Nat) ≠ 2 by decide), hs_kj]
        have c14 : CT (hs (hs (hs (hs (hs (hs (hs (hs h 18 2 (nI q0)) 18 4 (nI v)) 18 2 (nI q)) 213 2 (nI v)) 18 2 (nI q2)) 18 4 (nI w)) 18 2 (nI q3)) 213 3 (nI w)) n bb q3 := c8.to g3.1 (by simp (disch := omega) only [hs_q, hs_ki]) (by rw [hs_q _ _ _ (by decide), hs_kj]) (by simp (disch := omega) only [hs_q])
        have x14 := xSign (c := 59) c14 (by omega)
        rw [show nI 59 = 59 from rfl] at x14
        rw [x14]
        cases r4 : rS n bb 59 q3 with
        | inl a =>
          obtain ⟨f, pl⟩ := a
          obtain ⟨rfl, rfl⟩ := rS_pl r4
          simp only []
          rw [bnd_e, c01_0]
          refine ⟨_, rfl, hs_kj _ _ _ _, ?_, fun k w1 w2 => ?_⟩
          · rw [hs_ki _ _ _ (by decide)]; exact c14.2.2.2.1
          · simp (disch := omega) only [hs_q]
        | inr q4 =>
          have g4 := rS_le r4
          simp only []
          rw [bnd_e, c01_1]
          refine ⟨_, rfl, c14.to g4.1 (by simp (disch := omega) only [hs_q, hs_ki]) (hs_kj _ _ _ _) (by simp (disch := omega) only [hs_q]), ?_, fun k w1 w2 => ?_, ?_, ?_⟩
          · simp (disch := omega) only [hs_q, hs_ki]
          · simp (disch := omega) only [hs_q]
          · obtain ⟨-, ⟨b0, b1, b2, b3, b4, m, b5, hb⟩, ct, cp⟩ := he
            refine ⟨kd_213, ⟨?_, ?_, ?_, ?_, ?_, m, ?_, hb.1, fun u hu => absurd hu (by omega)⟩, fun u hu => absurd hu (by omega), fun u hu => absurd hu (by omega)⟩
            · simp (disch := omega) only [hs_q, hs_ki]; exact b0
            · simp (disch := omega) only [hs_q, hs_ki]; exact b1
            · simp (disch := omega) only [hs_q, hs_ki, hs_kj, upd_n, upd_s]
            · simp (disch := omega) only [hs_q, hs_ki, hs_kj, upd_n, upd_s]
            · simp (disch := omega) only [hs_q, hs_ki, upd_n]; exact b4
            · simp (disch := omega) only [hs_q, hs_ki]; exact b5
          · simp (disch := omega) only [hs_q]
theorem rTs_ge {n : Nat} {bb : Nat → Nat} : ∀ m p e T q e', m ≤ 6 → rTs n bb m p e = .inr (T, q, e') → 6 - m ≤ T ∧ T ≤ 6 := by
  intro m
  induction m with
  | zero =>
    intro p e T q e' hm h
    unfold rTs at h
    by_cases a : p < n ∧ kdN (bb p) ≠ 0
    · rw [if_pos a] at h; cases h
    · rw [if_neg a] at h; cases h; omega
  | succ m ih =>
    intro p e T q e' hm h
    unfold rTs at h
    by_cases a : p < n ∧ kdN (bb p) ≠ 0
    · rw [if_pos a] at h
      cases r : rP n bb 1 20 (p + 1) with
      | inl s => rw [r] at h; simp only [sbd] at h; cases h
      | inr s =>
        rw [r] at h; simp only [sbd] at h
        have := ih _ _ _ _ _ (by omega) h
        omega
    · rw [if_neg a] at h; cases h; omega
theorem xInto {h : AH} {n : Nat} {bb : Nat → Nat} {e : Nat → Int32} (hn : n ≤ 90) (e1 : h 18 1 = nI n) (hb : ∀ i, i < n → bb i ≤ 255 ∧ h 19 i = nI (bb i)) (z : ∀ j, j < 43 → e j = 0) : match rAll n bb e with
    | .inl (f, pl) => ∃ h', fX4_readInto 213 h = some (0, h') ∧ h' 18 1 = 0 ∧ h' 18 3 = nI f ∧ h' 18 2 = nI pl ∧ Cf h h'
    | .inr (T, P, e') => ∃ h', fX4_readInto 213 h = some (1, h') ∧ h' 18 1 = 0 ∧ h' 18 3 = h 18 3 ∧ Cf h h' ∧ EstC e' T P h' 213 := by
  have fin : ∀ g : AH, Cf h g → Cf h (hs g 18 1 0) := fun g c k w1 w2 => (hs_q _ _ _ w1).trans (c k w1 w2)
  have r1 : ∀ g : AH, hs g 18 1 0 18 1 = 0 := fun g => hs_kj _ _ _ _
  have r2 : ∀ g : AH, hs g 18 1 0 18 2 = g 18 2 := fun g => hs_ki _ _ _ (by decide)
  have r3 : ∀ g : AH, hs g 18 1 0 18 3 = g 18 3 := fun g => hs_ki _ _ _ (by decide)
  have r4 : ∀ g : AH, ∀ k, k ≠ 18 → hs g 18 1 0 k = g k := fun g k hk => hs_q _ _ _ hk
  unfold fX4_readInto rAll
  rw [sto_e]
  obtain ⟨h1, k1, k2, k3, k4⟩ := xEmpty (hs h 18 2 0)
  rw [k1, bnd_e]
  have c1 : CT h1 n bb 0 := ⟨hn, by omega, by rw [k4 18 (by decide) (by decide), hs_ki _ _ _ (by decide)]; exact e1, by rw [k4 18 (by decide) (by decide), hs_kj]; rfl, fun i hi => ⟨(hb i hi).1, by rw [k4 19 (by decide) (by decide), hs_q _ _ _ (by decide)]; exact (hb i hi).2⟩⟩
  have f1 : Cf h h1 := fun k w1 w2 => by rw [k4 k (by omega) (by omega), hs_q _ _ _ w1]
  have t1 : h1 18 3 = h 18 3 := by rw [k4 18 (by decide) (by decide), hs_ki _ _ _ (by decide)]
  have s1 : EstC e 0 0 h1 213 := ⟨kd_213, ⟨k2 0 (by omega), k2 1 (by omega), by rw [k2 2 (by omega), z 0 (by omega)], by rw [k2 3 (by omega), z 1 (by omega)], by rw [k2 4 (by omega), z 4 (by omega)], 0, k2 5 (by omega), by decide, fun u hu => absurd hu (by omega)⟩, fun u hu => absurd hu (by omega), fun u hu => absurd hu (by omega)⟩
  have L := xLaw c1 s1
  cases ra : rL n bb with
  | inl a =>
    obtain ⟨f, pl⟩ := a
    rw [ra] at L
    obtain ⟨h2, j1, j2, j3, j4⟩ := L
    simp only [sbd]
    rw [j1, bnd_e, if0, sto_e]
    exact ⟨_, rfl, r1 _, (r3 _).trans j2, (r2 _).trans j3, fin _ (f1.tr j4)⟩
  | inr a =>
    obtain ⟨v, w, p⟩ := a
    rw [ra] at L
    obtain ⟨h2, j1, j2, j3, j4, j5, j6⟩ := L
    simp only [sbd]
    rw [j1, bnd_e, if1]
    unfold fX4_readTugs
    rw [xSort j2, bnd_e]
    by_cases a : p < n ∧ kdN (bb p) ≠ 0
    · rw [if_pos a.1, if_neg (nI_ne0 (by have := a.2; omega) (by have := kdN_le (bb p); omega))]
      have X := xTugs_L (n := n) (P := 0) (bb := bb) (k := fun _ h6 => some (1, h6)) 6 0 p (upd (upd e 0 (nI v)) 1 (nI w)) FU h2 (by omega) (by have := FU_big; omega) j2 j5 (fun u h1 h2 => by rw [j6]; exact k3 u h2) (fun u h1 h2 => by
        simp (disch := omega) only [upd_n]
        exact z _ (by omega))
      cases rb : rTs n bb 6 p (upd (upd e 0 (nI v)) 1 (nI w)) with
      | inl b =>
        obtain ⟨f, pl⟩ := b
        rw [rb] at X
        obtain ⟨h3, i1, i2, i3, i4⟩ := X
        rw [nI_0] at i1
        simp only []
        rw [i1, bnd_e, if0, sto_e]
        exact ⟨_, rfl, r1 _, (r3 _).trans i2, (r2 _).trans i3, fin _ ((f1.tr j4).tr i4)⟩
      | inr b =>
        obtain ⟨T, p2, e2⟩ := b
        rw [rb] at X
        obtain ⟨h3, i1, i2, i3, i4, i5⟩ := X
        rw [nI_0] at i1
        have T1 : 1 ≤ T ∧ T ≤ 6 := by
          refine ⟨?_, (rTs_ge 6 _ _ _ _ _ (by omega) rb).2⟩
          have rb2 := rb
          unfold rTs at rb2
          rw [if_pos a] at rb2
          cases r : rP n bb 1 20 (p + 1) with
          | inl s => rw [r] at rb2; simp only [sbd] at rb2; cases rb2
          | inr s =>
            rw [r] at rb2; simp only [sbd] at rb2
            exact (rTs_ge 5 _ _ _ _ _ (by omega) rb2).1
        simp only []
        rw [i1, bnd_e, if1, if_neg (show ¬ T = 0 by omega)]
        unfold fX4_readPiers
        have Y := xPiers_L (n := n) (T := T) (bb := bb) (k := fun _ h6 => some (1, h6)) T1.2 4 0 p2 e2 FU h3 (by omega) (by have := FU_big; omega) i2 i5
        cases rc : rQs n bb 4 p2 e2 with
        | inl b =>
          obtain ⟨f, pl⟩ := b
          rw [rc] at Y
          obtain ⟨h4, m1, m2, m3, m4⟩ := Y
          rw [nI_0] at m1
          simp only []
          rw [m1, bnd_e, if0, sto_e]
          exact ⟨_, rfl, r1 _, (r3 _).trans m2, (r2 _).trans m3, fin _ (((f1.tr j4).tr i4).tr m4)⟩
        | inr b =>
          obtain ⟨P, p3, e3⟩ := b
          rw [rc] at Y
          obtain ⟨h4, m1, m2, m3, m4, m5⟩ := Y
          rw [nI_0] at m1
          simp only []
          rw [m1, bnd_e, if1]
          unfold fX4_readEnd
          rw [m2.2.2.2.1, m2.2.2.1]
          by_cases y : p3 = n
          · rw [if_pos (show nI p3 = nI n by rw [y]), bnd_e, if1, sto_e, if_pos y]
            exact ⟨_, rfl, r1 _, by rw [r3, m3, i3, j3, t1], fin _ (((f1.tr j4).tr i4).tr m4), m5.fm fun k h1 h2 => r4 _ k (by omega)⟩
          · rw [if_neg (show ¬ nI p3 = nI n from fun w => y ((nI_eq (by have := m2.2.1; omega) (by omega)).mp w)), if_neg y]
            unfold fX4_faulty
            rw [sto_e, bnd_e, if0, bnd_e, if0, sto_e]
            refine ⟨_, rfl, r1 _, (r3 _).trans (hs_kj _ _ _ _), ?_, fin _ fun k w1 w2 => (hs_q _ _ _ w1).trans ((((f1.tr j4).tr i4).tr m4) k w1 w2)⟩
            rw [r2, hs_ki _ _ _ (by decide)]; exact m2.2.2.2.1
    · have rb : rTs n bb 6 p (upd (upd e 0 (nI v)) 1 (nI w)) = .inr (0, p, upd (upd e 0 (nI v)) 1 (nI w)) := by
        unfold rTs
        rw [if_neg a]
      rw [rb]
      simp only []
      have k0 : nI (if p < n then kdN (bb p) else 0) = 0 := by
        by_cases b : p < n
        · rw [if_pos b]
          by_cases d : kdN (bb p) = 0
          · rw [d]; rfl
          · exact absurd ⟨b, d⟩ a
        · rw [if_neg b]; rfl
      rw [if_pos k0, if_pos trivial]
      unfold fX4_faulty
      rw [sto_e, bnd_e, c01_0, bnd_e, if0, sto_e]
      refine ⟨_, rfl, r1 _, (r3 _).trans (hs_kj _ _ _ _), ?_, fin _ fun k w1 w2 => (hs_q _ _ _ w1).trans ((f1.tr j4) k w1 w2)⟩
      rw [r2, hs_ki _ _ _ (by decide)]; exact j2.2.2.2.1
