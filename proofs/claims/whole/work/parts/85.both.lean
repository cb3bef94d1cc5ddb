theorem ln_212i {α : Type} {o : Option α} : chk (inb (0 : Int32) (ln 212)) o = o := chk_p (by rw [ln_212]; exact inb_n (k := 0) (by decide) (by decide))
theorem Inv.tell {h h' : AH} (i : Inv h) (q : ∀ k, k ≠ 18 → (k < 213 ∨ 219 < k) → k ≠ 278 → k ≠ 285 → h' k = h k) (q2 : ∀ j, (j < 6 ∨ 12 < j) → h' 278 j = h 278 j) (t1 : h' 18 1 = 0) (t2 : h' 278 6 = 0) (t3 : h' 18 3 = h' 278 7) : Inv h' := by
  obtain ⟨a, b, c, d, e, f, g⟩ := i
  refine ⟨a.to fun k hk => q k (by omega) (by omega) (by omega) (by omega), ⟨⟨0, by omega, t1, t2, fun i hi => absurd hi (by omega)⟩, t3⟩, ?_, d.to fun k hk => q k (by omega) (by omega) (by omega) (by omega), e.to (fun k hk => q k (by omega) (by omega) (by omega) (by omega)) (q2 17 (by omega)), f.to fun k hk => q k (by omega) (by omega) (by omega) (by omega), g.to (fun k hk => q k (by omega) (by omega) (by omega) (by omega)) (q2 21 (by omega))⟩
  unfold IS
  rw [q 0 (by omega) (by omega) (by omega) (by omega), q2 4 (by omega)]
  exact c
theorem Inv.told {h h' : AH} {T P : Nat} {e : Nat → Int32} (i : Inv h) (hg : Gd e T P 9999) (q : ∀ k, k ≠ 18 → (k < 20 ∨ 27 < k) → (k < 213 ∨ 219 < k) → k ≠ 278 → k ≠ 284 → k ≠ 285 → h' k = h k) (q2 : ∀ j, (j < 6 ∨ (12 < j ∧ j ≠ 17)) → h' 278 j = h 278 j) (t1 : h' 18 1 = 0) (t2 : h' 278 6 = 0) (t3 : h' 18 3 = h' 278 7) (he : EstC e T P h' 20) (e4 : ∀ j, j < 43 → h' 284 j = e j) (a1 : h' 27 1 = 0) (a2 : h' 27 2 = 0) (a3 : h' 278 17 = 0) : Inv h' := by
  obtain ⟨a, b, c, d, _, f, g⟩ := i
  have hT := hg.1
  refine ⟨a.to fun k hk => q k (by omega) (by omega) (by omega) (by omega) (by omega) (by omega), ⟨⟨0, by omega, t1, t2, fun i hi => absurd hi (by omega)⟩, t3⟩, ?_, Or.inr ⟨T, P, hg.eq e4, he.eq (by omega) (by omega) e4⟩, ⟨0, 0, fun _ _ => 0, ⟨by omega, by omega, a2, a1, fun i hi => absurd hi (by omega)⟩, a3, fun i hi => absurd hi (by omega)⟩, f.to fun k hk => q k (by omega) (by omega) (by omega) (by omega) (by omega) (by omega), g.to (fun k hk => q k (by omega) (by omega) (by omega) (by omega) (by omega) (by omega)) (q2 21 (by omega))⟩
  unfold IS
  rw [q 0 (by omega) (by omega) (by omega) (by omega) (by omega) (by omega), q2 4 (by omega)]
  exact c
theorem both_estuary {h : AH} (i : Inv h) : Both (fX5_estuary h) fX6_estuary := by
  obtain ⟨⟨n, hn, n1, n2, hb⟩, n3⟩ := i.2.1
  have hbb : ∀ i, i < n → Int32.toNatClampNeg (h 19 i) ≤ 255 ∧ h 19 i = nI (Int32.toNatClampNeg (h 19 i)) ∧ h 283 i = nI (Int32.toNatClampNeg (h 19 i)) := by
    intro i hi
    obtain ⟨b, b1, b2, b3⟩ := hb i hi
    rw [b2, nI_clamp (by omega)]
    exact ⟨b1, rfl, b3⟩
  revert hbb
  generalize (fun i => Int32.toNatClampNeg (h 19 i)) = w0
  intro hbb
  obtain ⟨bb, hbb⟩ : ∃ bb : Nat → Nat, ∀ i, i < n → bb i ≤ 255 ∧ h 19 i = nI (bb i) ∧ h 283 i = nI (bb i) := ⟨fun i => Int32.toNatClampNeg (h 19 i), hbb⟩
  have z := zr_z (h 285)
  have X := xInto (h := h) (n := n) (bb := bb) (e := zr (h 285) 43) hn n1 (fun i hi => ⟨(hbb i hi).1, (hbb i hi).2.1⟩) z
  have ce : (212 + 1 + 7 * Int32.toNatClampNeg (0 : Int32)) = 213 := by rw [cl_0]
  unfold fX5_estuary
  rw [ln_212i, ce]
  cases r : rAll n bb (zr (h 285) 43) with
  | inl a =>
    obtain ⟨f, pl⟩ := a
    rw [r] at X
    obtain ⟨h1, k1, k2, k3, k4, k5⟩ := X
    have e285 : h1 285 = h 285 := k5 285 (by omega) (by omega)
    have e278 : h1 278 = h 278 := k5 278 (by omega) (by omega)
    have e283 : h1 283 = h 283 := k5 283 (by omega) (by omega)
    have M := mEst (h := h1) (n := n) (bb := bb) ⟨hn, by rw [e278]; exact n2, fun i hi => ⟨(hbb i hi).1, by rw [e283]; exact (hbb i hi).2.2⟩⟩
    rw [e285, r] at M
    obtain ⟨h2, j1, j2, j3, j4, j5⟩ := M
    refine ⟨-1000100 - nI pl, h1, h2, ?_, j1, i.tell (fun k x1 x2 x3 x4 => (j2 k x3 x4).trans (k5 k x1 x2)) (fun j hj => by rw [j3 j hj, e278]) ?_ j4 ?_⟩
    · rw [k1, bnd_e, if0, k4]
    · rw [j2 18 (by decide) (by decide)]; exact k2
    · rw [j2 18 (by decide) (by decide), k3, j5]
  | inr a =>
    obtain ⟨T, P, e⟩ := a
    rw [r] at X
    obtain ⟨h1, k1, k2, k3, k4, k5⟩ := X
    have hg := rAll_G z r
    obtain ⟨h2, i1, i2, i3⟩ := xTake (r := 20) k5 (by have := hg.1; omega) (by have := hg.1; omega) (by decide +kernel) (by omega)
    have o3 : ∀ k, k ≠ 27 → hs (hs h2 27 1 0) 27 2 0 k = h2 k := fun k hk => by rw [hs_q _ _ _ hk, hs_q _ _ _ hk]
    have o1 : hs (hs h2 27 1 0) 27 2 0 27 1 = 0 := by rw [hs_ki _ _ _ (by decide), hs_kj]
    have o2 : hs (hs h2 27 1 0) 27 2 0 27 2 = 0 := hs_kj _ _ _ _
    have cl : (bnd (fX4_readInto 213 h) fun v3 h2 => (if v3 = 0 then (some (((-1000100 : Int32) - (h2 18 2)), h2)) else (bnd (fX2_take 20 213 h2) fun _ h4 => (bnd (fX0_forget  h4) fun _ h5 => (some ((h5 20 0), h5)))))) = some (nI T, hs (hs h2 27 1 0) 27 2 0) := by
      rw [k1, bnd_e, if1, i1, bnd_e]
      unfold fX0_forget
      rw [sto_e, sto_e, bnd_e, o3 20 (by decide), i2.2.1.1]
    revert o1 o2 o3 cl
    generalize hs (hs h2 27 1 0) 27 2 0 = h3
    intro o3 o1 o2 cl
    have fr : ∀ k, k ≠ 18 → (k < 20 ∨ 27 < k) → (k < 213 ∨ 219 < k) → h3 k = h k := fun k x1 x2 x3 => by rw [o3 k (by omega), i3 k (by omega), k4 k x1 x3]
    have e18 : h3 18 = h1 18 := by rw [o3 18 (by omega), i3 18 (by omega)]
    have e285 : h3 285 = h 285 := fr 285 (by omega) (by omega) (by omega)
    have e278 : h3 278 = h 278 := fr 278 (by omega) (by omega) (by omega)
    have e283 : h3 283 = h 283 := fr 283 (by omega) (by omega) (by omega)
    have M := mEst (h := h3) (n := n) (bb := bb) ⟨hn, by rw [e278]; exact n2, fun i hi => ⟨(hbb i hi).1, by rw [e283]; exact (hbb i hi).2.2⟩⟩
    rw [e285, r] at M
    obtain ⟨h4, j1, j2, j3, j4, j5, j6⟩ := M
    have g18 : h4 18 = h1 18 := by rw [j2 18 (by decide) (by decide) (by decide), e18]
    refine ⟨nI T, h3, h4, cl, j1, i.told hg (fun k x1 x2 x3 x4 x5 x6 => (j2 k x4 x5 x6).trans (fr k x1 x2 x3)) (fun j hj => by rw [j3 j (by omega), e278]) ?_ j4 ?_ ?_ j6 ?_ ?_ j5⟩
    · rw [g18]; exact k2
    · rw [g18, k3, j3 7 (by omega), e278]; exact n3
    · exact i2.fm fun k y1 y2 => by rw [j2 k (by omega) (by omega) (by omega), o3 k (by omega)]
    · rw [j2 27 (by decide) (by decide) (by decide)]; exact o1
    · rw [j2 27 (by decide) (by decide) (by decide)]; exact o2
