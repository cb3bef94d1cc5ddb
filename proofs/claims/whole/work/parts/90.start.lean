theorem eL_law_0 : DD cL_law 0 (.new 7) 3 3 := by decide +kernel
theorem eL_law_3 : DD cL_law 3 (.dup) 1 4 := by decide +kernel
theorem eL_law_4 : DD cL_law 4 (.invokespecial 9) 3 7 := by decide +kernel
theorem eL_law_7 : DD cL_law 7 (.astore_n 1) 1 8 := by decide +kernel
theorem eL_law_8 : DD cL_law 8 (.new 10) 3 11 := by decide +kernel
theorem eL_law_11 : DD cL_law 11 (.dup) 1 12 := by decide +kernel
theorem eL_law_12 : DD cL_law 12 (.invokespecial 12) 3 15 := by decide +kernel
theorem eL_law_15 : DD cL_law 15 (.astore_n 2) 1 16 := by decide +kernel
theorem st_0 {s : State} {b : Nat} (hts : ∀ w ∈ lw_tbl, w.before #[Value.ref b] s = true) (hgv : (Jvm.Cond.and given_1 narrow_1).before #[Value.ref b] s = true) : ∃ t : Nat, va_Z (stN 0).1 (stN 0).2 "[I" (.ref t) (fun q => s.heap.size ≤ q) s s.heap ∧ va_T .int t (stL 0).length (fun j => .int (stV 0 j)) (fun q => s.heap.size ≤ q) s s.heap := by
  have hs := flat_of_before _ hgv
  have hA : ∀ a : Nat, a < s.heap.size → ¬ (fun q => s.heap.size ≤ q) a := fun a h => Nat.not_le.mpr h
  have hel : ∀ j : Nat, j < 5 → (Term.elem (.static "TugLines" "MOST_SUPPOSED" "[I") (.int (Int32.ofNat j))).eval #[Value.ref b] s none [] s = some (.int (stV 0 j)) := by
    intro j hj
    match j, hj with
    | 0, _ => exact va_eqt (z := 5) (hs (Cond.eq (.elem (.static "TugLines" "MOST_SUPPOSED" "[I") (.int 0)) (.int (5))) (by decide +kernel))
    | 1, _ => exact va_eqt (z := 20) (hs (Cond.eq (.elem (.static "TugLines" "MOST_SUPPOSED" "[I") (.int 1)) (.int (20))) (by decide +kernel))
    | 2, _ => exact va_eqt (z := 20) (hs (Cond.eq (.elem (.static "TugLines" "MOST_SUPPOSED" "[I") (.int 2)) (.int (20))) (by decide +kernel))
    | 3, _ => exact va_eqt (z := 60) (hs (Cond.eq (.elem (.static "TugLines" "MOST_SUPPOSED" "[I") (.int 3)) (.int (60))) (by decide +kernel))
    | 4, _ => exact va_eqt (z := 60) (hs (Cond.eq (.elem (.static "TugLines" "MOST_SUPPOSED" "[I") (.int 4)) (.int (60))) (by decide +kernel))
    | j + 5, hj => exact absurd hj (by omega)
  obtain ⟨t, ht, hT⟩ := va_Tof (tm := (.static "TugLines" "MOST_SUPPOSED" "[I")) (ty := .int) (N := 5) (f := fun j => .int (stV 0 j)) (A := fun q => s.heap.size ≤ q) (by decide) (hs (Cond.arrayOf (.static "TugLines" "MOST_SUPPOSED" "[I") .int) (by decide +kernel)) (va_eqt (z := 5) (hs (Cond.eq (.length (.static "TugLines" "MOST_SUPPOSED" "[I")) (.int 5)) (by decide +kernel))) hel hA
  exact ⟨t, va_Zref (hts (.laysStatic "TugLines" "MOST_SUPPOSED" "[I") (List.mem_of_getElem? (i := 566) (by decide +kernel))) (hts (.initialized "TugLines") (List.mem_of_getElem? (i := 57) (by decide +kernel))) ht hA, hT⟩
theorem st_1 {s : State} {b : Nat} (hts : ∀ w ∈ lw_tbl, w.before #[Value.ref b] s = true) (hgv : (Jvm.Cond.and given_1 narrow_1).before #[Value.ref b] s = true) : ∃ t : Nat, va_Z (stN 1).1 (stN 1).2 "[I" (.ref t) (fun q => s.heap.size ≤ q) s s.heap ∧ va_T .int t (stL 1).length (fun j => .int (stV 1 j)) (fun q => s.heap.size ≤ q) s s.heap := by
  have hs := flat_of_before _ hgv
  have hA : ∀ a : Nat, a < s.heap.size → ¬ (fun q => s.heap.size ≤ q) a := fun a h => Nat.not_le.mpr h
  have hel : ∀ j : Nat, j < 6 → (Term.elem (.static "TugLines" "ALSO" "[I") (.int (Int32.ofNat j))).eval #[Value.ref b] s none [] s = some (.int (stV 1 j)) := by
    intro j hj
    match j, hj with
    | 0, _ => exact va_eqt (z := -1) (hs (Cond.eq (.elem (.static "TugLines" "ALSO" "[I") (.int 0)) (.int (-1))) (by decide +kernel))
    | 1, _ => exact va_eqt (z := 0) (hs (Cond.eq (.elem (.static "TugLines" "ALSO" "[I") (.int 1)) (.int (0))) (by decide +kernel))
    | 2, _ => exact va_eqt (z := 1) (hs (Cond.eq (.elem (.static "TugLines" "ALSO" "[I") (.int 2)) (.int (1))) (by decide +kernel))
    | 3, _ => exact va_eqt (z := 1) (hs (Cond.eq (.elem (.static "TugLines" "ALSO" "[I") (.int 3)) (.int (1))) (by decide +kernel))
    | 4, _ => exact va_eqt (z := 0) (hs (Cond.eq (.elem (.static "TugLines" "ALSO" "[I") (.int 4)) (.int (0))) (by decide +kernel))
    | 5, _ => exact va_eqt (z := 4) (hs (Cond.eq (.elem (.static "TugLines" "ALSO" "[I") (.int 5)) (.int (4))) (by decide +kernel))
    | j + 6, hj => exact absurd hj (by omega)
  obtain ⟨t, ht, hT⟩ := va_Tof (tm := (.static "TugLines" "ALSO" "[I")) (ty := .int) (N := 6) (f := fun j => .int (stV 1 j)) (A := fun q => s.heap.size ≤ q) (by decide) (hs (Cond.arrayOf (.static "TugLines" "ALSO" "[I") .int) (by decide +kernel)) (va_eqt (z := 6) (hs (Cond.eq (.length (.static "TugLines" "ALSO" "[I")) (.int 6)) (by decide +kernel))) hel hA
  exact ⟨t, va_Zref (hts (.laysStatic "TugLines" "ALSO" "[I") (List.mem_of_getElem? (i := 630) (by decide +kernel))) (hts (.initialized "TugLines") (List.mem_of_getElem? (i := 57) (by decide +kernel))) ht hA, hT⟩
theorem st_2 {s : State} {b : Nat} (hts : ∀ w ∈ lw_tbl, w.before #[Value.ref b] s = true) (hgv : (Jvm.Cond.and given_1 narrow_1).before #[Value.ref b] s = true) : ∃ t : Nat, va_Z (stN 2).1 (stN 2).2 "[I" (.ref t) (fun q => s.heap.size ≤ q) s s.heap ∧ va_T .int t (stL 2).length (fun j => .int (stV 2 j)) (fun q => s.heap.size ≤ q) s s.heap := by
  have hs := flat_of_before _ hgv
  have hA : ∀ a : Nat, a < s.heap.size → ¬ (fun q => s.heap.size ≤ q) a := fun a h => Nat.not_le.mpr h
  have hel : ∀ j : Nat, j < 6 → (Term.elem (.static "TugLines$Asker" "SIZE_BODY" "[I") (.int (Int32.ofNat j))).eval #[Value.ref b] s none [] s = some (.int (stV 2 j)) := by
    intro j hj
    match j, hj with
    | 0, _ => exact va_eqt (z := 10) (hs (Cond.eq (.elem (.static "TugLines$Asker" "SIZE_BODY" "[I") (.int 0)) (.int (10))) (by decide +kernel))
    | 1, _ => exact va_eqt (z := 11) (hs (Cond.eq (.elem (.static "TugLines$Asker" "SIZE_BODY" "[I") (.int 1)) (.int (11))) (by decide +kernel))
    | 2, _ => exact va_eqt (z := 12) (hs (Cond.eq (.elem (.static "TugLines$Asker" "SIZE_BODY" "[I") (.int 2)) (.int (12))) (by decide +kernel))
    | 3, _ => exact va_eqt (z := 11) (hs (Cond.eq (.elem (.static "TugLines$Asker" "SIZE_BODY" "[I") (.int 3)) (.int (11))) (by decide +kernel))
    | 4, _ => exact va_eqt (z := 13) (hs (Cond.eq (.elem (.static "TugLines$Asker" "SIZE_BODY" "[I") (.int 4)) (.int (13))) (by decide +kernel))
    | 5, _ => exact va_eqt (z := 14) (hs (Cond.eq (.elem (.static "TugLines$Asker" "SIZE_BODY" "[I") (.int 5)) (.int (14))) (by decide +kernel))
    | j + 6, hj => exact absurd hj (by omega)
  obtain ⟨t, ht, hT⟩ := va_Tof (tm := (.static "TugLines$Asker" "SIZE_BODY" "[I")) (ty := .int) (N := 6) (f := fun j => .int (stV 2 j)) (A := fun q => s.heap.size ≤ q) (by decide) (hs (Cond.arrayOf (.static "TugLines$Asker" "SIZE_BODY" "[I") .int) (by decide +kernel)) (va_eqt (z := 6) (hs (Cond.eq (.length (.static "TugLines$Asker" "SIZE_BODY" "[I")) (.int 6)) (by decide +kernel))) hel hA
  exact ⟨t, va_Zref (hts (.laysStatic "TugLines$Asker" "SIZE_BODY" "[I") (List.mem_of_getElem? (i := 644) (by decide +kernel))) (hts (.initialized "TugLines$Asker") (List.mem_of_getElem? (i := 62) (by decide +kernel))) ht hA, hT⟩
theorem st_3 {s : State} {b : Nat} (hts : ∀ w ∈ lw_tbl, w.before #[Value.ref b] s = true) (hgv : (Jvm.Cond.and given_1 narrow_1).before #[Value.ref b] s = true) : ∃ t : Nat, va_Z (stN 3).1 (stN 3).2 "[I" (.ref t) (fun q => s.heap.size ≤ q) s s.heap ∧ va_T .int t (stL 3).length (fun j => .int (stV 3 j)) (fun q => s.heap.size ≤ q) s s.heap := by
  have hs := flat_of_before _ hgv
  have hA : ∀ a : Nat, a < s.heap.size → ¬ (fun q => s.heap.size ≤ q) a := fun a h => Nat.not_le.mpr h
  have hel : ∀ j : Nat, j < 6 → (Term.elem (.static "TugLines$Asker" "MARK_BODY" "[I") (.int (Int32.ofNat j))).eval #[Value.ref b] s none [] s = some (.int (stV 3 j)) := by
    intro j hj
    match j, hj with
    | 0, _ => exact va_eqt (z := 20) (hs (Cond.eq (.elem (.static "TugLines$Asker" "MARK_BODY" "[I") (.int 0)) (.int (20))) (by decide +kernel))
    | 1, _ => exact va_eqt (z := 21) (hs (Cond.eq (.elem (.static "TugLines$Asker" "MARK_BODY" "[I") (.int 1)) (.int (21))) (by decide +kernel))
    | 2, _ => exact va_eqt (z := 24) (hs (Cond.eq (.elem (.static "TugLines$Asker" "MARK_BODY" "[I") (.int 2)) (.int (24))) (by decide +kernel))
    | 3, _ => exact va_eqt (z := 22) (hs (Cond.eq (.elem (.static "TugLines$Asker" "MARK_BODY" "[I") (.int 3)) (.int (22))) (by decide +kernel))
    | 4, _ => exact va_eqt (z := 23) (hs (Cond.eq (.elem (.static "TugLines$Asker" "MARK_BODY" "[I") (.int 4)) (.int (23))) (by decide +kernel))
    | 5, _ => exact va_eqt (z := 23) (hs (Cond.eq (.elem (.static "TugLines$Asker" "MARK_BODY" "[I") (.int 5)) (.int (23))) (by decide +kernel))
    | j + 6, hj => exact absurd hj (by omega)
  obtain ⟨t, ht, hT⟩ := va_Tof (tm := (.static "TugLines$Asker" "MARK_BODY" "[I")) (ty := .int) (N := 6) (f := fun j => .int (stV 3 j)) (A := fun q => s.heap.size ≤ q) (by decide) (hs (Cond.arrayOf (.static "TugLines$Asker" "MARK_BODY" "[I") .int) (by decide +kernel)) (va_eqt (z := 6) (hs (Cond.eq (.length (.static "TugLines$Asker" "MARK_BODY" "[I")) (.int 6)) (by decide +kernel))) hel hA
  exact ⟨t, va_Zref (hts (.laysStatic "TugLines$Asker" "MARK_BODY" "[I") (List.mem_of_getElem? (i := 646) (by decide +kernel))) (hts (.initialized "TugLines$Asker") (List.mem_of_getElem? (i := 62) (by decide +kernel))) ht hA, hT⟩
set_option maxHeartbeats 4000000 in
/-- the law, from its entry -/
theorem whole_start {p : Program} {e : Env} {s : State} {m : MethodId} {below : List Frame} {meth : Method} {c : Code} (l : Launch) (hflags : l.flags = flags0) {b L : Nat} {xs : Nat → Int32} (hL : L ≤ 3072) (C0 : lw_At p s m meth c b L xs) : W p l e room_1 s m #[Value.ref b] below meth c s.heap [] 0 0 (lw_Z below #[Value.ref b] s) (entryFrame m ([Value.ref b] : List Value).toArray 4) := by
  obtain ⟨hx, hb, hr, hml, hown, hts, hX, hbl, hlocks, hgv⟩ := C0
  obtain ⟨c0, iS0, hKn0⟩ := u_known (C := RX0) (T := TX0) (N := 3) (n := 3) hts inX0 (hts (.instantiable RX0 3) kN_X0)
  obtain ⟨c1, iS1, hKn1⟩ := u_known (C := RX1) (T := TX1) (N := 2) (n := 2) hts inX1 (hts (.instantiable RX1 2) kN_X1)
  obtain ⟨c2, iS2, hKn2⟩ := u_known (C := RX2) (T := TX2) (N := 12) (n := 12) hts inX2 (hts (.instantiable RX2 12) kN_X2)
  obtain ⟨c3, iS3, hKn3⟩ := u_known (C := RX3) (T := TX3) (N := 3) (n := 3) hts inX3 (hts (.instantiable RX3 3) kN_X3)
  obtain ⟨c4, iS4, hKn4⟩ := u_known (C := RX4) (T := TX4) (N := 5) (n := 5) hts inX4 (hts (.instantiable RX4 5) kN_X4)
  obtain ⟨c5, iS5, hKn5⟩ := u_known (C := RX5) (T := TX5) (N := 8) (n := 8) hts inX5 (hts (.instantiable RX5 8) kN_X5)
  obtain ⟨c6, iS6, hKn6⟩ := u_known (C := RX6) (T := TX6) (N := 22) (n := 22) hts inX6 (hts (.instantiable RX6 22) kN_X6)
  obtain ⟨dC, dI, hKc⟩ : ∃ (dC : Nat → ClassId) (dI : Nat → Nat → Nat), ∀ (k : Nat) (q : vw_C), vwCl[k]? = some q → u_Kn s q.1 q.2.1 q.2.2 (dC k) (dI k) := by
    refine ⟨fun k => if k = 0 then c0 else if k = 1 then c1 else if k = 2 then c2 else if k = 3 then c3 else if k = 4 then c4 else if k = 5 then c5 else c6, fun k => if k = 0 then iS0 else if k = 1 then iS1 else if k = 2 then iS2 else if k = 3 then iS3 else if k = 4 then iS4 else if k = 5 then iS5 else iS6, ?_⟩
    intro k q hq
    match k, hq with
    | 0, hq => cases hq; exact hKn0
    | 1, hq => cases hq; exact hKn1
    | 2, hq => cases hq; exact hKn2
    | 3, hq => cases hq; exact hKn3
    | 4, hq => cases hq; exact hKn4
    | 5, hq => cases hq; exact hKn5
    | 6, hq => cases hq; exact hKn6
    | k + 7, hq => simp [vwCl] at hq
  obtain ⟨aI, kI, cmI, fI, gI, eI⟩ := Cond.arrayClass_spec (hts (.arrayClass .int) kY_int)
  obtain ⟨aZ, kZ, cmZ, fZ, gZ, eZ⟩ := Cond.arrayClass_spec (hts (.arrayClass .boolean) kY_bool)
  have oE : (Cond.arrayOver (.object "TugLines$Estuary")).before #[Value.ref b] s = true := hts _ (List.mem_of_getElem? (i := 195) (by decide +kernel))
  have oR : (Cond.arrayOver (.object "TugLines$Row")).before #[Value.ref b] s = true := hts _ (List.mem_of_getElem? (i := 76) (by decide +kernel))
  obtain ⟨cmE, aE, kE, nE, -, gE, eE, fE⟩ := Cond.arrayOver_spec oE
  obtain ⟨cmR, aR, kR, nR, -, gR, eR, fR⟩ := Cond.arrayOver_spec oR
  obtain ⟨t0, hz0, ht0⟩ := st_0 hts hgv
  obtain ⟨t1, hz1, ht1⟩ := st_1 hts hgv
  obtain ⟨t2, hz2, ht2⟩ := st_2 hts hgv
  obtain ⟨t3, hz3, ht3⟩ := st_3 hts hgv
  generalize hXe : ((s.heap.size, (dC, dI), (fun k => if k = 0 then aI else if k = 1 then aZ else if k = 2 then aE else aR), (fun k => if k = 0 then t0 else if k = 1 then t1 else if k = 2 then t2 else t3)) : WX) = X
  have hX1 : X.1 = s.heap.size := by rw [← hXe]
  have hKK : va_K X.2.1 vwCl (xT X) s := by
    subst hXe
    refine ⟨hKc, fun k q hq => ?_⟩
    match k, hq with
    | 0, hq => cases hq; exact ⟨fun n z => ⟨fun k h => (by cases h), kI, gI, cmI, eI⟩, fI⟩
    | 1, hq => cases hq; exact ⟨fun n z => ⟨fun k h => (by cases h), kZ, gZ, cmZ, eZ⟩, fZ⟩
    | 2, hq => cases hq; exact ⟨fun n z => ⟨fun k h => (by cases h), kE, gE, cmE, eE⟩, kE, cmE, gE, eE, nE, fE⟩
    | 3, hq => cases hq; exact ⟨fun n z => ⟨fun k h => (by cases h), kR, gR, cmR, eR⟩, kR, cmR, gR, eR, nR, fR⟩
    | k + 4, hq => simp [xT] at hq
  have hEnv : xEnv X s := by
    refine ⟨hKK, fun i hi => ?_⟩
    subst hXe
    match i, hi with
    | 0, _ => exact ⟨hz0, ht0⟩
    | 1, _ => exact ⟨hz1, ht1⟩
    | 2, _ => exact ⟨hz2, ht2⟩
    | 3, _ => exact ⟨hz3, ht3⟩
    | i + 4, hi => exact absurd hi (by omega)
  have htg : ∀ w ∈ lw_g, w.before #[Value.ref b] s = true := fun w hw => hts w (List.mem_filter.mp hw).1
  have hKI : OkI (p, l, e, room_1, s, m, #[Value.ref b], below, meth, c, 0, 0) X RL cL_law 4 150 600000 7302250 := ⟨hx, hb, hml, hown, htg, hlocks, ⟨hKK, oE, oR⟩, Nat.le_of_ble_eq_true rfl, Nat.le_of_ble_eq_true rfl, Nat.le_of_ble_eq_true rfl, Nat.le_of_ble_eq_true rfl, Nat.le_of_eq hX1⟩
  have walk : JI (p, l, e, room_1, s, m, #[Value.ref b], below, meth, c, 0, 0) X 4 (lw_Z below #[Value.ref b] s) 0 0 0 [(0, .ref b)] [] 0 (ov (lay X h0) 279 (.inl (X.2.2.1 0, 8, .inl (fun _ => 0)))) := by
    refine JI_new hKI eL_law_0 inXg5 tyX5_ok kK_cl_L_7 kN_X5 kZ_X5 (ci := 5) rfl (fs := [.null, .null, .null, .null, .null, .null, .null, .int 0]) (fun j hj => by (have key : ∀ j, j < 8 → defaultValue (tyX5 j) = vp_V [.null, .null, .null, .null, .null, .null, .null, .int 0] j := by decide +kernel); exact key j hj) (by omega) (by omega) ?_
    refine JI_dup hKI eL_law_3 rfl ?_
    refine JI_callI hKI eL_law_4 kB_L_9 kI_X5_init rfl (j := 6) (by decide) (Nat.le_of_ble_eq_true rfl) (by omega) (by omega) (mX5_init (fun k h1 h2 => ov_ne _ _ (by omega))) ?_
    refine JI_astore_n (j := 1) (lw := [(0, .ref b)]) hKI eL_law_7 rfl (by decide) rfl ?_
    refine JI_new hKI eL_law_8 inXg6 tyX6_ok kK_cl_L_10 kN_X6 kZ_X6 (ci := 6) rfl (fs := [.null, .null, .null, .null, .int 0, .null, .int 0, .int 0, .int 0, .int 0, .int 0, .int 0, .int 0, .null, .null, .null, .null, .int 0, .null, .null, .null, .int 0]) (fun j hj => by (have key : ∀ j, j < 22 → defaultValue (tyX6 j) = vp_V [.null, .null, .null, .null, .int 0, .null, .int 0, .int 0, .int 0, .int 0, .int 0, .int 0, .int 0, .null, .null, .null, .null, .int 0, .null, .null, .null, .int 0] j := by decide +kernel); exact key j hj) (by omega) (by omega) ?_
    refine JI_dup hKI eL_law_11 rfl ?_
    refine JI_callI hKI eL_law_12 kB_L_12 kI_X6_init rfl (j := 2) (by decide) (Nat.le_of_ble_eq_true rfl) (by omega) (by omega) (mX6_init (b := lay X h0) (fun k h1 h2 => rfl)) ?_
    refine JI_astore_n (j := 2) (lw := [(1, .ref (X.1 + 0)), (0, .ref b)]) hKI eL_law_15 rfl (by decide) rfl ?_
    obtain ⟨hf, hlaw⟩ := law_pure L xs hL
    intro H locs ls hH hS hl
    have hLc : Lc (p, l, e, room_1, s, m, #[Value.ref b], below, meth, c, 291, 3848) X b L xs := ⟨hX, hbl, hX1, rfl, Nat.le_of_ble_eq_true rfl, Nat.le_of_ble_eq_true rfl, rfl⟩
    have hOk : Ok (p, l, e, room_1, s, m, #[Value.ref b], below, meth, c, 291, 3848) X RL cL_law 4 (some .boolean) 150 := ⟨hx, hb, hml, hown, htg, hlocks, hr, hEnv, Nat.le_of_ble_eq_true rfl, Nat.le_of_ble_eq_true rfl, Nat.le_of_ble_eq_true rfl, Nat.le_of_ble_eq_true rfl⟩
    exact gL_law hLc hOk () hf hlaw H locs ls hH.2 hS hl
  have hl := lv_entry ([.ref b]) (n := 4) (Nat.le_of_ble_eq_true rfl)
  rw [lg_entry_eq]
  exact walk s.heap [] _ ⟨by omega, fun k q hk => by simp [pw] at hk⟩ va_S.rf hl
set_option maxHeartbeats 4000000 in
theorem lw_walk (l : Launch) (hflags : l.flags = flags0) (b : Addr) (xs : List Int32) : MetFree l x (headSpec (Jvm.Cond.code x code maxLocals ret :: tables_1) room_1) (lw_P b xs) (fun _ _ _ _ _ => True) lw_Q := by
  refine MetFree.of_bodyS (code := code) (maxLocals := maxLocals) (ret := ret) (by decide) ?_ ?_
  · intro args s m h hn
    obtain ⟨meth, c, h1, h2, h3, h4, h5, h6, -, -⟩ := Cond.code_spec hn (atoms_spec (ws := Jvm.Cond.code x code maxLocals ret :: tables_1) h _ List.mem_cons_self)
    exact ⟨meth, c, h1, h2, h3, h4, h5, h6⟩
  · intro p e s m args below meth c s₁ B hml0 hP _
    obtain ⟨rfl, hx, hbd, hgv⟩ := hP
    obtain ⟨scr, harrAt, hlist, hof, hsmall⟩ := hx
    obtain ⟨hcb, hkn, -, -⟩ := State.arrayAt?_spec harrAt
    have hown : s.vm.findClass R_law = some m.cls := findClass_of_methodNamed B.named
    have hts0 : ∀ c ∈ (Jvm.Cond.code x code maxLocals ret :: tables_1), c.before #[Value.ref b] s = true := atoms_spec (ws := Jvm.Cond.code x code maxLocals ret :: tables_1) B.pre
    have hts : ∀ w ∈ lw_tbl, w.before #[Value.ref b] s = true := k2_hts_sels lw_privs (fun w hw => hts0 w (List.mem_cons_of_mem _ hw)) lw_privs_ok
    have hml : c.maxLocals = 4 := B.maxLocals_eq (hts0 _ List.mem_cons_self)
    have X₀ : Stand p l e room_1 s m #[Value.ref b] below meth c s₁ [] 0 0 := Stand.of_body B
    have hh0 : s₁.heap = s.heap := by rw [B.state]; rfl
    have hsz : scr.slots.size = xs.length := by rw [← Array.length_toList, hlist, List.length_map]
    have hval : ∀ j : Nat, j < xs.length → scr.slots[j]? = some (.int (xs.getD j 0)) := fun j hj => by
      rw [← Array.getElem?_toList, hlist]
      simp [hj]
    have hbl : b < s.heap.size := (Array.getElem?_eq_some_iff.mp hcb).1
    have hX : va_X b xs.length (fun j => xs.getD j 0) s s.heap := ⟨scr, hcb, hof, hkn, hsz, hval⟩
    have K : W p l e room_1 s m #[Value.ref b] below meth c s₁.heap [] 0 0 (lw_Z below #[Value.ref b] s) (entryFrame m ([Value.ref b] : List Value).toArray 4) := by
      rw [hh0]
      exact whole_start l hflags hbd ⟨B.exec, B.bytes, B.returns, hml, hown, hts, hX, hbl, B.notSynchronized, hgv⟩
    obtain ⟨t, a1, o, b1, b2, b3⟩ := K s₁ rfl X₀
    exact ⟨t, o, a1, b1, b2, b3⟩
theorem lw_pre_spec {args : Array Value} {s : State} (h : (Jvm.Cond.and given_1 narrow_1).before args s = true) (hr : rest_1_c.before args s = true) : ∃ (b : Addr) (xs : List Int32), lw_P b xs args s := by
  have hs := flat_of_before _ h
  have hq := flat_of_before _ hr
  have hc : (Cond.count 1).before args s = true := hs _ (by decide +kernel)
  have harr : (Cond.arrayOf (.arg 0) .int).before args s = true := hs _ (by decide +kernel)
  have hle : (Cond.le (.length (.arg 0)) (.int 3072)).before args s = true := hs _ (by decide +kernel)
  have hlen : (Cond.isInt (.length (.arg 0))).before args s = true := hq _ (by decide +kernel)
  have hall : (Cond.all (.arg 0) (.isInt (.elem (.arg 0) (.index 0)))).before args s = true := hq _ (by decide +kernel)
  obtain ⟨b, xs, hb, hx⟩ := State.ints_of_pre rfl harr hlen hall
  have hsm : xs.length < 2 ^ 31 := hx.choose_spec.2.2.2
  have hev : (Term.length (.arg 0)).eval args s none [] s = some (.int xs.length.toInt32) := hx.length_eval hb
  have hv := Cond.le_ints hev (show (Term.int 3072).eval args s none [] s = some (.int 3072) from rfl)
  have hd : xs.length.toInt32 ≤ 3072 := by
    simpa [Cond.before, Cond.holds, hv] using hle
  have hN : xs.length ≤ 3072 := (Int32.ofNat_le_ofNat hsm (by decide)).mp (show Int32.ofNat xs.length ≤ Int32.ofNat 3072 from hd)
  exact ⟨b, xs, Cond.one_arg hc (show args[0]? = some (.ref b) from hb), hx, hN, h⟩
theorem lw_comes (l : Launch) (hflags : l.flags = flags0) : Comes l x (Jvm.Cond.code x code maxLocals ret :: tables_1) room_1 (fun tb e args s => Calls_1 tb e args s ∧ rest_1 tb e args s ∧ Pre_1 tb e args s)
    (fun _ _ args s o t => lw_Q args s o t) := by
  intro p e ha hc hk s m args below hf hfit hheap happ hpre
  obtain ⟨b, xs, hP⟩ := lw_pre_spec hpre.2.2 hpre.2.1
  obtain ⟨k, o, h1, h2, h3, hQ⟩ := lw_walk l hflags b xs p e ha hc hk s m args below hf ((Spec.applies_iff_loose hf).mp happ).1 hP trivial
  exact ⟨k, o, h1, h2, h3, hQ⟩
theorem lw_frame {s t : State} {o : Outcome} {args : Array Value} (h : Framed s o t [] 600000 7302250) :
    Framed s o t (fieldLocs frame_1_writes args s ++ arrayLocs frame_1_arrays args s ++ staticLocs frame_1_statics s) 600000 7302250 := h
theorem lw_limb (L : Cond) (hL : ∀ (args : Array Value) (s t : State), L.after args s (.returned (some (.int 1))) t = true) :
    ArmFor flags0 classFile x code maxLocals ret World_1 tables_1 room_1 Calls_1 rest_1 Pre_1
      (fun tb e a s o t => postC L tb e a s o t ∧ Framed s o t (fieldLocs frame_1_writes a s ++ arrayLocs frame_1_arrays a s ++ staticLocs frame_1_statics s) 600000 7302250) := by
  intro l hflags _ _ p e ha hc hk s m args below hf hfit hheap happ hpre
  obtain ⟨k, o, h1, h2, h3, rfl, hF⟩ := lw_comes l hflags p e ha hc hk s m args below hf hfit hheap happ hpre
  exact ⟨k, _, h1, h2, h3, hL args s _, lw_frame hF⟩
theorem i_vc : Claimed_1_1 ∧ Claimed_1_2 := ⟨lw_limb limb_1_1 (fun args s t => by simp [limb_1_1, Cond.after, Cond.holds, Cond.value]), lw_limb limb_1_2 (fun args s t => Cond.after_iff.mpr (by
  first | (rw [show limb_1_2 = Cond.eq .result (.int 1) from rfl, Cond.eq_ints (x := 1) (y := 1) rfl rfl]; simp; done) | (simp [limb_1_2, Cond.value, Term.eval]; done)))⟩

