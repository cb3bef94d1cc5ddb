-- X6_begins
theorem dX6_begins_0 : DD cX6_begins 0 (.aload_n 0) 1 1 := by decide +kernel
theorem dX6_begins_1 : DD cX6_begins 1 (.getfield 220) 3 4 := by decide +kernel
theorem dX6_begins_4 : DD cX6_begins 4 (.bipush 16) 2 6 := by decide +kernel
theorem dX6_begins_6 : DD cX6_begins 6 (.if_icmp .ge 23) 3 9 := by decide +kernel
theorem dX6_begins_9 : DD cX6_begins 9 (.aload_n 0) 1 10 := by decide +kernel
theorem dX6_begins_10 : DD cX6_begins 10 (.getfield 44) 3 13 := by decide +kernel
theorem dX6_begins_13 : DD cX6_begins 13 (.aload_n 0) 1 14 := by decide +kernel
theorem dX6_begins_14 : DD cX6_begins 14 (.getfield 220) 3 17 := by decide +kernel
theorem dX6_begins_17 : DD cX6_begins 17 (.iload_n 1) 1 18 := by decide +kernel
theorem dX6_begins_18 : DD cX6_begins 18 (.iastore) 1 19 := by decide +kernel
theorem dX6_begins_19 : DD cX6_begins 19 (.aload_n 0) 1 20 := by decide +kernel
theorem dX6_begins_20 : DD cX6_begins 20 (.dup) 1 21 := by decide +kernel
theorem dX6_begins_21 : DD cX6_begins 21 (.getfield 220) 3 24 := by decide +kernel
theorem dX6_begins_24 : DD cX6_begins 24 (.iconst 1) 1 25 := by decide +kernel
theorem dX6_begins_25 : DD cX6_begins 25 (.iadd) 1 26 := by decide +kernel
theorem dX6_begins_26 : DD cX6_begins 26 (.putfield 220) 3 29 := by decide +kernel
theorem dX6_begins_29 : DD cX6_begins 29 (.return_) 1 30 := by decide +kernel
def fX6_begins (a1 : Int32) (h : AH) : Option (Unit × AH) := (if (h 278 21) < (16 : Int32) then (chk (inb (h 278 21) (ln 290)) (sto (hs h 290 (Int32.toNatClampNeg (h 278 21)) a1) fun h1 => (sto (hs h1 278 21 ((h1 278 21) + (1 : Int32))) fun h2 => (some ((), h2))))) else (some ((), h)))
set_option maxHeartbeats 4000000 in
set_option maxRecDepth 4000 in
theorem uX6_begins {l : Launch} {X : WX} {a1 : Int32} {h h' : AH} {v : Unit} (hf : fX6_begins a1 h = some (v, h')) : Does l X 1 yX6_begins cX6_begins 2 none [.ref (X.1 + 278), .int a1] h (eV v) h' := by
  refine Does.of (enc := eV) (o := fX6_begins a1 h) (lv := [(0, .ref (X.1 + 278)), (1, .int a1)]) (by decide) (Nat.le_of_ble_eq_true rfl) rfl hf (fun K hl hK => ?_)
  subst hl
  unfold fX6_begins
  refine J_aload_n hK dX6_begins_0 0 rfl ?_
  refine gF_X6_220 hK dX6_begins_1 kd_278 ?_
  refine J_bipush hK dX6_begins_4 cb_16 ?_
  refine J_icmp_ge (tgt := 29) hK dX6_begins_6 (by decide) ?_ ?_
  · refine J_aload_n hK dX6_begins_9 0 rfl ?_
    refine rF_X6_44 (q2 := 290) hK dX6_begins_10 kd_278 rfl ?_
    refine J_aload_n hK dX6_begins_13 0 rfl ?_
    refine gF_X6_220 hK dX6_begins_14 kd_278 ?_
    refine J_iload_n hK dX6_begins_17 1 rfl ?_
    refine J_iast hK dX6_begins_18 kd_290 (fun h1 => ?_)
    refine J_aload_n hK dX6_begins_19 0 rfl ?_
    refine J_dup hK dX6_begins_20 rfl ?_
    refine gF_X6_220 hK dX6_begins_21 kd_278 ?_
    refine J_iconst hK dX6_begins_24 ci_1 ?_
    refine J_iadd hK dX6_begins_25 ?_
    refine pF_X6_220 hK dX6_begins_26 kd_278 (fun h2 => ?_)
    exact J_vret hK dX6_begins_29
  · exact J_vret hK dX6_begins_29
-- X6_byteAt
theorem dX6_byteAt_0 : DD cX6_byteAt 0 (.iload_n 1) 1 1 := by decide +kernel
theorem dX6_byteAt_1 : DD cX6_byteAt 1 (.aload_n 0) 1 2 := by decide +kernel
theorem dX6_byteAt_2 : DD cX6_byteAt 2 (.getfield 79) 3 5 := by decide +kernel
theorem dX6_byteAt_5 : DD cX6_byteAt 5 (.if_icmp .ge 12) 3 8 := by decide +kernel
theorem dX6_byteAt_8 : DD cX6_byteAt 8 (.aload_n 0) 1 9 := by decide +kernel
theorem dX6_byteAt_9 : DD cX6_byteAt 9 (.getfield 22) 3 12 := by decide +kernel
theorem dX6_byteAt_12 : DD cX6_byteAt 12 (.iload_n 1) 1 13 := by decide +kernel
theorem dX6_byteAt_13 : DD cX6_byteAt 13 (.iaload) 1 14 := by decide +kernel
theorem dX6_byteAt_14 : DD cX6_byteAt 14 (.goto 4) 3 17 := by decide +kernel
theorem dX6_byteAt_17 : DD cX6_byteAt 17 (.iconst (-1)) 1 18 := by decide +kernel
theorem dX6_byteAt_18 : DD cX6_byteAt 18 (.ireturn) 1 19 := by decide +kernel
def fX6_byteAt (a1 : Int32) (h : AH) : Option (Int32 × AH) := (if a1 < (h 278 6) then (chk (inb a1 (ln 283)) (some ((h 283 (Int32.toNatClampNeg a1)), h))) else (some ((-1 : Int32), h)))
set_option maxHeartbeats 4000000 in
set_option maxRecDepth 4000 in
theorem uX6_byteAt {l : Launch} {X : WX} {a1 : Int32} {h h' : AH} {v : Int32} (hf : fX6_byteAt a1 h = some (v, h')) : Does l X 1 yX6_byteAt cX6_byteAt 2 (some .int) [.ref (X.1 + 278), .int a1] h (eI v) h' := by
  refine Does.of (enc := eI) (o := fX6_byteAt a1 h) (lv := [(0, .ref (X.1 + 278)), (1, .int a1)]) (by decide) (Nat.le_of_ble_eq_true rfl) rfl hf (fun K hl hK => ?_)
  subst hl
  unfold fX6_byteAt
  refine J_iload_n hK dX6_byteAt_0 1 rfl ?_
  refine J_aload_n hK dX6_byteAt_1 0 rfl ?_
  refine gF_X6_79 hK dX6_byteAt_2 kd_278 ?_
  refine J_icmp_ge (tgt := 17) hK dX6_byteAt_5 (by decide) ?_ ?_
  · refine J_aload_n hK dX6_byteAt_8 0 rfl ?_
    refine rF_X6_22 (q2 := 283) hK dX6_byteAt_9 kd_278 rfl ?_
    refine J_iload_n hK dX6_byteAt_12 1 rfl ?_
    refine J_iald hK dX6_byteAt_13 kd_283 (fun _ => ?_)
    refine J_goto (len := 0) (tgt := 18) hK dX6_byteAt_14 (by decide) ?_
    exact J_iret hK dX6_byteAt_18
  · refine J_iconst hK dX6_byteAt_17 ci_m1 ?_
    exact J_iret hK dX6_byteAt_18
-- X6_copies
theorem dX6_copies_0 : DD cX6_copies 0 (.iconst 0) 1 1 := by decide +kernel
theorem dX6_copies_1 : DD cX6_copies 1 (.istore 4) 2 3 := by decide +kernel
theorem dX6_copies_3 : DD cX6_copies 3 (.iload 4) 2 5 := by decide +kernel
theorem dX6_copies_5 : DD cX6_copies 5 (.bipush 43) 2 7 := by decide +kernel
theorem dX6_copies_7 : DD cX6_copies 7 (.if_icmp .ge 21) 3 10 := by decide +kernel
theorem dX6_copies_10 : DD cX6_copies 10 (.aload_n 2) 1 11 := by decide +kernel
theorem dX6_copies_11 : DD cX6_copies 11 (.iload_n 3) 1 12 := by decide +kernel
theorem dX6_copies_12 : DD cX6_copies 12 (.iload 4) 2 14 := by decide +kernel
theorem dX6_copies_14 : DD cX6_copies 14 (.iadd) 1 15 := by decide +kernel
theorem dX6_copies_15 : DD cX6_copies 15 (.aload_n 0) 1 16 := by decide +kernel
theorem dX6_copies_16 : DD cX6_copies 16 (.iload_n 1) 1 17 := by decide +kernel
theorem dX6_copies_17 : DD cX6_copies 17 (.iload 4) 2 19 := by decide +kernel
theorem dX6_copies_19 : DD cX6_copies 19 (.iadd) 1 20 := by decide +kernel
theorem dX6_copies_20 : DD cX6_copies 20 (.iaload) 1 21 := by decide +kernel
theorem dX6_copies_21 : DD cX6_copies 21 (.iastore) 1 22 := by decide +kernel
theorem dX6_copies_22 : DD cX6_copies 22 (.iinc 4 1) 3 25 := by decide +kernel
theorem dX6_copies_25 : DD cX6_copies 25 (.goto (-22)) 3 28 := by decide +kernel
theorem dX6_copies_28 : DD cX6_copies 28 (.return_) 1 29 := by decide +kernel
def fX6_copies_L3 (p0 : Nat) (p1 : Int32) (p2 : Nat) (p3 : Int32) : Nat → Int32 → AH → (Int32 → AH → Option (Unit × AH)) → Option (Unit × AH)
  | 0, _, _, _ => none
  | n + 1, x4, h, k => (if x4 < (43 : Int32) then (chk (inb (p1 + x4) (ln p0)) (chk (inb (p3 + x4) (ln p2)) (sto (hs h p2 (Int32.toNatClampNeg (p3 + x4)) (h p0 (Int32.toNatClampNeg (p1 + x4)))) fun h201 => (vl (x4 + (1 : Int32)) fun z202 => fX6_copies_L3 p0 p1 p2 p3 n z202 h201 k)))) else k x4 h)
def fX6_copies (a0 : Nat) (a1 : Int32) (a2 : Nat) (a3 : Int32) (h : AH) : Option (Unit × AH) := (fX6_copies_L3 a0 a1 a2 a3 FU (0 : Int32) h fun z1 h2 => (some ((), h2)))
set_option maxHeartbeats 4000000 in
theorem gX6_copies_L3 {K : MC} {X : WX} {p0 : Nat} {p1 : Int32} {p2 : Nat} {p3 : Int32} (hK : Ok K X RX6 cX6_copies 5 none 1) (hp0 : kd p0 = 7) (hp2 : kd p2 = 7) {k : Int32 → AH → Option (Unit × AH)} (hk : ∀ (x4 : Int32) (h : AH), J K X 5 (Zm K X) eV 28 [(4, .int x4), (0, .ref (X.1 + p0)), (1, .int p1), (2, .ref (X.1 + p2)), (3, .int p3)] [] h (k x4 h)) : ∀ (n : Nat) (x4 : Int32) (h : AH), J K X 5 (Zm K X) eV 3 [(4, .int x4), (0, .ref (X.1 + p0)), (1, .int p1), (2, .ref (X.1 + p2)), (3, .int p3)] [] h (fX6_copies_L3 p0 p1 p2 p3 n x4 h k) := by
  intro n
  induction n with
  | zero => exact fun _ _ => J_none
  | succ n ih =>
    intro x4 h
    rw [fX6_copies_L3]
    refine J_iload hK dX6_copies_3 0 rfl ?_
    refine J_bipush hK dX6_copies_5 cb_43 ?_
    refine J_icmp_ge (tgt := 28) hK dX6_copies_7 (by decide) ?_ ?_
    · refine J_aload_n hK dX6_copies_10 3 rfl ?_
      refine J_iload_n hK dX6_copies_11 4 rfl ?_
      refine J_iload hK dX6_copies_12 0 rfl ?_
      refine J_iadd hK dX6_copies_14 ?_
      refine J_aload_n hK dX6_copies_15 1 rfl ?_
      refine J_iload_n hK dX6_copies_16 2 rfl ?_
      refine J_iload hK dX6_copies_17 0 rfl ?_
      refine J_iadd hK dX6_copies_19 ?_
      refine J_iald hK dX6_copies_20 hp0 (fun _ => ?_)
      refine J_iast hK dX6_copies_21 hp2 (fun h201 => ?_)
      refine J_iinc (lw := [(0, .ref (X.1 + p0)), (1, .int p1), (2, .ref (X.1 + p2)), (3, .int p3)]) hK dX6_copies_22 0 rfl (by decide) ci_1 rfl (fun z202 => ?_)
      refine J_goto (len := 0) (tgt := 3) hK dX6_copies_25 (by decide) ?_
      exact J_sub [0, 1, 2, 3, 4] rfl (ih _ _)
    · exact J_sub [0, 1, 2, 3, 4] rfl (hk _ _)
set_option maxHeartbeats 4000000 in
set_option maxRecDepth 4000 in
theorem uX6_copies {l : Launch} {X : WX} {a0 : Nat} {a1 : Int32} {a2 : Nat} {a3 : Int32} {h h' : AH} {v : Unit} (ka0 : kd a0 = 7) (ka2 : kd a2 = 7) (hf : fX6_copies a0 a1 a2 a3 h = some (v, h')) : Does l X 1 yX6_copies cX6_copies 5 none [.ref (X.1 + a0), .int a1, .ref (X.1 + a2), .int a3] h (eV v) h' := by
  refine Does.of (enc := eV) (o := fX6_copies a0 a1 a2 a3 h) (lv := [(0, .ref (X.1 + a0)), (1, .int a1), (2, .ref (X.1 + a2)), (3, .int a3)]) (by decide) (Nat.le_of_ble_eq_true rfl) rfl hf (fun K hl hK => ?_)
  subst hl
  unfold fX6_copies
  refine J_iconst hK dX6_copies_0 ci_0 ?_
  refine J_istore (lw := [(0, .ref (X.1 + a0)), (1, .int a1), (2, .ref (X.1 + a2)), (3, .int a3)]) hK dX6_copies_1 (by decide) rfl ?_
  refine J_sub [0, 1, 2, 3, 4] rfl (gX6_copies_L3 hK ka0 ka2 (fun z1 h2 => ?_) FU _ _)
  exact J_vret hK dX6_copies_28
-- X6_cut
theorem dX6_cut_0 : DD cX6_cut 0 (.iload_n 0) 1 1 := by decide +kernel
theorem dX6_cut_1 : DD cX6_cut 1 (.ifCond .ne 13) 3 4 := by decide +kernel
theorem dX6_cut_4 : DD cX6_cut 4 (.iload_n 1) 1 5 := by decide +kernel
theorem dX6_cut_5 : DD cX6_cut 5 (.bipush 24) 2 7 := by decide +kernel
theorem dX6_cut_7 : DD cX6_cut 7 (.ishl) 1 8 := by decide +kernel
theorem dX6_cut_8 : DD cX6_cut 8 (.bipush 24) 2 10 := by decide +kernel
theorem dX6_cut_10 : DD cX6_cut 10 (.ishr) 1 11 := by decide +kernel
theorem dX6_cut_11 : DD cX6_cut 11 (.goto 19) 3 14 := by decide +kernel
theorem dX6_cut_14 : DD cX6_cut 14 (.iload_n 0) 1 15 := by decide +kernel
theorem dX6_cut_15 : DD cX6_cut 15 (.iconst 1) 1 16 := by decide +kernel
theorem dX6_cut_16 : DD cX6_cut 16 (.if_icmp .ne 13) 3 19 := by decide +kernel
theorem dX6_cut_19 : DD cX6_cut 19 (.iload_n 1) 1 20 := by decide +kernel
theorem dX6_cut_20 : DD cX6_cut 20 (.bipush 16) 2 22 := by decide +kernel
theorem dX6_cut_22 : DD cX6_cut 22 (.ishl) 1 23 := by decide +kernel
theorem dX6_cut_23 : DD cX6_cut 23 (.bipush 16) 2 25 := by decide +kernel
theorem dX6_cut_25 : DD cX6_cut 25 (.ishr) 1 26 := by decide +kernel
theorem dX6_cut_26 : DD cX6_cut 26 (.goto 4) 3 29 := by decide +kernel
theorem dX6_cut_29 : DD cX6_cut 29 (.iload_n 1) 1 30 := by decide +kernel
theorem dX6_cut_30 : DD cX6_cut 30 (.ireturn) 1 31 := by decide +kernel
def fX6_cut (a0 : Int32) (a1 : Int32) (h : AH) : Option (Int32 × AH) := (if a0 = 0 then (some (((a1 <<< ((24 : Int32) &&& 31)) >>> ((24 : Int32) &&& 31)), h)) else (if a0 = (1 : Int32) then (some (((a1 <<< ((16 : Int32) &&& 31)) >>> ((16 : Int32) &&& 31)), h)) else (some (a1, h))))
set_option maxHeartbeats 4000000 in
set_option maxRecDepth 4000 in
theorem uX6_cut {l : Launch} {X : WX} {a0 : Int32} {a1 : Int32} {h h' : AH} {v : Int32} (hf : fX6_cut a0 a1 h = some (v, h')) : Does l X 1 yX6_cut cX6_cut 2 (some .int) [.int a0, .int a1] h (eI v) h' := by
  refine Does.of (enc := eI) (o := fX6_cut a0 a1 h) (lv := [(0, .int a0), (1, .int a1)]) (by decide) (Nat.le_of_ble_eq_true rfl) rfl hf (fun K hl hK => ?_)
  subst hl
  unfold fX6_cut
  refine J_iload_n hK dX6_cut_0 0 rfl ?_
  refine J_if_ne (tgt := 14) hK dX6_cut_1 (by decide) ?_ ?_
  · refine J_iload_n hK dX6_cut_4 1 rfl ?_
    refine J_bipush hK dX6_cut_5 cb_24 ?_
    refine J_ishl hK dX6_cut_7 ?_
    refine J_bipush hK dX6_cut_8 cb_24 ?_
    refine J_ishr hK dX6_cut_10 ?_
    refine J_goto (len := 0) (tgt := 30) hK dX6_cut_11 (by decide) ?_
    exact J_iret hK dX6_cut_30
  · refine J_iload_n hK dX6_cut_14 0 rfl ?_
    refine J_iconst hK dX6_cut_15 ci_1 ?_
    refine J_icmp_ne (tgt := 29) hK dX6_cut_16 (by decide) ?_ ?_
    · refine J_iload_n hK dX6_cut_19 1 rfl ?_
      refine J_bipush hK dX6_cut_20 cb_16 ?_
      refine J_ishl hK dX6_cut_22 ?_
      refine J_bipush hK dX6_cut_23 cb_16 ?_
      refine J_ishr hK dX6_cut_25 ?_
      refine J_goto (len := 0) (tgt := 30) hK dX6_cut_26 (by decide) ?_
      exact J_iret hK dX6_cut_30
    · refine J_iload_n hK dX6_cut_29 1 rfl ?_
      exact J_iret hK dX6_cut_30
-- X6_draws
theorem dX6_draws_0 : DD cX6_draws 0 (.iconst 5) 1 1 := by decide +kernel
theorem dX6_draws_1 : DD cX6_draws 1 (.iconst 5) 1 2 := by decide +kernel
theorem dX6_draws_2 : DD cX6_draws 2 (.iload_n 1) 1 3 := by decide +kernel
theorem dX6_draws_3 : DD cX6_draws 3 (.imul) 1 4 := by decide +kernel
theorem dX6_draws_4 : DD cX6_draws 4 (.iadd) 1 5 := by decide +kernel
theorem dX6_draws_5 : DD cX6_draws 5 (.istore_n 2) 1 6 := by decide +kernel
theorem dX6_draws_6 : DD cX6_draws 6 (.aload_n 0) 1 7 := by decide +kernel
theorem dX6_draws_7 : DD cX6_draws 7 (.iload_n 2) 1 8 := by decide +kernel
theorem dX6_draws_8 : DD cX6_draws 8 (.iconst 1) 1 9 := by decide +kernel
theorem dX6_draws_9 : DD cX6_draws 9 (.iadd) 1 10 := by decide +kernel
theorem dX6_draws_10 : DD cX6_draws 10 (.iaload) 1 11 := by decide +kernel
theorem dX6_draws_11 : DD cX6_draws 11 (.istore_n 3) 1 12 := by decide +kernel
theorem dX6_draws_12 : DD cX6_draws 12 (.aload_n 0) 1 13 := by decide +kernel
theorem dX6_draws_13 : DD cX6_draws 13 (.iload_n 2) 1 14 := by decide +kernel
theorem dX6_draws_14 : DD cX6_draws 14 (.iconst 4) 1 15 := by decide +kernel
theorem dX6_draws_15 : DD cX6_draws 15 (.iadd) 1 16 := by decide +kernel
theorem dX6_draws_16 : DD cX6_draws 16 (.iaload) 1 17 := by decide +kernel
theorem dX6_draws_17 : DD cX6_draws 17 (.ifCond .ne 5) 3 20 := by decide +kernel
theorem dX6_draws_20 : DD cX6_draws 20 (.iconst 0) 1 21 := by decide +kernel
theorem dX6_draws_21 : DD cX6_draws 21 (.ireturn) 1 22 := by decide +kernel
theorem dX6_draws_22 : DD cX6_draws 22 (.aload_n 0) 1 23 := by decide +kernel
theorem dX6_draws_23 : DD cX6_draws 23 (.iload_n 2) 1 24 := by decide +kernel
theorem dX6_draws_24 : DD cX6_draws 24 (.iaload) 1 25 := by decide +kernel
theorem dX6_draws_25 : DD cX6_draws 25 (.tableswitch 66 1 3 #[27, 29, 46]) 27 52 := by decide +kernel
theorem dX6_draws_52 : DD cX6_draws 52 (.iload_n 3) 1 53 := by decide +kernel
theorem dX6_draws_53 : DD cX6_draws 53 (.ireturn) 1 54 := by decide +kernel
theorem dX6_draws_54 : DD cX6_draws 54 (.aload_n 0) 1 55 := by decide +kernel
theorem dX6_draws_55 : DD cX6_draws 55 (.iconst 4) 1 56 := by decide +kernel
theorem dX6_draws_56 : DD cX6_draws 56 (.iaload) 1 57 := by decide +kernel
theorem dX6_draws_57 : DD cX6_draws 57 (.iconst 2) 1 58 := by decide +kernel
theorem dX6_draws_58 : DD cX6_draws 58 (.irem) 1 59 := by decide +kernel
theorem dX6_draws_59 : DD cX6_draws 59 (.iconst 1) 1 60 := by decide +kernel
theorem dX6_draws_60 : DD cX6_draws 60 (.if_icmp .ne 9) 3 63 := by decide +kernel
theorem dX6_draws_63 : DD cX6_draws 63 (.iload_n 3) 1 64 := by decide +kernel
theorem dX6_draws_64 : DD cX6_draws 64 (.iconst 2) 1 65 := by decide +kernel
theorem dX6_draws_65 : DD cX6_draws 65 (.idiv) 1 66 := by decide +kernel
theorem dX6_draws_66 : DD cX6_draws 66 (.goto 4) 3 69 := by decide +kernel
theorem dX6_draws_69 : DD cX6_draws 69 (.iload_n 3) 1 70 := by decide +kernel
theorem dX6_draws_70 : DD cX6_draws 70 (.ireturn) 1 71 := by decide +kernel
theorem dX6_draws_71 : DD cX6_draws 71 (.iload_n 3) 1 72 := by decide +kernel
theorem dX6_draws_72 : DD cX6_draws 72 (.aload_n 0) 1 73 := by decide +kernel
theorem dX6_draws_73 : DD cX6_draws 73 (.iconst 4) 1 74 := by decide +kernel
theorem dX6_draws_74 : DD cX6_draws 74 (.iaload) 1 75 := by decide +kernel
theorem dX6_draws_75 : DD cX6_draws 75 (.bipush 20) 2 77 := by decide +kernel
theorem dX6_draws_77 : DD cX6_draws 77 (.if_icmp .le 7) 3 80 := by decide +kernel
theorem dX6_draws_80 : DD cX6_draws 80 (.iconst 5) 1 81 := by decide +kernel
theorem dX6_draws_81 : DD cX6_draws 81 (.goto 8) 3 84 := by decide +kernel
theorem dX6_draws_84 : DD cX6_draws 84 (.aload_n 0) 1 85 := by decide +kernel
theorem dX6_draws_85 : DD cX6_draws 85 (.iconst 4) 1 86 := by decide +kernel
theorem dX6_draws_86 : DD cX6_draws 86 (.iaload) 1 87 := by decide +kernel
theorem dX6_draws_87 : DD cX6_draws 87 (.iconst 4) 1 88 := by decide +kernel
theorem dX6_draws_88 : DD cX6_draws 88 (.idiv) 1 89 := by decide +kernel
theorem dX6_draws_89 : DD cX6_draws 89 (.iadd) 1 90 := by decide +kernel
theorem dX6_draws_90 : DD cX6_draws 90 (.ireturn) 1 91 := by decide +kernel
theorem dX6_draws_91 : DD cX6_draws 91 (.aload_n 0) 1 92 := by decide +kernel
theorem dX6_draws_92 : DD cX6_draws 92 (.iconst 4) 1 93 := by decide +kernel
theorem dX6_draws_93 : DD cX6_draws 93 (.iaload) 1 94 := by decide +kernel
theorem dX6_draws_94 : DD cX6_draws 94 (.iconst 3) 1 95 := by decide +kernel
theorem dX6_draws_95 : DD cX6_draws 95 (.irem) 1 96 := by decide +kernel
theorem dX6_draws_96 : DD cX6_draws 96 (.ifCond .ne 7) 3 99 := by decide +kernel
theorem dX6_draws_99 : DD cX6_draws 99 (.iconst 0) 1 100 := by decide +kernel
theorem dX6_draws_100 : DD cX6_draws 100 (.goto 4) 3 103 := by decide +kernel
theorem dX6_draws_103 : DD cX6_draws 103 (.iload_n 3) 1 104 := by decide +kernel
theorem dX6_draws_104 : DD cX6_draws 104 (.ireturn) 1 105 := by decide +kernel
def fX6_draws (a0 : Nat) (a1 : Int32) (h : AH) : Option (Int32 × AH) := (vl ((5 : Int32) + ((5 : Int32) * a1)) fun z1 => (chk (inb (z1 + (1 : Int32)) (ln a0)) (vl (h a0 (Int32.toNatClampNeg (z1 + (1 : Int32)))) fun z2 => (chk (inb (z1 + (4 : Int32)) (ln a0)) (if (h a0 (Int32.toNatClampNeg (z1 + (4 : Int32)))) = 0 then (some ((0 : Int32), h)) else (chk (inb z1 (ln a0)) (if (h a0 (Int32.toNatClampNeg z1)) = (1 : Int32) then (some (z2, h)) else (if (h a0 (Int32.toNatClampNeg z1)) = (2 : Int32) then (chk (inb (4 : Int32) (ln a0)) (chk (¬ (2 : Int32) = 0) (if ((h a0 (Int32.toNatClampNeg (4 : Int32))) - (h a0 (Int32.toNatClampNeg (4 : Int32))) / (2 : Int32) * (2 : Int32)) = (1 : Int32) then (chk (¬ (2 : Int32) = 0) (some ((z2 / (2 : Int32)), h))) else (some (z2, h))))) else (if (h a0 (Int32.toNatClampNeg z1)) = (3 : Int32) then (chk (inb (4 : Int32) (ln a0)) (if (20 : Int32) < (h a0 (Int32.toNatClampNeg (4 : Int32))) then (some ((z2 + (5 : Int32)), h)) else (chk (inb (4 : Int32) (ln a0)) (chk (¬ (4 : Int32) = 0) (some ((z2 + ((h a0 (Int32.toNatClampNeg (4 : Int32))) / (4 : Int32))), h)))))) else (chk (inb (4 : Int32) (ln a0)) (chk (¬ (3 : Int32) = 0) (if ((h a0 (Int32.toNatClampNeg (4 : Int32))) - (h a0 (Int32.toNatClampNeg (4 : Int32))) / (3 : Int32) * (3 : Int32)) = 0 then (some ((0 : Int32), h)) else (some (z2, h))))))))))))))
set_option maxHeartbeats 4000000 in
set_option maxRecDepth 4000 in
theorem uX6_draws {l : Launch} {X : WX} {a0 : Nat} {a1 : Int32} {h h' : AH} {v : Int32} (ka0 : kd a0 = 7) (hf : fX6_draws a0 a1 h = some (v, h')) : Does l X 1 yX6_draws cX6_draws 4 (some .int) [.ref (X.1 + a0), .int a1] h (eI v) h' := by
  refine Does.of (enc := eI) (o := fX6_draws a0 a1 h) (lv := [(0, .ref (X.1 + a0)), (1, .int a1)]) (by decide) (Nat.le_of_ble_eq_true rfl) rfl hf (fun K hl hK => ?_)
  subst hl
  unfold fX6_draws
  refine J_iconst hK dX6_draws_0 ci_5 ?_
  refine J_iconst hK dX6_draws_1 ci_5 ?_
  refine J_iload_n hK dX6_draws_2 1 rfl ?_
  refine J_imul hK dX6_draws_3 ?_
  refine J_iadd hK dX6_draws_4 ?_
  refine J_istoreV_n (n := 2) (lw := [(0, .ref (X.1 + a0)), (1, .int a1)]) hK dX6_draws_5 rfl (by decide) rfl (fun z1 => ?_)
  refine J_aload_n hK dX6_draws_6 1 rfl ?_
  refine J_iload_n hK dX6_draws_7 0 rfl ?_
  refine J_iconst hK dX6_draws_8 ci_1 ?_
  refine J_iadd hK dX6_draws_9 ?_
  refine J_iald hK dX6_draws_10 ka0 (fun _ => ?_)
  refine J_istoreV_n (n := 3) (lw := [(2, .int z1), (0, .ref (X.1 + a0)), (1, .int a1)]) hK dX6_draws_11 rfl (by decide) rfl (fun z2 => ?_)
  refine J_aload_n hK dX6_draws_12 2 rfl ?_
  refine J_iload_n hK dX6_draws_13 1 rfl ?_
  refine J_iconst hK dX6_draws_14 ci_4 ?_
  refine J_iadd hK dX6_draws_15 ?_
  refine J_iald hK dX6_draws_16 ka0 (fun _ => ?_)
  refine J_if_ne (tgt := 22) hK dX6_draws_17 (by decide) ?_ ?_
  · refine J_iconst hK dX6_draws_20 ci_0 ?_
    exact J_iret hK dX6_draws_21
  · refine J_aload_n hK dX6_draws_22 2 rfl ?_
    refine J_iload_n hK dX6_draws_23 1 rfl ?_
    refine J_iald hK dX6_draws_24 ka0 (fun _ => ?_)
    refine J_split (c := (h a0 (Int32.toNatClampNeg z1)) = (1 : Int32)) (fun e3 => ?_) (fun e3 => ?_)
    · refine J_tableIn (v := 1) (off := 27) (tgt := 52) hK dX6_draws_25 e3 (by decide) ?_
      refine J_iload_n hK dX6_draws_52 0 rfl ?_
      exact J_iret hK dX6_draws_53
    refine J_split (c := (h a0 (Int32.toNatClampNeg z1)) = (2 : Int32)) (fun e4 => ?_) (fun e4 => ?_)
    · refine J_tableIn (v := 2) (off := 29) (tgt := 54) hK dX6_draws_25 e4 (by decide) ?_
      refine J_aload_n hK dX6_draws_54 2 rfl ?_
      refine J_iconst hK dX6_draws_55 ci_4 ?_
      refine J_iald hK dX6_draws_56 ka0 (fun _ => ?_)
      refine J_iconst hK dX6_draws_57 ci_2 ?_
      refine J_irem hK dX6_draws_58 ?_
      refine J_iconst hK dX6_draws_59 ci_1 ?_
      refine J_icmp_ne (tgt := 69) hK dX6_draws_60 (by decide) ?_ ?_
      · refine J_iload_n hK dX6_draws_63 0 rfl ?_
        refine J_iconst hK dX6_draws_64 ci_2 ?_
        refine J_idiv hK dX6_draws_65 ?_
        refine J_goto (len := 0) (tgt := 70) hK dX6_draws_66 (by decide) ?_
        exact J_iret hK dX6_draws_70
      · refine J_iload_n hK dX6_draws_69 0 rfl ?_
        exact J_iret hK dX6_draws_70
    refine J_split (c := (h a0 (Int32.toNatClampNeg z1)) = (3 : Int32)) (fun e5 => ?_) (fun e5 => ?_)
    · refine J_tableIn (v := 3) (off := 46) (tgt := 71) hK dX6_draws_25 e5 (by decide) ?_
      refine J_iload_n hK dX6_draws_71 0 rfl ?_
      refine J_aload_n hK dX6_draws_72 2 rfl ?_
      refine J_iconst hK dX6_draws_73 ci_4 ?_
      refine J_iald hK dX6_draws_74 ka0 (fun _ => ?_)
      refine J_bipush hK dX6_draws_75 cb_20 ?_
      refine J_icmp_le (tgt := 84) hK dX6_draws_77 (by decide) ?_ ?_
      · refine J_iconst hK dX6_draws_80 ci_5 ?_
        refine J_goto (len := 0) (tgt := 89) hK dX6_draws_81 (by decide) ?_
        refine J_iadd hK dX6_draws_89 ?_
        exact J_iret hK dX6_draws_90
      · refine J_aload_n hK dX6_draws_84 2 rfl ?_
        refine J_iconst hK dX6_draws_85 ci_4 ?_
        refine J_iald hK dX6_draws_86 ka0 (fun _ => ?_)
        refine J_iconst hK dX6_draws_87 ci_4 ?_
        refine J_idiv hK dX6_draws_88 ?_
        refine J_iadd hK dX6_draws_89 ?_
        exact J_iret hK dX6_draws_90
    refine J_tableOut (tgt := 91) hK dX6_draws_25 (tbl_out [1, 2, 3] (by decide) (nl1 e3 (nl1 e4 (nl1 e5 nl0)))) (by decide) ?_
    refine J_aload_n hK dX6_draws_91 2 rfl ?_
    refine J_iconst hK dX6_draws_92 ci_4 ?_
    refine J_iald hK dX6_draws_93 ka0 (fun _ => ?_)
    refine J_iconst hK dX6_draws_94 ci_3 ?_
    refine J_irem hK dX6_draws_95 ?_
    refine J_if_ne (tgt := 103) hK dX6_draws_96 (by decide) ?_ ?_
    · refine J_iconst hK dX6_draws_99 ci_0 ?_
      refine J_goto (len := 0) (tgt := 104) hK dX6_draws_100 (by decide) ?_
      exact J_iret hK dX6_draws_104
    · refine J_iload_n hK dX6_draws_103 0 rfl ?_
      exact J_iret hK dX6_draws_104
-- X6_drops
theorem dX6_drops_0 : DD cX6_drops 0 (.aload_n 0) 1 1 := by decide +kernel
theorem dX6_drops_1 : DD cX6_drops 1 (.iconst 5) 1 2 := by decide +kernel
theorem dX6_drops_2 : DD cX6_drops 2 (.iconst 5) 1 3 := by decide +kernel
theorem dX6_drops_3 : DD cX6_drops 3 (.iload_n 1) 1 4 := by decide +kernel
theorem dX6_drops_4 : DD cX6_drops 4 (.imul) 1 5 := by decide +kernel
theorem dX6_drops_5 : DD cX6_drops 5 (.iadd) 1 6 := by decide +kernel
theorem dX6_drops_6 : DD cX6_drops 6 (.iconst 4) 1 7 := by decide +kernel
theorem dX6_drops_7 : DD cX6_drops 7 (.iadd) 1 8 := by decide +kernel
theorem dX6_drops_8 : DD cX6_drops 8 (.iconst 0) 1 9 := by decide +kernel
theorem dX6_drops_9 : DD cX6_drops 9 (.iastore) 1 10 := by decide +kernel
theorem dX6_drops_10 : DD cX6_drops 10 (.aload_n 0) 1 11 := by decide +kernel
theorem dX6_drops_11 : DD cX6_drops 11 (.iconst 5) 1 12 := by decide +kernel
theorem dX6_drops_12 : DD cX6_drops 12 (.iconst 5) 1 13 := by decide +kernel
theorem dX6_drops_13 : DD cX6_drops 13 (.iload_n 1) 1 14 := by decide +kernel
theorem dX6_drops_14 : DD cX6_drops 14 (.imul) 1 15 := by decide +kernel
theorem dX6_drops_15 : DD cX6_drops 15 (.iadd) 1 16 := by decide +kernel
theorem dX6_drops_16 : DD cX6_drops 16 (.iconst 3) 1 17 := by decide +kernel
theorem dX6_drops_17 : DD cX6_drops 17 (.iadd) 1 18 := by decide +kernel
theorem dX6_drops_18 : DD cX6_drops 18 (.iconst 0) 1 19 := by decide +kernel
theorem dX6_drops_19 : DD cX6_drops 19 (.iastore) 1 20 := by decide +kernel
theorem dX6_drops_20 : DD cX6_drops 20 (.return_) 1 21 := by decide +kernel
def fX6_drops (a0 : Nat) (a1 : Int32) (h : AH) : Option (Unit × AH) := (chk (inb (((5 : Int32) + ((5 : Int32) * a1)) + (4 : Int32)) (ln a0)) (sto (hs h a0 (Int32.toNatClampNeg (((5 : Int32) + ((5 : Int32) * a1)) + (4 : Int32))) (0 : Int32)) fun h1 => (chk (inb (((5 : Int32) + ((5 : Int32) * a1)) + (3 : Int32)) (ln a0)) (sto (hs h1 a0 (Int32.toNatClampNeg (((5 : Int32) + ((5 : Int32) * a1)) + (3 : Int32))) (0 : Int32)) fun h2 => (some ((), h2))))))
set_option maxHeartbeats 4000000 in
set_option maxRecDepth 4000 in
theorem uX6_drops {l : Launch} {X : WX} {a0 : Nat} {a1 : Int32} {h h' : AH} {v : Unit} (ka0 : kd a0 = 7) (hf : fX6_drops a0 a1 h = some (v, h')) : Does l X 1 yX6_drops cX6_drops 2 none [.ref (X.1 + a0), .int a1] h (eV v) h' := by
  refine Does.of (enc := eV) (o := fX6_drops a0 a1 h) (lv := [(0, .ref (X.1 + a0)), (1, .int a1)]) (by decide) (Nat.le_of_ble_eq_true rfl) rfl hf (fun K hl hK => ?_)
  subst hl
  unfold fX6_drops
  refine J_aload_n hK dX6_drops_0 0 rfl ?_
  refine J_iconst hK dX6_drops_1 ci_5 ?_
  refine J_iconst hK dX6_drops_2 ci_5 ?_
  refine J_iload_n hK dX6_drops_3 1 rfl ?_
  refine J_imul hK dX6_drops_4 ?_
  refine J_iadd hK dX6_drops_5 ?_
  refine J_iconst hK dX6_drops_6 ci_4 ?_
  refine J_iadd hK dX6_drops_7 ?_
  refine J_iconst hK dX6_drops_8 ci_0 ?_
  refine J_iast hK dX6_drops_9 ka0 (fun h1 => ?_)
  refine J_aload_n hK dX6_drops_10 0 rfl ?_
  refine J_iconst hK dX6_drops_11 ci_5 ?_
  refine J_iconst hK dX6_drops_12 ci_5 ?_
  refine J_iload_n hK dX6_drops_13 1 rfl ?_
  refine J_imul hK dX6_drops_14 ?_
  refine J_iadd hK dX6_drops_15 ?_
  refine J_iconst hK dX6_drops_16 ci_3 ?_
  refine J_iadd hK dX6_drops_17 ?_
  refine J_iconst hK dX6_drops_18 ci_0 ?_
  refine J_iast hK dX6_drops_19 ka0 (fun h2 => ?_)
  exact J_vret hK dX6_drops_20
-- X6_fault
theorem dX6_fault_0 : DD cX6_fault 0 (.aload_n 0) 1 1 := by decide +kernel
theorem dX6_fault_1 : DD cX6_fault 1 (.getfield 105) 3 4 := by decide +kernel
theorem dX6_fault_4 : DD cX6_fault 4 (.ireturn) 1 5 := by decide +kernel
def fX6_fault (h : AH) : Option (Int32 × AH) := (some ((h 278 7), h))
set_option maxHeartbeats 4000000 in
set_option maxRecDepth 4000 in
theorem uX6_fault {l : Launch} {X : WX} {h h' : AH} {v : Int32} (hf : fX6_fault  h = some (v, h')) : Does l X 1 yX6_fault cX6_fault 1 (some .int) [.ref (X.1 + 278)] h (eI v) h' := by
  refine Does.of (enc := eI) (o := fX6_fault  h) (lv := [(0, .ref (X.1 + 278))]) (by decide) (Nat.le_of_ble_eq_true rfl) rfl hf (fun K hl hK => ?_)
  subst hl
  unfold fX6_fault
  refine J_aload_n hK dX6_fault_0 0 rfl ?_
  refine gF_X6_105 hK dX6_fault_1 kd_278 ?_
  exact J_iret hK dX6_fault_4
-- X6_found
theorem dX6_found_0 : DD cX6_found 0 (.aload_n 0) 1 1 := by decide +kernel
theorem dX6_found_1 : DD cX6_found 1 (.iload_n 1) 1 2 := by decide +kernel
theorem dX6_found_2 : DD cX6_found 2 (.putfield 48) 3 5 := by decide +kernel
theorem dX6_found_5 : DD cX6_found 5 (.ldc 52) 2 7 := by decide +kernel
theorem dX6_found_7 : DD cX6_found 7 (.iload_n 1) 1 8 := by decide +kernel
theorem dX6_found_8 : DD cX6_found 8 (.isub) 1 9 := by decide +kernel
theorem dX6_found_9 : DD cX6_found 9 (.ireturn) 1 10 := by decide +kernel
def fX6_found (a1 : Int32) (h : AH) : Option (Int32 × AH) := (sto (hs h 278 4 a1) fun h1 => (some (((-1000010 : Int32) - a1), h1)))
set_option maxHeartbeats 4000000 in
set_option maxRecDepth 4000 in
theorem uX6_found {l : Launch} {X : WX} {a1 : Int32} {h h' : AH} {v : Int32} (hf : fX6_found a1 h = some (v, h')) : Does l X 1 yX6_found cX6_found 2 (some .int) [.ref (X.1 + 278), .int a1] h (eI v) h' := by
  refine Does.of (enc := eI) (o := fX6_found a1 h) (lv := [(0, .ref (X.1 + 278)), (1, .int a1)]) (by decide) (Nat.le_of_ble_eq_true rfl) rfl hf (fun K hl hK => ?_)
  subst hl
  unfold fX6_found
  refine J_aload_n hK dX6_found_0 0 rfl ?_
  refine J_iload_n hK dX6_found_1 1 rfl ?_
  refine pF_X6_48 hK dX6_found_2 kd_278 (fun h1 => ?_)
  refine J_ldc hK dX6_found_5 kK_X6_52 ?_
  refine J_iload_n hK dX6_found_7 1 rfl ?_
  refine J_isub hK dX6_found_8 ?_
  exact J_iret hK dX6_found_9
-- X6_has
theorem dX6_has_0 : DD cX6_has 0 (.iload_n 0) 1 1 := by decide +kernel
theorem dX6_has_1 : DD cX6_has 1 (.iload_n 1) 1 2 := by decide +kernel
theorem dX6_has_2 : DD cX6_has 2 (.ishr) 1 3 := by decide +kernel
theorem dX6_has_3 : DD cX6_has 3 (.iconst 1) 1 4 := by decide +kernel
theorem dX6_has_4 : DD cX6_has 4 (.iand) 1 5 := by decide +kernel
theorem dX6_has_5 : DD cX6_has 5 (.iconst 1) 1 6 := by decide +kernel
theorem dX6_has_6 : DD cX6_has 6 (.if_icmp .ne 7) 3 9 := by decide +kernel
theorem dX6_has_9 : DD cX6_has 9 (.iconst 1) 1 10 := by decide +kernel
theorem dX6_has_10 : DD cX6_has 10 (.goto 4) 3 13 := by decide +kernel
theorem dX6_has_13 : DD cX6_has 13 (.iconst 0) 1 14 := by decide +kernel
theorem dX6_has_14 : DD cX6_has 14 (.ireturn) 1 15 := by decide +kernel
def fX6_has (a0 : Int32) (a1 : Int32) (h : AH) : Option (Int32 × AH) := (if ((a0 >>> (a1 &&& 31)) &&& (1 : Int32)) = (1 : Int32) then (some ((1 : Int32), h)) else (some ((0 : Int32), h)))
set_option maxHeartbeats 4000000 in
set_option maxRecDepth 4000 in
theorem uX6_has {l : Launch} {X : WX} {a0 : Int32} {a1 : Int32} {h h' : AH} {v : Int32} (hf : fX6_has a0 a1 h = some (v, h')) : Does l X 1 yX6_has cX6_has 2 (some .boolean) [.int a0, .int a1] h (eI v) h' := by
  refine Does.of (enc := eI) (o := fX6_has a0 a1 h) (lv := [(0, .int a0), (1, .int a1)]) (by decide) (Nat.le_of_ble_eq_true rfl) rfl hf (fun K hl hK => ?_)
  subst hl
  unfold fX6_has
  refine J_iload_n hK dX6_has_0 0 rfl ?_
  refine J_iload_n hK dX6_has_1 1 rfl ?_
  refine J_ishr hK dX6_has_2 ?_
  refine J_iconst hK dX6_has_3 ci_1 ?_
  refine J_iand hK dX6_has_4 ?_
  refine J_iconst hK dX6_has_5 ci_1 ?_
  refine J_icmp_ne (tgt := 13) hK dX6_has_6 (by decide) ?_ ?_
  · refine J_iconst hK dX6_has_9 ci_1 ?_
    refine J_goto (len := 0) (tgt := 14) hK dX6_has_10 (by decide) ?_
    exact J_zret1 hK dX6_has_14
  · refine J_iconst hK dX6_has_13 ci_0 ?_
    exact J_zret0 hK dX6_has_14
-- X6_holding
theorem dX6_holding_0 : DD cX6_holding 0 (.iconst 0) 1 1 := by decide +kernel
theorem dX6_holding_1 : DD cX6_holding 1 (.istore_n 1) 1 2 := by decide +kernel
theorem dX6_holding_2 : DD cX6_holding 2 (.iconst 0) 1 3 := by decide +kernel
theorem dX6_holding_3 : DD cX6_holding 3 (.istore_n 2) 1 4 := by decide +kernel
theorem dX6_holding_4 : DD cX6_holding 4 (.iload_n 2) 1 5 := by decide +kernel
theorem dX6_holding_5 : DD cX6_holding 5 (.aload_n 0) 1 6 := by decide +kernel
theorem dX6_holding_6 : DD cX6_holding 6 (.iconst 2) 1 7 := by decide +kernel
theorem dX6_holding_7 : DD cX6_holding 7 (.iaload) 1 8 := by decide +kernel
theorem dX6_holding_8 : DD cX6_holding 8 (.if_icmp .ge 23) 3 11 := by decide +kernel
theorem dX6_holding_11 : DD cX6_holding 11 (.iload_n 1) 1 12 := by decide +kernel
theorem dX6_holding_12 : DD cX6_holding 12 (.aload_n 0) 1 13 := by decide +kernel
theorem dX6_holding_13 : DD cX6_holding 13 (.iconst 5) 1 14 := by decide +kernel
theorem dX6_holding_14 : DD cX6_holding 14 (.iconst 5) 1 15 := by decide +kernel
theorem dX6_holding_15 : DD cX6_holding 15 (.iload_n 2) 1 16 := by decide +kernel
theorem dX6_holding_16 : DD cX6_holding 16 (.imul) 1 17 := by decide +kernel
theorem dX6_holding_17 : DD cX6_holding 17 (.iadd) 1 18 := by decide +kernel
theorem dX6_holding_18 : DD cX6_holding 18 (.iconst 4) 1 19 := by decide +kernel
theorem dX6_holding_19 : DD cX6_holding 19 (.iadd) 1 20 := by decide +kernel
theorem dX6_holding_20 : DD cX6_holding 20 (.iaload) 1 21 := by decide +kernel
theorem dX6_holding_21 : DD cX6_holding 21 (.iload_n 2) 1 22 := by decide +kernel
theorem dX6_holding_22 : DD cX6_holding 22 (.ishl) 1 23 := by decide +kernel
theorem dX6_holding_23 : DD cX6_holding 23 (.ior) 1 24 := by decide +kernel
theorem dX6_holding_24 : DD cX6_holding 24 (.istore_n 1) 1 25 := by decide +kernel
theorem dX6_holding_25 : DD cX6_holding 25 (.iinc 2 1) 3 28 := by decide +kernel
theorem dX6_holding_28 : DD cX6_holding 28 (.goto (-24)) 3 31 := by decide +kernel
theorem dX6_holding_31 : DD cX6_holding 31 (.iload_n 1) 1 32 := by decide +kernel
theorem dX6_holding_32 : DD cX6_holding 32 (.ireturn) 1 33 := by decide +kernel
def fX6_holding_L4 (p0 : Nat) : Nat → Int32 → Int32 → AH → (Int32 → Int32 → AH → Option (Int32 × AH)) → Option (Int32 × AH)
  | 0, _, _, _, _ => none
  | n + 1, x2, x1, h, k => (chk (inb (2 : Int32) (ln p0)) (if x2 < (h p0 (Int32.toNatClampNeg (2 : Int32))) then (chk (inb (((5 : Int32) + ((5 : Int32) * x2)) + (4 : Int32)) (ln p0)) (vl (x1 ||| ((h p0 (Int32.toNatClampNeg (((5 : Int32) + ((5 : Int32) * x2)) + (4 : Int32)))) <<< (x2 &&& 31))) fun z201 => (vl (x2 + (1 : Int32)) fun z202 => fX6_holding_L4 p0 n z202 z201 h k))) else k x2 x1 h))
def fX6_holding (a0 : Nat) (h : AH) : Option (Int32 × AH) := (fX6_holding_L4 a0 FU (0 : Int32) (0 : Int32) h fun z1 z2 h3 => (some (z2, h3)))
set_option maxHeartbeats 4000000 in
theorem gX6_holding_L4 {K : MC} {X : WX} {p0 : Nat} (hK : Ok K X RX6 cX6_holding 3 (some .int) 1) (hp0 : kd p0 = 7) {k : Int32 → Int32 → AH → Option (Int32 × AH)} (hk : ∀ (x2 : Int32) (x1 : Int32) (h : AH), J K X 3 (Zm K X) eI 31 [(2, .int x2), (1, .int x1), (0, .ref (X.1 + p0))] [] h (k x2 x1 h)) : ∀ (n : Nat) (x2 : Int32) (x1 : Int32) (h : AH), J K X 3 (Zm K X) eI 4 [(2, .int x2), (1, .int x1), (0, .ref (X.1 + p0))] [] h (fX6_holding_L4 p0 n x2 x1 h k) := by
  intro n
  induction n with
  | zero => exact fun _ _ _ => J_none
  | succ n ih =>
    intro x2 x1 h
    rw [fX6_holding_L4]
    refine J_iload_n hK dX6_holding_4 0 rfl ?_
    refine J_aload_n hK dX6_holding_5 2 rfl ?_
    refine J_iconst hK dX6_holding_6 ci_2 ?_
    refine J_iald hK dX6_holding_7 hp0 (fun _ => ?_)
    refine J_icmp_ge (tgt := 31) hK dX6_holding_8 (by decide) ?_ ?_
    · refine J_iload_n hK dX6_holding_11 1 rfl ?_
      refine J_aload_n hK dX6_holding_12 2 rfl ?_
      refine J_iconst hK dX6_holding_13 ci_5 ?_
      refine J_iconst hK dX6_holding_14 ci_5 ?_
      refine J_iload_n hK dX6_holding_15 0 rfl ?_
      refine J_imul hK dX6_holding_16 ?_
      refine J_iadd hK dX6_holding_17 ?_
      refine J_iconst hK dX6_holding_18 ci_4 ?_
      refine J_iadd hK dX6_holding_19 ?_
      refine J_iald hK dX6_holding_20 hp0 (fun _ => ?_)
      refine J_iload_n hK dX6_holding_21 0 rfl ?_
      refine J_ishl hK dX6_holding_22 ?_
      refine J_ior hK dX6_holding_23 ?_
      refine J_istoreV_n (n := 1) (lw := [(2, .int x2), (0, .ref (X.1 + p0))]) hK dX6_holding_24 rfl (by decide) rfl (fun z201 => ?_)
      refine J_iinc (lw := [(1, .int z201), (0, .ref (X.1 + p0))]) hK dX6_holding_25 1 rfl (by decide) ci_1 rfl (fun z202 => ?_)
      refine J_goto (len := 0) (tgt := 4) hK dX6_holding_28 (by decide) ?_
      exact J_sub [0, 1, 2] rfl (ih _ _ _)
    · exact J_sub [0, 1, 2] rfl (hk _ _ _)
set_option maxHeartbeats 4000000 in
set_option maxRecDepth 4000 in
theorem uX6_holding {l : Launch} {X : WX} {a0 : Nat} {h h' : AH} {v : Int32} (ka0 : kd a0 = 7) (hf : fX6_holding a0 h = some (v, h')) : Does l X 1 yX6_holding cX6_holding 3 (some .int) [.ref (X.1 + a0)] h (eI v) h' := by
  refine Does.of (enc := eI) (o := fX6_holding a0 h) (lv := [(0, .ref (X.1 + a0))]) (by decide) (Nat.le_of_ble_eq_true rfl) rfl hf (fun K hl hK => ?_)
  subst hl
  unfold fX6_holding
  refine J_iconst hK dX6_holding_0 ci_0 ?_
  refine J_istore_n (n := 1) (lw := [(0, .ref (X.1 + a0))]) hK dX6_holding_1 rfl (by decide) rfl ?_
  refine J_iconst hK dX6_holding_2 ci_0 ?_
  refine J_istore_n (n := 2) (lw := [(1, .int (0 : Int32)), (0, .ref (X.1 + a0))]) hK dX6_holding_3 rfl (by decide) rfl ?_
  refine J_sub [0, 1, 2] rfl (gX6_holding_L4 hK ka0 (fun z1 z2 h3 => ?_) FU _ _ _)
  refine J_iload_n hK dX6_holding_31 1 rfl ?_
  exact J_iret hK dX6_holding_32
-- X6_in
theorem dX6_in_0 : DD cX6_in 0 (.iload_n 0) 1 1 := by decide +kernel
theorem dX6_in_1 : DD cX6_in 1 (.iload_n 1) 1 2 := by decide +kernel
theorem dX6_in_2 : DD cX6_in 2 (.if_icmp .lt 12) 3 5 := by decide +kernel
theorem dX6_in_5 : DD cX6_in 5 (.iload_n 0) 1 6 := by decide +kernel
theorem dX6_in_6 : DD cX6_in 6 (.iload_n 2) 1 7 := by decide +kernel
theorem dX6_in_7 : DD cX6_in 7 (.if_icmp .gt 7) 3 10 := by decide +kernel
theorem dX6_in_10 : DD cX6_in 10 (.iconst 1) 1 11 := by decide +kernel
theorem dX6_in_11 : DD cX6_in 11 (.goto 4) 3 14 := by decide +kernel
theorem dX6_in_14 : DD cX6_in 14 (.iconst 0) 1 15 := by decide +kernel
theorem dX6_in_15 : DD cX6_in 15 (.ireturn) 1 16 := by decide +kernel
def fX6_in (a0 : Int32) (a1 : Int32) (a2 : Int32) (h : AH) : Option (Int32 × AH) := (if a0 < a1 then (some ((0 : Int32), h)) else (if a2 < a0 then (some ((0 : Int32), h)) else (some ((1 : Int32), h))))
set_option maxHeartbeats 4000000 in
set_option maxRecDepth 4000 in
theorem uX6_in {l : Launch} {X : WX} {a0 : Int32} {a1 : Int32} {a2 : Int32} {h h' : AH} {v : Int32} (hf : fX6_in a0 a1 a2 h = some (v, h')) : Does l X 1 yX6_in cX6_in 3 (some .boolean) [.int a0, .int a1, .int a2] h (eI v) h' := by
  refine Does.of (enc := eI) (o := fX6_in a0 a1 a2 h) (lv := [(0, .int a0), (1, .int a1), (2, .int a2)]) (by decide) (Nat.le_of_ble_eq_true rfl) rfl hf (fun K hl hK => ?_)
  subst hl
  unfold fX6_in
  refine J_iload_n hK dX6_in_0 0 rfl ?_
  refine J_iload_n hK dX6_in_1 1 rfl ?_
  refine J_icmp_lt (tgt := 14) hK dX6_in_2 (by decide) ?_ ?_
  · refine J_iconst hK dX6_in_14 ci_0 ?_
    exact J_zret0 hK dX6_in_15
  · refine J_iload_n hK dX6_in_5 0 rfl ?_
    refine J_iload_n hK dX6_in_6 2 rfl ?_
    refine J_icmp_gt (tgt := 14) hK dX6_in_7 (by decide) ?_ ?_
    · refine J_iconst hK dX6_in_14 ci_0 ?_
      exact J_zret0 hK dX6_in_15
    · refine J_iconst hK dX6_in_10 ci_1 ?_
      refine J_goto (len := 0) (tgt := 15) hK dX6_in_11 (by decide) ?_
      exact J_zret1 hK dX6_in_15
-- X6_isEstuary
theorem dX6_isEstuary_0 : DD cX6_isEstuary 0 (.aload_n 0) 1 1 := by decide +kernel
theorem dX6_isEstuary_1 : DD cX6_isEstuary 1 (.getfield 25) 3 4 := by decide +kernel
theorem dX6_isEstuary_4 : DD cX6_isEstuary 4 (.iconst 0) 1 5 := by decide +kernel
theorem dX6_isEstuary_5 : DD cX6_isEstuary 5 (.iaload) 1 6 := by decide +kernel
theorem dX6_isEstuary_6 : DD cX6_isEstuary 6 (.ifCond .le 7) 3 9 := by decide +kernel
theorem dX6_isEstuary_9 : DD cX6_isEstuary 9 (.iconst 1) 1 10 := by decide +kernel
theorem dX6_isEstuary_10 : DD cX6_isEstuary 10 (.goto 4) 3 13 := by decide +kernel
theorem dX6_isEstuary_13 : DD cX6_isEstuary 13 (.iconst 0) 1 14 := by decide +kernel
theorem dX6_isEstuary_14 : DD cX6_isEstuary 14 (.ireturn) 1 15 := by decide +kernel
def fX6_isEstuary (h : AH) : Option (Int32 × AH) := (chk (inb (0 : Int32) (ln 284)) (if 0 < (h 284 (Int32.toNatClampNeg (0 : Int32))) then (some ((1 : Int32), h)) else (some ((0 : Int32), h))))
set_option maxHeartbeats 4000000 in
set_option maxRecDepth 4000 in
theorem uX6_isEstuary {l : Launch} {X : WX} {h h' : AH} {v : Int32} (hf : fX6_isEstuary  h = some (v, h')) : Does l X 1 yX6_isEstuary cX6_isEstuary 1 (some .boolean) [.ref (X.1 + 278)] h (eI v) h' := by
  refine Does.of (enc := eI) (o := fX6_isEstuary  h) (lv := [(0, .ref (X.1 + 278))]) (by decide) (Nat.le_of_ble_eq_true rfl) rfl hf (fun K hl hK => ?_)
  subst hl
  unfold fX6_isEstuary
  refine J_aload_n hK dX6_isEstuary_0 0 rfl ?_
  refine rF_X6_25 (q2 := 284) hK dX6_isEstuary_1 kd_278 rfl ?_
  refine J_iconst hK dX6_isEstuary_4 ci_0 ?_
  refine J_iald hK dX6_isEstuary_5 kd_284 (fun _ => ?_)
  refine J_if_le (tgt := 13) hK dX6_isEstuary_6 (by decide) ?_ ?_
  · refine J_iconst hK dX6_isEstuary_9 ci_1 ?_
    refine J_goto (len := 0) (tgt := 14) hK dX6_isEstuary_10 (by decide) ?_
    exact J_zret1 hK dX6_isEstuary_14
  · refine J_iconst hK dX6_isEstuary_13 ci_0 ?_
    exact J_zret0 hK dX6_isEstuary_14
-- X6_isMissing
theorem dX6_isMissing_0 : DD cX6_isMissing 0 (.aload_n 0) 1 1 := by decide +kernel
theorem dX6_isMissing_1 : DD cX6_isMissing 1 (.getfield 7) 3 4 := by decide +kernel
theorem dX6_isMissing_4 : DD cX6_isMissing 4 (.iload_n 1) 1 5 := by decide +kernel
theorem dX6_isMissing_5 : DD cX6_isMissing 5 (.iaload) 1 6 := by decide +kernel
theorem dX6_isMissing_6 : DD cX6_isMissing 6 (.ldc 47) 2 8 := by decide +kernel
theorem dX6_isMissing_8 : DD cX6_isMissing 8 (.if_icmp .ne 7) 3 11 := by decide +kernel
theorem dX6_isMissing_11 : DD cX6_isMissing 11 (.iconst 1) 1 12 := by decide +kernel
theorem dX6_isMissing_12 : DD cX6_isMissing 12 (.goto 4) 3 15 := by decide +kernel
theorem dX6_isMissing_15 : DD cX6_isMissing 15 (.iconst 0) 1 16 := by decide +kernel
theorem dX6_isMissing_16 : DD cX6_isMissing 16 (.ireturn) 1 17 := by decide +kernel
def fX6_isMissing (a1 : Int32) (h : AH) : Option (Int32 × AH) := (chk (inb a1 (ln 279)) (if (h 279 (Int32.toNatClampNeg a1)) = (-1000000 : Int32) then (some ((1 : Int32), h)) else (some ((0 : Int32), h))))
set_option maxHeartbeats 4000000 in
set_option maxRecDepth 4000 in
theorem uX6_isMissing {l : Launch} {X : WX} {a1 : Int32} {h h' : AH} {v : Int32} (hf : fX6_isMissing a1 h = some (v, h')) : Does l X 1 yX6_isMissing cX6_isMissing 2 (some .boolean) [.ref (X.1 + 278), .int a1] h (eI v) h' := by
  refine Does.of (enc := eI) (o := fX6_isMissing a1 h) (lv := [(0, .ref (X.1 + 278)), (1, .int a1)]) (by decide) (Nat.le_of_ble_eq_true rfl) rfl hf (fun K hl hK => ?_)
  subst hl
  unfold fX6_isMissing
  refine J_aload_n hK dX6_isMissing_0 0 rfl ?_
  refine rF_X6_7 (q2 := 279) hK dX6_isMissing_1 kd_278 rfl ?_
  refine J_iload_n hK dX6_isMissing_4 1 rfl ?_
  refine J_iald hK dX6_isMissing_5 kd_279 (fun _ => ?_)
  refine J_ldc hK dX6_isMissing_6 kK_X6_47 ?_
  refine J_icmp_ne (tgt := 15) hK dX6_isMissing_8 (by decide) ?_ ?_
  · refine J_iconst hK dX6_isMissing_11 ci_1 ?_
    refine J_goto (len := 0) (tgt := 16) hK dX6_isMissing_12 (by decide) ?_
    exact J_zret1 hK dX6_isMissing_16
  · refine J_iconst hK dX6_isMissing_15 ci_0 ?_
    exact J_zret0 hK dX6_isMissing_16
-- X6_isPart
theorem dX6_isPart_0 : DD cX6_isPart 0 (.iload_n 2) 1 1 := by decide +kernel
theorem dX6_isPart_1 : DD cX6_isPart 1 (.ifCond .lt 33) 3 4 := by decide +kernel
theorem dX6_isPart_4 : DD cX6_isPart 4 (.iload_n 3) 1 5 := by decide +kernel
theorem dX6_isPart_5 : DD cX6_isPart 5 (.ifCond .lt 29) 3 8 := by decide +kernel
theorem dX6_isPart_8 : DD cX6_isPart 8 (.iload_n 2) 1 9 := by decide +kernel
theorem dX6_isPart_9 : DD cX6_isPart 9 (.aload_n 0) 1 10 := by decide +kernel
theorem dX6_isPart_10 : DD cX6_isPart 10 (.getfield 13) 3 13 := by decide +kernel
theorem dX6_isPart_13 : DD cX6_isPart 13 (.iload_n 1) 1 14 := by decide +kernel
theorem dX6_isPart_14 : DD cX6_isPart 14 (.iaload) 1 15 := by decide +kernel
theorem dX6_isPart_15 : DD cX6_isPart 15 (.if_icmp .gt 19) 3 18 := by decide +kernel
theorem dX6_isPart_18 : DD cX6_isPart 18 (.iload_n 3) 1 19 := by decide +kernel
theorem dX6_isPart_19 : DD cX6_isPart 19 (.aload_n 0) 1 20 := by decide +kernel
theorem dX6_isPart_20 : DD cX6_isPart 20 (.getfield 13) 3 23 := by decide +kernel
theorem dX6_isPart_23 : DD cX6_isPart 23 (.iload_n 1) 1 24 := by decide +kernel
theorem dX6_isPart_24 : DD cX6_isPart 24 (.iaload) 1 25 := by decide +kernel
theorem dX6_isPart_25 : DD cX6_isPart 25 (.iload_n 2) 1 26 := by decide +kernel
theorem dX6_isPart_26 : DD cX6_isPart 26 (.isub) 1 27 := by decide +kernel
theorem dX6_isPart_27 : DD cX6_isPart 27 (.if_icmp .gt 7) 3 30 := by decide +kernel
theorem dX6_isPart_30 : DD cX6_isPart 30 (.iconst 1) 1 31 := by decide +kernel
theorem dX6_isPart_31 : DD cX6_isPart 31 (.goto 4) 3 34 := by decide +kernel
theorem dX6_isPart_34 : DD cX6_isPart 34 (.iconst 0) 1 35 := by decide +kernel
theorem dX6_isPart_35 : DD cX6_isPart 35 (.ireturn) 1 36 := by decide +kernel
def fX6_isPart (a1 : Int32) (a2 : Int32) (a3 : Int32) (h : AH) : Option (Int32 × AH) := (if a2 < 0 then (some ((0 : Int32), h)) else (if a3 < 0 then (some ((0 : Int32), h)) else (chk (inb a1 (ln 280)) (if (h 280 (Int32.toNatClampNeg a1)) < a2 then (some ((0 : Int32), h)) else (chk (inb a1 (ln 280)) (if ((h 280 (Int32.toNatClampNeg a1)) - a2) < a3 then (some ((0 : Int32), h)) else (some ((1 : Int32), h))))))))
set_option maxHeartbeats 4000000 in
set_option maxRecDepth 4000 in
theorem uX6_isPart {l : Launch} {X : WX} {a1 : Int32} {a2 : Int32} {a3 : Int32} {h h' : AH} {v : Int32} (hf : fX6_isPart a1 a2 a3 h = some (v, h')) : Does l X 1 yX6_isPart cX6_isPart 4 (some .boolean) [.ref (X.1 + 278), .int a1, .int a2, .int a3] h (eI v) h' := by
  refine Does.of (enc := eI) (o := fX6_isPart a1 a2 a3 h) (lv := [(0, .ref (X.1 + 278)), (1, .int a1), (2, .int a2), (3, .int a3)]) (by decide) (Nat.le_of_ble_eq_true rfl) rfl hf (fun K hl hK => ?_)
  subst hl
  unfold fX6_isPart
  refine J_iload_n hK dX6_isPart_0 2 rfl ?_
  refine J_if_lt (tgt := 34) hK dX6_isPart_1 (by decide) ?_ ?_
  · refine J_iconst hK dX6_isPart_34 ci_0 ?_
    exact J_zret0 hK dX6_isPart_35
  · refine J_iload_n hK dX6_isPart_4 3 rfl ?_
    refine J_if_lt (tgt := 34) hK dX6_isPart_5 (by decide) ?_ ?_
    · refine J_iconst hK dX6_isPart_34 ci_0 ?_
      exact J_zret0 hK dX6_isPart_35
    · refine J_iload_n hK dX6_isPart_8 2 rfl ?_
      refine J_aload_n hK dX6_isPart_9 0 rfl ?_
      refine rF_X6_13 (q2 := 280) hK dX6_isPart_10 kd_278 rfl ?_
      refine J_iload_n hK dX6_isPart_13 1 rfl ?_
      refine J_iald hK dX6_isPart_14 kd_280 (fun _ => ?_)
      refine J_icmp_gt (tgt := 34) hK dX6_isPart_15 (by decide) ?_ ?_
      · refine J_iconst hK dX6_isPart_34 ci_0 ?_
        exact J_zret0 hK dX6_isPart_35
      · refine J_iload_n hK dX6_isPart_18 3 rfl ?_
        refine J_aload_n hK dX6_isPart_19 0 rfl ?_
        refine rF_X6_13 (q2 := 280) hK dX6_isPart_20 kd_278 rfl ?_
        refine J_iload_n hK dX6_isPart_23 1 rfl ?_
        refine J_iald hK dX6_isPart_24 kd_280 (fun _ => ?_)
        refine J_iload_n hK dX6_isPart_25 2 rfl ?_
        refine J_isub hK dX6_isPart_26 ?_
        refine J_icmp_gt (tgt := 34) hK dX6_isPart_27 (by decide) ?_ ?_
        · refine J_iconst hK dX6_isPart_34 ci_0 ?_
          exact J_zret0 hK dX6_isPart_35
        · refine J_iconst hK dX6_isPart_30 ci_1 ?_
          refine J_goto (len := 0) (tgt := 35) hK dX6_isPart_31 (by decide) ?_
          exact J_zret1 hK dX6_isPart_35
-- X6_isWell
theorem dX6_isWell_0 : DD cX6_isWell 0 (.aload_n 0) 1 1 := by decide +kernel
theorem dX6_isWell_1 : DD cX6_isWell 1 (.getfield 98) 3 4 := by decide +kernel
theorem dX6_isWell_4 : DD cX6_isWell 4 (.ifCond .ge 7) 3 7 := by decide +kernel
theorem dX6_isWell_7 : DD cX6_isWell 7 (.iconst 1) 1 8 := by decide +kernel
theorem dX6_isWell_8 : DD cX6_isWell 8 (.goto 4) 3 11 := by decide +kernel
theorem dX6_isWell_11 : DD cX6_isWell 11 (.iconst 0) 1 12 := by decide +kernel
theorem dX6_isWell_12 : DD cX6_isWell 12 (.ireturn) 1 13 := by decide +kernel
def fX6_isWell (h : AH) : Option (Int32 × AH) := (if (h 278 8) < 0 then (some ((1 : Int32), h)) else (some ((0 : Int32), h)))
set_option maxHeartbeats 4000000 in
set_option maxRecDepth 4000 in
theorem uX6_isWell {l : Launch} {X : WX} {h h' : AH} {v : Int32} (hf : fX6_isWell  h = some (v, h')) : Does l X 1 yX6_isWell cX6_isWell 1 (some .boolean) [.ref (X.1 + 278)] h (eI v) h' := by
  refine Does.of (enc := eI) (o := fX6_isWell  h) (lv := [(0, .ref (X.1 + 278))]) (by decide) (Nat.le_of_ble_eq_true rfl) rfl hf (fun K hl hK => ?_)
  subst hl
  unfold fX6_isWell
  refine J_aload_n hK dX6_isWell_0 0 rfl ?_
  refine gF_X6_98 hK dX6_isWell_1 kd_278 ?_
  refine J_if_ge (tgt := 11) hK dX6_isWell_4 (by decide) ?_ ?_
  · refine J_iconst hK dX6_isWell_7 ci_1 ?_
    refine J_goto (len := 0) (tgt := 12) hK dX6_isWell_8 (by decide) ?_
    exact J_zret1 hK dX6_isWell_12
  · refine J_iconst hK dX6_isWell_11 ci_0 ?_
    exact J_zret0 hK dX6_isWell_12
-- X6_kindIn
theorem dX6_kindIn_0 : DD cX6_kindIn 0 (.aload_n 0) 1 1 := by decide +kernel
theorem dX6_kindIn_1 : DD cX6_kindIn 1 (.getfield 25) 3 4 := by decide +kernel
theorem dX6_kindIn_4 : DD cX6_kindIn 4 (.iconst 5) 1 5 := by decide +kernel
theorem dX6_kindIn_5 : DD cX6_kindIn 5 (.iconst 5) 1 6 := by decide +kernel
theorem dX6_kindIn_6 : DD cX6_kindIn 6 (.iload_n 1) 1 7 := by decide +kernel
theorem dX6_kindIn_7 : DD cX6_kindIn 7 (.imul) 1 8 := by decide +kernel
theorem dX6_kindIn_8 : DD cX6_kindIn 8 (.iadd) 1 9 := by decide +kernel
theorem dX6_kindIn_9 : DD cX6_kindIn 9 (.iaload) 1 10 := by decide +kernel
theorem dX6_kindIn_10 : DD cX6_kindIn 10 (.ireturn) 1 11 := by decide +kernel
def fX6_kindIn (a1 : Int32) (h : AH) : Option (Int32 × AH) := (chk (inb ((5 : Int32) + ((5 : Int32) * a1)) (ln 284)) (some ((h 284 (Int32.toNatClampNeg ((5 : Int32) + ((5 : Int32) * a1)))), h)))
set_option maxHeartbeats 4000000 in
set_option maxRecDepth 4000 in
theorem uX6_kindIn {l : Launch} {X : WX} {a1 : Int32} {h h' : AH} {v : Int32} (hf : fX6_kindIn a1 h = some (v, h')) : Does l X 1 yX6_kindIn cX6_kindIn 2 (some .int) [.ref (X.1 + 278), .int a1] h (eI v) h' := by
  refine Does.of (enc := eI) (o := fX6_kindIn a1 h) (lv := [(0, .ref (X.1 + 278)), (1, .int a1)]) (by decide) (Nat.le_of_ble_eq_true rfl) rfl hf (fun K hl hK => ?_)
  subst hl
  unfold fX6_kindIn
  refine J_aload_n hK dX6_kindIn_0 0 rfl ?_
  refine rF_X6_25 (q2 := 284) hK dX6_kindIn_1 kd_278 rfl ?_
  refine J_iconst hK dX6_kindIn_4 ci_5 ?_
  refine J_iconst hK dX6_kindIn_5 ci_5 ?_
  refine J_iload_n hK dX6_kindIn_6 1 rfl ?_
  refine J_imul hK dX6_kindIn_7 ?_
  refine J_iadd hK dX6_kindIn_8 ?_
  refine J_iald hK dX6_kindIn_9 kd_284 (fun _ => ?_)
  exact J_iret hK dX6_kindIn_10
-- X6_kindOf
theorem dX6_kindOf_0 : DD cX6_kindOf 0 (.iload_n 0) 1 1 := by decide +kernel
theorem dX6_kindOf_1 : DD cX6_kindOf 1 (.bipush 112) 2 3 := by decide +kernel
theorem dX6_kindOf_3 : DD cX6_kindOf 3 (.if_icmp .ne 7) 3 6 := by decide +kernel
theorem dX6_kindOf_6 : DD cX6_kindOf 6 (.iconst 1) 1 7 := by decide +kernel
theorem dX6_kindOf_7 : DD cX6_kindOf 7 (.goto 44) 3 10 := by decide +kernel
theorem dX6_kindOf_10 : DD cX6_kindOf 10 (.iload_n 0) 1 11 := by decide +kernel
theorem dX6_kindOf_11 : DD cX6_kindOf 11 (.bipush 108) 2 13 := by decide +kernel
theorem dX6_kindOf_13 : DD cX6_kindOf 13 (.if_icmp .ne 7) 3 16 := by decide +kernel
theorem dX6_kindOf_16 : DD cX6_kindOf 16 (.iconst 2) 1 17 := by decide +kernel
theorem dX6_kindOf_17 : DD cX6_kindOf 17 (.goto 34) 3 20 := by decide +kernel
theorem dX6_kindOf_20 : DD cX6_kindOf 20 (.iload_n 0) 1 21 := by decide +kernel
theorem dX6_kindOf_21 : DD cX6_kindOf 21 (.bipush 115) 2 23 := by decide +kernel
theorem dX6_kindOf_23 : DD cX6_kindOf 23 (.if_icmp .ne 7) 3 26 := by decide +kernel
theorem dX6_kindOf_26 : DD cX6_kindOf 26 (.iconst 3) 1 27 := by decide +kernel
theorem dX6_kindOf_27 : DD cX6_kindOf 27 (.goto 24) 3 30 := by decide +kernel
theorem dX6_kindOf_30 : DD cX6_kindOf 30 (.iload_n 0) 1 31 := by decide +kernel
theorem dX6_kindOf_31 : DD cX6_kindOf 31 (.bipush 97) 2 33 := by decide +kernel
theorem dX6_kindOf_33 : DD cX6_kindOf 33 (.if_icmp .ne 7) 3 36 := by decide +kernel
theorem dX6_kindOf_36 : DD cX6_kindOf 36 (.iconst 4) 1 37 := by decide +kernel
theorem dX6_kindOf_37 : DD cX6_kindOf 37 (.goto 14) 3 40 := by decide +kernel
theorem dX6_kindOf_40 : DD cX6_kindOf 40 (.iload_n 0) 1 41 := by decide +kernel
theorem dX6_kindOf_41 : DD cX6_kindOf 41 (.bipush 98) 2 43 := by decide +kernel
theorem dX6_kindOf_43 : DD cX6_kindOf 43 (.if_icmp .ne 7) 3 46 := by decide +kernel
theorem dX6_kindOf_46 : DD cX6_kindOf 46 (.iconst 5) 1 47 := by decide +kernel
theorem dX6_kindOf_47 : DD cX6_kindOf 47 (.goto 4) 3 50 := by decide +kernel
theorem dX6_kindOf_50 : DD cX6_kindOf 50 (.iconst 0) 1 51 := by decide +kernel
theorem dX6_kindOf_51 : DD cX6_kindOf 51 (.ireturn) 1 52 := by decide +kernel
def fX6_kindOf (a0 : Int32) (h : AH) : Option (Int32 × AH) := (if a0 = (112 : Int32) then (some ((1 : Int32), h)) else (if a0 = (108 : Int32) then (some ((2 : Int32), h)) else (if a0 = (115 : Int32) then (some ((3 : Int32), h)) else (if a0 = (97 : Int32) then (some ((4 : Int32), h)) else (if a0 = (98 : Int32) then (some ((5 : Int32), h)) else (some ((0 : Int32), h)))))))
set_option maxHeartbeats 4000000 in
set_option maxRecDepth 4000 in
theorem uX6_kindOf {l : Launch} {X : WX} {a0 : Int32} {h h' : AH} {v : Int32} (hf : fX6_kindOf a0 h = some (v, h')) : Does l X 1 yX6_kindOf cX6_kindOf 1 (some .int) [.int a0] h (eI v) h' := by
  refine Does.of (enc := eI) (o := fX6_kindOf a0 h) (lv := [(0, .int a0)]) (by decide) (Nat.le_of_ble_eq_true rfl) rfl hf (fun K hl hK => ?_)
  subst hl
  unfold fX6_kindOf
  refine J_iload_n hK dX6_kindOf_0 0 rfl ?_
  refine J_bipush hK dX6_kindOf_1 cb_112 ?_
  refine J_icmp_ne (tgt := 10) hK dX6_kindOf_3 (by decide) ?_ ?_
  · refine J_iconst hK dX6_kindOf_6 ci_1 ?_
    refine J_goto (len := 0) (tgt := 51) hK dX6_kindOf_7 (by decide) ?_
    exact J_iret hK dX6_kindOf_51
  · refine J_iload_n hK dX6_kindOf_10 0 rfl ?_
    refine J_bipush hK dX6_kindOf_11 cb_108 ?_
    refine J_icmp_ne (tgt := 20) hK dX6_kindOf_13 (by decide) ?_ ?_
    · refine J_iconst hK dX6_kindOf_16 ci_2 ?_
      refine J_goto (len := 0) (tgt := 51) hK dX6_kindOf_17 (by decide) ?_
      exact J_iret hK dX6_kindOf_51
    · refine J_iload_n hK dX6_kindOf_20 0 rfl ?_
      refine J_bipush hK dX6_kindOf_21 cb_115 ?_
      refine J_icmp_ne (tgt := 30) hK dX6_kindOf_23 (by decide) ?_ ?_
      · refine J_iconst hK dX6_kindOf_26 ci_3 ?_
        refine J_goto (len := 0) (tgt := 51) hK dX6_kindOf_27 (by decide) ?_
        exact J_iret hK dX6_kindOf_51
      · refine J_iload_n hK dX6_kindOf_30 0 rfl ?_
        refine J_bipush hK dX6_kindOf_31 cb_97 ?_
        refine J_icmp_ne (tgt := 40) hK dX6_kindOf_33 (by decide) ?_ ?_
        · refine J_iconst hK dX6_kindOf_36 ci_4 ?_
          refine J_goto (len := 0) (tgt := 51) hK dX6_kindOf_37 (by decide) ?_
          exact J_iret hK dX6_kindOf_51
        · refine J_iload_n hK dX6_kindOf_40 0 rfl ?_
          refine J_bipush hK dX6_kindOf_41 cb_98 ?_
          refine J_icmp_ne (tgt := 50) hK dX6_kindOf_43 (by decide) ?_ ?_
          · refine J_iconst hK dX6_kindOf_46 ci_5 ?_
            refine J_goto (len := 0) (tgt := 51) hK dX6_kindOf_47 (by decide) ?_
            exact J_iret hK dX6_kindOf_51
          · refine J_iconst hK dX6_kindOf_50 ci_0 ?_
            exact J_iret hK dX6_kindOf_51
-- X6_met
theorem dX6_met_0 : DD cX6_met 0 (.ldc 47) 2 2 := by decide +kernel
theorem dX6_met_2 : DD cX6_met 2 (.istore_n 2) 1 3 := by decide +kernel
theorem dX6_met_3 : DD cX6_met 3 (.iconst 0) 1 4 := by decide +kernel
theorem dX6_met_4 : DD cX6_met 4 (.istore_n 3) 1 5 := by decide +kernel
theorem dX6_met_5 : DD cX6_met 5 (.iload_n 3) 1 6 := by decide +kernel
theorem dX6_met_6 : DD cX6_met 6 (.aload_n 0) 1 7 := by decide +kernel
theorem dX6_met_7 : DD cX6_met 7 (.iconst 3) 1 8 := by decide +kernel
theorem dX6_met_8 : DD cX6_met 8 (.iaload) 1 9 := by decide +kernel
theorem dX6_met_9 : DD cX6_met 9 (.if_icmp .ge 87) 3 12 := by decide +kernel
theorem dX6_met_12 : DD cX6_met 12 (.aload_n 0) 1 13 := by decide +kernel
theorem dX6_met_13 : DD cX6_met 13 (.bipush 35) 2 15 := by decide +kernel
theorem dX6_met_15 : DD cX6_met 15 (.iconst 2) 1 16 := by decide +kernel
theorem dX6_met_16 : DD cX6_met 16 (.iload_n 3) 1 17 := by decide +kernel
theorem dX6_met_17 : DD cX6_met 17 (.imul) 1 18 := by decide +kernel
theorem dX6_met_18 : DD cX6_met 18 (.iadd) 1 19 := by decide +kernel
theorem dX6_met_19 : DD cX6_met 19 (.iaload) 1 20 := by decide +kernel
theorem dX6_met_20 : DD cX6_met 20 (.istore 4) 2 22 := by decide +kernel
theorem dX6_met_22 : DD cX6_met 22 (.aload_n 0) 1 23 := by decide +kernel
theorem dX6_met_23 : DD cX6_met 23 (.bipush 35) 2 25 := by decide +kernel
theorem dX6_met_25 : DD cX6_met 25 (.iconst 2) 1 26 := by decide +kernel
theorem dX6_met_26 : DD cX6_met 26 (.iload_n 3) 1 27 := by decide +kernel
theorem dX6_met_27 : DD cX6_met 27 (.imul) 1 28 := by decide +kernel
theorem dX6_met_28 : DD cX6_met 28 (.iadd) 1 29 := by decide +kernel
theorem dX6_met_29 : DD cX6_met 29 (.iconst 1) 1 30 := by decide +kernel
theorem dX6_met_30 : DD cX6_met 30 (.iadd) 1 31 := by decide +kernel
theorem dX6_met_31 : DD cX6_met 31 (.iaload) 1 32 := by decide +kernel
theorem dX6_met_32 : DD cX6_met 32 (.ifCond .le 25) 3 35 := by decide +kernel
theorem dX6_met_35 : DD cX6_met 35 (.iload 4) 2 37 := by decide +kernel
theorem dX6_met_37 : DD cX6_met 37 (.aload_n 0) 1 38 := by decide +kernel
theorem dX6_met_38 : DD cX6_met 38 (.iconst 1) 1 39 := by decide +kernel
theorem dX6_met_39 : DD cX6_met 39 (.iaload) 1 40 := by decide +kernel
theorem dX6_met_40 : DD cX6_met 40 (.if_icmp .ge 17) 3 43 := by decide +kernel
theorem dX6_met_43 : DD cX6_met 43 (.iload 4) 2 45 := by decide +kernel
theorem dX6_met_45 : DD cX6_met 45 (.aload_n 0) 1 46 := by decide +kernel
theorem dX6_met_46 : DD cX6_met 46 (.iconst 1) 1 47 := by decide +kernel
theorem dX6_met_47 : DD cX6_met 47 (.iaload) 1 48 := by decide +kernel
theorem dX6_met_48 : DD cX6_met 48 (.iload_n 1) 1 49 := by decide +kernel
theorem dX6_met_49 : DD cX6_met 49 (.isub) 1 50 := by decide +kernel
theorem dX6_met_50 : DD cX6_met 50 (.if_icmp .lt 7) 3 53 := by decide +kernel
theorem dX6_met_53 : DD cX6_met 53 (.iconst 1) 1 54 := by decide +kernel
theorem dX6_met_54 : DD cX6_met 54 (.goto 4) 3 57 := by decide +kernel
theorem dX6_met_57 : DD cX6_met 57 (.iconst 0) 1 58 := by decide +kernel
theorem dX6_met_58 : DD cX6_met 58 (.istore 5) 2 60 := by decide +kernel
theorem dX6_met_60 : DD cX6_met 60 (.iload 5) 2 62 := by decide +kernel
theorem dX6_met_62 : DD cX6_met 62 (.ifCond .eq 26) 3 65 := by decide +kernel
theorem dX6_met_65 : DD cX6_met 65 (.iload_n 2) 1 66 := by decide +kernel
theorem dX6_met_66 : DD cX6_met 66 (.ldc 47) 2 68 := by decide +kernel
theorem dX6_met_68 : DD cX6_met 68 (.if_icmp .eq 16) 3 71 := by decide +kernel
theorem dX6_met_71 : DD cX6_met 71 (.iload 4) 2 73 := by decide +kernel
theorem dX6_met_73 : DD cX6_met 73 (.aload_n 0) 1 74 := by decide +kernel
theorem dX6_met_74 : DD cX6_met 74 (.bipush 35) 2 76 := by decide +kernel
theorem dX6_met_76 : DD cX6_met 76 (.iconst 2) 1 77 := by decide +kernel
theorem dX6_met_77 : DD cX6_met 77 (.iload_n 2) 1 78 := by decide +kernel
theorem dX6_met_78 : DD cX6_met 78 (.imul) 1 79 := by decide +kernel
theorem dX6_met_79 : DD cX6_met 79 (.iadd) 1 80 := by decide +kernel
theorem dX6_met_80 : DD cX6_met 80 (.iaload) 1 81 := by decide +kernel
theorem dX6_met_81 : DD cX6_met 81 (.if_icmp .le 7) 3 84 := by decide +kernel
theorem dX6_met_84 : DD cX6_met 84 (.iload_n 3) 1 85 := by decide +kernel
theorem dX6_met_85 : DD cX6_met 85 (.goto 4) 3 88 := by decide +kernel
theorem dX6_met_88 : DD cX6_met 88 (.iload_n 2) 1 89 := by decide +kernel
theorem dX6_met_89 : DD cX6_met 89 (.istore_n 2) 1 90 := by decide +kernel
theorem dX6_met_90 : DD cX6_met 90 (.iinc 3 1) 3 93 := by decide +kernel
theorem dX6_met_93 : DD cX6_met 93 (.goto (-88)) 3 96 := by decide +kernel
theorem dX6_met_96 : DD cX6_met 96 (.iload_n 2) 1 97 := by decide +kernel
theorem dX6_met_97 : DD cX6_met 97 (.ireturn) 1 98 := by decide +kernel
def fX6_met_L5 (p0 : Nat) (p1 : Int32) : Nat → Int32 → Int32 → AH → (Int32 → Int32 → AH → Option (Int32 × AH)) → Option (Int32 × AH)
  | 0, _, _, _, _ => none
  | n + 1, x3, x2, h, k => (chk (inb (3 : Int32) (ln p0)) (if x3 < (h p0 (Int32.toNatClampNeg (3 : Int32))) then (chk (inb ((35 : Int32) + ((2 : Int32) * x3)) (ln p0)) (vl (h p0 (Int32.toNatClampNeg ((35 : Int32) + ((2 : Int32) * x3)))) fun z201 => (chk (inb (((35 : Int32) + ((2 : Int32) * x3)) + (1 : Int32)) (ln p0)) (if 0 < (h p0 (Int32.toNatClampNeg (((35 : Int32) + ((2 : Int32) * x3)) + (1 : Int32)))) then (chk (inb (1 : Int32) (ln p0)) (if z201 < (h p0 (Int32.toNatClampNeg (1 : Int32))) then (chk (inb (1 : Int32) (ln p0)) (if z201 < ((h p0 (Int32.toNatClampNeg (1 : Int32))) - p1) then (if (0 : Int32) = 0 then (vl (x3 + (1 : Int32)) fun z202 => fX6_met_L5 p0 p1 n z202 x2 h k) else none) else (if (1 : Int32) = 0 then none else (if x2 = (-1000000 : Int32) then (vl (x3 + (1 : Int32)) fun z203 => fX6_met_L5 p0 p1 n z203 x3 h k) else (chk (inb ((35 : Int32) + ((2 : Int32) * x2)) (ln p0)) (if (h p0 (Int32.toNatClampNeg ((35 : Int32) + ((2 : Int32) * x2)))) < z201 then (vl (x3 + (1 : Int32)) fun z204 => fX6_met_L5 p0 p1 n z204 x3 h k) else (vl (x3 + (1 : Int32)) fun z205 => fX6_met_L5 p0 p1 n z205 x2 h k))))))) else (if (0 : Int32) = 0 then (vl (x3 + (1 : Int32)) fun z206 => fX6_met_L5 p0 p1 n z206 x2 h k) else none))) else (if (0 : Int32) = 0 then (vl (x3 + (1 : Int32)) fun z207 => fX6_met_L5 p0 p1 n z207 x2 h k) else none))))) else k x3 x2 h))
def fX6_met (a0 : Nat) (a1 : Int32) (h : AH) : Option (Int32 × AH) := (fX6_met_L5 a0 a1 FU (0 : Int32) (-1000000 : Int32) h fun z1 z2 h3 => (some (z2, h3)))
set_option maxHeartbeats 4000000 in
theorem gX6_met_L5 {K : MC} {X : WX} {p0 : Nat} {p1 : Int32} (hK : Ok K X RX6 cX6_met 6 (some .int) 1) (hp0 : kd p0 = 7) {k : Int32 → Int32 → AH → Option (Int32 × AH)} (hk : ∀ (x3 : Int32) (x2 : Int32) (h : AH), J K X 6 (Zm K X) eI 96 [(3, .int x3), (2, .int x2), (0, .ref (X.1 + p0)), (1, .int p1)] [] h (k x3 x2 h)) : ∀ (n : Nat) (x3 : Int32) (x2 : Int32) (h : AH), J K X 6 (Zm K X) eI 5 [(3, .int x3), (2, .int x2), (0, .ref (X.1 + p0)), (1, .int p1)] [] h (fX6_met_L5 p0 p1 n x3 x2 h k) := by
  intro n
  induction n with
  | zero => exact fun _ _ _ => J_none
  | succ n ih =>
    intro x3 x2 h
    rw [fX6_met_L5]
    refine J_iload_n hK dX6_met_5 0 rfl ?_
    refine J_aload_n hK dX6_met_6 2 rfl ?_
    refine J_iconst hK dX6_met_7 ci_3 ?_
    refine J_iald hK dX6_met_8 hp0 (fun _ => ?_)
    refine J_icmp_ge (tgt := 96) hK dX6_met_9 (by decide) ?_ ?_
    · refine J_aload_n hK dX6_met_12 2 rfl ?_
      refine J_bipush hK dX6_met_13 cb_35 ?_
      refine J_iconst hK dX6_met_15 ci_2 ?_
      refine J_iload_n hK dX6_met_16 0 rfl ?_
      refine J_imul hK dX6_met_17 ?_
      refine J_iadd hK dX6_met_18 ?_
      refine J_iald hK dX6_met_19 hp0 (fun _ => ?_)
      refine J_istoreV (lw := [(3, .int x3), (2, .int x2), (0, .ref (X.1 + p0)), (1, .int p1)]) hK dX6_met_20 (by decide) rfl (fun z201 => ?_)
      refine J_aload_n hK dX6_met_22 3 rfl ?_
      refine J_bipush hK dX6_met_23 cb_35 ?_
      refine J_iconst hK dX6_met_25 ci_2 ?_
      refine J_iload_n hK dX6_met_26 1 rfl ?_
      refine J_imul hK dX6_met_27 ?_
      refine J_iadd hK dX6_met_28 ?_
      refine J_iconst hK dX6_met_29 ci_1 ?_
      refine J_iadd hK dX6_met_30 ?_
      refine J_iald hK dX6_met_31 hp0 (fun _ => ?_)
      refine J_if_le (tgt := 57) hK dX6_met_32 (by decide) ?_ ?_
      · refine J_iload hK dX6_met_35 0 rfl ?_
        refine J_aload_n hK dX6_met_37 3 rfl ?_
        refine J_iconst hK dX6_met_38 ci_1 ?_
        refine J_iald hK dX6_met_39 hp0 (fun _ => ?_)
        refine J_icmp_ge (tgt := 57) hK dX6_met_40 (by decide) ?_ ?_
        · refine J_iload hK dX6_met_43 0 rfl ?_
          refine J_aload_n hK dX6_met_45 3 rfl ?_
          refine J_iconst hK dX6_met_46 ci_1 ?_
          refine J_iald hK dX6_met_47 hp0 (fun _ => ?_)
          refine J_iload_n hK dX6_met_48 4 rfl ?_
          refine J_isub hK dX6_met_49 ?_
          refine J_icmp_lt (tgt := 57) hK dX6_met_50 (by decide) ?_ ?_
          · refine J_iconst hK dX6_met_57 ci_0 ?_
            refine J_istore (lw := [(4, .int z201), (3, .int x3), (2, .int x2), (0, .ref (X.1 + p0)), (1, .int p1)]) hK dX6_met_58 (by decide) rfl ?_
            refine J_iload hK dX6_met_60 0 rfl ?_
            refine J_if_eq (tgt := 88) hK dX6_met_62 (by decide) ?_ ?_
            · refine J_iload_n hK dX6_met_88 3 rfl ?_
              refine J_istore_n (n := 2) (lw := [(5, .int (0 : Int32)), (4, .int z201), (3, .int x3), (0, .ref (X.1 + p0)), (1, .int p1)]) hK dX6_met_89 rfl (by decide) rfl ?_
              refine J_iinc (lw := [(2, .int x2), (5, .int (0 : Int32)), (4, .int z201), (0, .ref (X.1 + p0)), (1, .int p1)]) hK dX6_met_90 3 rfl (by decide) ci_1 rfl (fun z202 => ?_)
              refine J_goto (len := 0) (tgt := 5) hK dX6_met_93 (by decide) ?_
              exact J_sub [0, 1, 4, 5] rfl (ih _ _ _)
            · exact J_none
          · refine J_iconst hK dX6_met_53 ci_1 ?_
            refine J_goto (len := 0) (tgt := 58) hK dX6_met_54 (by decide) ?_
            refine J_istore (lw := [(4, .int z201), (3, .int x3), (2, .int x2), (0, .ref (X.1 + p0)), (1, .int p1)]) hK dX6_met_58 (by decide) rfl ?_
            refine J_iload hK dX6_met_60 0 rfl ?_
            refine J_if_eq (tgt := 88) hK dX6_met_62 (by decide) ?_ ?_
            · exact J_none
            · refine J_iload_n hK dX6_met_65 3 rfl ?_
              refine J_ldc hK dX6_met_66 kK_X6_47 ?_
              refine J_icmp_eq (tgt := 84) hK dX6_met_68 (by decide) ?_ ?_
              · refine J_iload_n hK dX6_met_84 2 rfl ?_
                refine J_goto (len := 0) (tgt := 89) hK dX6_met_85 (by decide) ?_
                refine J_istore_n (n := 2) (lw := [(5, .int (1 : Int32)), (4, .int z201), (3, .int x3), (0, .ref (X.1 + p0)), (1, .int p1)]) hK dX6_met_89 rfl (by decide) rfl ?_
                refine J_iinc (lw := [(2, .int x3), (5, .int (1 : Int32)), (4, .int z201), (0, .ref (X.1 + p0)), (1, .int p1)]) hK dX6_met_90 3 rfl (by decide) ci_1 rfl (fun z203 => ?_)
                refine J_goto (len := 0) (tgt := 5) hK dX6_met_93 (by decide) ?_
                exact J_sub [0, 1, 4, 5] rfl (ih _ _ _)
              · refine J_iload hK dX6_met_71 1 rfl ?_
                refine J_aload_n hK dX6_met_73 4 rfl ?_
                refine J_bipush hK dX6_met_74 cb_35 ?_
                refine J_iconst hK dX6_met_76 ci_2 ?_
                refine J_iload_n hK dX6_met_77 3 rfl ?_
                refine J_imul hK dX6_met_78 ?_
                refine J_iadd hK dX6_met_79 ?_
                refine J_iald hK dX6_met_80 hp0 (fun _ => ?_)
                refine J_icmp_le (tgt := 88) hK dX6_met_81 (by decide) ?_ ?_
                · refine J_iload_n hK dX6_met_84 2 rfl ?_
                  refine J_goto (len := 0) (tgt := 89) hK dX6_met_85 (by decide) ?_
                  refine J_istore_n (n := 2) (lw := [(5, .int (1 : Int32)), (4, .int z201), (3, .int x3), (0, .ref (X.1 + p0)), (1, .int p1)]) hK dX6_met_89 rfl (by decide) rfl ?_
                  refine J_iinc (lw := [(2, .int x3), (5, .int (1 : Int32)), (4, .int z201), (0, .ref (X.1 + p0)), (1, .int p1)]) hK dX6_met_90 3 rfl (by decide) ci_1 rfl (fun z204 => ?_)
                  refine J_goto (len := 0) (tgt := 5) hK dX6_met_93 (by decide) ?_
                  exact J_sub [0, 1, 4, 5] rfl (ih _ _ _)
                · refine J_iload_n hK dX6_met_88 3 rfl ?_
                  refine J_istore_n (n := 2) (lw := [(5, .int (1 : Int32)), (4, .int z201), (3, .int x3), (0, .ref (X.1 + p0)), (1, .int p1)]) hK dX6_met_89 rfl (by decide) rfl ?_
                  refine J_iinc (lw := [(2, .int x2), (5, .int (1 : Int32)), (4, .int z201), (0, .ref (X.1 + p0)), (1, .int p1)]) hK dX6_met_90 3 rfl (by decide) ci_1 rfl (fun z205 => ?_)
                  refine J_goto (len := 0) (tgt := 5) hK dX6_met_93 (by decide) ?_
                  exact J_sub [0, 1, 4, 5] rfl (ih _ _ _)
        · refine J_iconst hK dX6_met_57 ci_0 ?_
          refine J_istore (lw := [(4, .int z201), (3, .int x3), (2, .int x2), (0, .ref (X.1 + p0)), (1, .int p1)]) hK dX6_met_58 (by decide) rfl ?_
          refine J_iload hK dX6_met_60 0 rfl ?_
          refine J_if_eq (tgt := 88) hK dX6_met_62 (by decide) ?_ ?_
          · refine J_iload_n hK dX6_met_88 3 rfl ?_
            refine J_istore_n (n := 2) (lw := [(5, .int (0 : Int32)), (4, .int z201), (3, .int x3), (0, .ref (X.1 + p0)), (1, .int p1)]) hK dX6_met_89 rfl (by decide) rfl ?_
            refine J_iinc (lw := [(2, .int x2), (5, .int (0 : Int32)), (4, .int z201), (0, .ref (X.1 + p0)), (1, .int p1)]) hK dX6_met_90 3 rfl (by decide) ci_1 rfl (fun z206 => ?_)
            refine J_goto (len := 0) (tgt := 5) hK dX6_met_93 (by decide) ?_
            exact J_sub [0, 1, 4, 5] rfl (ih _ _ _)
          · exact J_none
      · refine J_iconst hK dX6_met_57 ci_0 ?_
        refine J_istore (lw := [(4, .int z201), (3, .int x3), (2, .int x2), (0, .ref (X.1 + p0)), (1, .int p1)]) hK dX6_met_58 (by decide) rfl ?_
        refine J_iload hK dX6_met_60 0 rfl ?_
        refine J_if_eq (tgt := 88) hK dX6_met_62 (by decide) ?_ ?_
        · refine J_iload_n hK dX6_met_88 3 rfl ?_
          refine J_istore_n (n := 2) (lw := [(5, .int (0 : Int32)), (4, .int z201), (3, .int x3), (0, .ref (X.1 + p0)), (1, .int p1)]) hK dX6_met_89 rfl (by decide) rfl ?_
          refine J_iinc (lw := [(2, .int x2), (5, .int (0 : Int32)), (4, .int z201), (0, .ref (X.1 + p0)), (1, .int p1)]) hK dX6_met_90 3 rfl (by decide) ci_1 rfl (fun z207 => ?_)
          refine J_goto (len := 0) (tgt := 5) hK dX6_met_93 (by decide) ?_
          exact J_sub [0, 1, 4, 5] rfl (ih _ _ _)
        · exact J_none
    · exact J_sub [0, 1, 2, 3] rfl (hk _ _ _)
set_option maxHeartbeats 4000000 in
set_option maxRecDepth 4000 in
theorem uX6_met {l : Launch} {X : WX} {a0 : Nat} {a1 : Int32} {h h' : AH} {v : Int32} (ka0 : kd a0 = 7) (hf : fX6_met a0 a1 h = some (v, h')) : Does l X 1 yX6_met cX6_met 6 (some .int) [.ref (X.1 + a0), .int a1] h (eI v) h' := by
  refine Does.of (enc := eI) (o := fX6_met a0 a1 h) (lv := [(0, .ref (X.1 + a0)), (1, .int a1)]) (by decide) (Nat.le_of_ble_eq_true rfl) rfl hf (fun K hl hK => ?_)
  subst hl
  unfold fX6_met
  refine J_ldc hK dX6_met_0 kK_X6_47 ?_
  refine J_istore_n (n := 2) (lw := [(0, .ref (X.1 + a0)), (1, .int a1)]) hK dX6_met_2 rfl (by decide) rfl ?_
  refine J_iconst hK dX6_met_3 ci_0 ?_
  refine J_istore_n (n := 3) (lw := [(2, .int (-1000000 : Int32)), (0, .ref (X.1 + a0)), (1, .int a1)]) hK dX6_met_4 rfl (by decide) rfl ?_
  refine J_sub [0, 1, 2, 3] rfl (gX6_met_L5 hK ka0 (fun z1 z2 h3 => ?_) FU _ _ _)
  refine J_iload_n hK dX6_met_96 1 rfl ?_
  exact J_iret hK dX6_met_97
-- X6_ones
theorem dX6_ones_0 : DD cX6_ones 0 (.iconst 0) 1 1 := by decide +kernel
theorem dX6_ones_1 : DD cX6_ones 1 (.istore_n 1) 1 2 := by decide +kernel
theorem dX6_ones_2 : DD cX6_ones 2 (.iconst 0) 1 3 := by decide +kernel
theorem dX6_ones_3 : DD cX6_ones 3 (.istore_n 2) 1 4 := by decide +kernel
theorem dX6_ones_4 : DD cX6_ones 4 (.iload_n 2) 1 5 := by decide +kernel
theorem dX6_ones_5 : DD cX6_ones 5 (.bipush 6) 2 7 := by decide +kernel
theorem dX6_ones_7 : DD cX6_ones 7 (.if_icmp .ge 17) 3 10 := by decide +kernel
theorem dX6_ones_10 : DD cX6_ones 10 (.iload_n 1) 1 11 := by decide +kernel
theorem dX6_ones_11 : DD cX6_ones 11 (.iload_n 0) 1 12 := by decide +kernel
theorem dX6_ones_12 : DD cX6_ones 12 (.iload_n 2) 1 13 := by decide +kernel
theorem dX6_ones_13 : DD cX6_ones 13 (.ishr) 1 14 := by decide +kernel
theorem dX6_ones_14 : DD cX6_ones 14 (.iconst 1) 1 15 := by decide +kernel
theorem dX6_ones_15 : DD cX6_ones 15 (.iand) 1 16 := by decide +kernel
theorem dX6_ones_16 : DD cX6_ones 16 (.iadd) 1 17 := by decide +kernel
theorem dX6_ones_17 : DD cX6_ones 17 (.istore_n 1) 1 18 := by decide +kernel
theorem dX6_ones_18 : DD cX6_ones 18 (.iinc 2 1) 3 21 := by decide +kernel
theorem dX6_ones_21 : DD cX6_ones 21 (.goto (-17)) 3 24 := by decide +kernel
theorem dX6_ones_24 : DD cX6_ones 24 (.iload_n 1) 1 25 := by decide +kernel
theorem dX6_ones_25 : DD cX6_ones 25 (.ireturn) 1 26 := by decide +kernel
def fX6_ones_L4 (p0 : Int32) : Nat → Int32 → Int32 → AH → (Int32 → Int32 → AH → Option (Int32 × AH)) → Option (Int32 × AH)
  | 0, _, _, _, _ => none
  | n + 1, x2, x1, h, k => (if x2 < (6 : Int32) then (vl (x1 + ((p0 >>> (x2 &&& 31)) &&& (1 : Int32))) fun z201 => (vl (x2 + (1 : Int32)) fun z202 => fX6_ones_L4 p0 n z202 z201 h k)) else k x2 x1 h)
def fX6_ones (a0 : Int32) (h : AH) : Option (Int32 × AH) := (fX6_ones_L4 a0 FU (0 : Int32) (0 : Int32) h fun z1 z2 h3 => (some (z2, h3)))
set_option maxHeartbeats 4000000 in
theorem gX6_ones_L4 {K : MC} {X : WX} {p0 : Int32} (hK : Ok K X RX6 cX6_ones 3 (some .int) 1) {k : Int32 → Int32 → AH → Option (Int32 × AH)} (hk : ∀ (x2 : Int32) (x1 : Int32) (h : AH), J K X 3 (Zm K X) eI 24 [(2, .int x2), (1, .int x1), (0, .int p0)] [] h (k x2 x1 h)) : ∀ (n : Nat) (x2 : Int32) (x1 : Int32) (h : AH), J K X 3 (Zm K X) eI 4 [(2, .int x2), (1, .int x1), (0, .int p0)] [] h (fX6_ones_L4 p0 n x2 x1 h k) := by
  intro n
  induction n with
  | zero => exact fun _ _ _ => J_none
  | succ n ih =>
    intro x2 x1 h
    rw [fX6_ones_L4]
    refine J_iload_n hK dX6_ones_4 0 rfl ?_
    refine J_bipush hK dX6_ones_5 cb_6 ?_
    refine J_icmp_ge (tgt := 24) hK dX6_ones_7 (by decide) ?_ ?_
    · refine J_iload_n hK dX6_ones_10 1 rfl ?_
      refine J_iload_n hK dX6_ones_11 2 rfl ?_
      refine J_iload_n hK dX6_ones_12 0 rfl ?_
      refine J_ishr hK dX6_ones_13 ?_
      refine J_iconst hK dX6_ones_14 ci_1 ?_
      refine J_iand hK dX6_ones_15 ?_
      refine J_iadd hK dX6_ones_16 ?_
      refine J_istoreV_n (n := 1) (lw := [(2, .int x2), (0, .int p0)]) hK dX6_ones_17 rfl (by decide) rfl (fun z201 => ?_)
      refine J_iinc (lw := [(1, .int z201), (0, .int p0)]) hK dX6_ones_18 1 rfl (by decide) ci_1 rfl (fun z202 => ?_)
      refine J_goto (len := 0) (tgt := 4) hK dX6_ones_21 (by decide) ?_
      exact J_sub [0, 1, 2] rfl (ih _ _ _)
    · exact J_sub [0, 1, 2] rfl (hk _ _ _)
set_option maxHeartbeats 4000000 in
set_option maxRecDepth 4000 in
theorem uX6_ones {l : Launch} {X : WX} {a0 : Int32} {h h' : AH} {v : Int32} (hf : fX6_ones a0 h = some (v, h')) : Does l X 1 yX6_ones cX6_ones 3 (some .int) [.int a0] h (eI v) h' := by
  refine Does.of (enc := eI) (o := fX6_ones a0 h) (lv := [(0, .int a0)]) (by decide) (Nat.le_of_ble_eq_true rfl) rfl hf (fun K hl hK => ?_)
  subst hl
  unfold fX6_ones
  refine J_iconst hK dX6_ones_0 ci_0 ?_
  refine J_istore_n (n := 1) (lw := [(0, .int a0)]) hK dX6_ones_1 rfl (by decide) rfl ?_
  refine J_iconst hK dX6_ones_2 ci_0 ?_
  refine J_istore_n (n := 2) (lw := [(1, .int (0 : Int32)), (0, .int a0)]) hK dX6_ones_3 rfl (by decide) rfl ?_
  refine J_sub [0, 1, 2] rfl (gX6_ones_L4 hK  (fun z1 z2 h3 => ?_) FU _ _ _)
  refine J_iload_n hK dX6_ones_24 1 rfl ?_
  exact J_iret hK dX6_ones_25
-- X6_speed
theorem dX6_speed_0 : DD cX6_speed 0 (.iconst 4) 1 1 := by decide +kernel
theorem dX6_speed_1 : DD cX6_speed 1 (.iload_n 1) 1 2 := by decide +kernel
theorem dX6_speed_2 : DD cX6_speed 2 (.imul) 1 3 := by decide +kernel
theorem dX6_speed_3 : DD cX6_speed 3 (.aload_n 0) 1 4 := by decide +kernel
theorem dX6_speed_4 : DD cX6_speed 4 (.iconst 0) 1 5 := by decide +kernel
theorem dX6_speed_5 : DD cX6_speed 5 (.iaload) 1 6 := by decide +kernel
theorem dX6_speed_6 : DD cX6_speed 6 (.idiv) 1 7 := by decide +kernel
theorem dX6_speed_7 : DD cX6_speed 7 (.istore_n 2) 1 8 := by decide +kernel
theorem dX6_speed_8 : DD cX6_speed 8 (.aload_n 0) 1 9 := by decide +kernel
theorem dX6_speed_9 : DD cX6_speed 9 (.iconst 1) 1 10 := by decide +kernel
theorem dX6_speed_10 : DD cX6_speed 10 (.iaload) 1 11 := by decide +kernel
theorem dX6_speed_11 : DD cX6_speed 11 (.ifCond .ne 7) 3 14 := by decide +kernel
theorem dX6_speed_14 : DD cX6_speed 14 (.iconst 0) 1 15 := by decide +kernel
theorem dX6_speed_15 : DD cX6_speed 15 (.goto 15) 3 18 := by decide +kernel
theorem dX6_speed_18 : DD cX6_speed 18 (.iload_n 2) 1 19 := by decide +kernel
theorem dX6_speed_19 : DD cX6_speed 19 (.bipush 9) 2 21 := by decide +kernel
theorem dX6_speed_21 : DD cX6_speed 21 (.if_icmp .le 8) 3 24 := by decide +kernel
theorem dX6_speed_24 : DD cX6_speed 24 (.bipush 9) 2 26 := by decide +kernel
theorem dX6_speed_26 : DD cX6_speed 26 (.goto 4) 3 29 := by decide +kernel
theorem dX6_speed_29 : DD cX6_speed 29 (.iload_n 2) 1 30 := by decide +kernel
theorem dX6_speed_30 : DD cX6_speed 30 (.ireturn) 1 31 := by decide +kernel
def fX6_speed (a0 : Nat) (a1 : Int32) (h : AH) : Option (Int32 × AH) := (chk (inb (0 : Int32) (ln a0)) (chk (¬ (h a0 (Int32.toNatClampNeg (0 : Int32))) = 0) (vl (((4 : Int32) * a1) / (h a0 (Int32.toNatClampNeg (0 : Int32)))) fun z1 => (chk (inb (1 : Int32) (ln a0)) (if (h a0 (Int32.toNatClampNeg (1 : Int32))) = 0 then (some ((0 : Int32), h)) else (if (9 : Int32) < z1 then (some ((9 : Int32), h)) else (some (z1, h))))))))
set_option maxHeartbeats 4000000 in
set_option maxRecDepth 4000 in
theorem uX6_speed {l : Launch} {X : WX} {a0 : Nat} {a1 : Int32} {h h' : AH} {v : Int32} (ka0 : kd a0 = 7) (hf : fX6_speed a0 a1 h = some (v, h')) : Does l X 1 yX6_speed cX6_speed 3 (some .int) [.ref (X.1 + a0), .int a1] h (eI v) h' := by
  refine Does.of (enc := eI) (o := fX6_speed a0 a1 h) (lv := [(0, .ref (X.1 + a0)), (1, .int a1)]) (by decide) (Nat.le_of_ble_eq_true rfl) rfl hf (fun K hl hK => ?_)
  subst hl
  unfold fX6_speed
  refine J_iconst hK dX6_speed_0 ci_4 ?_
  refine J_iload_n hK dX6_speed_1 1 rfl ?_
  refine J_imul hK dX6_speed_2 ?_
  refine J_aload_n hK dX6_speed_3 0 rfl ?_
  refine J_iconst hK dX6_speed_4 ci_0 ?_
  refine J_iald hK dX6_speed_5 ka0 (fun _ => ?_)
  refine J_idiv hK dX6_speed_6 ?_
  refine J_istoreV_n (n := 2) (lw := [(0, .ref (X.1 + a0)), (1, .int a1)]) hK dX6_speed_7 rfl (by decide) rfl (fun z1 => ?_)
  refine J_aload_n hK dX6_speed_8 1 rfl ?_
  refine J_iconst hK dX6_speed_9 ci_1 ?_
  refine J_iald hK dX6_speed_10 ka0 (fun _ => ?_)
  refine J_if_ne (tgt := 18) hK dX6_speed_11 (by decide) ?_ ?_
  · refine J_iconst hK dX6_speed_14 ci_0 ?_
    refine J_goto (len := 0) (tgt := 30) hK dX6_speed_15 (by decide) ?_
    exact J_iret hK dX6_speed_30
  · refine J_iload_n hK dX6_speed_18 0 rfl ?_
    refine J_bipush hK dX6_speed_19 cb_9 ?_
    refine J_icmp_le (tgt := 29) hK dX6_speed_21 (by decide) ?_ ?_
    · refine J_bipush hK dX6_speed_24 cb_9 ?_
      refine J_goto (len := 0) (tgt := 30) hK dX6_speed_26 (by decide) ?_
      exact J_iret hK dX6_speed_30
    · refine J_iload_n hK dX6_speed_29 0 rfl ?_
      exact J_iret hK dX6_speed_30
-- X6_standing
theorem dX6_standing_0 : DD cX6_standing 0 (.iconst 0) 1 1 := by decide +kernel
theorem dX6_standing_1 : DD cX6_standing 1 (.istore_n 1) 1 2 := by decide +kernel
theorem dX6_standing_2 : DD cX6_standing 2 (.iconst 0) 1 3 := by decide +kernel
theorem dX6_standing_3 : DD cX6_standing 3 (.istore_n 2) 1 4 := by decide +kernel
theorem dX6_standing_4 : DD cX6_standing 4 (.iload_n 2) 1 5 := by decide +kernel
theorem dX6_standing_5 : DD cX6_standing 5 (.aload_n 0) 1 6 := by decide +kernel
theorem dX6_standing_6 : DD cX6_standing 6 (.iconst 3) 1 7 := by decide +kernel
theorem dX6_standing_7 : DD cX6_standing 7 (.iaload) 1 8 := by decide +kernel
theorem dX6_standing_8 : DD cX6_standing 8 (.if_icmp .ge 32) 3 11 := by decide +kernel
theorem dX6_standing_11 : DD cX6_standing 11 (.iload_n 1) 1 12 := by decide +kernel
theorem dX6_standing_12 : DD cX6_standing 12 (.aload_n 0) 1 13 := by decide +kernel
theorem dX6_standing_13 : DD cX6_standing 13 (.bipush 35) 2 15 := by decide +kernel
theorem dX6_standing_15 : DD cX6_standing 15 (.iconst 2) 1 16 := by decide +kernel
theorem dX6_standing_16 : DD cX6_standing 16 (.iload_n 2) 1 17 := by decide +kernel
theorem dX6_standing_17 : DD cX6_standing 17 (.imul) 1 18 := by decide +kernel
theorem dX6_standing_18 : DD cX6_standing 18 (.iadd) 1 19 := by decide +kernel
theorem dX6_standing_19 : DD cX6_standing 19 (.iconst 1) 1 20 := by decide +kernel
theorem dX6_standing_20 : DD cX6_standing 20 (.iadd) 1 21 := by decide +kernel
theorem dX6_standing_21 : DD cX6_standing 21 (.iaload) 1 22 := by decide +kernel
theorem dX6_standing_22 : DD cX6_standing 22 (.ifCond .le 9) 3 25 := by decide +kernel
theorem dX6_standing_25 : DD cX6_standing 25 (.iconst 1) 1 26 := by decide +kernel
theorem dX6_standing_26 : DD cX6_standing 26 (.iload_n 2) 1 27 := by decide +kernel
theorem dX6_standing_27 : DD cX6_standing 27 (.ishl) 1 28 := by decide +kernel
theorem dX6_standing_28 : DD cX6_standing 28 (.goto 4) 3 31 := by decide +kernel
theorem dX6_standing_31 : DD cX6_standing 31 (.iconst 0) 1 32 := by decide +kernel
theorem dX6_standing_32 : DD cX6_standing 32 (.ior) 1 33 := by decide +kernel
theorem dX6_standing_33 : DD cX6_standing 33 (.istore_n 1) 1 34 := by decide +kernel
theorem dX6_standing_34 : DD cX6_standing 34 (.iinc 2 1) 3 37 := by decide +kernel
theorem dX6_standing_37 : DD cX6_standing 37 (.goto (-33)) 3 40 := by decide +kernel
theorem dX6_standing_40 : DD cX6_standing 40 (.iload_n 1) 1 41 := by decide +kernel
theorem dX6_standing_41 : DD cX6_standing 41 (.ireturn) 1 42 := by decide +kernel
def fX6_standing_L4 (p0 : Nat) : Nat → Int32 → Int32 → AH → (Int32 → Int32 → AH → Option (Int32 × AH)) → Option (Int32 × AH)
  | 0, _, _, _, _ => none
  | n + 1, x2, x1, h, k => (chk (inb (3 : Int32) (ln p0)) (if x2 < (h p0 (Int32.toNatClampNeg (3 : Int32))) then (chk (inb (((35 : Int32) + ((2 : Int32) * x2)) + (1 : Int32)) (ln p0)) (if 0 < (h p0 (Int32.toNatClampNeg (((35 : Int32) + ((2 : Int32) * x2)) + (1 : Int32)))) then (vl (x1 ||| ((1 : Int32) <<< (x2 &&& 31))) fun z201 => (vl (x2 + (1 : Int32)) fun z202 => fX6_standing_L4 p0 n z202 z201 h k)) else (vl (x1 ||| (0 : Int32)) fun z203 => (vl (x2 + (1 : Int32)) fun z204 => fX6_standing_L4 p0 n z204 z203 h k)))) else k x2 x1 h))
def fX6_standing (a0 : Nat) (h : AH) : Option (Int32 × AH) := (fX6_standing_L4 a0 FU (0 : Int32) (0 : Int32) h fun z1 z2 h3 => (some (z2, h3)))
set_option maxHeartbeats 4000000 in
theorem gX6_standing_L4 {K : MC} {X : WX} {p0 : Nat} (hK : Ok K X RX6 cX6_standing 3 (some .int) 1) (hp0 : kd p0 = 7) {k : Int32 → Int32 → AH → Option (Int32 × AH)} (hk : ∀ (x2 : Int32) (x1 : Int32) (h : AH), J K X 3 (Zm K X) eI 40 [(2, .int x2), (1, .int x1), (0, .ref (X.1 + p0))] [] h (k x2 x1 h)) : ∀ (n : Nat) (x2 : Int32) (x1 : Int32) (h : AH), J K X 3 (Zm K X) eI 4 [(2, .int x2), (1, .int x1), (0, .ref (X.1 + p0))] [] h (fX6_standing_L4 p0 n x2 x1 h k) := by
  intro n
  induction n with
  | zero => exact fun _ _ _ => J_none
  | succ n ih =>
    intro x2 x1 h
    rw [fX6_standing_L4]
    refine J_iload_n hK dX6_standing_4 0 rfl ?_
    refine J_aload_n hK dX6_standing_5 2 rfl ?_
    refine J_iconst hK dX6_standing_6 ci_3 ?_
    refine J_iald hK dX6_standing_7 hp0 (fun _ => ?_)
    refine J_icmp_ge (tgt := 40) hK dX6_standing_8 (by decide) ?_ ?_
    · refine J_iload_n hK dX6_standing_11 1 rfl ?_
      refine J_aload_n hK dX6_standing_12 2 rfl ?_
      refine J_bipush hK dX6_standing_13 cb_35 ?_
      refine J_iconst hK dX6_standing_15 ci_2 ?_
      refine J_iload_n hK dX6_standing_16 0 rfl ?_
      refine J_imul hK dX6_standing_17 ?_
      refine J_iadd hK dX6_standing_18 ?_
      refine J_iconst hK dX6_standing_19 ci_1 ?_
      refine J_iadd hK dX6_standing_20 ?_
      refine J_iald hK dX6_standing_21 hp0 (fun _ => ?_)
      refine J_if_le (tgt := 31) hK dX6_standing_22 (by decide) ?_ ?_
      · refine J_iconst hK dX6_standing_25 ci_1 ?_
        refine J_iload_n hK dX6_standing_26 0 rfl ?_
        refine J_ishl hK dX6_standing_27 ?_
        refine J_goto (len := 0) (tgt := 32) hK dX6_standing_28 (by decide) ?_
        refine J_ior hK dX6_standing_32 ?_
        refine J_istoreV_n (n := 1) (lw := [(2, .int x2), (0, .ref (X.1 + p0))]) hK dX6_standing_33 rfl (by decide) rfl (fun z201 => ?_)
        refine J_iinc (lw := [(1, .int z201), (0, .ref (X.1 + p0))]) hK dX6_standing_34 1 rfl (by decide) ci_1 rfl (fun z202 => ?_)
        refine J_goto (len := 0) (tgt := 4) hK dX6_standing_37 (by decide) ?_
        exact J_sub [0, 1, 2] rfl (ih _ _ _)
      · refine J_iconst hK dX6_standing_31 ci_0 ?_
        refine J_ior hK dX6_standing_32 ?_
        refine J_istoreV_n (n := 1) (lw := [(2, .int x2), (0, .ref (X.1 + p0))]) hK dX6_standing_33 rfl (by decide) rfl (fun z203 => ?_)
        refine J_iinc (lw := [(1, .int z203), (0, .ref (X.1 + p0))]) hK dX6_standing_34 1 rfl (by decide) ci_1 rfl (fun z204 => ?_)
        refine J_goto (len := 0) (tgt := 4) hK dX6_standing_37 (by decide) ?_
        exact J_sub [0, 1, 2] rfl (ih _ _ _)
    · exact J_sub [0, 1, 2] rfl (hk _ _ _)
set_option maxHeartbeats 4000000 in
set_option maxRecDepth 4000 in
theorem uX6_standing {l : Launch} {X : WX} {a0 : Nat} {h h' : AH} {v : Int32} (ka0 : kd a0 = 7) (hf : fX6_standing a0 h = some (v, h')) : Does l X 1 yX6_standing cX6_standing 3 (some .int) [.ref (X.1 + a0)] h (eI v) h' := by
  refine Does.of (enc := eI) (o := fX6_standing a0 h) (lv := [(0, .ref (X.1 + a0))]) (by decide) (Nat.le_of_ble_eq_true rfl) rfl hf (fun K hl hK => ?_)
  subst hl
  unfold fX6_standing
  refine J_iconst hK dX6_standing_0 ci_0 ?_
  refine J_istore_n (n := 1) (lw := [(0, .ref (X.1 + a0))]) hK dX6_standing_1 rfl (by decide) rfl ?_
  refine J_iconst hK dX6_standing_2 ci_0 ?_
  refine J_istore_n (n := 2) (lw := [(1, .int (0 : Int32)), (0, .ref (X.1 + a0))]) hK dX6_standing_3 rfl (by decide) rfl ?_
  refine J_sub [0, 1, 2] rfl (gX6_standing_L4 hK ka0 (fun z1 z2 h3 => ?_) FU _ _ _)
  refine J_iload_n hK dX6_standing_40 1 rfl ?_
  exact J_iret hK dX6_standing_41
-- X6_status
theorem dX6_status_0 : DD cX6_status 0 (.aload_n 0) 1 1 := by decide +kernel
theorem dX6_status_1 : DD cX6_status 1 (.getfield 48) 3 4 := by decide +kernel
theorem dX6_status_4 : DD cX6_status 4 (.ireturn) 1 5 := by decide +kernel
def fX6_status (h : AH) : Option (Int32 × AH) := (some ((h 278 4), h))
set_option maxHeartbeats 4000000 in
set_option maxRecDepth 4000 in
theorem uX6_status {l : Launch} {X : WX} {h h' : AH} {v : Int32} (hf : fX6_status  h = some (v, h')) : Does l X 1 yX6_status cX6_status 1 (some .int) [.ref (X.1 + 278)] h (eI v) h' := by
  refine Does.of (enc := eI) (o := fX6_status  h) (lv := [(0, .ref (X.1 + 278))]) (by decide) (Nat.le_of_ble_eq_true rfl) rfl hf (fun K hl hK => ?_)
  subst hl
  unfold fX6_status
  refine J_aload_n hK dX6_status_0 0 rfl ?_
  refine gF_X6_48 hK dX6_status_1 kd_278 ?_
  exact J_iret hK dX6_status_4
-- X6_well
theorem dX6_well_0 : DD cX6_well 0 (.aload_n 0) 1 1 := by decide +kernel
theorem dX6_well_1 : DD cX6_well 1 (.iconst 0) 1 2 := by decide +kernel
theorem dX6_well_2 : DD cX6_well 2 (.putfield 48) 3 5 := by decide +kernel
theorem dX6_well_5 : DD cX6_well 5 (.iload_n 1) 1 6 := by decide +kernel
theorem dX6_well_6 : DD cX6_well 6 (.ireturn) 1 7 := by decide +kernel
def fX6_well (a1 : Int32) (h : AH) : Option (Int32 × AH) := (sto (hs h 278 4 (0 : Int32)) fun h1 => (some (a1, h1)))
set_option maxHeartbeats 4000000 in
set_option maxRecDepth 4000 in
theorem uX6_well {l : Launch} {X : WX} {a1 : Int32} {h h' : AH} {v : Int32} (hf : fX6_well a1 h = some (v, h')) : Does l X 1 yX6_well cX6_well 2 (some .int) [.ref (X.1 + 278), .int a1] h (eI v) h' := by
  refine Does.of (enc := eI) (o := fX6_well a1 h) (lv := [(0, .ref (X.1 + 278)), (1, .int a1)]) (by decide) (Nat.le_of_ble_eq_true rfl) rfl hf (fun K hl hK => ?_)
  subst hl
  unfold fX6_well
  refine J_aload_n hK dX6_well_0 0 rfl ?_
  refine J_iconst hK dX6_well_1 ci_0 ?_
  refine pF_X6_48 hK dX6_well_2 kd_278 (fun h1 => ?_)
  refine J_iload_n hK dX6_well_5 1 rfl ?_
  exact J_iret hK dX6_well_6
-- X6_advances
theorem dX6_advances_0 : DD cX6_advances 0 (.aload_n 0) 1 1 := by decide +kernel
theorem dX6_advances_1 : DD cX6_advances 1 (.aload_n 0) 1 2 := by decide +kernel
theorem dX6_advances_2 : DD cX6_advances 2 (.getfield 83) 3 5 := by decide +kernel
theorem dX6_advances_5 : DD cX6_advances 5 (.putfield 86) 3 8 := by decide +kernel
theorem dX6_advances_8 : DD cX6_advances 8 (.aload_n 0) 1 9 := by decide +kernel
theorem dX6_advances_9 : DD cX6_advances 9 (.aload_n 0) 1 10 := by decide +kernel
theorem dX6_advances_10 : DD cX6_advances 10 (.getfield 83) 3 13 := by decide +kernel
theorem dX6_advances_13 : DD cX6_advances 13 (.invokevirtual 89) 3 16 := by decide +kernel
theorem dX6_advances_16 : DD cX6_advances 16 (.istore_n 1) 1 17 := by decide +kernel
theorem dX6_advances_17 : DD cX6_advances 17 (.aload_n 0) 1 18 := by decide +kernel
theorem dX6_advances_18 : DD cX6_advances 18 (.iload_n 1) 1 19 := by decide +kernel
theorem dX6_advances_19 : DD cX6_advances 19 (.putfield 92) 3 22 := by decide +kernel
theorem dX6_advances_22 : DD cX6_advances 22 (.iload_n 1) 1 23 := by decide +kernel
theorem dX6_advances_23 : DD cX6_advances 23 (.bipush 48) 2 25 := by decide +kernel
theorem dX6_advances_25 : DD cX6_advances 25 (.bipush 57) 2 27 := by decide +kernel
theorem dX6_advances_27 : DD cX6_advances 27 (.invokestatic 53) 3 30 := by decide +kernel
theorem dX6_advances_30 : DD cX6_advances 30 (.ifCond .eq 105) 3 33 := by decide +kernel
theorem dX6_advances_33 : DD cX6_advances 33 (.aload_n 0) 1 34 := by decide +kernel
theorem dX6_advances_34 : DD cX6_advances 34 (.iconst 0) 1 35 := by decide +kernel
theorem dX6_advances_35 : DD cX6_advances 35 (.putfield 92) 3 38 := by decide +kernel
theorem dX6_advances_38 : DD cX6_advances 38 (.aload_n 0) 1 39 := by decide +kernel
theorem dX6_advances_39 : DD cX6_advances 39 (.aload_n 0) 1 40 := by decide +kernel
theorem dX6_advances_40 : DD cX6_advances 40 (.getfield 83) 3 43 := by decide +kernel
theorem dX6_advances_43 : DD cX6_advances 43 (.invokevirtual 89) 3 46 := by decide +kernel
theorem dX6_advances_46 : DD cX6_advances 46 (.bipush 48) 2 48 := by decide +kernel
theorem dX6_advances_48 : DD cX6_advances 48 (.bipush 57) 2 50 := by decide +kernel
theorem dX6_advances_50 : DD cX6_advances 50 (.invokestatic 53) 3 53 := by decide +kernel
theorem dX6_advances_53 : DD cX6_advances 53 (.ifCond .eq 59) 3 56 := by decide +kernel
theorem dX6_advances_56 : DD cX6_advances 56 (.aload_n 0) 1 57 := by decide +kernel
theorem dX6_advances_57 : DD cX6_advances 57 (.aload_n 0) 1 58 := by decide +kernel
theorem dX6_advances_58 : DD cX6_advances 58 (.getfield 83) 3 61 := by decide +kernel
theorem dX6_advances_61 : DD cX6_advances 61 (.aload_n 0) 1 62 := by decide +kernel
theorem dX6_advances_62 : DD cX6_advances 62 (.getfield 86) 3 65 := by decide +kernel
theorem dX6_advances_65 : DD cX6_advances 65 (.isub) 1 66 := by decide +kernel
theorem dX6_advances_66 : DD cX6_advances 66 (.iconst 2) 1 67 := by decide +kernel
theorem dX6_advances_67 : DD cX6_advances 67 (.if_icmp .ge 25) 3 70 := by decide +kernel
theorem dX6_advances_70 : DD cX6_advances 70 (.bipush 10) 2 72 := by decide +kernel
theorem dX6_advances_72 : DD cX6_advances 72 (.aload_n 0) 1 73 := by decide +kernel
theorem dX6_advances_73 : DD cX6_advances 73 (.getfield 92) 3 76 := by decide +kernel
theorem dX6_advances_76 : DD cX6_advances 76 (.imul) 1 77 := by decide +kernel
theorem dX6_advances_77 : DD cX6_advances 77 (.aload_n 0) 1 78 := by decide +kernel
theorem dX6_advances_78 : DD cX6_advances 78 (.aload_n 0) 1 79 := by decide +kernel
theorem dX6_advances_79 : DD cX6_advances 79 (.getfield 83) 3 82 := by decide +kernel
theorem dX6_advances_82 : DD cX6_advances 82 (.invokevirtual 89) 3 85 := by decide +kernel
theorem dX6_advances_85 : DD cX6_advances 85 (.iadd) 1 86 := by decide +kernel
theorem dX6_advances_86 : DD cX6_advances 86 (.bipush 48) 2 88 := by decide +kernel
theorem dX6_advances_88 : DD cX6_advances 88 (.isub) 1 89 := by decide +kernel
theorem dX6_advances_89 : DD cX6_advances 89 (.goto 7) 3 92 := by decide +kernel
theorem dX6_advances_92 : DD cX6_advances 92 (.aload_n 0) 1 93 := by decide +kernel
theorem dX6_advances_93 : DD cX6_advances 93 (.getfield 92) 3 96 := by decide +kernel
theorem dX6_advances_96 : DD cX6_advances 96 (.putfield 92) 3 99 := by decide +kernel
theorem dX6_advances_99 : DD cX6_advances 99 (.aload_n 0) 1 100 := by decide +kernel
theorem dX6_advances_100 : DD cX6_advances 100 (.dup) 1 101 := by decide +kernel
theorem dX6_advances_101 : DD cX6_advances 101 (.getfield 83) 3 104 := by decide +kernel
theorem dX6_advances_104 : DD cX6_advances 104 (.iconst 1) 1 105 := by decide +kernel
theorem dX6_advances_105 : DD cX6_advances 105 (.iadd) 1 106 := by decide +kernel
theorem dX6_advances_106 : DD cX6_advances 106 (.putfield 83) 3 109 := by decide +kernel
theorem dX6_advances_109 : DD cX6_advances 109 (.goto (-71)) 3 112 := by decide +kernel
theorem dX6_advances_112 : DD cX6_advances 112 (.aload_n 0) 1 113 := by decide +kernel
theorem dX6_advances_113 : DD cX6_advances 113 (.aload_n 0) 1 114 := by decide +kernel
theorem dX6_advances_114 : DD cX6_advances 114 (.getfield 83) 3 117 := by decide +kernel
theorem dX6_advances_117 : DD cX6_advances 117 (.aload_n 0) 1 118 := by decide +kernel
theorem dX6_advances_118 : DD cX6_advances 118 (.getfield 86) 3 121 := by decide +kernel
theorem dX6_advances_121 : DD cX6_advances 121 (.isub) 1 122 := by decide +kernel
theorem dX6_advances_122 : DD cX6_advances 122 (.iconst 3) 1 123 := by decide +kernel
theorem dX6_advances_123 : DD cX6_advances 123 (.if_icmp .ge 7) 3 126 := by decide +kernel
theorem dX6_advances_126 : DD cX6_advances 126 (.iconst 2) 1 127 := by decide +kernel
theorem dX6_advances_127 : DD cX6_advances 127 (.goto 4) 3 130 := by decide +kernel
theorem dX6_advances_130 : DD cX6_advances 130 (.iconst 5) 1 131 := by decide +kernel
theorem dX6_advances_131 : DD cX6_advances 131 (.putfield 95) 3 134 := by decide +kernel
theorem dX6_advances_134 : DD cX6_advances 134 (.return_) 1 135 := by decide +kernel
theorem dX6_advances_135 : DD cX6_advances 135 (.aload_n 0) 1 136 := by decide +kernel
theorem dX6_advances_136 : DD cX6_advances 136 (.iload_n 1) 1 137 := by decide +kernel
theorem dX6_advances_137 : DD cX6_advances 137 (.ifCond .ge 7) 3 140 := by decide +kernel
theorem dX6_advances_140 : DD cX6_advances 140 (.iconst 0) 1 141 := by decide +kernel
theorem dX6_advances_141 : DD cX6_advances 141 (.goto 39) 3 144 := by decide +kernel
theorem dX6_advances_144 : DD cX6_advances 144 (.iload_n 1) 1 145 := by decide +kernel
theorem dX6_advances_145 : DD cX6_advances 145 (.bipush 97) 2 147 := by decide +kernel
theorem dX6_advances_147 : DD cX6_advances 147 (.bipush 122) 2 149 := by decide +kernel
theorem dX6_advances_149 : DD cX6_advances 149 (.invokestatic 53) 3 152 := by decide +kernel
theorem dX6_advances_152 : DD cX6_advances 152 (.ifCond .eq 7) 3 155 := by decide +kernel
theorem dX6_advances_155 : DD cX6_advances 155 (.iconst 1) 1 156 := by decide +kernel
theorem dX6_advances_156 : DD cX6_advances 156 (.goto 24) 3 159 := by decide +kernel
theorem dX6_advances_159 : DD cX6_advances 159 (.iload_n 1) 1 160 := by decide +kernel
theorem dX6_advances_160 : DD cX6_advances 160 (.bipush 44) 2 162 := by decide +kernel
theorem dX6_advances_162 : DD cX6_advances 162 (.if_icmp .ne 7) 3 165 := by decide +kernel
theorem dX6_advances_165 : DD cX6_advances 165 (.iconst 3) 1 166 := by decide +kernel
theorem dX6_advances_166 : DD cX6_advances 166 (.goto 14) 3 169 := by decide +kernel
theorem dX6_advances_169 : DD cX6_advances 169 (.iload_n 1) 1 170 := by decide +kernel
theorem dX6_advances_170 : DD cX6_advances 170 (.bipush 59) 2 172 := by decide +kernel
theorem dX6_advances_172 : DD cX6_advances 172 (.if_icmp .ne 7) 3 175 := by decide +kernel
theorem dX6_advances_175 : DD cX6_advances 175 (.iconst 4) 1 176 := by decide +kernel
theorem dX6_advances_176 : DD cX6_advances 176 (.goto 4) 3 179 := by decide +kernel
theorem dX6_advances_179 : DD cX6_advances 179 (.iconst 5) 1 180 := by decide +kernel
theorem dX6_advances_180 : DD cX6_advances 180 (.putfield 95) 3 183 := by decide +kernel
theorem dX6_advances_183 : DD cX6_advances 183 (.aload_n 0) 1 184 := by decide +kernel
theorem dX6_advances_184 : DD cX6_advances 184 (.dup) 1 185 := by decide +kernel
theorem dX6_advances_185 : DD cX6_advances 185 (.getfield 83) 3 188 := by decide +kernel
theorem dX6_advances_188 : DD cX6_advances 188 (.aload_n 0) 1 189 := by decide +kernel
theorem dX6_advances_189 : DD cX6_advances 189 (.getfield 95) 3 192 := by decide +kernel
theorem dX6_advances_192 : DD cX6_advances 192 (.ifCond .ne 7) 3 195 := by decide +kernel
theorem dX6_advances_195 : DD cX6_advances 195 (.iconst 0) 1 196 := by decide +kernel
theorem dX6_advances_196 : DD cX6_advances 196 (.goto 4) 3 199 := by decide +kernel
theorem dX6_advances_199 : DD cX6_advances 199 (.iconst 1) 1 200 := by decide +kernel
theorem dX6_advances_200 : DD cX6_advances 200 (.iadd) 1 201 := by decide +kernel
theorem dX6_advances_201 : DD cX6_advances 201 (.putfield 83) 3 204 := by decide +kernel
theorem dX6_advances_204 : DD cX6_advances 204 (.return_) 1 205 := by decide +kernel
def fX6_advances_L38 (p1 : Int32) : Nat → AH → (AH → Option (Unit × AH)) → Option (Unit × AH)
  | 0, _, _ => none
  | n + 1, h, k => (bnd (fX6_byteAt (h 278 9) h) fun v202 h201 => (bnd (fX6_in v202 (48 : Int32) (57 : Int32) h201) fun v204 h203 => (if v204 = 0 then k h203 else (if ((h203 278 9) - (h203 278 10)) < (2 : Int32) then (bnd (fX6_byteAt (h203 278 9) h203) fun v206 h205 => (sto (hs h205 278 12 ((((10 : Int32) * (h203 278 12)) + v206) - (48 : Int32))) fun h207 => (sto (hs h207 278 9 ((h207 278 9) + (1 : Int32))) fun h208 => fX6_advances_L38 p1 n h208 k))) else (sto (hs h203 278 12 (h203 278 12)) fun h209 => (sto (hs h209 278 9 ((h209 278 9) + (1 : Int32))) fun h210 => fX6_advances_L38 p1 n h210 k))))))
def fX6_advances (h : AH) : Option (Unit × AH) := (sto (hs h 278 10 (h 278 9)) fun h1 => (bnd (fX6_byteAt (h1 278 9) h1) fun v3 h2 => (sto (hs h2 278 12 v3) fun h4 => (bnd (fX6_in v3 (48 : Int32) (57 : Int32) h4) fun v6 h5 => (if v6 = 0 then (if v3 < 0 then (sto (hs h5 278 11 (0 : Int32)) fun h7 => (if (h7 278 11) = 0 then (sto (hs h7 278 9 ((h7 278 9) + (0 : Int32))) fun h8 => (some ((), h8))) else (sto (hs h7 278 9 ((h7 278 9) + (1 : Int32))) fun h9 => (some ((), h9))))) else (bnd (fX6_in v3 (97 : Int32) (122 : Int32) h5) fun v11 h10 => (if v11 = 0 then (if v3 = (44 : Int32) then (sto (hs h10 278 11 (3 : Int32)) fun h12 => (if (h12 278 11) = 0 then (sto (hs h12 278 9 ((h12 278 9) + (0 : Int32))) fun h13 => (some ((), h13))) else (sto (hs h12 278 9 ((h12 278 9) + (1 : Int32))) fun h14 => (some ((), h14))))) else (if v3 = (59 : Int32) then (sto (hs h10 278 11 (4 : Int32)) fun h15 => (if (h15 278 11) = 0 then (sto (hs h15 278 9 ((h15 278 9) + (0 : Int32))) fun h16 => (some ((), h16))) else (sto (hs h15 278 9 ((h15 278 9) + (1 : Int32))) fun h17 => (some ((), h17))))) else (sto (hs h10 278 11 (5 : Int32)) fun h18 => (if (h18 278 11) = 0 then (sto (hs h18 278 9 ((h18 278 9) + (0 : Int32))) fun h19 => (some ((), h19))) else (sto (hs h18 278 9 ((h18 278 9) + (1 : Int32))) fun h20 => (some ((), h20))))))) else (sto (hs h10 278 11 (1 : Int32)) fun h21 => (if (h21 278 11) = 0 then (sto (hs h21 278 9 ((h21 278 9) + (0 : Int32))) fun h22 => (some ((), h22))) else (sto (hs h21 278 9 ((h21 278 9) + (1 : Int32))) fun h23 => (some ((), h23)))))))) else (sto (hs h5 278 12 (0 : Int32)) fun h24 => (fX6_advances_L38 v3 FU  h24 fun h25 => (if ((h25 278 9) - (h25 278 10)) < (3 : Int32) then (sto (hs h25 278 11 (2 : Int32)) fun h26 => (some ((), h26))) else (sto (hs h25 278 11 (5 : Int32)) fun h27 => (some ((), h27)))))))))))
set_option maxHeartbeats 4000000 in
theorem gX6_advances_L38 {K : MC} {X : WX} {p1 : Int32} (hK : Ok K X RX6 cX6_advances 2 none 2) {k : AH → Option (Unit × AH)} (hk : ∀ (h : AH), J K X 2 (Zm K X) eV 112 [(1, .int p1), (0, .ref (X.1 + 278))] [] h (k h)) : ∀ (n : Nat) (h : AH), J K X 2 (Zm K X) eV 38 [(1, .int p1), (0, .ref (X.1 + 278))] [] h (fX6_advances_L38 p1 n h k) := by
  intro n
  induction n with
  | zero => exact fun _ => J_none
  | succ n ih =>
    intro h
    rw [fX6_advances_L38]
    refine J_aload_n hK dX6_advances_38 1 rfl ?_
    refine J_aload_n hK dX6_advances_39 1 rfl ?_
    refine gF_X6_83 hK dX6_advances_40 kd_278 ?_
    refine J_callVi (q := 278) (As := [.int (h 278 9)]) (st := []) hK dX6_advances_43 kB_X6_89 kV_X6_byteAt kd_278 (by decide) rfl rfl (by decide) rfl rfl (Nat.le_of_ble_eq_true rfl) (fun _ _ hf => uX6_byteAt  hf) (fun v202 h201 => ?_)
    refine J_bipush hK dX6_advances_46 cb_48 ?_
    refine J_bipush hK dX6_advances_48 cb_57 ?_
    refine J_callSi (As := [.int v202, .int (48 : Int32), .int (57 : Int32)]) (st := []) hK dX6_advances_50 kB_X6_53 kS_X6_in (by decide) rfl rfl (Nat.le_of_ble_eq_true rfl) (fun _ _ hf => uX6_in  hf) (fun v204 h203 => ?_)
    refine J_if_eq (tgt := 112) hK dX6_advances_53 (by decide) ?_ ?_
    · exact J_sub [0, 1] rfl (hk _)
    · refine J_aload_n hK dX6_advances_56 1 rfl ?_
      refine J_aload_n hK dX6_advances_57 1 rfl ?_
      refine gF_X6_83 hK dX6_advances_58 kd_278 ?_
      refine J_aload_n hK dX6_advances_61 1 rfl ?_
      refine gF_X6_86 hK dX6_advances_62 kd_278 ?_
      refine J_isub hK dX6_advances_65 ?_
      refine J_iconst hK dX6_advances_66 ci_2 ?_
      refine J_icmp_ge (tgt := 92) hK dX6_advances_67 (by decide) ?_ ?_
      · refine J_bipush hK dX6_advances_70 cb_10 ?_
        refine J_aload_n hK dX6_advances_72 1 rfl ?_
        refine gF_X6_92 hK dX6_advances_73 kd_278 ?_
        refine J_imul hK dX6_advances_76 ?_
        refine J_aload_n hK dX6_advances_77 1 rfl ?_
        refine J_aload_n hK dX6_advances_78 1 rfl ?_
        refine gF_X6_83 hK dX6_advances_79 kd_278 ?_
        refine J_callVi (q := 278) (As := [.int (h203 278 9)]) (st := [.int ((10 : Int32) * (h203 278 12)), .ref (X.1 + 278)]) hK dX6_advances_82 kB_X6_89 kV_X6_byteAt kd_278 (by decide) rfl rfl (by decide) rfl rfl (Nat.le_of_ble_eq_true rfl) (fun _ _ hf => uX6_byteAt  hf) (fun v206 h205 => ?_)
        refine J_iadd hK dX6_advances_85 ?_
        refine J_bipush hK dX6_advances_86 cb_48 ?_
        refine J_isub hK dX6_advances_88 ?_
        refine J_goto (len := 0) (tgt := 96) hK dX6_advances_89 (by decide) ?_
        refine pF_X6_92 hK dX6_advances_96 kd_278 (fun h207 => ?_)
        refine J_aload_n hK dX6_advances_99 1 rfl ?_
        refine J_dup hK dX6_advances_100 rfl ?_
        refine gF_X6_83 hK dX6_advances_101 kd_278 ?_
        refine J_iconst hK dX6_advances_104 ci_1 ?_
        refine J_iadd hK dX6_advances_105 ?_
        refine pF_X6_83 hK dX6_advances_106 kd_278 (fun h208 => ?_)
        refine J_goto (len := 0) (tgt := 38) hK dX6_advances_109 (by decide) ?_
        exact J_sub [0, 1] rfl (ih _)
      · refine J_aload_n hK dX6_advances_92 1 rfl ?_
        refine gF_X6_92 hK dX6_advances_93 kd_278 ?_
        refine pF_X6_92 hK dX6_advances_96 kd_278 (fun h209 => ?_)
        refine J_aload_n hK dX6_advances_99 1 rfl ?_
        refine J_dup hK dX6_advances_100 rfl ?_
        refine gF_X6_83 hK dX6_advances_101 kd_278 ?_
        refine J_iconst hK dX6_advances_104 ci_1 ?_
        refine J_iadd hK dX6_advances_105 ?_
        refine pF_X6_83 hK dX6_advances_106 kd_278 (fun h210 => ?_)
        refine J_goto (len := 0) (tgt := 38) hK dX6_advances_109 (by decide) ?_
        exact J_sub [0, 1] rfl (ih _)
set_option maxHeartbeats 4000000 in
set_option maxRecDepth 4000 in
theorem uX6_advances {l : Launch} {X : WX} {h h' : AH} {v : Unit} (hf : fX6_advances  h = some (v, h')) : Does l X 2 yX6_advances cX6_advances 2 none [.ref (X.1 + 278)] h (eV v) h' := by
  refine Does.of (enc := eV) (o := fX6_advances  h) (lv := [(0, .ref (X.1 + 278))]) (by decide) (Nat.le_of_ble_eq_true rfl) rfl hf (fun K hl hK => ?_)
  subst hl
  unfold fX6_advances
  refine J_aload_n hK dX6_advances_0 0 rfl ?_
  refine J_aload_n hK dX6_advances_1 0 rfl ?_
  refine gF_X6_83 hK dX6_advances_2 kd_278 ?_
  refine pF_X6_86 hK dX6_advances_5 kd_278 (fun h1 => ?_)
  refine J_aload_n hK dX6_advances_8 0 rfl ?_
  refine J_aload_n hK dX6_advances_9 0 rfl ?_
  refine gF_X6_83 hK dX6_advances_10 kd_278 ?_
  refine J_callVi (q := 278) (As := [.int (h1 278 9)]) (st := []) hK dX6_advances_13 kB_X6_89 kV_X6_byteAt kd_278 (by decide) rfl rfl (by decide) rfl rfl (Nat.le_of_ble_eq_true rfl) (fun _ _ hf => uX6_byteAt  hf) (fun v3 h2 => ?_)
  refine J_istore_n (n := 1) (lw := [(0, .ref (X.1 + 278))]) hK dX6_advances_16 rfl (by decide) rfl ?_
  refine J_aload_n hK dX6_advances_17 1 rfl ?_
  refine J_iload_n hK dX6_advances_18 0 rfl ?_
  refine pF_X6_92 hK dX6_advances_19 kd_278 (fun h4 => ?_)
  refine J_iload_n hK dX6_advances_22 0 rfl ?_
  refine J_bipush hK dX6_advances_23 cb_48 ?_
  refine J_bipush hK dX6_advances_25 cb_57 ?_
  refine J_callSi (As := [.int v3, .int (48 : Int32), .int (57 : Int32)]) (st := []) hK dX6_advances_27 kB_X6_53 kS_X6_in (by decide) rfl rfl (Nat.le_of_ble_eq_true rfl) (fun _ _ hf => uX6_in  hf) (fun v6 h5 => ?_)
  refine J_if_eq (tgt := 135) hK dX6_advances_30 (by decide) ?_ ?_
  · refine J_aload_n hK dX6_advances_135 1 rfl ?_
    refine J_iload_n hK dX6_advances_136 0 rfl ?_
    refine J_if_ge (tgt := 144) hK dX6_advances_137 (by decide) ?_ ?_
    · refine J_iconst hK dX6_advances_140 ci_0 ?_
      refine J_goto (len := 0) (tgt := 180) hK dX6_advances_141 (by decide) ?_
      refine pF_X6_95 hK dX6_advances_180 kd_278 (fun h7 => ?_)
      refine J_aload_n hK dX6_advances_183 1 rfl ?_
      refine J_dup hK dX6_advances_184 rfl ?_
      refine gF_X6_83 hK dX6_advances_185 kd_278 ?_
      refine J_aload_n hK dX6_advances_188 1 rfl ?_
      refine gF_X6_95 hK dX6_advances_189 kd_278 ?_
      refine J_if_ne (tgt := 199) hK dX6_advances_192 (by decide) ?_ ?_
      · refine J_iconst hK dX6_advances_195 ci_0 ?_
        refine J_goto (len := 0) (tgt := 200) hK dX6_advances_196 (by decide) ?_
        refine J_iadd hK dX6_advances_200 ?_
        refine pF_X6_83 hK dX6_advances_201 kd_278 (fun h8 => ?_)
        exact J_vret hK dX6_advances_204
      · refine J_iconst hK dX6_advances_199 ci_1 ?_
        refine J_iadd hK dX6_advances_200 ?_
        refine pF_X6_83 hK dX6_advances_201 kd_278 (fun h9 => ?_)
        exact J_vret hK dX6_advances_204
    · refine J_iload_n hK dX6_advances_144 0 rfl ?_
      refine J_bipush hK dX6_advances_145 cb_97 ?_
      refine J_bipush hK dX6_advances_147 cb_122 ?_
      refine J_callSi (As := [.int v3, .int (97 : Int32), .int (122 : Int32)]) (st := [.ref (X.1 + 278)]) hK dX6_advances_149 kB_X6_53 kS_X6_in (by decide) rfl rfl (Nat.le_of_ble_eq_true rfl) (fun _ _ hf => uX6_in  hf) (fun v11 h10 => ?_)
      refine J_if_eq (tgt := 159) hK dX6_advances_152 (by decide) ?_ ?_
      · refine J_iload_n hK dX6_advances_159 0 rfl ?_
        refine J_bipush hK dX6_advances_160 cb_44 ?_
        refine J_icmp_ne (tgt := 169) hK dX6_advances_162 (by decide) ?_ ?_
        · refine J_iconst hK dX6_advances_165 ci_3 ?_
          refine J_goto (len := 0) (tgt := 180) hK dX6_advances_166 (by decide) ?_
          refine pF_X6_95 hK dX6_advances_180 kd_278 (fun h12 => ?_)
          refine J_aload_n hK dX6_advances_183 1 rfl ?_
          refine J_dup hK dX6_advances_184 rfl ?_
          refine gF_X6_83 hK dX6_advances_185 kd_278 ?_
          refine J_aload_n hK dX6_advances_188 1 rfl ?_
          refine gF_X6_95 hK dX6_advances_189 kd_278 ?_
          refine J_if_ne (tgt := 199) hK dX6_advances_192 (by decide) ?_ ?_
          · refine J_iconst hK dX6_advances_195 ci_0 ?_
            refine J_goto (len := 0) (tgt := 200) hK dX6_advances_196 (by decide) ?_
            refine J_iadd hK dX6_advances_200 ?_
            refine pF_X6_83 hK dX6_advances_201 kd_278 (fun h13 => ?_)
            exact J_vret hK dX6_advances_204
          · refine J_iconst hK dX6_advances_199 ci_1 ?_
            refine J_iadd hK dX6_advances_200 ?_
            refine pF_X6_83 hK dX6_advances_201 kd_278 (fun h14 => ?_)
            exact J_vret hK dX6_advances_204
        · refine J_iload_n hK dX6_advances_169 0 rfl ?_
          refine J_bipush hK dX6_advances_170 cb_59 ?_
          refine J_icmp_ne (tgt := 179) hK dX6_advances_172 (by decide) ?_ ?_
          · refine J_iconst hK dX6_advances_175 ci_4 ?_
            refine J_goto (len := 0) (tgt := 180) hK dX6_advances_176 (by decide) ?_
            refine pF_X6_95 hK dX6_advances_180 kd_278 (fun h15 => ?_)
            refine J_aload_n hK dX6_advances_183 1 rfl ?_
            refine J_dup hK dX6_advances_184 rfl ?_
            refine gF_X6_83 hK dX6_advances_185 kd_278 ?_
            refine J_aload_n hK dX6_advances_188 1 rfl ?_
            refine gF_X6_95 hK dX6_advances_189 kd_278 ?_
            refine J_if_ne (tgt := 199) hK dX6_advances_192 (by decide) ?_ ?_
            · refine J_iconst hK dX6_advances_195 ci_0 ?_
              refine J_goto (len := 0) (tgt := 200) hK dX6_advances_196 (by decide) ?_
              refine J_iadd hK dX6_advances_200 ?_
              refine pF_X6_83 hK dX6_advances_201 kd_278 (fun h16 => ?_)
              exact J_vret hK dX6_advances_204
            · refine J_iconst hK dX6_advances_199 ci_1 ?_
              refine J_iadd hK dX6_advances_200 ?_
              refine pF_X6_83 hK dX6_advances_201 kd_278 (fun h17 => ?_)
              exact J_vret hK dX6_advances_204
          · refine J_iconst hK dX6_advances_179 ci_5 ?_
            refine pF_X6_95 hK dX6_advances_180 kd_278 (fun h18 => ?_)
            refine J_aload_n hK dX6_advances_183 1 rfl ?_
            refine J_dup hK dX6_advances_184 rfl ?_
            refine gF_X6_83 hK dX6_advances_185 kd_278 ?_
            refine J_aload_n hK dX6_advances_188 1 rfl ?_
            refine gF_X6_95 hK dX6_advances_189 kd_278 ?_
            refine J_if_ne (tgt := 199) hK dX6_advances_192 (by decide) ?_ ?_
            · refine J_iconst hK dX6_advances_195 ci_0 ?_
              refine J_goto (len := 0) (tgt := 200) hK dX6_advances_196 (by decide) ?_
              refine J_iadd hK dX6_advances_200 ?_
              refine pF_X6_83 hK dX6_advances_201 kd_278 (fun h19 => ?_)
              exact J_vret hK dX6_advances_204
            · refine J_iconst hK dX6_advances_199 ci_1 ?_
              refine J_iadd hK dX6_advances_200 ?_
              refine pF_X6_83 hK dX6_advances_201 kd_278 (fun h20 => ?_)
              exact J_vret hK dX6_advances_204
      · refine J_iconst hK dX6_advances_155 ci_1 ?_
        refine J_goto (len := 0) (tgt := 180) hK dX6_advances_156 (by decide) ?_
        refine pF_X6_95 hK dX6_advances_180 kd_278 (fun h21 => ?_)
        refine J_aload_n hK dX6_advances_183 1 rfl ?_
        refine J_dup hK dX6_advances_184 rfl ?_
        refine gF_X6_83 hK dX6_advances_185 kd_278 ?_
        refine J_aload_n hK dX6_advances_188 1 rfl ?_
        refine gF_X6_95 hK dX6_advances_189 kd_278 ?_
        refine J_if_ne (tgt := 199) hK dX6_advances_192 (by decide) ?_ ?_
        · refine J_iconst hK dX6_advances_195 ci_0 ?_
          refine J_goto (len := 0) (tgt := 200) hK dX6_advances_196 (by decide) ?_
          refine J_iadd hK dX6_advances_200 ?_
          refine pF_X6_83 hK dX6_advances_201 kd_278 (fun h22 => ?_)
          exact J_vret hK dX6_advances_204
        · refine J_iconst hK dX6_advances_199 ci_1 ?_
          refine J_iadd hK dX6_advances_200 ?_
          refine pF_X6_83 hK dX6_advances_201 kd_278 (fun h23 => ?_)
          exact J_vret hK dX6_advances_204
  · refine J_aload_n hK dX6_advances_33 1 rfl ?_
    refine J_iconst hK dX6_advances_34 ci_0 ?_
    refine pF_X6_92 hK dX6_advances_35 kd_278 (fun h24 => ?_)
    refine J_sub [0, 1] rfl (gX6_advances_L38 hK  (fun h25 => ?_) FU _)
    refine J_aload_n hK dX6_advances_112 1 rfl ?_
    refine J_aload_n hK dX6_advances_113 1 rfl ?_
    refine gF_X6_83 hK dX6_advances_114 kd_278 ?_
    refine J_aload_n hK dX6_advances_117 1 rfl ?_
    refine gF_X6_86 hK dX6_advances_118 kd_278 ?_
    refine J_isub hK dX6_advances_121 ?_
    refine J_iconst hK dX6_advances_122 ci_3 ?_
    refine J_icmp_ge (tgt := 130) hK dX6_advances_123 (by decide) ?_ ?_
    · refine J_iconst hK dX6_advances_126 ci_2 ?_
      refine J_goto (len := 0) (tgt := 131) hK dX6_advances_127 (by decide) ?_
      refine pF_X6_95 hK dX6_advances_131 kd_278 (fun h26 => ?_)
      exact J_vret hK dX6_advances_134
    · refine J_iconst hK dX6_advances_130 ci_5 ?_
      refine pF_X6_95 hK dX6_advances_131 kd_278 (fun h27 => ?_)
      exact J_vret hK dX6_advances_134
-- X6_comes
theorem dX6_comes_0 : DD cX6_comes 0 (.aload_n 0) 1 1 := by decide +kernel
theorem dX6_comes_1 : DD cX6_comes 1 (.iload_n 1) 1 2 := by decide +kernel
theorem dX6_comes_2 : DD cX6_comes 2 (.invokestatic 146) 3 5 := by decide +kernel
theorem dX6_comes_5 : DD cX6_comes 5 (.istore_n 2) 1 6 := by decide +kernel
theorem dX6_comes_6 : DD cX6_comes 6 (.iload_n 2) 1 7 := by decide +kernel
theorem dX6_comes_7 : DD cX6_comes 7 (.ldc 47) 2 9 := by decide +kernel
theorem dX6_comes_9 : DD cX6_comes 9 (.if_icmp .ne 25) 3 12 := by decide +kernel
theorem dX6_comes_12 : DD cX6_comes 12 (.aload_n 0) 1 13 := by decide +kernel
theorem dX6_comes_13 : DD cX6_comes 13 (.iconst 1) 1 14 := by decide +kernel
theorem dX6_comes_14 : DD cX6_comes 14 (.aload_n 0) 1 15 := by decide +kernel
theorem dX6_comes_15 : DD cX6_comes 15 (.iconst 1) 1 16 := by decide +kernel
theorem dX6_comes_16 : DD cX6_comes 16 (.iaload) 1 17 := by decide +kernel
theorem dX6_comes_17 : DD cX6_comes 17 (.iload_n 1) 1 18 := by decide +kernel
theorem dX6_comes_18 : DD cX6_comes 18 (.if_icmp .le 11) 3 21 := by decide +kernel
theorem dX6_comes_21 : DD cX6_comes 21 (.aload_n 0) 1 22 := by decide +kernel
theorem dX6_comes_22 : DD cX6_comes 22 (.iconst 1) 1 23 := by decide +kernel
theorem dX6_comes_23 : DD cX6_comes 23 (.iaload) 1 24 := by decide +kernel
theorem dX6_comes_24 : DD cX6_comes 24 (.iload_n 1) 1 25 := by decide +kernel
theorem dX6_comes_25 : DD cX6_comes 25 (.isub) 1 26 := by decide +kernel
theorem dX6_comes_26 : DD cX6_comes 26 (.goto 4) 3 29 := by decide +kernel
theorem dX6_comes_29 : DD cX6_comes 29 (.iconst 0) 1 30 := by decide +kernel
theorem dX6_comes_30 : DD cX6_comes 30 (.iastore) 1 31 := by decide +kernel
theorem dX6_comes_31 : DD cX6_comes 31 (.goto 65) 3 34 := by decide +kernel
theorem dX6_comes_34 : DD cX6_comes 34 (.aload_n 0) 1 35 := by decide +kernel
theorem dX6_comes_35 : DD cX6_comes 35 (.bipush 35) 2 37 := by decide +kernel
theorem dX6_comes_37 : DD cX6_comes 37 (.iconst 2) 1 38 := by decide +kernel
theorem dX6_comes_38 : DD cX6_comes 38 (.iload_n 2) 1 39 := by decide +kernel
theorem dX6_comes_39 : DD cX6_comes 39 (.imul) 1 40 := by decide +kernel
theorem dX6_comes_40 : DD cX6_comes 40 (.iadd) 1 41 := by decide +kernel
theorem dX6_comes_41 : DD cX6_comes 41 (.iaload) 1 42 := by decide +kernel
theorem dX6_comes_42 : DD cX6_comes 42 (.iconst 1) 1 43 := by decide +kernel
theorem dX6_comes_43 : DD cX6_comes 43 (.iadd) 1 44 := by decide +kernel
theorem dX6_comes_44 : DD cX6_comes 44 (.istore_n 3) 1 45 := by decide +kernel
theorem dX6_comes_45 : DD cX6_comes 45 (.iload_n 1) 1 46 := by decide +kernel
theorem dX6_comes_46 : DD cX6_comes 46 (.aload_n 0) 1 47 := by decide +kernel
theorem dX6_comes_47 : DD cX6_comes 47 (.iconst 1) 1 48 := by decide +kernel
theorem dX6_comes_48 : DD cX6_comes 48 (.iaload) 1 49 := by decide +kernel
theorem dX6_comes_49 : DD cX6_comes 49 (.iload_n 3) 1 50 := by decide +kernel
theorem dX6_comes_50 : DD cX6_comes 50 (.isub) 1 51 := by decide +kernel
theorem dX6_comes_51 : DD cX6_comes 51 (.isub) 1 52 := by decide +kernel
theorem dX6_comes_52 : DD cX6_comes 52 (.istore 4) 2 54 := by decide +kernel
theorem dX6_comes_54 : DD cX6_comes 54 (.aload_n 0) 1 55 := by decide +kernel
theorem dX6_comes_55 : DD cX6_comes 55 (.bipush 35) 2 57 := by decide +kernel
theorem dX6_comes_57 : DD cX6_comes 57 (.iconst 2) 1 58 := by decide +kernel
theorem dX6_comes_58 : DD cX6_comes 58 (.iload_n 2) 1 59 := by decide +kernel
theorem dX6_comes_59 : DD cX6_comes 59 (.imul) 1 60 := by decide +kernel
theorem dX6_comes_60 : DD cX6_comes 60 (.iadd) 1 61 := by decide +kernel
theorem dX6_comes_61 : DD cX6_comes 61 (.iconst 1) 1 62 := by decide +kernel
theorem dX6_comes_62 : DD cX6_comes 62 (.iadd) 1 63 := by decide +kernel
theorem dX6_comes_63 : DD cX6_comes 63 (.iaload) 1 64 := by decide +kernel
theorem dX6_comes_64 : DD cX6_comes 64 (.istore 5) 2 66 := by decide +kernel
theorem dX6_comes_66 : DD cX6_comes 66 (.aload_n 0) 1 67 := by decide +kernel
theorem dX6_comes_67 : DD cX6_comes 67 (.bipush 35) 2 69 := by decide +kernel
theorem dX6_comes_69 : DD cX6_comes 69 (.iconst 2) 1 70 := by decide +kernel
theorem dX6_comes_70 : DD cX6_comes 70 (.iload_n 2) 1 71 := by decide +kernel
theorem dX6_comes_71 : DD cX6_comes 71 (.imul) 1 72 := by decide +kernel
theorem dX6_comes_72 : DD cX6_comes 72 (.iadd) 1 73 := by decide +kernel
theorem dX6_comes_73 : DD cX6_comes 73 (.iconst 1) 1 74 := by decide +kernel
theorem dX6_comes_74 : DD cX6_comes 74 (.iadd) 1 75 := by decide +kernel
theorem dX6_comes_75 : DD cX6_comes 75 (.iload 5) 2 77 := by decide +kernel
theorem dX6_comes_77 : DD cX6_comes 77 (.iload 4) 2 79 := by decide +kernel
theorem dX6_comes_79 : DD cX6_comes 79 (.if_icmp .le 11) 3 82 := by decide +kernel
theorem dX6_comes_82 : DD cX6_comes 82 (.iload 5) 2 84 := by decide +kernel
theorem dX6_comes_84 : DD cX6_comes 84 (.iload 4) 2 86 := by decide +kernel
theorem dX6_comes_86 : DD cX6_comes 86 (.isub) 1 87 := by decide +kernel
theorem dX6_comes_87 : DD cX6_comes 87 (.goto 4) 3 90 := by decide +kernel
theorem dX6_comes_90 : DD cX6_comes 90 (.iconst 0) 1 91 := by decide +kernel
theorem dX6_comes_91 : DD cX6_comes 91 (.iastore) 1 92 := by decide +kernel
theorem dX6_comes_92 : DD cX6_comes 92 (.aload_n 0) 1 93 := by decide +kernel
theorem dX6_comes_93 : DD cX6_comes 93 (.iconst 1) 1 94 := by decide +kernel
theorem dX6_comes_94 : DD cX6_comes 94 (.iload_n 3) 1 95 := by decide +kernel
theorem dX6_comes_95 : DD cX6_comes 95 (.iastore) 1 96 := by decide +kernel
theorem dX6_comes_96 : DD cX6_comes 96 (.return_) 1 97 := by decide +kernel
def fX6_comes (a0 : Nat) (a1 : Int32) (h : AH) : Option (Unit × AH) := (bnd (fX6_met a0 a1 h) fun v2 h1 => (if v2 = (-1000000 : Int32) then (chk (inb (1 : Int32) (ln a0)) (if a1 < (h1 a0 (Int32.toNatClampNeg (1 : Int32))) then (chk (inb (1 : Int32) (ln a0)) (chk (inb (1 : Int32) (ln a0)) (sto (hs h1 a0 (Int32.toNatClampNeg (1 : Int32)) ((h1 a0 (Int32.toNatClampNeg (1 : Int32))) - a1)) fun h3 => (some ((), h3))))) else (chk (inb (1 : Int32) (ln a0)) (sto (hs h1 a0 (Int32.toNatClampNeg (1 : Int32)) (0 : Int32)) fun h4 => (some ((), h4)))))) else (chk (inb ((35 : Int32) + ((2 : Int32) * v2)) (ln a0)) (vl ((h1 a0 (Int32.toNatClampNeg ((35 : Int32) + ((2 : Int32) * v2)))) + (1 : Int32)) fun z5 => (chk (inb (1 : Int32) (ln a0)) (vl (a1 - ((h1 a0 (Int32.toNatClampNeg (1 : Int32))) - z5)) fun z6 => (chk (inb (((35 : Int32) + ((2 : Int32) * v2)) + (1 : Int32)) (ln a0)) (vl (h1 a0 (Int32.toNatClampNeg (((35 : Int32) + ((2 : Int32) * v2)) + (1 : Int32)))) fun z7 => (if z6 < z7 then (chk (inb (((35 : Int32) + ((2 : Int32) * v2)) + (1 : Int32)) (ln a0)) (sto (hs h1 a0 (Int32.toNatClampNeg (((35 : Int32) + ((2 : Int32) * v2)) + (1 : Int32))) (z7 - z6)) fun h8 => (chk (inb (1 : Int32) (ln a0)) (sto (hs h8 a0 (Int32.toNatClampNeg (1 : Int32)) z5) fun h9 => (some ((), h9)))))) else (chk (inb (((35 : Int32) + ((2 : Int32) * v2)) + (1 : Int32)) (ln a0)) (sto (hs h1 a0 (Int32.toNatClampNeg (((35 : Int32) + ((2 : Int32) * v2)) + (1 : Int32))) (0 : Int32)) fun h10 => (chk (inb (1 : Int32) (ln a0)) (sto (hs h10 a0 (Int32.toNatClampNeg (1 : Int32)) z5) fun h11 => (some ((), h11)))))))))))))))
set_option maxHeartbeats 4000000 in
set_option maxRecDepth 4000 in
theorem uX6_comes {l : Launch} {X : WX} {a0 : Nat} {a1 : Int32} {h h' : AH} {v : Unit} (ka0 : kd a0 = 7) (hf : fX6_comes a0 a1 h = some (v, h')) : Does l X 2 yX6_comes cX6_comes 6 none [.ref (X.1 + a0), .int a1] h (eV v) h' := by
  refine Does.of (enc := eV) (o := fX6_comes a0 a1 h) (lv := [(0, .ref (X.1 + a0)), (1, .int a1)]) (by decide) (Nat.le_of_ble_eq_true rfl) rfl hf (fun K hl hK => ?_)
  subst hl
  unfold fX6_comes
  refine J_aload_n hK dX6_comes_0 0 rfl ?_
  refine J_iload_n hK dX6_comes_1 1 rfl ?_
  refine J_callSi (As := [.ref (X.1 + a0), .int a1]) (st := []) hK dX6_comes_2 kB_X6_146 kS_X6_met (by decide) rfl rfl (Nat.le_of_ble_eq_true rfl) (fun _ _ hf => uX6_met ka0 hf) (fun v2 h1 => ?_)
  refine J_istore_n (n := 2) (lw := [(0, .ref (X.1 + a0)), (1, .int a1)]) hK dX6_comes_5 rfl (by decide) rfl ?_
  refine J_iload_n hK dX6_comes_6 0 rfl ?_
  refine J_ldc hK dX6_comes_7 kK_X6_47 ?_
  refine J_icmp_ne (tgt := 34) hK dX6_comes_9 (by decide) ?_ ?_
  · refine J_aload_n hK dX6_comes_12 1 rfl ?_
    refine J_iconst hK dX6_comes_13 ci_1 ?_
    refine J_aload_n hK dX6_comes_14 1 rfl ?_
    refine J_iconst hK dX6_comes_15 ci_1 ?_
    refine J_iald hK dX6_comes_16 ka0 (fun _ => ?_)
    refine J_iload_n hK dX6_comes_17 2 rfl ?_
    refine J_icmp_le (tgt := 29) hK dX6_comes_18 (by decide) ?_ ?_
    · refine J_aload_n hK dX6_comes_21 1 rfl ?_
      refine J_iconst hK dX6_comes_22 ci_1 ?_
      refine J_iald hK dX6_comes_23 ka0 (fun _ => ?_)
      refine J_iload_n hK dX6_comes_24 2 rfl ?_
      refine J_isub hK dX6_comes_25 ?_
      refine J_goto (len := 0) (tgt := 30) hK dX6_comes_26 (by decide) ?_
      refine J_iast hK dX6_comes_30 ka0 (fun h3 => ?_)
      refine J_goto (len := 0) (tgt := 96) hK dX6_comes_31 (by decide) ?_
      exact J_vret hK dX6_comes_96
    · refine J_iconst hK dX6_comes_29 ci_0 ?_
      refine J_iast hK dX6_comes_30 ka0 (fun h4 => ?_)
      refine J_goto (len := 0) (tgt := 96) hK dX6_comes_31 (by decide) ?_
      exact J_vret hK dX6_comes_96
  · refine J_aload_n hK dX6_comes_34 1 rfl ?_
    refine J_bipush hK dX6_comes_35 cb_35 ?_
    refine J_iconst hK dX6_comes_37 ci_2 ?_
    refine J_iload_n hK dX6_comes_38 0 rfl ?_
    refine J_imul hK dX6_comes_39 ?_
    refine J_iadd hK dX6_comes_40 ?_
    refine J_iald hK dX6_comes_41 ka0 (fun _ => ?_)
    refine J_iconst hK dX6_comes_42 ci_1 ?_
    refine J_iadd hK dX6_comes_43 ?_
    refine J_istoreV_n (n := 3) (lw := [(2, .int v2), (0, .ref (X.1 + a0)), (1, .int a1)]) hK dX6_comes_44 rfl (by decide) rfl (fun z5 => ?_)
    refine J_iload_n hK dX6_comes_45 3 rfl ?_
    refine J_aload_n hK dX6_comes_46 2 rfl ?_
    refine J_iconst hK dX6_comes_47 ci_1 ?_
    refine J_iald hK dX6_comes_48 ka0 (fun _ => ?_)
    refine J_iload_n hK dX6_comes_49 0 rfl ?_
    refine J_isub hK dX6_comes_50 ?_
    refine J_isub hK dX6_comes_51 ?_
    refine J_istoreV (lw := [(3, .int z5), (2, .int v2), (0, .ref (X.1 + a0)), (1, .int a1)]) hK dX6_comes_52 (by decide) rfl (fun z6 => ?_)
    refine J_aload_n hK dX6_comes_54 3 rfl ?_
    refine J_bipush hK dX6_comes_55 cb_35 ?_
    refine J_iconst hK dX6_comes_57 ci_2 ?_
    refine J_iload_n hK dX6_comes_58 2 rfl ?_
    refine J_imul hK dX6_comes_59 ?_
    refine J_iadd hK dX6_comes_60 ?_
    refine J_iconst hK dX6_comes_61 ci_1 ?_
    refine J_iadd hK dX6_comes_62 ?_
    refine J_iald hK dX6_comes_63 ka0 (fun _ => ?_)
    refine J_istoreV (lw := [(4, .int z6), (3, .int z5), (2, .int v2), (0, .ref (X.1 + a0)), (1, .int a1)]) hK dX6_comes_64 (by decide) rfl (fun z7 => ?_)
    refine J_aload_n hK dX6_comes_66 4 rfl ?_
    refine J_bipush hK dX6_comes_67 cb_35 ?_
    refine J_iconst hK dX6_comes_69 ci_2 ?_
    refine J_iload_n hK dX6_comes_70 3 rfl ?_
    refine J_imul hK dX6_comes_71 ?_
    refine J_iadd hK dX6_comes_72 ?_
    refine J_iconst hK dX6_comes_73 ci_1 ?_
    refine J_iadd hK dX6_comes_74 ?_
    refine J_iload hK dX6_comes_75 0 rfl ?_
    refine J_iload hK dX6_comes_77 1 rfl ?_
    refine J_icmp_le (tgt := 90) hK dX6_comes_79 (by decide) ?_ ?_
    · refine J_iload hK dX6_comes_82 0 rfl ?_
      refine J_iload hK dX6_comes_84 1 rfl ?_
      refine J_isub hK dX6_comes_86 ?_
      refine J_goto (len := 0) (tgt := 91) hK dX6_comes_87 (by decide) ?_
      refine J_iast hK dX6_comes_91 ka0 (fun h8 => ?_)
      refine J_aload_n hK dX6_comes_92 4 rfl ?_
      refine J_iconst hK dX6_comes_93 ci_1 ?_
      refine J_iload_n hK dX6_comes_94 2 rfl ?_
      refine J_iast hK dX6_comes_95 ka0 (fun h9 => ?_)
      exact J_vret hK dX6_comes_96
    · refine J_iconst hK dX6_comes_90 ci_0 ?_
      refine J_iast hK dX6_comes_91 ka0 (fun h10 => ?_)
      refine J_aload_n hK dX6_comes_92 4 rfl ?_
      refine J_iconst hK dX6_comes_93 ci_1 ?_
      refine J_iload_n hK dX6_comes_94 2 rfl ?_
      refine J_iast hK dX6_comes_95 ka0 (fun h11 => ?_)
      exact J_vret hK dX6_comes_96
-- X6_count
theorem dX6_count_0 : DD cX6_count 0 (.iconst 0) 1 1 := by decide +kernel
theorem dX6_count_1 : DD cX6_count 1 (.istore_n 2) 1 2 := by decide +kernel
theorem dX6_count_2 : DD cX6_count 2 (.iload_n 1) 1 3 := by decide +kernel
theorem dX6_count_3 : DD cX6_count 3 (.tableswitch 134 0 8 #[49, 81, 88, 95, 102, 109, 116, 124, 129]) 49 52 := by decide +kernel
theorem dX6_count_52 : DD cX6_count 52 (.iconst 0) 1 53 := by decide +kernel
theorem dX6_count_53 : DD cX6_count 53 (.istore_n 3) 1 54 := by decide +kernel
theorem dX6_count_54 : DD cX6_count 54 (.iload_n 3) 1 55 := by decide +kernel
theorem dX6_count_55 : DD cX6_count 55 (.bipush 8) 2 57 := by decide +kernel
theorem dX6_count_57 : DD cX6_count 57 (.if_icmp .ge 25) 3 60 := by decide +kernel
theorem dX6_count_60 : DD cX6_count 60 (.iload_n 2) 1 61 := by decide +kernel
theorem dX6_count_61 : DD cX6_count 61 (.aload_n 0) 1 62 := by decide +kernel
theorem dX6_count_62 : DD cX6_count 62 (.iload_n 3) 1 63 := by decide +kernel
theorem dX6_count_63 : DD cX6_count 63 (.invokevirtual 69) 3 66 := by decide +kernel
theorem dX6_count_66 : DD cX6_count 66 (.ifCond .eq 7) 3 69 := by decide +kernel
theorem dX6_count_69 : DD cX6_count 69 (.iconst 0) 1 70 := by decide +kernel
theorem dX6_count_70 : DD cX6_count 70 (.goto 4) 3 73 := by decide +kernel
theorem dX6_count_73 : DD cX6_count 73 (.iconst 1) 1 74 := by decide +kernel
theorem dX6_count_74 : DD cX6_count 74 (.iadd) 1 75 := by decide +kernel
theorem dX6_count_75 : DD cX6_count 75 (.istore_n 2) 1 76 := by decide +kernel
theorem dX6_count_76 : DD cX6_count 76 (.iinc 3 1) 3 79 := by decide +kernel
theorem dX6_count_79 : DD cX6_count 79 (.goto (-25)) 3 82 := by decide +kernel
theorem dX6_count_82 : DD cX6_count 82 (.iload_n 2) 1 83 := by decide +kernel
theorem dX6_count_83 : DD cX6_count 83 (.ireturn) 1 84 := by decide +kernel
theorem dX6_count_84 : DD cX6_count 84 (.aload_n 0) 1 85 := by decide +kernel
theorem dX6_count_85 : DD cX6_count 85 (.getfield 25) 3 88 := by decide +kernel
theorem dX6_count_88 : DD cX6_count 88 (.iconst 2) 1 89 := by decide +kernel
theorem dX6_count_89 : DD cX6_count 89 (.iaload) 1 90 := by decide +kernel
theorem dX6_count_90 : DD cX6_count 90 (.ireturn) 1 91 := by decide +kernel
theorem dX6_count_91 : DD cX6_count 91 (.aload_n 0) 1 92 := by decide +kernel
theorem dX6_count_92 : DD cX6_count 92 (.getfield 25) 3 95 := by decide +kernel
theorem dX6_count_95 : DD cX6_count 95 (.iconst 3) 1 96 := by decide +kernel
theorem dX6_count_96 : DD cX6_count 96 (.iaload) 1 97 := by decide +kernel
theorem dX6_count_97 : DD cX6_count 97 (.ireturn) 1 98 := by decide +kernel
theorem dX6_count_98 : DD cX6_count 98 (.aload_n 0) 1 99 := by decide +kernel
theorem dX6_count_99 : DD cX6_count 99 (.getfield 25) 3 102 := by decide +kernel
theorem dX6_count_102 : DD cX6_count 102 (.iconst 4) 1 103 := by decide +kernel
theorem dX6_count_103 : DD cX6_count 103 (.iaload) 1 104 := by decide +kernel
theorem dX6_count_104 : DD cX6_count 104 (.ireturn) 1 105 := by decide +kernel
theorem dX6_count_105 : DD cX6_count 105 (.aload_n 0) 1 106 := by decide +kernel
theorem dX6_count_106 : DD cX6_count 106 (.getfield 25) 3 109 := by decide +kernel
theorem dX6_count_109 : DD cX6_count 109 (.iconst 0) 1 110 := by decide +kernel
theorem dX6_count_110 : DD cX6_count 110 (.iaload) 1 111 := by decide +kernel
theorem dX6_count_111 : DD cX6_count 111 (.ireturn) 1 112 := by decide +kernel
theorem dX6_count_112 : DD cX6_count 112 (.aload_n 0) 1 113 := by decide +kernel
theorem dX6_count_113 : DD cX6_count 113 (.getfield 25) 3 116 := by decide +kernel
theorem dX6_count_116 : DD cX6_count 116 (.iconst 1) 1 117 := by decide +kernel
theorem dX6_count_117 : DD cX6_count 117 (.iaload) 1 118 := by decide +kernel
theorem dX6_count_118 : DD cX6_count 118 (.ireturn) 1 119 := by decide +kernel
theorem dX6_count_119 : DD cX6_count 119 (.aload_n 0) 1 120 := by decide +kernel
theorem dX6_count_120 : DD cX6_count 120 (.getfield 25) 3 123 := by decide +kernel
theorem dX6_count_123 : DD cX6_count 123 (.invokestatic 181) 3 126 := by decide +kernel
theorem dX6_count_126 : DD cX6_count 126 (.ireturn) 1 127 := by decide +kernel
theorem dX6_count_127 : DD cX6_count 127 (.aload_n 0) 1 128 := by decide +kernel
theorem dX6_count_128 : DD cX6_count 128 (.getfield 139) 3 131 := by decide +kernel
theorem dX6_count_131 : DD cX6_count 131 (.ireturn) 1 132 := by decide +kernel
theorem dX6_count_132 : DD cX6_count 132 (.aload_n 0) 1 133 := by decide +kernel
theorem dX6_count_133 : DD cX6_count 133 (.getfield 79) 3 136 := by decide +kernel
theorem dX6_count_136 : DD cX6_count 136 (.ireturn) 1 137 := by decide +kernel
theorem dX6_count_137 : DD cX6_count 137 (.ldc 61) 2 139 := by decide +kernel
theorem dX6_count_139 : DD cX6_count 139 (.ireturn) 1 140 := by decide +kernel
def fX6_count_L54 (p1 : Int32) : Nat → Int32 → Int32 → AH → (Int32 → Int32 → AH → Option (Int32 × AH)) → Option (Int32 × AH)
  | 0, _, _, _, _ => none
  | n + 1, x3, x2, h, k => (if x3 < (8 : Int32) then (bnd (fX6_isMissing x3 h) fun v202 h201 => (if v202 = 0 then (vl (x2 + (1 : Int32)) fun z203 => (vl (x3 + (1 : Int32)) fun z204 => fX6_count_L54 p1 n z204 z203 h201 k)) else (vl (x2 + (0 : Int32)) fun z205 => (vl (x3 + (1 : Int32)) fun z206 => fX6_count_L54 p1 n z206 z205 h201 k)))) else k x3 x2 h)
def fX6_count (a1 : Int32) (h : AH) : Option (Int32 × AH) := (if a1 = (0 : Int32) then (fX6_count_L54 a1 FU (0 : Int32) (0 : Int32) h fun z1 z2 h3 => (some (z2, h3))) else (if a1 = (1 : Int32) then (chk (inb (2 : Int32) (ln 284)) (some ((h 284 (Int32.toNatClampNeg (2 : Int32))), h))) else (if a1 = (2 : Int32) then (chk (inb (3 : Int32) (ln 284)) (some ((h 284 (Int32.toNatClampNeg (3 : Int32))), h))) else (if a1 = (3 : Int32) then (chk (inb (4 : Int32) (ln 284)) (some ((h 284 (Int32.toNatClampNeg (4 : Int32))), h))) else (if a1 = (4 : Int32) then (chk (inb (0 : Int32) (ln 284)) (some ((h 284 (Int32.toNatClampNeg (0 : Int32))), h))) else (if a1 = (5 : Int32) then (chk (inb (1 : Int32) (ln 284)) (some ((h 284 (Int32.toNatClampNeg (1 : Int32))), h))) else (if a1 = (6 : Int32) then (bnd (fX6_holding 284 h) fun v11 h10 => (some (v11, h10))) else (if a1 = (7 : Int32) then (some ((h 278 17), h)) else (if a1 = (8 : Int32) then (some ((h 278 6), h)) else (some ((-1000001 : Int32), h)))))))))))
set_option maxHeartbeats 4000000 in
theorem gX6_count_L54 {K : MC} {X : WX} {p1 : Int32} (hK : Ok K X RX6 cX6_count 4 (some .int) 2) {k : Int32 → Int32 → AH → Option (Int32 × AH)} (hk : ∀ (x3 : Int32) (x2 : Int32) (h : AH), J K X 4 (Zm K X) eI 82 [(3, .int x3), (2, .int x2), (0, .ref (X.1 + 278)), (1, .int p1)] [] h (k x3 x2 h)) : ∀ (n : Nat) (x3 : Int32) (x2 : Int32) (h : AH), J K X 4 (Zm K X) eI 54 [(3, .int x3), (2, .int x2), (0, .ref (X.1 + 278)), (1, .int p1)] [] h (fX6_count_L54 p1 n x3 x2 h k) := by
  intro n
  induction n with
  | zero => exact fun _ _ _ => J_none
  | succ n ih =>
    intro x3 x2 h
    rw [fX6_count_L54]
    refine J_iload_n hK dX6_count_54 0 rfl ?_
    refine J_bipush hK dX6_count_55 cb_8 ?_
    refine J_icmp_ge (tgt := 82) hK dX6_count_57 (by decide) ?_ ?_
    · refine J_iload_n hK dX6_count_60 1 rfl ?_
      refine J_aload_n hK dX6_count_61 2 rfl ?_
      refine J_iload_n hK dX6_count_62 0 rfl ?_
      refine J_callVi (q := 278) (As := [.int x3]) (st := [.int x2]) hK dX6_count_63 kB_X6_69 kV_X6_isMissing kd_278 (by decide) rfl rfl (by decide) rfl rfl (Nat.le_of_ble_eq_true rfl) (fun _ _ hf => uX6_isMissing  hf) (fun v202 h201 => ?_)
      refine J_if_eq (tgt := 73) hK dX6_count_66 (by decide) ?_ ?_
      · refine J_iconst hK dX6_count_73 ci_1 ?_
        refine J_iadd hK dX6_count_74 ?_
        refine J_istoreV_n (n := 2) (lw := [(3, .int x3), (0, .ref (X.1 + 278)), (1, .int p1)]) hK dX6_count_75 rfl (by decide) rfl (fun z203 => ?_)
        refine J_iinc (lw := [(2, .int z203), (0, .ref (X.1 + 278)), (1, .int p1)]) hK dX6_count_76 1 rfl (by decide) ci_1 rfl (fun z204 => ?_)
        refine J_goto (len := 0) (tgt := 54) hK dX6_count_79 (by decide) ?_
        exact J_sub [0, 1, 2, 3] rfl (ih _ _ _)
      · refine J_iconst hK dX6_count_69 ci_0 ?_
        refine J_goto (len := 0) (tgt := 74) hK dX6_count_70 (by decide) ?_
        refine J_iadd hK dX6_count_74 ?_
        refine J_istoreV_n (n := 2) (lw := [(3, .int x3), (0, .ref (X.1 + 278)), (1, .int p1)]) hK dX6_count_75 rfl (by decide) rfl (fun z205 => ?_)
        refine J_iinc (lw := [(2, .int z205), (0, .ref (X.1 + 278)), (1, .int p1)]) hK dX6_count_76 1 rfl (by decide) ci_1 rfl (fun z206 => ?_)
        refine J_goto (len := 0) (tgt := 54) hK dX6_count_79 (by decide) ?_
        exact J_sub [0, 1, 2, 3] rfl (ih _ _ _)
    · exact J_sub [0, 1, 2, 3] rfl (hk _ _ _)
set_option maxHeartbeats 4000000 in
set_option maxRecDepth 4000 in
theorem uX6_count {l : Launch} {X : WX} {a1 : Int32} {h h' : AH} {v : Int32} (hf : fX6_count a1 h = some (v, h')) : Does l X 2 yX6_count cX6_count 4 (some .int) [.ref (X.1 + 278), .int a1] h (eI v) h' := by
  refine Does.of (enc := eI) (o := fX6_count a1 h) (lv := [(0, .ref (X.1 + 278)), (1, .int a1)]) (by decide) (Nat.le_of_ble_eq_true rfl) rfl hf (fun K hl hK => ?_)
  subst hl
  unfold fX6_count
  refine J_iconst hK dX6_count_0 ci_0 ?_
  refine J_istore_n (n := 2) (lw := [(0, .ref (X.1 + 278)), (1, .int a1)]) hK dX6_count_1 rfl (by decide) rfl ?_
  refine J_iload_n hK dX6_count_2 2 rfl ?_
  refine J_split (c := a1 = (0 : Int32)) (fun e4 => ?_) (fun e4 => ?_)
  · refine J_tableIn (v := 0) (off := 49) (tgt := 52) hK dX6_count_3 e4 (by decide) ?_
    refine J_iconst hK dX6_count_52 ci_0 ?_
    refine J_istore_n (n := 3) (lw := [(2, .int (0 : Int32)), (0, .ref (X.1 + 278)), (1, .int a1)]) hK dX6_count_53 rfl (by decide) rfl ?_
    refine J_sub [0, 1, 2, 3] rfl (gX6_count_L54 hK  (fun z1 z2 h3 => ?_) FU _ _ _)
    refine J_iload_n hK dX6_count_82 1 rfl ?_
    exact J_iret hK dX6_count_83
  refine J_split (c := a1 = (1 : Int32)) (fun e5 => ?_) (fun e5 => ?_)
  · refine J_tableIn (v := 1) (off := 81) (tgt := 84) hK dX6_count_3 e5 (by decide) ?_
    refine J_aload_n hK dX6_count_84 1 rfl ?_
    refine rF_X6_25 (q2 := 284) hK dX6_count_85 kd_278 rfl ?_
    refine J_iconst hK dX6_count_88 ci_2 ?_
    refine J_iald hK dX6_count_89 kd_284 (fun _ => ?_)
    exact J_iret hK dX6_count_90
  refine J_split (c := a1 = (2 : Int32)) (fun e6 => ?_) (fun e6 => ?_)
  · refine J_tableIn (v := 2) (off := 88) (tgt := 91) hK dX6_count_3 e6 (by decide) ?_
    refine J_aload_n hK dX6_count_91 1 rfl ?_
    refine rF_X6_25 (q2 := 284) hK dX6_count_92 kd_278 rfl ?_
    refine J_iconst hK dX6_count_95 ci_3 ?_
    refine J_iald hK dX6_count_96 kd_284 (fun _ => ?_)
    exact J_iret hK dX6_count_97
  refine J_split (c := a1 = (3 : Int32)) (fun e7 => ?_) (fun e7 => ?_)
  · refine J_tableIn (v := 3) (off := 95) (tgt := 98) hK dX6_count_3 e7 (by decide) ?_
    refine J_aload_n hK dX6_count_98 1 rfl ?_
    refine rF_X6_25 (q2 := 284) hK dX6_count_99 kd_278 rfl ?_
    refine J_iconst hK dX6_count_102 ci_4 ?_
    refine J_iald hK dX6_count_103 kd_284 (fun _ => ?_)
    exact J_iret hK dX6_count_104
  refine J_split (c := a1 = (4 : Int32)) (fun e8 => ?_) (fun e8 => ?_)
  · refine J_tableIn (v := 4) (off := 102) (tgt := 105) hK dX6_count_3 e8 (by decide) ?_
    refine J_aload_n hK dX6_count_105 1 rfl ?_
    refine rF_X6_25 (q2 := 284) hK dX6_count_106 kd_278 rfl ?_
    refine J_iconst hK dX6_count_109 ci_0 ?_
    refine J_iald hK dX6_count_110 kd_284 (fun _ => ?_)
    exact J_iret hK dX6_count_111
  refine J_split (c := a1 = (5 : Int32)) (fun e9 => ?_) (fun e9 => ?_)
  · refine J_tableIn (v := 5) (off := 109) (tgt := 112) hK dX6_count_3 e9 (by decide) ?_
    refine J_aload_n hK dX6_count_112 1 rfl ?_
    refine rF_X6_25 (q2 := 284) hK dX6_count_113 kd_278 rfl ?_
    refine J_iconst hK dX6_count_116 ci_1 ?_
    refine J_iald hK dX6_count_117 kd_284 (fun _ => ?_)
    exact J_iret hK dX6_count_118
  refine J_split (c := a1 = (6 : Int32)) (fun e12 => ?_) (fun e12 => ?_)
  · refine J_tableIn (v := 6) (off := 116) (tgt := 119) hK dX6_count_3 e12 (by decide) ?_
    refine J_aload_n hK dX6_count_119 1 rfl ?_
    refine rF_X6_25 (q2 := 284) hK dX6_count_120 kd_278 rfl ?_
    refine J_callSi (As := [.ref (X.1 + 284)]) (st := []) hK dX6_count_123 kB_X6_181 kS_X6_holding (by decide) rfl rfl (Nat.le_of_ble_eq_true rfl) (fun _ _ hf => uX6_holding kd_284 hf) (fun v11 h10 => ?_)
    exact J_iret hK dX6_count_126
  refine J_split (c := a1 = (7 : Int32)) (fun e13 => ?_) (fun e13 => ?_)
  · refine J_tableIn (v := 7) (off := 124) (tgt := 127) hK dX6_count_3 e13 (by decide) ?_
    refine J_aload_n hK dX6_count_127 1 rfl ?_
    refine gF_X6_139 hK dX6_count_128 kd_278 ?_
    exact J_iret hK dX6_count_131
  refine J_split (c := a1 = (8 : Int32)) (fun e14 => ?_) (fun e14 => ?_)
  · refine J_tableIn (v := 8) (off := 129) (tgt := 132) hK dX6_count_3 e14 (by decide) ?_
    refine J_aload_n hK dX6_count_132 1 rfl ?_
    refine gF_X6_79 hK dX6_count_133 kd_278 ?_
    exact J_iret hK dX6_count_136
  refine J_tableOut (tgt := 137) hK dX6_count_3 (tbl_out [0, 1, 2, 3, 4, 5, 6, 7, 8] (by decide) (nl1 e4 (nl1 e5 (nl1 e6 (nl1 e7 (nl1 e8 (nl1 e9 (nl1 e12 (nl1 e13 (nl1 e14 nl0)))))))))) (by decide) ?_
  refine J_ldc hK dX6_count_137 kK_X6_61 ?_
  exact J_iret hK dX6_count_139
-- X6_feed
theorem dX6_feed_0 : DD cX6_feed 0 (.iload_n 1) 1 1 := by decide +kernel
theorem dX6_feed_1 : DD cX6_feed 1 (.iconst 0) 1 2 := by decide +kernel
theorem dX6_feed_2 : DD cX6_feed 2 (.sipush 255) 3 5 := by decide +kernel
theorem dX6_feed_5 : DD cX6_feed 5 (.invokestatic 53) 3 8 := by decide +kernel
theorem dX6_feed_8 : DD cX6_feed 8 (.ifCond .ne 6) 3 11 := by decide +kernel
theorem dX6_feed_11 : DD cX6_feed 11 (.ldc 61) 2 13 := by decide +kernel
theorem dX6_feed_13 : DD cX6_feed 13 (.ireturn) 1 14 := by decide +kernel
theorem dX6_feed_14 : DD cX6_feed 14 (.aload_n 0) 1 15 := by decide +kernel
theorem dX6_feed_15 : DD cX6_feed 15 (.getfield 79) 3 18 := by decide +kernel
theorem dX6_feed_18 : DD cX6_feed 18 (.bipush 90) 2 20 := by decide +kernel
theorem dX6_feed_20 : DD cX6_feed 20 (.if_icmp .ne 6) 3 23 := by decide +kernel
theorem dX6_feed_23 : DD cX6_feed 23 (.ldc 82) 2 25 := by decide +kernel
theorem dX6_feed_25 : DD cX6_feed 25 (.ireturn) 1 26 := by decide +kernel
theorem dX6_feed_26 : DD cX6_feed 26 (.aload_n 0) 1 27 := by decide +kernel
theorem dX6_feed_27 : DD cX6_feed 27 (.getfield 22) 3 30 := by decide +kernel
theorem dX6_feed_30 : DD cX6_feed 30 (.aload_n 0) 1 31 := by decide +kernel
theorem dX6_feed_31 : DD cX6_feed 31 (.getfield 79) 3 34 := by decide +kernel
theorem dX6_feed_34 : DD cX6_feed 34 (.iload_n 1) 1 35 := by decide +kernel
theorem dX6_feed_35 : DD cX6_feed 35 (.iastore) 1 36 := by decide +kernel
theorem dX6_feed_36 : DD cX6_feed 36 (.aload_n 0) 1 37 := by decide +kernel
theorem dX6_feed_37 : DD cX6_feed 37 (.dup) 1 38 := by decide +kernel
theorem dX6_feed_38 : DD cX6_feed 38 (.getfield 79) 3 41 := by decide +kernel
theorem dX6_feed_41 : DD cX6_feed 41 (.iconst 1) 1 42 := by decide +kernel
theorem dX6_feed_42 : DD cX6_feed 42 (.iadd) 1 43 := by decide +kernel
theorem dX6_feed_43 : DD cX6_feed 43 (.putfield 79) 3 46 := by decide +kernel
theorem dX6_feed_46 : DD cX6_feed 46 (.aload_n 0) 1 47 := by decide +kernel
theorem dX6_feed_47 : DD cX6_feed 47 (.getfield 79) 3 50 := by decide +kernel
theorem dX6_feed_50 : DD cX6_feed 50 (.ireturn) 1 51 := by decide +kernel
def fX6_feed (a1 : Int32) (h : AH) : Option (Int32 × AH) := (bnd (fX6_in a1 (0 : Int32) (255 : Int32) h) fun v2 h1 => (if v2 = 0 then (some ((-1000001 : Int32), h1)) else (if (h1 278 6) = (90 : Int32) then (some ((-1000003 : Int32), h1)) else (chk (inb (h1 278 6) (ln 283)) (sto (hs h1 283 (Int32.toNatClampNeg (h1 278 6)) a1) fun h3 => (sto (hs h3 278 6 ((h3 278 6) + (1 : Int32))) fun h4 => (some ((h4 278 6), h4))))))))
set_option maxHeartbeats 4000000 in
set_option maxRecDepth 4000 in
theorem uX6_feed {l : Launch} {X : WX} {a1 : Int32} {h h' : AH} {v : Int32} (hf : fX6_feed a1 h = some (v, h')) : Does l X 2 yX6_feed cX6_feed 2 (some .int) [.ref (X.1 + 278), .int a1] h (eI v) h' := by
  refine Does.of (enc := eI) (o := fX6_feed a1 h) (lv := [(0, .ref (X.1 + 278)), (1, .int a1)]) (by decide) (Nat.le_of_ble_eq_true rfl) rfl hf (fun K hl hK => ?_)
  subst hl
  unfold fX6_feed
  refine J_iload_n hK dX6_feed_0 1 rfl ?_
  refine J_iconst hK dX6_feed_1 ci_0 ?_
  refine J_sipush hK dX6_feed_2 cs_255 ?_
  refine J_callSi (As := [.int a1, .int (0 : Int32), .int (255 : Int32)]) (st := []) hK dX6_feed_5 kB_X6_53 kS_X6_in (by decide) rfl rfl (Nat.le_of_ble_eq_true rfl) (fun _ _ hf => uX6_in  hf) (fun v2 h1 => ?_)
  refine J_if_ne (tgt := 14) hK dX6_feed_8 (by decide) ?_ ?_
  · refine J_ldc hK dX6_feed_11 kK_X6_61 ?_
    exact J_iret hK dX6_feed_13
  · refine J_aload_n hK dX6_feed_14 0 rfl ?_
    refine gF_X6_79 hK dX6_feed_15 kd_278 ?_
    refine J_bipush hK dX6_feed_18 cb_90 ?_
    refine J_icmp_ne (tgt := 26) hK dX6_feed_20 (by decide) ?_ ?_
    · refine J_ldc hK dX6_feed_23 kK_X6_82 ?_
      exact J_iret hK dX6_feed_25
    · refine J_aload_n hK dX6_feed_26 0 rfl ?_
      refine rF_X6_22 (q2 := 283) hK dX6_feed_27 kd_278 rfl ?_
      refine J_aload_n hK dX6_feed_30 0 rfl ?_
      refine gF_X6_79 hK dX6_feed_31 kd_278 ?_
      refine J_iload_n hK dX6_feed_34 1 rfl ?_
      refine J_iast hK dX6_feed_35 kd_283 (fun h3 => ?_)
      refine J_aload_n hK dX6_feed_36 0 rfl ?_
      refine J_dup hK dX6_feed_37 rfl ?_
      refine gF_X6_79 hK dX6_feed_38 kd_278 ?_
      refine J_iconst hK dX6_feed_41 ci_1 ?_
      refine J_iadd hK dX6_feed_42 ?_
      refine pF_X6_79 hK dX6_feed_43 kd_278 (fun h4 => ?_)
      refine J_aload_n hK dX6_feed_46 0 rfl ?_
      refine gF_X6_79 hK dX6_feed_47 kd_278 ?_
      exact J_iret hK dX6_feed_50
-- X6_force
theorem dX6_force_0 : DD cX6_force 0 (.iconst 0) 1 1 := by decide +kernel
theorem dX6_force_1 : DD cX6_force 1 (.istore_n 1) 1 2 := by decide +kernel
theorem dX6_force_2 : DD cX6_force 2 (.iconst 0) 1 3 := by decide +kernel
theorem dX6_force_3 : DD cX6_force 3 (.istore_n 2) 1 4 := by decide +kernel
theorem dX6_force_4 : DD cX6_force 4 (.iload_n 2) 1 5 := by decide +kernel
theorem dX6_force_5 : DD cX6_force 5 (.aload_n 0) 1 6 := by decide +kernel
theorem dX6_force_6 : DD cX6_force 6 (.iconst 2) 1 7 := by decide +kernel
theorem dX6_force_7 : DD cX6_force 7 (.iaload) 1 8 := by decide +kernel
theorem dX6_force_8 : DD cX6_force 8 (.if_icmp .ge 17) 3 11 := by decide +kernel
theorem dX6_force_11 : DD cX6_force 11 (.iload_n 1) 1 12 := by decide +kernel
theorem dX6_force_12 : DD cX6_force 12 (.aload_n 0) 1 13 := by decide +kernel
theorem dX6_force_13 : DD cX6_force 13 (.iload_n 2) 1 14 := by decide +kernel
theorem dX6_force_14 : DD cX6_force 14 (.invokestatic 142) 3 17 := by decide +kernel
theorem dX6_force_17 : DD cX6_force 17 (.iadd) 1 18 := by decide +kernel
theorem dX6_force_18 : DD cX6_force 18 (.istore_n 1) 1 19 := by decide +kernel
theorem dX6_force_19 : DD cX6_force 19 (.iinc 2 1) 3 22 := by decide +kernel
theorem dX6_force_22 : DD cX6_force 22 (.goto (-18)) 3 25 := by decide +kernel
theorem dX6_force_25 : DD cX6_force 25 (.iload_n 1) 1 26 := by decide +kernel
theorem dX6_force_26 : DD cX6_force 26 (.ireturn) 1 27 := by decide +kernel
def fX6_force_L4 (p0 : Nat) : Nat → Int32 → Int32 → AH → (Int32 → Int32 → AH → Option (Int32 × AH)) → Option (Int32 × AH)
  | 0, _, _, _, _ => none
  | n + 1, x2, x1, h, k => (chk (inb (2 : Int32) (ln p0)) (if x2 < (h p0 (Int32.toNatClampNeg (2 : Int32))) then (bnd (fX6_draws p0 x2 h) fun v202 h201 => (vl (x1 + v202) fun z203 => (vl (x2 + (1 : Int32)) fun z204 => fX6_force_L4 p0 n z204 z203 h201 k))) else k x2 x1 h))
def fX6_force (a0 : Nat) (h : AH) : Option (Int32 × AH) := (fX6_force_L4 a0 FU (0 : Int32) (0 : Int32) h fun z1 z2 h3 => (some (z2, h3)))
set_option maxHeartbeats 4000000 in
theorem gX6_force_L4 {K : MC} {X : WX} {p0 : Nat} (hK : Ok K X RX6 cX6_force 3 (some .int) 2) (hp0 : kd p0 = 7) {k : Int32 → Int32 → AH → Option (Int32 × AH)} (hk : ∀ (x2 : Int32) (x1 : Int32) (h : AH), J K X 3 (Zm K X) eI 25 [(2, .int x2), (1, .int x1), (0, .ref (X.1 + p0))] [] h (k x2 x1 h)) : ∀ (n : Nat) (x2 : Int32) (x1 : Int32) (h : AH), J K X 3 (Zm K X) eI 4 [(2, .int x2), (1, .int x1), (0, .ref (X.1 + p0))] [] h (fX6_force_L4 p0 n x2 x1 h k) := by
  intro n
  induction n with
  | zero => exact fun _ _ _ => J_none
  | succ n ih =>
    intro x2 x1 h
    rw [fX6_force_L4]
    refine J_iload_n hK dX6_force_4 0 rfl ?_
    refine J_aload_n hK dX6_force_5 2 rfl ?_
    refine J_iconst hK dX6_force_6 ci_2 ?_
    refine J_iald hK dX6_force_7 hp0 (fun _ => ?_)
    refine J_icmp_ge (tgt := 25) hK dX6_force_8 (by decide) ?_ ?_
    · refine J_iload_n hK dX6_force_11 1 rfl ?_
      refine J_aload_n hK dX6_force_12 2 rfl ?_
      refine J_iload_n hK dX6_force_13 0 rfl ?_
      refine J_callSi (As := [.ref (X.1 + p0), .int x2]) (st := [.int x1]) hK dX6_force_14 kB_X6_142 kS_X6_draws (by decide) rfl rfl (Nat.le_of_ble_eq_true rfl) (fun _ _ hf => uX6_draws hp0 hf) (fun v202 h201 => ?_)
      refine J_iadd hK dX6_force_17 ?_
      refine J_istoreV_n (n := 1) (lw := [(2, .int x2), (0, .ref (X.1 + p0))]) hK dX6_force_18 rfl (by decide) rfl (fun z203 => ?_)
      refine J_iinc (lw := [(1, .int z203), (0, .ref (X.1 + p0))]) hK dX6_force_19 1 rfl (by decide) ci_1 rfl (fun z204 => ?_)
      refine J_goto (len := 0) (tgt := 4) hK dX6_force_22 (by decide) ?_
      exact J_sub [0, 1, 2] rfl (ih _ _ _)
    · exact J_sub [0, 1, 2] rfl (hk _ _ _)
set_option maxHeartbeats 4000000 in
set_option maxRecDepth 4000 in
theorem uX6_force {l : Launch} {X : WX} {a0 : Nat} {h h' : AH} {v : Int32} (ka0 : kd a0 = 7) (hf : fX6_force a0 h = some (v, h')) : Does l X 2 yX6_force cX6_force 3 (some .int) [.ref (X.1 + a0)] h (eI v) h' := by
  refine Does.of (enc := eI) (o := fX6_force a0 h) (lv := [(0, .ref (X.1 + a0))]) (by decide) (Nat.le_of_ble_eq_true rfl) rfl hf (fun K hl hK => ?_)
  subst hl
  unfold fX6_force
  refine J_iconst hK dX6_force_0 ci_0 ?_
  refine J_istore_n (n := 1) (lw := [(0, .ref (X.1 + a0))]) hK dX6_force_1 rfl (by decide) rfl ?_
  refine J_iconst hK dX6_force_2 ci_0 ?_
  refine J_istore_n (n := 2) (lw := [(1, .int (0 : Int32)), (0, .ref (X.1 + a0))]) hK dX6_force_3 rfl (by decide) rfl ?_
  refine J_sub [0, 1, 2] rfl (gX6_force_L4 hK ka0 (fun z1 z2 h3 => ?_) FU _ _ _)
  refine J_iload_n hK dX6_force_25 1 rfl ?_
  exact J_iret hK dX6_force_26
-- X6_frays
theorem dX6_frays_0 : DD cX6_frays 0 (.iconst 5) 1 1 := by decide +kernel
theorem dX6_frays_1 : DD cX6_frays 1 (.iconst 5) 1 2 := by decide +kernel
theorem dX6_frays_2 : DD cX6_frays 2 (.iload_n 1) 1 3 := by decide +kernel
theorem dX6_frays_3 : DD cX6_frays 3 (.imul) 1 4 := by decide +kernel
theorem dX6_frays_4 : DD cX6_frays 4 (.iadd) 1 5 := by decide +kernel
theorem dX6_frays_5 : DD cX6_frays 5 (.istore_n 3) 1 6 := by decide +kernel
theorem dX6_frays_6 : DD cX6_frays 6 (.aload_n 0) 1 7 := by decide +kernel
theorem dX6_frays_7 : DD cX6_frays 7 (.iload_n 3) 1 8 := by decide +kernel
theorem dX6_frays_8 : DD cX6_frays 8 (.iconst 4) 1 9 := by decide +kernel
theorem dX6_frays_9 : DD cX6_frays 9 (.iadd) 1 10 := by decide +kernel
theorem dX6_frays_10 : DD cX6_frays 10 (.iaload) 1 11 := by decide +kernel
theorem dX6_frays_11 : DD cX6_frays 11 (.iconst 1) 1 12 := by decide +kernel
theorem dX6_frays_12 : DD cX6_frays 12 (.if_icmp .ne 83) 3 15 := by decide +kernel
theorem dX6_frays_15 : DD cX6_frays 15 (.aload_n 0) 1 16 := by decide +kernel
theorem dX6_frays_16 : DD cX6_frays 16 (.iload_n 1) 1 17 := by decide +kernel
theorem dX6_frays_17 : DD cX6_frays 17 (.invokestatic 142) 3 20 := by decide +kernel
theorem dX6_frays_20 : DD cX6_frays 20 (.aload_n 0) 1 21 := by decide +kernel
theorem dX6_frays_21 : DD cX6_frays 21 (.iload_n 3) 1 22 := by decide +kernel
theorem dX6_frays_22 : DD cX6_frays 22 (.iconst 2) 1 23 := by decide +kernel
theorem dX6_frays_23 : DD cX6_frays 23 (.iadd) 1 24 := by decide +kernel
theorem dX6_frays_24 : DD cX6_frays 24 (.iaload) 1 25 := by decide +kernel
theorem dX6_frays_25 : DD cX6_frays 25 (.if_icmp .le 7) 3 28 := by decide +kernel
theorem dX6_frays_28 : DD cX6_frays 28 (.iconst 1) 1 29 := by decide +kernel
theorem dX6_frays_29 : DD cX6_frays 29 (.goto 4) 3 32 := by decide +kernel
theorem dX6_frays_32 : DD cX6_frays 32 (.iconst 0) 1 33 := by decide +kernel
theorem dX6_frays_33 : DD cX6_frays 33 (.istore 4) 2 35 := by decide +kernel
theorem dX6_frays_35 : DD cX6_frays 35 (.aload_n 0) 1 36 := by decide +kernel
theorem dX6_frays_36 : DD cX6_frays 36 (.iload_n 3) 1 37 := by decide +kernel
theorem dX6_frays_37 : DD cX6_frays 37 (.iconst 3) 1 38 := by decide +kernel
theorem dX6_frays_38 : DD cX6_frays 38 (.iadd) 1 39 := by decide +kernel
theorem dX6_frays_39 : DD cX6_frays 39 (.dup2) 1 40 := by decide +kernel
theorem dX6_frays_40 : DD cX6_frays 40 (.iaload) 1 41 := by decide +kernel
theorem dX6_frays_41 : DD cX6_frays 41 (.iload 4) 2 43 := by decide +kernel
theorem dX6_frays_43 : DD cX6_frays 43 (.iadd) 1 44 := by decide +kernel
theorem dX6_frays_44 : DD cX6_frays 44 (.iastore) 1 45 := by decide +kernel
theorem dX6_frays_45 : DD cX6_frays 45 (.aload_n 0) 1 46 := by decide +kernel
theorem dX6_frays_46 : DD cX6_frays 46 (.iload_n 3) 1 47 := by decide +kernel
theorem dX6_frays_47 : DD cX6_frays 47 (.iconst 3) 1 48 := by decide +kernel
theorem dX6_frays_48 : DD cX6_frays 48 (.iadd) 1 49 := by decide +kernel
theorem dX6_frays_49 : DD cX6_frays 49 (.iaload) 1 50 := by decide +kernel
theorem dX6_frays_50 : DD cX6_frays 50 (.aload_n 0) 1 51 := by decide +kernel
theorem dX6_frays_51 : DD cX6_frays 51 (.iload_n 3) 1 52 := by decide +kernel
theorem dX6_frays_52 : DD cX6_frays 52 (.iaload) 1 53 := by decide +kernel
theorem dX6_frays_53 : DD cX6_frays 53 (.iconst 3) 1 54 := by decide +kernel
theorem dX6_frays_54 : DD cX6_frays 54 (.if_icmp .ne 8) 3 57 := by decide +kernel
theorem dX6_frays_57 : DD cX6_frays 57 (.bipush 6) 2 59 := by decide +kernel
theorem dX6_frays_59 : DD cX6_frays 59 (.goto 4) 3 62 := by decide +kernel
theorem dX6_frays_62 : DD cX6_frays 62 (.iconst 3) 1 63 := by decide +kernel
theorem dX6_frays_63 : DD cX6_frays 63 (.if_icmp .lt 7) 3 66 := by decide +kernel
theorem dX6_frays_66 : DD cX6_frays 66 (.iconst 1) 1 67 := by decide +kernel
theorem dX6_frays_67 : DD cX6_frays 67 (.goto 4) 3 70 := by decide +kernel
theorem dX6_frays_70 : DD cX6_frays 70 (.iconst 0) 1 71 := by decide +kernel
theorem dX6_frays_71 : DD cX6_frays 71 (.istore 5) 2 73 := by decide +kernel
theorem dX6_frays_73 : DD cX6_frays 73 (.iload 5) 2 75 := by decide +kernel
theorem dX6_frays_75 : DD cX6_frays 75 (.ifCond .ne 15) 3 78 := by decide +kernel
theorem dX6_frays_78 : DD cX6_frays 78 (.aload_n 0) 1 79 := by decide +kernel
theorem dX6_frays_79 : DD cX6_frays 79 (.iload_n 3) 1 80 := by decide +kernel
theorem dX6_frays_80 : DD cX6_frays 80 (.iaload) 1 81 := by decide +kernel
theorem dX6_frays_81 : DD cX6_frays 81 (.iconst 5) 1 82 := by decide +kernel
theorem dX6_frays_82 : DD cX6_frays 82 (.if_icmp .ne 13) 3 85 := by decide +kernel
theorem dX6_frays_85 : DD cX6_frays 85 (.iload_n 2) 1 86 := by decide +kernel
theorem dX6_frays_86 : DD cX6_frays 86 (.iconst 4) 1 87 := by decide +kernel
theorem dX6_frays_87 : DD cX6_frays 87 (.if_icmp .le 8) 3 90 := by decide +kernel
theorem dX6_frays_90 : DD cX6_frays 90 (.aload_n 0) 1 91 := by decide +kernel
theorem dX6_frays_91 : DD cX6_frays 91 (.iload_n 1) 1 92 := by decide +kernel
theorem dX6_frays_92 : DD cX6_frays 92 (.invokestatic 149) 3 95 := by decide +kernel
theorem dX6_frays_95 : DD cX6_frays 95 (.return_) 1 96 := by decide +kernel
def fX6_frays (a0 : Nat) (a1 : Int32) (a2 : Int32) (h : AH) : Option (Unit × AH) := (vl ((5 : Int32) + ((5 : Int32) * a1)) fun z1 => (chk (inb (z1 + (4 : Int32)) (ln a0)) (if (h a0 (Int32.toNatClampNeg (z1 + (4 : Int32)))) = (1 : Int32) then (bnd (fX6_draws a0 a1 h) fun v3 h2 => (chk (inb (z1 + (2 : Int32)) (ln a0)) (if (h2 a0 (Int32.toNatClampNeg (z1 + (2 : Int32)))) < v3 then (chk (inb (z1 + (3 : Int32)) (ln a0)) (chk (inb (z1 + (3 : Int32)) (ln a0)) (sto (hs h2 a0 (Int32.toNatClampNeg (z1 + (3 : Int32))) ((h2 a0 (Int32.toNatClampNeg (z1 + (3 : Int32)))) + (1 : Int32))) fun h4 => (chk (inb (z1 + (3 : Int32)) (ln a0)) (chk (inb z1 (ln a0)) (if (h4 a0 (Int32.toNatClampNeg z1)) = (3 : Int32) then (if (h4 a0 (Int32.toNatClampNeg (z1 + (3 : Int32)))) < (6 : Int32) then (if (0 : Int32) = 0 then (chk (inb z1 (ln a0)) (if (h4 a0 (Int32.toNatClampNeg z1)) = (5 : Int32) then (if (4 : Int32) < a2 then (bnd (fX6_drops a0 a1 h4) fun _ h5 => (some ((), h5))) else (some ((), h4))) else (some ((), h4)))) else none) else (if (1 : Int32) = 0 then none else (bnd (fX6_drops a0 a1 h4) fun _ h6 => (some ((), h6))))) else (if (h4 a0 (Int32.toNatClampNeg (z1 + (3 : Int32)))) < (3 : Int32) then (if (0 : Int32) = 0 then (chk (inb z1 (ln a0)) (if (h4 a0 (Int32.toNatClampNeg z1)) = (5 : Int32) then (if (4 : Int32) < a2 then (bnd (fX6_drops a0 a1 h4) fun _ h7 => (some ((), h7))) else (some ((), h4))) else (some ((), h4)))) else none) else (if (1 : Int32) = 0 then none else (bnd (fX6_drops a0 a1 h4) fun _ h8 => (some ((), h8))))))))))) else (chk (inb (z1 + (3 : Int32)) (ln a0)) (chk (inb (z1 + (3 : Int32)) (ln a0)) (sto (hs h2 a0 (Int32.toNatClampNeg (z1 + (3 : Int32))) ((h2 a0 (Int32.toNatClampNeg (z1 + (3 : Int32)))) + (0 : Int32))) fun h9 => (chk (inb (z1 + (3 : Int32)) (ln a0)) (chk (inb z1 (ln a0)) (if (h9 a0 (Int32.toNatClampNeg z1)) = (3 : Int32) then (if (h9 a0 (Int32.toNatClampNeg (z1 + (3 : Int32)))) < (6 : Int32) then (if (0 : Int32) = 0 then (chk (inb z1 (ln a0)) (if (h9 a0 (Int32.toNatClampNeg z1)) = (5 : Int32) then (if (4 : Int32) < a2 then (bnd (fX6_drops a0 a1 h9) fun _ h10 => (some ((), h10))) else (some ((), h9))) else (some ((), h9)))) else none) else (if (1 : Int32) = 0 then none else (bnd (fX6_drops a0 a1 h9) fun _ h11 => (some ((), h11))))) else (if (h9 a0 (Int32.toNatClampNeg (z1 + (3 : Int32)))) < (3 : Int32) then (if (0 : Int32) = 0 then (chk (inb z1 (ln a0)) (if (h9 a0 (Int32.toNatClampNeg z1)) = (5 : Int32) then (if (4 : Int32) < a2 then (bnd (fX6_drops a0 a1 h9) fun _ h12 => (some ((), h12))) else (some ((), h9))) else (some ((), h9)))) else none) else (if (1 : Int32) = 0 then none else (bnd (fX6_drops a0 a1 h9) fun _ h13 => (some ((), h13)))))))))))))) else (some ((), h)))))
set_option maxHeartbeats 4000000 in
set_option maxRecDepth 4000 in
theorem uX6_frays {l : Launch} {X : WX} {a0 : Nat} {a1 : Int32} {a2 : Int32} {h h' : AH} {v : Unit} (ka0 : kd a0 = 7) (hf : fX6_frays a0 a1 a2 h = some (v, h')) : Does l X 2 yX6_frays cX6_frays 6 none [.ref (X.1 + a0), .int a1, .int a2] h (eV v) h' := by
  refine Does.of (enc := eV) (o := fX6_frays a0 a1 a2 h) (lv := [(0, .ref (X.1 + a0)), (1, .int a1), (2, .int a2)]) (by decide) (Nat.le_of_ble_eq_true rfl) rfl hf (fun K hl hK => ?_)
  subst hl
  unfold fX6_frays
  refine J_iconst hK dX6_frays_0 ci_5 ?_
  refine J_iconst hK dX6_frays_1 ci_5 ?_
  refine J_iload_n hK dX6_frays_2 1 rfl ?_
  refine J_imul hK dX6_frays_3 ?_
  refine J_iadd hK dX6_frays_4 ?_
  refine J_istoreV_n (n := 3) (lw := [(0, .ref (X.1 + a0)), (1, .int a1), (2, .int a2)]) hK dX6_frays_5 rfl (by decide) rfl (fun z1 => ?_)
  refine J_aload_n hK dX6_frays_6 1 rfl ?_
  refine J_iload_n hK dX6_frays_7 0 rfl ?_
  refine J_iconst hK dX6_frays_8 ci_4 ?_
  refine J_iadd hK dX6_frays_9 ?_
  refine J_iald hK dX6_frays_10 ka0 (fun _ => ?_)
  refine J_iconst hK dX6_frays_11 ci_1 ?_
  refine J_icmp_ne (tgt := 95) hK dX6_frays_12 (by decide) ?_ ?_
  · refine J_aload_n hK dX6_frays_15 1 rfl ?_
    refine J_iload_n hK dX6_frays_16 2 rfl ?_
    refine J_callSi (As := [.ref (X.1 + a0), .int a1]) (st := []) hK dX6_frays_17 kB_X6_142 kS_X6_draws (by decide) rfl rfl (Nat.le_of_ble_eq_true rfl) (fun _ _ hf => uX6_draws ka0 hf) (fun v3 h2 => ?_)
    refine J_aload_n hK dX6_frays_20 1 rfl ?_
    refine J_iload_n hK dX6_frays_21 0 rfl ?_
    refine J_iconst hK dX6_frays_22 ci_2 ?_
    refine J_iadd hK dX6_frays_23 ?_
    refine J_iald hK dX6_frays_24 ka0 (fun _ => ?_)
    refine J_icmp_le (tgt := 32) hK dX6_frays_25 (by decide) ?_ ?_
    · refine J_iconst hK dX6_frays_28 ci_1 ?_
      refine J_goto (len := 0) (tgt := 33) hK dX6_frays_29 (by decide) ?_
      refine J_istore (lw := [(3, .int z1), (0, .ref (X.1 + a0)), (1, .int a1), (2, .int a2)]) hK dX6_frays_33 (by decide) rfl ?_
      refine J_aload_n hK dX6_frays_35 2 rfl ?_
      refine J_iload_n hK dX6_frays_36 1 rfl ?_
      refine J_iconst hK dX6_frays_37 ci_3 ?_
      refine J_iadd hK dX6_frays_38 ?_
      refine J_dup2 hK dX6_frays_39 rfl rfl ?_
      refine J_iald hK dX6_frays_40 ka0 (fun _ => ?_)
      refine J_iload hK dX6_frays_41 0 rfl ?_
      refine J_iadd hK dX6_frays_43 ?_
      refine J_iast hK dX6_frays_44 ka0 (fun h4 => ?_)
      refine J_aload_n hK dX6_frays_45 2 rfl ?_
      refine J_iload_n hK dX6_frays_46 1 rfl ?_
      refine J_iconst hK dX6_frays_47 ci_3 ?_
      refine J_iadd hK dX6_frays_48 ?_
      refine J_iald hK dX6_frays_49 ka0 (fun _ => ?_)
      refine J_aload_n hK dX6_frays_50 2 rfl ?_
      refine J_iload_n hK dX6_frays_51 1 rfl ?_
      refine J_iald hK dX6_frays_52 ka0 (fun _ => ?_)
      refine J_iconst hK dX6_frays_53 ci_3 ?_
      refine J_icmp_ne (tgt := 62) hK dX6_frays_54 (by decide) ?_ ?_
      · refine J_bipush hK dX6_frays_57 cb_6 ?_
        refine J_goto (len := 0) (tgt := 63) hK dX6_frays_59 (by decide) ?_
        refine J_icmp_lt (tgt := 70) hK dX6_frays_63 (by decide) ?_ ?_
        · refine J_iconst hK dX6_frays_70 ci_0 ?_
          refine J_istore (lw := [(4, .int (1 : Int32)), (3, .int z1), (0, .ref (X.1 + a0)), (1, .int a1), (2, .int a2)]) hK dX6_frays_71 (by decide) rfl ?_
          refine J_iload hK dX6_frays_73 0 rfl ?_
          refine J_if_ne (tgt := 90) hK dX6_frays_75 (by decide) ?_ ?_
          · refine J_aload_n hK dX6_frays_78 3 rfl ?_
            refine J_iload_n hK dX6_frays_79 2 rfl ?_
            refine J_iald hK dX6_frays_80 ka0 (fun _ => ?_)
            refine J_iconst hK dX6_frays_81 ci_5 ?_
            refine J_icmp_ne (tgt := 95) hK dX6_frays_82 (by decide) ?_ ?_
            · refine J_iload_n hK dX6_frays_85 5 rfl ?_
              refine J_iconst hK dX6_frays_86 ci_4 ?_
              refine J_icmp_le (tgt := 95) hK dX6_frays_87 (by decide) ?_ ?_
              · refine J_aload_n hK dX6_frays_90 3 rfl ?_
                refine J_iload_n hK dX6_frays_91 4 rfl ?_
                refine J_callSv (As := [.ref (X.1 + a0), .int a1]) (st := []) hK dX6_frays_92 kB_X6_149 kS_X6_drops (by decide) rfl rfl (Nat.le_of_ble_eq_true rfl) (fun _ _ hf => uX6_drops ka0 hf) (fun _ h5 => ?_)
                exact J_vret hK dX6_frays_95
              · exact J_vret hK dX6_frays_95
            · exact J_vret hK dX6_frays_95
          · exact J_none
        · refine J_iconst hK dX6_frays_66 ci_1 ?_
          refine J_goto (len := 0) (tgt := 71) hK dX6_frays_67 (by decide) ?_
          refine J_istore (lw := [(4, .int (1 : Int32)), (3, .int z1), (0, .ref (X.1 + a0)), (1, .int a1), (2, .int a2)]) hK dX6_frays_71 (by decide) rfl ?_
          refine J_iload hK dX6_frays_73 0 rfl ?_
          refine J_if_ne (tgt := 90) hK dX6_frays_75 (by decide) ?_ ?_
          · exact J_none
          · refine J_aload_n hK dX6_frays_90 3 rfl ?_
            refine J_iload_n hK dX6_frays_91 4 rfl ?_
            refine J_callSv (As := [.ref (X.1 + a0), .int a1]) (st := []) hK dX6_frays_92 kB_X6_149 kS_X6_drops (by decide) rfl rfl (Nat.le_of_ble_eq_true rfl) (fun _ _ hf => uX6_drops ka0 hf) (fun _ h6 => ?_)
            exact J_vret hK dX6_frays_95
      · refine J_iconst hK dX6_frays_62 ci_3 ?_
        refine J_icmp_lt (tgt := 70) hK dX6_frays_63 (by decide) ?_ ?_
        · refine J_iconst hK dX6_frays_70 ci_0 ?_
          refine J_istore (lw := [(4, .int (1 : Int32)), (3, .int z1), (0, .ref (X.1 + a0)), (1, .int a1), (2, .int a2)]) hK dX6_frays_71 (by decide) rfl ?_
          refine J_iload hK dX6_frays_73 0 rfl ?_
          refine J_if_ne (tgt := 90) hK dX6_frays_75 (by decide) ?_ ?_
          · refine J_aload_n hK dX6_frays_78 3 rfl ?_
            refine J_iload_n hK dX6_frays_79 2 rfl ?_
            refine J_iald hK dX6_frays_80 ka0 (fun _ => ?_)
            refine J_iconst hK dX6_frays_81 ci_5 ?_
            refine J_icmp_ne (tgt := 95) hK dX6_frays_82 (by decide) ?_ ?_
            · refine J_iload_n hK dX6_frays_85 5 rfl ?_
              refine J_iconst hK dX6_frays_86 ci_4 ?_
              refine J_icmp_le (tgt := 95) hK dX6_frays_87 (by decide) ?_ ?_
              · refine J_aload_n hK dX6_frays_90 3 rfl ?_
                refine J_iload_n hK dX6_frays_91 4 rfl ?_
                refine J_callSv (As := [.ref (X.1 + a0), .int a1]) (st := []) hK dX6_frays_92 kB_X6_149 kS_X6_drops (by decide) rfl rfl (Nat.le_of_ble_eq_true rfl) (fun _ _ hf => uX6_drops ka0 hf) (fun _ h7 => ?_)
                exact J_vret hK dX6_frays_95
              · exact J_vret hK dX6_frays_95
            · exact J_vret hK dX6_frays_95
          · exact J_none
        · refine J_iconst hK dX6_frays_66 ci_1 ?_
          refine J_goto (len := 0) (tgt := 71) hK dX6_frays_67 (by decide) ?_
          refine J_istore (lw := [(4, .int (1 : Int32)), (3, .int z1), (0, .ref (X.1 + a0)), (1, .int a1), (2, .int a2)]) hK dX6_frays_71 (by decide) rfl ?_
          refine J_iload hK dX6_frays_73 0 rfl ?_
          refine J_if_ne (tgt := 90) hK dX6_frays_75 (by decide) ?_ ?_
          · exact J_none
          · refine J_aload_n hK dX6_frays_90 3 rfl ?_
            refine J_iload_n hK dX6_frays_91 4 rfl ?_
            refine J_callSv (As := [.ref (X.1 + a0), .int a1]) (st := []) hK dX6_frays_92 kB_X6_149 kS_X6_drops (by decide) rfl rfl (Nat.le_of_ble_eq_true rfl) (fun _ _ hf => uX6_drops ka0 hf) (fun _ h8 => ?_)
            exact J_vret hK dX6_frays_95
    · refine J_iconst hK dX6_frays_32 ci_0 ?_
      refine J_istore (lw := [(3, .int z1), (0, .ref (X.1 + a0)), (1, .int a1), (2, .int a2)]) hK dX6_frays_33 (by decide) rfl ?_
      refine J_aload_n hK dX6_frays_35 2 rfl ?_
      refine J_iload_n hK dX6_frays_36 1 rfl ?_
      refine J_iconst hK dX6_frays_37 ci_3 ?_
      refine J_iadd hK dX6_frays_38 ?_
      refine J_dup2 hK dX6_frays_39 rfl rfl ?_
      refine J_iald hK dX6_frays_40 ka0 (fun _ => ?_)
      refine J_iload hK dX6_frays_41 0 rfl ?_
      refine J_iadd hK dX6_frays_43 ?_
      refine J_iast hK dX6_frays_44 ka0 (fun h9 => ?_)
      refine J_aload_n hK dX6_frays_45 2 rfl ?_
      refine J_iload_n hK dX6_frays_46 1 rfl ?_
      refine J_iconst hK dX6_frays_47 ci_3 ?_
      refine J_iadd hK dX6_frays_48 ?_
      refine J_iald hK dX6_frays_49 ka0 (fun _ => ?_)
      refine J_aload_n hK dX6_frays_50 2 rfl ?_
      refine J_iload_n hK dX6_frays_51 1 rfl ?_
      refine J_iald hK dX6_frays_52 ka0 (fun _ => ?_)
      refine J_iconst hK dX6_frays_53 ci_3 ?_
      refine J_icmp_ne (tgt := 62) hK dX6_frays_54 (by decide) ?_ ?_
      · refine J_bipush hK dX6_frays_57 cb_6 ?_
        refine J_goto (len := 0) (tgt := 63) hK dX6_frays_59 (by decide) ?_
        refine J_icmp_lt (tgt := 70) hK dX6_frays_63 (by decide) ?_ ?_
        · refine J_iconst hK dX6_frays_70 ci_0 ?_
          refine J_istore (lw := [(4, .int (0 : Int32)), (3, .int z1), (0, .ref (X.1 + a0)), (1, .int a1), (2, .int a2)]) hK dX6_frays_71 (by decide) rfl ?_
          refine J_iload hK dX6_frays_73 0 rfl ?_
          refine J_if_ne (tgt := 90) hK dX6_frays_75 (by decide) ?_ ?_
          · refine J_aload_n hK dX6_frays_78 3 rfl ?_
            refine J_iload_n hK dX6_frays_79 2 rfl ?_
            refine J_iald hK dX6_frays_80 ka0 (fun _ => ?_)
            refine J_iconst hK dX6_frays_81 ci_5 ?_
            refine J_icmp_ne (tgt := 95) hK dX6_frays_82 (by decide) ?_ ?_
            · refine J_iload_n hK dX6_frays_85 5 rfl ?_
              refine J_iconst hK dX6_frays_86 ci_4 ?_
              refine J_icmp_le (tgt := 95) hK dX6_frays_87 (by decide) ?_ ?_
              · refine J_aload_n hK dX6_frays_90 3 rfl ?_
                refine J_iload_n hK dX6_frays_91 4 rfl ?_
                refine J_callSv (As := [.ref (X.1 + a0), .int a1]) (st := []) hK dX6_frays_92 kB_X6_149 kS_X6_drops (by decide) rfl rfl (Nat.le_of_ble_eq_true rfl) (fun _ _ hf => uX6_drops ka0 hf) (fun _ h10 => ?_)
                exact J_vret hK dX6_frays_95
              · exact J_vret hK dX6_frays_95
            · exact J_vret hK dX6_frays_95
          · exact J_none
        · refine J_iconst hK dX6_frays_66 ci_1 ?_
          refine J_goto (len := 0) (tgt := 71) hK dX6_frays_67 (by decide) ?_
          refine J_istore (lw := [(4, .int (0 : Int32)), (3, .int z1), (0, .ref (X.1 + a0)), (1, .int a1), (2, .int a2)]) hK dX6_frays_71 (by decide) rfl ?_
          refine J_iload hK dX6_frays_73 0 rfl ?_
          refine J_if_ne (tgt := 90) hK dX6_frays_75 (by decide) ?_ ?_
          · exact J_none
          · refine J_aload_n hK dX6_frays_90 3 rfl ?_
            refine J_iload_n hK dX6_frays_91 4 rfl ?_
            refine J_callSv (As := [.ref (X.1 + a0), .int a1]) (st := []) hK dX6_frays_92 kB_X6_149 kS_X6_drops (by decide) rfl rfl (Nat.le_of_ble_eq_true rfl) (fun _ _ hf => uX6_drops ka0 hf) (fun _ h11 => ?_)
            exact J_vret hK dX6_frays_95
      · refine J_iconst hK dX6_frays_62 ci_3 ?_
        refine J_icmp_lt (tgt := 70) hK dX6_frays_63 (by decide) ?_ ?_
        · refine J_iconst hK dX6_frays_70 ci_0 ?_
          refine J_istore (lw := [(4, .int (0 : Int32)), (3, .int z1), (0, .ref (X.1 + a0)), (1, .int a1), (2, .int a2)]) hK dX6_frays_71 (by decide) rfl ?_
          refine J_iload hK dX6_frays_73 0 rfl ?_
          refine J_if_ne (tgt := 90) hK dX6_frays_75 (by decide) ?_ ?_
          · refine J_aload_n hK dX6_frays_78 3 rfl ?_
            refine J_iload_n hK dX6_frays_79 2 rfl ?_
            refine J_iald hK dX6_frays_80 ka0 (fun _ => ?_)
            refine J_iconst hK dX6_frays_81 ci_5 ?_
            refine J_icmp_ne (tgt := 95) hK dX6_frays_82 (by decide) ?_ ?_
            · refine J_iload_n hK dX6_frays_85 5 rfl ?_
              refine J_iconst hK dX6_frays_86 ci_4 ?_
              refine J_icmp_le (tgt := 95) hK dX6_frays_87 (by decide) ?_ ?_
              · refine J_aload_n hK dX6_frays_90 3 rfl ?_
                refine J_iload_n hK dX6_frays_91 4 rfl ?_
                refine J_callSv (As := [.ref (X.1 + a0), .int a1]) (st := []) hK dX6_frays_92 kB_X6_149 kS_X6_drops (by decide) rfl rfl (Nat.le_of_ble_eq_true rfl) (fun _ _ hf => uX6_drops ka0 hf) (fun _ h12 => ?_)
                exact J_vret hK dX6_frays_95
              · exact J_vret hK dX6_frays_95
            · exact J_vret hK dX6_frays_95
          · exact J_none
        · refine J_iconst hK dX6_frays_66 ci_1 ?_
          refine J_goto (len := 0) (tgt := 71) hK dX6_frays_67 (by decide) ?_
          refine J_istore (lw := [(4, .int (0 : Int32)), (3, .int z1), (0, .ref (X.1 + a0)), (1, .int a1), (2, .int a2)]) hK dX6_frays_71 (by decide) rfl ?_
          refine J_iload hK dX6_frays_73 0 rfl ?_
          refine J_if_ne (tgt := 90) hK dX6_frays_75 (by decide) ?_ ?_
          · exact J_none
          · refine J_aload_n hK dX6_frays_90 3 rfl ?_
            refine J_iload_n hK dX6_frays_91 4 rfl ?_
            refine J_callSv (As := [.ref (X.1 + a0), .int a1]) (st := []) hK dX6_frays_92 kB_X6_149 kS_X6_drops (by decide) rfl rfl (Nat.le_of_ble_eq_true rfl) (fun _ _ hf => uX6_drops ka0 hf) (fun _ h13 => ?_)
            exact J_vret hK dX6_frays_95
  · exact J_vret hK dX6_frays_95
-- X6_image
theorem dX6_image_0 : DD cX6_image 0 (.iload_n 1) 1 1 := by decide +kernel
theorem dX6_image_1 : DD cX6_image 1 (.iconst 0) 1 2 := by decide +kernel
theorem dX6_image_2 : DD cX6_image 2 (.iconst 1) 1 3 := by decide +kernel
theorem dX6_image_3 : DD cX6_image 3 (.invokestatic 53) 3 6 := by decide +kernel
theorem dX6_image_6 : DD cX6_image 6 (.ifCond .ne 6) 3 9 := by decide +kernel
theorem dX6_image_9 : DD cX6_image 9 (.ldc 61) 2 11 := by decide +kernel
theorem dX6_image_11 : DD cX6_image 11 (.ireturn) 1 12 := by decide +kernel
theorem dX6_image_12 : DD cX6_image 12 (.aload_n 0) 1 13 := by decide +kernel
theorem dX6_image_13 : DD cX6_image 13 (.invokevirtual 167) 3 16 := by decide +kernel
theorem dX6_image_16 : DD cX6_image 16 (.ifCond .ne 6) 3 19 := by decide +kernel
theorem dX6_image_19 : DD cX6_image 19 (.ldc 170) 2 21 := by decide +kernel
theorem dX6_image_21 : DD cX6_image 21 (.ireturn) 1 22 := by decide +kernel
theorem dX6_image_22 : DD cX6_image 22 (.aload_n 0) 1 23 := by decide +kernel
theorem dX6_image_23 : DD cX6_image 23 (.getfield 25) 3 26 := by decide +kernel
theorem dX6_image_26 : DD cX6_image 26 (.iconst 0) 1 27 := by decide +kernel
theorem dX6_image_27 : DD cX6_image 27 (.aload_n 0) 1 28 := by decide +kernel
theorem dX6_image_28 : DD cX6_image 28 (.getfield 37) 3 31 := by decide +kernel
theorem dX6_image_31 : DD cX6_image 31 (.bipush 43) 2 33 := by decide +kernel
theorem dX6_image_33 : DD cX6_image 33 (.iload_n 1) 1 34 := by decide +kernel
theorem dX6_image_34 : DD cX6_image 34 (.imul) 1 35 := by decide +kernel
theorem dX6_image_35 : DD cX6_image 35 (.invokestatic 135) 3 38 := by decide +kernel
theorem dX6_image_38 : DD cX6_image 38 (.aload_n 0) 1 39 := by decide +kernel
theorem dX6_image_39 : DD cX6_image 39 (.getfield 40) 3 42 := by decide +kernel
theorem dX6_image_42 : DD cX6_image 42 (.iload_n 1) 1 43 := by decide +kernel
theorem dX6_image_43 : DD cX6_image 43 (.iconst 1) 1 44 := by decide +kernel
theorem dX6_image_44 : DD cX6_image 44 (.bastore) 1 45 := by decide +kernel
theorem dX6_image_45 : DD cX6_image 45 (.iconst 1) 1 46 := by decide +kernel
theorem dX6_image_46 : DD cX6_image 46 (.ireturn) 1 47 := by decide +kernel
def fX6_image (a1 : Int32) (h : AH) : Option (Int32 × AH) := (bnd (fX6_in a1 (0 : Int32) (1 : Int32) h) fun v2 h1 => (if v2 = 0 then (some ((-1000001 : Int32), h1)) else (bnd (fX6_isEstuary  h1) fun v4 h3 => (if v4 = 0 then (some ((-1000002 : Int32), h3)) else (bnd (fX6_copies 284 (0 : Int32) 288 ((43 : Int32) * a1) h3) fun _ h5 => (chk (inb a1 (ln 289)) (sto (hs h5 289 (Int32.toNatClampNeg a1) (vp_nar .boolean (1 : Int32))) fun h6 => (some ((1 : Int32), h6)))))))))
set_option maxHeartbeats 4000000 in
set_option maxRecDepth 4000 in
theorem uX6_image {l : Launch} {X : WX} {a1 : Int32} {h h' : AH} {v : Int32} (hf : fX6_image a1 h = some (v, h')) : Does l X 2 yX6_image cX6_image 2 (some .int) [.ref (X.1 + 278), .int a1] h (eI v) h' := by
  refine Does.of (enc := eI) (o := fX6_image a1 h) (lv := [(0, .ref (X.1 + 278)), (1, .int a1)]) (by decide) (Nat.le_of_ble_eq_true rfl) rfl hf (fun K hl hK => ?_)
  subst hl
  unfold fX6_image
  refine J_iload_n hK dX6_image_0 1 rfl ?_
  refine J_iconst hK dX6_image_1 ci_0 ?_
  refine J_iconst hK dX6_image_2 ci_1 ?_
  refine J_callSi (As := [.int a1, .int (0 : Int32), .int (1 : Int32)]) (st := []) hK dX6_image_3 kB_X6_53 kS_X6_in (by decide) rfl rfl (Nat.le_of_ble_eq_true rfl) (fun _ _ hf => uX6_in  hf) (fun v2 h1 => ?_)
  refine J_if_ne (tgt := 12) hK dX6_image_6 (by decide) ?_ ?_
  · refine J_ldc hK dX6_image_9 kK_X6_61 ?_
    exact J_iret hK dX6_image_11
  · refine J_aload_n hK dX6_image_12 0 rfl ?_
    refine J_callVi (q := 278) (As := []) (st := []) hK dX6_image_13 kB_X6_167 kV_X6_isEstuary kd_278 (by decide) rfl rfl (by decide) rfl rfl (Nat.le_of_ble_eq_true rfl) (fun _ _ hf => uX6_isEstuary  hf) (fun v4 h3 => ?_)
    refine J_if_ne (tgt := 22) hK dX6_image_16 (by decide) ?_ ?_
    · refine J_ldc hK dX6_image_19 kK_X6_170 ?_
      exact J_iret hK dX6_image_21
    · refine J_aload_n hK dX6_image_22 0 rfl ?_
      refine rF_X6_25 (q2 := 284) hK dX6_image_23 kd_278 rfl ?_
      refine J_iconst hK dX6_image_26 ci_0 ?_
      refine J_aload_n hK dX6_image_27 0 rfl ?_
      refine rF_X6_37 (q2 := 288) hK dX6_image_28 kd_278 rfl ?_
      refine J_bipush hK dX6_image_31 cb_43 ?_
      refine J_iload_n hK dX6_image_33 1 rfl ?_
      refine J_imul hK dX6_image_34 ?_
      refine J_callSv (As := [.ref (X.1 + 284), .int (0 : Int32), .ref (X.1 + 288), .int ((43 : Int32) * a1)]) (st := []) hK dX6_image_35 kB_X6_135 kS_X6_copies (by decide) rfl rfl (Nat.le_of_ble_eq_true rfl) (fun _ _ hf => uX6_copies kd_284 kd_288 hf) (fun _ h5 => ?_)
      refine J_aload_n hK dX6_image_38 0 rfl ?_
      refine rF_X6_40 (q2 := 289) hK dX6_image_39 kd_278 rfl ?_
      refine J_iload_n hK dX6_image_42 1 rfl ?_
      refine J_iconst hK dX6_image_43 ci_1 ?_
      refine J_zast hK dX6_image_44 kd_289 (fun h6 => ?_)
      refine J_iconst hK dX6_image_45 ci_1 ?_
      exact J_iret hK dX6_image_46
-- X6_isNear
theorem dX6_isNear_0 : DD cX6_isNear 0 (.iload_n 0) 1 1 := by decide +kernel
theorem dX6_isNear_1 : DD cX6_isNear 1 (.iconst 1) 1 2 := by decide +kernel
theorem dX6_isNear_2 : DD cX6_isNear 2 (.bipush 30) 2 4 := by decide +kernel
theorem dX6_isNear_4 : DD cX6_isNear 4 (.invokestatic 53) 3 7 := by decide +kernel
theorem dX6_isNear_7 : DD cX6_isNear 7 (.ireturn) 1 8 := by decide +kernel
def fX6_isNear (a0 : Int32) (h : AH) : Option (Int32 × AH) := (bnd (fX6_in a0 (1 : Int32) (30 : Int32) h) fun v2 h1 => (chk (v2 = 0 ∨ v2 = 1) (some (v2, h1))))
set_option maxHeartbeats 4000000 in
set_option maxRecDepth 4000 in
theorem uX6_isNear {l : Launch} {X : WX} {a0 : Int32} {h h' : AH} {v : Int32} (hf : fX6_isNear a0 h = some (v, h')) : Does l X 2 yX6_isNear cX6_isNear 1 (some .boolean) [.int a0] h (eI v) h' := by
  refine Does.of (enc := eI) (o := fX6_isNear a0 h) (lv := [(0, .int a0)]) (by decide) (Nat.le_of_ble_eq_true rfl) rfl hf (fun K hl hK => ?_)
  subst hl
  unfold fX6_isNear
  refine J_iload_n hK dX6_isNear_0 0 rfl ?_
  refine J_iconst hK dX6_isNear_1 ci_1 ?_
  refine J_bipush hK dX6_isNear_2 cb_30 ?_
  refine J_callSi (As := [.int a0, .int (1 : Int32), .int (30 : Int32)]) (st := []) hK dX6_isNear_4 kB_X6_53 kS_X6_in (by decide) rfl rfl (Nat.le_of_ble_eq_true rfl) (fun _ _ hf => uX6_in  hf) (fun v2 h1 => ?_)
  exact J_zret hK dX6_isNear_7
-- X6_isPier
theorem dX6_isPier_0 : DD cX6_isPier 0 (.iload_n 1) 1 1 := by decide +kernel
theorem dX6_isPier_1 : DD cX6_isPier 1 (.iconst 0) 1 2 := by decide +kernel
theorem dX6_isPier_2 : DD cX6_isPier 2 (.aload_n 0) 1 3 := by decide +kernel
theorem dX6_isPier_3 : DD cX6_isPier 3 (.getfield 25) 3 6 := by decide +kernel
theorem dX6_isPier_6 : DD cX6_isPier 6 (.iconst 3) 1 7 := by decide +kernel
theorem dX6_isPier_7 : DD cX6_isPier 7 (.iaload) 1 8 := by decide +kernel
theorem dX6_isPier_8 : DD cX6_isPier 8 (.iconst 1) 1 9 := by decide +kernel
theorem dX6_isPier_9 : DD cX6_isPier 9 (.isub) 1 10 := by decide +kernel
theorem dX6_isPier_10 : DD cX6_isPier 10 (.invokestatic 53) 3 13 := by decide +kernel
theorem dX6_isPier_13 : DD cX6_isPier 13 (.ireturn) 1 14 := by decide +kernel
def fX6_isPier (a1 : Int32) (h : AH) : Option (Int32 × AH) := (chk (inb (3 : Int32) (ln 284)) (bnd (fX6_in a1 (0 : Int32) ((h 284 (Int32.toNatClampNeg (3 : Int32))) - (1 : Int32)) h) fun v2 h1 => (chk (v2 = 0 ∨ v2 = 1) (some (v2, h1)))))
set_option maxHeartbeats 4000000 in
set_option maxRecDepth 4000 in
theorem uX6_isPier {l : Launch} {X : WX} {a1 : Int32} {h h' : AH} {v : Int32} (hf : fX6_isPier a1 h = some (v, h')) : Does l X 2 yX6_isPier cX6_isPier 2 (some .boolean) [.ref (X.1 + 278), .int a1] h (eI v) h' := by
  refine Does.of (enc := eI) (o := fX6_isPier a1 h) (lv := [(0, .ref (X.1 + 278)), (1, .int a1)]) (by decide) (Nat.le_of_ble_eq_true rfl) rfl hf (fun K hl hK => ?_)
  subst hl
  unfold fX6_isPier
  refine J_iload_n hK dX6_isPier_0 1 rfl ?_
  refine J_iconst hK dX6_isPier_1 ci_0 ?_
  refine J_aload_n hK dX6_isPier_2 0 rfl ?_
  refine rF_X6_25 (q2 := 284) hK dX6_isPier_3 kd_278 rfl ?_
  refine J_iconst hK dX6_isPier_6 ci_3 ?_
  refine J_iald hK dX6_isPier_7 kd_284 (fun _ => ?_)
  refine J_iconst hK dX6_isPier_8 ci_1 ?_
  refine J_isub hK dX6_isPier_9 ?_
  refine J_callSi (As := [.int a1, .int (0 : Int32), .int ((h 284 (Int32.toNatClampNeg (3 : Int32))) - (1 : Int32))]) (st := []) hK dX6_isPier_10 kB_X6_53 kS_X6_in (by decide) rfl rfl (Nat.le_of_ble_eq_true rfl) (fun _ _ hf => uX6_in  hf) (fun v2 h1 => ?_)
  exact J_zret hK dX6_isPier_13
-- X6_isRow
theorem dX6_isRow_0 : DD cX6_isRow 0 (.iload_n 0) 1 1 := by decide +kernel
theorem dX6_isRow_1 : DD cX6_isRow 1 (.iconst 0) 1 2 := by decide +kernel
theorem dX6_isRow_2 : DD cX6_isRow 2 (.bipush 7) 2 4 := by decide +kernel
theorem dX6_isRow_4 : DD cX6_isRow 4 (.invokestatic 53) 3 7 := by decide +kernel
theorem dX6_isRow_7 : DD cX6_isRow 7 (.ireturn) 1 8 := by decide +kernel
def fX6_isRow (a0 : Int32) (h : AH) : Option (Int32 × AH) := (bnd (fX6_in a0 (0 : Int32) (7 : Int32) h) fun v2 h1 => (chk (v2 = 0 ∨ v2 = 1) (some (v2, h1))))
set_option maxHeartbeats 4000000 in
set_option maxRecDepth 4000 in
theorem uX6_isRow {l : Launch} {X : WX} {a0 : Int32} {h h' : AH} {v : Int32} (hf : fX6_isRow a0 h = some (v, h')) : Does l X 2 yX6_isRow cX6_isRow 1 (some .boolean) [.int a0] h (eI v) h' := by
  refine Does.of (enc := eI) (o := fX6_isRow a0 h) (lv := [(0, .int a0)]) (by decide) (Nat.le_of_ble_eq_true rfl) rfl hf (fun K hl hK => ?_)
  subst hl
  unfold fX6_isRow
  refine J_iload_n hK dX6_isRow_0 0 rfl ?_
  refine J_iconst hK dX6_isRow_1 ci_0 ?_
  refine J_bipush hK dX6_isRow_2 cb_7 ?_
  refine J_callSi (As := [.int a0, .int (0 : Int32), .int (7 : Int32)]) (st := []) hK dX6_isRow_4 kB_X6_53 kS_X6_in (by decide) rfl rfl (Nat.le_of_ble_eq_true rfl) (fun _ _ hf => uX6_in  hf) (fun v2 h1 => ?_)
  exact J_zret hK dX6_isRow_7
-- X6_isTug
theorem dX6_isTug_0 : DD cX6_isTug 0 (.iload_n 1) 1 1 := by decide +kernel
theorem dX6_isTug_1 : DD cX6_isTug 1 (.iconst 0) 1 2 := by decide +kernel
theorem dX6_isTug_2 : DD cX6_isTug 2 (.aload_n 0) 1 3 := by decide +kernel
theorem dX6_isTug_3 : DD cX6_isTug 3 (.getfield 25) 3 6 := by decide +kernel
theorem dX6_isTug_6 : DD cX6_isTug 6 (.iconst 2) 1 7 := by decide +kernel
theorem dX6_isTug_7 : DD cX6_isTug 7 (.iaload) 1 8 := by decide +kernel
theorem dX6_isTug_8 : DD cX6_isTug 8 (.iconst 1) 1 9 := by decide +kernel
theorem dX6_isTug_9 : DD cX6_isTug 9 (.isub) 1 10 := by decide +kernel
theorem dX6_isTug_10 : DD cX6_isTug 10 (.invokestatic 53) 3 13 := by decide +kernel
theorem dX6_isTug_13 : DD cX6_isTug 13 (.ireturn) 1 14 := by decide +kernel
def fX6_isTug (a1 : Int32) (h : AH) : Option (Int32 × AH) := (chk (inb (2 : Int32) (ln 284)) (bnd (fX6_in a1 (0 : Int32) ((h 284 (Int32.toNatClampNeg (2 : Int32))) - (1 : Int32)) h) fun v2 h1 => (chk (v2 = 0 ∨ v2 = 1) (some (v2, h1)))))
set_option maxHeartbeats 4000000 in
set_option maxRecDepth 4000 in
theorem uX6_isTug {l : Launch} {X : WX} {a1 : Int32} {h h' : AH} {v : Int32} (hf : fX6_isTug a1 h = some (v, h')) : Does l X 2 yX6_isTug cX6_isTug 2 (some .boolean) [.ref (X.1 + 278), .int a1] h (eI v) h' := by
  refine Does.of (enc := eI) (o := fX6_isTug a1 h) (lv := [(0, .ref (X.1 + 278)), (1, .int a1)]) (by decide) (Nat.le_of_ble_eq_true rfl) rfl hf (fun K hl hK => ?_)
  subst hl
  unfold fX6_isTug
  refine J_iload_n hK dX6_isTug_0 1 rfl ?_
  refine J_iconst hK dX6_isTug_1 ci_0 ?_
  refine J_aload_n hK dX6_isTug_2 0 rfl ?_
  refine rF_X6_25 (q2 := 284) hK dX6_isTug_3 kd_278 rfl ?_
  refine J_iconst hK dX6_isTug_6 ci_2 ?_
  refine J_iald hK dX6_isTug_7 kd_284 (fun _ => ?_)
  refine J_iconst hK dX6_isTug_8 ci_1 ?_
  refine J_isub hK dX6_isTug_9 ?_
  refine J_callSi (As := [.int a1, .int (0 : Int32), .int ((h 284 (Int32.toNatClampNeg (2 : Int32))) - (1 : Int32))]) (st := []) hK dX6_isTug_10 kB_X6_53 kS_X6_in (by decide) rfl rfl (Nat.le_of_ble_eq_true rfl) (fun _ _ hf => uX6_in  hf) (fun v2 h1 => ?_)
  exact J_zret hK dX6_isTug_13
-- X6_launchSize
theorem dX6_launchSize_0 : DD cX6_launchSize 0 (.aload_n 0) 1 1 := by decide +kernel
theorem dX6_launchSize_1 : DD cX6_launchSize 1 (.iload_n 1) 1 2 := by decide +kernel
theorem dX6_launchSize_2 : DD cX6_launchSize 2 (.invokevirtual 217) 3 5 := by decide +kernel
theorem dX6_launchSize_5 : DD cX6_launchSize 5 (.iconst 5) 1 6 := by decide +kernel
theorem dX6_launchSize_6 : DD cX6_launchSize 6 (.if_icmp .ne 7) 3 9 := by decide +kernel
theorem dX6_launchSize_9 : DD cX6_launchSize 9 (.iconst 1) 1 10 := by decide +kernel
theorem dX6_launchSize_10 : DD cX6_launchSize 10 (.goto 4) 3 13 := by decide +kernel
theorem dX6_launchSize_13 : DD cX6_launchSize 13 (.iconst 0) 1 14 := by decide +kernel
theorem dX6_launchSize_14 : DD cX6_launchSize 14 (.istore_n 2) 1 15 := by decide +kernel
theorem dX6_launchSize_15 : DD cX6_launchSize 15 (.iload_n 2) 1 16 := by decide +kernel
theorem dX6_launchSize_16 : DD cX6_launchSize 16 (.ifCond .eq 9) 3 19 := by decide +kernel
theorem dX6_launchSize_19 : DD cX6_launchSize 19 (.aload_n 0) 1 20 := by decide +kernel
theorem dX6_launchSize_20 : DD cX6_launchSize 20 (.bipush 14) 2 22 := by decide +kernel
theorem dX6_launchSize_22 : DD cX6_launchSize 22 (.invokevirtual 223) 3 25 := by decide +kernel
theorem dX6_launchSize_25 : DD cX6_launchSize 25 (.aload_n 0) 1 26 := by decide +kernel
theorem dX6_launchSize_26 : DD cX6_launchSize 26 (.bipush 13) 2 28 := by decide +kernel
theorem dX6_launchSize_28 : DD cX6_launchSize 28 (.invokevirtual 223) 3 31 := by decide +kernel
theorem dX6_launchSize_31 : DD cX6_launchSize 31 (.aload_n 0) 1 32 := by decide +kernel
theorem dX6_launchSize_32 : DD cX6_launchSize 32 (.bipush 10) 2 34 := by decide +kernel
theorem dX6_launchSize_34 : DD cX6_launchSize 34 (.invokevirtual 223) 3 37 := by decide +kernel
theorem dX6_launchSize_37 : DD cX6_launchSize 37 (.aload_n 0) 1 38 := by decide +kernel
theorem dX6_launchSize_38 : DD cX6_launchSize 38 (.getfield 25) 3 41 := by decide +kernel
theorem dX6_launchSize_41 : DD cX6_launchSize 41 (.iconst 5) 1 42 := by decide +kernel
theorem dX6_launchSize_42 : DD cX6_launchSize 42 (.iconst 5) 1 43 := by decide +kernel
theorem dX6_launchSize_43 : DD cX6_launchSize 43 (.iload_n 1) 1 44 := by decide +kernel
theorem dX6_launchSize_44 : DD cX6_launchSize 44 (.imul) 1 45 := by decide +kernel
theorem dX6_launchSize_45 : DD cX6_launchSize 45 (.iadd) 1 46 := by decide +kernel
theorem dX6_launchSize_46 : DD cX6_launchSize 46 (.iconst 1) 1 47 := by decide +kernel
theorem dX6_launchSize_47 : DD cX6_launchSize 47 (.iadd) 1 48 := by decide +kernel
theorem dX6_launchSize_48 : DD cX6_launchSize 48 (.iaload) 1 49 := by decide +kernel
theorem dX6_launchSize_49 : DD cX6_launchSize 49 (.bipush 100) 2 51 := by decide +kernel
theorem dX6_launchSize_51 : DD cX6_launchSize 51 (.isub) 1 52 := by decide +kernel
theorem dX6_launchSize_52 : DD cX6_launchSize 52 (.istore_n 3) 1 53 := by decide +kernel
theorem dX6_launchSize_53 : DD cX6_launchSize 53 (.iload_n 2) 1 54 := by decide +kernel
theorem dX6_launchSize_54 : DD cX6_launchSize 54 (.ifCond .eq 9) 3 57 := by decide +kernel
theorem dX6_launchSize_57 : DD cX6_launchSize 57 (.iconst 2) 1 58 := by decide +kernel
theorem dX6_launchSize_58 : DD cX6_launchSize 58 (.iload_n 3) 1 59 := by decide +kernel
theorem dX6_launchSize_59 : DD cX6_launchSize 59 (.imul) 1 60 := by decide +kernel
theorem dX6_launchSize_60 : DD cX6_launchSize 60 (.goto 4) 3 63 := by decide +kernel
theorem dX6_launchSize_63 : DD cX6_launchSize 63 (.iload_n 3) 1 64 := by decide +kernel
theorem dX6_launchSize_64 : DD cX6_launchSize 64 (.ireturn) 1 65 := by decide +kernel
def fX6_launchSize (a1 : Int32) (h : AH) : Option (Int32 × AH) := (bnd (fX6_kindIn a1 h) fun v2 h1 => (if v2 = (5 : Int32) then (if (1 : Int32) = 0 then none else (bnd (fX6_begins (14 : Int32) h1) fun _ h3 => (bnd (fX6_begins (13 : Int32) h3) fun _ h4 => (bnd (fX6_begins (10 : Int32) h4) fun _ h5 => (chk (inb (((5 : Int32) + ((5 : Int32) * a1)) + (1 : Int32)) (ln 284)) (vl ((h5 284 (Int32.toNatClampNeg (((5 : Int32) + ((5 : Int32) * a1)) + (1 : Int32)))) - (100 : Int32)) fun z6 => (if (1 : Int32) = 0 then none else (some (((2 : Int32) * z6), h5))))))))) else (if (0 : Int32) = 0 then (bnd (fX6_begins (13 : Int32) h1) fun _ h7 => (bnd (fX6_begins (10 : Int32) h7) fun _ h8 => (chk (inb (((5 : Int32) + ((5 : Int32) * a1)) + (1 : Int32)) (ln 284)) (vl ((h8 284 (Int32.toNatClampNeg (((5 : Int32) + ((5 : Int32) * a1)) + (1 : Int32)))) - (100 : Int32)) fun z9 => (if (0 : Int32) = 0 then (some (z9, h8)) else none))))) else none)))
set_option maxHeartbeats 4000000 in
set_option maxRecDepth 4000 in
theorem uX6_launchSize {l : Launch} {X : WX} {a1 : Int32} {h h' : AH} {v : Int32} (hf : fX6_launchSize a1 h = some (v, h')) : Does l X 2 yX6_launchSize cX6_launchSize 4 (some .int) [.ref (X.1 + 278), .int a1] h (eI v) h' := by
  refine Does.of (enc := eI) (o := fX6_launchSize a1 h) (lv := [(0, .ref (X.1 + 278)), (1, .int a1)]) (by decide) (Nat.le_of_ble_eq_true rfl) rfl hf (fun K hl hK => ?_)
  subst hl
  unfold fX6_launchSize
  refine J_aload_n hK dX6_launchSize_0 0 rfl ?_
  refine J_iload_n hK dX6_launchSize_1 1 rfl ?_
  refine J_callVi (q := 278) (As := [.int a1]) (st := []) hK dX6_launchSize_2 kB_X6_217 kV_X6_kindIn kd_278 (by decide) rfl rfl (by decide) rfl rfl (Nat.le_of_ble_eq_true rfl) (fun _ _ hf => uX6_kindIn  hf) (fun v2 h1 => ?_)
  refine J_iconst hK dX6_launchSize_5 ci_5 ?_
  refine J_icmp_ne (tgt := 13) hK dX6_launchSize_6 (by decide) ?_ ?_
  · refine J_iconst hK dX6_launchSize_9 ci_1 ?_
    refine J_goto (len := 0) (tgt := 14) hK dX6_launchSize_10 (by decide) ?_
    refine J_istore_n (n := 2) (lw := [(0, .ref (X.1 + 278)), (1, .int a1)]) hK dX6_launchSize_14 rfl (by decide) rfl ?_
    refine J_iload_n hK dX6_launchSize_15 0 rfl ?_
    refine J_if_eq (tgt := 25) hK dX6_launchSize_16 (by decide) ?_ ?_
    · exact J_none
    · refine J_aload_n hK dX6_launchSize_19 1 rfl ?_
      refine J_bipush hK dX6_launchSize_20 cb_14 ?_
      refine J_callVv (q := 278) (As := [.int (14 : Int32)]) (st := []) hK dX6_launchSize_22 kB_X6_223 kV_X6_begins kd_278 (by decide) rfl rfl (by decide) rfl rfl (Nat.le_of_ble_eq_true rfl) (fun _ _ hf => uX6_begins  hf) (fun _ h3 => ?_)
      refine J_aload_n hK dX6_launchSize_25 1 rfl ?_
      refine J_bipush hK dX6_launchSize_26 cb_13 ?_
      refine J_callVv (q := 278) (As := [.int (13 : Int32)]) (st := []) hK dX6_launchSize_28 kB_X6_223 kV_X6_begins kd_278 (by decide) rfl rfl (by decide) rfl rfl (Nat.le_of_ble_eq_true rfl) (fun _ _ hf => uX6_begins  hf) (fun _ h4 => ?_)
      refine J_aload_n hK dX6_launchSize_31 1 rfl ?_
      refine J_bipush hK dX6_launchSize_32 cb_10 ?_
      refine J_callVv (q := 278) (As := [.int (10 : Int32)]) (st := []) hK dX6_launchSize_34 kB_X6_223 kV_X6_begins kd_278 (by decide) rfl rfl (by decide) rfl rfl (Nat.le_of_ble_eq_true rfl) (fun _ _ hf => uX6_begins  hf) (fun _ h5 => ?_)
      refine J_aload_n hK dX6_launchSize_37 1 rfl ?_
      refine rF_X6_25 (q2 := 284) hK dX6_launchSize_38 kd_278 rfl ?_
      refine J_iconst hK dX6_launchSize_41 ci_5 ?_
      refine J_iconst hK dX6_launchSize_42 ci_5 ?_
      refine J_iload_n hK dX6_launchSize_43 2 rfl ?_
      refine J_imul hK dX6_launchSize_44 ?_
      refine J_iadd hK dX6_launchSize_45 ?_
      refine J_iconst hK dX6_launchSize_46 ci_1 ?_
      refine J_iadd hK dX6_launchSize_47 ?_
      refine J_iald hK dX6_launchSize_48 kd_284 (fun _ => ?_)
      refine J_bipush hK dX6_launchSize_49 cb_100 ?_
      refine J_isub hK dX6_launchSize_51 ?_
      refine J_istoreV_n (n := 3) (lw := [(2, .int (1 : Int32)), (0, .ref (X.1 + 278)), (1, .int a1)]) hK dX6_launchSize_52 rfl (by decide) rfl (fun z6 => ?_)
      refine J_iload_n hK dX6_launchSize_53 1 rfl ?_
      refine J_if_eq (tgt := 63) hK dX6_launchSize_54 (by decide) ?_ ?_
      · exact J_none
      · refine J_iconst hK dX6_launchSize_57 ci_2 ?_
        refine J_iload_n hK dX6_launchSize_58 0 rfl ?_
        refine J_imul hK dX6_launchSize_59 ?_
        refine J_goto (len := 0) (tgt := 64) hK dX6_launchSize_60 (by decide) ?_
        exact J_iret hK dX6_launchSize_64
  · refine J_iconst hK dX6_launchSize_13 ci_0 ?_
    refine J_istore_n (n := 2) (lw := [(0, .ref (X.1 + 278)), (1, .int a1)]) hK dX6_launchSize_14 rfl (by decide) rfl ?_
    refine J_iload_n hK dX6_launchSize_15 0 rfl ?_
    refine J_if_eq (tgt := 25) hK dX6_launchSize_16 (by decide) ?_ ?_
    · refine J_aload_n hK dX6_launchSize_25 1 rfl ?_
      refine J_bipush hK dX6_launchSize_26 cb_13 ?_
      refine J_callVv (q := 278) (As := [.int (13 : Int32)]) (st := []) hK dX6_launchSize_28 kB_X6_223 kV_X6_begins kd_278 (by decide) rfl rfl (by decide) rfl rfl (Nat.le_of_ble_eq_true rfl) (fun _ _ hf => uX6_begins  hf) (fun _ h7 => ?_)
      refine J_aload_n hK dX6_launchSize_31 1 rfl ?_
      refine J_bipush hK dX6_launchSize_32 cb_10 ?_
      refine J_callVv (q := 278) (As := [.int (10 : Int32)]) (st := []) hK dX6_launchSize_34 kB_X6_223 kV_X6_begins kd_278 (by decide) rfl rfl (by decide) rfl rfl (Nat.le_of_ble_eq_true rfl) (fun _ _ hf => uX6_begins  hf) (fun _ h8 => ?_)
      refine J_aload_n hK dX6_launchSize_37 1 rfl ?_
      refine rF_X6_25 (q2 := 284) hK dX6_launchSize_38 kd_278 rfl ?_
      refine J_iconst hK dX6_launchSize_41 ci_5 ?_
      refine J_iconst hK dX6_launchSize_42 ci_5 ?_
      refine J_iload_n hK dX6_launchSize_43 2 rfl ?_
      refine J_imul hK dX6_launchSize_44 ?_
      refine J_iadd hK dX6_launchSize_45 ?_
      refine J_iconst hK dX6_launchSize_46 ci_1 ?_
      refine J_iadd hK dX6_launchSize_47 ?_
      refine J_iald hK dX6_launchSize_48 kd_284 (fun _ => ?_)
      refine J_bipush hK dX6_launchSize_49 cb_100 ?_
      refine J_isub hK dX6_launchSize_51 ?_
      refine J_istoreV_n (n := 3) (lw := [(2, .int (0 : Int32)), (0, .ref (X.1 + 278)), (1, .int a1)]) hK dX6_launchSize_52 rfl (by decide) rfl (fun z9 => ?_)
      refine J_iload_n hK dX6_launchSize_53 1 rfl ?_
      refine J_if_eq (tgt := 63) hK dX6_launchSize_54 (by decide) ?_ ?_
      · refine J_iload_n hK dX6_launchSize_63 0 rfl ?_
        exact J_iret hK dX6_launchSize_64
      · exact J_none
    · exact J_none
-- X6_notes
theorem dX6_notes_0 : DD cX6_notes 0 (.aload_n 0) 1 1 := by decide +kernel
theorem dX6_notes_1 : DD cX6_notes 1 (.getfield 139) 3 4 := by decide +kernel
theorem dX6_notes_4 : DD cX6_notes 4 (.bipush 24) 2 6 := by decide +kernel
theorem dX6_notes_6 : DD cX6_notes 6 (.if_icmp .ne 43) 3 9 := by decide +kernel
theorem dX6_notes_9 : DD cX6_notes 9 (.iconst 0) 1 10 := by decide +kernel
theorem dX6_notes_10 : DD cX6_notes 10 (.istore_n 1) 1 11 := by decide +kernel
theorem dX6_notes_11 : DD cX6_notes 11 (.iload_n 1) 1 12 := by decide +kernel
theorem dX6_notes_12 : DD cX6_notes 12 (.sipush 989) 3 15 := by decide +kernel
theorem dX6_notes_15 : DD cX6_notes 15 (.if_icmp .ge 24) 3 18 := by decide +kernel
theorem dX6_notes_18 : DD cX6_notes 18 (.aload_n 0) 1 19 := by decide +kernel
theorem dX6_notes_19 : DD cX6_notes 19 (.getfield 34) 3 22 := by decide +kernel
theorem dX6_notes_22 : DD cX6_notes 22 (.iload_n 1) 1 23 := by decide +kernel
theorem dX6_notes_23 : DD cX6_notes 23 (.aload_n 0) 1 24 := by decide +kernel
theorem dX6_notes_24 : DD cX6_notes 24 (.getfield 34) 3 27 := by decide +kernel
theorem dX6_notes_27 : DD cX6_notes 27 (.iload_n 1) 1 28 := by decide +kernel
theorem dX6_notes_28 : DD cX6_notes 28 (.bipush 43) 2 30 := by decide +kernel
theorem dX6_notes_30 : DD cX6_notes 30 (.iadd) 1 31 := by decide +kernel
theorem dX6_notes_31 : DD cX6_notes 31 (.iaload) 1 32 := by decide +kernel
theorem dX6_notes_32 : DD cX6_notes 32 (.iastore) 1 33 := by decide +kernel
theorem dX6_notes_33 : DD cX6_notes 33 (.iinc 1 1) 3 36 := by decide +kernel
theorem dX6_notes_36 : DD cX6_notes 36 (.goto (-25)) 3 39 := by decide +kernel
theorem dX6_notes_39 : DD cX6_notes 39 (.aload_n 0) 1 40 := by decide +kernel
theorem dX6_notes_40 : DD cX6_notes 40 (.dup) 1 41 := by decide +kernel
theorem dX6_notes_41 : DD cX6_notes 41 (.getfield 139) 3 44 := by decide +kernel
theorem dX6_notes_44 : DD cX6_notes 44 (.iconst 1) 1 45 := by decide +kernel
theorem dX6_notes_45 : DD cX6_notes 45 (.isub) 1 46 := by decide +kernel
theorem dX6_notes_46 : DD cX6_notes 46 (.putfield 139) 3 49 := by decide +kernel
theorem dX6_notes_49 : DD cX6_notes 49 (.aload_n 0) 1 50 := by decide +kernel
theorem dX6_notes_50 : DD cX6_notes 50 (.getfield 25) 3 53 := by decide +kernel
theorem dX6_notes_53 : DD cX6_notes 53 (.iconst 0) 1 54 := by decide +kernel
theorem dX6_notes_54 : DD cX6_notes 54 (.aload_n 0) 1 55 := by decide +kernel
theorem dX6_notes_55 : DD cX6_notes 55 (.getfield 34) 3 58 := by decide +kernel
theorem dX6_notes_58 : DD cX6_notes 58 (.bipush 43) 2 60 := by decide +kernel
theorem dX6_notes_60 : DD cX6_notes 60 (.aload_n 0) 1 61 := by decide +kernel
theorem dX6_notes_61 : DD cX6_notes 61 (.getfield 139) 3 64 := by decide +kernel
theorem dX6_notes_64 : DD cX6_notes 64 (.imul) 1 65 := by decide +kernel
theorem dX6_notes_65 : DD cX6_notes 65 (.invokestatic 135) 3 68 := by decide +kernel
theorem dX6_notes_68 : DD cX6_notes 68 (.aload_n 0) 1 69 := by decide +kernel
theorem dX6_notes_69 : DD cX6_notes 69 (.dup) 1 70 := by decide +kernel
theorem dX6_notes_70 : DD cX6_notes 70 (.getfield 139) 3 73 := by decide +kernel
theorem dX6_notes_73 : DD cX6_notes 73 (.iconst 1) 1 74 := by decide +kernel
theorem dX6_notes_74 : DD cX6_notes 74 (.iadd) 1 75 := by decide +kernel
theorem dX6_notes_75 : DD cX6_notes 75 (.putfield 139) 3 78 := by decide +kernel
theorem dX6_notes_78 : DD cX6_notes 78 (.return_) 1 79 := by decide +kernel
def fX6_notes_L11 : Nat → Int32 → AH → (Int32 → AH → Option (Unit × AH)) → Option (Unit × AH)
  | 0, _, _, _ => none
  | n + 1, x1, h, k => (if x1 < (989 : Int32) then (chk (inb (x1 + (43 : Int32)) (ln 287)) (chk (inb x1 (ln 287)) (sto (hs h 287 (Int32.toNatClampNeg x1) (h 287 (Int32.toNatClampNeg (x1 + (43 : Int32))))) fun h201 => (vl (x1 + (1 : Int32)) fun z202 => fX6_notes_L11 n z202 h201 k)))) else k x1 h)
def fX6_notes (h : AH) : Option (Unit × AH) := (if (h 278 17) = (24 : Int32) then (fX6_notes_L11  FU (0 : Int32) h fun z1 h2 => (sto (hs h2 278 17 ((h2 278 17) - (1 : Int32))) fun h3 => (bnd (fX6_copies 284 (0 : Int32) 287 ((43 : Int32) * (h3 278 17)) h3) fun _ h4 => (sto (hs h4 278 17 ((h4 278 17) + (1 : Int32))) fun h5 => (some ((), h5)))))) else (bnd (fX6_copies 284 (0 : Int32) 287 ((43 : Int32) * (h 278 17)) h) fun _ h6 => (sto (hs h6 278 17 ((h6 278 17) + (1 : Int32))) fun h7 => (some ((), h7)))))
set_option maxHeartbeats 4000000 in
theorem gX6_notes_L11 {K : MC} {X : WX} (hK : Ok K X RX6 cX6_notes 2 none 2) {k : Int32 → AH → Option (Unit × AH)} (hk : ∀ (x1 : Int32) (h : AH), J K X 2 (Zm K X) eV 39 [(1, .int x1), (0, .ref (X.1 + 278))] [] h (k x1 h)) : ∀ (n : Nat) (x1 : Int32) (h : AH), J K X 2 (Zm K X) eV 11 [(1, .int x1), (0, .ref (X.1 + 278))] [] h (fX6_notes_L11  n x1 h k) := by
  intro n
  induction n with
  | zero => exact fun _ _ => J_none
  | succ n ih =>
    intro x1 h
    rw [fX6_notes_L11]
    refine J_iload_n hK dX6_notes_11 0 rfl ?_
    refine J_sipush hK dX6_notes_12 cs_989 ?_
    refine J_icmp_ge (tgt := 39) hK dX6_notes_15 (by decide) ?_ ?_
    · refine J_aload_n hK dX6_notes_18 1 rfl ?_
      refine rF_X6_34 (q2 := 287) hK dX6_notes_19 kd_278 rfl ?_
      refine J_iload_n hK dX6_notes_22 0 rfl ?_
      refine J_aload_n hK dX6_notes_23 1 rfl ?_
      refine rF_X6_34 (q2 := 287) hK dX6_notes_24 kd_278 rfl ?_
      refine J_iload_n hK dX6_notes_27 0 rfl ?_
      refine J_bipush hK dX6_notes_28 cb_43 ?_
      refine J_iadd hK dX6_notes_30 ?_
      refine J_iald hK dX6_notes_31 kd_287 (fun _ => ?_)
      refine J_iast hK dX6_notes_32 kd_287 (fun h201 => ?_)
      refine J_iinc (lw := [(0, .ref (X.1 + 278))]) hK dX6_notes_33 0 rfl (by decide) ci_1 rfl (fun z202 => ?_)
      refine J_goto (len := 0) (tgt := 11) hK dX6_notes_36 (by decide) ?_
      exact J_sub [0, 1] rfl (ih _ _)
    · exact J_sub [0, 1] rfl (hk _ _)
set_option maxHeartbeats 4000000 in
set_option maxRecDepth 4000 in
theorem uX6_notes {l : Launch} {X : WX} {h h' : AH} {v : Unit} (hf : fX6_notes  h = some (v, h')) : Does l X 2 yX6_notes cX6_notes 2 none [.ref (X.1 + 278)] h (eV v) h' := by
  refine Does.of (enc := eV) (o := fX6_notes  h) (lv := [(0, .ref (X.1 + 278))]) (by decide) (Nat.le_of_ble_eq_true rfl) rfl hf (fun K hl hK => ?_)
  subst hl
  unfold fX6_notes
  refine J_aload_n hK dX6_notes_0 0 rfl ?_
  refine gF_X6_139 hK dX6_notes_1 kd_278 ?_
  refine J_bipush hK dX6_notes_4 cb_24 ?_
  refine J_icmp_ne (tgt := 49) hK dX6_notes_6 (by decide) ?_ ?_
  · refine J_iconst hK dX6_notes_9 ci_0 ?_
    refine J_istore_n (n := 1) (lw := [(0, .ref (X.1 + 278))]) hK dX6_notes_10 rfl (by decide) rfl ?_
    refine J_sub [0, 1] rfl (gX6_notes_L11 hK  (fun z1 h2 => ?_) FU _ _)
    refine J_aload_n hK dX6_notes_39 1 rfl ?_
    refine J_dup hK dX6_notes_40 rfl ?_
    refine gF_X6_139 hK dX6_notes_41 kd_278 ?_
    refine J_iconst hK dX6_notes_44 ci_1 ?_
    refine J_isub hK dX6_notes_45 ?_
    refine pF_X6_139 hK dX6_notes_46 kd_278 (fun h3 => ?_)
    refine J_aload_n hK dX6_notes_49 1 rfl ?_
    refine rF_X6_25 (q2 := 284) hK dX6_notes_50 kd_278 rfl ?_
    refine J_iconst hK dX6_notes_53 ci_0 ?_
    refine J_aload_n hK dX6_notes_54 1 rfl ?_
    refine rF_X6_34 (q2 := 287) hK dX6_notes_55 kd_278 rfl ?_
    refine J_bipush hK dX6_notes_58 cb_43 ?_
    refine J_aload_n hK dX6_notes_60 1 rfl ?_
    refine gF_X6_139 hK dX6_notes_61 kd_278 ?_
    refine J_imul hK dX6_notes_64 ?_
    refine J_callSv (As := [.ref (X.1 + 284), .int (0 : Int32), .ref (X.1 + 287), .int ((43 : Int32) * (h3 278 17))]) (st := []) hK dX6_notes_65 kB_X6_135 kS_X6_copies (by decide) rfl rfl (Nat.le_of_ble_eq_true rfl) (fun _ _ hf => uX6_copies kd_284 kd_287 hf) (fun _ h4 => ?_)
    refine J_aload_n hK dX6_notes_68 1 rfl ?_
    refine J_dup hK dX6_notes_69 rfl ?_
    refine gF_X6_139 hK dX6_notes_70 kd_278 ?_
    refine J_iconst hK dX6_notes_73 ci_1 ?_
    refine J_iadd hK dX6_notes_74 ?_
    refine pF_X6_139 hK dX6_notes_75 kd_278 (fun h5 => ?_)
    exact J_vret hK dX6_notes_78
  · refine J_aload_n hK dX6_notes_49 0 rfl ?_
    refine rF_X6_25 (q2 := 284) hK dX6_notes_50 kd_278 rfl ?_
    refine J_iconst hK dX6_notes_53 ci_0 ?_
    refine J_aload_n hK dX6_notes_54 0 rfl ?_
    refine rF_X6_34 (q2 := 287) hK dX6_notes_55 kd_278 rfl ?_
    refine J_bipush hK dX6_notes_58 cb_43 ?_
    refine J_aload_n hK dX6_notes_60 0 rfl ?_
    refine gF_X6_139 hK dX6_notes_61 kd_278 ?_
    refine J_imul hK dX6_notes_64 ?_
    refine J_callSv (As := [.ref (X.1 + 284), .int (0 : Int32), .ref (X.1 + 287), .int ((43 : Int32) * (h 278 17))]) (st := []) hK dX6_notes_65 kB_X6_135 kS_X6_copies (by decide) rfl rfl (Nat.le_of_ble_eq_true rfl) (fun _ _ hf => uX6_copies kd_284 kd_287 hf) (fun _ h6 => ?_)
    refine J_aload_n hK dX6_notes_68 0 rfl ?_
    refine J_dup hK dX6_notes_69 rfl ?_
    refine gF_X6_139 hK dX6_notes_70 kd_278 ?_
    refine J_iconst hK dX6_notes_73 ci_1 ?_
    refine J_iadd hK dX6_notes_74 ?_
    refine pF_X6_139 hK dX6_notes_75 kd_278 (fun h7 => ?_)
    exact J_vret hK dX6_notes_78
-- X6_paddlerMark
theorem dX6_paddlerMark_0 : DD cX6_paddlerMark 0 (.aload_n 0) 1 1 := by decide +kernel
theorem dX6_paddlerMark_1 : DD cX6_paddlerMark 1 (.iload_n 1) 1 2 := by decide +kernel
theorem dX6_paddlerMark_2 : DD cX6_paddlerMark 2 (.invokevirtual 217) 3 5 := by decide +kernel
theorem dX6_paddlerMark_5 : DD cX6_paddlerMark 5 (.istore_n 2) 1 6 := by decide +kernel
theorem dX6_paddlerMark_6 : DD cX6_paddlerMark 6 (.iload_n 2) 1 7 := by decide +kernel
theorem dX6_paddlerMark_7 : DD cX6_paddlerMark 7 (.iconst 1) 1 8 := by decide +kernel
theorem dX6_paddlerMark_8 : DD cX6_paddlerMark 8 (.if_icmp .eq 19) 3 11 := by decide +kernel
theorem dX6_paddlerMark_11 : DD cX6_paddlerMark 11 (.aload_n 0) 1 12 := by decide +kernel
theorem dX6_paddlerMark_12 : DD cX6_paddlerMark 12 (.iload_n 2) 1 13 := by decide +kernel
theorem dX6_paddlerMark_13 : DD cX6_paddlerMark 13 (.iconst 2) 1 14 := by decide +kernel
theorem dX6_paddlerMark_14 : DD cX6_paddlerMark 14 (.if_icmp .ne 8) 3 17 := by decide +kernel
theorem dX6_paddlerMark_17 : DD cX6_paddlerMark 17 (.bipush 24) 2 19 := by decide +kernel
theorem dX6_paddlerMark_19 : DD cX6_paddlerMark 19 (.goto 5) 3 22 := by decide +kernel
theorem dX6_paddlerMark_22 : DD cX6_paddlerMark 22 (.bipush 22) 2 24 := by decide +kernel
theorem dX6_paddlerMark_24 : DD cX6_paddlerMark 24 (.invokevirtual 223) 3 27 := by decide +kernel
theorem dX6_paddlerMark_27 : DD cX6_paddlerMark 27 (.aload_n 0) 1 28 := by decide +kernel
theorem dX6_paddlerMark_28 : DD cX6_paddlerMark 28 (.bipush 21) 2 30 := by decide +kernel
theorem dX6_paddlerMark_30 : DD cX6_paddlerMark 30 (.invokevirtual 223) 3 33 := by decide +kernel
theorem dX6_paddlerMark_33 : DD cX6_paddlerMark 33 (.aload_n 0) 1 34 := by decide +kernel
theorem dX6_paddlerMark_34 : DD cX6_paddlerMark 34 (.bipush 20) 2 36 := by decide +kernel
theorem dX6_paddlerMark_36 : DD cX6_paddlerMark 36 (.invokevirtual 223) 3 39 := by decide +kernel
theorem dX6_paddlerMark_39 : DD cX6_paddlerMark 39 (.iload_n 1) 1 40 := by decide +kernel
theorem dX6_paddlerMark_40 : DD cX6_paddlerMark 40 (.aload_n 0) 1 41 := by decide +kernel
theorem dX6_paddlerMark_41 : DD cX6_paddlerMark 41 (.getfield 25) 3 44 := by decide +kernel
theorem dX6_paddlerMark_44 : DD cX6_paddlerMark 44 (.iconst 5) 1 45 := by decide +kernel
theorem dX6_paddlerMark_45 : DD cX6_paddlerMark 45 (.iconst 5) 1 46 := by decide +kernel
theorem dX6_paddlerMark_46 : DD cX6_paddlerMark 46 (.iload_n 1) 1 47 := by decide +kernel
theorem dX6_paddlerMark_47 : DD cX6_paddlerMark 47 (.imul) 1 48 := by decide +kernel
theorem dX6_paddlerMark_48 : DD cX6_paddlerMark 48 (.iadd) 1 49 := by decide +kernel
theorem dX6_paddlerMark_49 : DD cX6_paddlerMark 49 (.iconst 3) 1 50 := by decide +kernel
theorem dX6_paddlerMark_50 : DD cX6_paddlerMark 50 (.iadd) 1 51 := by decide +kernel
theorem dX6_paddlerMark_51 : DD cX6_paddlerMark 51 (.iaload) 1 52 := by decide +kernel
theorem dX6_paddlerMark_52 : DD cX6_paddlerMark 52 (.iadd) 1 53 := by decide +kernel
theorem dX6_paddlerMark_53 : DD cX6_paddlerMark 53 (.istore_n 3) 1 54 := by decide +kernel
theorem dX6_paddlerMark_54 : DD cX6_paddlerMark 54 (.iload_n 2) 1 55 := by decide +kernel
theorem dX6_paddlerMark_55 : DD cX6_paddlerMark 55 (.iconst 2) 1 56 := by decide +kernel
theorem dX6_paddlerMark_56 : DD cX6_paddlerMark 56 (.if_icmp .ne 9) 3 59 := by decide +kernel
theorem dX6_paddlerMark_59 : DD cX6_paddlerMark 59 (.iconst 2) 1 60 := by decide +kernel
theorem dX6_paddlerMark_60 : DD cX6_paddlerMark 60 (.iload_n 3) 1 61 := by decide +kernel
theorem dX6_paddlerMark_61 : DD cX6_paddlerMark 61 (.imul) 1 62 := by decide +kernel
theorem dX6_paddlerMark_62 : DD cX6_paddlerMark 62 (.goto 17) 3 65 := by decide +kernel
theorem dX6_paddlerMark_65 : DD cX6_paddlerMark 65 (.iload_n 2) 1 66 := by decide +kernel
theorem dX6_paddlerMark_66 : DD cX6_paddlerMark 66 (.iconst 3) 1 67 := by decide +kernel
theorem dX6_paddlerMark_67 : DD cX6_paddlerMark 67 (.if_icmp .ne 11) 3 70 := by decide +kernel
theorem dX6_paddlerMark_70 : DD cX6_paddlerMark 70 (.iload_n 3) 1 71 := by decide +kernel
theorem dX6_paddlerMark_71 : DD cX6_paddlerMark 71 (.sipush 1000) 3 74 := by decide +kernel
theorem dX6_paddlerMark_74 : DD cX6_paddlerMark 74 (.isub) 1 75 := by decide +kernel
theorem dX6_paddlerMark_75 : DD cX6_paddlerMark 75 (.goto 4) 3 78 := by decide +kernel
theorem dX6_paddlerMark_78 : DD cX6_paddlerMark 78 (.iload_n 3) 1 79 := by decide +kernel
theorem dX6_paddlerMark_79 : DD cX6_paddlerMark 79 (.ireturn) 1 80 := by decide +kernel
def fX6_paddlerMark (a1 : Int32) (h : AH) : Option (Int32 × AH) := (bnd (fX6_kindIn a1 h) fun v2 h1 => (if v2 = (1 : Int32) then (bnd (fX6_begins (21 : Int32) h1) fun _ h3 => (bnd (fX6_begins (20 : Int32) h3) fun _ h4 => (chk (inb (((5 : Int32) + ((5 : Int32) * a1)) + (3 : Int32)) (ln 284)) (vl (a1 + (h4 284 (Int32.toNatClampNeg (((5 : Int32) + ((5 : Int32) * a1)) + (3 : Int32))))) fun z5 => (if v2 = (2 : Int32) then (some (((2 : Int32) * z5), h4)) else (if v2 = (3 : Int32) then (some ((z5 - (1000 : Int32)), h4)) else (some (z5, h4)))))))) else (if v2 = (2 : Int32) then (bnd (fX6_begins (24 : Int32) h1) fun _ h6 => (bnd (fX6_begins (21 : Int32) h6) fun _ h7 => (bnd (fX6_begins (20 : Int32) h7) fun _ h8 => (chk (inb (((5 : Int32) + ((5 : Int32) * a1)) + (3 : Int32)) (ln 284)) (vl (a1 + (h8 284 (Int32.toNatClampNeg (((5 : Int32) + ((5 : Int32) * a1)) + (3 : Int32))))) fun z9 => (if v2 = (2 : Int32) then (some (((2 : Int32) * z9), h8)) else (if v2 = (3 : Int32) then (some ((z9 - (1000 : Int32)), h8)) else (some (z9, h8))))))))) else (bnd (fX6_begins (22 : Int32) h1) fun _ h10 => (bnd (fX6_begins (21 : Int32) h10) fun _ h11 => (bnd (fX6_begins (20 : Int32) h11) fun _ h12 => (chk (inb (((5 : Int32) + ((5 : Int32) * a1)) + (3 : Int32)) (ln 284)) (vl (a1 + (h12 284 (Int32.toNatClampNeg (((5 : Int32) + ((5 : Int32) * a1)) + (3 : Int32))))) fun z13 => (if v2 = (2 : Int32) then (some (((2 : Int32) * z13), h12)) else (if v2 = (3 : Int32) then (some ((z13 - (1000 : Int32)), h12)) else (some (z13, h12))))))))))))
set_option maxHeartbeats 4000000 in
set_option maxRecDepth 4000 in
theorem uX6_paddlerMark {l : Launch} {X : WX} {a1 : Int32} {h h' : AH} {v : Int32} (hf : fX6_paddlerMark a1 h = some (v, h')) : Does l X 2 yX6_paddlerMark cX6_paddlerMark 4 (some .int) [.ref (X.1 + 278), .int a1] h (eI v) h' := by
  refine Does.of (enc := eI) (o := fX6_paddlerMark a1 h) (lv := [(0, .ref (X.1 + 278)), (1, .int a1)]) (by decide) (Nat.le_of_ble_eq_true rfl) rfl hf (fun K hl hK => ?_)
  subst hl
  unfold fX6_paddlerMark
  refine J_aload_n hK dX6_paddlerMark_0 0 rfl ?_
  refine J_iload_n hK dX6_paddlerMark_1 1 rfl ?_
  refine J_callVi (q := 278) (As := [.int a1]) (st := []) hK dX6_paddlerMark_2 kB_X6_217 kV_X6_kindIn kd_278 (by decide) rfl rfl (by decide) rfl rfl (Nat.le_of_ble_eq_true rfl) (fun _ _ hf => uX6_kindIn  hf) (fun v2 h1 => ?_)
  refine J_istore_n (n := 2) (lw := [(0, .ref (X.1 + 278)), (1, .int a1)]) hK dX6_paddlerMark_5 rfl (by decide) rfl ?_
  refine J_iload_n hK dX6_paddlerMark_6 0 rfl ?_
  refine J_iconst hK dX6_paddlerMark_7 ci_1 ?_
  refine J_icmp_eq (tgt := 27) hK dX6_paddlerMark_8 (by decide) ?_ ?_
  · refine J_aload_n hK dX6_paddlerMark_27 1 rfl ?_
    refine J_bipush hK dX6_paddlerMark_28 cb_21 ?_
    refine J_callVv (q := 278) (As := [.int (21 : Int32)]) (st := []) hK dX6_paddlerMark_30 kB_X6_223 kV_X6_begins kd_278 (by decide) rfl rfl (by decide) rfl rfl (Nat.le_of_ble_eq_true rfl) (fun _ _ hf => uX6_begins  hf) (fun _ h3 => ?_)
    refine J_aload_n hK dX6_paddlerMark_33 1 rfl ?_
    refine J_bipush hK dX6_paddlerMark_34 cb_20 ?_
    refine J_callVv (q := 278) (As := [.int (20 : Int32)]) (st := []) hK dX6_paddlerMark_36 kB_X6_223 kV_X6_begins kd_278 (by decide) rfl rfl (by decide) rfl rfl (Nat.le_of_ble_eq_true rfl) (fun _ _ hf => uX6_begins  hf) (fun _ h4 => ?_)
    refine J_iload_n hK dX6_paddlerMark_39 2 rfl ?_
    refine J_aload_n hK dX6_paddlerMark_40 1 rfl ?_
    refine rF_X6_25 (q2 := 284) hK dX6_paddlerMark_41 kd_278 rfl ?_
    refine J_iconst hK dX6_paddlerMark_44 ci_5 ?_
    refine J_iconst hK dX6_paddlerMark_45 ci_5 ?_
    refine J_iload_n hK dX6_paddlerMark_46 2 rfl ?_
    refine J_imul hK dX6_paddlerMark_47 ?_
    refine J_iadd hK dX6_paddlerMark_48 ?_
    refine J_iconst hK dX6_paddlerMark_49 ci_3 ?_
    refine J_iadd hK dX6_paddlerMark_50 ?_
    refine J_iald hK dX6_paddlerMark_51 kd_284 (fun _ => ?_)
    refine J_iadd hK dX6_paddlerMark_52 ?_
    refine J_istoreV_n (n := 3) (lw := [(2, .int v2), (0, .ref (X.1 + 278)), (1, .int a1)]) hK dX6_paddlerMark_53 rfl (by decide) rfl (fun z5 => ?_)
    refine J_iload_n hK dX6_paddlerMark_54 1 rfl ?_
    refine J_iconst hK dX6_paddlerMark_55 ci_2 ?_
    refine J_icmp_ne (tgt := 65) hK dX6_paddlerMark_56 (by decide) ?_ ?_
    · refine J_iconst hK dX6_paddlerMark_59 ci_2 ?_
      refine J_iload_n hK dX6_paddlerMark_60 0 rfl ?_
      refine J_imul hK dX6_paddlerMark_61 ?_
      refine J_goto (len := 0) (tgt := 79) hK dX6_paddlerMark_62 (by decide) ?_
      exact J_iret hK dX6_paddlerMark_79
    · refine J_iload_n hK dX6_paddlerMark_65 1 rfl ?_
      refine J_iconst hK dX6_paddlerMark_66 ci_3 ?_
      refine J_icmp_ne (tgt := 78) hK dX6_paddlerMark_67 (by decide) ?_ ?_
      · refine J_iload_n hK dX6_paddlerMark_70 0 rfl ?_
        refine J_sipush hK dX6_paddlerMark_71 cs_1000 ?_
        refine J_isub hK dX6_paddlerMark_74 ?_
        refine J_goto (len := 0) (tgt := 79) hK dX6_paddlerMark_75 (by decide) ?_
        exact J_iret hK dX6_paddlerMark_79
      · refine J_iload_n hK dX6_paddlerMark_78 0 rfl ?_
        exact J_iret hK dX6_paddlerMark_79
  · refine J_aload_n hK dX6_paddlerMark_11 1 rfl ?_
    refine J_iload_n hK dX6_paddlerMark_12 0 rfl ?_
    refine J_iconst hK dX6_paddlerMark_13 ci_2 ?_
    refine J_icmp_ne (tgt := 22) hK dX6_paddlerMark_14 (by decide) ?_ ?_
    · refine J_bipush hK dX6_paddlerMark_17 cb_24 ?_
      refine J_goto (len := 0) (tgt := 24) hK dX6_paddlerMark_19 (by decide) ?_
      refine J_callVv (q := 278) (As := [.int (24 : Int32)]) (st := []) hK dX6_paddlerMark_24 kB_X6_223 kV_X6_begins kd_278 (by decide) rfl rfl (by decide) rfl rfl (Nat.le_of_ble_eq_true rfl) (fun _ _ hf => uX6_begins  hf) (fun _ h6 => ?_)
      refine J_aload_n hK dX6_paddlerMark_27 1 rfl ?_
      refine J_bipush hK dX6_paddlerMark_28 cb_21 ?_
      refine J_callVv (q := 278) (As := [.int (21 : Int32)]) (st := []) hK dX6_paddlerMark_30 kB_X6_223 kV_X6_begins kd_278 (by decide) rfl rfl (by decide) rfl rfl (Nat.le_of_ble_eq_true rfl) (fun _ _ hf => uX6_begins  hf) (fun _ h7 => ?_)
      refine J_aload_n hK dX6_paddlerMark_33 1 rfl ?_
      refine J_bipush hK dX6_paddlerMark_34 cb_20 ?_
      refine J_callVv (q := 278) (As := [.int (20 : Int32)]) (st := []) hK dX6_paddlerMark_36 kB_X6_223 kV_X6_begins kd_278 (by decide) rfl rfl (by decide) rfl rfl (Nat.le_of_ble_eq_true rfl) (fun _ _ hf => uX6_begins  hf) (fun _ h8 => ?_)
      refine J_iload_n hK dX6_paddlerMark_39 2 rfl ?_
      refine J_aload_n hK dX6_paddlerMark_40 1 rfl ?_
      refine rF_X6_25 (q2 := 284) hK dX6_paddlerMark_41 kd_278 rfl ?_
      refine J_iconst hK dX6_paddlerMark_44 ci_5 ?_
      refine J_iconst hK dX6_paddlerMark_45 ci_5 ?_
      refine J_iload_n hK dX6_paddlerMark_46 2 rfl ?_
      refine J_imul hK dX6_paddlerMark_47 ?_
      refine J_iadd hK dX6_paddlerMark_48 ?_
      refine J_iconst hK dX6_paddlerMark_49 ci_3 ?_
      refine J_iadd hK dX6_paddlerMark_50 ?_
      refine J_iald hK dX6_paddlerMark_51 kd_284 (fun _ => ?_)
      refine J_iadd hK dX6_paddlerMark_52 ?_
      refine J_istoreV_n (n := 3) (lw := [(2, .int v2), (0, .ref (X.1 + 278)), (1, .int a1)]) hK dX6_paddlerMark_53 rfl (by decide) rfl (fun z9 => ?_)
      refine J_iload_n hK dX6_paddlerMark_54 1 rfl ?_
      refine J_iconst hK dX6_paddlerMark_55 ci_2 ?_
      refine J_icmp_ne (tgt := 65) hK dX6_paddlerMark_56 (by decide) ?_ ?_
      · refine J_iconst hK dX6_paddlerMark_59 ci_2 ?_
        refine J_iload_n hK dX6_paddlerMark_60 0 rfl ?_
        refine J_imul hK dX6_paddlerMark_61 ?_
        refine J_goto (len := 0) (tgt := 79) hK dX6_paddlerMark_62 (by decide) ?_
        exact J_iret hK dX6_paddlerMark_79
      · refine J_iload_n hK dX6_paddlerMark_65 1 rfl ?_
        refine J_iconst hK dX6_paddlerMark_66 ci_3 ?_
        refine J_icmp_ne (tgt := 78) hK dX6_paddlerMark_67 (by decide) ?_ ?_
        · refine J_iload_n hK dX6_paddlerMark_70 0 rfl ?_
          refine J_sipush hK dX6_paddlerMark_71 cs_1000 ?_
          refine J_isub hK dX6_paddlerMark_74 ?_
          refine J_goto (len := 0) (tgt := 79) hK dX6_paddlerMark_75 (by decide) ?_
          exact J_iret hK dX6_paddlerMark_79
        · refine J_iload_n hK dX6_paddlerMark_78 0 rfl ?_
          exact J_iret hK dX6_paddlerMark_79
    · refine J_bipush hK dX6_paddlerMark_22 cb_22 ?_
      refine J_callVv (q := 278) (As := [.int (22 : Int32)]) (st := []) hK dX6_paddlerMark_24 kB_X6_223 kV_X6_begins kd_278 (by decide) rfl rfl (by decide) rfl rfl (Nat.le_of_ble_eq_true rfl) (fun _ _ hf => uX6_begins  hf) (fun _ h10 => ?_)
      refine J_aload_n hK dX6_paddlerMark_27 1 rfl ?_
      refine J_bipush hK dX6_paddlerMark_28 cb_21 ?_
      refine J_callVv (q := 278) (As := [.int (21 : Int32)]) (st := []) hK dX6_paddlerMark_30 kB_X6_223 kV_X6_begins kd_278 (by decide) rfl rfl (by decide) rfl rfl (Nat.le_of_ble_eq_true rfl) (fun _ _ hf => uX6_begins  hf) (fun _ h11 => ?_)
      refine J_aload_n hK dX6_paddlerMark_33 1 rfl ?_
      refine J_bipush hK dX6_paddlerMark_34 cb_20 ?_
      refine J_callVv (q := 278) (As := [.int (20 : Int32)]) (st := []) hK dX6_paddlerMark_36 kB_X6_223 kV_X6_begins kd_278 (by decide) rfl rfl (by decide) rfl rfl (Nat.le_of_ble_eq_true rfl) (fun _ _ hf => uX6_begins  hf) (fun _ h12 => ?_)
      refine J_iload_n hK dX6_paddlerMark_39 2 rfl ?_
      refine J_aload_n hK dX6_paddlerMark_40 1 rfl ?_
      refine rF_X6_25 (q2 := 284) hK dX6_paddlerMark_41 kd_278 rfl ?_
      refine J_iconst hK dX6_paddlerMark_44 ci_5 ?_
      refine J_iconst hK dX6_paddlerMark_45 ci_5 ?_
      refine J_iload_n hK dX6_paddlerMark_46 2 rfl ?_
      refine J_imul hK dX6_paddlerMark_47 ?_
      refine J_iadd hK dX6_paddlerMark_48 ?_
      refine J_iconst hK dX6_paddlerMark_49 ci_3 ?_
      refine J_iadd hK dX6_paddlerMark_50 ?_
      refine J_iald hK dX6_paddlerMark_51 kd_284 (fun _ => ?_)
      refine J_iadd hK dX6_paddlerMark_52 ?_
      refine J_istoreV_n (n := 3) (lw := [(2, .int v2), (0, .ref (X.1 + 278)), (1, .int a1)]) hK dX6_paddlerMark_53 rfl (by decide) rfl (fun z13 => ?_)
      refine J_iload_n hK dX6_paddlerMark_54 1 rfl ?_
      refine J_iconst hK dX6_paddlerMark_55 ci_2 ?_
      refine J_icmp_ne (tgt := 65) hK dX6_paddlerMark_56 (by decide) ?_ ?_
      · refine J_iconst hK dX6_paddlerMark_59 ci_2 ?_
        refine J_iload_n hK dX6_paddlerMark_60 0 rfl ?_
        refine J_imul hK dX6_paddlerMark_61 ?_
        refine J_goto (len := 0) (tgt := 79) hK dX6_paddlerMark_62 (by decide) ?_
        exact J_iret hK dX6_paddlerMark_79
      · refine J_iload_n hK dX6_paddlerMark_65 1 rfl ?_
        refine J_iconst hK dX6_paddlerMark_66 ci_3 ?_
        refine J_icmp_ne (tgt := 78) hK dX6_paddlerMark_67 (by decide) ?_ ?_
        · refine J_iload_n hK dX6_paddlerMark_70 0 rfl ?_
          refine J_sipush hK dX6_paddlerMark_71 cs_1000 ?_
          refine J_isub hK dX6_paddlerMark_74 ?_
          refine J_goto (len := 0) (tgt := 79) hK dX6_paddlerMark_75 (by decide) ?_
          exact J_iret hK dX6_paddlerMark_79
        · refine J_iload_n hK dX6_paddlerMark_78 0 rfl ?_
          exact J_iret hK dX6_paddlerMark_79
-- X6_restore
theorem dX6_restore_0 : DD cX6_restore 0 (.iload_n 1) 1 1 := by decide +kernel
theorem dX6_restore_1 : DD cX6_restore 1 (.iconst 0) 1 2 := by decide +kernel
theorem dX6_restore_2 : DD cX6_restore 2 (.iconst 1) 1 3 := by decide +kernel
theorem dX6_restore_3 : DD cX6_restore 3 (.invokestatic 53) 3 6 := by decide +kernel
theorem dX6_restore_6 : DD cX6_restore 6 (.ifCond .ne 6) 3 9 := by decide +kernel
theorem dX6_restore_9 : DD cX6_restore 9 (.ldc 61) 2 11 := by decide +kernel
theorem dX6_restore_11 : DD cX6_restore 11 (.ireturn) 1 12 := by decide +kernel
theorem dX6_restore_12 : DD cX6_restore 12 (.aload_n 0) 1 13 := by decide +kernel
theorem dX6_restore_13 : DD cX6_restore 13 (.getfield 40) 3 16 := by decide +kernel
theorem dX6_restore_16 : DD cX6_restore 16 (.iload_n 1) 1 17 := by decide +kernel
theorem dX6_restore_17 : DD cX6_restore 17 (.baload) 1 18 := by decide +kernel
theorem dX6_restore_18 : DD cX6_restore 18 (.ifCond .ne 6) 3 21 := by decide +kernel
theorem dX6_restore_21 : DD cX6_restore 21 (.ldc 170) 2 23 := by decide +kernel
theorem dX6_restore_23 : DD cX6_restore 23 (.ireturn) 1 24 := by decide +kernel
theorem dX6_restore_24 : DD cX6_restore 24 (.aload_n 0) 1 25 := by decide +kernel
theorem dX6_restore_25 : DD cX6_restore 25 (.getfield 37) 3 28 := by decide +kernel
theorem dX6_restore_28 : DD cX6_restore 28 (.bipush 43) 2 30 := by decide +kernel
theorem dX6_restore_30 : DD cX6_restore 30 (.iload_n 1) 1 31 := by decide +kernel
theorem dX6_restore_31 : DD cX6_restore 31 (.imul) 1 32 := by decide +kernel
theorem dX6_restore_32 : DD cX6_restore 32 (.aload_n 0) 1 33 := by decide +kernel
theorem dX6_restore_33 : DD cX6_restore 33 (.getfield 25) 3 36 := by decide +kernel
theorem dX6_restore_36 : DD cX6_restore 36 (.iconst 0) 1 37 := by decide +kernel
theorem dX6_restore_37 : DD cX6_restore 37 (.invokestatic 135) 3 40 := by decide +kernel
theorem dX6_restore_40 : DD cX6_restore 40 (.aload_n 0) 1 41 := by decide +kernel
theorem dX6_restore_41 : DD cX6_restore 41 (.iconst 0) 1 42 := by decide +kernel
theorem dX6_restore_42 : DD cX6_restore 42 (.putfield 139) 3 45 := by decide +kernel
theorem dX6_restore_45 : DD cX6_restore 45 (.iconst 1) 1 46 := by decide +kernel
theorem dX6_restore_46 : DD cX6_restore 46 (.ireturn) 1 47 := by decide +kernel
def fX6_restore (a1 : Int32) (h : AH) : Option (Int32 × AH) := (bnd (fX6_in a1 (0 : Int32) (1 : Int32) h) fun v2 h1 => (if v2 = 0 then (some ((-1000001 : Int32), h1)) else (chk (inb a1 (ln 289)) (if (h1 289 (Int32.toNatClampNeg a1)) = 0 then (some ((-1000002 : Int32), h1)) else (bnd (fX6_copies 288 ((43 : Int32) * a1) 284 (0 : Int32) h1) fun _ h3 => (sto (hs h3 278 17 (0 : Int32)) fun h4 => (some ((1 : Int32), h4))))))))
set_option maxHeartbeats 4000000 in
set_option maxRecDepth 4000 in
theorem uX6_restore {l : Launch} {X : WX} {a1 : Int32} {h h' : AH} {v : Int32} (hf : fX6_restore a1 h = some (v, h')) : Does l X 2 yX6_restore cX6_restore 2 (some .int) [.ref (X.1 + 278), .int a1] h (eI v) h' := by
  refine Does.of (enc := eI) (o := fX6_restore a1 h) (lv := [(0, .ref (X.1 + 278)), (1, .int a1)]) (by decide) (Nat.le_of_ble_eq_true rfl) rfl hf (fun K hl hK => ?_)
  subst hl
  unfold fX6_restore
  refine J_iload_n hK dX6_restore_0 1 rfl ?_
  refine J_iconst hK dX6_restore_1 ci_0 ?_
  refine J_iconst hK dX6_restore_2 ci_1 ?_
  refine J_callSi (As := [.int a1, .int (0 : Int32), .int (1 : Int32)]) (st := []) hK dX6_restore_3 kB_X6_53 kS_X6_in (by decide) rfl rfl (Nat.le_of_ble_eq_true rfl) (fun _ _ hf => uX6_in  hf) (fun v2 h1 => ?_)
  refine J_if_ne (tgt := 12) hK dX6_restore_6 (by decide) ?_ ?_
  · refine J_ldc hK dX6_restore_9 kK_X6_61 ?_
    exact J_iret hK dX6_restore_11
  · refine J_aload_n hK dX6_restore_12 0 rfl ?_
    refine rF_X6_40 (q2 := 289) hK dX6_restore_13 kd_278 rfl ?_
    refine J_iload_n hK dX6_restore_16 1 rfl ?_
    refine J_zald hK dX6_restore_17 kd_289 (fun _ => ?_)
    refine J_if_ne (tgt := 24) hK dX6_restore_18 (by decide) ?_ ?_
    · refine J_ldc hK dX6_restore_21 kK_X6_170 ?_
      exact J_iret hK dX6_restore_23
    · refine J_aload_n hK dX6_restore_24 0 rfl ?_
      refine rF_X6_37 (q2 := 288) hK dX6_restore_25 kd_278 rfl ?_
      refine J_bipush hK dX6_restore_28 cb_43 ?_
      refine J_iload_n hK dX6_restore_30 1 rfl ?_
      refine J_imul hK dX6_restore_31 ?_
      refine J_aload_n hK dX6_restore_32 0 rfl ?_
      refine rF_X6_25 (q2 := 284) hK dX6_restore_33 kd_278 rfl ?_
      refine J_iconst hK dX6_restore_36 ci_0 ?_
      refine J_callSv (As := [.ref (X.1 + 288), .int ((43 : Int32) * a1), .ref (X.1 + 284), .int (0 : Int32)]) (st := []) hK dX6_restore_37 kB_X6_135 kS_X6_copies (by decide) rfl rfl (Nat.le_of_ble_eq_true rfl) (fun _ _ hf => uX6_copies kd_288 kd_284 hf) (fun _ h3 => ?_)
      refine J_aload_n hK dX6_restore_40 0 rfl ?_
      refine J_iconst hK dX6_restore_41 ci_0 ?_
      refine pF_X6_139 hK dX6_restore_42 kd_278 (fun h4 => ?_)
      refine J_iconst hK dX6_restore_45 ci_1 ?_
      exact J_iret hK dX6_restore_46
-- X6_trace
theorem dX6_trace_0 : DD cX6_trace 0 (.iload_n 1) 1 1 := by decide +kernel
theorem dX6_trace_1 : DD cX6_trace 1 (.iconst 0) 1 2 := by decide +kernel
theorem dX6_trace_2 : DD cX6_trace 2 (.aload_n 0) 1 3 := by decide +kernel
theorem dX6_trace_3 : DD cX6_trace 3 (.getfield 220) 3 6 := by decide +kernel
theorem dX6_trace_6 : DD cX6_trace 6 (.iconst 1) 1 7 := by decide +kernel
theorem dX6_trace_7 : DD cX6_trace 7 (.isub) 1 8 := by decide +kernel
theorem dX6_trace_8 : DD cX6_trace 8 (.invokestatic 53) 3 11 := by decide +kernel
theorem dX6_trace_11 : DD cX6_trace 11 (.ifCond .eq 12) 3 14 := by decide +kernel
theorem dX6_trace_14 : DD cX6_trace 14 (.aload_n 0) 1 15 := by decide +kernel
theorem dX6_trace_15 : DD cX6_trace 15 (.getfield 44) 3 18 := by decide +kernel
theorem dX6_trace_18 : DD cX6_trace 18 (.iload_n 1) 1 19 := by decide +kernel
theorem dX6_trace_19 : DD cX6_trace 19 (.iaload) 1 20 := by decide +kernel
theorem dX6_trace_20 : DD cX6_trace 20 (.goto 5) 3 23 := by decide +kernel
theorem dX6_trace_23 : DD cX6_trace 23 (.ldc 47) 2 25 := by decide +kernel
theorem dX6_trace_25 : DD cX6_trace 25 (.ireturn) 1 26 := by decide +kernel
def fX6_trace (a1 : Int32) (h : AH) : Option (Int32 × AH) := (bnd (fX6_in a1 (0 : Int32) ((h 278 21) - (1 : Int32)) h) fun v2 h1 => (if v2 = 0 then (some ((-1000000 : Int32), h1)) else (chk (inb a1 (ln 290)) (some ((h1 290 (Int32.toNatClampNeg a1)), h1)))))
set_option maxHeartbeats 4000000 in
set_option maxRecDepth 4000 in
theorem uX6_trace {l : Launch} {X : WX} {a1 : Int32} {h h' : AH} {v : Int32} (hf : fX6_trace a1 h = some (v, h')) : Does l X 2 yX6_trace cX6_trace 2 (some .int) [.ref (X.1 + 278), .int a1] h (eI v) h' := by
  refine Does.of (enc := eI) (o := fX6_trace a1 h) (lv := [(0, .ref (X.1 + 278)), (1, .int a1)]) (by decide) (Nat.le_of_ble_eq_true rfl) rfl hf (fun K hl hK => ?_)
  subst hl
  unfold fX6_trace
  refine J_iload_n hK dX6_trace_0 1 rfl ?_
  refine J_iconst hK dX6_trace_1 ci_0 ?_
  refine J_aload_n hK dX6_trace_2 0 rfl ?_
  refine gF_X6_220 hK dX6_trace_3 kd_278 ?_
  refine J_iconst hK dX6_trace_6 ci_1 ?_
  refine J_isub hK dX6_trace_7 ?_
  refine J_callSi (As := [.int a1, .int (0 : Int32), .int ((h 278 21) - (1 : Int32))]) (st := []) hK dX6_trace_8 kB_X6_53 kS_X6_in (by decide) rfl rfl (Nat.le_of_ble_eq_true rfl) (fun _ _ hf => uX6_in  hf) (fun v2 h1 => ?_)
  refine J_if_eq (tgt := 23) hK dX6_trace_11 (by decide) ?_ ?_
  · refine J_ldc hK dX6_trace_23 kK_X6_47 ?_
    exact J_iret hK dX6_trace_25
  · refine J_aload_n hK dX6_trace_14 0 rfl ?_
    refine rF_X6_44 (q2 := 290) hK dX6_trace_15 kd_278 rfl ?_
    refine J_iload_n hK dX6_trace_18 1 rfl ?_
    refine J_iald hK dX6_trace_19 kd_290 (fun _ => ?_)
    refine J_goto (len := 0) (tgt := 25) hK dX6_trace_20 (by decide) ?_
    exact J_iret hK dX6_trace_25
-- X6_undo
theorem dX6_undo_0 : DD cX6_undo 0 (.aload_n 0) 1 1 := by decide +kernel
theorem dX6_undo_1 : DD cX6_undo 1 (.getfield 139) 3 4 := by decide +kernel
theorem dX6_undo_4 : DD cX6_undo 4 (.ifCond .ne 6) 3 7 := by decide +kernel
theorem dX6_undo_7 : DD cX6_undo 7 (.ldc 170) 2 9 := by decide +kernel
theorem dX6_undo_9 : DD cX6_undo 9 (.ireturn) 1 10 := by decide +kernel
theorem dX6_undo_10 : DD cX6_undo 10 (.aload_n 0) 1 11 := by decide +kernel
theorem dX6_undo_11 : DD cX6_undo 11 (.dup) 1 12 := by decide +kernel
theorem dX6_undo_12 : DD cX6_undo 12 (.getfield 139) 3 15 := by decide +kernel
theorem dX6_undo_15 : DD cX6_undo 15 (.iconst 1) 1 16 := by decide +kernel
theorem dX6_undo_16 : DD cX6_undo 16 (.isub) 1 17 := by decide +kernel
theorem dX6_undo_17 : DD cX6_undo 17 (.putfield 139) 3 20 := by decide +kernel
theorem dX6_undo_20 : DD cX6_undo 20 (.aload_n 0) 1 21 := by decide +kernel
theorem dX6_undo_21 : DD cX6_undo 21 (.getfield 34) 3 24 := by decide +kernel
theorem dX6_undo_24 : DD cX6_undo 24 (.bipush 43) 2 26 := by decide +kernel
theorem dX6_undo_26 : DD cX6_undo 26 (.aload_n 0) 1 27 := by decide +kernel
theorem dX6_undo_27 : DD cX6_undo 27 (.getfield 139) 3 30 := by decide +kernel
theorem dX6_undo_30 : DD cX6_undo 30 (.imul) 1 31 := by decide +kernel
theorem dX6_undo_31 : DD cX6_undo 31 (.aload_n 0) 1 32 := by decide +kernel
theorem dX6_undo_32 : DD cX6_undo 32 (.getfield 25) 3 35 := by decide +kernel
theorem dX6_undo_35 : DD cX6_undo 35 (.iconst 0) 1 36 := by decide +kernel
theorem dX6_undo_36 : DD cX6_undo 36 (.invokestatic 135) 3 39 := by decide +kernel
theorem dX6_undo_39 : DD cX6_undo 39 (.aload_n 0) 1 40 := by decide +kernel
theorem dX6_undo_40 : DD cX6_undo 40 (.getfield 139) 3 43 := by decide +kernel
theorem dX6_undo_43 : DD cX6_undo 43 (.ireturn) 1 44 := by decide +kernel
def fX6_undo (h : AH) : Option (Int32 × AH) := (if (h 278 17) = 0 then (some ((-1000002 : Int32), h)) else (sto (hs h 278 17 ((h 278 17) - (1 : Int32))) fun h1 => (bnd (fX6_copies 287 ((43 : Int32) * (h1 278 17)) 284 (0 : Int32) h1) fun _ h2 => (some ((h2 278 17), h2)))))
set_option maxHeartbeats 4000000 in
set_option maxRecDepth 4000 in
theorem uX6_undo {l : Launch} {X : WX} {h h' : AH} {v : Int32} (hf : fX6_undo  h = some (v, h')) : Does l X 2 yX6_undo cX6_undo 1 (some .int) [.ref (X.1 + 278)] h (eI v) h' := by
  refine Does.of (enc := eI) (o := fX6_undo  h) (lv := [(0, .ref (X.1 + 278))]) (by decide) (Nat.le_of_ble_eq_true rfl) rfl hf (fun K hl hK => ?_)
  subst hl
  unfold fX6_undo
  refine J_aload_n hK dX6_undo_0 0 rfl ?_
  refine gF_X6_139 hK dX6_undo_1 kd_278 ?_
  refine J_if_ne (tgt := 10) hK dX6_undo_4 (by decide) ?_ ?_
  · refine J_ldc hK dX6_undo_7 kK_X6_170 ?_
    exact J_iret hK dX6_undo_9
  · refine J_aload_n hK dX6_undo_10 0 rfl ?_
    refine J_dup hK dX6_undo_11 rfl ?_
    refine gF_X6_139 hK dX6_undo_12 kd_278 ?_
    refine J_iconst hK dX6_undo_15 ci_1 ?_
    refine J_isub hK dX6_undo_16 ?_
    refine pF_X6_139 hK dX6_undo_17 kd_278 (fun h1 => ?_)
    refine J_aload_n hK dX6_undo_20 0 rfl ?_
    refine rF_X6_34 (q2 := 287) hK dX6_undo_21 kd_278 rfl ?_
    refine J_bipush hK dX6_undo_24 cb_43 ?_
    refine J_aload_n hK dX6_undo_26 0 rfl ?_
    refine gF_X6_139 hK dX6_undo_27 kd_278 ?_
    refine J_imul hK dX6_undo_30 ?_
    refine J_aload_n hK dX6_undo_31 0 rfl ?_
    refine rF_X6_25 (q2 := 284) hK dX6_undo_32 kd_278 rfl ?_
    refine J_iconst hK dX6_undo_35 ci_0 ?_
    refine J_callSv (As := [.ref (X.1 + 287), .int ((43 : Int32) * (h1 278 17)), .ref (X.1 + 284), .int (0 : Int32)]) (st := []) hK dX6_undo_36 kB_X6_135 kS_X6_copies (by decide) rfl rfl (Nat.le_of_ble_eq_true rfl) (fun _ _ hf => uX6_copies kd_287 kd_284 hf) (fun _ h2 => ?_)
    refine J_aload_n hK dX6_undo_39 0 rfl ?_
    refine gF_X6_139 hK dX6_undo_40 kd_278 ?_
    exact J_iret hK dX6_undo_43
-- X6_as
theorem dX6_as_0 : DD cX6_as 0 (.aload_n 0) 1 1 := by decide +kernel
theorem dX6_as_1 : DD cX6_as 1 (.iload_n 1) 1 2 := by decide +kernel
theorem dX6_as_2 : DD cX6_as 2 (.invokevirtual 178) 3 5 := by decide +kernel
theorem dX6_as_5 : DD cX6_as 5 (.ifCond .eq 12) 3 8 := by decide +kernel
theorem dX6_as_8 : DD cX6_as 8 (.iload_n 2) 1 9 := by decide +kernel
theorem dX6_as_9 : DD cX6_as 9 (.iconst 0) 1 10 := by decide +kernel
theorem dX6_as_10 : DD cX6_as 10 (.iconst 5) 1 11 := by decide +kernel
theorem dX6_as_11 : DD cX6_as 11 (.invokestatic 53) 3 14 := by decide +kernel
theorem dX6_as_14 : DD cX6_as 14 (.ifCond .ne 6) 3 17 := by decide +kernel
theorem dX6_as_17 : DD cX6_as 17 (.ldc 61) 2 19 := by decide +kernel
theorem dX6_as_19 : DD cX6_as 19 (.ireturn) 1 20 := by decide +kernel
theorem dX6_as_20 : DD cX6_as 20 (.aload_n 0) 1 21 := by decide +kernel
theorem dX6_as_21 : DD cX6_as 21 (.iload_n 1) 1 22 := by decide +kernel
theorem dX6_as_22 : DD cX6_as 22 (.invokevirtual 217) 3 25 := by decide +kernel
theorem dX6_as_25 : DD cX6_as 25 (.istore_n 3) 1 26 := by decide +kernel
theorem dX6_as_26 : DD cX6_as 26 (.iload_n 2) 1 27 := by decide +kernel
theorem dX6_as_27 : DD cX6_as 27 (.ifCond .eq 28) 3 30 := by decide +kernel
theorem dX6_as_30 : DD cX6_as 30 (.iload_n 2) 1 31 := by decide +kernel
theorem dX6_as_31 : DD cX6_as 31 (.iload_n 3) 1 32 := by decide +kernel
theorem dX6_as_32 : DD cX6_as 32 (.if_icmp .eq 23) 3 35 := by decide +kernel
theorem dX6_as_35 : DD cX6_as 35 (.iload_n 2) 1 36 := by decide +kernel
theorem dX6_as_36 : DD cX6_as 36 (.iconst 1) 1 37 := by decide +kernel
theorem dX6_as_37 : DD cX6_as 37 (.if_icmp .ne 8) 3 40 := by decide +kernel
theorem dX6_as_40 : DD cX6_as 40 (.iload_n 3) 1 41 := by decide +kernel
theorem dX6_as_41 : DD cX6_as 41 (.iconst 4) 1 42 := by decide +kernel
theorem dX6_as_42 : DD cX6_as 42 (.if_icmp .lt 13) 3 45 := by decide +kernel
theorem dX6_as_45 : DD cX6_as 45 (.iload_n 2) 1 46 := by decide +kernel
theorem dX6_as_46 : DD cX6_as 46 (.iconst 4) 1 47 := by decide +kernel
theorem dX6_as_47 : DD cX6_as 47 (.if_icmp .ne 12) 3 50 := by decide +kernel
theorem dX6_as_50 : DD cX6_as 50 (.iload_n 3) 1 51 := by decide +kernel
theorem dX6_as_51 : DD cX6_as 51 (.iconst 5) 1 52 := by decide +kernel
theorem dX6_as_52 : DD cX6_as 52 (.if_icmp .ne 7) 3 55 := by decide +kernel
theorem dX6_as_55 : DD cX6_as 55 (.iconst 1) 1 56 := by decide +kernel
theorem dX6_as_56 : DD cX6_as 56 (.goto 4) 3 59 := by decide +kernel
theorem dX6_as_59 : DD cX6_as 59 (.iconst 0) 1 60 := by decide +kernel
theorem dX6_as_60 : DD cX6_as 60 (.istore 4) 2 62 := by decide +kernel
theorem dX6_as_62 : DD cX6_as 62 (.iload 4) 2 64 := by decide +kernel
theorem dX6_as_64 : DD cX6_as 64 (.ifCond .eq 11) 3 67 := by decide +kernel
theorem dX6_as_67 : DD cX6_as 67 (.aload_n 0) 1 68 := by decide +kernel
theorem dX6_as_68 : DD cX6_as 68 (.iload_n 1) 1 69 := by decide +kernel
theorem dX6_as_69 : DD cX6_as 69 (.invokevirtual 66) 3 72 := by decide +kernel
theorem dX6_as_72 : DD cX6_as 72 (.goto 8) 3 75 := by decide +kernel
theorem dX6_as_75 : DD cX6_as 75 (.aload_n 0) 1 76 := by decide +kernel
theorem dX6_as_76 : DD cX6_as 76 (.iconst 3) 1 77 := by decide +kernel
theorem dX6_as_77 : DD cX6_as 77 (.invokevirtual 62) 3 80 := by decide +kernel
theorem dX6_as_80 : DD cX6_as 80 (.ireturn) 1 81 := by decide +kernel
def fX6_as (a1 : Int32) (a2 : Int32) (h : AH) : Option (Int32 × AH) := (bnd (fX6_isTug a1 h) fun v2 h1 => (if v2 = 0 then (some ((-1000001 : Int32), h1)) else (bnd (fX6_in a2 (0 : Int32) (5 : Int32) h1) fun v4 h3 => (if v4 = 0 then (some ((-1000001 : Int32), h3)) else (bnd (fX6_kindIn a1 h3) fun v6 h5 => (if a2 = 0 then (if (1 : Int32) = 0 then none else (bnd (fX6_well a1 h5) fun v8 h7 => (some (v8, h7)))) else (if a2 = v6 then (if (1 : Int32) = 0 then none else (bnd (fX6_well a1 h5) fun v10 h9 => (some (v10, h9)))) else (if a2 = (1 : Int32) then (if v6 < (4 : Int32) then (if (1 : Int32) = 0 then none else (bnd (fX6_well a1 h5) fun v12 h11 => (some (v12, h11)))) else (if a2 = (4 : Int32) then (if v6 = (5 : Int32) then (if (1 : Int32) = 0 then none else (bnd (fX6_well a1 h5) fun v14 h13 => (some (v14, h13)))) else (if (0 : Int32) = 0 then (bnd (fX6_found (3 : Int32) h5) fun v16 h15 => (some (v16, h15))) else none)) else (if (0 : Int32) = 0 then (bnd (fX6_found (3 : Int32) h5) fun v18 h17 => (some (v18, h17))) else none))) else (if a2 = (4 : Int32) then (if v6 = (5 : Int32) then (if (1 : Int32) = 0 then none else (bnd (fX6_well a1 h5) fun v20 h19 => (some (v20, h19)))) else (if (0 : Int32) = 0 then (bnd (fX6_found (3 : Int32) h5) fun v22 h21 => (some (v22, h21))) else none)) else (if (0 : Int32) = 0 then (bnd (fX6_found (3 : Int32) h5) fun v24 h23 => (some (v24, h23))) else none))))))))))
set_option maxHeartbeats 4000000 in
set_option maxRecDepth 4000 in
theorem uX6_as {l : Launch} {X : WX} {a1 : Int32} {a2 : Int32} {h h' : AH} {v : Int32} (hf : fX6_as a1 a2 h = some (v, h')) : Does l X 3 yX6_as cX6_as 5 (some .int) [.ref (X.1 + 278), .int a1, .int a2] h (eI v) h' := by
  refine Does.of (enc := eI) (o := fX6_as a1 a2 h) (lv := [(0, .ref (X.1 + 278)), (1, .int a1), (2, .int a2)]) (by decide) (Nat.le_of_ble_eq_true rfl) rfl hf (fun K hl hK => ?_)
  subst hl
  unfold fX6_as
  refine J_aload_n hK dX6_as_0 0 rfl ?_
  refine J_iload_n hK dX6_as_1 1 rfl ?_
  refine J_callVi (q := 278) (As := [.int a1]) (st := []) hK dX6_as_2 kB_X6_178 kV_X6_isTug kd_278 (by decide) rfl rfl (by decide) rfl rfl (Nat.le_of_ble_eq_true rfl) (fun _ _ hf => uX6_isTug  hf) (fun v2 h1 => ?_)
  refine J_if_eq (tgt := 17) hK dX6_as_5 (by decide) ?_ ?_
  · refine J_ldc hK dX6_as_17 kK_X6_61 ?_
    exact J_iret hK dX6_as_19
  · refine J_iload_n hK dX6_as_8 2 rfl ?_
    refine J_iconst hK dX6_as_9 ci_0 ?_
    refine J_iconst hK dX6_as_10 ci_5 ?_
    refine J_callSi (As := [.int a2, .int (0 : Int32), .int (5 : Int32)]) (st := []) hK dX6_as_11 kB_X6_53 kS_X6_in (by decide) rfl rfl (Nat.le_of_ble_eq_true rfl) (fun _ _ hf => uX6_in  hf) (fun v4 h3 => ?_)
    refine J_if_ne (tgt := 20) hK dX6_as_14 (by decide) ?_ ?_
    · refine J_ldc hK dX6_as_17 kK_X6_61 ?_
      exact J_iret hK dX6_as_19
    · refine J_aload_n hK dX6_as_20 0 rfl ?_
      refine J_iload_n hK dX6_as_21 1 rfl ?_
      refine J_callVi (q := 278) (As := [.int a1]) (st := []) hK dX6_as_22 kB_X6_217 kV_X6_kindIn kd_278 (by decide) rfl rfl (by decide) rfl rfl (Nat.le_of_ble_eq_true rfl) (fun _ _ hf => uX6_kindIn  hf) (fun v6 h5 => ?_)
      refine J_istore_n (n := 3) (lw := [(0, .ref (X.1 + 278)), (1, .int a1), (2, .int a2)]) hK dX6_as_25 rfl (by decide) rfl ?_
      refine J_iload_n hK dX6_as_26 3 rfl ?_
      refine J_if_eq (tgt := 55) hK dX6_as_27 (by decide) ?_ ?_
      · refine J_iconst hK dX6_as_55 ci_1 ?_
        refine J_goto (len := 0) (tgt := 60) hK dX6_as_56 (by decide) ?_
        refine J_istore (lw := [(3, .int v6), (0, .ref (X.1 + 278)), (1, .int a1), (2, .int a2)]) hK dX6_as_60 (by decide) rfl ?_
        refine J_iload hK dX6_as_62 0 rfl ?_
        refine J_if_eq (tgt := 75) hK dX6_as_64 (by decide) ?_ ?_
        · exact J_none
        · refine J_aload_n hK dX6_as_67 2 rfl ?_
          refine J_iload_n hK dX6_as_68 3 rfl ?_
          refine J_callVi (q := 278) (As := [.int a1]) (st := []) hK dX6_as_69 kB_X6_66 kV_X6_well kd_278 (by decide) rfl rfl (by decide) rfl rfl (Nat.le_of_ble_eq_true rfl) (fun _ _ hf => uX6_well  hf) (fun v8 h7 => ?_)
          refine J_goto (len := 0) (tgt := 80) hK dX6_as_72 (by decide) ?_
          exact J_iret hK dX6_as_80
      · refine J_iload_n hK dX6_as_30 3 rfl ?_
        refine J_iload_n hK dX6_as_31 0 rfl ?_
        refine J_icmp_eq (tgt := 55) hK dX6_as_32 (by decide) ?_ ?_
        · refine J_iconst hK dX6_as_55 ci_1 ?_
          refine J_goto (len := 0) (tgt := 60) hK dX6_as_56 (by decide) ?_
          refine J_istore (lw := [(3, .int v6), (0, .ref (X.1 + 278)), (1, .int a1), (2, .int a2)]) hK dX6_as_60 (by decide) rfl ?_
          refine J_iload hK dX6_as_62 0 rfl ?_
          refine J_if_eq (tgt := 75) hK dX6_as_64 (by decide) ?_ ?_
          · exact J_none
          · refine J_aload_n hK dX6_as_67 2 rfl ?_
            refine J_iload_n hK dX6_as_68 3 rfl ?_
            refine J_callVi (q := 278) (As := [.int a1]) (st := []) hK dX6_as_69 kB_X6_66 kV_X6_well kd_278 (by decide) rfl rfl (by decide) rfl rfl (Nat.le_of_ble_eq_true rfl) (fun _ _ hf => uX6_well  hf) (fun v10 h9 => ?_)
            refine J_goto (len := 0) (tgt := 80) hK dX6_as_72 (by decide) ?_
            exact J_iret hK dX6_as_80
        · refine J_iload_n hK dX6_as_35 3 rfl ?_
          refine J_iconst hK dX6_as_36 ci_1 ?_
          refine J_icmp_ne (tgt := 45) hK dX6_as_37 (by decide) ?_ ?_
          · refine J_iload_n hK dX6_as_40 0 rfl ?_
            refine J_iconst hK dX6_as_41 ci_4 ?_
            refine J_icmp_lt (tgt := 55) hK dX6_as_42 (by decide) ?_ ?_
            · refine J_iconst hK dX6_as_55 ci_1 ?_
              refine J_goto (len := 0) (tgt := 60) hK dX6_as_56 (by decide) ?_
              refine J_istore (lw := [(3, .int v6), (0, .ref (X.1 + 278)), (1, .int a1), (2, .int a2)]) hK dX6_as_60 (by decide) rfl ?_
              refine J_iload hK dX6_as_62 0 rfl ?_
              refine J_if_eq (tgt := 75) hK dX6_as_64 (by decide) ?_ ?_
              · exact J_none
              · refine J_aload_n hK dX6_as_67 2 rfl ?_
                refine J_iload_n hK dX6_as_68 3 rfl ?_
                refine J_callVi (q := 278) (As := [.int a1]) (st := []) hK dX6_as_69 kB_X6_66 kV_X6_well kd_278 (by decide) rfl rfl (by decide) rfl rfl (Nat.le_of_ble_eq_true rfl) (fun _ _ hf => uX6_well  hf) (fun v12 h11 => ?_)
                refine J_goto (len := 0) (tgt := 80) hK dX6_as_72 (by decide) ?_
                exact J_iret hK dX6_as_80
            · refine J_iload_n hK dX6_as_45 3 rfl ?_
              refine J_iconst hK dX6_as_46 ci_4 ?_
              refine J_icmp_ne (tgt := 59) hK dX6_as_47 (by decide) ?_ ?_
              · refine J_iload_n hK dX6_as_50 0 rfl ?_
                refine J_iconst hK dX6_as_51 ci_5 ?_
                refine J_icmp_ne (tgt := 59) hK dX6_as_52 (by decide) ?_ ?_
                · refine J_iconst hK dX6_as_55 ci_1 ?_
                  refine J_goto (len := 0) (tgt := 60) hK dX6_as_56 (by decide) ?_
                  refine J_istore (lw := [(3, .int v6), (0, .ref (X.1 + 278)), (1, .int a1), (2, .int a2)]) hK dX6_as_60 (by decide) rfl ?_
                  refine J_iload hK dX6_as_62 0 rfl ?_
                  refine J_if_eq (tgt := 75) hK dX6_as_64 (by decide) ?_ ?_
                  · exact J_none
                  · refine J_aload_n hK dX6_as_67 2 rfl ?_
                    refine J_iload_n hK dX6_as_68 3 rfl ?_
                    refine J_callVi (q := 278) (As := [.int a1]) (st := []) hK dX6_as_69 kB_X6_66 kV_X6_well kd_278 (by decide) rfl rfl (by decide) rfl rfl (Nat.le_of_ble_eq_true rfl) (fun _ _ hf => uX6_well  hf) (fun v14 h13 => ?_)
                    refine J_goto (len := 0) (tgt := 80) hK dX6_as_72 (by decide) ?_
                    exact J_iret hK dX6_as_80
                · refine J_iconst hK dX6_as_59 ci_0 ?_
                  refine J_istore (lw := [(3, .int v6), (0, .ref (X.1 + 278)), (1, .int a1), (2, .int a2)]) hK dX6_as_60 (by decide) rfl ?_
                  refine J_iload hK dX6_as_62 0 rfl ?_
                  refine J_if_eq (tgt := 75) hK dX6_as_64 (by decide) ?_ ?_
                  · refine J_aload_n hK dX6_as_75 2 rfl ?_
                    refine J_iconst hK dX6_as_76 ci_3 ?_
                    refine J_callVi (q := 278) (As := [.int (3 : Int32)]) (st := []) hK dX6_as_77 kB_X6_62 kV_X6_found kd_278 (by decide) rfl rfl (by decide) rfl rfl (Nat.le_of_ble_eq_true rfl) (fun _ _ hf => uX6_found  hf) (fun v16 h15 => ?_)
                    exact J_iret hK dX6_as_80
                  · exact J_none
              · refine J_iconst hK dX6_as_59 ci_0 ?_
                refine J_istore (lw := [(3, .int v6), (0, .ref (X.1 + 278)), (1, .int a1), (2, .int a2)]) hK dX6_as_60 (by decide) rfl ?_
                refine J_iload hK dX6_as_62 0 rfl ?_
                refine J_if_eq (tgt := 75) hK dX6_as_64 (by decide) ?_ ?_
                · refine J_aload_n hK dX6_as_75 2 rfl ?_
                  refine J_iconst hK dX6_as_76 ci_3 ?_
                  refine J_callVi (q := 278) (As := [.int (3 : Int32)]) (st := []) hK dX6_as_77 kB_X6_62 kV_X6_found kd_278 (by decide) rfl rfl (by decide) rfl rfl (Nat.le_of_ble_eq_true rfl) (fun _ _ hf => uX6_found  hf) (fun v18 h17 => ?_)
                  exact J_iret hK dX6_as_80
                · exact J_none
          · refine J_iload_n hK dX6_as_45 3 rfl ?_
            refine J_iconst hK dX6_as_46 ci_4 ?_
            refine J_icmp_ne (tgt := 59) hK dX6_as_47 (by decide) ?_ ?_
            · refine J_iload_n hK dX6_as_50 0 rfl ?_
              refine J_iconst hK dX6_as_51 ci_5 ?_
              refine J_icmp_ne (tgt := 59) hK dX6_as_52 (by decide) ?_ ?_
              · refine J_iconst hK dX6_as_55 ci_1 ?_
                refine J_goto (len := 0) (tgt := 60) hK dX6_as_56 (by decide) ?_
                refine J_istore (lw := [(3, .int v6), (0, .ref (X.1 + 278)), (1, .int a1), (2, .int a2)]) hK dX6_as_60 (by decide) rfl ?_
                refine J_iload hK dX6_as_62 0 rfl ?_
                refine J_if_eq (tgt := 75) hK dX6_as_64 (by decide) ?_ ?_
                · exact J_none
                · refine J_aload_n hK dX6_as_67 2 rfl ?_
                  refine J_iload_n hK dX6_as_68 3 rfl ?_
                  refine J_callVi (q := 278) (As := [.int a1]) (st := []) hK dX6_as_69 kB_X6_66 kV_X6_well kd_278 (by decide) rfl rfl (by decide) rfl rfl (Nat.le_of_ble_eq_true rfl) (fun _ _ hf => uX6_well  hf) (fun v20 h19 => ?_)
                  refine J_goto (len := 0) (tgt := 80) hK dX6_as_72 (by decide) ?_
                  exact J_iret hK dX6_as_80
              · refine J_iconst hK dX6_as_59 ci_0 ?_
                refine J_istore (lw := [(3, .int v6), (0, .ref (X.1 + 278)), (1, .int a1), (2, .int a2)]) hK dX6_as_60 (by decide) rfl ?_
                refine J_iload hK dX6_as_62 0 rfl ?_
                refine J_if_eq (tgt := 75) hK dX6_as_64 (by decide) ?_ ?_
                · refine J_aload_n hK dX6_as_75 2 rfl ?_
                  refine J_iconst hK dX6_as_76 ci_3 ?_
                  refine J_callVi (q := 278) (As := [.int (3 : Int32)]) (st := []) hK dX6_as_77 kB_X6_62 kV_X6_found kd_278 (by decide) rfl rfl (by decide) rfl rfl (Nat.le_of_ble_eq_true rfl) (fun _ _ hf => uX6_found  hf) (fun v22 h21 => ?_)
                  exact J_iret hK dX6_as_80
                · exact J_none
            · refine J_iconst hK dX6_as_59 ci_0 ?_
              refine J_istore (lw := [(3, .int v6), (0, .ref (X.1 + 278)), (1, .int a1), (2, .int a2)]) hK dX6_as_60 (by decide) rfl ?_
              refine J_iload hK dX6_as_62 0 rfl ?_
              refine J_if_eq (tgt := 75) hK dX6_as_64 (by decide) ?_ ?_
              · refine J_aload_n hK dX6_as_75 2 rfl ?_
                refine J_iconst hK dX6_as_76 ci_3 ?_
                refine J_callVi (q := 278) (As := [.int (3 : Int32)]) (st := []) hK dX6_as_77 kB_X6_62 kV_X6_found kd_278 (by decide) rfl rfl (by decide) rfl rfl (Nat.le_of_ble_eq_true rfl) (fun _ _ hf => uX6_found  hf) (fun v24 h23 => ?_)
                exact J_iret hK dX6_as_80
              · exact J_none
-- X6_clear
theorem dX6_clear_0 : DD cX6_clear 0 (.aload_n 0) 1 1 := by decide +kernel
theorem dX6_clear_1 : DD cX6_clear 1 (.iload_n 1) 1 2 := by decide +kernel
theorem dX6_clear_2 : DD cX6_clear 2 (.invokevirtual 184) 3 5 := by decide +kernel
theorem dX6_clear_5 : DD cX6_clear 5 (.ifCond .ne 6) 3 8 := by decide +kernel
theorem dX6_clear_8 : DD cX6_clear 8 (.ldc 61) 2 10 := by decide +kernel
theorem dX6_clear_10 : DD cX6_clear 10 (.ireturn) 1 11 := by decide +kernel
theorem dX6_clear_11 : DD cX6_clear 11 (.aload_n 0) 1 12 := by decide +kernel
theorem dX6_clear_12 : DD cX6_clear 12 (.getfield 25) 3 15 := by decide +kernel
theorem dX6_clear_15 : DD cX6_clear 15 (.bipush 35) 2 17 := by decide +kernel
theorem dX6_clear_17 : DD cX6_clear 17 (.iconst 2) 1 18 := by decide +kernel
theorem dX6_clear_18 : DD cX6_clear 18 (.iload_n 1) 1 19 := by decide +kernel
theorem dX6_clear_19 : DD cX6_clear 19 (.imul) 1 20 := by decide +kernel
theorem dX6_clear_20 : DD cX6_clear 20 (.iadd) 1 21 := by decide +kernel
theorem dX6_clear_21 : DD cX6_clear 21 (.iconst 1) 1 22 := by decide +kernel
theorem dX6_clear_22 : DD cX6_clear 22 (.iadd) 1 23 := by decide +kernel
theorem dX6_clear_23 : DD cX6_clear 23 (.iaload) 1 24 := by decide +kernel
theorem dX6_clear_24 : DD cX6_clear 24 (.istore_n 2) 1 25 := by decide +kernel
theorem dX6_clear_25 : DD cX6_clear 25 (.iload_n 2) 1 26 := by decide +kernel
theorem dX6_clear_26 : DD cX6_clear 26 (.ifCond .ne 6) 3 29 := by decide +kernel
theorem dX6_clear_29 : DD cX6_clear 29 (.ldc 170) 2 31 := by decide +kernel
theorem dX6_clear_31 : DD cX6_clear 31 (.ireturn) 1 32 := by decide +kernel
theorem dX6_clear_32 : DD cX6_clear 32 (.aload_n 0) 1 33 := by decide +kernel
theorem dX6_clear_33 : DD cX6_clear 33 (.invokevirtual 171) 3 36 := by decide +kernel
theorem dX6_clear_36 : DD cX6_clear 36 (.aload_n 0) 1 37 := by decide +kernel
theorem dX6_clear_37 : DD cX6_clear 37 (.getfield 25) 3 40 := by decide +kernel
theorem dX6_clear_40 : DD cX6_clear 40 (.bipush 35) 2 42 := by decide +kernel
theorem dX6_clear_42 : DD cX6_clear 42 (.iconst 2) 1 43 := by decide +kernel
theorem dX6_clear_43 : DD cX6_clear 43 (.iload_n 1) 1 44 := by decide +kernel
theorem dX6_clear_44 : DD cX6_clear 44 (.imul) 1 45 := by decide +kernel
theorem dX6_clear_45 : DD cX6_clear 45 (.iadd) 1 46 := by decide +kernel
theorem dX6_clear_46 : DD cX6_clear 46 (.iconst 1) 1 47 := by decide +kernel
theorem dX6_clear_47 : DD cX6_clear 47 (.iadd) 1 48 := by decide +kernel
theorem dX6_clear_48 : DD cX6_clear 48 (.iconst 0) 1 49 := by decide +kernel
theorem dX6_clear_49 : DD cX6_clear 49 (.iastore) 1 50 := by decide +kernel
theorem dX6_clear_50 : DD cX6_clear 50 (.iload_n 2) 1 51 := by decide +kernel
theorem dX6_clear_51 : DD cX6_clear 51 (.ireturn) 1 52 := by decide +kernel
def fX6_clear (a1 : Int32) (h : AH) : Option (Int32 × AH) := (bnd (fX6_isPier a1 h) fun v2 h1 => (if v2 = 0 then (some ((-1000001 : Int32), h1)) else (chk (inb (((35 : Int32) + ((2 : Int32) * a1)) + (1 : Int32)) (ln 284)) (vl (h1 284 (Int32.toNatClampNeg (((35 : Int32) + ((2 : Int32) * a1)) + (1 : Int32)))) fun z3 => (if z3 = 0 then (some ((-1000002 : Int32), h1)) else (bnd (fX6_notes  h1) fun _ h4 => (chk (inb (((35 : Int32) + ((2 : Int32) * a1)) + (1 : Int32)) (ln 284)) (sto (hs h4 284 (Int32.toNatClampNeg (((35 : Int32) + ((2 : Int32) * a1)) + (1 : Int32))) (0 : Int32)) fun h5 => (some (z3, h5))))))))))
set_option maxHeartbeats 4000000 in
set_option maxRecDepth 4000 in
theorem uX6_clear {l : Launch} {X : WX} {a1 : Int32} {h h' : AH} {v : Int32} (hf : fX6_clear a1 h = some (v, h')) : Does l X 3 yX6_clear cX6_clear 3 (some .int) [.ref (X.1 + 278), .int a1] h (eI v) h' := by
  refine Does.of (enc := eI) (o := fX6_clear a1 h) (lv := [(0, .ref (X.1 + 278)), (1, .int a1)]) (by decide) (Nat.le_of_ble_eq_true rfl) rfl hf (fun K hl hK => ?_)
  subst hl
  unfold fX6_clear
  refine J_aload_n hK dX6_clear_0 0 rfl ?_
  refine J_iload_n hK dX6_clear_1 1 rfl ?_
  refine J_callVi (q := 278) (As := [.int a1]) (st := []) hK dX6_clear_2 kB_X6_184 kV_X6_isPier kd_278 (by decide) rfl rfl (by decide) rfl rfl (Nat.le_of_ble_eq_true rfl) (fun _ _ hf => uX6_isPier  hf) (fun v2 h1 => ?_)
  refine J_if_ne (tgt := 11) hK dX6_clear_5 (by decide) ?_ ?_
  · refine J_ldc hK dX6_clear_8 kK_X6_61 ?_
    exact J_iret hK dX6_clear_10
  · refine J_aload_n hK dX6_clear_11 0 rfl ?_
    refine rF_X6_25 (q2 := 284) hK dX6_clear_12 kd_278 rfl ?_
    refine J_bipush hK dX6_clear_15 cb_35 ?_
    refine J_iconst hK dX6_clear_17 ci_2 ?_
    refine J_iload_n hK dX6_clear_18 1 rfl ?_
    refine J_imul hK dX6_clear_19 ?_
    refine J_iadd hK dX6_clear_20 ?_
    refine J_iconst hK dX6_clear_21 ci_1 ?_
    refine J_iadd hK dX6_clear_22 ?_
    refine J_iald hK dX6_clear_23 kd_284 (fun _ => ?_)
    refine J_istoreV_n (n := 2) (lw := [(0, .ref (X.1 + 278)), (1, .int a1)]) hK dX6_clear_24 rfl (by decide) rfl (fun z3 => ?_)
    refine J_iload_n hK dX6_clear_25 0 rfl ?_
    refine J_if_ne (tgt := 32) hK dX6_clear_26 (by decide) ?_ ?_
    · refine J_ldc hK dX6_clear_29 kK_X6_170 ?_
      exact J_iret hK dX6_clear_31
    · refine J_aload_n hK dX6_clear_32 1 rfl ?_
      refine J_callVv (q := 278) (As := []) (st := []) hK dX6_clear_33 kB_X6_171 kV_X6_notes kd_278 (by decide) rfl rfl (by decide) rfl rfl (Nat.le_of_ble_eq_true rfl) (fun _ _ hf => uX6_notes  hf) (fun _ h4 => ?_)
      refine J_aload_n hK dX6_clear_36 1 rfl ?_
      refine rF_X6_25 (q2 := 284) hK dX6_clear_37 kd_278 rfl ?_
      refine J_bipush hK dX6_clear_40 cb_35 ?_
      refine J_iconst hK dX6_clear_42 ci_2 ?_
      refine J_iload_n hK dX6_clear_43 2 rfl ?_
      refine J_imul hK dX6_clear_44 ?_
      refine J_iadd hK dX6_clear_45 ?_
      refine J_iconst hK dX6_clear_46 ci_1 ?_
      refine J_iadd hK dX6_clear_47 ?_
      refine J_iconst hK dX6_clear_48 ci_0 ?_
      refine J_iast hK dX6_clear_49 kd_284 (fun h5 => ?_)
      refine J_iload_n hK dX6_clear_50 0 rfl ?_
      exact J_iret hK dX6_clear_51
-- X6_copy
theorem dX6_copy_0 : DD cX6_copy 0 (.iload_n 1) 1 1 := by decide +kernel
theorem dX6_copy_1 : DD cX6_copy 1 (.invokestatic 57) 3 4 := by decide +kernel
theorem dX6_copy_4 : DD cX6_copy 4 (.ifCond .eq 10) 3 7 := by decide +kernel
theorem dX6_copy_7 : DD cX6_copy 7 (.iload_n 3) 1 8 := by decide +kernel
theorem dX6_copy_8 : DD cX6_copy 8 (.invokestatic 57) 3 11 := by decide +kernel
theorem dX6_copy_11 : DD cX6_copy 11 (.ifCond .ne 6) 3 14 := by decide +kernel
theorem dX6_copy_14 : DD cX6_copy 14 (.ldc 61) 2 16 := by decide +kernel
theorem dX6_copy_16 : DD cX6_copy 16 (.ireturn) 1 17 := by decide +kernel
theorem dX6_copy_17 : DD cX6_copy 17 (.aload_n 0) 1 18 := by decide +kernel
theorem dX6_copy_18 : DD cX6_copy 18 (.iload_n 1) 1 19 := by decide +kernel
theorem dX6_copy_19 : DD cX6_copy 19 (.invokevirtual 69) 3 22 := by decide +kernel
theorem dX6_copy_22 : DD cX6_copy 22 (.ifCond .ne 11) 3 25 := by decide +kernel
theorem dX6_copy_25 : DD cX6_copy 25 (.aload_n 0) 1 26 := by decide +kernel
theorem dX6_copy_26 : DD cX6_copy 26 (.iload_n 3) 1 27 := by decide +kernel
theorem dX6_copy_27 : DD cX6_copy 27 (.invokevirtual 69) 3 30 := by decide +kernel
theorem dX6_copy_30 : DD cX6_copy 30 (.ifCond .eq 9) 3 33 := by decide +kernel
theorem dX6_copy_33 : DD cX6_copy 33 (.aload_n 0) 1 34 := by decide +kernel
theorem dX6_copy_34 : DD cX6_copy 34 (.iconst 1) 1 35 := by decide +kernel
theorem dX6_copy_35 : DD cX6_copy 35 (.invokevirtual 62) 3 38 := by decide +kernel
theorem dX6_copy_38 : DD cX6_copy 38 (.ireturn) 1 39 := by decide +kernel
theorem dX6_copy_39 : DD cX6_copy 39 (.aload_n 0) 1 40 := by decide +kernel
theorem dX6_copy_40 : DD cX6_copy 40 (.getfield 7) 3 43 := by decide +kernel
theorem dX6_copy_43 : DD cX6_copy 43 (.iload_n 1) 1 44 := by decide +kernel
theorem dX6_copy_44 : DD cX6_copy 44 (.iaload) 1 45 := by decide +kernel
theorem dX6_copy_45 : DD cX6_copy 45 (.aload_n 0) 1 46 := by decide +kernel
theorem dX6_copy_46 : DD cX6_copy 46 (.getfield 7) 3 49 := by decide +kernel
theorem dX6_copy_49 : DD cX6_copy 49 (.iload_n 3) 1 50 := by decide +kernel
theorem dX6_copy_50 : DD cX6_copy 50 (.iaload) 1 51 := by decide +kernel
theorem dX6_copy_51 : DD cX6_copy 51 (.if_icmp .eq 9) 3 54 := by decide +kernel
theorem dX6_copy_54 : DD cX6_copy 54 (.aload_n 0) 1 55 := by decide +kernel
theorem dX6_copy_55 : DD cX6_copy 55 (.iconst 5) 1 56 := by decide +kernel
theorem dX6_copy_56 : DD cX6_copy 56 (.invokevirtual 62) 3 59 := by decide +kernel
theorem dX6_copy_59 : DD cX6_copy 59 (.ireturn) 1 60 := by decide +kernel
theorem dX6_copy_60 : DD cX6_copy 60 (.aload_n 0) 1 61 := by decide +kernel
theorem dX6_copy_61 : DD cX6_copy 61 (.iload_n 1) 1 62 := by decide +kernel
theorem dX6_copy_62 : DD cX6_copy 62 (.iload_n 2) 1 63 := by decide +kernel
theorem dX6_copy_63 : DD cX6_copy 63 (.iload 5) 2 65 := by decide +kernel
theorem dX6_copy_65 : DD cX6_copy 65 (.invokevirtual 76) 3 68 := by decide +kernel
theorem dX6_copy_68 : DD cX6_copy 68 (.ifCond .eq 15) 3 71 := by decide +kernel
theorem dX6_copy_71 : DD cX6_copy 71 (.aload_n 0) 1 72 := by decide +kernel
theorem dX6_copy_72 : DD cX6_copy 72 (.iload_n 3) 1 73 := by decide +kernel
theorem dX6_copy_73 : DD cX6_copy 73 (.iload 4) 2 75 := by decide +kernel
theorem dX6_copy_75 : DD cX6_copy 75 (.iload 5) 2 77 := by decide +kernel
theorem dX6_copy_77 : DD cX6_copy 77 (.invokevirtual 76) 3 80 := by decide +kernel
theorem dX6_copy_80 : DD cX6_copy 80 (.ifCond .ne 9) 3 83 := by decide +kernel
theorem dX6_copy_83 : DD cX6_copy 83 (.aload_n 0) 1 84 := by decide +kernel
theorem dX6_copy_84 : DD cX6_copy 84 (.iconst 2) 1 85 := by decide +kernel
theorem dX6_copy_85 : DD cX6_copy 85 (.invokevirtual 62) 3 88 := by decide +kernel
theorem dX6_copy_88 : DD cX6_copy 88 (.ireturn) 1 89 := by decide +kernel
theorem dX6_copy_89 : DD cX6_copy 89 (.iconst 0) 1 90 := by decide +kernel
theorem dX6_copy_90 : DD cX6_copy 90 (.istore 6) 2 92 := by decide +kernel
theorem dX6_copy_92 : DD cX6_copy 92 (.iload 6) 2 94 := by decide +kernel
theorem dX6_copy_94 : DD cX6_copy 94 (.iload 5) 2 96 := by decide +kernel
theorem dX6_copy_96 : DD cX6_copy 96 (.if_icmp .ge 30) 3 99 := by decide +kernel
theorem dX6_copy_99 : DD cX6_copy 99 (.aload_n 0) 1 100 := by decide +kernel
theorem dX6_copy_100 : DD cX6_copy 100 (.getfield 19) 3 103 := by decide +kernel
theorem dX6_copy_103 : DD cX6_copy 103 (.iload 6) 2 105 := by decide +kernel
theorem dX6_copy_105 : DD cX6_copy 105 (.aload_n 0) 1 106 := by decide +kernel
theorem dX6_copy_106 : DD cX6_copy 106 (.getfield 16) 3 109 := by decide +kernel
theorem dX6_copy_109 : DD cX6_copy 109 (.bipush 40) 2 111 := by decide +kernel
theorem dX6_copy_111 : DD cX6_copy 111 (.iload_n 1) 1 112 := by decide +kernel
theorem dX6_copy_112 : DD cX6_copy 112 (.imul) 1 113 := by decide +kernel
theorem dX6_copy_113 : DD cX6_copy 113 (.iload_n 2) 1 114 := by decide +kernel
theorem dX6_copy_114 : DD cX6_copy 114 (.iadd) 1 115 := by decide +kernel
theorem dX6_copy_115 : DD cX6_copy 115 (.iload 6) 2 117 := by decide +kernel
theorem dX6_copy_117 : DD cX6_copy 117 (.iadd) 1 118 := by decide +kernel
theorem dX6_copy_118 : DD cX6_copy 118 (.iaload) 1 119 := by decide +kernel
theorem dX6_copy_119 : DD cX6_copy 119 (.iastore) 1 120 := by decide +kernel
theorem dX6_copy_120 : DD cX6_copy 120 (.iinc 6 1) 3 123 := by decide +kernel
theorem dX6_copy_123 : DD cX6_copy 123 (.goto (-31)) 3 126 := by decide +kernel
theorem dX6_copy_126 : DD cX6_copy 126 (.iconst 0) 1 127 := by decide +kernel
theorem dX6_copy_127 : DD cX6_copy 127 (.istore 6) 2 129 := by decide +kernel
theorem dX6_copy_129 : DD cX6_copy 129 (.iload 6) 2 131 := by decide +kernel
theorem dX6_copy_131 : DD cX6_copy 131 (.iload 5) 2 133 := by decide +kernel
theorem dX6_copy_133 : DD cX6_copy 133 (.if_icmp .ge 31) 3 136 := by decide +kernel
theorem dX6_copy_136 : DD cX6_copy 136 (.aload_n 0) 1 137 := by decide +kernel
theorem dX6_copy_137 : DD cX6_copy 137 (.getfield 16) 3 140 := by decide +kernel
theorem dX6_copy_140 : DD cX6_copy 140 (.bipush 40) 2 142 := by decide +kernel
theorem dX6_copy_142 : DD cX6_copy 142 (.iload_n 3) 1 143 := by decide +kernel
theorem dX6_copy_143 : DD cX6_copy 143 (.imul) 1 144 := by decide +kernel
theorem dX6_copy_144 : DD cX6_copy 144 (.iload 4) 2 146 := by decide +kernel
theorem dX6_copy_146 : DD cX6_copy 146 (.iadd) 1 147 := by decide +kernel
theorem dX6_copy_147 : DD cX6_copy 147 (.iload 6) 2 149 := by decide +kernel
theorem dX6_copy_149 : DD cX6_copy 149 (.iadd) 1 150 := by decide +kernel
theorem dX6_copy_150 : DD cX6_copy 150 (.aload_n 0) 1 151 := by decide +kernel
theorem dX6_copy_151 : DD cX6_copy 151 (.getfield 19) 3 154 := by decide +kernel
theorem dX6_copy_154 : DD cX6_copy 154 (.iload 6) 2 156 := by decide +kernel
theorem dX6_copy_156 : DD cX6_copy 156 (.iaload) 1 157 := by decide +kernel
theorem dX6_copy_157 : DD cX6_copy 157 (.iastore) 1 158 := by decide +kernel
theorem dX6_copy_158 : DD cX6_copy 158 (.iinc 6 1) 3 161 := by decide +kernel
theorem dX6_copy_161 : DD cX6_copy 161 (.goto (-32)) 3 164 := by decide +kernel
theorem dX6_copy_164 : DD cX6_copy 164 (.aload_n 0) 1 165 := by decide +kernel
theorem dX6_copy_165 : DD cX6_copy 165 (.iload 5) 2 167 := by decide +kernel
theorem dX6_copy_167 : DD cX6_copy 167 (.invokevirtual 66) 3 170 := by decide +kernel
theorem dX6_copy_170 : DD cX6_copy 170 (.ireturn) 1 171 := by decide +kernel
def fX6_copy_L92 (p1 : Int32) (p2 : Int32) (p3 : Int32) (p4 : Int32) (p5 : Int32) : Nat → Int32 → AH → (Int32 → AH → Option (Int32 × AH)) → Option (Int32 × AH)
  | 0, _, _, _ => none
  | n + 1, x6, h, k => (if x6 < p5 then (chk (inb ((((40 : Int32) * p1) + p2) + x6) (ln 281)) (chk (inb x6 (ln 282)) (sto (hs h 282 (Int32.toNatClampNeg x6) (h 281 (Int32.toNatClampNeg ((((40 : Int32) * p1) + p2) + x6)))) fun h201 => (vl (x6 + (1 : Int32)) fun z202 => fX6_copy_L92 p1 p2 p3 p4 p5 n z202 h201 k)))) else k x6 h)
def fX6_copy_L129 (p1 : Int32) (p2 : Int32) (p3 : Int32) (p4 : Int32) (p5 : Int32) : Nat → Int32 → AH → (Int32 → AH → Option (Int32 × AH)) → Option (Int32 × AH)
  | 0, _, _, _ => none
  | n + 1, x6, h, k => (if x6 < p5 then (chk (inb x6 (ln 282)) (chk (inb ((((40 : Int32) * p3) + p4) + x6) (ln 281)) (sto (hs h 281 (Int32.toNatClampNeg ((((40 : Int32) * p3) + p4) + x6)) (h 282 (Int32.toNatClampNeg x6))) fun h301 => (vl (x6 + (1 : Int32)) fun z302 => fX6_copy_L129 p1 p2 p3 p4 p5 n z302 h301 k)))) else k x6 h)
def fX6_copy (a1 : Int32) (a2 : Int32) (a3 : Int32) (a4 : Int32) (a5 : Int32) (h : AH) : Option (Int32 × AH) := (bnd (fX6_isRow a1 h) fun v2 h1 => (if v2 = 0 then (some ((-1000001 : Int32), h1)) else (bnd (fX6_isRow a3 h1) fun v4 h3 => (if v4 = 0 then (some ((-1000001 : Int32), h3)) else (bnd (fX6_isMissing a1 h3) fun v6 h5 => (if v6 = 0 then (bnd (fX6_isMissing a3 h5) fun v8 h7 => (if v8 = 0 then (chk (inb a1 (ln 279)) (chk (inb a3 (ln 279)) (if (h7 279 (Int32.toNatClampNeg a1)) = (h7 279 (Int32.toNatClampNeg a3)) then (bnd (fX6_isPart a1 a2 a5 h7) fun v10 h9 => (if v10 = 0 then (bnd (fX6_found (2 : Int32) h9) fun v12 h11 => (some (v12, h11))) else (bnd (fX6_isPart a3 a4 a5 h9) fun v14 h13 => (if v14 = 0 then (bnd (fX6_found (2 : Int32) h13) fun v16 h15 => (some (v16, h15))) else (fX6_copy_L92 a1 a2 a3 a4 a5 FU (0 : Int32) h13 fun z17 h18 => (fX6_copy_L129 a1 a2 a3 a4 a5 FU (0 : Int32) h18 fun z19 h20 => (bnd (fX6_well a5 h20) fun v22 h21 => (some (v22, h21))))))))) else (bnd (fX6_found (5 : Int32) h7) fun v24 h23 => (some (v24, h23)))))) else (bnd (fX6_found (1 : Int32) h7) fun v26 h25 => (some (v26, h25))))) else (bnd (fX6_found (1 : Int32) h5) fun v28 h27 => (some (v28, h27)))))))))
set_option maxHeartbeats 4000000 in
theorem gX6_copy_L92 {K : MC} {X : WX} {p1 : Int32} {p2 : Int32} {p3 : Int32} {p4 : Int32} {p5 : Int32} (hK : Ok K X RX6 cX6_copy 7 (some .int) 3) {k : Int32 → AH → Option (Int32 × AH)} (hk : ∀ (x6 : Int32) (h : AH), J K X 7 (Zm K X) eI 126 [(6, .int x6), (0, .ref (X.1 + 278)), (1, .int p1), (2, .int p2), (3, .int p3), (4, .int p4), (5, .int p5)] [] h (k x6 h)) : ∀ (n : Nat) (x6 : Int32) (h : AH), J K X 7 (Zm K X) eI 92 [(6, .int x6), (0, .ref (X.1 + 278)), (1, .int p1), (2, .int p2), (3, .int p3), (4, .int p4), (5, .int p5)] [] h (fX6_copy_L92 p1 p2 p3 p4 p5 n x6 h k) := by
  intro n
  induction n with
  | zero => exact fun _ _ => J_none
  | succ n ih =>
    intro x6 h
    rw [fX6_copy_L92]
    refine J_iload hK dX6_copy_92 0 rfl ?_
    refine J_iload hK dX6_copy_94 6 rfl ?_
    refine J_icmp_ge (tgt := 126) hK dX6_copy_96 (by decide) ?_ ?_
    · refine J_aload_n hK dX6_copy_99 1 rfl ?_
      refine rF_X6_19 (q2 := 282) hK dX6_copy_100 kd_278 rfl ?_
      refine J_iload hK dX6_copy_103 0 rfl ?_
      refine J_aload_n hK dX6_copy_105 1 rfl ?_
      refine rF_X6_16 (q2 := 281) hK dX6_copy_106 kd_278 rfl ?_
      refine J_bipush hK dX6_copy_109 cb_40 ?_
      refine J_iload_n hK dX6_copy_111 2 rfl ?_
      refine J_imul hK dX6_copy_112 ?_
      refine J_iload_n hK dX6_copy_113 3 rfl ?_
      refine J_iadd hK dX6_copy_114 ?_
      refine J_iload hK dX6_copy_115 0 rfl ?_
      refine J_iadd hK dX6_copy_117 ?_
      refine J_iald hK dX6_copy_118 kd_281 (fun _ => ?_)
      refine J_iast hK dX6_copy_119 kd_282 (fun h201 => ?_)
      refine J_iinc (lw := [(0, .ref (X.1 + 278)), (1, .int p1), (2, .int p2), (3, .int p3), (4, .int p4), (5, .int p5)]) hK dX6_copy_120 0 rfl (by decide) ci_1 rfl (fun z202 => ?_)
      refine J_goto (len := 0) (tgt := 92) hK dX6_copy_123 (by decide) ?_
      exact J_sub [0, 1, 2, 3, 4, 5, 6] rfl (ih _ _)
    · exact J_sub [0, 1, 2, 3, 4, 5, 6] rfl (hk _ _)
set_option maxHeartbeats 4000000 in
theorem gX6_copy_L129 {K : MC} {X : WX} {p1 : Int32} {p2 : Int32} {p3 : Int32} {p4 : Int32} {p5 : Int32} (hK : Ok K X RX6 cX6_copy 7 (some .int) 3) {k : Int32 → AH → Option (Int32 × AH)} (hk : ∀ (x6 : Int32) (h : AH), J K X 7 (Zm K X) eI 164 [(6, .int x6), (0, .ref (X.1 + 278)), (1, .int p1), (2, .int p2), (3, .int p3), (4, .int p4), (5, .int p5)] [] h (k x6 h)) : ∀ (n : Nat) (x6 : Int32) (h : AH), J K X 7 (Zm K X) eI 129 [(6, .int x6), (0, .ref (X.1 + 278)), (1, .int p1), (2, .int p2), (3, .int p3), (4, .int p4), (5, .int p5)] [] h (fX6_copy_L129 p1 p2 p3 p4 p5 n x6 h k) := by
  intro n
  induction n with
  | zero => exact fun _ _ => J_none
  | succ n ih =>
    intro x6 h
    rw [fX6_copy_L129]
    refine J_iload hK dX6_copy_129 0 rfl ?_
    refine J_iload hK dX6_copy_131 6 rfl ?_
    refine J_icmp_ge (tgt := 164) hK dX6_copy_133 (by decide) ?_ ?_
    · refine J_aload_n hK dX6_copy_136 1 rfl ?_
      refine rF_X6_16 (q2 := 281) hK dX6_copy_137 kd_278 rfl ?_
      refine J_bipush hK dX6_copy_140 cb_40 ?_
      refine J_iload_n hK dX6_copy_142 4 rfl ?_
      refine J_imul hK dX6_copy_143 ?_
      refine J_iload hK dX6_copy_144 5 rfl ?_
      refine J_iadd hK dX6_copy_146 ?_
      refine J_iload hK dX6_copy_147 0 rfl ?_
      refine J_iadd hK dX6_copy_149 ?_
      refine J_aload_n hK dX6_copy_150 1 rfl ?_
      refine rF_X6_19 (q2 := 282) hK dX6_copy_151 kd_278 rfl ?_
      refine J_iload hK dX6_copy_154 0 rfl ?_
      refine J_iald hK dX6_copy_156 kd_282 (fun _ => ?_)
      refine J_iast hK dX6_copy_157 kd_281 (fun h301 => ?_)
      refine J_iinc (lw := [(0, .ref (X.1 + 278)), (1, .int p1), (2, .int p2), (3, .int p3), (4, .int p4), (5, .int p5)]) hK dX6_copy_158 0 rfl (by decide) ci_1 rfl (fun z302 => ?_)
      refine J_goto (len := 0) (tgt := 129) hK dX6_copy_161 (by decide) ?_
      exact J_sub [0, 1, 2, 3, 4, 5, 6] rfl (ih _ _)
    · exact J_sub [0, 1, 2, 3, 4, 5, 6] rfl (hk _ _)
set_option maxHeartbeats 4000000 in
set_option maxRecDepth 4000 in
theorem uX6_copy {l : Launch} {X : WX} {a1 : Int32} {a2 : Int32} {a3 : Int32} {a4 : Int32} {a5 : Int32} {h h' : AH} {v : Int32} (hf : fX6_copy a1 a2 a3 a4 a5 h = some (v, h')) : Does l X 3 yX6_copy cX6_copy 7 (some .int) [.ref (X.1 + 278), .int a1, .int a2, .int a3, .int a4, .int a5] h (eI v) h' := by
  refine Does.of (enc := eI) (o := fX6_copy a1 a2 a3 a4 a5 h) (lv := [(0, .ref (X.1 + 278)), (1, .int a1), (2, .int a2), (3, .int a3), (4, .int a4), (5, .int a5)]) (by decide) (Nat.le_of_ble_eq_true rfl) rfl hf (fun K hl hK => ?_)
  subst hl
  unfold fX6_copy
  refine J_iload_n hK dX6_copy_0 1 rfl ?_
  refine J_callSi (As := [.int a1]) (st := []) hK dX6_copy_1 kB_X6_57 kS_X6_isRow (by decide) rfl rfl (Nat.le_of_ble_eq_true rfl) (fun _ _ hf => uX6_isRow  hf) (fun v2 h1 => ?_)
  refine J_if_eq (tgt := 14) hK dX6_copy_4 (by decide) ?_ ?_
  · refine J_ldc hK dX6_copy_14 kK_X6_61 ?_
    exact J_iret hK dX6_copy_16
  · refine J_iload_n hK dX6_copy_7 3 rfl ?_
    refine J_callSi (As := [.int a3]) (st := []) hK dX6_copy_8 kB_X6_57 kS_X6_isRow (by decide) rfl rfl (Nat.le_of_ble_eq_true rfl) (fun _ _ hf => uX6_isRow  hf) (fun v4 h3 => ?_)
    refine J_if_ne (tgt := 17) hK dX6_copy_11 (by decide) ?_ ?_
    · refine J_ldc hK dX6_copy_14 kK_X6_61 ?_
      exact J_iret hK dX6_copy_16
    · refine J_aload_n hK dX6_copy_17 0 rfl ?_
      refine J_iload_n hK dX6_copy_18 1 rfl ?_
      refine J_callVi (q := 278) (As := [.int a1]) (st := []) hK dX6_copy_19 kB_X6_69 kV_X6_isMissing kd_278 (by decide) rfl rfl (by decide) rfl rfl (Nat.le_of_ble_eq_true rfl) (fun _ _ hf => uX6_isMissing  hf) (fun v6 h5 => ?_)
      refine J_if_ne (tgt := 33) hK dX6_copy_22 (by decide) ?_ ?_
      · refine J_aload_n hK dX6_copy_25 0 rfl ?_
        refine J_iload_n hK dX6_copy_26 3 rfl ?_
        refine J_callVi (q := 278) (As := [.int a3]) (st := []) hK dX6_copy_27 kB_X6_69 kV_X6_isMissing kd_278 (by decide) rfl rfl (by decide) rfl rfl (Nat.le_of_ble_eq_true rfl) (fun _ _ hf => uX6_isMissing  hf) (fun v8 h7 => ?_)
        refine J_if_eq (tgt := 39) hK dX6_copy_30 (by decide) ?_ ?_
        · refine J_aload_n hK dX6_copy_39 0 rfl ?_
          refine rF_X6_7 (q2 := 279) hK dX6_copy_40 kd_278 rfl ?_
          refine J_iload_n hK dX6_copy_43 1 rfl ?_
          refine J_iald hK dX6_copy_44 kd_279 (fun _ => ?_)
          refine J_aload_n hK dX6_copy_45 0 rfl ?_
          refine rF_X6_7 (q2 := 279) hK dX6_copy_46 kd_278 rfl ?_
          refine J_iload_n hK dX6_copy_49 3 rfl ?_
          refine J_iald hK dX6_copy_50 kd_279 (fun _ => ?_)
          refine J_icmp_eq (tgt := 60) hK dX6_copy_51 (by decide) ?_ ?_
          · refine J_aload_n hK dX6_copy_60 0 rfl ?_
            refine J_iload_n hK dX6_copy_61 1 rfl ?_
            refine J_iload_n hK dX6_copy_62 2 rfl ?_
            refine J_iload hK dX6_copy_63 5 rfl ?_
            refine J_callVi (q := 278) (As := [.int a1, .int a2, .int a5]) (st := []) hK dX6_copy_65 kB_X6_76 kV_X6_isPart kd_278 (by decide) rfl rfl (by decide) rfl rfl (Nat.le_of_ble_eq_true rfl) (fun _ _ hf => uX6_isPart  hf) (fun v10 h9 => ?_)
            refine J_if_eq (tgt := 83) hK dX6_copy_68 (by decide) ?_ ?_
            · refine J_aload_n hK dX6_copy_83 0 rfl ?_
              refine J_iconst hK dX6_copy_84 ci_2 ?_
              refine J_callVi (q := 278) (As := [.int (2 : Int32)]) (st := []) hK dX6_copy_85 kB_X6_62 kV_X6_found kd_278 (by decide) rfl rfl (by decide) rfl rfl (Nat.le_of_ble_eq_true rfl) (fun _ _ hf => uX6_found  hf) (fun v12 h11 => ?_)
              exact J_iret hK dX6_copy_88
            · refine J_aload_n hK dX6_copy_71 0 rfl ?_
              refine J_iload_n hK dX6_copy_72 3 rfl ?_
              refine J_iload hK dX6_copy_73 4 rfl ?_
              refine J_iload hK dX6_copy_75 5 rfl ?_
              refine J_callVi (q := 278) (As := [.int a3, .int a4, .int a5]) (st := []) hK dX6_copy_77 kB_X6_76 kV_X6_isPart kd_278 (by decide) rfl rfl (by decide) rfl rfl (Nat.le_of_ble_eq_true rfl) (fun _ _ hf => uX6_isPart  hf) (fun v14 h13 => ?_)
              refine J_if_ne (tgt := 89) hK dX6_copy_80 (by decide) ?_ ?_
              · refine J_aload_n hK dX6_copy_83 0 rfl ?_
                refine J_iconst hK dX6_copy_84 ci_2 ?_
                refine J_callVi (q := 278) (As := [.int (2 : Int32)]) (st := []) hK dX6_copy_85 kB_X6_62 kV_X6_found kd_278 (by decide) rfl rfl (by decide) rfl rfl (Nat.le_of_ble_eq_true rfl) (fun _ _ hf => uX6_found  hf) (fun v16 h15 => ?_)
                exact J_iret hK dX6_copy_88
              · refine J_iconst hK dX6_copy_89 ci_0 ?_
                refine J_istore (lw := [(0, .ref (X.1 + 278)), (1, .int a1), (2, .int a2), (3, .int a3), (4, .int a4), (5, .int a5)]) hK dX6_copy_90 (by decide) rfl ?_
                refine J_sub [0, 1, 2, 3, 4, 5, 6] rfl (gX6_copy_L92 hK  (fun z17 h18 => ?_) FU _ _)
                refine J_iconst hK dX6_copy_126 ci_0 ?_
                refine J_istore (lw := [(0, .ref (X.1 + 278)), (1, .int a1), (2, .int a2), (3, .int a3), (4, .int a4), (5, .int a5)]) hK dX6_copy_127 (by decide) rfl ?_
                refine J_sub [0, 1, 2, 3, 4, 5, 6] rfl (gX6_copy_L129 hK  (fun z19 h20 => ?_) FU _ _)
                refine J_aload_n hK dX6_copy_164 1 rfl ?_
                refine J_iload hK dX6_copy_165 6 rfl ?_
                refine J_callVi (q := 278) (As := [.int a5]) (st := []) hK dX6_copy_167 kB_X6_66 kV_X6_well kd_278 (by decide) rfl rfl (by decide) rfl rfl (Nat.le_of_ble_eq_true rfl) (fun _ _ hf => uX6_well  hf) (fun v22 h21 => ?_)
                exact J_iret hK dX6_copy_170
          · refine J_aload_n hK dX6_copy_54 0 rfl ?_
            refine J_iconst hK dX6_copy_55 ci_5 ?_
            refine J_callVi (q := 278) (As := [.int (5 : Int32)]) (st := []) hK dX6_copy_56 kB_X6_62 kV_X6_found kd_278 (by decide) rfl rfl (by decide) rfl rfl (Nat.le_of_ble_eq_true rfl) (fun _ _ hf => uX6_found  hf) (fun v24 h23 => ?_)
            exact J_iret hK dX6_copy_59
        · refine J_aload_n hK dX6_copy_33 0 rfl ?_
          refine J_iconst hK dX6_copy_34 ci_1 ?_
          refine J_callVi (q := 278) (As := [.int (1 : Int32)]) (st := []) hK dX6_copy_35 kB_X6_62 kV_X6_found kd_278 (by decide) rfl rfl (by decide) rfl rfl (Nat.le_of_ble_eq_true rfl) (fun _ _ hf => uX6_found  hf) (fun v26 h25 => ?_)
          exact J_iret hK dX6_copy_38
      · refine J_aload_n hK dX6_copy_33 0 rfl ?_
        refine J_iconst hK dX6_copy_34 ci_1 ?_
        refine J_callVi (q := 278) (As := [.int (1 : Int32)]) (st := []) hK dX6_copy_35 kB_X6_62 kV_X6_found kd_278 (by decide) rfl rfl (by decide) rfl rfl (Nat.le_of_ble_eq_true rfl) (fun _ _ hf => uX6_found  hf) (fun v28 h27 => ?_)
        exact J_iret hK dX6_copy_38
-- X6_drop
theorem dX6_drop_0 : DD cX6_drop 0 (.iload_n 1) 1 1 := by decide +kernel
theorem dX6_drop_1 : DD cX6_drop 1 (.invokestatic 57) 3 4 := by decide +kernel
theorem dX6_drop_4 : DD cX6_drop 4 (.ifCond .ne 6) 3 7 := by decide +kernel
theorem dX6_drop_7 : DD cX6_drop 7 (.ldc 61) 2 9 := by decide +kernel
theorem dX6_drop_9 : DD cX6_drop 9 (.ireturn) 1 10 := by decide +kernel
theorem dX6_drop_10 : DD cX6_drop 10 (.aload_n 0) 1 11 := by decide +kernel
theorem dX6_drop_11 : DD cX6_drop 11 (.iload_n 1) 1 12 := by decide +kernel
theorem dX6_drop_12 : DD cX6_drop 12 (.invokevirtual 69) 3 15 := by decide +kernel
theorem dX6_drop_15 : DD cX6_drop 15 (.ifCond .eq 9) 3 18 := by decide +kernel
theorem dX6_drop_18 : DD cX6_drop 18 (.aload_n 0) 1 19 := by decide +kernel
theorem dX6_drop_19 : DD cX6_drop 19 (.iconst 1) 1 20 := by decide +kernel
theorem dX6_drop_20 : DD cX6_drop 20 (.invokevirtual 62) 3 23 := by decide +kernel
theorem dX6_drop_23 : DD cX6_drop 23 (.ireturn) 1 24 := by decide +kernel
theorem dX6_drop_24 : DD cX6_drop 24 (.aload_n 0) 1 25 := by decide +kernel
theorem dX6_drop_25 : DD cX6_drop 25 (.getfield 7) 3 28 := by decide +kernel
theorem dX6_drop_28 : DD cX6_drop 28 (.iload_n 1) 1 29 := by decide +kernel
theorem dX6_drop_29 : DD cX6_drop 29 (.ldc 47) 2 31 := by decide +kernel
theorem dX6_drop_31 : DD cX6_drop 31 (.iastore) 1 32 := by decide +kernel
theorem dX6_drop_32 : DD cX6_drop 32 (.aload_n 0) 1 33 := by decide +kernel
theorem dX6_drop_33 : DD cX6_drop 33 (.aload_n 0) 1 34 := by decide +kernel
theorem dX6_drop_34 : DD cX6_drop 34 (.getfield 13) 3 37 := by decide +kernel
theorem dX6_drop_37 : DD cX6_drop 37 (.iload_n 1) 1 38 := by decide +kernel
theorem dX6_drop_38 : DD cX6_drop 38 (.iaload) 1 39 := by decide +kernel
theorem dX6_drop_39 : DD cX6_drop 39 (.invokevirtual 66) 3 42 := by decide +kernel
theorem dX6_drop_42 : DD cX6_drop 42 (.ireturn) 1 43 := by decide +kernel
def fX6_drop (a1 : Int32) (h : AH) : Option (Int32 × AH) := (bnd (fX6_isRow a1 h) fun v2 h1 => (if v2 = 0 then (some ((-1000001 : Int32), h1)) else (bnd (fX6_isMissing a1 h1) fun v4 h3 => (if v4 = 0 then (chk (inb a1 (ln 279)) (sto (hs h3 279 (Int32.toNatClampNeg a1) (-1000000 : Int32)) fun h5 => (chk (inb a1 (ln 280)) (bnd (fX6_well (h5 280 (Int32.toNatClampNeg a1)) h5) fun v7 h6 => (some (v7, h6)))))) else (bnd (fX6_found (1 : Int32) h3) fun v9 h8 => (some (v9, h8)))))))
set_option maxHeartbeats 4000000 in
set_option maxRecDepth 4000 in
theorem uX6_drop {l : Launch} {X : WX} {a1 : Int32} {h h' : AH} {v : Int32} (hf : fX6_drop a1 h = some (v, h')) : Does l X 3 yX6_drop cX6_drop 2 (some .int) [.ref (X.1 + 278), .int a1] h (eI v) h' := by
  refine Does.of (enc := eI) (o := fX6_drop a1 h) (lv := [(0, .ref (X.1 + 278)), (1, .int a1)]) (by decide) (Nat.le_of_ble_eq_true rfl) rfl hf (fun K hl hK => ?_)
  subst hl
  unfold fX6_drop
  refine J_iload_n hK dX6_drop_0 1 rfl ?_
  refine J_callSi (As := [.int a1]) (st := []) hK dX6_drop_1 kB_X6_57 kS_X6_isRow (by decide) rfl rfl (Nat.le_of_ble_eq_true rfl) (fun _ _ hf => uX6_isRow  hf) (fun v2 h1 => ?_)
  refine J_if_ne (tgt := 10) hK dX6_drop_4 (by decide) ?_ ?_
  · refine J_ldc hK dX6_drop_7 kK_X6_61 ?_
    exact J_iret hK dX6_drop_9
  · refine J_aload_n hK dX6_drop_10 0 rfl ?_
    refine J_iload_n hK dX6_drop_11 1 rfl ?_
    refine J_callVi (q := 278) (As := [.int a1]) (st := []) hK dX6_drop_12 kB_X6_69 kV_X6_isMissing kd_278 (by decide) rfl rfl (by decide) rfl rfl (Nat.le_of_ble_eq_true rfl) (fun _ _ hf => uX6_isMissing  hf) (fun v4 h3 => ?_)
    refine J_if_eq (tgt := 24) hK dX6_drop_15 (by decide) ?_ ?_
    · refine J_aload_n hK dX6_drop_24 0 rfl ?_
      refine rF_X6_7 (q2 := 279) hK dX6_drop_25 kd_278 rfl ?_
      refine J_iload_n hK dX6_drop_28 1 rfl ?_
      refine J_ldc hK dX6_drop_29 kK_X6_47 ?_
      refine J_iast hK dX6_drop_31 kd_279 (fun h5 => ?_)
      refine J_aload_n hK dX6_drop_32 0 rfl ?_
      refine J_aload_n hK dX6_drop_33 0 rfl ?_
      refine rF_X6_13 (q2 := 280) hK dX6_drop_34 kd_278 rfl ?_
      refine J_iload_n hK dX6_drop_37 1 rfl ?_
      refine J_iald hK dX6_drop_38 kd_280 (fun _ => ?_)
      refine J_callVi (q := 278) (As := [.int (h5 280 (Int32.toNatClampNeg a1))]) (st := []) hK dX6_drop_39 kB_X6_66 kV_X6_well kd_278 (by decide) rfl rfl (by decide) rfl rfl (Nat.le_of_ble_eq_true rfl) (fun _ _ hf => uX6_well  hf) (fun v7 h6 => ?_)
      exact J_iret hK dX6_drop_42
    · refine J_aload_n hK dX6_drop_18 0 rfl ?_
      refine J_iconst hK dX6_drop_19 ci_1 ?_
      refine J_callVi (q := 278) (As := [.int (1 : Int32)]) (st := []) hK dX6_drop_20 kB_X6_62 kV_X6_found kd_278 (by decide) rfl rfl (by decide) rfl rfl (Nat.le_of_ble_eq_true rfl) (fun _ _ hf => uX6_found  hf) (fun v9 h8 => ?_)
      exact J_iret hK dX6_drop_23
-- X6_kind
theorem dX6_kind_0 : DD cX6_kind 0 (.aload_n 0) 1 1 := by decide +kernel
theorem dX6_kind_1 : DD cX6_kind 1 (.iload_n 1) 1 2 := by decide +kernel
theorem dX6_kind_2 : DD cX6_kind 2 (.invokevirtual 178) 3 5 := by decide +kernel
theorem dX6_kind_5 : DD cX6_kind 5 (.ifCond .eq 11) 3 8 := by decide +kernel
theorem dX6_kind_8 : DD cX6_kind 8 (.aload_n 0) 1 9 := by decide +kernel
theorem dX6_kind_9 : DD cX6_kind 9 (.iload_n 1) 1 10 := by decide +kernel
theorem dX6_kind_10 : DD cX6_kind 10 (.invokevirtual 217) 3 13 := by decide +kernel
theorem dX6_kind_13 : DD cX6_kind 13 (.goto 5) 3 16 := by decide +kernel
theorem dX6_kind_16 : DD cX6_kind 16 (.ldc 61) 2 18 := by decide +kernel
theorem dX6_kind_18 : DD cX6_kind 18 (.ireturn) 1 19 := by decide +kernel
def fX6_kind (a1 : Int32) (h : AH) : Option (Int32 × AH) := (bnd (fX6_isTug a1 h) fun v2 h1 => (if v2 = 0 then (some ((-1000001 : Int32), h1)) else (bnd (fX6_kindIn a1 h1) fun v4 h3 => (some (v4, h3)))))
set_option maxHeartbeats 4000000 in
set_option maxRecDepth 4000 in
theorem uX6_kind {l : Launch} {X : WX} {a1 : Int32} {h h' : AH} {v : Int32} (hf : fX6_kind a1 h = some (v, h')) : Does l X 3 yX6_kind cX6_kind 2 (some .int) [.ref (X.1 + 278), .int a1] h (eI v) h' := by
  refine Does.of (enc := eI) (o := fX6_kind a1 h) (lv := [(0, .ref (X.1 + 278)), (1, .int a1)]) (by decide) (Nat.le_of_ble_eq_true rfl) rfl hf (fun K hl hK => ?_)
  subst hl
  unfold fX6_kind
  refine J_aload_n hK dX6_kind_0 0 rfl ?_
  refine J_iload_n hK dX6_kind_1 1 rfl ?_
  refine J_callVi (q := 278) (As := [.int a1]) (st := []) hK dX6_kind_2 kB_X6_178 kV_X6_isTug kd_278 (by decide) rfl rfl (by decide) rfl rfl (Nat.le_of_ble_eq_true rfl) (fun _ _ hf => uX6_isTug  hf) (fun v2 h1 => ?_)
  refine J_if_eq (tgt := 16) hK dX6_kind_5 (by decide) ?_ ?_
  · refine J_ldc hK dX6_kind_16 kK_X6_61 ?_
    exact J_iret hK dX6_kind_18
  · refine J_aload_n hK dX6_kind_8 0 rfl ?_
    refine J_iload_n hK dX6_kind_9 1 rfl ?_
    refine J_callVi (q := 278) (As := [.int a1]) (st := []) hK dX6_kind_10 kB_X6_217 kV_X6_kindIn kd_278 (by decide) rfl rfl (by decide) rfl rfl (Nat.le_of_ble_eq_true rfl) (fun _ _ hf => uX6_kindIn  hf) (fun v4 h3 => ?_)
    refine J_goto (len := 0) (tgt := 18) hK dX6_kind_13 (by decide) ?_
    exact J_iret hK dX6_kind_18
-- X6_launchMark
theorem dX6_launchMark_0 : DD cX6_launchMark 0 (.aload_n 0) 1 1 := by decide +kernel
theorem dX6_launchMark_1 : DD cX6_launchMark 1 (.bipush 23) 2 3 := by decide +kernel
theorem dX6_launchMark_3 : DD cX6_launchMark 3 (.invokevirtual 223) 3 6 := by decide +kernel
theorem dX6_launchMark_6 : DD cX6_launchMark 6 (.aload_n 0) 1 7 := by decide +kernel
theorem dX6_launchMark_7 : DD cX6_launchMark 7 (.bipush 20) 2 9 := by decide +kernel
theorem dX6_launchMark_9 : DD cX6_launchMark 9 (.invokevirtual 223) 3 12 := by decide +kernel
theorem dX6_launchMark_12 : DD cX6_launchMark 12 (.iload_n 1) 1 13 := by decide +kernel
theorem dX6_launchMark_13 : DD cX6_launchMark 13 (.aload_n 0) 1 14 := by decide +kernel
theorem dX6_launchMark_14 : DD cX6_launchMark 14 (.iload_n 1) 1 15 := by decide +kernel
theorem dX6_launchMark_15 : DD cX6_launchMark 15 (.invokevirtual 229) 3 18 := by decide +kernel
theorem dX6_launchMark_18 : DD cX6_launchMark 18 (.isub) 1 19 := by decide +kernel
theorem dX6_launchMark_19 : DD cX6_launchMark 19 (.ireturn) 1 20 := by decide +kernel
def fX6_launchMark (a1 : Int32) (h : AH) : Option (Int32 × AH) := (bnd (fX6_begins (23 : Int32) h) fun _ h1 => (bnd (fX6_begins (20 : Int32) h1) fun _ h2 => (bnd (fX6_launchSize a1 h2) fun v4 h3 => (some ((a1 - v4), h3)))))
set_option maxHeartbeats 4000000 in
set_option maxRecDepth 4000 in
theorem uX6_launchMark {l : Launch} {X : WX} {a1 : Int32} {h h' : AH} {v : Int32} (hf : fX6_launchMark a1 h = some (v, h')) : Does l X 3 yX6_launchMark cX6_launchMark 2 (some .int) [.ref (X.1 + 278), .int a1] h (eI v) h' := by
  refine Does.of (enc := eI) (o := fX6_launchMark a1 h) (lv := [(0, .ref (X.1 + 278)), (1, .int a1)]) (by decide) (Nat.le_of_ble_eq_true rfl) rfl hf (fun K hl hK => ?_)
  subst hl
  unfold fX6_launchMark
  refine J_aload_n hK dX6_launchMark_0 0 rfl ?_
  refine J_bipush hK dX6_launchMark_1 cb_23 ?_
  refine J_callVv (q := 278) (As := [.int (23 : Int32)]) (st := []) hK dX6_launchMark_3 kB_X6_223 kV_X6_begins kd_278 (by decide) rfl rfl (by decide) rfl rfl (Nat.le_of_ble_eq_true rfl) (fun _ _ hf => uX6_begins  hf) (fun _ h1 => ?_)
  refine J_aload_n hK dX6_launchMark_6 0 rfl ?_
  refine J_bipush hK dX6_launchMark_7 cb_20 ?_
  refine J_callVv (q := 278) (As := [.int (20 : Int32)]) (st := []) hK dX6_launchMark_9 kB_X6_223 kV_X6_begins kd_278 (by decide) rfl rfl (by decide) rfl rfl (Nat.le_of_ble_eq_true rfl) (fun _ _ hf => uX6_begins  hf) (fun _ h2 => ?_)
  refine J_iload_n hK dX6_launchMark_12 1 rfl ?_
  refine J_aload_n hK dX6_launchMark_13 0 rfl ?_
  refine J_iload_n hK dX6_launchMark_14 1 rfl ?_
  refine J_callVi (q := 278) (As := [.int a1]) (st := [.int a1]) hK dX6_launchMark_15 kB_X6_229 kV_X6_launchSize kd_278 (by decide) rfl rfl (by decide) rfl rfl (Nat.le_of_ble_eq_true rfl) (fun _ _ hf => uX6_launchSize  hf) (fun v4 h3 => ?_)
  refine J_isub hK dX6_launchMark_18 ?_
  exact J_iret hK dX6_launchMark_19
-- X6_loose
theorem dX6_loose_0 : DD cX6_loose 0 (.aload_n 0) 1 1 := by decide +kernel
theorem dX6_loose_1 : DD cX6_loose 1 (.iload_n 1) 1 2 := by decide +kernel
theorem dX6_loose_2 : DD cX6_loose 2 (.invokevirtual 178) 3 5 := by decide +kernel
theorem dX6_loose_5 : DD cX6_loose 5 (.ifCond .ne 6) 3 8 := by decide +kernel
theorem dX6_loose_8 : DD cX6_loose 8 (.ldc 61) 2 10 := by decide +kernel
theorem dX6_loose_10 : DD cX6_loose 10 (.ireturn) 1 11 := by decide +kernel
theorem dX6_loose_11 : DD cX6_loose 11 (.aload_n 0) 1 12 := by decide +kernel
theorem dX6_loose_12 : DD cX6_loose 12 (.getfield 25) 3 15 := by decide +kernel
theorem dX6_loose_15 : DD cX6_loose 15 (.iconst 5) 1 16 := by decide +kernel
theorem dX6_loose_16 : DD cX6_loose 16 (.iconst 5) 1 17 := by decide +kernel
theorem dX6_loose_17 : DD cX6_loose 17 (.iload_n 1) 1 18 := by decide +kernel
theorem dX6_loose_18 : DD cX6_loose 18 (.imul) 1 19 := by decide +kernel
theorem dX6_loose_19 : DD cX6_loose 19 (.iadd) 1 20 := by decide +kernel
theorem dX6_loose_20 : DD cX6_loose 20 (.iconst 4) 1 21 := by decide +kernel
theorem dX6_loose_21 : DD cX6_loose 21 (.iadd) 1 22 := by decide +kernel
theorem dX6_loose_22 : DD cX6_loose 22 (.iaload) 1 23 := by decide +kernel
theorem dX6_loose_23 : DD cX6_loose 23 (.ifCond .ne 6) 3 26 := by decide +kernel
theorem dX6_loose_26 : DD cX6_loose 26 (.ldc 170) 2 28 := by decide +kernel
theorem dX6_loose_28 : DD cX6_loose 28 (.ireturn) 1 29 := by decide +kernel
theorem dX6_loose_29 : DD cX6_loose 29 (.aload_n 0) 1 30 := by decide +kernel
theorem dX6_loose_30 : DD cX6_loose 30 (.invokevirtual 171) 3 33 := by decide +kernel
theorem dX6_loose_33 : DD cX6_loose 33 (.aload_n 0) 1 34 := by decide +kernel
theorem dX6_loose_34 : DD cX6_loose 34 (.getfield 25) 3 37 := by decide +kernel
theorem dX6_loose_37 : DD cX6_loose 37 (.iload_n 1) 1 38 := by decide +kernel
theorem dX6_loose_38 : DD cX6_loose 38 (.invokestatic 149) 3 41 := by decide +kernel
theorem dX6_loose_41 : DD cX6_loose 41 (.aload_n 0) 1 42 := by decide +kernel
theorem dX6_loose_42 : DD cX6_loose 42 (.getfield 25) 3 45 := by decide +kernel
theorem dX6_loose_45 : DD cX6_loose 45 (.invokestatic 181) 3 48 := by decide +kernel
theorem dX6_loose_48 : DD cX6_loose 48 (.ireturn) 1 49 := by decide +kernel
def fX6_loose (a1 : Int32) (h : AH) : Option (Int32 × AH) := (bnd (fX6_isTug a1 h) fun v2 h1 => (if v2 = 0 then (some ((-1000001 : Int32), h1)) else (chk (inb (((5 : Int32) + ((5 : Int32) * a1)) + (4 : Int32)) (ln 284)) (if (h1 284 (Int32.toNatClampNeg (((5 : Int32) + ((5 : Int32) * a1)) + (4 : Int32)))) = 0 then (some ((-1000002 : Int32), h1)) else (bnd (fX6_notes  h1) fun _ h3 => (bnd (fX6_drops 284 a1 h3) fun _ h4 => (bnd (fX6_holding 284 h4) fun v6 h5 => (some (v6, h5)))))))))
set_option maxHeartbeats 4000000 in
set_option maxRecDepth 4000 in
theorem uX6_loose {l : Launch} {X : WX} {a1 : Int32} {h h' : AH} {v : Int32} (hf : fX6_loose a1 h = some (v, h')) : Does l X 3 yX6_loose cX6_loose 2 (some .int) [.ref (X.1 + 278), .int a1] h (eI v) h' := by
  refine Does.of (enc := eI) (o := fX6_loose a1 h) (lv := [(0, .ref (X.1 + 278)), (1, .int a1)]) (by decide) (Nat.le_of_ble_eq_true rfl) rfl hf (fun K hl hK => ?_)
  subst hl
  unfold fX6_loose
  refine J_aload_n hK dX6_loose_0 0 rfl ?_
  refine J_iload_n hK dX6_loose_1 1 rfl ?_
  refine J_callVi (q := 278) (As := [.int a1]) (st := []) hK dX6_loose_2 kB_X6_178 kV_X6_isTug kd_278 (by decide) rfl rfl (by decide) rfl rfl (Nat.le_of_ble_eq_true rfl) (fun _ _ hf => uX6_isTug  hf) (fun v2 h1 => ?_)
  refine J_if_ne (tgt := 11) hK dX6_loose_5 (by decide) ?_ ?_
  · refine J_ldc hK dX6_loose_8 kK_X6_61 ?_
    exact J_iret hK dX6_loose_10
  · refine J_aload_n hK dX6_loose_11 0 rfl ?_
    refine rF_X6_25 (q2 := 284) hK dX6_loose_12 kd_278 rfl ?_
    refine J_iconst hK dX6_loose_15 ci_5 ?_
    refine J_iconst hK dX6_loose_16 ci_5 ?_
    refine J_iload_n hK dX6_loose_17 1 rfl ?_
    refine J_imul hK dX6_loose_18 ?_
    refine J_iadd hK dX6_loose_19 ?_
    refine J_iconst hK dX6_loose_20 ci_4 ?_
    refine J_iadd hK dX6_loose_21 ?_
    refine J_iald hK dX6_loose_22 kd_284 (fun _ => ?_)
    refine J_if_ne (tgt := 29) hK dX6_loose_23 (by decide) ?_ ?_
    · refine J_ldc hK dX6_loose_26 kK_X6_170 ?_
      exact J_iret hK dX6_loose_28
    · refine J_aload_n hK dX6_loose_29 0 rfl ?_
      refine J_callVv (q := 278) (As := []) (st := []) hK dX6_loose_30 kB_X6_171 kV_X6_notes kd_278 (by decide) rfl rfl (by decide) rfl rfl (Nat.le_of_ble_eq_true rfl) (fun _ _ hf => uX6_notes  hf) (fun _ h3 => ?_)
      refine J_aload_n hK dX6_loose_33 0 rfl ?_
      refine rF_X6_25 (q2 := 284) hK dX6_loose_34 kd_278 rfl ?_
      refine J_iload_n hK dX6_loose_37 1 rfl ?_
      refine J_callSv (As := [.ref (X.1 + 284), .int a1]) (st := []) hK dX6_loose_38 kB_X6_149 kS_X6_drops (by decide) rfl rfl (Nat.le_of_ble_eq_true rfl) (fun _ _ hf => uX6_drops kd_284 hf) (fun _ h4 => ?_)
      refine J_aload_n hK dX6_loose_41 0 rfl ?_
      refine rF_X6_25 (q2 := 284) hK dX6_loose_42 kd_278 rfl ?_
      refine J_callSi (As := [.ref (X.1 + 284)]) (st := []) hK dX6_loose_45 kB_X6_181 kS_X6_holding (by decide) rfl rfl (Nat.le_of_ble_eq_true rfl) (fun _ _ hf => uX6_holding kd_284 hf) (fun v6 h5 => ?_)
      exact J_iret hK dX6_loose_48
-- X6_mend
theorem dX6_mend_0 : DD cX6_mend 0 (.aload_n 0) 1 1 := by decide +kernel
theorem dX6_mend_1 : DD cX6_mend 1 (.iload_n 1) 1 2 := by decide +kernel
theorem dX6_mend_2 : DD cX6_mend 2 (.invokevirtual 178) 3 5 := by decide +kernel
theorem dX6_mend_5 : DD cX6_mend 5 (.ifCond .ne 6) 3 8 := by decide +kernel
theorem dX6_mend_8 : DD cX6_mend 8 (.ldc 61) 2 10 := by decide +kernel
theorem dX6_mend_10 : DD cX6_mend 10 (.ireturn) 1 11 := by decide +kernel
theorem dX6_mend_11 : DD cX6_mend 11 (.iconst 5) 1 12 := by decide +kernel
theorem dX6_mend_12 : DD cX6_mend 12 (.iconst 5) 1 13 := by decide +kernel
theorem dX6_mend_13 : DD cX6_mend 13 (.iload_n 1) 1 14 := by decide +kernel
theorem dX6_mend_14 : DD cX6_mend 14 (.imul) 1 15 := by decide +kernel
theorem dX6_mend_15 : DD cX6_mend 15 (.iadd) 1 16 := by decide +kernel
theorem dX6_mend_16 : DD cX6_mend 16 (.istore_n 2) 1 17 := by decide +kernel
theorem dX6_mend_17 : DD cX6_mend 17 (.aload_n 0) 1 18 := by decide +kernel
theorem dX6_mend_18 : DD cX6_mend 18 (.getfield 25) 3 21 := by decide +kernel
theorem dX6_mend_21 : DD cX6_mend 21 (.iload_n 2) 1 22 := by decide +kernel
theorem dX6_mend_22 : DD cX6_mend 22 (.iconst 4) 1 23 := by decide +kernel
theorem dX6_mend_23 : DD cX6_mend 23 (.iadd) 1 24 := by decide +kernel
theorem dX6_mend_24 : DD cX6_mend 24 (.iaload) 1 25 := by decide +kernel
theorem dX6_mend_25 : DD cX6_mend 25 (.iconst 1) 1 26 := by decide +kernel
theorem dX6_mend_26 : DD cX6_mend 26 (.if_icmp .ne 17) 3 29 := by decide +kernel
theorem dX6_mend_29 : DD cX6_mend 29 (.aload_n 0) 1 30 := by decide +kernel
theorem dX6_mend_30 : DD cX6_mend 30 (.getfield 25) 3 33 := by decide +kernel
theorem dX6_mend_33 : DD cX6_mend 33 (.iload_n 2) 1 34 := by decide +kernel
theorem dX6_mend_34 : DD cX6_mend 34 (.iconst 3) 1 35 := by decide +kernel
theorem dX6_mend_35 : DD cX6_mend 35 (.iadd) 1 36 := by decide +kernel
theorem dX6_mend_36 : DD cX6_mend 36 (.iaload) 1 37 := by decide +kernel
theorem dX6_mend_37 : DD cX6_mend 37 (.ifCond .ne 6) 3 40 := by decide +kernel
theorem dX6_mend_40 : DD cX6_mend 40 (.ldc 170) 2 42 := by decide +kernel
theorem dX6_mend_42 : DD cX6_mend 42 (.ireturn) 1 43 := by decide +kernel
theorem dX6_mend_43 : DD cX6_mend 43 (.aload_n 0) 1 44 := by decide +kernel
theorem dX6_mend_44 : DD cX6_mend 44 (.invokevirtual 171) 3 47 := by decide +kernel
theorem dX6_mend_47 : DD cX6_mend 47 (.aload_n 0) 1 48 := by decide +kernel
theorem dX6_mend_48 : DD cX6_mend 48 (.getfield 25) 3 51 := by decide +kernel
theorem dX6_mend_51 : DD cX6_mend 51 (.iload_n 2) 1 52 := by decide +kernel
theorem dX6_mend_52 : DD cX6_mend 52 (.iconst 4) 1 53 := by decide +kernel
theorem dX6_mend_53 : DD cX6_mend 53 (.iadd) 1 54 := by decide +kernel
theorem dX6_mend_54 : DD cX6_mend 54 (.iconst 1) 1 55 := by decide +kernel
theorem dX6_mend_55 : DD cX6_mend 55 (.iastore) 1 56 := by decide +kernel
theorem dX6_mend_56 : DD cX6_mend 56 (.aload_n 0) 1 57 := by decide +kernel
theorem dX6_mend_57 : DD cX6_mend 57 (.getfield 25) 3 60 := by decide +kernel
theorem dX6_mend_60 : DD cX6_mend 60 (.iload_n 2) 1 61 := by decide +kernel
theorem dX6_mend_61 : DD cX6_mend 61 (.iconst 3) 1 62 := by decide +kernel
theorem dX6_mend_62 : DD cX6_mend 62 (.iadd) 1 63 := by decide +kernel
theorem dX6_mend_63 : DD cX6_mend 63 (.iconst 0) 1 64 := by decide +kernel
theorem dX6_mend_64 : DD cX6_mend 64 (.iastore) 1 65 := by decide +kernel
theorem dX6_mend_65 : DD cX6_mend 65 (.aload_n 0) 1 66 := by decide +kernel
theorem dX6_mend_66 : DD cX6_mend 66 (.getfield 25) 3 69 := by decide +kernel
theorem dX6_mend_69 : DD cX6_mend 69 (.invokestatic 181) 3 72 := by decide +kernel
theorem dX6_mend_72 : DD cX6_mend 72 (.ireturn) 1 73 := by decide +kernel
def fX6_mend (a1 : Int32) (h : AH) : Option (Int32 × AH) := (bnd (fX6_isTug a1 h) fun v2 h1 => (if v2 = 0 then (some ((-1000001 : Int32), h1)) else (vl ((5 : Int32) + ((5 : Int32) * a1)) fun z3 => (chk (inb (z3 + (4 : Int32)) (ln 284)) (if (h1 284 (Int32.toNatClampNeg (z3 + (4 : Int32)))) = (1 : Int32) then (chk (inb (z3 + (3 : Int32)) (ln 284)) (if (h1 284 (Int32.toNatClampNeg (z3 + (3 : Int32)))) = 0 then (some ((-1000002 : Int32), h1)) else (bnd (fX6_notes  h1) fun _ h4 => (chk (inb (z3 + (4 : Int32)) (ln 284)) (sto (hs h4 284 (Int32.toNatClampNeg (z3 + (4 : Int32))) (1 : Int32)) fun h5 => (chk (inb (z3 + (3 : Int32)) (ln 284)) (sto (hs h5 284 (Int32.toNatClampNeg (z3 + (3 : Int32))) (0 : Int32)) fun h6 => (bnd (fX6_holding 284 h6) fun v8 h7 => (some (v8, h7)))))))))) else (bnd (fX6_notes  h1) fun _ h9 => (chk (inb (z3 + (4 : Int32)) (ln 284)) (sto (hs h9 284 (Int32.toNatClampNeg (z3 + (4 : Int32))) (1 : Int32)) fun h10 => (chk (inb (z3 + (3 : Int32)) (ln 284)) (sto (hs h10 284 (Int32.toNatClampNeg (z3 + (3 : Int32))) (0 : Int32)) fun h11 => (bnd (fX6_holding 284 h11) fun v13 h12 => (some (v13, h12)))))))))))))
set_option maxHeartbeats 4000000 in
set_option maxRecDepth 4000 in
theorem uX6_mend {l : Launch} {X : WX} {a1 : Int32} {h h' : AH} {v : Int32} (hf : fX6_mend a1 h = some (v, h')) : Does l X 3 yX6_mend cX6_mend 3 (some .int) [.ref (X.1 + 278), .int a1] h (eI v) h' := by
  refine Does.of (enc := eI) (o := fX6_mend a1 h) (lv := [(0, .ref (X.1 + 278)), (1, .int a1)]) (by decide) (Nat.le_of_ble_eq_true rfl) rfl hf (fun K hl hK => ?_)
  subst hl
  unfold fX6_mend
  refine J_aload_n hK dX6_mend_0 0 rfl ?_
  refine J_iload_n hK dX6_mend_1 1 rfl ?_
  refine J_callVi (q := 278) (As := [.int a1]) (st := []) hK dX6_mend_2 kB_X6_178 kV_X6_isTug kd_278 (by decide) rfl rfl (by decide) rfl rfl (Nat.le_of_ble_eq_true rfl) (fun _ _ hf => uX6_isTug  hf) (fun v2 h1 => ?_)
  refine J_if_ne (tgt := 11) hK dX6_mend_5 (by decide) ?_ ?_
  · refine J_ldc hK dX6_mend_8 kK_X6_61 ?_
    exact J_iret hK dX6_mend_10
  · refine J_iconst hK dX6_mend_11 ci_5 ?_
    refine J_iconst hK dX6_mend_12 ci_5 ?_
    refine J_iload_n hK dX6_mend_13 1 rfl ?_
    refine J_imul hK dX6_mend_14 ?_
    refine J_iadd hK dX6_mend_15 ?_
    refine J_istoreV_n (n := 2) (lw := [(0, .ref (X.1 + 278)), (1, .int a1)]) hK dX6_mend_16 rfl (by decide) rfl (fun z3 => ?_)
    refine J_aload_n hK dX6_mend_17 1 rfl ?_
    refine rF_X6_25 (q2 := 284) hK dX6_mend_18 kd_278 rfl ?_
    refine J_iload_n hK dX6_mend_21 0 rfl ?_
    refine J_iconst hK dX6_mend_22 ci_4 ?_
    refine J_iadd hK dX6_mend_23 ?_
    refine J_iald hK dX6_mend_24 kd_284 (fun _ => ?_)
    refine J_iconst hK dX6_mend_25 ci_1 ?_
    refine J_icmp_ne (tgt := 43) hK dX6_mend_26 (by decide) ?_ ?_
    · refine J_aload_n hK dX6_mend_29 1 rfl ?_
      refine rF_X6_25 (q2 := 284) hK dX6_mend_30 kd_278 rfl ?_
      refine J_iload_n hK dX6_mend_33 0 rfl ?_
      refine J_iconst hK dX6_mend_34 ci_3 ?_
      refine J_iadd hK dX6_mend_35 ?_
      refine J_iald hK dX6_mend_36 kd_284 (fun _ => ?_)
      refine J_if_ne (tgt := 43) hK dX6_mend_37 (by decide) ?_ ?_
      · refine J_ldc hK dX6_mend_40 kK_X6_170 ?_
        exact J_iret hK dX6_mend_42
      · refine J_aload_n hK dX6_mend_43 1 rfl ?_
        refine J_callVv (q := 278) (As := []) (st := []) hK dX6_mend_44 kB_X6_171 kV_X6_notes kd_278 (by decide) rfl rfl (by decide) rfl rfl (Nat.le_of_ble_eq_true rfl) (fun _ _ hf => uX6_notes  hf) (fun _ h4 => ?_)
        refine J_aload_n hK dX6_mend_47 1 rfl ?_
        refine rF_X6_25 (q2 := 284) hK dX6_mend_48 kd_278 rfl ?_
        refine J_iload_n hK dX6_mend_51 0 rfl ?_
        refine J_iconst hK dX6_mend_52 ci_4 ?_
        refine J_iadd hK dX6_mend_53 ?_
        refine J_iconst hK dX6_mend_54 ci_1 ?_
        refine J_iast hK dX6_mend_55 kd_284 (fun h5 => ?_)
        refine J_aload_n hK dX6_mend_56 1 rfl ?_
        refine rF_X6_25 (q2 := 284) hK dX6_mend_57 kd_278 rfl ?_
        refine J_iload_n hK dX6_mend_60 0 rfl ?_
        refine J_iconst hK dX6_mend_61 ci_3 ?_
        refine J_iadd hK dX6_mend_62 ?_
        refine J_iconst hK dX6_mend_63 ci_0 ?_
        refine J_iast hK dX6_mend_64 kd_284 (fun h6 => ?_)
        refine J_aload_n hK dX6_mend_65 1 rfl ?_
        refine rF_X6_25 (q2 := 284) hK dX6_mend_66 kd_278 rfl ?_
        refine J_callSi (As := [.ref (X.1 + 284)]) (st := []) hK dX6_mend_69 kB_X6_181 kS_X6_holding (by decide) rfl rfl (Nat.le_of_ble_eq_true rfl) (fun _ _ hf => uX6_holding kd_284 hf) (fun v8 h7 => ?_)
        exact J_iret hK dX6_mend_72
    · refine J_aload_n hK dX6_mend_43 1 rfl ?_
      refine J_callVv (q := 278) (As := []) (st := []) hK dX6_mend_44 kB_X6_171 kV_X6_notes kd_278 (by decide) rfl rfl (by decide) rfl rfl (Nat.le_of_ble_eq_true rfl) (fun _ _ hf => uX6_notes  hf) (fun _ h9 => ?_)
      refine J_aload_n hK dX6_mend_47 1 rfl ?_
      refine rF_X6_25 (q2 := 284) hK dX6_mend_48 kd_278 rfl ?_
      refine J_iload_n hK dX6_mend_51 0 rfl ?_
      refine J_iconst hK dX6_mend_52 ci_4 ?_
      refine J_iadd hK dX6_mend_53 ?_
      refine J_iconst hK dX6_mend_54 ci_1 ?_
      refine J_iast hK dX6_mend_55 kd_284 (fun h10 => ?_)
      refine J_aload_n hK dX6_mend_56 1 rfl ?_
      refine rF_X6_25 (q2 := 284) hK dX6_mend_57 kd_278 rfl ?_
      refine J_iload_n hK dX6_mend_60 0 rfl ?_
      refine J_iconst hK dX6_mend_61 ci_3 ?_
      refine J_iadd hK dX6_mend_62 ?_
      refine J_iconst hK dX6_mend_63 ci_0 ?_
      refine J_iast hK dX6_mend_64 kd_284 (fun h11 => ?_)
      refine J_aload_n hK dX6_mend_65 1 rfl ?_
      refine rF_X6_25 (q2 := 284) hK dX6_mend_66 kd_278 rfl ?_
      refine J_callSi (As := [.ref (X.1 + 284)]) (st := []) hK dX6_mend_69 kB_X6_181 kS_X6_holding (by decide) rfl rfl (Nat.le_of_ble_eq_true rfl) (fun _ _ hf => uX6_holding kd_284 hf) (fun v13 h12 => ?_)
      exact J_iret hK dX6_mend_72
-- X6_paddlerSize
theorem dX6_paddlerSize_0 : DD cX6_paddlerSize 0 (.aload_n 0) 1 1 := by decide +kernel
theorem dX6_paddlerSize_1 : DD cX6_paddlerSize 1 (.iload_n 1) 1 2 := by decide +kernel
theorem dX6_paddlerSize_2 : DD cX6_paddlerSize 2 (.invokevirtual 217) 3 5 := by decide +kernel
theorem dX6_paddlerSize_5 : DD cX6_paddlerSize 5 (.iconst 2) 1 6 := by decide +kernel
theorem dX6_paddlerSize_6 : DD cX6_paddlerSize 6 (.if_icmp .ne 7) 3 9 := by decide +kernel
theorem dX6_paddlerSize_9 : DD cX6_paddlerSize 9 (.iconst 1) 1 10 := by decide +kernel
theorem dX6_paddlerSize_10 : DD cX6_paddlerSize 10 (.goto 4) 3 13 := by decide +kernel
theorem dX6_paddlerSize_13 : DD cX6_paddlerSize 13 (.iconst 0) 1 14 := by decide +kernel
theorem dX6_paddlerSize_14 : DD cX6_paddlerSize 14 (.istore_n 2) 1 15 := by decide +kernel
theorem dX6_paddlerSize_15 : DD cX6_paddlerSize 15 (.iload_n 2) 1 16 := by decide +kernel
theorem dX6_paddlerSize_16 : DD cX6_paddlerSize 16 (.ifCond .eq 9) 3 19 := by decide +kernel
theorem dX6_paddlerSize_19 : DD cX6_paddlerSize 19 (.aload_n 0) 1 20 := by decide +kernel
theorem dX6_paddlerSize_20 : DD cX6_paddlerSize 20 (.bipush 12) 2 22 := by decide +kernel
theorem dX6_paddlerSize_22 : DD cX6_paddlerSize 22 (.invokevirtual 223) 3 25 := by decide +kernel
theorem dX6_paddlerSize_25 : DD cX6_paddlerSize 25 (.aload_n 0) 1 26 := by decide +kernel
theorem dX6_paddlerSize_26 : DD cX6_paddlerSize 26 (.bipush 11) 2 28 := by decide +kernel
theorem dX6_paddlerSize_28 : DD cX6_paddlerSize 28 (.invokevirtual 223) 3 31 := by decide +kernel
theorem dX6_paddlerSize_31 : DD cX6_paddlerSize 31 (.aload_n 0) 1 32 := by decide +kernel
theorem dX6_paddlerSize_32 : DD cX6_paddlerSize 32 (.bipush 10) 2 34 := by decide +kernel
theorem dX6_paddlerSize_34 : DD cX6_paddlerSize 34 (.invokevirtual 223) 3 37 := by decide +kernel
theorem dX6_paddlerSize_37 : DD cX6_paddlerSize 37 (.aload_n 0) 1 38 := by decide +kernel
theorem dX6_paddlerSize_38 : DD cX6_paddlerSize 38 (.getfield 25) 3 41 := by decide +kernel
theorem dX6_paddlerSize_41 : DD cX6_paddlerSize 41 (.iconst 5) 1 42 := by decide +kernel
theorem dX6_paddlerSize_42 : DD cX6_paddlerSize 42 (.iconst 5) 1 43 := by decide +kernel
theorem dX6_paddlerSize_43 : DD cX6_paddlerSize 43 (.iload_n 1) 1 44 := by decide +kernel
theorem dX6_paddlerSize_44 : DD cX6_paddlerSize 44 (.imul) 1 45 := by decide +kernel
theorem dX6_paddlerSize_45 : DD cX6_paddlerSize 45 (.iadd) 1 46 := by decide +kernel
theorem dX6_paddlerSize_46 : DD cX6_paddlerSize 46 (.iconst 1) 1 47 := by decide +kernel
theorem dX6_paddlerSize_47 : DD cX6_paddlerSize 47 (.iadd) 1 48 := by decide +kernel
theorem dX6_paddlerSize_48 : DD cX6_paddlerSize 48 (.iaload) 1 49 := by decide +kernel
theorem dX6_paddlerSize_49 : DD cX6_paddlerSize 49 (.aload_n 0) 1 50 := by decide +kernel
theorem dX6_paddlerSize_50 : DD cX6_paddlerSize 50 (.iload_n 1) 1 51 := by decide +kernel
theorem dX6_paddlerSize_51 : DD cX6_paddlerSize 51 (.invokevirtual 226) 3 54 := by decide +kernel
theorem dX6_paddlerSize_54 : DD cX6_paddlerSize 54 (.iadd) 1 55 := by decide +kernel
theorem dX6_paddlerSize_55 : DD cX6_paddlerSize 55 (.istore_n 3) 1 56 := by decide +kernel
theorem dX6_paddlerSize_56 : DD cX6_paddlerSize 56 (.iload_n 2) 1 57 := by decide +kernel
theorem dX6_paddlerSize_57 : DD cX6_paddlerSize 57 (.ifCond .eq 8) 3 60 := by decide +kernel
theorem dX6_paddlerSize_60 : DD cX6_paddlerSize 60 (.iload_n 3) 1 61 := by decide +kernel
theorem dX6_paddlerSize_61 : DD cX6_paddlerSize 61 (.ineg) 1 62 := by decide +kernel
theorem dX6_paddlerSize_62 : DD cX6_paddlerSize 62 (.goto 4) 3 65 := by decide +kernel
theorem dX6_paddlerSize_65 : DD cX6_paddlerSize 65 (.iload_n 3) 1 66 := by decide +kernel
theorem dX6_paddlerSize_66 : DD cX6_paddlerSize 66 (.ireturn) 1 67 := by decide +kernel
def fX6_paddlerSize (a1 : Int32) (h : AH) : Option (Int32 × AH) := (bnd (fX6_kindIn a1 h) fun v2 h1 => (if v2 = (2 : Int32) then (if (1 : Int32) = 0 then none else (bnd (fX6_begins (12 : Int32) h1) fun _ h3 => (bnd (fX6_begins (11 : Int32) h3) fun _ h4 => (bnd (fX6_begins (10 : Int32) h4) fun _ h5 => (chk (inb (((5 : Int32) + ((5 : Int32) * a1)) + (1 : Int32)) (ln 284)) (bnd (fX6_paddlerMark a1 h5) fun v7 h6 => (vl ((h5 284 (Int32.toNatClampNeg (((5 : Int32) + ((5 : Int32) * a1)) + (1 : Int32)))) + v7) fun z8 => (if (1 : Int32) = 0 then none else (some ((-z8), h6)))))))))) else (if (0 : Int32) = 0 then (bnd (fX6_begins (11 : Int32) h1) fun _ h9 => (bnd (fX6_begins (10 : Int32) h9) fun _ h10 => (chk (inb (((5 : Int32) + ((5 : Int32) * a1)) + (1 : Int32)) (ln 284)) (bnd (fX6_paddlerMark a1 h10) fun v12 h11 => (vl ((h10 284 (Int32.toNatClampNeg (((5 : Int32) + ((5 : Int32) * a1)) + (1 : Int32)))) + v12) fun z13 => (if (0 : Int32) = 0 then (some (z13, h11)) else none)))))) else none)))
set_option maxHeartbeats 4000000 in
set_option maxRecDepth 4000 in
theorem uX6_paddlerSize {l : Launch} {X : WX} {a1 : Int32} {h h' : AH} {v : Int32} (hf : fX6_paddlerSize a1 h = some (v, h')) : Does l X 3 yX6_paddlerSize cX6_paddlerSize 4 (some .int) [.ref (X.1 + 278), .int a1] h (eI v) h' := by
  refine Does.of (enc := eI) (o := fX6_paddlerSize a1 h) (lv := [(0, .ref (X.1 + 278)), (1, .int a1)]) (by decide) (Nat.le_of_ble_eq_true rfl) rfl hf (fun K hl hK => ?_)
  subst hl
  unfold fX6_paddlerSize
  refine J_aload_n hK dX6_paddlerSize_0 0 rfl ?_
  refine J_iload_n hK dX6_paddlerSize_1 1 rfl ?_
  refine J_callVi (q := 278) (As := [.int a1]) (st := []) hK dX6_paddlerSize_2 kB_X6_217 kV_X6_kindIn kd_278 (by decide) rfl rfl (by decide) rfl rfl (Nat.le_of_ble_eq_true rfl) (fun _ _ hf => uX6_kindIn  hf) (fun v2 h1 => ?_)
  refine J_iconst hK dX6_paddlerSize_5 ci_2 ?_
  refine J_icmp_ne (tgt := 13) hK dX6_paddlerSize_6 (by decide) ?_ ?_
  · refine J_iconst hK dX6_paddlerSize_9 ci_1 ?_
    refine J_goto (len := 0) (tgt := 14) hK dX6_paddlerSize_10 (by decide) ?_
    refine J_istore_n (n := 2) (lw := [(0, .ref (X.1 + 278)), (1, .int a1)]) hK dX6_paddlerSize_14 rfl (by decide) rfl ?_
    refine J_iload_n hK dX6_paddlerSize_15 0 rfl ?_
    refine J_if_eq (tgt := 25) hK dX6_paddlerSize_16 (by decide) ?_ ?_
    · exact J_none
    · refine J_aload_n hK dX6_paddlerSize_19 1 rfl ?_
      refine J_bipush hK dX6_paddlerSize_20 cb_12 ?_
      refine J_callVv (q := 278) (As := [.int (12 : Int32)]) (st := []) hK dX6_paddlerSize_22 kB_X6_223 kV_X6_begins kd_278 (by decide) rfl rfl (by decide) rfl rfl (Nat.le_of_ble_eq_true rfl) (fun _ _ hf => uX6_begins  hf) (fun _ h3 => ?_)
      refine J_aload_n hK dX6_paddlerSize_25 1 rfl ?_
      refine J_bipush hK dX6_paddlerSize_26 cb_11 ?_
      refine J_callVv (q := 278) (As := [.int (11 : Int32)]) (st := []) hK dX6_paddlerSize_28 kB_X6_223 kV_X6_begins kd_278 (by decide) rfl rfl (by decide) rfl rfl (Nat.le_of_ble_eq_true rfl) (fun _ _ hf => uX6_begins  hf) (fun _ h4 => ?_)
      refine J_aload_n hK dX6_paddlerSize_31 1 rfl ?_
      refine J_bipush hK dX6_paddlerSize_32 cb_10 ?_
      refine J_callVv (q := 278) (As := [.int (10 : Int32)]) (st := []) hK dX6_paddlerSize_34 kB_X6_223 kV_X6_begins kd_278 (by decide) rfl rfl (by decide) rfl rfl (Nat.le_of_ble_eq_true rfl) (fun _ _ hf => uX6_begins  hf) (fun _ h5 => ?_)
      refine J_aload_n hK dX6_paddlerSize_37 1 rfl ?_
      refine rF_X6_25 (q2 := 284) hK dX6_paddlerSize_38 kd_278 rfl ?_
      refine J_iconst hK dX6_paddlerSize_41 ci_5 ?_
      refine J_iconst hK dX6_paddlerSize_42 ci_5 ?_
      refine J_iload_n hK dX6_paddlerSize_43 2 rfl ?_
      refine J_imul hK dX6_paddlerSize_44 ?_
      refine J_iadd hK dX6_paddlerSize_45 ?_
      refine J_iconst hK dX6_paddlerSize_46 ci_1 ?_
      refine J_iadd hK dX6_paddlerSize_47 ?_
      refine J_iald hK dX6_paddlerSize_48 kd_284 (fun _ => ?_)
      refine J_aload_n hK dX6_paddlerSize_49 1 rfl ?_
      refine J_iload_n hK dX6_paddlerSize_50 2 rfl ?_
      refine J_callVi (q := 278) (As := [.int a1]) (st := [.int (h5 284 (Int32.toNatClampNeg (((5 : Int32) + ((5 : Int32) * a1)) + (1 : Int32))))]) hK dX6_paddlerSize_51 kB_X6_226 kV_X6_paddlerMark kd_278 (by decide) rfl rfl (by decide) rfl rfl (Nat.le_of_ble_eq_true rfl) (fun _ _ hf => uX6_paddlerMark  hf) (fun v7 h6 => ?_)
      refine J_iadd hK dX6_paddlerSize_54 ?_
      refine J_istoreV_n (n := 3) (lw := [(2, .int (1 : Int32)), (0, .ref (X.1 + 278)), (1, .int a1)]) hK dX6_paddlerSize_55 rfl (by decide) rfl (fun z8 => ?_)
      refine J_iload_n hK dX6_paddlerSize_56 1 rfl ?_
      refine J_if_eq (tgt := 65) hK dX6_paddlerSize_57 (by decide) ?_ ?_
      · exact J_none
      · refine J_iload_n hK dX6_paddlerSize_60 0 rfl ?_
        refine J_ineg hK dX6_paddlerSize_61 ?_
        refine J_goto (len := 0) (tgt := 66) hK dX6_paddlerSize_62 (by decide) ?_
        exact J_iret hK dX6_paddlerSize_66
  · refine J_iconst hK dX6_paddlerSize_13 ci_0 ?_
    refine J_istore_n (n := 2) (lw := [(0, .ref (X.1 + 278)), (1, .int a1)]) hK dX6_paddlerSize_14 rfl (by decide) rfl ?_
    refine J_iload_n hK dX6_paddlerSize_15 0 rfl ?_
    refine J_if_eq (tgt := 25) hK dX6_paddlerSize_16 (by decide) ?_ ?_
    · refine J_aload_n hK dX6_paddlerSize_25 1 rfl ?_
      refine J_bipush hK dX6_paddlerSize_26 cb_11 ?_
      refine J_callVv (q := 278) (As := [.int (11 : Int32)]) (st := []) hK dX6_paddlerSize_28 kB_X6_223 kV_X6_begins kd_278 (by decide) rfl rfl (by decide) rfl rfl (Nat.le_of_ble_eq_true rfl) (fun _ _ hf => uX6_begins  hf) (fun _ h9 => ?_)
      refine J_aload_n hK dX6_paddlerSize_31 1 rfl ?_
      refine J_bipush hK dX6_paddlerSize_32 cb_10 ?_
      refine J_callVv (q := 278) (As := [.int (10 : Int32)]) (st := []) hK dX6_paddlerSize_34 kB_X6_223 kV_X6_begins kd_278 (by decide) rfl rfl (by decide) rfl rfl (Nat.le_of_ble_eq_true rfl) (fun _ _ hf => uX6_begins  hf) (fun _ h10 => ?_)
      refine J_aload_n hK dX6_paddlerSize_37 1 rfl ?_
      refine rF_X6_25 (q2 := 284) hK dX6_paddlerSize_38 kd_278 rfl ?_
      refine J_iconst hK dX6_paddlerSize_41 ci_5 ?_
      refine J_iconst hK dX6_paddlerSize_42 ci_5 ?_
      refine J_iload_n hK dX6_paddlerSize_43 2 rfl ?_
      refine J_imul hK dX6_paddlerSize_44 ?_
      refine J_iadd hK dX6_paddlerSize_45 ?_
      refine J_iconst hK dX6_paddlerSize_46 ci_1 ?_
      refine J_iadd hK dX6_paddlerSize_47 ?_
      refine J_iald hK dX6_paddlerSize_48 kd_284 (fun _ => ?_)
      refine J_aload_n hK dX6_paddlerSize_49 1 rfl ?_
      refine J_iload_n hK dX6_paddlerSize_50 2 rfl ?_
      refine J_callVi (q := 278) (As := [.int a1]) (st := [.int (h10 284 (Int32.toNatClampNeg (((5 : Int32) + ((5 : Int32) * a1)) + (1 : Int32))))]) hK dX6_paddlerSize_51 kB_X6_226 kV_X6_paddlerMark kd_278 (by decide) rfl rfl (by decide) rfl rfl (Nat.le_of_ble_eq_true rfl) (fun _ _ hf => uX6_paddlerMark  hf) (fun v12 h11 => ?_)
      refine J_iadd hK dX6_paddlerSize_54 ?_
      refine J_istoreV_n (n := 3) (lw := [(2, .int (0 : Int32)), (0, .ref (X.1 + 278)), (1, .int a1)]) hK dX6_paddlerSize_55 rfl (by decide) rfl (fun z13 => ?_)
      refine J_iload_n hK dX6_paddlerSize_56 1 rfl ?_
      refine J_if_eq (tgt := 65) hK dX6_paddlerSize_57 (by decide) ?_ ?_
      · refine J_iload_n hK dX6_paddlerSize_65 0 rfl ?_
        exact J_iret hK dX6_paddlerSize_66
      · exact J_none
    · exact J_none
-- X6_passes
theorem dX6_passes_0 : DD cX6_passes 0 (.aload_n 0) 1 1 := by decide +kernel
theorem dX6_passes_1 : DD cX6_passes 1 (.invokestatic 153) 3 4 := by decide +kernel
theorem dX6_passes_4 : DD cX6_passes 4 (.istore_n 2) 1 5 := by decide +kernel
theorem dX6_passes_5 : DD cX6_passes 5 (.aload_n 0) 1 6 := by decide +kernel
theorem dX6_passes_6 : DD cX6_passes 6 (.iload_n 1) 1 7 := by decide +kernel
theorem dX6_passes_7 : DD cX6_passes 7 (.ifCond .eq 9) 3 10 := by decide +kernel
theorem dX6_passes_10 : DD cX6_passes 10 (.iload_n 2) 1 11 := by decide +kernel
theorem dX6_passes_11 : DD cX6_passes 11 (.iconst 2) 1 12 := by decide +kernel
theorem dX6_passes_12 : DD cX6_passes 12 (.idiv) 1 13 := by decide +kernel
theorem dX6_passes_13 : DD cX6_passes 13 (.goto 4) 3 16 := by decide +kernel
theorem dX6_passes_16 : DD cX6_passes 16 (.iload_n 2) 1 17 := by decide +kernel
theorem dX6_passes_17 : DD cX6_passes 17 (.invokestatic 157) 3 20 := by decide +kernel
theorem dX6_passes_20 : DD cX6_passes 20 (.istore_n 3) 1 21 := by decide +kernel
theorem dX6_passes_21 : DD cX6_passes 21 (.aload_n 0) 1 22 := by decide +kernel
theorem dX6_passes_22 : DD cX6_passes 22 (.iload_n 3) 1 23 := by decide +kernel
theorem dX6_passes_23 : DD cX6_passes 23 (.invokestatic 160) 3 26 := by decide +kernel
theorem dX6_passes_26 : DD cX6_passes 26 (.iconst 0) 1 27 := by decide +kernel
theorem dX6_passes_27 : DD cX6_passes 27 (.istore 4) 2 29 := by decide +kernel
theorem dX6_passes_29 : DD cX6_passes 29 (.iload 4) 2 31 := by decide +kernel
theorem dX6_passes_31 : DD cX6_passes 31 (.aload_n 0) 1 32 := by decide +kernel
theorem dX6_passes_32 : DD cX6_passes 32 (.iconst 2) 1 33 := by decide +kernel
theorem dX6_passes_33 : DD cX6_passes 33 (.iaload) 1 34 := by decide +kernel
theorem dX6_passes_34 : DD cX6_passes 34 (.if_icmp .ge 16) 3 37 := by decide +kernel
theorem dX6_passes_37 : DD cX6_passes 37 (.aload_n 0) 1 38 := by decide +kernel
theorem dX6_passes_38 : DD cX6_passes 38 (.iload 4) 2 40 := by decide +kernel
theorem dX6_passes_40 : DD cX6_passes 40 (.iload_n 3) 1 41 := by decide +kernel
theorem dX6_passes_41 : DD cX6_passes 41 (.invokestatic 163) 3 44 := by decide +kernel
theorem dX6_passes_44 : DD cX6_passes 44 (.iinc 4 1) 3 47 := by decide +kernel
theorem dX6_passes_47 : DD cX6_passes 47 (.goto (-18)) 3 50 := by decide +kernel
theorem dX6_passes_50 : DD cX6_passes 50 (.aload_n 0) 1 51 := by decide +kernel
theorem dX6_passes_51 : DD cX6_passes 51 (.iconst 4) 1 52 := by decide +kernel
theorem dX6_passes_52 : DD cX6_passes 52 (.dup2) 1 53 := by decide +kernel
theorem dX6_passes_53 : DD cX6_passes 53 (.iaload) 1 54 := by decide +kernel
theorem dX6_passes_54 : DD cX6_passes 54 (.iconst 1) 1 55 := by decide +kernel
theorem dX6_passes_55 : DD cX6_passes 55 (.iadd) 1 56 := by decide +kernel
theorem dX6_passes_56 : DD cX6_passes 56 (.iastore) 1 57 := by decide +kernel
theorem dX6_passes_57 : DD cX6_passes 57 (.return_) 1 58 := by decide +kernel
def fX6_passes_L29 (p3 : Int32) (p2 : Int32) (p0 : Nat) (p1 : Int32) : Nat → Int32 → AH → (Int32 → AH → Option (Unit × AH)) → Option (Unit × AH)
  | 0, _, _, _ => none
  | n + 1, x4, h, k => (chk (inb (2 : Int32) (ln p0)) (if x4 < (h p0 (Int32.toNatClampNeg (2 : Int32))) then (bnd (fX6_frays p0 x4 p3 h) fun _ h201 => (vl (x4 + (1 : Int32)) fun z202 => fX6_passes_L29 p3 p2 p0 p1 n z202 h201 k)) else k x4 h))
def fX6_passes (a0 : Nat) (a1 : Int32) (h : AH) : Option (Unit × AH) := (bnd (fX6_force a0 h) fun v2 h1 => (if a1 = 0 then (bnd (fX6_speed a0 v2 h1) fun v4 h3 => (bnd (fX6_comes a0 v4 h3) fun _ h5 => (fX6_passes_L29 v4 v2 a0 a1 FU (0 : Int32) h5 fun z6 h7 => (chk (inb (4 : Int32) (ln a0)) (chk (inb (4 : Int32) (ln a0)) (sto (hs h7 a0 (Int32.toNatClampNeg (4 : Int32)) ((h7 a0 (Int32.toNatClampNeg (4 : Int32))) + (1 : Int32))) fun h8 => (some ((), h8)))))))) else (chk (¬ (2 : Int32) = 0) (bnd (fX6_speed a0 (v2 / (2 : Int32)) h1) fun v10 h9 => (bnd (fX6_comes a0 v10 h9) fun _ h11 => (fX6_passes_L29 v10 v2 a0 a1 FU (0 : Int32) h11 fun z12 h13 => (chk (inb (4 : Int32) (ln a0)) (chk (inb (4 : Int32) (ln a0)) (sto (hs h13 a0 (Int32.toNatClampNeg (4 : Int32)) ((h13 a0 (Int32.toNatClampNeg (4 : Int32))) + (1 : Int32))) fun h14 => (some ((), h14)))))))))))
set_option maxHeartbeats 4000000 in
theorem gX6_passes_L29 {K : MC} {X : WX} {p3 : Int32} {p2 : Int32} {p0 : Nat} {p1 : Int32} (hK : Ok K X RX6 cX6_passes 5 none 3) (hp0 : kd p0 = 7) {k : Int32 → AH → Option (Unit × AH)} (hk : ∀ (x4 : Int32) (h : AH), J K X 5 (Zm K X) eV 50 [(4, .int x4), (3, .int p3), (2, .int p2), (0, .ref (X.1 + p0)), (1, .int p1)] [] h (k x4 h)) : ∀ (n : Nat) (x4 : Int32) (h : AH), J K X 5 (Zm K X) eV 29 [(4, .int x4), (3, .int p3), (2, .int p2), (0, .ref (X.1 + p0)), (1, .int p1)] [] h (fX6_passes_L29 p3 p2 p0 p1 n x4 h k) := by
  intro n
  induction n with
  | zero => exact fun _ _ => J_none
  | succ n ih =>
    intro x4 h
    rw [fX6_passes_L29]
    refine J_iload hK dX6_passes_29 0 rfl ?_
    refine J_aload_n hK dX6_passes_31 3 rfl ?_
    refine J_iconst hK dX6_passes_32 ci_2 ?_
    refine J_iald hK dX6_passes_33 hp0 (fun _ => ?_)
    refine J_icmp_ge (tgt := 50) hK dX6_passes_34 (by decide) ?_ ?_
    · refine J_aload_n hK dX6_passes_37 3 rfl ?_
      refine J_iload hK dX6_passes_38 0 rfl ?_
      refine J_iload_n hK dX6_passes_40 1 rfl ?_
      refine J_callSv (As := [.ref (X.1 + p0), .int x4, .int p3]) (st := []) hK dX6_passes_41 kB_X6_163 kS_X6_frays (by decide) rfl rfl (Nat.le_of_ble_eq_true rfl) (fun _ _ hf => uX6_frays hp0 hf) (fun _ h201 => ?_)
      refine J_iinc (lw := [(3, .int p3), (2, .int p2), (0, .ref (X.1 + p0)), (1, .int p1)]) hK dX6_passes_44 0 rfl (by decide) ci_1 rfl (fun z202 => ?_)
      refine J_goto (len := 0) (tgt := 29) hK dX6_passes_47 (by decide) ?_
      exact J_sub [0, 1, 2, 3, 4] rfl (ih _ _)
    · exact J_sub [0, 1, 2, 3, 4] rfl (hk _ _)
set_option maxHeartbeats 4000000 in
set_option maxRecDepth 4000 in
theorem uX6_passes {l : Launch} {X : WX} {a0 : Nat} {a1 : Int32} {h h' : AH} {v : Unit} (ka0 : kd a0 = 7) (hf : fX6_passes a0 a1 h = some (v, h')) : Does l X 3 yX6_passes cX6_passes 5 none [.ref (X.1 + a0), .int a1] h (eV v) h' := by
  refine Does.of (enc := eV) (o := fX6_passes a0 a1 h) (lv := [(0, .ref (X.1 + a0)), (1, .int a1)]) (by decide) (Nat.le_of_ble_eq_true rfl) rfl hf (fun K hl hK => ?_)
  subst hl
  unfold fX6_passes
  refine J_aload_n hK dX6_passes_0 0 rfl ?_
  refine J_callSi (As := [.ref (X.1 + a0)]) (st := []) hK dX6_passes_1 kB_X6_153 kS_X6_force (by decide) rfl rfl (Nat.le_of_ble_eq_true rfl) (fun _ _ hf => uX6_force ka0 hf) (fun v2 h1 => ?_)
  refine J_istore_n (n := 2) (lw := [(0, .ref (X.1 + a0)), (1, .int a1)]) hK dX6_passes_4 rfl (by decide) rfl ?_
  refine J_aload_n hK dX6_passes_5 1 rfl ?_
  refine J_iload_n hK dX6_passes_6 2 rfl ?_
  refine J_if_eq (tgt := 16) hK dX6_passes_7 (by decide) ?_ ?_
  · refine J_iload_n hK dX6_passes_16 0 rfl ?_
    refine J_callSi (As := [.ref (X.1 + a0), .int v2]) (st := []) hK dX6_passes_17 kB_X6_157 kS_X6_speed (by decide) rfl rfl (Nat.le_of_ble_eq_true rfl) (fun _ _ hf => uX6_speed ka0 hf) (fun v4 h3 => ?_)
    refine J_istore_n (n := 3) (lw := [(2, .int v2), (0, .ref (X.1 + a0)), (1, .int a1)]) hK dX6_passes_20 rfl (by decide) rfl ?_
    refine J_aload_n hK dX6_passes_21 2 rfl ?_
    refine J_iload_n hK dX6_passes_22 0 rfl ?_
    refine J_callSv (As := [.ref (X.1 + a0), .int v4]) (st := []) hK dX6_passes_23 kB_X6_160 kS_X6_comes (by decide) rfl rfl (Nat.le_of_ble_eq_true rfl) (fun _ _ hf => uX6_comes ka0 hf) (fun _ h5 => ?_)
    refine J_iconst hK dX6_passes_26 ci_0 ?_
    refine J_istore (lw := [(3, .int v4), (2, .int v2), (0, .ref (X.1 + a0)), (1, .int a1)]) hK dX6_passes_27 (by decide) rfl ?_
    refine J_sub [0, 1, 2, 3, 4] rfl (gX6_passes_L29 hK ka0 (fun z6 h7 => ?_) FU _ _)
    refine J_aload_n hK dX6_passes_50 3 rfl ?_
    refine J_iconst hK dX6_passes_51 ci_4 ?_
    refine J_dup2 hK dX6_passes_52 rfl rfl ?_
    refine J_iald hK dX6_passes_53 ka0 (fun _ => ?_)
    refine J_iconst hK dX6_passes_54 ci_1 ?_
    refine J_iadd hK dX6_passes_55 ?_
    refine J_iast hK dX6_passes_56 ka0 (fun h8 => ?_)
    exact J_vret hK dX6_passes_57
  · refine J_iload_n hK dX6_passes_10 0 rfl ?_
    refine J_iconst hK dX6_passes_11 ci_2 ?_
    refine J_idiv hK dX6_passes_12 ?_
    refine J_goto (len := 0) (tgt := 17) hK dX6_passes_13 (by decide) ?_
    refine J_callSi (As := [.ref (X.1 + a0), .int (v2 / (2 : Int32))]) (st := []) hK dX6_passes_17 kB_X6_157 kS_X6_speed (by decide) rfl rfl (Nat.le_of_ble_eq_true rfl) (fun _ _ hf => uX6_speed ka0 hf) (fun v10 h9 => ?_)
    refine J_istore_n (n := 3) (lw := [(2, .int v2), (0, .ref (X.1 + a0)), (1, .int a1)]) hK dX6_passes_20 rfl (by decide) rfl ?_
    refine J_aload_n hK dX6_passes_21 2 rfl ?_
    refine J_iload_n hK dX6_passes_22 0 rfl ?_
    refine J_callSv (As := [.ref (X.1 + a0), .int v10]) (st := []) hK dX6_passes_23 kB_X6_160 kS_X6_comes (by decide) rfl rfl (Nat.le_of_ble_eq_true rfl) (fun _ _ hf => uX6_comes ka0 hf) (fun _ h11 => ?_)
    refine J_iconst hK dX6_passes_26 ci_0 ?_
    refine J_istore (lw := [(3, .int v10), (2, .int v2), (0, .ref (X.1 + a0)), (1, .int a1)]) hK dX6_passes_27 (by decide) rfl ?_
    refine J_sub [0, 1, 2, 3, 4] rfl (gX6_passes_L29 hK ka0 (fun z12 h13 => ?_) FU _ _)
    refine J_aload_n hK dX6_passes_50 3 rfl ?_
    refine J_iconst hK dX6_passes_51 ci_4 ?_
    refine J_dup2 hK dX6_passes_52 rfl rfl ?_
    refine J_iald hK dX6_passes_53 ka0 (fun _ => ?_)
    refine J_iconst hK dX6_passes_54 ci_1 ?_
    refine J_iadd hK dX6_passes_55 ?_
    refine J_iast hK dX6_passes_56 ka0 (fun h14 => ?_)
    exact J_vret hK dX6_passes_57
-- X6_pier
theorem dX6_pier_0 : DD cX6_pier 0 (.aload_n 0) 1 1 := by decide +kernel
theorem dX6_pier_1 : DD cX6_pier 1 (.iload_n 1) 1 2 := by decide +kernel
theorem dX6_pier_2 : DD cX6_pier 2 (.invokevirtual 184) 3 5 := by decide +kernel
theorem dX6_pier_5 : DD cX6_pier 5 (.ifCond .eq 28) 3 8 := by decide +kernel
theorem dX6_pier_8 : DD cX6_pier 8 (.iload_n 2) 1 9 := by decide +kernel
theorem dX6_pier_9 : DD cX6_pier 9 (.iconst 0) 1 10 := by decide +kernel
theorem dX6_pier_10 : DD cX6_pier 10 (.iconst 1) 1 11 := by decide +kernel
theorem dX6_pier_11 : DD cX6_pier 11 (.invokestatic 53) 3 14 := by decide +kernel
theorem dX6_pier_14 : DD cX6_pier 14 (.ifCond .eq 19) 3 17 := by decide +kernel
theorem dX6_pier_17 : DD cX6_pier 17 (.aload_n 0) 1 18 := by decide +kernel
theorem dX6_pier_18 : DD cX6_pier 18 (.getfield 25) 3 21 := by decide +kernel
theorem dX6_pier_21 : DD cX6_pier 21 (.bipush 35) 2 23 := by decide +kernel
theorem dX6_pier_23 : DD cX6_pier 23 (.iconst 2) 1 24 := by decide +kernel
theorem dX6_pier_24 : DD cX6_pier 24 (.iload_n 1) 1 25 := by decide +kernel
theorem dX6_pier_25 : DD cX6_pier 25 (.imul) 1 26 := by decide +kernel
theorem dX6_pier_26 : DD cX6_pier 26 (.iadd) 1 27 := by decide +kernel
theorem dX6_pier_27 : DD cX6_pier 27 (.iload_n 2) 1 28 := by decide +kernel
theorem dX6_pier_28 : DD cX6_pier 28 (.iadd) 1 29 := by decide +kernel
theorem dX6_pier_29 : DD cX6_pier 29 (.iaload) 1 30 := by decide +kernel
theorem dX6_pier_30 : DD cX6_pier 30 (.goto 5) 3 33 := by decide +kernel
theorem dX6_pier_33 : DD cX6_pier 33 (.ldc 61) 2 35 := by decide +kernel
theorem dX6_pier_35 : DD cX6_pier 35 (.ireturn) 1 36 := by decide +kernel
def fX6_pier (a1 : Int32) (a2 : Int32) (h : AH) : Option (Int32 × AH) := (bnd (fX6_isPier a1 h) fun v2 h1 => (if v2 = 0 then (some ((-1000001 : Int32), h1)) else (bnd (fX6_in a2 (0 : Int32) (1 : Int32) h1) fun v4 h3 => (if v4 = 0 then (some ((-1000001 : Int32), h3)) else (chk (inb (((35 : Int32) + ((2 : Int32) * a1)) + a2) (ln 284)) (some ((h3 284 (Int32.toNatClampNeg (((35 : Int32) + ((2 : Int32) * a1)) + a2))), h3)))))))
set_option maxHeartbeats 4000000 in
set_option maxRecDepth 4000 in
theorem uX6_pier {l : Launch} {X : WX} {a1 : Int32} {a2 : Int32} {h h' : AH} {v : Int32} (hf : fX6_pier a1 a2 h = some (v, h')) : Does l X 3 yX6_pier cX6_pier 3 (some .int) [.ref (X.1 + 278), .int a1, .int a2] h (eI v) h' := by
  refine Does.of (enc := eI) (o := fX6_pier a1 a2 h) (lv := [(0, .ref (X.1 + 278)), (1, .int a1), (2, .int a2)]) (by decide) (Nat.le_of_ble_eq_true rfl) rfl hf (fun K hl hK => ?_)
  subst hl
  unfold fX6_pier
  refine J_aload_n hK dX6_pier_0 0 rfl ?_
  refine J_iload_n hK dX6_pier_1 1 rfl ?_
  refine J_callVi (q := 278) (As := [.int a1]) (st := []) hK dX6_pier_2 kB_X6_184 kV_X6_isPier kd_278 (by decide) rfl rfl (by decide) rfl rfl (Nat.le_of_ble_eq_true rfl) (fun _ _ hf => uX6_isPier  hf) (fun v2 h1 => ?_)
  refine J_if_eq (tgt := 33) hK dX6_pier_5 (by decide) ?_ ?_
  · refine J_ldc hK dX6_pier_33 kK_X6_61 ?_
    exact J_iret hK dX6_pier_35
  · refine J_iload_n hK dX6_pier_8 2 rfl ?_
    refine J_iconst hK dX6_pier_9 ci_0 ?_
    refine J_iconst hK dX6_pier_10 ci_1 ?_
    refine J_callSi (As := [.int a2, .int (0 : Int32), .int (1 : Int32)]) (st := []) hK dX6_pier_11 kB_X6_53 kS_X6_in (by decide) rfl rfl (Nat.le_of_ble_eq_true rfl) (fun _ _ hf => uX6_in  hf) (fun v4 h3 => ?_)
    refine J_if_eq (tgt := 33) hK dX6_pier_14 (by decide) ?_ ?_
    · refine J_ldc hK dX6_pier_33 kK_X6_61 ?_
      exact J_iret hK dX6_pier_35
    · refine J_aload_n hK dX6_pier_17 0 rfl ?_
      refine rF_X6_25 (q2 := 284) hK dX6_pier_18 kd_278 rfl ?_
      refine J_bipush hK dX6_pier_21 cb_35 ?_
      refine J_iconst hK dX6_pier_23 ci_2 ?_
      refine J_iload_n hK dX6_pier_24 1 rfl ?_
      refine J_imul hK dX6_pier_25 ?_
      refine J_iadd hK dX6_pier_26 ?_
      refine J_iload_n hK dX6_pier_27 2 rfl ?_
      refine J_iadd hK dX6_pier_28 ?_
      refine J_iald hK dX6_pier_29 kd_284 (fun _ => ?_)
      refine J_goto (len := 0) (tgt := 35) hK dX6_pier_30 (by decide) ?_
      exact J_iret hK dX6_pier_35
-- X6_pull
theorem dX6_pull_0 : DD cX6_pull 0 (.aload_n 0) 1 1 := by decide +kernel
theorem dX6_pull_1 : DD cX6_pull 1 (.iload_n 1) 1 2 := by decide +kernel
theorem dX6_pull_2 : DD cX6_pull 2 (.invokevirtual 178) 3 5 := by decide +kernel
theorem dX6_pull_5 : DD cX6_pull 5 (.ifCond .eq 13) 3 8 := by decide +kernel
theorem dX6_pull_8 : DD cX6_pull 8 (.iload_n 2) 1 9 := by decide +kernel
theorem dX6_pull_9 : DD cX6_pull 9 (.iconst 1) 1 10 := by decide +kernel
theorem dX6_pull_10 : DD cX6_pull 10 (.bipush 20) 2 12 := by decide +kernel
theorem dX6_pull_12 : DD cX6_pull 12 (.invokestatic 53) 3 15 := by decide +kernel
theorem dX6_pull_15 : DD cX6_pull 15 (.ifCond .ne 6) 3 18 := by decide +kernel
theorem dX6_pull_18 : DD cX6_pull 18 (.ldc 61) 2 20 := by decide +kernel
theorem dX6_pull_20 : DD cX6_pull 20 (.ireturn) 1 21 := by decide +kernel
theorem dX6_pull_21 : DD cX6_pull 21 (.aload_n 0) 1 22 := by decide +kernel
theorem dX6_pull_22 : DD cX6_pull 22 (.invokevirtual 171) 3 25 := by decide +kernel
theorem dX6_pull_25 : DD cX6_pull 25 (.aload_n 0) 1 26 := by decide +kernel
theorem dX6_pull_26 : DD cX6_pull 26 (.getfield 25) 3 29 := by decide +kernel
theorem dX6_pull_29 : DD cX6_pull 29 (.iconst 5) 1 30 := by decide +kernel
theorem dX6_pull_30 : DD cX6_pull 30 (.iconst 5) 1 31 := by decide +kernel
theorem dX6_pull_31 : DD cX6_pull 31 (.iload_n 1) 1 32 := by decide +kernel
theorem dX6_pull_32 : DD cX6_pull 32 (.imul) 1 33 := by decide +kernel
theorem dX6_pull_33 : DD cX6_pull 33 (.iadd) 1 34 := by decide +kernel
theorem dX6_pull_34 : DD cX6_pull 34 (.iconst 1) 1 35 := by decide +kernel
theorem dX6_pull_35 : DD cX6_pull 35 (.iadd) 1 36 := by decide +kernel
theorem dX6_pull_36 : DD cX6_pull 36 (.iaload) 1 37 := by decide +kernel
theorem dX6_pull_37 : DD cX6_pull 37 (.istore_n 3) 1 38 := by decide +kernel
theorem dX6_pull_38 : DD cX6_pull 38 (.aload_n 0) 1 39 := by decide +kernel
theorem dX6_pull_39 : DD cX6_pull 39 (.getfield 25) 3 42 := by decide +kernel
theorem dX6_pull_42 : DD cX6_pull 42 (.iconst 5) 1 43 := by decide +kernel
theorem dX6_pull_43 : DD cX6_pull 43 (.iconst 5) 1 44 := by decide +kernel
theorem dX6_pull_44 : DD cX6_pull 44 (.iload_n 1) 1 45 := by decide +kernel
theorem dX6_pull_45 : DD cX6_pull 45 (.imul) 1 46 := by decide +kernel
theorem dX6_pull_46 : DD cX6_pull 46 (.iadd) 1 47 := by decide +kernel
theorem dX6_pull_47 : DD cX6_pull 47 (.iconst 1) 1 48 := by decide +kernel
theorem dX6_pull_48 : DD cX6_pull 48 (.iadd) 1 49 := by decide +kernel
theorem dX6_pull_49 : DD cX6_pull 49 (.iload_n 2) 1 50 := by decide +kernel
theorem dX6_pull_50 : DD cX6_pull 50 (.iastore) 1 51 := by decide +kernel
theorem dX6_pull_51 : DD cX6_pull 51 (.iload_n 3) 1 52 := by decide +kernel
theorem dX6_pull_52 : DD cX6_pull 52 (.ireturn) 1 53 := by decide +kernel
def fX6_pull (a1 : Int32) (a2 : Int32) (h : AH) : Option (Int32 × AH) := (bnd (fX6_isTug a1 h) fun v2 h1 => (if v2 = 0 then (some ((-1000001 : Int32), h1)) else (bnd (fX6_in a2 (1 : Int32) (20 : Int32) h1) fun v4 h3 => (if v4 = 0 then (some ((-1000001 : Int32), h3)) else (bnd (fX6_notes  h3) fun _ h5 => (chk (inb (((5 : Int32) + ((5 : Int32) * a1)) + (1 : Int32)) (ln 284)) (vl (h5 284 (Int32.toNatClampNeg (((5 : Int32) + ((5 : Int32) * a1)) + (1 : Int32)))) fun z6 => (chk (inb (((5 : Int32) + ((5 : Int32) * a1)) + (1 : Int32)) (ln 284)) (sto (hs h5 284 (Int32.toNatClampNeg (((5 : Int32) + ((5 : Int32) * a1)) + (1 : Int32))) a2) fun h7 => (some (z6, h7)))))))))))
set_option maxHeartbeats 4000000 in
set_option maxRecDepth 4000 in
theorem uX6_pull {l : Launch} {X : WX} {a1 : Int32} {a2 : Int32} {h h' : AH} {v : Int32} (hf : fX6_pull a1 a2 h = some (v, h')) : Does l X 3 yX6_pull cX6_pull 4 (some .int) [.ref (X.1 + 278), .int a1, .int a2] h (eI v) h' := by
  refine Does.of (enc := eI) (o := fX6_pull a1 a2 h) (lv := [(0, .ref (X.1 + 278)), (1, .int a1), (2, .int a2)]) (by decide) (Nat.le_of_ble_eq_true rfl) rfl hf (fun K hl hK => ?_)
  subst hl
  unfold fX6_pull
  refine J_aload_n hK dX6_pull_0 0 rfl ?_
  refine J_iload_n hK dX6_pull_1 1 rfl ?_
  refine J_callVi (q := 278) (As := [.int a1]) (st := []) hK dX6_pull_2 kB_X6_178 kV_X6_isTug kd_278 (by decide) rfl rfl (by decide) rfl rfl (Nat.le_of_ble_eq_true rfl) (fun _ _ hf => uX6_isTug  hf) (fun v2 h1 => ?_)
  refine J_if_eq (tgt := 18) hK dX6_pull_5 (by decide) ?_ ?_
  · refine J_ldc hK dX6_pull_18 kK_X6_61 ?_
    exact J_iret hK dX6_pull_20
  · refine J_iload_n hK dX6_pull_8 2 rfl ?_
    refine J_iconst hK dX6_pull_9 ci_1 ?_
    refine J_bipush hK dX6_pull_10 cb_20 ?_
    refine J_callSi (As := [.int a2, .int (1 : Int32), .int (20 : Int32)]) (st := []) hK dX6_pull_12 kB_X6_53 kS_X6_in (by decide) rfl rfl (Nat.le_of_ble_eq_true rfl) (fun _ _ hf => uX6_in  hf) (fun v4 h3 => ?_)
    refine J_if_ne (tgt := 21) hK dX6_pull_15 (by decide) ?_ ?_
    · refine J_ldc hK dX6_pull_18 kK_X6_61 ?_
      exact J_iret hK dX6_pull_20
    · refine J_aload_n hK dX6_pull_21 0 rfl ?_
      refine J_callVv (q := 278) (As := []) (st := []) hK dX6_pull_22 kB_X6_171 kV_X6_notes kd_278 (by decide) rfl rfl (by decide) rfl rfl (Nat.le_of_ble_eq_true rfl) (fun _ _ hf => uX6_notes  hf) (fun _ h5 => ?_)
      refine J_aload_n hK dX6_pull_25 0 rfl ?_
      refine rF_X6_25 (q2 := 284) hK dX6_pull_26 kd_278 rfl ?_
      refine J_iconst hK dX6_pull_29 ci_5 ?_
      refine J_iconst hK dX6_pull_30 ci_5 ?_
      refine J_iload_n hK dX6_pull_31 1 rfl ?_
      refine J_imul hK dX6_pull_32 ?_
      refine J_iadd hK dX6_pull_33 ?_
      refine J_iconst hK dX6_pull_34 ci_1 ?_
      refine J_iadd hK dX6_pull_35 ?_
      refine J_iald hK dX6_pull_36 kd_284 (fun _ => ?_)
      refine J_istoreV_n (n := 3) (lw := [(0, .ref (X.1 + 278)), (1, .int a1), (2, .int a2)]) hK dX6_pull_37 rfl (by decide) rfl (fun z6 => ?_)
      refine J_aload_n hK dX6_pull_38 1 rfl ?_
      refine rF_X6_25 (q2 := 284) hK dX6_pull_39 kd_278 rfl ?_
      refine J_iconst hK dX6_pull_42 ci_5 ?_
      refine J_iconst hK dX6_pull_43 ci_5 ?_
      refine J_iload_n hK dX6_pull_44 2 rfl ?_
      refine J_imul hK dX6_pull_45 ?_
      refine J_iadd hK dX6_pull_46 ?_
      refine J_iconst hK dX6_pull_47 ci_1 ?_
      refine J_iadd hK dX6_pull_48 ?_
      refine J_iload_n hK dX6_pull_49 3 rfl ?_
      refine J_iast hK dX6_pull_50 kd_284 (fun h7 => ?_)
      refine J_iload_n hK dX6_pull_51 0 rfl ?_
      exact J_iret hK dX6_pull_52
-- X6_row
theorem dX6_row_0 : DD cX6_row 0 (.iload_n 1) 1 1 := by decide +kernel
theorem dX6_row_1 : DD cX6_row 1 (.invokestatic 57) 3 4 := by decide +kernel
theorem dX6_row_4 : DD cX6_row 4 (.ifCond .eq 18) 3 7 := by decide +kernel
theorem dX6_row_7 : DD cX6_row 7 (.iload_n 2) 1 8 := by decide +kernel
theorem dX6_row_8 : DD cX6_row 8 (.iconst 0) 1 9 := by decide +kernel
theorem dX6_row_9 : DD cX6_row 9 (.iconst 2) 1 10 := by decide +kernel
theorem dX6_row_10 : DD cX6_row 10 (.invokestatic 53) 3 13 := by decide +kernel
theorem dX6_row_13 : DD cX6_row 13 (.ifCond .eq 9) 3 16 := by decide +kernel
theorem dX6_row_16 : DD cX6_row 16 (.iload_n 3) 1 17 := by decide +kernel
theorem dX6_row_17 : DD cX6_row 17 (.bipush 40) 2 19 := by decide +kernel
theorem dX6_row_19 : DD cX6_row 19 (.if_icmp .le 6) 3 22 := by decide +kernel
theorem dX6_row_22 : DD cX6_row 22 (.ldc 61) 2 24 := by decide +kernel
theorem dX6_row_24 : DD cX6_row 24 (.ireturn) 1 25 := by decide +kernel
theorem dX6_row_25 : DD cX6_row 25 (.iload_n 3) 1 26 := by decide +kernel
theorem dX6_row_26 : DD cX6_row 26 (.ifCond .ge 9) 3 29 := by decide +kernel
theorem dX6_row_29 : DD cX6_row 29 (.aload_n 0) 1 30 := by decide +kernel
theorem dX6_row_30 : DD cX6_row 30 (.iconst 4) 1 31 := by decide +kernel
theorem dX6_row_31 : DD cX6_row 31 (.invokevirtual 62) 3 34 := by decide +kernel
theorem dX6_row_34 : DD cX6_row 34 (.ireturn) 1 35 := by decide +kernel
theorem dX6_row_35 : DD cX6_row 35 (.aload_n 0) 1 36 := by decide +kernel
theorem dX6_row_36 : DD cX6_row 36 (.getfield 7) 3 39 := by decide +kernel
theorem dX6_row_39 : DD cX6_row 39 (.iload_n 1) 1 40 := by decide +kernel
theorem dX6_row_40 : DD cX6_row 40 (.iload_n 2) 1 41 := by decide +kernel
theorem dX6_row_41 : DD cX6_row 41 (.iastore) 1 42 := by decide +kernel
theorem dX6_row_42 : DD cX6_row 42 (.aload_n 0) 1 43 := by decide +kernel
theorem dX6_row_43 : DD cX6_row 43 (.getfield 13) 3 46 := by decide +kernel
theorem dX6_row_46 : DD cX6_row 46 (.iload_n 1) 1 47 := by decide +kernel
theorem dX6_row_47 : DD cX6_row 47 (.iload_n 3) 1 48 := by decide +kernel
theorem dX6_row_48 : DD cX6_row 48 (.iastore) 1 49 := by decide +kernel
theorem dX6_row_49 : DD cX6_row 49 (.iconst 0) 1 50 := by decide +kernel
theorem dX6_row_50 : DD cX6_row 50 (.istore 4) 2 52 := by decide +kernel
theorem dX6_row_52 : DD cX6_row 52 (.iload 4) 2 54 := by decide +kernel
theorem dX6_row_54 : DD cX6_row 54 (.bipush 40) 2 56 := by decide +kernel
theorem dX6_row_56 : DD cX6_row 56 (.if_icmp .ge 22) 3 59 := by decide +kernel
theorem dX6_row_59 : DD cX6_row 59 (.aload_n 0) 1 60 := by decide +kernel
theorem dX6_row_60 : DD cX6_row 60 (.getfield 16) 3 63 := by decide +kernel
theorem dX6_row_63 : DD cX6_row 63 (.bipush 40) 2 65 := by decide +kernel
theorem dX6_row_65 : DD cX6_row 65 (.iload_n 1) 1 66 := by decide +kernel
theorem dX6_row_66 : DD cX6_row 66 (.imul) 1 67 := by decide +kernel
theorem dX6_row_67 : DD cX6_row 67 (.iload 4) 2 69 := by decide +kernel
theorem dX6_row_69 : DD cX6_row 69 (.iadd) 1 70 := by decide +kernel
theorem dX6_row_70 : DD cX6_row 70 (.iconst 0) 1 71 := by decide +kernel
theorem dX6_row_71 : DD cX6_row 71 (.iastore) 1 72 := by decide +kernel
theorem dX6_row_72 : DD cX6_row 72 (.iinc 4 1) 3 75 := by decide +kernel
theorem dX6_row_75 : DD cX6_row 75 (.goto (-23)) 3 78 := by decide +kernel
theorem dX6_row_78 : DD cX6_row 78 (.aload_n 0) 1 79 := by decide +kernel
theorem dX6_row_79 : DD cX6_row 79 (.iload_n 3) 1 80 := by decide +kernel
theorem dX6_row_80 : DD cX6_row 80 (.invokevirtual 66) 3 83 := by decide +kernel
theorem dX6_row_83 : DD cX6_row 83 (.ireturn) 1 84 := by decide +kernel
def fX6_row_L52 (p1 : Int32) (p2 : Int32) (p3 : Int32) : Nat → Int32 → AH → (Int32 → AH → Option (Int32 × AH)) → Option (Int32 × AH)
  | 0, _, _, _ => none
  | n + 1, x4, h, k => (if x4 < (40 : Int32) then (chk (inb (((40 : Int32) * p1) + x4) (ln 281)) (sto (hs h 281 (Int32.toNatClampNeg (((40 : Int32) * p1) + x4)) (0 : Int32)) fun h201 => (vl (x4 + (1 : Int32)) fun z202 => fX6_row_L52 p1 p2 p3 n z202 h201 k))) else k x4 h)
def fX6_row (a1 : Int32) (a2 : Int32) (a3 : Int32) (h : AH) : Option (Int32 × AH) := (bnd (fX6_isRow a1 h) fun v2 h1 => (if v2 = 0 then (some ((-1000001 : Int32), h1)) else (bnd (fX6_in a2 (0 : Int32) (2 : Int32) h1) fun v4 h3 => (if v4 = 0 then (some ((-1000001 : Int32), h3)) else (if (40 : Int32) < a3 then (some ((-1000001 : Int32), h3)) else (if a3 < 0 then (bnd (fX6_found (4 : Int32) h3) fun v6 h5 => (some (v6, h5))) else (chk (inb a1 (ln 279)) (sto (hs h3 279 (Int32.toNatClampNeg a1) a2) fun h7 => (chk (inb a1 (ln 280)) (sto (hs h7 280 (Int32.toNatClampNeg a1) a3) fun h8 => (fX6_row_L52 a1 a2 a3 FU (0 : Int32) h8 fun z9 h10 => (bnd (fX6_well a3 h10) fun v12 h11 => (some (v12, h11))))))))))))))
set_option maxHeartbeats 4000000 in
theorem gX6_row_L52 {K : MC} {X : WX} {p1 : Int32} {p2 : Int32} {p3 : Int32} (hK : Ok K X RX6 cX6_row 5 (some .int) 3) {k : Int32 → AH → Option (Int32 × AH)} (hk : ∀ (x4 : Int32) (h : AH), J K X 5 (Zm K X) eI 78 [(4, .int x4), (0, .ref (X.1 + 278)), (1, .int p1), (2, .int p2), (3, .int p3)] [] h (k x4 h)) : ∀ (n : Nat) (x4 : Int32) (h : AH), J K X 5 (Zm K X) eI 52 [(4, .int x4), (0, .ref (X.1 + 278)), (1, .int p1), (2, .int p2), (3, .int p3)] [] h (fX6_row_L52 p1 p2 p3 n x4 h k) := by
  intro n
  induction n with
  | zero => exact fun _ _ => J_none
  | succ n ih =>
    intro x4 h
    rw [fX6_row_L52]
    refine J_iload hK dX6_row_52 0 rfl ?_
    refine J_bipush hK dX6_row_54 cb_40 ?_
    refine J_icmp_ge (tgt := 78) hK dX6_row_56 (by decide) ?_ ?_
    · refine J_aload_n hK dX6_row_59 1 rfl ?_
      refine rF_X6_16 (q2 := 281) hK dX6_row_60 kd_278 rfl ?_
      refine J_bipush hK dX6_row_63 cb_40 ?_
      refine J_iload_n hK dX6_row_65 2 rfl ?_
      refine J_imul hK dX6_row_66 ?_
      refine J_iload hK dX6_row_67 0 rfl ?_
      refine J_iadd hK dX6_row_69 ?_
      refine J_iconst hK dX6_row_70 ci_0 ?_
      refine J_iast hK dX6_row_71 kd_281 (fun h201 => ?_)
      refine J_iinc (lw := [(0, .ref (X.1 + 278)), (1, .int p1), (2, .int p2), (3, .int p3)]) hK dX6_row_72 0 rfl (by decide) ci_1 rfl (fun z202 => ?_)
      refine J_goto (len := 0) (tgt := 52) hK dX6_row_75 (by decide) ?_
      exact J_sub [0, 1, 2, 3, 4] rfl (ih _ _)
    · exact J_sub [0, 1, 2, 3, 4] rfl (hk _ _)
set_option maxHeartbeats 4000000 in
set_option maxRecDepth 4000 in
theorem uX6_row {l : Launch} {X : WX} {a1 : Int32} {a2 : Int32} {a3 : Int32} {h h' : AH} {v : Int32} (hf : fX6_row a1 a2 a3 h = some (v, h')) : Does l X 3 yX6_row cX6_row 5 (some .int) [.ref (X.1 + 278), .int a1, .int a2, .int a3] h (eI v) h' := by
  refine Does.of (enc := eI) (o := fX6_row a1 a2 a3 h) (lv := [(0, .ref (X.1 + 278)), (1, .int a1), (2, .int a2), (3, .int a3)]) (by decide) (Nat.le_of_ble_eq_true rfl) rfl hf (fun K hl hK => ?_)
  subst hl
  unfold fX6_row
  refine J_iload_n hK dX6_row_0 1 rfl ?_
  refine J_callSi (As := [.int a1]) (st := []) hK dX6_row_1 kB_X6_57 kS_X6_isRow (by decide) rfl rfl (Nat.le_of_ble_eq_true rfl) (fun _ _ hf => uX6_isRow  hf) (fun v2 h1 => ?_)
  refine J_if_eq (tgt := 22) hK dX6_row_4 (by decide) ?_ ?_
  · refine J_ldc hK dX6_row_22 kK_X6_61 ?_
    exact J_iret hK dX6_row_24
  · refine J_iload_n hK dX6_row_7 2 rfl ?_
    refine J_iconst hK dX6_row_8 ci_0 ?_
    refine J_iconst hK dX6_row_9 ci_2 ?_
    refine J_callSi (As := [.int a2, .int (0 : Int32), .int (2 : Int32)]) (st := []) hK dX6_row_10 kB_X6_53 kS_X6_in (by decide) rfl rfl (Nat.le_of_ble_eq_true rfl) (fun _ _ hf => uX6_in  hf) (fun v4 h3 => ?_)
    refine J_if_eq (tgt := 22) hK dX6_row_13 (by decide) ?_ ?_
    · refine J_ldc hK dX6_row_22 kK_X6_61 ?_
      exact J_iret hK dX6_row_24
    · refine J_iload_n hK dX6_row_16 3 rfl ?_
      refine J_bipush hK dX6_row_17 cb_40 ?_
      refine J_icmp_le (tgt := 25) hK dX6_row_19 (by decide) ?_ ?_
      · refine J_ldc hK dX6_row_22 kK_X6_61 ?_
        exact J_iret hK dX6_row_24
      · refine J_iload_n hK dX6_row_25 3 rfl ?_
        refine J_if_ge (tgt := 35) hK dX6_row_26 (by decide) ?_ ?_
        · refine J_aload_n hK dX6_row_29 0 rfl ?_
          refine J_iconst hK dX6_row_30 ci_4 ?_
          refine J_callVi (q := 278) (As := [.int (4 : Int32)]) (st := []) hK dX6_row_31 kB_X6_62 kV_X6_found kd_278 (by decide) rfl rfl (by decide) rfl rfl (Nat.le_of_ble_eq_true rfl) (fun _ _ hf => uX6_found  hf) (fun v6 h5 => ?_)
          exact J_iret hK dX6_row_34
        · refine J_aload_n hK dX6_row_35 0 rfl ?_
          refine rF_X6_7 (q2 := 279) hK dX6_row_36 kd_278 rfl ?_
          refine J_iload_n hK dX6_row_39 1 rfl ?_
          refine J_iload_n hK dX6_row_40 2 rfl ?_
          refine J_iast hK dX6_row_41 kd_279 (fun h7 => ?_)
          refine J_aload_n hK dX6_row_42 0 rfl ?_
          refine rF_X6_13 (q2 := 280) hK dX6_row_43 kd_278 rfl ?_
          refine J_iload_n hK dX6_row_46 1 rfl ?_
          refine J_iload_n hK dX6_row_47 3 rfl ?_
          refine J_iast hK dX6_row_48 kd_280 (fun h8 => ?_)
          refine J_iconst hK dX6_row_49 ci_0 ?_
          refine J_istore (lw := [(0, .ref (X.1 + 278)), (1, .int a1), (2, .int a2), (3, .int a3)]) hK dX6_row_50 (by decide) rfl ?_
          refine J_sub [0, 1, 2, 3, 4] rfl (gX6_row_L52 hK  (fun z9 h10 => ?_) FU _ _)
          refine J_aload_n hK dX6_row_78 1 rfl ?_
          refine J_iload_n hK dX6_row_79 4 rfl ?_
          refine J_callVi (q := 278) (As := [.int a3]) (st := []) hK dX6_row_80 kB_X6_66 kV_X6_well kd_278 (by decide) rfl rfl (by decide) rfl rfl (Nat.le_of_ble_eq_true rfl) (fun _ _ hf => uX6_well  hf) (fun v12 h11 => ?_)
          exact J_iret hK dX6_row_83
-- X6_set
theorem dX6_set_0 : DD cX6_set 0 (.iload_n 1) 1 1 := by decide +kernel
theorem dX6_set_1 : DD cX6_set 1 (.invokestatic 57) 3 4 := by decide +kernel
theorem dX6_set_4 : DD cX6_set 4 (.ifCond .ne 6) 3 7 := by decide +kernel
theorem dX6_set_7 : DD cX6_set 7 (.ldc 61) 2 9 := by decide +kernel
theorem dX6_set_9 : DD cX6_set 9 (.ireturn) 1 10 := by decide +kernel
theorem dX6_set_10 : DD cX6_set 10 (.aload_n 0) 1 11 := by decide +kernel
theorem dX6_set_11 : DD cX6_set 11 (.iload_n 1) 1 12 := by decide +kernel
theorem dX6_set_12 : DD cX6_set 12 (.invokevirtual 69) 3 15 := by decide +kernel
theorem dX6_set_15 : DD cX6_set 15 (.ifCond .eq 9) 3 18 := by decide +kernel
theorem dX6_set_18 : DD cX6_set 18 (.aload_n 0) 1 19 := by decide +kernel
theorem dX6_set_19 : DD cX6_set 19 (.iconst 1) 1 20 := by decide +kernel
theorem dX6_set_20 : DD cX6_set 20 (.invokevirtual 62) 3 23 := by decide +kernel
theorem dX6_set_23 : DD cX6_set 23 (.ireturn) 1 24 := by decide +kernel
theorem dX6_set_24 : DD cX6_set 24 (.iload_n 2) 1 25 := by decide +kernel
theorem dX6_set_25 : DD cX6_set 25 (.iconst 0) 1 26 := by decide +kernel
theorem dX6_set_26 : DD cX6_set 26 (.aload_n 0) 1 27 := by decide +kernel
theorem dX6_set_27 : DD cX6_set 27 (.getfield 13) 3 30 := by decide +kernel
theorem dX6_set_30 : DD cX6_set 30 (.iload_n 1) 1 31 := by decide +kernel
theorem dX6_set_31 : DD cX6_set 31 (.iaload) 1 32 := by decide +kernel
theorem dX6_set_32 : DD cX6_set 32 (.iconst 1) 1 33 := by decide +kernel
theorem dX6_set_33 : DD cX6_set 33 (.isub) 1 34 := by decide +kernel
theorem dX6_set_34 : DD cX6_set 34 (.invokestatic 53) 3 37 := by decide +kernel
theorem dX6_set_37 : DD cX6_set 37 (.ifCond .ne 9) 3 40 := by decide +kernel
theorem dX6_set_40 : DD cX6_set 40 (.aload_n 0) 1 41 := by decide +kernel
theorem dX6_set_41 : DD cX6_set 41 (.iconst 2) 1 42 := by decide +kernel
theorem dX6_set_42 : DD cX6_set 42 (.invokevirtual 62) 3 45 := by decide +kernel
theorem dX6_set_45 : DD cX6_set 45 (.ireturn) 1 46 := by decide +kernel
theorem dX6_set_46 : DD cX6_set 46 (.aload_n 0) 1 47 := by decide +kernel
theorem dX6_set_47 : DD cX6_set 47 (.getfield 16) 3 50 := by decide +kernel
theorem dX6_set_50 : DD cX6_set 50 (.bipush 40) 2 52 := by decide +kernel
theorem dX6_set_52 : DD cX6_set 52 (.iload_n 1) 1 53 := by decide +kernel
theorem dX6_set_53 : DD cX6_set 53 (.imul) 1 54 := by decide +kernel
theorem dX6_set_54 : DD cX6_set 54 (.iload_n 2) 1 55 := by decide +kernel
theorem dX6_set_55 : DD cX6_set 55 (.iadd) 1 56 := by decide +kernel
theorem dX6_set_56 : DD cX6_set 56 (.aload_n 0) 1 57 := by decide +kernel
theorem dX6_set_57 : DD cX6_set 57 (.getfield 7) 3 60 := by decide +kernel
theorem dX6_set_60 : DD cX6_set 60 (.iload_n 1) 1 61 := by decide +kernel
theorem dX6_set_61 : DD cX6_set 61 (.iaload) 1 62 := by decide +kernel
theorem dX6_set_62 : DD cX6_set 62 (.iload_n 3) 1 63 := by decide +kernel
theorem dX6_set_63 : DD cX6_set 63 (.invokestatic 72) 3 66 := by decide +kernel
theorem dX6_set_66 : DD cX6_set 66 (.iastore) 1 67 := by decide +kernel
theorem dX6_set_67 : DD cX6_set 67 (.aload_n 0) 1 68 := by decide +kernel
theorem dX6_set_68 : DD cX6_set 68 (.aload_n 0) 1 69 := by decide +kernel
theorem dX6_set_69 : DD cX6_set 69 (.getfield 16) 3 72 := by decide +kernel
theorem dX6_set_72 : DD cX6_set 72 (.bipush 40) 2 74 := by decide +kernel
theorem dX6_set_74 : DD cX6_set 74 (.iload_n 1) 1 75 := by decide +kernel
theorem dX6_set_75 : DD cX6_set 75 (.imul) 1 76 := by decide +kernel
theorem dX6_set_76 : DD cX6_set 76 (.iload_n 2) 1 77 := by decide +kernel
theorem dX6_set_77 : DD cX6_set 77 (.iadd) 1 78 := by decide +kernel
theorem dX6_set_78 : DD cX6_set 78 (.iaload) 1 79 := by decide +kernel
theorem dX6_set_79 : DD cX6_set 79 (.invokevirtual 66) 3 82 := by decide +kernel
theorem dX6_set_82 : DD cX6_set 82 (.ireturn) 1 83 := by decide +kernel
def fX6_set (a1 : Int32) (a2 : Int32) (a3 : Int32) (h : AH) : Option (Int32 × AH) := (bnd (fX6_isRow a1 h) fun v2 h1 => (if v2 = 0 then (some ((-1000001 : Int32), h1)) else (bnd (fX6_isMissing a1 h1) fun v4 h3 => (if v4 = 0 then (chk (inb a1 (ln 280)) (bnd (fX6_in a2 (0 : Int32) ((h3 280 (Int32.toNatClampNeg a1)) - (1 : Int32)) h3) fun v6 h5 => (if v6 = 0 then (bnd (fX6_found (2 : Int32) h5) fun v8 h7 => (some (v8, h7))) else (chk (inb a1 (ln 279)) (bnd (fX6_cut (h5 279 (Int32.toNatClampNeg a1)) a3 h5) fun v10 h9 => (chk (inb (((40 : Int32) * a1) + a2) (ln 281)) (sto (hs h9 281 (Int32.toNatClampNeg (((40 : Int32) * a1) + a2)) v10) fun h11 => (chk (inb (((40 : Int32) * a1) + a2) (ln 281)) (bnd (fX6_well (h11 281 (Int32.toNatClampNeg (((40 : Int32) * a1) + a2))) h11) fun v13 h12 => (some (v13, h12))))))))))) else (bnd (fX6_found (1 : Int32) h3) fun v15 h14 => (some (v15, h14)))))))
set_option maxHeartbeats 4000000 in
set_option maxRecDepth 4000 in
theorem uX6_set {l : Launch} {X : WX} {a1 : Int32} {a2 : Int32} {a3 : Int32} {h h' : AH} {v : Int32} (hf : fX6_set a1 a2 a3 h = some (v, h')) : Does l X 3 yX6_set cX6_set 4 (some .int) [.ref (X.1 + 278), .int a1, .int a2, .int a3] h (eI v) h' := by
  refine Does.of (enc := eI) (o := fX6_set a1 a2 a3 h) (lv := [(0, .ref (X.1 + 278)), (1, .int a1), (2, .int a2), (3, .int a3)]) (by decide) (Nat.le_of_ble_eq_true rfl) rfl hf (fun K hl hK => ?_)
  subst hl
  unfold fX6_set
  refine J_iload_n hK dX6_set_0 1 rfl ?_
  refine J_callSi (As := [.int a1]) (st := []) hK dX6_set_1 kB_X6_57 kS_X6_isRow (by decide) rfl rfl (Nat.le_of_ble_eq_true rfl) (fun _ _ hf => uX6_isRow  hf) (fun v2 h1 => ?_)
  refine J_if_ne (tgt := 10) hK dX6_set_4 (by decide) ?_ ?_
  · refine J_ldc hK dX6_set_7 kK_X6_61 ?_
    exact J_iret hK dX6_set_9
  · refine J_aload_n hK dX6_set_10 0 rfl ?_
    refine J_iload_n hK dX6_set_11 1 rfl ?_
    refine J_callVi (q := 278) (As := [.int a1]) (st := []) hK dX6_set_12 kB_X6_69 kV_X6_isMissing kd_278 (by decide) rfl rfl (by decide) rfl rfl (Nat.le_of_ble_eq_true rfl) (fun _ _ hf => uX6_isMissing  hf) (fun v4 h3 => ?_)
    refine J_if_eq (tgt := 24) hK dX6_set_15 (by decide) ?_ ?_
    · refine J_iload_n hK dX6_set_24 2 rfl ?_
      refine J_iconst hK dX6_set_25 ci_0 ?_
      refine J_aload_n hK dX6_set_26 0 rfl ?_
      refine rF_X6_13 (q2 := 280) hK dX6_set_27 kd_278 rfl ?_
      refine J_iload_n hK dX6_set_30 1 rfl ?_
      refine J_iald hK dX6_set_31 kd_280 (fun _ => ?_)
      refine J_iconst hK dX6_set_32 ci_1 ?_
      refine J_isub hK dX6_set_33 ?_
      refine J_callSi (As := [.int a2, .int (0 : Int32), .int ((h3 280 (Int32.toNatClampNeg a1)) - (1 : Int32))]) (st := []) hK dX6_set_34 kB_X6_53 kS_X6_in (by decide) rfl rfl (Nat.le_of_ble_eq_true rfl) (fun _ _ hf => uX6_in  hf) (fun v6 h5 => ?_)
      refine J_if_ne (tgt := 46) hK dX6_set_37 (by decide) ?_ ?_
      · refine J_aload_n hK dX6_set_40 0 rfl ?_
        refine J_iconst hK dX6_set_41 ci_2 ?_
        refine J_callVi (q := 278) (As := [.int (2 : Int32)]) (st := []) hK dX6_set_42 kB_X6_62 kV_X6_found kd_278 (by decide) rfl rfl (by decide) rfl rfl (Nat.le_of_ble_eq_true rfl) (fun _ _ hf => uX6_found  hf) (fun v8 h7 => ?_)
        exact J_iret hK dX6_set_45
      · refine J_aload_n hK dX6_set_46 0 rfl ?_
        refine rF_X6_16 (q2 := 281) hK dX6_set_47 kd_278 rfl ?_
        refine J_bipush hK dX6_set_50 cb_40 ?_
        refine J_iload_n hK dX6_set_52 1 rfl ?_
        refine J_imul hK dX6_set_53 ?_
        refine J_iload_n hK dX6_set_54 2 rfl ?_
        refine J_iadd hK dX6_set_55 ?_
        refine J_aload_n hK dX6_set_56 0 rfl ?_
        refine rF_X6_7 (q2 := 279) hK dX6_set_57 kd_278 rfl ?_
        refine J_iload_n hK dX6_set_60 1 rfl ?_
        refine J_iald hK dX6_set_61 kd_279 (fun _ => ?_)
        refine J_iload_n hK dX6_set_62 3 rfl ?_
        refine J_callSi (As := [.int (h5 279 (Int32.toNatClampNeg a1)), .int a3]) (st := [.int (((40 : Int32) * a1) + a2), .ref (X.1 + 281)]) hK dX6_set_63 kB_X6_72 kS_X6_cut (by decide) rfl rfl (Nat.le_of_ble_eq_true rfl) (fun _ _ hf => uX6_cut  hf) (fun v10 h9 => ?_)
        refine J_iast hK dX6_set_66 kd_281 (fun h11 => ?_)
        refine J_aload_n hK dX6_set_67 0 rfl ?_
        refine J_aload_n hK dX6_set_68 0 rfl ?_
        refine rF_X6_16 (q2 := 281) hK dX6_set_69 kd_278 rfl ?_
        refine J_bipush hK dX6_set_72 cb_40 ?_
        refine J_iload_n hK dX6_set_74 1 rfl ?_
        refine J_imul hK dX6_set_75 ?_
        refine J_iload_n hK dX6_set_76 2 rfl ?_
        refine J_iadd hK dX6_set_77 ?_
        refine J_iald hK dX6_set_78 kd_281 (fun _ => ?_)
        refine J_callVi (q := 278) (As := [.int (h11 281 (Int32.toNatClampNeg (((40 : Int32) * a1) + a2)))]) (st := []) hK dX6_set_79 kB_X6_66 kV_X6_well kd_278 (by decide) rfl rfl (by decide) rfl rfl (Nat.le_of_ble_eq_true rfl) (fun _ _ hf => uX6_well  hf) (fun v13 h12 => ?_)
        exact J_iret hK dX6_set_82
    · refine J_aload_n hK dX6_set_18 0 rfl ?_
      refine J_iconst hK dX6_set_19 ci_1 ?_
      refine J_callVi (q := 278) (As := [.int (1 : Int32)]) (st := []) hK dX6_set_20 kB_X6_62 kV_X6_found kd_278 (by decide) rfl rfl (by decide) rfl rfl (Nat.le_of_ble_eq_true rfl) (fun _ _ hf => uX6_found  hf) (fun v15 h14 => ?_)
      exact J_iret hK dX6_set_23
-- X6_share
theorem dX6_share_0 : DD cX6_share 0 (.aload_n 0) 1 1 := by decide +kernel
theorem dX6_share_1 : DD cX6_share 1 (.iload_n 1) 1 2 := by decide +kernel
theorem dX6_share_2 : DD cX6_share 2 (.invokevirtual 178) 3 5 := by decide +kernel
theorem dX6_share_5 : DD cX6_share 5 (.ifCond .eq 14) 3 8 := by decide +kernel
theorem dX6_share_8 : DD cX6_share 8 (.iload_n 2) 1 9 := by decide +kernel
theorem dX6_share_9 : DD cX6_share 9 (.iconst 0) 1 10 := by decide +kernel
theorem dX6_share_10 : DD cX6_share 10 (.sipush 999) 3 13 := by decide +kernel
theorem dX6_share_13 : DD cX6_share 13 (.invokestatic 53) 3 16 := by decide +kernel
theorem dX6_share_16 : DD cX6_share 16 (.ifCond .ne 6) 3 19 := by decide +kernel
theorem dX6_share_19 : DD cX6_share 19 (.ldc 61) 2 21 := by decide +kernel
theorem dX6_share_21 : DD cX6_share 21 (.ireturn) 1 22 := by decide +kernel
theorem dX6_share_22 : DD cX6_share 22 (.aload_n 0) 1 23 := by decide +kernel
theorem dX6_share_23 : DD cX6_share 23 (.getfield 25) 3 26 := by decide +kernel
theorem dX6_share_26 : DD cX6_share 26 (.invokestatic 181) 3 29 := by decide +kernel
theorem dX6_share_29 : DD cX6_share 29 (.istore_n 3) 1 30 := by decide +kernel
theorem dX6_share_30 : DD cX6_share 30 (.iload_n 3) 1 31 := by decide +kernel
theorem dX6_share_31 : DD cX6_share 31 (.iload_n 1) 1 32 := by decide +kernel
theorem dX6_share_32 : DD cX6_share 32 (.invokestatic 200) 3 35 := by decide +kernel
theorem dX6_share_35 : DD cX6_share 35 (.ifCond .ne 5) 3 38 := by decide +kernel
theorem dX6_share_38 : DD cX6_share 38 (.iconst 0) 1 39 := by decide +kernel
theorem dX6_share_39 : DD cX6_share 39 (.ireturn) 1 40 := by decide +kernel
theorem dX6_share_40 : DD cX6_share 40 (.iconst 0) 1 41 := by decide +kernel
theorem dX6_share_41 : DD cX6_share 41 (.istore 4) 2 43 := by decide +kernel
theorem dX6_share_43 : DD cX6_share 43 (.iconst 0) 1 44 := by decide +kernel
theorem dX6_share_44 : DD cX6_share 44 (.istore 5) 2 46 := by decide +kernel
theorem dX6_share_46 : DD cX6_share 46 (.iload 5) 2 48 := by decide +kernel
theorem dX6_share_48 : DD cX6_share 48 (.aload_n 0) 1 49 := by decide +kernel
theorem dX6_share_49 : DD cX6_share 49 (.getfield 25) 3 52 := by decide +kernel
theorem dX6_share_52 : DD cX6_share 52 (.iconst 2) 1 53 := by decide +kernel
theorem dX6_share_53 : DD cX6_share 53 (.iaload) 1 54 := by decide +kernel
theorem dX6_share_54 : DD cX6_share 54 (.if_icmp .ge 40) 3 57 := by decide +kernel
theorem dX6_share_57 : DD cX6_share 57 (.iload 4) 2 59 := by decide +kernel
theorem dX6_share_59 : DD cX6_share 59 (.iload_n 3) 1 60 := by decide +kernel
theorem dX6_share_60 : DD cX6_share 60 (.iload 5) 2 62 := by decide +kernel
theorem dX6_share_62 : DD cX6_share 62 (.invokestatic 200) 3 65 := by decide +kernel
theorem dX6_share_65 : DD cX6_share 65 (.ifCond .eq 19) 3 68 := by decide +kernel
theorem dX6_share_68 : DD cX6_share 68 (.aload_n 0) 1 69 := by decide +kernel
theorem dX6_share_69 : DD cX6_share 69 (.getfield 25) 3 72 := by decide +kernel
theorem dX6_share_72 : DD cX6_share 72 (.iconst 5) 1 73 := by decide +kernel
theorem dX6_share_73 : DD cX6_share 73 (.iconst 5) 1 74 := by decide +kernel
theorem dX6_share_74 : DD cX6_share 74 (.iload 5) 2 76 := by decide +kernel
theorem dX6_share_76 : DD cX6_share 76 (.imul) 1 77 := by decide +kernel
theorem dX6_share_77 : DD cX6_share 77 (.iadd) 1 78 := by decide +kernel
theorem dX6_share_78 : DD cX6_share 78 (.iconst 1) 1 79 := by decide +kernel
theorem dX6_share_79 : DD cX6_share 79 (.iadd) 1 80 := by decide +kernel
theorem dX6_share_80 : DD cX6_share 80 (.iaload) 1 81 := by decide +kernel
theorem dX6_share_81 : DD cX6_share 81 (.goto 4) 3 84 := by decide +kernel
theorem dX6_share_84 : DD cX6_share 84 (.iconst 0) 1 85 := by decide +kernel
theorem dX6_share_85 : DD cX6_share 85 (.iadd) 1 86 := by decide +kernel
theorem dX6_share_86 : DD cX6_share 86 (.istore 4) 2 88 := by decide +kernel
theorem dX6_share_88 : DD cX6_share 88 (.iinc 5 1) 3 91 := by decide +kernel
theorem dX6_share_91 : DD cX6_share 91 (.goto (-45)) 3 94 := by decide +kernel
theorem dX6_share_94 : DD cX6_share 94 (.iload_n 2) 1 95 := by decide +kernel
theorem dX6_share_95 : DD cX6_share 95 (.istore 5) 2 97 := by decide +kernel
theorem dX6_share_97 : DD cX6_share 97 (.iconst 0) 1 98 := by decide +kernel
theorem dX6_share_98 : DD cX6_share 98 (.istore 6) 2 100 := by decide +kernel
theorem dX6_share_100 : DD cX6_share 100 (.iconst 0) 1 101 := by decide +kernel
theorem dX6_share_101 : DD cX6_share 101 (.istore 7) 2 103 := by decide +kernel
theorem dX6_share_103 : DD cX6_share 103 (.iload 7) 2 105 := by decide +kernel
theorem dX6_share_105 : DD cX6_share 105 (.aload_n 0) 1 106 := by decide +kernel
theorem dX6_share_106 : DD cX6_share 106 (.getfield 25) 3 109 := by decide +kernel
theorem dX6_share_109 : DD cX6_share 109 (.iconst 2) 1 110 := by decide +kernel
theorem dX6_share_110 : DD cX6_share 110 (.iaload) 1 111 := by decide +kernel
theorem dX6_share_111 : DD cX6_share 111 (.if_icmp .ge 70) 3 114 := by decide +kernel
theorem dX6_share_114 : DD cX6_share 114 (.iload 5) 2 116 := by decide +kernel
theorem dX6_share_116 : DD cX6_share 116 (.iload_n 3) 1 117 := by decide +kernel
theorem dX6_share_117 : DD cX6_share 117 (.iload 7) 2 119 := by decide +kernel
theorem dX6_share_119 : DD cX6_share 119 (.invokestatic 200) 3 122 := by decide +kernel
theorem dX6_share_122 : DD cX6_share 122 (.ifCond .eq 24) 3 125 := by decide +kernel
theorem dX6_share_125 : DD cX6_share 125 (.iload_n 2) 1 126 := by decide +kernel
theorem dX6_share_126 : DD cX6_share 126 (.aload_n 0) 1 127 := by decide +kernel
theorem dX6_share_127 : DD cX6_share 127 (.getfield 25) 3 130 := by decide +kernel
theorem dX6_share_130 : DD cX6_share 130 (.iconst 5) 1 131 := by decide +kernel
theorem dX6_share_131 : DD cX6_share 131 (.iconst 5) 1 132 := by decide +kernel
theorem dX6_share_132 : DD cX6_share 132 (.iload 7) 2 134 := by decide +kernel
theorem dX6_share_134 : DD cX6_share 134 (.imul) 1 135 := by decide +kernel
theorem dX6_share_135 : DD cX6_share 135 (.iadd) 1 136 := by decide +kernel
theorem dX6_share_136 : DD cX6_share 136 (.iconst 1) 1 137 := by decide +kernel
theorem dX6_share_137 : DD cX6_share 137 (.iadd) 1 138 := by decide +kernel
theorem dX6_share_138 : DD cX6_share 138 (.iaload) 1 139 := by decide +kernel
theorem dX6_share_139 : DD cX6_share 139 (.imul) 1 140 := by decide +kernel
theorem dX6_share_140 : DD cX6_share 140 (.iload 4) 2 142 := by decide +kernel
theorem dX6_share_142 : DD cX6_share 142 (.idiv) 1 143 := by decide +kernel
theorem dX6_share_143 : DD cX6_share 143 (.goto 4) 3 146 := by decide +kernel
theorem dX6_share_146 : DD cX6_share 146 (.iconst 0) 1 147 := by decide +kernel
theorem dX6_share_147 : DD cX6_share 147 (.isub) 1 148 := by decide +kernel
theorem dX6_share_148 : DD cX6_share 148 (.istore 5) 2 150 := by decide +kernel
theorem dX6_share_150 : DD cX6_share 150 (.iload 6) 2 152 := by decide +kernel
theorem dX6_share_152 : DD cX6_share 152 (.iload 7) 2 154 := by decide +kernel
theorem dX6_share_154 : DD cX6_share 154 (.iload_n 1) 1 155 := by decide +kernel
theorem dX6_share_155 : DD cX6_share 155 (.if_icmp .ge 16) 3 158 := by decide +kernel
theorem dX6_share_158 : DD cX6_share 158 (.iload_n 3) 1 159 := by decide +kernel
theorem dX6_share_159 : DD cX6_share 159 (.iload 7) 2 161 := by decide +kernel
theorem dX6_share_161 : DD cX6_share 161 (.invokestatic 200) 3 164 := by decide +kernel
theorem dX6_share_164 : DD cX6_share 164 (.ifCond .eq 7) 3 167 := by decide +kernel
theorem dX6_share_167 : DD cX6_share 167 (.iconst 1) 1 168 := by decide +kernel
theorem dX6_share_168 : DD cX6_share 168 (.goto 4) 3 171 := by decide +kernel
theorem dX6_share_171 : DD cX6_share 171 (.iconst 0) 1 172 := by decide +kernel
theorem dX6_share_172 : DD cX6_share 172 (.iadd) 1 173 := by decide +kernel
theorem dX6_share_173 : DD cX6_share 173 (.istore 6) 2 175 := by decide +kernel
theorem dX6_share_175 : DD cX6_share 175 (.iinc 7 1) 3 178 := by decide +kernel
theorem dX6_share_178 : DD cX6_share 178 (.goto (-75)) 3 181 := by decide +kernel
theorem dX6_share_181 : DD cX6_share 181 (.iload_n 2) 1 182 := by decide +kernel
theorem dX6_share_182 : DD cX6_share 182 (.aload_n 0) 1 183 := by decide +kernel
theorem dX6_share_183 : DD cX6_share 183 (.getfield 25) 3 186 := by decide +kernel
theorem dX6_share_186 : DD cX6_share 186 (.iconst 5) 1 187 := by decide +kernel
theorem dX6_share_187 : DD cX6_share 187 (.iconst 5) 1 188 := by decide +kernel
theorem dX6_share_188 : DD cX6_share 188 (.iload_n 1) 1 189 := by decide +kernel
theorem dX6_share_189 : DD cX6_share 189 (.imul) 1 190 := by decide +kernel
theorem dX6_share_190 : DD cX6_share 190 (.iadd) 1 191 := by decide +kernel
theorem dX6_share_191 : DD cX6_share 191 (.iconst 1) 1 192 := by decide +kernel
theorem dX6_share_192 : DD cX6_share 192 (.iadd) 1 193 := by decide +kernel
theorem dX6_share_193 : DD cX6_share 193 (.iaload) 1 194 := by decide +kernel
theorem dX6_share_194 : DD cX6_share 194 (.imul) 1 195 := by decide +kernel
theorem dX6_share_195 : DD cX6_share 195 (.iload 4) 2 197 := by decide +kernel
theorem dX6_share_197 : DD cX6_share 197 (.idiv) 1 198 := by decide +kernel
theorem dX6_share_198 : DD cX6_share 198 (.iload 6) 2 200 := by decide +kernel
theorem dX6_share_200 : DD cX6_share 200 (.iload 5) 2 202 := by decide +kernel
theorem dX6_share_202 : DD cX6_share 202 (.if_icmp .ge 7) 3 205 := by decide +kernel
theorem dX6_share_205 : DD cX6_share 205 (.iconst 1) 1 206 := by decide +kernel
theorem dX6_share_206 : DD cX6_share 206 (.goto 4) 3 209 := by decide +kernel
theorem dX6_share_209 : DD cX6_share 209 (.iconst 0) 1 210 := by decide +kernel
theorem dX6_share_210 : DD cX6_share 210 (.iadd) 1 211 := by decide +kernel
theorem dX6_share_211 : DD cX6_share 211 (.ireturn) 1 212 := by decide +kernel
def fX6_share_L46 (p3 : Int32) (p1 : Int32) (p2 : Int32) : Nat → Int32 → Int32 → AH → (Int32 → Int32 → AH → Option (Int32 × AH)) → Option (Int32 × AH)
  | 0, _, _, _, _ => none
  | n + 1, x5, x4, h, k => (chk (inb (2 : Int32) (ln 284)) (if x5 < (h 284 (Int32.toNatClampNeg (2 : Int32))) then (bnd (fX6_has p3 x5 h) fun v202 h201 => (if v202 = 0 then (vl (x4 + (0 : Int32)) fun z203 => (vl (x5 + (1 : Int32)) fun z204 => fX6_share_L46 p3 p1 p2 n z204 z203 h201 k)) else (chk (inb (((5 : Int32) + ((5 : Int32) * x5)) + (1 : Int32)) (ln 284)) (vl (x4 + (h201 284 (Int32.toNatClampNeg (((5 : Int32) + ((5 : Int32) * x5)) + (1 : Int32))))) fun z205 => (vl (x5 + (1 : Int32)) fun z206 => fX6_share_L46 p3 p1 p2 n z206 z205 h201 k))))) else k x5 x4 h))
def fX6_share_L103 (p4 : Int32) (p3 : Int32) (p1 : Int32) (p2 : Int32) : Nat → Int32 → Int32 → Int32 → AH → (Int32 → Int32 → Int32 → AH → Option (Int32 × AH)) → Option (Int32 × AH)
  | 0, _, _, _, _, _ => none
  | n + 1, x7, x6, x5, h, k => (chk (inb (2 : Int32) (ln 284)) (if x7 < (h 284 (Int32.toNatClampNeg (2 : Int32))) then (bnd (fX6_has p3 x7 h) fun v302 h301 => (if v302 = 0 then (vl (x5 - (0 : Int32)) fun z303 => (if x7 < p1 then (bnd (fX6_has p3 x7 h301) fun v305 h304 => (if v305 = 0 then (vl (x6 + (0 : Int32)) fun z306 => (vl (x7 + (1 : Int32)) fun z307 => fX6_share_L103 p4 p3 p1 p2 n z307 z306 z303 h304 k)) else (vl (x6 + (1 : Int32)) fun z308 => (vl (x7 + (1 : Int32)) fun z309 => fX6_share_L103 p4 p3 p1 p2 n z309 z308 z303 h304 k)))) else (vl (x6 + (0 : Int32)) fun z310 => (vl (x7 + (1 : Int32)) fun z311 => fX6_share_L103 p4 p3 p1 p2 n z311 z310 z303 h301 k)))) else (chk (inb (((5 : Int32) + ((5 : Int32) * x7)) + (1 : Int32)) (ln 284)) (chk (¬ p4 = 0) (vl (x5 - ((p2 * (h301 284 (Int32.toNatClampNeg (((5 : Int32) + ((5 : Int32) * x7)) + (1 : Int32))))) / p4)) fun z312 => (if x7 < p1 then (bnd (fX6_has p3 x7 h301) fun v314 h313 => (if v314 = 0 then (vl (x6 + (0 : Int32)) fun z315 => (vl (x7 + (1 : Int32)) fun z316 => fX6_share_L103 p4 p3 p1 p2 n z316 z315 z312 h313 k)) else (vl (x6 + (1 : Int32)) fun z317 => (vl (x7 + (1 : Int32)) fun z318 => fX6_share_L103 p4 p3 p1 p2 n z318 z317 z312 h313 k)))) else (vl (x6 + (0 : Int32)) fun z319 => (vl (x7 + (1 : Int32)) fun z320 => fX6_share_L103 p4 p3 p1 p2 n z320 z319 z312 h301 k)))))))) else k x7 x6 x5 h))
def fX6_share (a1 : Int32) (a2 : Int32) (h : AH) : Option (Int32 × AH) := (bnd (fX6_isTug a1 h) fun v2 h1 => (if v2 = 0 then (some ((-1000001 : Int32), h1)) else (bnd (fX6_in a2 (0 : Int32) (999 : Int32) h1) fun v4 h3 => (if v4 = 0 then (some ((-1000001 : Int32), h3)) else (bnd (fX6_holding 284 h3) fun v6 h5 => (bnd (fX6_has v6 a1 h5) fun v8 h7 => (if v8 = 0 then (some ((0 : Int32), h7)) else (fX6_share_L46 v6 a1 a2 FU (0 : Int32) (0 : Int32) h7 fun z9 z10 h11 => (fX6_share_L103 z10 v6 a1 a2 FU (0 : Int32) (0 : Int32) a2 h11 fun z12 z13 z14 h15 => (chk (inb (((5 : Int32) + ((5 : Int32) * a1)) + (1 : Int32)) (ln 284)) (chk (¬ z10 = 0) (if z13 < z14 then (some ((((a2 * (h15 284 (Int32.toNatClampNeg (((5 : Int32) + ((5 : Int32) * a1)) + (1 : Int32))))) / z10) + (1 : Int32)), h15)) else (some ((((a2 * (h15 284 (Int32.toNatClampNeg (((5 : Int32) + ((5 : Int32) * a1)) + (1 : Int32))))) / z10) + (0 : Int32)), h15))))))))))))))
set_option maxHeartbeats 4000000 in
theorem gX6_share_L46 {K : MC} {X : WX} {p3 : Int32} {p1 : Int32} {p2 : Int32} (hK : Ok K X RX6 cX6_share 8 (some .int) 3) {k : Int32 → Int32 → AH → Option (Int32 × AH)} (hk : ∀ (x5 : Int32) (x4 : Int32) (h : AH), J K X 8 (Zm K X) eI 94 [(5, .int x5), (4, .int x4), (3, .int p3), (0, .ref (X.1 + 278)), (1, .int p1), (2, .int p2)] [] h (k x5 x4 h)) : ∀ (n : Nat) (x5 : Int32) (x4 : Int32) (h : AH), J K X 8 (Zm K X) eI 46 [(5, .int x5), (4, .int x4), (3, .int p3), (0, .ref (X.1 + 278)), (1, .int p1), (2, .int p2)] [] h (fX6_share_L46 p3 p1 p2 n x5 x4 h k) := by
  intro n
  induction n with
  | zero => exact fun _ _ _ => J_none
  | succ n ih =>
    intro x5 x4 h
    rw [fX6_share_L46]
    refine J_iload hK dX6_share_46 0 rfl ?_
    refine J_aload_n hK dX6_share_48 3 rfl ?_
    refine rF_X6_25 (q2 := 284) hK dX6_share_49 kd_278 rfl ?_
    refine J_iconst hK dX6_share_52 ci_2 ?_
    refine J_iald hK dX6_share_53 kd_284 (fun _ => ?_)
    refine J_icmp_ge (tgt := 94) hK dX6_share_54 (by decide) ?_ ?_
    · refine J_iload hK dX6_share_57 1 rfl ?_
      refine J_iload_n hK dX6_share_59 2 rfl ?_
      refine J_iload hK dX6_share_60 0 rfl ?_
      refine J_callSi (As := [.int p3, .int x5]) (st := [.int x4]) hK dX6_share_62 kB_X6_200 kS_X6_has (by decide) rfl rfl (Nat.le_of_ble_eq_true rfl) (fun _ _ hf => uX6_has  hf) (fun v202 h201 => ?_)
      refine J_if_eq (tgt := 84) hK dX6_share_65 (by decide) ?_ ?_
      · refine J_iconst hK dX6_share_84 ci_0 ?_
        refine J_iadd hK dX6_share_85 ?_
        refine J_istoreV (lw := [(5, .int x5), (3, .int p3), (0, .ref (X.1 + 278)), (1, .int p1), (2, .int p2)]) hK dX6_share_86 (by decide) rfl (fun z203 => ?_)
        refine J_iinc (lw := [(4, .int z203), (3, .int p3), (0, .ref (X.1 + 278)), (1, .int p1), (2, .int p2)]) hK dX6_share_88 1 rfl (by decide) ci_1 rfl (fun z204 => ?_)
        refine J_goto (len := 0) (tgt := 46) hK dX6_share_91 (by decide) ?_
        exact J_sub [0, 1, 2, 3, 4, 5] rfl (ih _ _ _)
      · refine J_aload_n hK dX6_share_68 3 rfl ?_
        refine rF_X6_25 (q2 := 284) hK dX6_share_69 kd_278 rfl ?_
        refine J_iconst hK dX6_share_72 ci_5 ?_
        refine J_iconst hK dX6_share_73 ci_5 ?_
        refine J_iload hK dX6_share_74 0 rfl ?_
        refine J_imul hK dX6_share_76 ?_
        refine J_iadd hK dX6_share_77 ?_
        refine J_iconst hK dX6_share_78 ci_1 ?_
        refine J_iadd hK dX6_share_79 ?_
        refine J_iald hK dX6_share_80 kd_284 (fun _ => ?_)
        refine J_goto (len := 0) (tgt := 85) hK dX6_share_81 (by decide) ?_
        refine J_iadd hK dX6_share_85 ?_
        refine J_istoreV (lw := [(5, .int x5), (3, .int p3), (0, .ref (X.1 + 278)), (1, .int p1), (2, .int p2)]) hK dX6_share_86 (by decide) rfl (fun z205 => ?_)
        refine J_iinc (lw := [(4, .int z205), (3, .int p3), (0, .ref (X.1 + 278)), (1, .int p1), (2, .int p2)]) hK dX6_share_88 1 rfl (by decide) ci_1 rfl (fun z206 => ?_)
        refine J_goto (len := 0) (tgt := 46) hK dX6_share_91 (by decide) ?_
        exact J_sub [0, 1, 2, 3, 4, 5] rfl (ih _ _ _)
    · exact J_sub [0, 1, 2, 3, 4, 5] rfl (hk _ _ _)
set_option maxHeartbeats 4000000 in
theorem gX6_share_L103 {K : MC} {X : WX} {p4 : Int32} {p3 : Int32} {p1 : Int32} {p2 : Int32} (hK : Ok K X RX6 cX6_share 8 (some .int) 3) {k : Int32 → Int32 → Int32 → AH → Option (Int32 × AH)} (hk : ∀ (x7 : Int32) (x6 : Int32) (x5 : Int32) (h : AH), J K X 8 (Zm K X) eI 181 [(7, .int x7), (6, .int x6), (5, .int x5), (4, .int p4), (3, .int p3), (0, .ref (X.1 + 278)), (1, .int p1), (2, .int p2)] [] h (k x7 x6 x5 h)) : ∀ (n : Nat) (x7 : Int32) (x6 : Int32) (x5 : Int32) (h : AH), J K X 8 (Zm K X) eI 103 [(7, .int x7), (6, .int x6), (5, .int x5), (4, .int p4), (3, .int p3), (0, .ref (X.1 + 278)), (1, .int p1), (2, .int p2)] [] h (fX6_share_L103 p4 p3 p1 p2 n x7 x6 x5 h k) := by
  intro n
  induction n with
  | zero => exact fun _ _ _ _ => J_none
  | succ n ih =>
    intro x7 x6 x5 h
    rw [fX6_share_L103]
    refine J_iload hK dX6_share_103 0 rfl ?_
    refine J_aload_n hK dX6_share_105 5 rfl ?_
    refine rF_X6_25 (q2 := 284) hK dX6_share_106 kd_278 rfl ?_
    refine J_iconst hK dX6_share_109 ci_2 ?_
    refine J_iald hK dX6_share_110 kd_284 (fun _ => ?_)
    refine J_icmp_ge (tgt := 181) hK dX6_share_111 (by decide) ?_ ?_
    · refine J_iload hK dX6_share_114 2 rfl ?_
      refine J_iload_n hK dX6_share_116 4 rfl ?_
      refine J_iload hK dX6_share_117 0 rfl ?_
      refine J_callSi (As := [.int p3, .int x7]) (st := [.int x5]) hK dX6_share_119 kB_X6_200 kS_X6_has (by decide) rfl rfl (Nat.le_of_ble_eq_true rfl) (fun _ _ hf => uX6_has  hf) (fun v302 h301 => ?_)
      refine J_if_eq (tgt := 146) hK dX6_share_122 (by decide) ?_ ?_
      · refine J_iconst hK dX6_share_146 ci_0 ?_
        refine J_isub hK dX6_share_147 ?_
        refine J_istoreV (lw := [(7, .int x7), (6, .int x6), (4, .int p4), (3, .int p3), (0, .ref (X.1 + 278)), (1, .int p1), (2, .int p2)]) hK dX6_share_148 (by decide) rfl (fun z303 => ?_)
        refine J_iload hK dX6_share_150 2 rfl ?_
        refine J_iload hK dX6_share_152 1 rfl ?_
        refine J_iload_n hK dX6_share_154 6 rfl ?_
        refine J_icmp_ge (tgt := 171) hK dX6_share_155 (by decide) ?_ ?_
        · refine J_iload_n hK dX6_share_158 4 rfl ?_
          refine J_iload hK dX6_share_159 1 rfl ?_
          refine J_callSi (As := [.int p3, .int x7]) (st := [.int x6]) hK dX6_share_161 kB_X6_200 kS_X6_has (by decide) rfl rfl (Nat.le_of_ble_eq_true rfl) (fun _ _ hf => uX6_has  hf) (fun v305 h304 => ?_)
          refine J_if_eq (tgt := 171) hK dX6_share_164 (by decide) ?_ ?_
          · refine J_iconst hK dX6_share_171 ci_0 ?_
            refine J_iadd hK dX6_share_172 ?_
            refine J_istoreV (lw := [(5, .int z303), (7, .int x7), (4, .int p4), (3, .int p3), (0, .ref (X.1 + 278)), (1, .int p1), (2, .int p2)]) hK dX6_share_173 (by decide) rfl (fun z306 => ?_)
            refine J_iinc (lw := [(6, .int z306), (5, .int z303), (4, .int p4), (3, .int p3), (0, .ref (X.1 + 278)), (1, .int p1), (2, .int p2)]) hK dX6_share_175 2 rfl (by decide) ci_1 rfl (fun z307 => ?_)
            refine J_goto (len := 0) (tgt := 103) hK dX6_share_178 (by decide) ?_
            exact J_sub [0, 1, 2, 3, 4, 5, 6, 7] rfl (ih _ _ _ _)
          · refine J_iconst hK dX6_share_167 ci_1 ?_
            refine J_goto (len := 0) (tgt := 172) hK dX6_share_168 (by decide) ?_
            refine J_iadd hK dX6_share_172 ?_
            refine J_istoreV (lw := [(5, .int z303), (7, .int x7), (4, .int p4), (3, .int p3), (0, .ref (X.1 + 278)), (1, .int p1), (2, .int p2)]) hK dX6_share_173 (by decide) rfl (fun z308 => ?_)
            refine J_iinc (lw := [(6, .int z308), (5, .int z303), (4, .int p4), (3, .int p3), (0, .ref (X.1 + 278)), (1, .int p1), (2, .int p2)]) hK dX6_share_175 2 rfl (by decide) ci_1 rfl (fun z309 => ?_)
            refine J_goto (len := 0) (tgt := 103) hK dX6_share_178 (by decide) ?_
            exact J_sub [0, 1, 2, 3, 4, 5, 6, 7] rfl (ih _ _ _ _)
        · refine J_iconst hK dX6_share_171 ci_0 ?_
          refine J_iadd hK dX6_share_172 ?_
          refine J_istoreV (lw := [(5, .int z303), (7, .int x7), (4, .int p4), (3, .int p3), (0, .ref (X.1 + 278)), (1, .int p1), (2, .int p2)]) hK dX6_share_173 (by decide) rfl (fun z310 => ?_)
          refine J_iinc (lw := [(6, .int z310), (5, .int z303), (4, .int p4), (3, .int p3), (0, .ref (X.1 + 278)), (1, .int p1), (2, .int p2)]) hK dX6_share_175 2 rfl (by decide) ci_1 rfl (fun z311 => ?_)
          refine J_goto (len := 0) (tgt := 103) hK dX6_share_178 (by decide) ?_
          exact J_sub [0, 1, 2, 3, 4, 5, 6, 7] rfl (ih _ _ _ _)
      · refine J_iload_n hK dX6_share_125 7 rfl ?_
        refine J_aload_n hK dX6_share_126 5 rfl ?_
        refine rF_X6_25 (q2 := 284) hK dX6_share_127 kd_278 rfl ?_
        refine J_iconst hK dX6_share_130 ci_5 ?_
        refine J_iconst hK dX6_share_131 ci_5 ?_
        refine J_iload hK dX6_share_132 0 rfl ?_
        refine J_imul hK dX6_share_134 ?_
        refine J_iadd hK dX6_share_135 ?_
        refine J_iconst hK dX6_share_136 ci_1 ?_
        refine J_iadd hK dX6_share_137 ?_
        refine J_iald hK dX6_share_138 kd_284 (fun _ => ?_)
        refine J_imul hK dX6_share_139 ?_
        refine J_iload hK dX6_share_140 3 rfl ?_
        refine J_idiv hK dX6_share_142 ?_
        refine J_goto (len := 0) (tgt := 147) hK dX6_share_143 (by decide) ?_
        refine J_isub hK dX6_share_147 ?_
        refine J_istoreV (lw := [(7, .int x7), (6, .int x6), (4, .int p4), (3, .int p3), (0, .ref (X.1 + 278)), (1, .int p1), (2, .int p2)]) hK dX6_share_148 (by decide) rfl (fun z312 => ?_)
        refine J_iload hK dX6_share_150 2 rfl ?_
        refine J_iload hK dX6_share_152 1 rfl ?_
        refine J_iload_n hK dX6_share_154 6 rfl ?_
        refine J_icmp_ge (tgt := 171) hK dX6_share_155 (by decide) ?_ ?_
        · refine J_iload_n hK dX6_share_158 4 rfl ?_
          refine J_iload hK dX6_share_159 1 rfl ?_
          refine J_callSi (As := [.int p3, .int x7]) (st := [.int x6]) hK dX6_share_161 kB_X6_200 kS_X6_has (by decide) rfl rfl (Nat.le_of_ble_eq_true rfl) (fun _ _ hf => uX6_has  hf) (fun v314 h313 => ?_)
          refine J_if_eq (tgt := 171) hK dX6_share_164 (by decide) ?_ ?_
          · refine J_iconst hK dX6_share_171 ci_0 ?_
            refine J_iadd hK dX6_share_172 ?_
            refine J_istoreV (lw := [(5, .int z312), (7, .int x7), (4, .int p4), (3, .int p3), (0, .ref (X.1 + 278)), (1, .int p1), (2, .int p2)]) hK dX6_share_173 (by decide) rfl (fun z315 => ?_)
            refine J_iinc (lw := [(6, .int z315), (5, .int z312), (4, .int p4), (3, .int p3), (0, .ref (X.1 + 278)), (1, .int p1), (2, .int p2)]) hK dX6_share_175 2 rfl (by decide) ci_1 rfl (fun z316 => ?_)
            refine J_goto (len := 0) (tgt := 103) hK dX6_share_178 (by decide) ?_
            exact J_sub [0, 1, 2, 3, 4, 5, 6, 7] rfl (ih _ _ _ _)
          · refine J_iconst hK dX6_share_167 ci_1 ?_
            refine J_goto (len := 0) (tgt := 172) hK dX6_share_168 (by decide) ?_
            refine J_iadd hK dX6_share_172 ?_
            refine J_istoreV (lw := [(5, .int z312), (7, .int x7), (4, .int p4), (3, .int p3), (0, .ref (X.1 + 278)), (1, .int p1), (2, .int p2)]) hK dX6_share_173 (by decide) rfl (fun z317 => ?_)
            refine J_iinc (lw := [(6, .int z317), (5, .int z312), (4, .int p4), (3, .int p3), (0, .ref (X.1 + 278)), (1, .int p1), (2, .int p2)]) hK dX6_share_175 2 rfl (by decide) ci_1 rfl (fun z318 => ?_)
            refine J_goto (len := 0) (tgt := 103) hK dX6_share_178 (by decide) ?_
            exact J_sub [0, 1, 2, 3, 4, 5, 6, 7] rfl (ih _ _ _ _)
        · refine J_iconst hK dX6_share_171 ci_0 ?_
          refine J_iadd hK dX6_share_172 ?_
          refine J_istoreV (lw := [(5, .int z312), (7, .int x7), (4, .int p4), (3, .int p3), (0, .ref (X.1 + 278)), (1, .int p1), (2, .int p2)]) hK dX6_share_173 (by decide) rfl (fun z319 => ?_)
          refine J_iinc (lw := [(6, .int z319), (5, .int z312), (4, .int p4), (3, .int p3), (0, .ref (X.1 + 278)), (1, .int p1), (2, .int p2)]) hK dX6_share_175 2 rfl (by decide) ci_1 rfl (fun z320 => ?_)
          refine J_goto (len := 0) (tgt := 103) hK dX6_share_178 (by decide) ?_
          exact J_sub [0, 1, 2, 3, 4, 5, 6, 7] rfl (ih _ _ _ _)
    · exact J_sub [0, 1, 2, 3, 4, 5, 6, 7] rfl (hk _ _ _ _)
set_option maxHeartbeats 4000000 in
set_option maxRecDepth 4000 in
theorem uX6_share {l : Launch} {X : WX} {a1 : Int32} {a2 : Int32} {h h' : AH} {v : Int32} (hf : fX6_share a1 a2 h = some (v, h')) : Does l X 3 yX6_share cX6_share 8 (some .int) [.ref (X.1 + 278), .int a1, .int a2] h (eI v) h' := by
  refine Does.of (enc := eI) (o := fX6_share a1 a2 h) (lv := [(0, .ref (X.1 + 278)), (1, .int a1), (2, .int a2)]) (by decide) (Nat.le_of_ble_eq_true rfl) rfl hf (fun K hl hK => ?_)
  subst hl
  unfold fX6_share
  refine J_aload_n hK dX6_share_0 0 rfl ?_
  refine J_iload_n hK dX6_share_1 1 rfl ?_
  refine J_callVi (q := 278) (As := [.int a1]) (st := []) hK dX6_share_2 kB_X6_178 kV_X6_isTug kd_278 (by decide) rfl rfl (by decide) rfl rfl (Nat.le_of_ble_eq_true rfl) (fun _ _ hf => uX6_isTug  hf) (fun v2 h1 => ?_)
  refine J_if_eq (tgt := 19) hK dX6_share_5 (by decide) ?_ ?_
  · refine J_ldc hK dX6_share_19 kK_X6_61 ?_
    exact J_iret hK dX6_share_21
  · refine J_iload_n hK dX6_share_8 2 rfl ?_
    refine J_iconst hK dX6_share_9 ci_0 ?_
    refine J_sipush hK dX6_share_10 cs_999 ?_
    refine J_callSi (As := [.int a2, .int (0 : Int32), .int (999 : Int32)]) (st := []) hK dX6_share_13 kB_X6_53 kS_X6_in (by decide) rfl rfl (Nat.le_of_ble_eq_true rfl) (fun _ _ hf => uX6_in  hf) (fun v4 h3 => ?_)
    refine J_if_ne (tgt := 22) hK dX6_share_16 (by decide) ?_ ?_
    · refine J_ldc hK dX6_share_19 kK_X6_61 ?_
      exact J_iret hK dX6_share_21
    · refine J_aload_n hK dX6_share_22 0 rfl ?_
      refine rF_X6_25 (q2 := 284) hK dX6_share_23 kd_278 rfl ?_
      refine J_callSi (As := [.ref (X.1 + 284)]) (st := []) hK dX6_share_26 kB_X6_181 kS_X6_holding (by decide) rfl rfl (Nat.le_of_ble_eq_true rfl) (fun _ _ hf => uX6_holding kd_284 hf) (fun v6 h5 => ?_)
      refine J_istore_n (n := 3) (lw := [(0, .ref (X.1 + 278)), (1, .int a1), (2, .int a2)]) hK dX6_share_29 rfl (by decide) rfl ?_
      refine J_iload_n hK dX6_share_30 0 rfl ?_
      refine J_iload_n hK dX6_share_31 2 rfl ?_
      refine J_callSi (As := [.int v6, .int a1]) (st := []) hK dX6_share_32 kB_X6_200 kS_X6_has (by decide) rfl rfl (Nat.le_of_ble_eq_true rfl) (fun _ _ hf => uX6_has  hf) (fun v8 h7 => ?_)
      refine J_if_ne (tgt := 40) hK dX6_share_35 (by decide) ?_ ?_
      · refine J_iconst hK dX6_share_38 ci_0 ?_
        exact J_iret hK dX6_share_39
      · refine J_iconst hK dX6_share_40 ci_0 ?_
        refine J_istore (lw := [(3, .int v6), (0, .ref (X.1 + 278)), (1, .int a1), (2, .int a2)]) hK dX6_share_41 (by decide) rfl ?_
        refine J_iconst hK dX6_share_43 ci_0 ?_
        refine J_istore (lw := [(4, .int (0 : Int32)), (3, .int v6), (0, .ref (X.1 + 278)), (1, .int a1), (2, .int a2)]) hK dX6_share_44 (by decide) rfl ?_
        refine J_sub [0, 1, 2, 3, 4, 5] rfl (gX6_share_L46 hK  (fun z9 z10 h11 => ?_) FU _ _ _)
        refine J_iload_n hK dX6_share_94 5 rfl ?_
        refine J_istore (lw := [(4, .int z10), (3, .int v6), (0, .ref (X.1 + 278)), (1, .int a1), (2, .int a2)]) hK dX6_share_95 (by decide) rfl ?_
        refine J_iconst hK dX6_share_97 ci_0 ?_
        refine J_istore (lw := [(5, .int a2), (4, .int z10), (3, .int v6), (0, .ref (X.1 + 278)), (1, .int a1), (2, .int a2)]) hK dX6_share_98 (by decide) rfl ?_
        refine J_iconst hK dX6_share_100 ci_0 ?_
        refine J_istore (lw := [(6, .int (0 : Int32)), (5, .int a2), (4, .int z10), (3, .int v6), (0, .ref (X.1 + 278)), (1, .int a1), (2, .int a2)]) hK dX6_share_101 (by decide) rfl ?_
        refine J_sub [0, 1, 2, 3, 4, 5, 6, 7] rfl (gX6_share_L103 hK  (fun z12 z13 z14 h15 => ?_) FU _ _ _ _)
        refine J_iload_n hK dX6_share_181 7 rfl ?_
        refine J_aload_n hK dX6_share_182 5 rfl ?_
        refine rF_X6_25 (q2 := 284) hK dX6_share_183 kd_278 rfl ?_
        refine J_iconst hK dX6_share_186 ci_5 ?_
        refine J_iconst hK dX6_share_187 ci_5 ?_
        refine J_iload_n hK dX6_share_188 6 rfl ?_
        refine J_imul hK dX6_share_189 ?_
        refine J_iadd hK dX6_share_190 ?_
        refine J_iconst hK dX6_share_191 ci_1 ?_
        refine J_iadd hK dX6_share_192 ?_
        refine J_iald hK dX6_share_193 kd_284 (fun _ => ?_)
        refine J_imul hK dX6_share_194 ?_
        refine J_iload hK dX6_share_195 3 rfl ?_
        refine J_idiv hK dX6_share_197 ?_
        refine J_iload hK dX6_share_198 1 rfl ?_
        refine J_iload hK dX6_share_200 2 rfl ?_
        refine J_icmp_ge (tgt := 209) hK dX6_share_202 (by decide) ?_ ?_
        · refine J_iconst hK dX6_share_205 ci_1 ?_
          refine J_goto (len := 0) (tgt := 210) hK dX6_share_206 (by decide) ?_
          refine J_iadd hK dX6_share_210 ?_
          exact J_iret hK dX6_share_211
        · refine J_iconst hK dX6_share_209 ci_0 ?_
          refine J_iadd hK dX6_share_210 ?_
          exact J_iret hK dX6_share_211
-- X6_takes
theorem dX6_takes_0 : DD cX6_takes 0 (.aload_n 0) 1 1 := by decide +kernel
theorem dX6_takes_1 : DD cX6_takes 1 (.invokevirtual 101) 3 4 := by decide +kernel
theorem dX6_takes_4 : DD cX6_takes 4 (.ifCond .ne 5) 3 7 := by decide +kernel
theorem dX6_takes_7 : DD cX6_takes 7 (.iconst 0) 1 8 := by decide +kernel
theorem dX6_takes_8 : DD cX6_takes 8 (.ireturn) 1 9 := by decide +kernel
theorem dX6_takes_9 : DD cX6_takes 9 (.iload_n 1) 1 10 := by decide +kernel
theorem dX6_takes_10 : DD cX6_takes 10 (.ifCond .ne 18) 3 13 := by decide +kernel
theorem dX6_takes_13 : DD cX6_takes 13 (.aload_n 0) 1 14 := by decide +kernel
theorem dX6_takes_14 : DD cX6_takes 14 (.aload_n 0) 1 15 := by decide +kernel
theorem dX6_takes_15 : DD cX6_takes 15 (.getfield 86) 3 18 := by decide +kernel
theorem dX6_takes_18 : DD cX6_takes 18 (.putfield 98) 3 21 := by decide +kernel
theorem dX6_takes_21 : DD cX6_takes 21 (.aload_n 0) 1 22 := by decide +kernel
theorem dX6_takes_22 : DD cX6_takes 22 (.iload_n 2) 1 23 := by decide +kernel
theorem dX6_takes_23 : DD cX6_takes 23 (.putfield 105) 3 26 := by decide +kernel
theorem dX6_takes_26 : DD cX6_takes 26 (.iconst 0) 1 27 := by decide +kernel
theorem dX6_takes_27 : DD cX6_takes 27 (.ireturn) 1 28 := by decide +kernel
theorem dX6_takes_28 : DD cX6_takes 28 (.aload_n 0) 1 29 := by decide +kernel
theorem dX6_takes_29 : DD cX6_takes 29 (.getfield 92) 3 32 := by decide +kernel
theorem dX6_takes_32 : DD cX6_takes 32 (.istore_n 3) 1 33 := by decide +kernel
theorem dX6_takes_33 : DD cX6_takes 33 (.aload_n 0) 1 34 := by decide +kernel
theorem dX6_takes_34 : DD cX6_takes 34 (.invokevirtual 108) 3 37 := by decide +kernel
theorem dX6_takes_37 : DD cX6_takes 37 (.iload_n 3) 1 38 := by decide +kernel
theorem dX6_takes_38 : DD cX6_takes 38 (.ireturn) 1 39 := by decide +kernel
def fX6_takes (a1 : Int32) (a2 : Int32) (h : AH) : Option (Int32 × AH) := (bnd (fX6_isWell  h) fun v2 h1 => (if v2 = 0 then (some ((0 : Int32), h1)) else (if a1 = 0 then (sto (hs h1 278 8 (h1 278 10)) fun h3 => (sto (hs h3 278 7 a2) fun h4 => (some ((0 : Int32), h4)))) else (vl (h1 278 12) fun z5 => (bnd (fX6_advances  h1) fun _ h6 => (some (z5, h6)))))))
set_option maxHeartbeats 4000000 in
set_option maxRecDepth 4000 in
theorem uX6_takes {l : Launch} {X : WX} {a1 : Int32} {a2 : Int32} {h h' : AH} {v : Int32} (hf : fX6_takes a1 a2 h = some (v, h')) : Does l X 3 yX6_takes cX6_takes 4 (some .int) [.ref (X.1 + 278), .int a1, .int a2] h (eI v) h' := by
  refine Does.of (enc := eI) (o := fX6_takes a1 a2 h) (lv := [(0, .ref (X.1 + 278)), (1, .int a1), (2, .int a2)]) (by decide) (Nat.le_of_ble_eq_true rfl) rfl hf (fun K hl hK => ?_)
  subst hl
  unfold fX6_takes
  refine J_aload_n hK dX6_takes_0 0 rfl ?_
  refine J_callVi (q := 278) (As := []) (st := []) hK dX6_takes_1 kB_X6_101 kV_X6_isWell kd_278 (by decide) rfl rfl (by decide) rfl rfl (Nat.le_of_ble_eq_true rfl) (fun _ _ hf => uX6_isWell  hf) (fun v2 h1 => ?_)
  refine J_if_ne (tgt := 9) hK dX6_takes_4 (by decide) ?_ ?_
  · refine J_iconst hK dX6_takes_7 ci_0 ?_
    exact J_iret hK dX6_takes_8
  · refine J_iload_n hK dX6_takes_9 1 rfl ?_
    refine J_if_ne (tgt := 28) hK dX6_takes_10 (by decide) ?_ ?_
    · refine J_aload_n hK dX6_takes_13 0 rfl ?_
      refine J_aload_n hK dX6_takes_14 0 rfl ?_
      refine gF_X6_86 hK dX6_takes_15 kd_278 ?_
      refine pF_X6_98 hK dX6_takes_18 kd_278 (fun h3 => ?_)
      refine J_aload_n hK dX6_takes_21 0 rfl ?_
      refine J_iload_n hK dX6_takes_22 2 rfl ?_
      refine pF_X6_105 hK dX6_takes_23 kd_278 (fun h4 => ?_)
      refine J_iconst hK dX6_takes_26 ci_0 ?_
      exact J_iret hK dX6_takes_27
    · refine J_aload_n hK dX6_takes_28 0 rfl ?_
      refine gF_X6_92 hK dX6_takes_29 kd_278 ?_
      refine J_istoreV_n (n := 3) (lw := [(0, .ref (X.1 + 278)), (1, .int a1), (2, .int a2)]) hK dX6_takes_32 rfl (by decide) rfl (fun z5 => ?_)
      refine J_aload_n hK dX6_takes_33 1 rfl ?_
      refine J_callVv (q := 278) (As := []) (st := []) hK dX6_takes_34 kB_X6_108 kV_X6_advances kd_278 (by decide) rfl rfl (by decide) rfl rfl (Nat.le_of_ble_eq_true rfl) (fun _ _ hf => uX6_advances  hf) (fun _ h6 => ?_)
      refine J_iload_n hK dX6_takes_37 0 rfl ?_
      exact J_iret hK dX6_takes_38
-- X6_tug
theorem dX6_tug_0 : DD cX6_tug 0 (.aload_n 0) 1 1 := by decide +kernel
theorem dX6_tug_1 : DD cX6_tug 1 (.iload_n 1) 1 2 := by decide +kernel
theorem dX6_tug_2 : DD cX6_tug 2 (.invokevirtual 178) 3 5 := by decide +kernel
theorem dX6_tug_5 : DD cX6_tug 5 (.ifCond .ne 6) 3 8 := by decide +kernel
theorem dX6_tug_8 : DD cX6_tug 8 (.ldc 61) 2 10 := by decide +kernel
theorem dX6_tug_10 : DD cX6_tug 10 (.ireturn) 1 11 := by decide +kernel
theorem dX6_tug_11 : DD cX6_tug 11 (.iload_n 2) 1 12 := by decide +kernel
theorem dX6_tug_12 : DD cX6_tug 12 (.tableswitch 97 0 4 #[36, 49, 62, 75, 88]) 36 48 := by decide +kernel
theorem dX6_tug_48 : DD cX6_tug 48 (.aload_n 0) 1 49 := by decide +kernel
theorem dX6_tug_49 : DD cX6_tug 49 (.getfield 25) 3 52 := by decide +kernel
theorem dX6_tug_52 : DD cX6_tug 52 (.iconst 5) 1 53 := by decide +kernel
theorem dX6_tug_53 : DD cX6_tug 53 (.iconst 5) 1 54 := by decide +kernel
theorem dX6_tug_54 : DD cX6_tug 54 (.iload_n 1) 1 55 := by decide +kernel
theorem dX6_tug_55 : DD cX6_tug 55 (.imul) 1 56 := by decide +kernel
theorem dX6_tug_56 : DD cX6_tug 56 (.iadd) 1 57 := by decide +kernel
theorem dX6_tug_57 : DD cX6_tug 57 (.iconst 1) 1 58 := by decide +kernel
theorem dX6_tug_58 : DD cX6_tug 58 (.iadd) 1 59 := by decide +kernel
theorem dX6_tug_59 : DD cX6_tug 59 (.iaload) 1 60 := by decide +kernel
theorem dX6_tug_60 : DD cX6_tug 60 (.ireturn) 1 61 := by decide +kernel
theorem dX6_tug_61 : DD cX6_tug 61 (.aload_n 0) 1 62 := by decide +kernel
theorem dX6_tug_62 : DD cX6_tug 62 (.getfield 25) 3 65 := by decide +kernel
theorem dX6_tug_65 : DD cX6_tug 65 (.iconst 5) 1 66 := by decide +kernel
theorem dX6_tug_66 : DD cX6_tug 66 (.iconst 5) 1 67 := by decide +kernel
theorem dX6_tug_67 : DD cX6_tug 67 (.iload_n 1) 1 68 := by decide +kernel
theorem dX6_tug_68 : DD cX6_tug 68 (.imul) 1 69 := by decide +kernel
theorem dX6_tug_69 : DD cX6_tug 69 (.iadd) 1 70 := by decide +kernel
theorem dX6_tug_70 : DD cX6_tug 70 (.iconst 2) 1 71 := by decide +kernel
theorem dX6_tug_71 : DD cX6_tug 71 (.iadd) 1 72 := by decide +kernel
theorem dX6_tug_72 : DD cX6_tug 72 (.iaload) 1 73 := by decide +kernel
theorem dX6_tug_73 : DD cX6_tug 73 (.ireturn) 1 74 := by decide +kernel
theorem dX6_tug_74 : DD cX6_tug 74 (.aload_n 0) 1 75 := by decide +kernel
theorem dX6_tug_75 : DD cX6_tug 75 (.getfield 25) 3 78 := by decide +kernel
theorem dX6_tug_78 : DD cX6_tug 78 (.iconst 5) 1 79 := by decide +kernel
theorem dX6_tug_79 : DD cX6_tug 79 (.iconst 5) 1 80 := by decide +kernel
theorem dX6_tug_80 : DD cX6_tug 80 (.iload_n 1) 1 81 := by decide +kernel
theorem dX6_tug_81 : DD cX6_tug 81 (.imul) 1 82 := by decide +kernel
theorem dX6_tug_82 : DD cX6_tug 82 (.iadd) 1 83 := by decide +kernel
theorem dX6_tug_83 : DD cX6_tug 83 (.iconst 3) 1 84 := by decide +kernel
theorem dX6_tug_84 : DD cX6_tug 84 (.iadd) 1 85 := by decide +kernel
theorem dX6_tug_85 : DD cX6_tug 85 (.iaload) 1 86 := by decide +kernel
theorem dX6_tug_86 : DD cX6_tug 86 (.ireturn) 1 87 := by decide +kernel
theorem dX6_tug_87 : DD cX6_tug 87 (.aload_n 0) 1 88 := by decide +kernel
theorem dX6_tug_88 : DD cX6_tug 88 (.getfield 25) 3 91 := by decide +kernel
theorem dX6_tug_91 : DD cX6_tug 91 (.iconst 5) 1 92 := by decide +kernel
theorem dX6_tug_92 : DD cX6_tug 92 (.iconst 5) 1 93 := by decide +kernel
theorem dX6_tug_93 : DD cX6_tug 93 (.iload_n 1) 1 94 := by decide +kernel
theorem dX6_tug_94 : DD cX6_tug 94 (.imul) 1 95 := by decide +kernel
theorem dX6_tug_95 : DD cX6_tug 95 (.iadd) 1 96 := by decide +kernel
theorem dX6_tug_96 : DD cX6_tug 96 (.iconst 4) 1 97 := by decide +kernel
theorem dX6_tug_97 : DD cX6_tug 97 (.iadd) 1 98 := by decide +kernel
theorem dX6_tug_98 : DD cX6_tug 98 (.iaload) 1 99 := by decide +kernel
theorem dX6_tug_99 : DD cX6_tug 99 (.ireturn) 1 100 := by decide +kernel
theorem dX6_tug_100 : DD cX6_tug 100 (.aload_n 0) 1 101 := by decide +kernel
theorem dX6_tug_101 : DD cX6_tug 101 (.getfield 25) 3 104 := by decide +kernel
theorem dX6_tug_104 : DD cX6_tug 104 (.iload_n 1) 1 105 := by decide +kernel
theorem dX6_tug_105 : DD cX6_tug 105 (.invokestatic 142) 3 108 := by decide +kernel
theorem dX6_tug_108 : DD cX6_tug 108 (.ireturn) 1 109 := by decide +kernel
theorem dX6_tug_109 : DD cX6_tug 109 (.ldc 61) 2 111 := by decide +kernel
theorem dX6_tug_111 : DD cX6_tug 111 (.ireturn) 1 112 := by decide +kernel
def fX6_tug (a1 : Int32) (a2 : Int32) (h : AH) : Option (Int32 × AH) := (bnd (fX6_isTug a1 h) fun v2 h1 => (if v2 = 0 then (some ((-1000001 : Int32), h1)) else (if a2 = (0 : Int32) then (chk (inb (((5 : Int32) + ((5 : Int32) * a1)) + (1 : Int32)) (ln 284)) (some ((h1 284 (Int32.toNatClampNeg (((5 : Int32) + ((5 : Int32) * a1)) + (1 : Int32)))), h1))) else (if a2 = (1 : Int32) then (chk (inb (((5 : Int32) + ((5 : Int32) * a1)) + (2 : Int32)) (ln 284)) (some ((h1 284 (Int32.toNatClampNeg (((5 : Int32) + ((5 : Int32) * a1)) + (2 : Int32)))), h1))) else (if a2 = (2 : Int32) then (chk (inb (((5 : Int32) + ((5 : Int32) * a1)) + (3 : Int32)) (ln 284)) (some ((h1 284 (Int32.toNatClampNeg (((5 : Int32) + ((5 : Int32) * a1)) + (3 : Int32)))), h1))) else (if a2 = (3 : Int32) then (chk (inb (((5 : Int32) + ((5 : Int32) * a1)) + (4 : Int32)) (ln 284)) (some ((h1 284 (Int32.toNatClampNeg (((5 : Int32) + ((5 : Int32) * a1)) + (4 : Int32)))), h1))) else (if a2 = (4 : Int32) then (bnd (fX6_draws 284 a1 h1) fun v8 h7 => (some (v8, h7))) else (some ((-1000001 : Int32), h1)))))))))
set_option maxHeartbeats 4000000 in
set_option maxRecDepth 4000 in
theorem uX6_tug {l : Launch} {X : WX} {a1 : Int32} {a2 : Int32} {h h' : AH} {v : Int32} (hf : fX6_tug a1 a2 h = some (v, h')) : Does l X 3 yX6_tug cX6_tug 3 (some .int) [.ref (X.1 + 278), .int a1, .int a2] h (eI v) h' := by
  refine Does.of (enc := eI) (o := fX6_tug a1 a2 h) (lv := [(0, .ref (X.1 + 278)), (1, .int a1), (2, .int a2)]) (by decide) (Nat.le_of_ble_eq_true rfl) rfl hf (fun K hl hK => ?_)
  subst hl
  unfold fX6_tug
  refine J_aload_n hK dX6_tug_0 0 rfl ?_
  refine J_iload_n hK dX6_tug_1 1 rfl ?_
  refine J_callVi (q := 278) (As := [.int a1]) (st := []) hK dX6_tug_2 kB_X6_178 kV_X6_isTug kd_278 (by decide) rfl rfl (by decide) rfl rfl (Nat.le_of_ble_eq_true rfl) (fun _ _ hf => uX6_isTug  hf) (fun v2 h1 => ?_)
  refine J_if_ne (tgt := 11) hK dX6_tug_5 (by decide) ?_ ?_
  · refine J_ldc hK dX6_tug_8 kK_X6_61 ?_
    exact J_iret hK dX6_tug_10
  · refine J_iload_n hK dX6_tug_11 2 rfl ?_
    refine J_split (c := a2 = (0 : Int32)) (fun e3 => ?_) (fun e3 => ?_)
    · refine J_tableIn (v := 0) (off := 36) (tgt := 48) hK dX6_tug_12 e3 (by decide) ?_
      refine J_aload_n hK dX6_tug_48 0 rfl ?_
      refine rF_X6_25 (q2 := 284) hK dX6_tug_49 kd_278 rfl ?_
      refine J_iconst hK dX6_tug_52 ci_5 ?_
      refine J_iconst hK dX6_tug_53 ci_5 ?_
      refine J_iload_n hK dX6_tug_54 1 rfl ?_
      refine J_imul hK dX6_tug_55 ?_
      refine J_iadd hK dX6_tug_56 ?_
      refine J_iconst hK dX6_tug_57 ci_1 ?_
      refine J_iadd hK dX6_tug_58 ?_
      refine J_iald hK dX6_tug_59 kd_284 (fun _ => ?_)
      exact J_iret hK dX6_tug_60
    refine J_split (c := a2 = (1 : Int32)) (fun e4 => ?_) (fun e4 => ?_)
    · refine J_tableIn (v := 1) (off := 49) (tgt := 61) hK dX6_tug_12 e4 (by decide) ?_
      refine J_aload_n hK dX6_tug_61 0 rfl ?_
      refine rF_X6_25 (q2 := 284) hK dX6_tug_62 kd_278 rfl ?_
      refine J_iconst hK dX6_tug_65 ci_5 ?_
      refine J_iconst hK dX6_tug_66 ci_5 ?_
      refine J_iload_n hK dX6_tug_67 1 rfl ?_
      refine J_imul hK dX6_tug_68 ?_
      refine J_iadd hK dX6_tug_69 ?_
      refine J_iconst hK dX6_tug_70 ci_2 ?_
      refine J_iadd hK dX6_tug_71 ?_
      refine J_iald hK dX6_tug_72 kd_284 (fun _ => ?_)
      exact J_iret hK dX6_tug_73
    refine J_split (c := a2 = (2 : Int32)) (fun e5 => ?_) (fun e5 => ?_)
    · refine J_tableIn (v := 2) (off := 62) (tgt := 74) hK dX6_tug_12 e5 (by decide) ?_
      refine J_aload_n hK dX6_tug_74 0 rfl ?_
      refine rF_X6_25 (q2 := 284) hK dX6_tug_75 kd_278 rfl ?_
      refine J_iconst hK dX6_tug_78 ci_5 ?_
      refine J_iconst hK dX6_tug_79 ci_5 ?_
      refine J_iload_n hK dX6_tug_80 1 rfl ?_
      refine J_imul hK dX6_tug_81 ?_
      refine J_iadd hK dX6_tug_82 ?_
      refine J_iconst hK dX6_tug_83 ci_3 ?_
      refine J_iadd hK dX6_tug_84 ?_
      refine J_iald hK dX6_tug_85 kd_284 (fun _ => ?_)
      exact J_iret hK dX6_tug_86
    refine J_split (c := a2 = (3 : Int32)) (fun e6 => ?_) (fun e6 => ?_)
    · refine J_tableIn (v := 3) (off := 75) (tgt := 87) hK dX6_tug_12 e6 (by decide) ?_
      refine J_aload_n hK dX6_tug_87 0 rfl ?_
      refine rF_X6_25 (q2 := 284) hK dX6_tug_88 kd_278 rfl ?_
      refine J_iconst hK dX6_tug_91 ci_5 ?_
      refine J_iconst hK dX6_tug_92 ci_5 ?_
      refine J_iload_n hK dX6_tug_93 1 rfl ?_
      refine J_imul hK dX6_tug_94 ?_
      refine J_iadd hK dX6_tug_95 ?_
      refine J_iconst hK dX6_tug_96 ci_4 ?_
      refine J_iadd hK dX6_tug_97 ?_
      refine J_iald hK dX6_tug_98 kd_284 (fun _ => ?_)
      exact J_iret hK dX6_tug_99
    refine J_split (c := a2 = (4 : Int32)) (fun e9 => ?_) (fun e9 => ?_)
    · refine J_tableIn (v := 4) (off := 88) (tgt := 100) hK dX6_tug_12 e9 (by decide) ?_
      refine J_aload_n hK dX6_tug_100 0 rfl ?_
      refine rF_X6_25 (q2 := 284) hK dX6_tug_101 kd_278 rfl ?_
      refine J_iload_n hK dX6_tug_104 1 rfl ?_
      refine J_callSi (As := [.ref (X.1 + 284), .int a1]) (st := []) hK dX6_tug_105 kB_X6_142 kS_X6_draws (by decide) rfl rfl (Nat.le_of_ble_eq_true rfl) (fun _ _ hf => uX6_draws kd_284 hf) (fun v8 h7 => ?_)
      exact J_iret hK dX6_tug_108
    refine J_tableOut (tgt := 109) hK dX6_tug_12 (tbl_out [0, 1, 2, 3, 4] (by decide) (nl1 e3 (nl1 e4 (nl1 e5 (nl1 e6 (nl1 e9 nl0)))))) (by decide) ?_
    refine J_ldc hK dX6_tug_109 kK_X6_61 ?_
    exact J_iret hK dX6_tug_111
-- X6_arrives
theorem dX6_arrives_0 : DD cX6_arrives 0 (.aload_n 0) 1 1 := by decide +kernel
theorem dX6_arrives_1 : DD cX6_arrives 1 (.invokevirtual 167) 3 4 := by decide +kernel
theorem dX6_arrives_4 : DD cX6_arrives 4 (.ifCond .ne 6) 3 7 := by decide +kernel
theorem dX6_arrives_7 : DD cX6_arrives 7 (.ldc 170) 2 9 := by decide +kernel
theorem dX6_arrives_9 : DD cX6_arrives 9 (.ireturn) 1 10 := by decide +kernel
theorem dX6_arrives_10 : DD cX6_arrives 10 (.aload_n 0) 1 11 := by decide +kernel
theorem dX6_arrives_11 : DD cX6_arrives 11 (.getfield 25) 3 14 := by decide +kernel
theorem dX6_arrives_14 : DD cX6_arrives 14 (.iconst 0) 1 15 := by decide +kernel
theorem dX6_arrives_15 : DD cX6_arrives 15 (.aload_n 0) 1 16 := by decide +kernel
theorem dX6_arrives_16 : DD cX6_arrives 16 (.getfield 31) 3 19 := by decide +kernel
theorem dX6_arrives_19 : DD cX6_arrives 19 (.iconst 0) 1 20 := by decide +kernel
theorem dX6_arrives_20 : DD cX6_arrives 20 (.invokestatic 135) 3 23 := by decide +kernel
theorem dX6_arrives_23 : DD cX6_arrives 23 (.iconst 0) 1 24 := by decide +kernel
theorem dX6_arrives_24 : DD cX6_arrives 24 (.istore_n 1) 1 25 := by decide +kernel
theorem dX6_arrives_25 : DD cX6_arrives 25 (.iload_n 1) 1 26 := by decide +kernel
theorem dX6_arrives_26 : DD cX6_arrives 26 (.bipush 61) 2 28 := by decide +kernel
theorem dX6_arrives_28 : DD cX6_arrives 28 (.if_icmp .ge 28) 3 31 := by decide +kernel
theorem dX6_arrives_31 : DD cX6_arrives 31 (.aload_n 0) 1 32 := by decide +kernel
theorem dX6_arrives_32 : DD cX6_arrives 32 (.getfield 31) 3 35 := by decide +kernel
theorem dX6_arrives_35 : DD cX6_arrives 35 (.iconst 1) 1 36 := by decide +kernel
theorem dX6_arrives_36 : DD cX6_arrives 36 (.iaload) 1 37 := by decide +kernel
theorem dX6_arrives_37 : DD cX6_arrives 37 (.ifCond .ne 5) 3 40 := by decide +kernel
theorem dX6_arrives_40 : DD cX6_arrives 40 (.iload_n 1) 1 41 := by decide +kernel
theorem dX6_arrives_41 : DD cX6_arrives 41 (.ireturn) 1 42 := by decide +kernel
theorem dX6_arrives_42 : DD cX6_arrives 42 (.aload_n 0) 1 43 := by decide +kernel
theorem dX6_arrives_43 : DD cX6_arrives 43 (.getfield 31) 3 46 := by decide +kernel
theorem dX6_arrives_46 : DD cX6_arrives 46 (.iconst 0) 1 47 := by decide +kernel
theorem dX6_arrives_47 : DD cX6_arrives 47 (.invokestatic 174) 3 50 := by decide +kernel
theorem dX6_arrives_50 : DD cX6_arrives 50 (.iinc 1 1) 3 53 := by decide +kernel
theorem dX6_arrives_53 : DD cX6_arrives 53 (.goto (-28)) 3 56 := by decide +kernel
theorem dX6_arrives_56 : DD cX6_arrives 56 (.ldc 47) 2 58 := by decide +kernel
theorem dX6_arrives_58 : DD cX6_arrives 58 (.ireturn) 1 59 := by decide +kernel
def fX6_arrives_L25 : Nat → Int32 → AH → (Int32 → AH → Option (Int32 × AH)) → Option (Int32 × AH)
  | 0, _, _, _ => none
  | n + 1, x1, h, k => (if x1 < (61 : Int32) then (chk (inb (1 : Int32) (ln 286)) (if (h 286 (Int32.toNatClampNeg (1 : Int32))) = 0 then (some (x1, h)) else (bnd (fX6_passes 286 (0 : Int32) h) fun _ h201 => (vl (x1 + (1 : Int32)) fun z202 => fX6_arrives_L25 n z202 h201 k)))) else k x1 h)
def fX6_arrives (h : AH) : Option (Int32 × AH) := (bnd (fX6_isEstuary  h) fun v2 h1 => (if v2 = 0 then (some ((-1000002 : Int32), h1)) else (bnd (fX6_copies 284 (0 : Int32) 286 (0 : Int32) h1) fun _ h3 => (fX6_arrives_L25  FU (0 : Int32) h3 fun z4 h5 => (some ((-1000000 : Int32), h5))))))
set_option maxHeartbeats 4000000 in
theorem gX6_arrives_L25 {K : MC} {X : WX} (hK : Ok K X RX6 cX6_arrives 2 (some .int) 4) {k : Int32 → AH → Option (Int32 × AH)} (hk : ∀ (x1 : Int32) (h : AH), J K X 2 (Zm K X) eI 56 [(1, .int x1), (0, .ref (X.1 + 278))] [] h (k x1 h)) : ∀ (n : Nat) (x1 : Int32) (h : AH), J K X 2 (Zm K X) eI 25 [(1, .int x1), (0, .ref (X.1 + 278))] [] h (fX6_arrives_L25  n x1 h k) := by
  intro n
  induction n with
  | zero => exact fun _ _ => J_none
  | succ n ih =>
    intro x1 h
    rw [fX6_arrives_L25]
    refine J_iload_n hK dX6_arrives_25 0 rfl ?_
    refine J_bipush hK dX6_arrives_26 cb_61 ?_
    refine J_icmp_ge (tgt := 56) hK dX6_arrives_28 (by decide) ?_ ?_
    · refine J_aload_n hK dX6_arrives_31 1 rfl ?_
      refine rF_X6_31 (q2 := 286) hK dX6_arrives_32 kd_278 rfl ?_
      refine J_iconst hK dX6_arrives_35 ci_1 ?_
      refine J_iald hK dX6_arrives_36 kd_286 (fun _ => ?_)
      refine J_if_ne (tgt := 42) hK dX6_arrives_37 (by decide) ?_ ?_
      · refine J_iload_n hK dX6_arrives_40 0 rfl ?_
        exact J_iret hK dX6_arrives_41
      · refine J_aload_n hK dX6_arrives_42 1 rfl ?_
        refine rF_X6_31 (q2 := 286) hK dX6_arrives_43 kd_278 rfl ?_
        refine J_iconst hK dX6_arrives_46 ci_0 ?_
        refine J_callSv (As := [.ref (X.1 + 286), .int (0 : Int32)]) (st := []) hK dX6_arrives_47 kB_X6_174 kS_X6_passes (by decide) rfl rfl (Nat.le_of_ble_eq_true rfl) (fun _ _ hf => uX6_passes kd_286 hf) (fun _ h201 => ?_)
        refine J_iinc (lw := [(0, .ref (X.1 + 278))]) hK dX6_arrives_50 0 rfl (by decide) ci_1 rfl (fun z202 => ?_)
        refine J_goto (len := 0) (tgt := 25) hK dX6_arrives_53 (by decide) ?_
        exact J_sub [0, 1] rfl (ih _ _)
    · exact J_sub [0, 1] rfl (hk _ _)
set_option maxHeartbeats 4000000 in
set_option maxRecDepth 4000 in
theorem uX6_arrives {l : Launch} {X : WX} {h h' : AH} {v : Int32} (hf : fX6_arrives  h = some (v, h')) : Does l X 4 yX6_arrives cX6_arrives 2 (some .int) [.ref (X.1 + 278)] h (eI v) h' := by
  refine Does.of (enc := eI) (o := fX6_arrives  h) (lv := [(0, .ref (X.1 + 278))]) (by decide) (Nat.le_of_ble_eq_true rfl) rfl hf (fun K hl hK => ?_)
  subst hl
  unfold fX6_arrives
  refine J_aload_n hK dX6_arrives_0 0 rfl ?_
  refine J_callVi (q := 278) (As := []) (st := []) hK dX6_arrives_1 kB_X6_167 kV_X6_isEstuary kd_278 (by decide) rfl rfl (by decide) rfl rfl (Nat.le_of_ble_eq_true rfl) (fun _ _ hf => uX6_isEstuary  hf) (fun v2 h1 => ?_)
  refine J_if_ne (tgt := 10) hK dX6_arrives_4 (by decide) ?_ ?_
  · refine J_ldc hK dX6_arrives_7 kK_X6_170 ?_
    exact J_iret hK dX6_arrives_9
  · refine J_aload_n hK dX6_arrives_10 0 rfl ?_
    refine rF_X6_25 (q2 := 284) hK dX6_arrives_11 kd_278 rfl ?_
    refine J_iconst hK dX6_arrives_14 ci_0 ?_
    refine J_aload_n hK dX6_arrives_15 0 rfl ?_
    refine rF_X6_31 (q2 := 286) hK dX6_arrives_16 kd_278 rfl ?_
    refine J_iconst hK dX6_arrives_19 ci_0 ?_
    refine J_callSv (As := [.ref (X.1 + 284), .int (0 : Int32), .ref (X.1 + 286), .int (0 : Int32)]) (st := []) hK dX6_arrives_20 kB_X6_135 kS_X6_copies (by decide) rfl rfl (Nat.le_of_ble_eq_true rfl) (fun _ _ hf => uX6_copies kd_284 kd_286 hf) (fun _ h3 => ?_)
    refine J_iconst hK dX6_arrives_23 ci_0 ?_
    refine J_istore_n (n := 1) (lw := [(0, .ref (X.1 + 278))]) hK dX6_arrives_24 rfl (by decide) rfl ?_
    refine J_sub [0, 1] rfl (gX6_arrives_L25 hK  (fun z4 h5 => ?_) FU _ _)
    refine J_ldc hK dX6_arrives_56 kK_X6_47 ?_
    exact J_iret hK dX6_arrives_58
-- X6_ask
theorem dX6_ask_0 : DD cX6_ask 0 (.aload_n 0) 1 1 := by decide +kernel
theorem dX6_ask_1 : DD cX6_ask 1 (.iload_n 1) 1 2 := by decide +kernel
theorem dX6_ask_2 : DD cX6_ask 2 (.invokevirtual 178) 3 5 := by decide +kernel
theorem dX6_ask_5 : DD cX6_ask 5 (.ifCond .eq 12) 3 8 := by decide +kernel
theorem dX6_ask_8 : DD cX6_ask 8 (.iload_n 2) 1 9 := by decide +kernel
theorem dX6_ask_9 : DD cX6_ask 9 (.iconst 0) 1 10 := by decide +kernel
theorem dX6_ask_10 : DD cX6_ask 10 (.iconst 1) 1 11 := by decide +kernel
theorem dX6_ask_11 : DD cX6_ask 11 (.invokestatic 53) 3 14 := by decide +kernel
theorem dX6_ask_14 : DD cX6_ask 14 (.ifCond .ne 6) 3 17 := by decide +kernel
theorem dX6_ask_17 : DD cX6_ask 17 (.ldc 61) 2 19 := by decide +kernel
theorem dX6_ask_19 : DD cX6_ask 19 (.ireturn) 1 20 := by decide +kernel
theorem dX6_ask_20 : DD cX6_ask 20 (.aload_n 0) 1 21 := by decide +kernel
theorem dX6_ask_21 : DD cX6_ask 21 (.iconst 0) 1 22 := by decide +kernel
theorem dX6_ask_22 : DD cX6_ask 22 (.putfield 220) 3 25 := by decide +kernel
theorem dX6_ask_25 : DD cX6_ask 25 (.aload_n 0) 1 26 := by decide +kernel
theorem dX6_ask_26 : DD cX6_ask 26 (.iload_n 1) 1 27 := by decide +kernel
theorem dX6_ask_27 : DD cX6_ask 27 (.invokevirtual 217) 3 30 := by decide +kernel
theorem dX6_ask_30 : DD cX6_ask 30 (.iconst 4) 1 31 := by decide +kernel
theorem dX6_ask_31 : DD cX6_ask 31 (.if_icmp .lt 7) 3 34 := by decide +kernel
theorem dX6_ask_34 : DD cX6_ask 34 (.iconst 1) 1 35 := by decide +kernel
theorem dX6_ask_35 : DD cX6_ask 35 (.goto 4) 3 38 := by decide +kernel
theorem dX6_ask_38 : DD cX6_ask 38 (.iconst 0) 1 39 := by decide +kernel
theorem dX6_ask_39 : DD cX6_ask 39 (.istore_n 3) 1 40 := by decide +kernel
theorem dX6_ask_40 : DD cX6_ask 40 (.iload_n 2) 1 41 := by decide +kernel
theorem dX6_ask_41 : DD cX6_ask 41 (.ifCond .ne 21) 3 44 := by decide +kernel
theorem dX6_ask_44 : DD cX6_ask 44 (.iload_n 3) 1 45 := by decide +kernel
theorem dX6_ask_45 : DD cX6_ask 45 (.ifCond .eq 11) 3 48 := by decide +kernel
theorem dX6_ask_48 : DD cX6_ask 48 (.aload_n 0) 1 49 := by decide +kernel
theorem dX6_ask_49 : DD cX6_ask 49 (.iload_n 1) 1 50 := by decide +kernel
theorem dX6_ask_50 : DD cX6_ask 50 (.invokevirtual 229) 3 53 := by decide +kernel
theorem dX6_ask_53 : DD cX6_ask 53 (.goto 8) 3 56 := by decide +kernel
theorem dX6_ask_56 : DD cX6_ask 56 (.aload_n 0) 1 57 := by decide +kernel
theorem dX6_ask_57 : DD cX6_ask 57 (.iload_n 1) 1 58 := by decide +kernel
theorem dX6_ask_58 : DD cX6_ask 58 (.invokevirtual 232) 3 61 := by decide +kernel
theorem dX6_ask_61 : DD cX6_ask 61 (.ireturn) 1 62 := by decide +kernel
theorem dX6_ask_62 : DD cX6_ask 62 (.iload_n 3) 1 63 := by decide +kernel
theorem dX6_ask_63 : DD cX6_ask 63 (.ifCond .eq 11) 3 66 := by decide +kernel
theorem dX6_ask_66 : DD cX6_ask 66 (.aload_n 0) 1 67 := by decide +kernel
theorem dX6_ask_67 : DD cX6_ask 67 (.iload_n 1) 1 68 := by decide +kernel
theorem dX6_ask_68 : DD cX6_ask 68 (.invokevirtual 235) 3 71 := by decide +kernel
theorem dX6_ask_71 : DD cX6_ask 71 (.goto 8) 3 74 := by decide +kernel
theorem dX6_ask_74 : DD cX6_ask 74 (.aload_n 0) 1 75 := by decide +kernel
theorem dX6_ask_75 : DD cX6_ask 75 (.iload_n 1) 1 76 := by decide +kernel
theorem dX6_ask_76 : DD cX6_ask 76 (.invokevirtual 226) 3 79 := by decide +kernel
theorem dX6_ask_79 : DD cX6_ask 79 (.ireturn) 1 80 := by decide +kernel
def fX6_ask (a1 : Int32) (a2 : Int32) (h : AH) : Option (Int32 × AH) := (bnd (fX6_isTug a1 h) fun v2 h1 => (if v2 = 0 then (some ((-1000001 : Int32), h1)) else (bnd (fX6_in a2 (0 : Int32) (1 : Int32) h1) fun v4 h3 => (if v4 = 0 then (some ((-1000001 : Int32), h3)) else (sto (hs h3 278 21 (0 : Int32)) fun h5 => (bnd (fX6_kindIn a1 h5) fun v7 h6 => (if v7 < (4 : Int32) then (if a2 = 0 then (if (0 : Int32) = 0 then (bnd (fX6_paddlerSize a1 h6) fun v9 h8 => (some (v9, h8))) else none) else (if (0 : Int32) = 0 then (bnd (fX6_paddlerMark a1 h6) fun v11 h10 => (some (v11, h10))) else none)) else (if a2 = 0 then (if (1 : Int32) = 0 then none else (bnd (fX6_launchSize a1 h6) fun v13 h12 => (some (v13, h12)))) else (if (1 : Int32) = 0 then none else (bnd (fX6_launchMark a1 h6) fun v15 h14 => (some (v15, h14))))))))))))
set_option maxHeartbeats 4000000 in
set_option maxRecDepth 4000 in
theorem uX6_ask {l : Launch} {X : WX} {a1 : Int32} {a2 : Int32} {h h' : AH} {v : Int32} (hf : fX6_ask a1 a2 h = some (v, h')) : Does l X 4 yX6_ask cX6_ask 4 (some .int) [.ref (X.1 + 278), .int a1, .int a2] h (eI v) h' := by
  refine Does.of (enc := eI) (o := fX6_ask a1 a2 h) (lv := [(0, .ref (X.1 + 278)), (1, .int a1), (2, .int a2)]) (by decide) (Nat.le_of_ble_eq_true rfl) rfl hf (fun K hl hK => ?_)
  subst hl
  unfold fX6_ask
  refine J_aload_n hK dX6_ask_0 0 rfl ?_
  refine J_iload_n hK dX6_ask_1 1 rfl ?_
  refine J_callVi (q := 278) (As := [.int a1]) (st := []) hK dX6_ask_2 kB_X6_178 kV_X6_isTug kd_278 (by decide) rfl rfl (by decide) rfl rfl (Nat.le_of_ble_eq_true rfl) (fun _ _ hf => uX6_isTug  hf) (fun v2 h1 => ?_)
  refine J_if_eq (tgt := 17) hK dX6_ask_5 (by decide) ?_ ?_
  · refine J_ldc hK dX6_ask_17 kK_X6_61 ?_
    exact J_iret hK dX6_ask_19
  · refine J_iload_n hK dX6_ask_8 2 rfl ?_
    refine J_iconst hK dX6_ask_9 ci_0 ?_
    refine J_iconst hK dX6_ask_10 ci_1 ?_
    refine J_callSi (As := [.int a2, .int (0 : Int32), .int (1 : Int32)]) (st := []) hK dX6_ask_11 kB_X6_53 kS_X6_in (by decide) rfl rfl (Nat.le_of_ble_eq_true rfl) (fun _ _ hf => uX6_in  hf) (fun v4 h3 => ?_)
    refine J_if_ne (tgt := 20) hK dX6_ask_14 (by decide) ?_ ?_
    · refine J_ldc hK dX6_ask_17 kK_X6_61 ?_
      exact J_iret hK dX6_ask_19
    · refine J_aload_n hK dX6_ask_20 0 rfl ?_
      refine J_iconst hK dX6_ask_21 ci_0 ?_
      refine pF_X6_220 hK dX6_ask_22 kd_278 (fun h5 => ?_)
      refine J_aload_n hK dX6_ask_25 0 rfl ?_
      refine J_iload_n hK dX6_ask_26 1 rfl ?_
      refine J_callVi (q := 278) (As := [.int a1]) (st := []) hK dX6_ask_27 kB_X6_217 kV_X6_kindIn kd_278 (by decide) rfl rfl (by decide) rfl rfl (Nat.le_of_ble_eq_true rfl) (fun _ _ hf => uX6_kindIn  hf) (fun v7 h6 => ?_)
      refine J_iconst hK dX6_ask_30 ci_4 ?_
      refine J_icmp_lt (tgt := 38) hK dX6_ask_31 (by decide) ?_ ?_
      · refine J_iconst hK dX6_ask_38 ci_0 ?_
        refine J_istore_n (n := 3) (lw := [(0, .ref (X.1 + 278)), (1, .int a1), (2, .int a2)]) hK dX6_ask_39 rfl (by decide) rfl ?_
        refine J_iload_n hK dX6_ask_40 3 rfl ?_
        refine J_if_ne (tgt := 62) hK dX6_ask_41 (by decide) ?_ ?_
        · refine J_iload_n hK dX6_ask_44 0 rfl ?_
          refine J_if_eq (tgt := 56) hK dX6_ask_45 (by decide) ?_ ?_
          · refine J_aload_n hK dX6_ask_56 1 rfl ?_
            refine J_iload_n hK dX6_ask_57 2 rfl ?_
            refine J_callVi (q := 278) (As := [.int a1]) (st := []) hK dX6_ask_58 kB_X6_232 kV_X6_paddlerSize kd_278 (by decide) rfl rfl (by decide) rfl rfl (Nat.le_of_ble_eq_true rfl) (fun _ _ hf => uX6_paddlerSize  hf) (fun v9 h8 => ?_)
            exact J_iret hK dX6_ask_61
          · exact J_none
        · refine J_iload_n hK dX6_ask_62 0 rfl ?_
          refine J_if_eq (tgt := 74) hK dX6_ask_63 (by decide) ?_ ?_
          · refine J_aload_n hK dX6_ask_74 1 rfl ?_
            refine J_iload_n hK dX6_ask_75 2 rfl ?_
            refine J_callVi (q := 278) (As := [.int a1]) (st := []) hK dX6_ask_76 kB_X6_226 kV_X6_paddlerMark kd_278 (by decide) rfl rfl (by decide) rfl rfl (Nat.le_of_ble_eq_true rfl) (fun _ _ hf => uX6_paddlerMark  hf) (fun v11 h10 => ?_)
            exact J_iret hK dX6_ask_79
          · exact J_none
      · refine J_iconst hK dX6_ask_34 ci_1 ?_
        refine J_goto (len := 0) (tgt := 39) hK dX6_ask_35 (by decide) ?_
        refine J_istore_n (n := 3) (lw := [(0, .ref (X.1 + 278)), (1, .int a1), (2, .int a2)]) hK dX6_ask_39 rfl (by decide) rfl ?_
        refine J_iload_n hK dX6_ask_40 3 rfl ?_
        refine J_if_ne (tgt := 62) hK dX6_ask_41 (by decide) ?_ ?_
        · refine J_iload_n hK dX6_ask_44 0 rfl ?_
          refine J_if_eq (tgt := 56) hK dX6_ask_45 (by decide) ?_ ?_
          · exact J_none
          · refine J_aload_n hK dX6_ask_48 1 rfl ?_
            refine J_iload_n hK dX6_ask_49 2 rfl ?_
            refine J_callVi (q := 278) (As := [.int a1]) (st := []) hK dX6_ask_50 kB_X6_229 kV_X6_launchSize kd_278 (by decide) rfl rfl (by decide) rfl rfl (Nat.le_of_ble_eq_true rfl) (fun _ _ hf => uX6_launchSize  hf) (fun v13 h12 => ?_)
            refine J_goto (len := 0) (tgt := 61) hK dX6_ask_53 (by decide) ?_
            exact J_iret hK dX6_ask_61
        · refine J_iload_n hK dX6_ask_62 0 rfl ?_
          refine J_if_eq (tgt := 74) hK dX6_ask_63 (by decide) ?_ ?_
          · exact J_none
          · refine J_aload_n hK dX6_ask_66 1 rfl ?_
            refine J_iload_n hK dX6_ask_67 2 rfl ?_
            refine J_callVi (q := 278) (As := [.int a1]) (st := []) hK dX6_ask_68 kB_X6_235 kV_X6_launchMark kd_278 (by decide) rfl rfl (by decide) rfl rfl (Nat.le_of_ble_eq_true rfl) (fun _ _ hf => uX6_launchMark  hf) (fun v15 h14 => ?_)
            refine J_goto (len := 0) (tgt := 79) hK dX6_ask_71 (by decide) ?_
            exact J_iret hK dX6_ask_79
-- X6_chance
theorem dX6_chance_0 : DD cX6_chance 0 (.aload_n 0) 1 1 := by decide +kernel
theorem dX6_chance_1 : DD cX6_chance 1 (.invokevirtual 167) 3 4 := by decide +kernel
theorem dX6_chance_4 : DD cX6_chance 4 (.ifCond .ne 6) 3 7 := by decide +kernel
theorem dX6_chance_7 : DD cX6_chance 7 (.ldc 170) 2 9 := by decide +kernel
theorem dX6_chance_9 : DD cX6_chance 9 (.ireturn) 1 10 := by decide +kernel
theorem dX6_chance_10 : DD cX6_chance 10 (.iload_n 1) 1 11 := by decide +kernel
theorem dX6_chance_11 : DD cX6_chance 11 (.iconst 0) 1 12 := by decide +kernel
theorem dX6_chance_12 : DD cX6_chance 12 (.bipush 8) 2 14 := by decide +kernel
theorem dX6_chance_14 : DD cX6_chance 14 (.invokestatic 53) 3 17 := by decide +kernel
theorem dX6_chance_17 : DD cX6_chance 17 (.ifCond .eq 22) 3 20 := by decide +kernel
theorem dX6_chance_20 : DD cX6_chance 20 (.iload_n 2) 1 21 := by decide +kernel
theorem dX6_chance_21 : DD cX6_chance 21 (.iconst 0) 1 22 := by decide +kernel
theorem dX6_chance_22 : DD cX6_chance 22 (.bipush 10) 2 24 := by decide +kernel
theorem dX6_chance_24 : DD cX6_chance 24 (.invokestatic 53) 3 27 := by decide +kernel
theorem dX6_chance_27 : DD cX6_chance 27 (.ifCond .eq 12) 3 30 := by decide +kernel
theorem dX6_chance_30 : DD cX6_chance 30 (.iload_n 3) 1 31 := by decide +kernel
theorem dX6_chance_31 : DD cX6_chance 31 (.iconst 0) 1 32 := by decide +kernel
theorem dX6_chance_32 : DD cX6_chance 32 (.iconst 1) 1 33 := by decide +kernel
theorem dX6_chance_33 : DD cX6_chance 33 (.invokestatic 53) 3 36 := by decide +kernel
theorem dX6_chance_36 : DD cX6_chance 36 (.ifCond .ne 6) 3 39 := by decide +kernel
theorem dX6_chance_39 : DD cX6_chance 39 (.ldc 61) 2 41 := by decide +kernel
theorem dX6_chance_41 : DD cX6_chance 41 (.ireturn) 1 42 := by decide +kernel
theorem dX6_chance_42 : DD cX6_chance 42 (.iconst 0) 1 43 := by decide +kernel
theorem dX6_chance_43 : DD cX6_chance 43 (.istore 4) 2 45 := by decide +kernel
theorem dX6_chance_45 : DD cX6_chance 45 (.iconst 1) 1 46 := by decide +kernel
theorem dX6_chance_46 : DD cX6_chance 46 (.istore 5) 2 48 := by decide +kernel
theorem dX6_chance_48 : DD cX6_chance 48 (.iconst 0) 1 49 := by decide +kernel
theorem dX6_chance_49 : DD cX6_chance 49 (.istore 6) 2 51 := by decide +kernel
theorem dX6_chance_51 : DD cX6_chance 51 (.iload 6) 2 53 := by decide +kernel
theorem dX6_chance_53 : DD cX6_chance 53 (.iload_n 1) 1 54 := by decide +kernel
theorem dX6_chance_54 : DD cX6_chance 54 (.if_icmp .ge 16) 3 57 := by decide +kernel
theorem dX6_chance_57 : DD cX6_chance 57 (.iload 5) 2 59 := by decide +kernel
theorem dX6_chance_59 : DD cX6_chance 59 (.bipush 10) 2 61 := by decide +kernel
theorem dX6_chance_61 : DD cX6_chance 61 (.imul) 1 62 := by decide +kernel
theorem dX6_chance_62 : DD cX6_chance 62 (.istore 5) 2 64 := by decide +kernel
theorem dX6_chance_64 : DD cX6_chance 64 (.iinc 6 1) 3 67 := by decide +kernel
theorem dX6_chance_67 : DD cX6_chance 67 (.goto (-16)) 3 70 := by decide +kernel
theorem dX6_chance_70 : DD cX6_chance 70 (.iconst 0) 1 71 := by decide +kernel
theorem dX6_chance_71 : DD cX6_chance 71 (.istore 6) 2 73 := by decide +kernel
theorem dX6_chance_73 : DD cX6_chance 73 (.iload 6) 2 75 := by decide +kernel
theorem dX6_chance_75 : DD cX6_chance 75 (.iconst 1) 1 76 := by decide +kernel
theorem dX6_chance_76 : DD cX6_chance 76 (.iload_n 1) 1 77 := by decide +kernel
theorem dX6_chance_77 : DD cX6_chance 77 (.ishl) 1 78 := by decide +kernel
theorem dX6_chance_78 : DD cX6_chance 78 (.if_icmp .ge 97) 3 81 := by decide +kernel
theorem dX6_chance_81 : DD cX6_chance 81 (.iconst 1) 1 82 := by decide +kernel
theorem dX6_chance_82 : DD cX6_chance 82 (.istore 7) 2 84 := by decide +kernel
theorem dX6_chance_84 : DD cX6_chance 84 (.aload_n 0) 1 85 := by decide +kernel
theorem dX6_chance_85 : DD cX6_chance 85 (.getfield 25) 3 88 := by decide +kernel
theorem dX6_chance_88 : DD cX6_chance 88 (.iconst 0) 1 89 := by decide +kernel
theorem dX6_chance_89 : DD cX6_chance 89 (.aload_n 0) 1 90 := by decide +kernel
theorem dX6_chance_90 : DD cX6_chance 90 (.getfield 31) 3 93 := by decide +kernel
theorem dX6_chance_93 : DD cX6_chance 93 (.iconst 0) 1 94 := by decide +kernel
theorem dX6_chance_94 : DD cX6_chance 94 (.invokestatic 135) 3 97 := by decide +kernel
theorem dX6_chance_97 : DD cX6_chance 97 (.iconst 0) 1 98 := by decide +kernel
theorem dX6_chance_98 : DD cX6_chance 98 (.istore 8) 2 100 := by decide +kernel
theorem dX6_chance_100 : DD cX6_chance 100 (.iload 8) 2 102 := by decide +kernel
theorem dX6_chance_102 : DD cX6_chance 102 (.iload_n 1) 1 103 := by decide +kernel
theorem dX6_chance_103 : DD cX6_chance 103 (.if_icmp .ge 46) 3 106 := by decide +kernel
theorem dX6_chance_106 : DD cX6_chance 106 (.iload 7) 2 108 := by decide +kernel
theorem dX6_chance_108 : DD cX6_chance 108 (.iload 6) 2 110 := by decide +kernel
theorem dX6_chance_110 : DD cX6_chance 110 (.iload 8) 2 112 := by decide +kernel
theorem dX6_chance_112 : DD cX6_chance 112 (.invokestatic 200) 3 115 := by decide +kernel
theorem dX6_chance_115 : DD cX6_chance 115 (.ifCond .eq 7) 3 118 := by decide +kernel
theorem dX6_chance_118 : DD cX6_chance 118 (.iload_n 2) 1 119 := by decide +kernel
theorem dX6_chance_119 : DD cX6_chance 119 (.goto 7) 3 122 := by decide +kernel
theorem dX6_chance_122 : DD cX6_chance 122 (.bipush 10) 2 124 := by decide +kernel
theorem dX6_chance_124 : DD cX6_chance 124 (.iload_n 2) 1 125 := by decide +kernel
theorem dX6_chance_125 : DD cX6_chance 125 (.isub) 1 126 := by decide +kernel
theorem dX6_chance_126 : DD cX6_chance 126 (.imul) 1 127 := by decide +kernel
theorem dX6_chance_127 : DD cX6_chance 127 (.istore 7) 2 129 := by decide +kernel
theorem dX6_chance_129 : DD cX6_chance 129 (.aload_n 0) 1 130 := by decide +kernel
theorem dX6_chance_130 : DD cX6_chance 130 (.getfield 31) 3 133 := by decide +kernel
theorem dX6_chance_133 : DD cX6_chance 133 (.iload 6) 2 135 := by decide +kernel
theorem dX6_chance_135 : DD cX6_chance 135 (.iload 8) 2 137 := by decide +kernel
theorem dX6_chance_137 : DD cX6_chance 137 (.invokestatic 200) 3 140 := by decide +kernel
theorem dX6_chance_140 : DD cX6_chance 140 (.invokestatic 174) 3 143 := by decide +kernel
theorem dX6_chance_143 : DD cX6_chance 143 (.iinc 8 1) 3 146 := by decide +kernel
theorem dX6_chance_146 : DD cX6_chance 146 (.goto (-46)) 3 149 := by decide +kernel
theorem dX6_chance_149 : DD cX6_chance 149 (.iload 4) 2 151 := by decide +kernel
theorem dX6_chance_151 : DD cX6_chance 151 (.aload_n 0) 1 152 := by decide +kernel
theorem dX6_chance_152 : DD cX6_chance 152 (.getfield 31) 3 155 := by decide +kernel
theorem dX6_chance_155 : DD cX6_chance 155 (.iconst 1) 1 156 := by decide +kernel
theorem dX6_chance_156 : DD cX6_chance 156 (.iaload) 1 157 := by decide +kernel
theorem dX6_chance_157 : DD cX6_chance 157 (.ifCond .ne 8) 3 160 := by decide +kernel
theorem dX6_chance_160 : DD cX6_chance 160 (.iload 7) 2 162 := by decide +kernel
theorem dX6_chance_162 : DD cX6_chance 162 (.goto 4) 3 165 := by decide +kernel
theorem dX6_chance_165 : DD cX6_chance 165 (.iconst 0) 1 166 := by decide +kernel
theorem dX6_chance_166 : DD cX6_chance 166 (.iadd) 1 167 := by decide +kernel
theorem dX6_chance_167 : DD cX6_chance 167 (.istore 4) 2 169 := by decide +kernel
theorem dX6_chance_169 : DD cX6_chance 169 (.iinc 6 1) 3 172 := by decide +kernel
theorem dX6_chance_172 : DD cX6_chance 172 (.goto (-99)) 3 175 := by decide +kernel
theorem dX6_chance_175 : DD cX6_chance 175 (.iload 4) 2 177 := by decide +kernel
theorem dX6_chance_177 : DD cX6_chance 177 (.istore 6) 2 179 := by decide +kernel
theorem dX6_chance_179 : DD cX6_chance 179 (.iload 5) 2 181 := by decide +kernel
theorem dX6_chance_181 : DD cX6_chance 181 (.istore 7) 2 183 := by decide +kernel
theorem dX6_chance_183 : DD cX6_chance 183 (.iload 7) 2 185 := by decide +kernel
theorem dX6_chance_185 : DD cX6_chance 185 (.ifCond .eq 21) 3 188 := by decide +kernel
theorem dX6_chance_188 : DD cX6_chance 188 (.iload 6) 2 190 := by decide +kernel
theorem dX6_chance_190 : DD cX6_chance 190 (.iload 7) 2 192 := by decide +kernel
theorem dX6_chance_192 : DD cX6_chance 192 (.irem) 1 193 := by decide +kernel
theorem dX6_chance_193 : DD cX6_chance 193 (.istore 8) 2 195 := by decide +kernel
theorem dX6_chance_195 : DD cX6_chance 195 (.iload 7) 2 197 := by decide +kernel
theorem dX6_chance_197 : DD cX6_chance 197 (.istore 6) 2 199 := by decide +kernel
theorem dX6_chance_199 : DD cX6_chance 199 (.iload 8) 2 201 := by decide +kernel
theorem dX6_chance_201 : DD cX6_chance 201 (.istore 7) 2 203 := by decide +kernel
theorem dX6_chance_203 : DD cX6_chance 203 (.goto (-20)) 3 206 := by decide +kernel
theorem dX6_chance_206 : DD cX6_chance 206 (.iload_n 3) 1 207 := by decide +kernel
theorem dX6_chance_207 : DD cX6_chance 207 (.ifCond .ne 8) 3 210 := by decide +kernel
theorem dX6_chance_210 : DD cX6_chance 210 (.iload 4) 2 212 := by decide +kernel
theorem dX6_chance_212 : DD cX6_chance 212 (.goto 5) 3 215 := by decide +kernel
theorem dX6_chance_215 : DD cX6_chance 215 (.iload 5) 2 217 := by decide +kernel
theorem dX6_chance_217 : DD cX6_chance 217 (.iload 6) 2 219 := by decide +kernel
theorem dX6_chance_219 : DD cX6_chance 219 (.idiv) 1 220 := by decide +kernel
theorem dX6_chance_220 : DD cX6_chance 220 (.ireturn) 1 221 := by decide +kernel
def fX6_chance_L51 (p4 : Int32) (p1 : Int32) (p2 : Int32) (p3 : Int32) : Nat → Int32 → Int32 → AH → (Int32 → Int32 → AH → Option (Int32 × AH)) → Option (Int32 × AH)
  | 0, _, _, _, _ => none
  | n + 1, x6, x5, h, k => (if x6 < p1 then (vl (x5 * (10 : Int32)) fun z201 => (vl (x6 + (1 : Int32)) fun z202 => fX6_chance_L51 p4 p1 p2 p3 n z202 z201 h k)) else k x6 x5 h)
def fX6_chance_L100 (p6 : Int32) (p5 : Int32) (p4 : Int32) (p1 : Int32) (p2 : Int32) (p3 : Int32) : Nat → Int32 → Int32 → AH → (Int32 → Int32 → AH → Option (Int32 × AH)) → Option (Int32 × AH)
  | 0, _, _, _, _ => none
  | n + 1, x8, x7, h, k => (if x8 < p1 then (bnd (fX6_has p6 x8 h) fun v402 h401 => (if v402 = 0 then (vl (x7 * ((10 : Int32) - p2)) fun z403 => (bnd (fX6_has p6 x8 h401) fun v405 h404 => (bnd (fX6_passes 286 v405 h404) fun _ h406 => (vl (x8 + (1 : Int32)) fun z407 => fX6_chance_L100 p6 p5 p4 p1 p2 p3 n z407 z403 h406 k)))) else (vl (x7 * p2) fun z408 => (bnd (fX6_has p6 x8 h401) fun v410 h409 => (bnd (fX6_passes 286 v410 h409) fun _ h411 => (vl (x8 + (1 : Int32)) fun z412 => fX6_chance_L100 p6 p5 p4 p1 p2 p3 n z412 z408 h411 k)))))) else k x8 x7 h)
def fX6_chance_L73 (p5 : Int32) (p1 : Int32) (p2 : Int32) (p3 : Int32) : Nat → Int32 → Int32 → AH → (Int32 → Int32 → AH → Option (Int32 × AH)) → Option (Int32 × AH)
  | 0, _, _, _, _ => none
  | n + 1, x6, x4, h, k => (if x6 < ((1 : Int32) <<< (p1 &&& 31)) then (bnd (fX6_copies 284 (0 : Int32) 286 (0 : Int32) h) fun _ h301 => (fX6_chance_L100 x6 p5 x4 p1 p2 p3 FU (0 : Int32) (1 : Int32) h301 fun z302 z303 h304 => (chk (inb (1 : Int32) (ln 286)) (if (h304 286 (Int32.toNatClampNeg (1 : Int32))) = 0 then (vl (x4 + z303) fun z305 => (vl (x6 + (1 : Int32)) fun z306 => fX6_chance_L73 p5 p1 p2 p3 n z306 z305 h304 k)) else (vl (x4 + (0 : Int32)) fun z307 => (vl (x6 + (1 : Int32)) fun z308 => fX6_chance_L73 p5 p1 p2 p3 n z308 z307 h304 k)))))) else k x6 x4 h)
def fX6_chance_L183 (p5 : Int32) (p4 : Int32) (p1 : Int32) (p2 : Int32) (p3 : Int32) : Nat → Int32 → Int32 → AH → (Int32 → Int32 → AH → Option (Int32 × AH)) → Option (Int32 × AH)
  | 0, _, _, _, _ => none
  | n + 1, x7, x6, h, k => (if x7 = 0 then k x7 x6 h else (chk (¬ x7 = 0) (vl (x6 - x6 / x7 * x7) fun z501 => fX6_chance_L183 p5 p4 p1 p2 p3 n z501 x7 h k)))
def fX6_chance (a1 : Int32) (a2 : Int32) (a3 : Int32) (h : AH) : Option (Int32 × AH) := (bnd (fX6_isEstuary  h) fun v2 h1 => (if v2 = 0 then (some ((-1000002 : Int32), h1)) else (bnd (fX6_in a1 (0 : Int32) (8 : Int32) h1) fun v4 h3 => (if v4 = 0 then (some ((-1000001 : Int32), h3)) else (bnd (fX6_in a2 (0 : Int32) (10 : Int32) h3) fun v6 h5 => (if v6 = 0 then (some ((-1000001 : Int32), h5)) else (bnd (fX6_in a3 (0 : Int32) (1 : Int32) h5) fun v8 h7 => (if v8 = 0 then (some ((-1000001 : Int32), h7)) else (fX6_chance_L51 (0 : Int32) a1 a2 a3 FU (0 : Int32) (1 : Int32) h7 fun z9 z10 h11 => (fX6_chance_L73 z10 a1 a2 a3 FU (0 : Int32) (0 : Int32) h11 fun z12 z13 h14 => (fX6_chance_L183 z10 z13 a1 a2 a3 FU z10 z13 h14 fun z15 z16 h17 => (if a3 = 0 then (chk (¬ z16 = 0) (some ((z13 / z16), h17))) else (chk (¬ z16 = 0) (some ((z10 / z16), h17)))))))))))))))
set_option maxHeartbeats 4000000 in
theorem gX6_chance_L51 {K : MC} {X : WX} {p4 : Int32} {p1 : Int32} {p2 : Int32} {p3 : Int32} (hK : Ok K X RX6 cX6_chance 9 (some .int) 4) {k : Int32 → Int32 → AH → Option (Int32 × AH)} (hk : ∀ (x6 : Int32) (x5 : Int32) (h : AH), J K X 9 (Zm K X) eI 70 [(6, .int x6), (5, .int x5), (4, .int p4), (0, .ref (X.1 + 278)), (1, .int p1), (2, .int p2), (3, .int p3)] [] h (k x6 x5 h)) : ∀ (n : Nat) (x6 : Int32) (x5 : Int32) (h : AH), J K X 9 (Zm K X) eI 51 [(6, .int x6), (5, .int x5), (4, .int p4), (0, .ref (X.1 + 278)), (1, .int p1), (2, .int p2), (3, .int p3)] [] h (fX6_chance_L51 p4 p1 p2 p3 n x6 x5 h k) := by
  intro n
  induction n with
  | zero => exact fun _ _ _ => J_none
  | succ n ih =>
    intro x6 x5 h
    rw [fX6_chance_L51]
    refine J_iload hK dX6_chance_51 0 rfl ?_
    refine J_iload_n hK dX6_chance_53 4 rfl ?_
    refine J_icmp_ge (tgt := 70) hK dX6_chance_54 (by decide) ?_ ?_
    · refine J_iload hK dX6_chance_57 1 rfl ?_
      refine J_bipush hK dX6_chance_59 cb_10 ?_
      refine J_imul hK dX6_chance_61 ?_
      refine J_istoreV (lw := [(6, .int x6), (4, .int p4), (0, .ref (X.1 + 278)), (1, .int p1), (2, .int p2), (3, .int p3)]) hK dX6_chance_62 (by decide) rfl (fun z201 => ?_)
      refine J_iinc (lw := [(5, .int z201), (4, .int p4), (0, .ref (X.1 + 278)), (1, .int p1), (2, .int p2), (3, .int p3)]) hK dX6_chance_64 1 rfl (by decide) ci_1 rfl (fun z202 => ?_)
      refine J_goto (len := 0) (tgt := 51) hK dX6_chance_67 (by decide) ?_
      exact J_sub [0, 1, 2, 3, 4, 5, 6] rfl (ih _ _ _)
    · exact J_sub [0, 1, 2, 3, 4, 5, 6] rfl (hk _ _ _)
set_option maxHeartbeats 4000000 in
theorem gX6_chance_L100 {K : MC} {X : WX} {p6 : Int32} {p5 : Int32} {p4 : Int32} {p1 : Int32} {p2 : Int32} {p3 : Int32} (hK : Ok K X RX6 cX6_chance 9 (some .int) 4) {k : Int32 → Int32 → AH → Option (Int32 × AH)} (hk : ∀ (x8 : Int32) (x7 : Int32) (h : AH), J K X 9 (Zm K X) eI 149 [(8, .int x8), (7, .int x7), (6, .int p6), (5, .int p5), (4, .int p4), (0, .ref (X.1 + 278)), (1, .int p1), (2, .int p2), (3, .int p3)] [] h (k x8 x7 h)) : ∀ (n : Nat) (x8 : Int32) (x7 : Int32) (h : AH), J K X 9 (Zm K X) eI 100 [(8, .int x8), (7, .int x7), (6, .int p6), (5, .int p5), (4, .int p4), (0, .ref (X.1 + 278)), (1, .int p1), (2, .int p2), (3, .int p3)] [] h (fX6_chance_L100 p6 p5 p4 p1 p2 p3 n x8 x7 h k) := by
  intro n
  induction n with
  | zero => exact fun _ _ _ => J_none
  | succ n ih =>
    intro x8 x7 h
    rw [fX6_chance_L100]
    refine J_iload hK dX6_chance_100 0 rfl ?_
    refine J_iload_n hK dX6_chance_102 6 rfl ?_
    refine J_icmp_ge (tgt := 149) hK dX6_chance_103 (by decide) ?_ ?_
    · refine J_iload hK dX6_chance_106 1 rfl ?_
      refine J_iload hK dX6_chance_108 2 rfl ?_
      refine J_iload hK dX6_chance_110 0 rfl ?_
      refine J_callSi (As := [.int p6, .int x8]) (st := [.int x7]) hK dX6_chance_112 kB_X6_200 kS_X6_has (by decide) rfl rfl (Nat.le_of_ble_eq_true rfl) (fun _ _ hf => uX6_has  hf) (fun v402 h401 => ?_)
      refine J_if_eq (tgt := 122) hK dX6_chance_115 (by decide) ?_ ?_
      · refine J_bipush hK dX6_chance_122 cb_10 ?_
        refine J_iload_n hK dX6_chance_124 7 rfl ?_
        refine J_isub hK dX6_chance_125 ?_
        refine J_imul hK dX6_chance_126 ?_
        refine J_istoreV (lw := [(8, .int x8), (6, .int p6), (5, .int p5), (4, .int p4), (0, .ref (X.1 + 278)), (1, .int p1), (2, .int p2), (3, .int p3)]) hK dX6_chance_127 (by decide) rfl (fun z403 => ?_)
        refine J_aload_n hK dX6_chance_129 5 rfl ?_
        refine rF_X6_31 (q2 := 286) hK dX6_chance_130 kd_278 rfl ?_
        refine J_iload hK dX6_chance_133 2 rfl ?_
        refine J_iload hK dX6_chance_135 1 rfl ?_
        refine J_callSi (As := [.int p6, .int x8]) (st := [.ref (X.1 + 286)]) hK dX6_chance_137 kB_X6_200 kS_X6_has (by decide) rfl rfl (Nat.le_of_ble_eq_true rfl) (fun _ _ hf => uX6_has  hf) (fun v405 h404 => ?_)
        refine J_callSv (As := [.ref (X.1 + 286), .int v405]) (st := []) hK dX6_chance_140 kB_X6_174 kS_X6_passes (by decide) rfl rfl (Nat.le_of_ble_eq_true rfl) (fun _ _ hf => uX6_passes kd_286 hf) (fun _ h406 => ?_)
        refine J_iinc (lw := [(7, .int z403), (6, .int p6), (5, .int p5), (4, .int p4), (0, .ref (X.1 + 278)), (1, .int p1), (2, .int p2), (3, .int p3)]) hK dX6_chance_143 1 rfl (by decide) ci_1 rfl (fun z407 => ?_)
        refine J_goto (len := 0) (tgt := 100) hK dX6_chance_146 (by decide) ?_
        exact J_sub [0, 1, 2, 3, 4, 5, 6, 7, 8] rfl (ih _ _ _)
      · refine J_iload_n hK dX6_chance_118 7 rfl ?_
        refine J_goto (len := 0) (tgt := 126) hK dX6_chance_119 (by decide) ?_
        refine J_imul hK dX6_chance_126 ?_
        refine J_istoreV (lw := [(8, .int x8), (6, .int p6), (5, .int p5), (4, .int p4), (0, .ref (X.1 + 278)), (1, .int p1), (2, .int p2), (3, .int p3)]) hK dX6_chance_127 (by decide) rfl (fun z408 => ?_)
        refine J_aload_n hK dX6_chance_129 5 rfl ?_
        refine rF_X6_31 (q2 := 286) hK dX6_chance_130 kd_278 rfl ?_
        refine J_iload hK dX6_chance_133 2 rfl ?_
        refine J_iload hK dX6_chance_135 1 rfl ?_
        refine J_callSi (As := [.int p6, .int x8]) (st := [.ref (X.1 + 286)]) hK dX6_chance_137 kB_X6_200 kS_X6_has (by decide) rfl rfl (Nat.le_of_ble_eq_true rfl) (fun _ _ hf => uX6_has  hf) (fun v410 h409 => ?_)
        refine J_callSv (As := [.ref (X.1 + 286), .int v410]) (st := []) hK dX6_chance_140 kB_X6_174 kS_X6_passes (by decide) rfl rfl (Nat.le_of_ble_eq_true rfl) (fun _ _ hf => uX6_passes kd_286 hf) (fun _ h411 => ?_)
        refine J_iinc (lw := [(7, .int z408), (6, .int p6), (5, .int p5), (4, .int p4), (0, .ref (X.1 + 278)), (1, .int p1), (2, .int p2), (3, .int p3)]) hK dX6_chance_143 1 rfl (by decide) ci_1 rfl (fun z412 => ?_)
        refine J_goto (len := 0) (tgt := 100) hK dX6_chance_146 (by decide) ?_
        exact J_sub [0, 1, 2, 3, 4, 5, 6, 7, 8] rfl (ih _ _ _)
    · exact J_sub [0, 1, 2, 3, 4, 5, 6, 7, 8] rfl (hk _ _ _)
set_option maxHeartbeats 4000000 in
theorem gX6_chance_L73 {K : MC} {X : WX} {p5 : Int32} {p1 : Int32} {p2 : Int32} {p3 : Int32} (hK : Ok K X RX6 cX6_chance 9 (some .int) 4) {k : Int32 → Int32 → AH → Option (Int32 × AH)} (hk : ∀ (x6 : Int32) (x4 : Int32) (h : AH), J K X 9 (Zm K X) eI 175 [(6, .int x6), (5, .int p5), (4, .int x4), (0, .ref (X.1 + 278)), (1, .int p1), (2, .int p2), (3, .int p3)] [] h (k x6 x4 h)) : ∀ (n : Nat) (x6 : Int32) (x4 : Int32) (h : AH), J K X 9 (Zm K X) eI 73 [(6, .int x6), (5, .int p5), (4, .int x4), (0, .ref (X.1 + 278)), (1, .int p1), (2, .int p2), (3, .int p3)] [] h (fX6_chance_L73 p5 p1 p2 p3 n x6 x4 h k) := by
  intro n
  induction n with
  | zero => exact fun _ _ _ => J_none
  | succ n ih =>
    intro x6 x4 h
    rw [fX6_chance_L73]
    refine J_iload hK dX6_chance_73 0 rfl ?_
    refine J_iconst hK dX6_chance_75 ci_1 ?_
    refine J_iload_n hK dX6_chance_76 4 rfl ?_
    refine J_ishl hK dX6_chance_77 ?_
    refine J_icmp_ge (tgt := 175) hK dX6_chance_78 (by decide) ?_ ?_
    · refine J_iconst hK dX6_chance_81 ci_1 ?_
      refine J_istore (lw := [(6, .int x6), (5, .int p5), (4, .int x4), (0, .ref (X.1 + 278)), (1, .int p1), (2, .int p2), (3, .int p3)]) hK dX6_chance_82 (by decide) rfl ?_
      refine J_aload_n hK dX6_chance_84 4 rfl ?_
      refine rF_X6_25 (q2 := 284) hK dX6_chance_85 kd_278 rfl ?_
      refine J_iconst hK dX6_chance_88 ci_0 ?_
      refine J_aload_n hK dX6_chance_89 4 rfl ?_
      refine rF_X6_31 (q2 := 286) hK dX6_chance_90 kd_278 rfl ?_
      refine J_iconst hK dX6_chance_93 ci_0 ?_
      refine J_callSv (As := [.ref (X.1 + 284), .int (0 : Int32), .ref (X.1 + 286), .int (0 : Int32)]) (st := []) hK dX6_chance_94 kB_X6_135 kS_X6_copies (by decide) rfl rfl (Nat.le_of_ble_eq_true rfl) (fun _ _ hf => uX6_copies kd_284 kd_286 hf) (fun _ h301 => ?_)
      refine J_iconst hK dX6_chance_97 ci_0 ?_
      refine J_istore (lw := [(7, .int (1 : Int32)), (6, .int x6), (5, .int p5), (4, .int x4), (0, .ref (X.1 + 278)), (1, .int p1), (2, .int p2), (3, .int p3)]) hK dX6_chance_98 (by decide) rfl ?_
      refine J_sub [0, 1, 2, 3, 4, 5, 6, 7, 8] rfl (gX6_chance_L100 hK  (fun z302 z303 h304 => ?_) FU _ _ _)
      refine J_iload hK dX6_chance_149 4 rfl ?_
      refine J_aload_n hK dX6_chance_151 5 rfl ?_
      refine rF_X6_31 (q2 := 286) hK dX6_chance_152 kd_278 rfl ?_
      refine J_iconst hK dX6_chance_155 ci_1 ?_
      refine J_iald hK dX6_chance_156 kd_286 (fun _ => ?_)
      refine J_if_ne (tgt := 165) hK dX6_chance_157 (by decide) ?_ ?_
      · refine J_iload hK dX6_chance_160 1 rfl ?_
        refine J_goto (len := 0) (tgt := 166) hK dX6_chance_162 (by decide) ?_
        refine J_iadd hK dX6_chance_166 ?_
        refine J_istoreV (lw := [(8, .int z302), (7, .int z303), (6, .int x6), (5, .int p5), (0, .ref (X.1 + 278)), (1, .int p1), (2, .int p2), (3, .int p3)]) hK dX6_chance_167 (by decide) rfl (fun z305 => ?_)
        refine J_iinc (lw := [(4, .int z305), (8, .int z302), (7, .int z303), (5, .int p5), (0, .ref (X.1 + 278)), (1, .int p1), (2, .int p2), (3, .int p3)]) hK dX6_chance_169 3 rfl (by decide) ci_1 rfl (fun z306 => ?_)
        refine J_goto (len := 0) (tgt := 73) hK dX6_chance_172 (by decide) ?_
        exact J_sub [0, 4, 1, 5, 6, 7, 8] rfl (ih _ _ _)
      · refine J_iconst hK dX6_chance_165 ci_0 ?_
        refine J_iadd hK dX6_chance_166 ?_
        refine J_istoreV (lw := [(8, .int z302), (7, .int z303), (6, .int x6), (5, .int p5), (0, .ref (X.1 + 278)), (1, .int p1), (2, .int p2), (3, .int p3)]) hK dX6_chance_167 (by decide) rfl (fun z307 => ?_)
        refine J_iinc (lw := [(4, .int z307), (8, .int z302), (7, .int z303), (5, .int p5), (0, .ref (X.1 + 278)), (1, .int p1), (2, .int p2), (3, .int p3)]) hK dX6_chance_169 3 rfl (by decide) ci_1 rfl (fun z308 => ?_)
        refine J_goto (len := 0) (tgt := 73) hK dX6_chance_172 (by decide) ?_
        exact J_sub [0, 4, 1, 5, 6, 7, 8] rfl (ih _ _ _)
    · exact J_sub [0, 1, 2, 3, 4, 5, 6] rfl (hk _ _ _)
set_option maxHeartbeats 4000000 in
theorem gX6_chance_L183 {K : MC} {X : WX} {p5 : Int32} {p4 : Int32} {p1 : Int32} {p2 : Int32} {p3 : Int32} (hK : Ok K X RX6 cX6_chance 9 (some .int) 4) {k : Int32 → Int32 → AH → Option (Int32 × AH)} (hk : ∀ (x7 : Int32) (x6 : Int32) (h : AH), J K X 9 (Zm K X) eI 206 [(7, .int x7), (6, .int x6), (5, .int p5), (4, .int p4), (0, .ref (X.1 + 278)), (1, .int p1), (2, .int p2), (3, .int p3)] [] h (k x7 x6 h)) : ∀ (n : Nat) (x7 : Int32) (x6 : Int32) (h : AH), J K X 9 (Zm K X) eI 183 [(7, .int x7), (6, .int x6), (5, .int p5), (4, .int p4), (0, .ref (X.1 + 278)), (1, .int p1), (2, .int p2), (3, .int p3)] [] h (fX6_chance_L183 p5 p4 p1 p2 p3 n x7 x6 h k) := by
  intro n
  induction n with
  | zero => exact fun _ _ _ => J_none
  | succ n ih =>
    intro x7 x6 h
    rw [fX6_chance_L183]
    refine J_iload hK dX6_chance_183 0 rfl ?_
    refine J_if_eq (tgt := 206) hK dX6_chance_185 (by decide) ?_ ?_
    · exact J_sub [0, 1, 2, 3, 4, 5, 6, 7] rfl (hk _ _ _)
    · refine J_iload hK dX6_chance_188 1 rfl ?_
      refine J_iload hK dX6_chance_190 0 rfl ?_
      refine J_irem hK dX6_chance_192 ?_
      refine J_istoreV (lw := [(7, .int x7), (6, .int x6), (5, .int p5), (4, .int p4), (0, .ref (X.1 + 278)), (1, .int p1), (2, .int p2), (3, .int p3)]) hK dX6_chance_193 (by decide) rfl (fun z501 => ?_)
      refine J_iload hK dX6_chance_195 1 rfl ?_
      refine J_istore (lw := [(8, .int z501), (7, .int x7), (5, .int p5), (4, .int p4), (0, .ref (X.1 + 278)), (1, .int p1), (2, .int p2), (3, .int p3)]) hK dX6_chance_197 (by decide) rfl ?_
      refine J_iload hK dX6_chance_199 1 rfl ?_
      refine J_istore (lw := [(6, .int x7), (8, .int z501), (5, .int p5), (4, .int p4), (0, .ref (X.1 + 278)), (1, .int p1), (2, .int p2), (3, .int p3)]) hK dX6_chance_201 (by decide) rfl ?_
      refine J_goto (len := 0) (tgt := 183) hK dX6_chance_203 (by decide) ?_
      exact J_sub [0, 1, 3, 4, 5, 6, 7, 8] rfl (ih _ _ _)
set_option maxHeartbeats 4000000 in
set_option maxRecDepth 4000 in
theorem uX6_chance {l : Launch} {X : WX} {a1 : Int32} {a2 : Int32} {a3 : Int32} {h h' : AH} {v : Int32} (hf : fX6_chance a1 a2 a3 h = some (v, h')) : Does l X 4 yX6_chance cX6_chance 9 (some .int) [.ref (X.1 + 278), .int a1, .int a2, .int a3] h (eI v) h' := by
  refine Does.of (enc := eI) (o := fX6_chance a1 a2 a3 h) (lv := [(0, .ref (X.1 + 278)), (1, .int a1), (2, .int a2), (3, .int a3)]) (by decide) (Nat.le_of_ble_eq_true rfl) rfl hf (fun K hl hK => ?_)
  subst hl
  unfold fX6_chance
  refine J_aload_n hK dX6_chance_0 0 rfl ?_
  refine J_callVi (q := 278) (As := []) (st := []) hK dX6_chance_1 kB_X6_167 kV_X6_isEstuary kd_278 (by decide) rfl rfl (by decide) rfl rfl (Nat.le_of_ble_eq_true rfl) (fun _ _ hf => uX6_isEstuary  hf) (fun v2 h1 => ?_)
  refine J_if_ne (tgt := 10) hK dX6_chance_4 (by decide) ?_ ?_
  · refine J_ldc hK dX6_chance_7 kK_X6_170 ?_
    exact J_iret hK dX6_chance_9
  · refine J_iload_n hK dX6_chance_10 1 rfl ?_
    refine J_iconst hK dX6_chance_11 ci_0 ?_
    refine J_bipush hK dX6_chance_12 cb_8 ?_
    refine J_callSi (As := [.int a1, .int (0 : Int32), .int (8 : Int32)]) (st := []) hK dX6_chance_14 kB_X6_53 kS_X6_in (by decide) rfl rfl (Nat.le_of_ble_eq_true rfl) (fun _ _ hf => uX6_in  hf) (fun v4 h3 => ?_)
    refine J_if_eq (tgt := 39) hK dX6_chance_17 (by decide) ?_ ?_
    · refine J_ldc hK dX6_chance_39 kK_X6_61 ?_
      exact J_iret hK dX6_chance_41
    · refine J_iload_n hK dX6_chance_20 2 rfl ?_
      refine J_iconst hK dX6_chance_21 ci_0 ?_
      refine J_bipush hK dX6_chance_22 cb_10 ?_
      refine J_callSi (As := [.int a2, .int (0 : Int32), .int (10 : Int32)]) (st := []) hK dX6_chance_24 kB_X6_53 kS_X6_in (by decide) rfl rfl (Nat.le_of_ble_eq_true rfl) (fun _ _ hf => uX6_in  hf) (fun v6 h5 => ?_)
      refine J_if_eq (tgt := 39) hK dX6_chance_27 (by decide) ?_ ?_
      · refine J_ldc hK dX6_chance_39 kK_X6_61 ?_
        exact J_iret hK dX6_chance_41
      · refine J_iload_n hK dX6_chance_30 3 rfl ?_
        refine J_iconst hK dX6_chance_31 ci_0 ?_
        refine J_iconst hK dX6_chance_32 ci_1 ?_
        refine J_callSi (As := [.int a3, .int (0 : Int32), .int (1 : Int32)]) (st := []) hK dX6_chance_33 kB_X6_53 kS_X6_in (by decide) rfl rfl (Nat.le_of_ble_eq_true rfl) (fun _ _ hf => uX6_in  hf) (fun v8 h7 => ?_)
        refine J_if_ne (tgt := 42) hK dX6_chance_36 (by decide) ?_ ?_
        · refine J_ldc hK dX6_chance_39 kK_X6_61 ?_
          exact J_iret hK dX6_chance_41
        · refine J_iconst hK dX6_chance_42 ci_0 ?_
          refine J_istore (lw := [(0, .ref (X.1 + 278)), (1, .int a1), (2, .int a2), (3, .int a3)]) hK dX6_chance_43 (by decide) rfl ?_
          refine J_iconst hK dX6_chance_45 ci_1 ?_
          refine J_istore (lw := [(4, .int (0 : Int32)), (0, .ref (X.1 + 278)), (1, .int a1), (2, .int a2), (3, .int a3)]) hK dX6_chance_46 (by decide) rfl ?_
          refine J_iconst hK dX6_chance_48 ci_0 ?_
          refine J_istore (lw := [(5, .int (1 : Int32)), (4, .int (0 : Int32)), (0, .ref (X.1 + 278)), (1, .int a1), (2, .int a2), (3, .int a3)]) hK dX6_chance_49 (by decide) rfl ?_
          refine J_sub [0, 1, 2, 3, 4, 5, 6] rfl (gX6_chance_L51 hK  (fun z9 z10 h11 => ?_) FU _ _ _)
          refine J_iconst hK dX6_chance_70 ci_0 ?_
          refine J_istore (lw := [(5, .int z10), (4, .int (0 : Int32)), (0, .ref (X.1 + 278)), (1, .int a1), (2, .int a2), (3, .int a3)]) hK dX6_chance_71 (by decide) rfl ?_
          refine J_sub [0, 1, 2, 3, 4, 5, 6] rfl (gX6_chance_L73 hK  (fun z12 z13 h14 => ?_) FU _ _ _)
          refine J_iload hK dX6_chance_175 2 rfl ?_
          refine J_istore (lw := [(5, .int z10), (4, .int z13), (0, .ref (X.1 + 278)), (1, .int a1), (2, .int a2), (3, .int a3)]) hK dX6_chance_177 (by decide) rfl ?_
          refine J_iload hK dX6_chance_179 1 rfl ?_
          refine J_istore (lw := [(6, .int z13), (5, .int z10), (4, .int z13), (0, .ref (X.1 + 278)), (1, .int a1), (2, .int a2), (3, .int a3)]) hK dX6_chance_181 (by decide) rfl ?_
          refine J_sub [0, 1, 2, 3, 4, 5, 6, 7] rfl (gX6_chance_L183 hK  (fun z15 z16 h17 => ?_) FU _ _ _)
          refine J_iload_n hK dX6_chance_206 7 rfl ?_
          refine J_if_ne (tgt := 215) hK dX6_chance_207 (by decide) ?_ ?_
          · refine J_iload hK dX6_chance_210 3 rfl ?_
            refine J_goto (len := 0) (tgt := 217) hK dX6_chance_212 (by decide) ?_
            refine J_iload hK dX6_chance_217 1 rfl ?_
            refine J_idiv hK dX6_chance_219 ?_
            exact J_iret hK dX6_chance_220
          · refine J_iload hK dX6_chance_215 2 rfl ?_
            refine J_iload hK dX6_chance_217 1 rfl ?_
            refine J_idiv hK dX6_chance_219 ?_
            exact J_iret hK dX6_chance_220
-- X6_drawn
theorem dX6_drawn_0 : DD cX6_drawn 0 (.aload_n 0) 1 1 := by decide +kernel
theorem dX6_drawn_1 : DD cX6_drawn 1 (.invokevirtual 167) 3 4 := by decide +kernel
theorem dX6_drawn_4 : DD cX6_drawn 4 (.ifCond .ne 6) 3 7 := by decide +kernel
theorem dX6_drawn_7 : DD cX6_drawn 7 (.ldc 170) 2 9 := by decide +kernel
theorem dX6_drawn_9 : DD cX6_drawn 9 (.ireturn) 1 10 := by decide +kernel
theorem dX6_drawn_10 : DD cX6_drawn 10 (.iload_n 1) 1 11 := by decide +kernel
theorem dX6_drawn_11 : DD cX6_drawn 11 (.iconst 0) 1 12 := by decide +kernel
theorem dX6_drawn_12 : DD cX6_drawn 12 (.bipush 60) 2 14 := by decide +kernel
theorem dX6_drawn_14 : DD cX6_drawn 14 (.invokestatic 53) 3 17 := by decide +kernel
theorem dX6_drawn_17 : DD cX6_drawn 17 (.ifCond .eq 22) 3 20 := by decide +kernel
theorem dX6_drawn_20 : DD cX6_drawn 20 (.iload_n 2) 1 21 := by decide +kernel
theorem dX6_drawn_21 : DD cX6_drawn 21 (.iconst 1) 1 22 := by decide +kernel
theorem dX6_drawn_22 : DD cX6_drawn 22 (.ldc 208) 2 24 := by decide +kernel
theorem dX6_drawn_24 : DD cX6_drawn 24 (.invokestatic 53) 3 27 := by decide +kernel
theorem dX6_drawn_27 : DD cX6_drawn 27 (.ifCond .eq 12) 3 30 := by decide +kernel
theorem dX6_drawn_30 : DD cX6_drawn 30 (.iload_n 3) 1 31 := by decide +kernel
theorem dX6_drawn_31 : DD cX6_drawn 31 (.iconst 0) 1 32 := by decide +kernel
theorem dX6_drawn_32 : DD cX6_drawn 32 (.iconst 1) 1 33 := by decide +kernel
theorem dX6_drawn_33 : DD cX6_drawn 33 (.invokestatic 53) 3 36 := by decide +kernel
theorem dX6_drawn_36 : DD cX6_drawn 36 (.ifCond .ne 6) 3 39 := by decide +kernel
theorem dX6_drawn_39 : DD cX6_drawn 39 (.ldc 61) 2 41 := by decide +kernel
theorem dX6_drawn_41 : DD cX6_drawn 41 (.ireturn) 1 42 := by decide +kernel
theorem dX6_drawn_42 : DD cX6_drawn 42 (.aload_n 0) 1 43 := by decide +kernel
theorem dX6_drawn_43 : DD cX6_drawn 43 (.getfield 25) 3 46 := by decide +kernel
theorem dX6_drawn_46 : DD cX6_drawn 46 (.iconst 0) 1 47 := by decide +kernel
theorem dX6_drawn_47 : DD cX6_drawn 47 (.aload_n 0) 1 48 := by decide +kernel
theorem dX6_drawn_48 : DD cX6_drawn 48 (.getfield 31) 3 51 := by decide +kernel
theorem dX6_drawn_51 : DD cX6_drawn 51 (.iconst 0) 1 52 := by decide +kernel
theorem dX6_drawn_52 : DD cX6_drawn 52 (.invokestatic 135) 3 55 := by decide +kernel
theorem dX6_drawn_55 : DD cX6_drawn 55 (.iload_n 2) 1 56 := by decide +kernel
theorem dX6_drawn_56 : DD cX6_drawn 56 (.i2l) 1 57 := by decide +kernel
theorem dX6_drawn_57 : DD cX6_drawn 57 (.lstore 4) 2 59 := by decide +kernel
theorem dX6_drawn_59 : DD cX6_drawn 59 (.iconst 0) 1 60 := by decide +kernel
theorem dX6_drawn_60 : DD cX6_drawn 60 (.istore 6) 2 62 := by decide +kernel
theorem dX6_drawn_62 : DD cX6_drawn 62 (.iconst 0) 1 63 := by decide +kernel
theorem dX6_drawn_63 : DD cX6_drawn 63 (.istore 7) 2 65 := by decide +kernel
theorem dX6_drawn_65 : DD cX6_drawn 65 (.iload 7) 2 67 := by decide +kernel
theorem dX6_drawn_67 : DD cX6_drawn 67 (.iload_n 1) 1 68 := by decide +kernel
theorem dX6_drawn_68 : DD cX6_drawn 68 (.if_icmp .ge 152) 3 71 := by decide +kernel
theorem dX6_drawn_71 : DD cX6_drawn 71 (.lload 4) 2 73 := by decide +kernel
theorem dX6_drawn_73 : DD cX6_drawn 73 (.ldc2_w 209) 3 76 := by decide +kernel
theorem dX6_drawn_76 : DD cX6_drawn 76 (.lmul) 1 77 := by decide +kernel
theorem dX6_drawn_77 : DD cX6_drawn 77 (.ldc2_w 211) 3 80 := by decide +kernel
theorem dX6_drawn_80 : DD cX6_drawn 80 (.lrem) 1 81 := by decide +kernel
theorem dX6_drawn_81 : DD cX6_drawn 81 (.lstore 4) 2 83 := by decide +kernel
theorem dX6_drawn_83 : DD cX6_drawn 83 (.lload 4) 2 85 := by decide +kernel
theorem dX6_drawn_85 : DD cX6_drawn 85 (.aload_n 0) 1 86 := by decide +kernel
theorem dX6_drawn_86 : DD cX6_drawn 86 (.getfield 25) 3 89 := by decide +kernel
theorem dX6_drawn_89 : DD cX6_drawn 89 (.iconst 2) 1 90 := by decide +kernel
theorem dX6_drawn_90 : DD cX6_drawn 90 (.iaload) 1 91 := by decide +kernel
theorem dX6_drawn_91 : DD cX6_drawn 91 (.i2l) 1 92 := by decide +kernel
theorem dX6_drawn_92 : DD cX6_drawn 92 (.lrem) 1 93 := by decide +kernel
theorem dX6_drawn_93 : DD cX6_drawn 93 (.l2i) 1 94 := by decide +kernel
theorem dX6_drawn_94 : DD cX6_drawn 94 (.istore 8) 2 96 := by decide +kernel
theorem dX6_drawn_96 : DD cX6_drawn 96 (.aload_n 0) 1 97 := by decide +kernel
theorem dX6_drawn_97 : DD cX6_drawn 97 (.getfield 31) 3 100 := by decide +kernel
theorem dX6_drawn_100 : DD cX6_drawn 100 (.iconst 5) 1 101 := by decide +kernel
theorem dX6_drawn_101 : DD cX6_drawn 101 (.iconst 5) 1 102 := by decide +kernel
theorem dX6_drawn_102 : DD cX6_drawn 102 (.iload 8) 2 104 := by decide +kernel
theorem dX6_drawn_104 : DD cX6_drawn 104 (.imul) 1 105 := by decide +kernel
theorem dX6_drawn_105 : DD cX6_drawn 105 (.iadd) 1 106 := by decide +kernel
theorem dX6_drawn_106 : DD cX6_drawn 106 (.iconst 4) 1 107 := by decide +kernel
theorem dX6_drawn_107 : DD cX6_drawn 107 (.iadd) 1 108 := by decide +kernel
theorem dX6_drawn_108 : DD cX6_drawn 108 (.iaload) 1 109 := by decide +kernel
theorem dX6_drawn_109 : DD cX6_drawn 109 (.ifCond .ne 34) 3 112 := by decide +kernel
theorem dX6_drawn_112 : DD cX6_drawn 112 (.aload_n 0) 1 113 := by decide +kernel
theorem dX6_drawn_113 : DD cX6_drawn 113 (.getfield 31) 3 116 := by decide +kernel
theorem dX6_drawn_116 : DD cX6_drawn 116 (.iconst 5) 1 117 := by decide +kernel
theorem dX6_drawn_117 : DD cX6_drawn 117 (.iconst 5) 1 118 := by decide +kernel
theorem dX6_drawn_118 : DD cX6_drawn 118 (.iload 8) 2 120 := by decide +kernel
theorem dX6_drawn_120 : DD cX6_drawn 120 (.imul) 1 121 := by decide +kernel
theorem dX6_drawn_121 : DD cX6_drawn 121 (.iadd) 1 122 := by decide +kernel
theorem dX6_drawn_122 : DD cX6_drawn 122 (.iconst 4) 1 123 := by decide +kernel
theorem dX6_drawn_123 : DD cX6_drawn 123 (.iadd) 1 124 := by decide +kernel
theorem dX6_drawn_124 : DD cX6_drawn 124 (.iconst 1) 1 125 := by decide +kernel
theorem dX6_drawn_125 : DD cX6_drawn 125 (.iastore) 1 126 := by decide +kernel
theorem dX6_drawn_126 : DD cX6_drawn 126 (.aload_n 0) 1 127 := by decide +kernel
theorem dX6_drawn_127 : DD cX6_drawn 127 (.getfield 31) 3 130 := by decide +kernel
theorem dX6_drawn_130 : DD cX6_drawn 130 (.iconst 5) 1 131 := by decide +kernel
theorem dX6_drawn_131 : DD cX6_drawn 131 (.iconst 5) 1 132 := by decide +kernel
theorem dX6_drawn_132 : DD cX6_drawn 132 (.iload 8) 2 134 := by decide +kernel
theorem dX6_drawn_134 : DD cX6_drawn 134 (.imul) 1 135 := by decide +kernel
theorem dX6_drawn_135 : DD cX6_drawn 135 (.iadd) 1 136 := by decide +kernel
theorem dX6_drawn_136 : DD cX6_drawn 136 (.iconst 3) 1 137 := by decide +kernel
theorem dX6_drawn_137 : DD cX6_drawn 137 (.iadd) 1 138 := by decide +kernel
theorem dX6_drawn_138 : DD cX6_drawn 138 (.iconst 0) 1 139 := by decide +kernel
theorem dX6_drawn_139 : DD cX6_drawn 139 (.iastore) 1 140 := by decide +kernel
theorem dX6_drawn_140 : DD cX6_drawn 140 (.goto 23) 3 143 := by decide +kernel
theorem dX6_drawn_143 : DD cX6_drawn 143 (.lload 4) 2 145 := by decide +kernel
theorem dX6_drawn_145 : DD cX6_drawn 145 (.ldc2_w 213) 3 148 := by decide +kernel
theorem dX6_drawn_148 : DD cX6_drawn 148 (.lrem) 1 149 := by decide +kernel
theorem dX6_drawn_149 : DD cX6_drawn 149 (.lconst 0) 1 150 := by decide +kernel
theorem dX6_drawn_150 : DD cX6_drawn 150 (.lcmp) 1 151 := by decide +kernel
theorem dX6_drawn_151 : DD cX6_drawn 151 (.ifCond .ne 12) 3 154 := by decide +kernel
theorem dX6_drawn_154 : DD cX6_drawn 154 (.aload_n 0) 1 155 := by decide +kernel
theorem dX6_drawn_155 : DD cX6_drawn 155 (.getfield 31) 3 158 := by decide +kernel
theorem dX6_drawn_158 : DD cX6_drawn 158 (.iload 8) 2 160 := by decide +kernel
theorem dX6_drawn_160 : DD cX6_drawn 160 (.invokestatic 149) 3 163 := by decide +kernel
theorem dX6_drawn_163 : DD cX6_drawn 163 (.aload_n 0) 1 164 := by decide +kernel
theorem dX6_drawn_164 : DD cX6_drawn 164 (.getfield 31) 3 167 := by decide +kernel
theorem dX6_drawn_167 : DD cX6_drawn 167 (.iconst 1) 1 168 := by decide +kernel
theorem dX6_drawn_168 : DD cX6_drawn 168 (.iaload) 1 169 := by decide +kernel
theorem dX6_drawn_169 : DD cX6_drawn 169 (.ifCond .ne 18) 3 172 := by decide +kernel
theorem dX6_drawn_172 : DD cX6_drawn 172 (.aload_n 0) 1 173 := by decide +kernel
theorem dX6_drawn_173 : DD cX6_drawn 173 (.getfield 31) 3 176 := by decide +kernel
theorem dX6_drawn_176 : DD cX6_drawn 176 (.iconst 1) 1 177 := by decide +kernel
theorem dX6_drawn_177 : DD cX6_drawn 177 (.lload 4) 2 179 := by decide +kernel
theorem dX6_drawn_179 : DD cX6_drawn 179 (.ldc2_w 215) 3 182 := by decide +kernel
theorem dX6_drawn_182 : DD cX6_drawn 182 (.lrem) 1 183 := by decide +kernel
theorem dX6_drawn_183 : DD cX6_drawn 183 (.l2i) 1 184 := by decide +kernel
theorem dX6_drawn_184 : DD cX6_drawn 184 (.iconst 1) 1 185 := by decide +kernel
theorem dX6_drawn_185 : DD cX6_drawn 185 (.iadd) 1 186 := by decide +kernel
theorem dX6_drawn_186 : DD cX6_drawn 186 (.iastore) 1 187 := by decide +kernel
theorem dX6_drawn_187 : DD cX6_drawn 187 (.aload_n 0) 1 188 := by decide +kernel
theorem dX6_drawn_188 : DD cX6_drawn 188 (.getfield 31) 3 191 := by decide +kernel
theorem dX6_drawn_191 : DD cX6_drawn 191 (.iconst 0) 1 192 := by decide +kernel
theorem dX6_drawn_192 : DD cX6_drawn 192 (.invokestatic 174) 3 195 := by decide +kernel
theorem dX6_drawn_195 : DD cX6_drawn 195 (.iload 6) 2 197 := by decide +kernel
theorem dX6_drawn_197 : DD cX6_drawn 197 (.aload_n 0) 1 198 := by decide +kernel
theorem dX6_drawn_198 : DD cX6_drawn 198 (.getfield 31) 3 201 := by decide +kernel
theorem dX6_drawn_201 : DD cX6_drawn 201 (.iconst 1) 1 202 := by decide +kernel
theorem dX6_drawn_202 : DD cX6_drawn 202 (.iaload) 1 203 := by decide +kernel
theorem dX6_drawn_203 : DD cX6_drawn 203 (.ifCond .ne 7) 3 206 := by decide +kernel
theorem dX6_drawn_206 : DD cX6_drawn 206 (.iconst 1) 1 207 := by decide +kernel
theorem dX6_drawn_207 : DD cX6_drawn 207 (.goto 4) 3 210 := by decide +kernel
theorem dX6_drawn_210 : DD cX6_drawn 210 (.iconst 0) 1 211 := by decide +kernel
theorem dX6_drawn_211 : DD cX6_drawn 211 (.iadd) 1 212 := by decide +kernel
theorem dX6_drawn_212 : DD cX6_drawn 212 (.istore 6) 2 214 := by decide +kernel
theorem dX6_drawn_214 : DD cX6_drawn 214 (.iinc 7 1) 3 217 := by decide +kernel
theorem dX6_drawn_217 : DD cX6_drawn 217 (.goto (-152)) 3 220 := by decide +kernel
theorem dX6_drawn_220 : DD cX6_drawn 220 (.iload_n 3) 1 221 := by decide +kernel
theorem dX6_drawn_221 : DD cX6_drawn 221 (.ifCond .ne 8) 3 224 := by decide +kernel
theorem dX6_drawn_224 : DD cX6_drawn 224 (.iload 6) 2 226 := by decide +kernel
theorem dX6_drawn_226 : DD cX6_drawn 226 (.goto 13) 3 229 := by decide +kernel
theorem dX6_drawn_229 : DD cX6_drawn 229 (.aload_n 0) 1 230 := by decide +kernel
theorem dX6_drawn_230 : DD cX6_drawn 230 (.getfield 31) 3 233 := by decide +kernel
theorem dX6_drawn_233 : DD cX6_drawn 233 (.invokestatic 181) 3 236 := by decide +kernel
theorem dX6_drawn_236 : DD cX6_drawn 236 (.invokestatic 197) 3 239 := by decide +kernel
theorem dX6_drawn_239 : DD cX6_drawn 239 (.ireturn) 1 240 := by decide +kernel
def fX6_drawn_L65 (p1 : Int32) (p2 : Int32) (p3 : Int32) : Nat → Int32 → Int32 → Int64 → AH → (Int32 → Int32 → Int64 → AH → Option (Int32 × AH)) → Option (Int32 × AH)
  | 0, _, _, _, _, _ => none
  | n + 1, x7, x6, x4, h, k => (if x7 < p1 then (chk (¬ (2147483647 : Int64) = 0) (vl ((x4 * (16807 : Int64)) - (x4 * (16807 : Int64)) / (2147483647 : Int64) * (2147483647 : Int64)) fun z201 => (chk (inb (2 : Int32) (ln 284)) (chk (¬ (Int32.toInt64 (h 284 (Int32.toNatClampNeg (2 : Int32)))) = 0) (vl (Int64.toInt32 (z201 - z201 / (Int32.toInt64 (h 284 (Int32.toNatClampNeg (2 : Int32)))) * (Int32.toInt64 (h 284 (Int32.toNatClampNeg (2 : Int32)))))) fun z202 => (chk (inb (((5 : Int32) + ((5 : Int32) * z202)) + (4 : Int32)) (ln 286)) (if (h 286 (Int32.toNatClampNeg (((5 : Int32) + ((5 : Int32) * z202)) + (4 : Int32)))) = 0 then (chk (inb (((5 : Int32) + ((5 : Int32) * z202)) + (4 : Int32)) (ln 286)) (sto (hs h 286 (Int32.toNatClampNeg (((5 : Int32) + ((5 : Int32) * z202)) + (4 : Int32))) (1 : Int32)) fun h203 => (chk (inb (((5 : Int32) + ((5 : Int32) * z202)) + (3 : Int32)) (ln 286)) (sto (hs h203 286 (Int32.toNatClampNeg (((5 : Int32) + ((5 : Int32) * z202)) + (3 : Int32))) (0 : Int32)) fun h204 => (chk (inb (1 : Int32) (ln 286)) (if (h204 286 (Int32.toNatClampNeg (1 : Int32))) = 0 then (chk (¬ (99 : Int64) = 0) (chk (inb (1 : Int32) (ln 286)) (sto (hs h204 286 (Int32.toNatClampNeg (1 : Int32)) ((Int64.toInt32 (z201 - z201 / (99 : Int64) * (99 : Int64))) + (1 : Int32))) fun h205 => (bnd (fX6_passes 286 (0 : Int32) h205) fun _ h206 => (chk (inb (1 : Int32) (ln 286)) (if (h206 286 (Int32.toNatClampNeg (1 : Int32))) = 0 then (vl (x6 + (1 : Int32)) fun z207 => (vl (x7 + (1 : Int32)) fun z208 => fX6_drawn_L65 p1 p2 p3 n z208 z207 z201 h206 k)) else (vl (x6 + (0 : Int32)) fun z209 => (vl (x7 + (1 : Int32)) fun z210 => fX6_drawn_L65 p1 p2 p3 n z210 z209 z201 h206 k)))))))) else (bnd (fX6_passes 286 (0 : Int32) h204) fun _ h211 => (chk (inb (1 : Int32) (ln 286)) (if (h211 286 (Int32.toNatClampNeg (1 : Int32))) = 0 then (vl (x6 + (1 : Int32)) fun z212 => (vl (x7 + (1 : Int32)) fun z213 => fX6_drawn_L65 p1 p2 p3 n z213 z212 z201 h211 k)) else (vl (x6 + (0 : Int32)) fun z214 => (vl (x7 + (1 : Int32)) fun z215 => fX6_drawn_L65 p1 p2 p3 n z215 z214 z201 h211 k))))))))))) else (chk (¬ (5 : Int64) = 0) (if (lg_cmp (z201 - z201 / (5 : Int64) * (5 : Int64)) (0 : Int64)) = 0 then (bnd (fX6_drops 286 z202 h) fun _ h216 => (chk (inb (1 : Int32) (ln 286)) (if (h216 286 (Int32.toNatClampNeg (1 : Int32))) = 0 then (chk (¬ (99 : Int64) = 0) (chk (inb (1 : Int32) (ln 286)) (sto (hs h216 286 (Int32.toNatClampNeg (1 : Int32)) ((Int64.toInt32 (z201 - z201 / (99 : Int64) * (99 : Int64))) + (1 : Int32))) fun h217 => (bnd (fX6_passes 286 (0 : Int32) h217) fun _ h218 => (chk (inb (1 : Int32) (ln 286)) (if (h218 286 (Int32.toNatClampNeg (1 : Int32))) = 0 then (vl (x6 + (1 : Int32)) fun z219 => (vl (x7 + (1 : Int32)) fun z220 => fX6_drawn_L65 p1 p2 p3 n z220 z219 z201 h218 k)) else (vl (x6 + (0 : Int32)) fun z221 => (vl (x7 + (1 : Int32)) fun z222 => fX6_drawn_L65 p1 p2 p3 n z222 z221 z201 h218 k)))))))) else (bnd (fX6_passes 286 (0 : Int32) h216) fun _ h223 => (chk (inb (1 : Int32) (ln 286)) (if (h223 286 (Int32.toNatClampNeg (1 : Int32))) = 0 then (vl (x6 + (1 : Int32)) fun z224 => (vl (x7 + (1 : Int32)) fun z225 => fX6_drawn_L65 p1 p2 p3 n z225 z224 z201 h223 k)) else (vl (x6 + (0 : Int32)) fun z226 => (vl (x7 + (1 : Int32)) fun z227 => fX6_drawn_L65 p1 p2 p3 n z227 z226 z201 h223 k)))))))) else (chk (inb (1 : Int32) (ln 286)) (if (h 286 (Int32.toNatClampNeg (1 : Int32))) = 0 then (chk (¬ (99 : Int64) = 0) (chk (inb (1 : Int32) (ln 286)) (sto (hs h 286 (Int32.toNatClampNeg (1 : Int32)) ((Int64.toInt32 (z201 - z201 / (99 : Int64) * (99 : Int64))) + (1 : Int32))) fun h228 => (bnd (fX6_passes 286 (0 : Int32) h228) fun _ h229 => (chk (inb (1 : Int32) (ln 286)) (if (h229 286 (Int32.toNatClampNeg (1 : Int32))) = 0 then (vl (x6 + (1 : Int32)) fun z230 => (vl (x7 + (1 : Int32)) fun z231 => fX6_drawn_L65 p1 p2 p3 n z231 z230 z201 h229 k)) else (vl (x6 + (0 : Int32)) fun z232 => (vl (x7 + (1 : Int32)) fun z233 => fX6_drawn_L65 p1 p2 p3 n z233 z232 z201 h229 k)))))))) else (bnd (fX6_passes 286 (0 : Int32) h) fun _ h234 => (chk (inb (1 : Int32) (ln 286)) (if (h234 286 (Int32.toNatClampNeg (1 : Int32))) = 0 then (vl (x6 + (1 : Int32)) fun z235 => (vl (x7 + (1 : Int32)) fun z236 => fX6_drawn_L65 p1 p2 p3 n z236 z235 z201 h234 k)) else (vl (x6 + (0 : Int32)) fun z237 => (vl (x7 + (1 : Int32)) fun z238 => fX6_drawn_L65 p1 p2 p3 n z238 z237 z201 h234 k)))))))))))))))) else k x7 x6 x4 h)
def fX6_drawn (a1 : Int32) (a2 : Int32) (a3 : Int32) (h : AH) : Option (Int32 × AH) := (bnd (fX6_isEstuary  h) fun v2 h1 => (if v2 = 0 then (some ((-1000002 : Int32), h1)) else (bnd (fX6_in a1 (0 : Int32) (60 : Int32) h1) fun v4 h3 => (if v4 = 0 then (some ((-1000001 : Int32), h3)) else (bnd (fX6_in a2 (1 : Int32) (999999 : Int32) h3) fun v6 h5 => (if v6 = 0 then (some ((-1000001 : Int32), h5)) else (bnd (fX6_in a3 (0 : Int32) (1 : Int32) h5) fun v8 h7 => (if v8 = 0 then (some ((-1000001 : Int32), h7)) else (bnd (fX6_copies 284 (0 : Int32) 286 (0 : Int32) h7) fun _ h9 => (vl (Int32.toInt64 a2) fun z10 => (fX6_drawn_L65 a1 a2 a3 FU (0 : Int32) (0 : Int32) z10 h9 fun z11 z12 z13 h14 => (if a3 = 0 then (some (z12, h14)) else (bnd (fX6_holding 286 h14) fun v16 h15 => (bnd (fX6_ones v16 h15) fun v18 h17 => (some (v18, h17))))))))))))))))
set_option maxHeartbeats 4000000 in
theorem gX6_drawn_L65 {K : MC} {X : WX} {p1 : Int32} {p2 : Int32} {p3 : Int32} (hK : Ok K X RX6 cX6_drawn 9 (some .int) 4) {k : Int32 → Int32 → Int64 → AH → Option (Int32 × AH)} (hk : ∀ (x7 : Int32) (x6 : Int32) (x4 : Int64) (h : AH), J K X 9 (Zm K X) eI 220 [(7, .int x7), (6, .int x6), (4, .long x4), (0, .ref (X.1 + 278)), (1, .int p1), (2, .int p2), (3, .int p3)] [] h (k x7 x6 x4 h)) : ∀ (n : Nat) (x7 : Int32) (x6 : Int32) (x4 : Int64) (h : AH), J K X 9 (Zm K X) eI 65 [(7, .int x7), (6, .int x6), (4, .long x4), (0, .ref (X.1 + 278)), (1, .int p1), (2, .int p2), (3, .int p3)] [] h (fX6_drawn_L65 p1 p2 p3 n x7 x6 x4 h k) := by
  intro n
  induction n with
  | zero => exact fun _ _ _ _ => J_none
  | succ n ih =>
    intro x7 x6 x4 h
    rw [fX6_drawn_L65]
    refine J_iload hK dX6_drawn_65 0 rfl ?_
    refine J_iload_n hK dX6_drawn_67 4 rfl ?_
    refine J_icmp_ge (tgt := 220) hK dX6_drawn_68 (by decide) ?_ ?_
    · refine J_lload hK dX6_drawn_71 2 rfl ?_
      refine J_ldc2 hK dX6_drawn_73 kK_X6_209 ?_
      refine J_lmul hK dX6_drawn_76 ?_
      refine J_ldc2 hK dX6_drawn_77 kK_X6_211 ?_
      refine J_lrem hK dX6_drawn_80 ?_
      refine J_lstoreV (lw := [(7, .int x7), (6, .int x6), (0, .ref (X.1 + 278)), (1, .int p1), (2, .int p2), (3, .int p3)]) hK dX6_drawn_81 (by decide) rfl (fun z201 => ?_)
      refine J_lload hK dX6_drawn_83 0 rfl ?_
      refine J_aload_n hK dX6_drawn_85 3 rfl ?_
      refine rF_X6_25 (q2 := 284) hK dX6_drawn_86 kd_278 rfl ?_
      refine J_iconst hK dX6_drawn_89 ci_2 ?_
      refine J_iald hK dX6_drawn_90 kd_284 (fun _ => ?_)
      refine J_i2l hK dX6_drawn_91 ?_
      refine J_lrem hK dX6_drawn_92 ?_
      refine J_l2i hK dX6_drawn_93 ?_
      refine J_istoreV (lw := [(4, .long z201), (7, .int x7), (6, .int x6), (0, .ref (X.1 + 278)), (1, .int p1), (2, .int p2), (3, .int p3)]) hK dX6_drawn_94 (by decide) rfl (fun z202 => ?_)
      refine J_aload_n hK dX6_drawn_96 4 rfl ?_
      refine rF_X6_31 (q2 := 286) hK dX6_drawn_97 kd_278 rfl ?_
      refine J_iconst hK dX6_drawn_100 ci_5 ?_
      refine J_iconst hK dX6_drawn_101 ci_5 ?_
      refine J_iload hK dX6_drawn_102 0 rfl ?_
      refine J_imul hK dX6_drawn_104 ?_
      refine J_iadd hK dX6_drawn_105 ?_
      refine J_iconst hK dX6_drawn_106 ci_4 ?_
      refine J_iadd hK dX6_drawn_107 ?_
      refine J_iald hK dX6_drawn_108 kd_286 (fun _ => ?_)
      refine J_if_ne (tgt := 143) hK dX6_drawn_109 (by decide) ?_ ?_
      · refine J_aload_n hK dX6_drawn_112 4 rfl ?_
        refine rF_X6_31 (q2 := 286) hK dX6_drawn_113 kd_278 rfl ?_
        refine J_iconst hK dX6_drawn_116 ci_5 ?_
        refine J_iconst hK dX6_drawn_117 ci_5 ?_
        refine J_iload hK dX6_drawn_118 0 rfl ?_
        refine J_imul hK dX6_drawn_120 ?_
        refine J_iadd hK dX6_drawn_121 ?_
        refine J_iconst hK dX6_drawn_122 ci_4 ?_
        refine J_iadd hK dX6_drawn_123 ?_
        refine J_iconst hK dX6_drawn_124 ci_1 ?_
        refine J_iast hK dX6_drawn_125 kd_286 (fun h203 => ?_)
        refine J_aload_n hK dX6_drawn_126 4 rfl ?_
        refine rF_X6_31 (q2 := 286) hK dX6_drawn_127 kd_278 rfl ?_
        refine J_iconst hK dX6_drawn_130 ci_5 ?_
        refine J_iconst hK dX6_drawn_131 ci_5 ?_
        refine J_iload hK dX6_drawn_132 0 rfl ?_
        refine J_imul hK dX6_drawn_134 ?_
        refine J_iadd hK dX6_drawn_135 ?_
        refine J_iconst hK dX6_drawn_136 ci_3 ?_
        refine J_iadd hK dX6_drawn_137 ?_
        refine J_iconst hK dX6_drawn_138 ci_0 ?_
        refine J_iast hK dX6_drawn_139 kd_286 (fun h204 => ?_)
        refine J_goto (len := 0) (tgt := 163) hK dX6_drawn_140 (by decide) ?_
        refine J_aload_n hK dX6_drawn_163 4 rfl ?_
        refine rF_X6_31 (q2 := 286) hK dX6_drawn_164 kd_278 rfl ?_
        refine J_iconst hK dX6_drawn_167 ci_1 ?_
        refine J_iald hK dX6_drawn_168 kd_286 (fun _ => ?_)
        refine J_if_ne (tgt := 187) hK dX6_drawn_169 (by decide) ?_ ?_
        · refine J_aload_n hK dX6_drawn_172 4 rfl ?_
          refine rF_X6_31 (q2 := 286) hK dX6_drawn_173 kd_278 rfl ?_
          refine J_iconst hK dX6_drawn_176 ci_1 ?_
          refine J_lload hK dX6_drawn_177 1 rfl ?_
          refine J_ldc2 hK dX6_drawn_179 kK_X6_215 ?_
          refine J_lrem hK dX6_drawn_182 ?_
          refine J_l2i hK dX6_drawn_183 ?_
          refine J_iconst hK dX6_drawn_184 ci_1 ?_
          refine J_iadd hK dX6_drawn_185 ?_
          refine J_iast hK dX6_drawn_186 kd_286 (fun h205 => ?_)
          refine J_aload_n hK dX6_drawn_187 4 rfl ?_
          refine rF_X6_31 (q2 := 286) hK dX6_drawn_188 kd_278 rfl ?_
          refine J_iconst hK dX6_drawn_191 ci_0 ?_
          refine J_callSv (As := [.ref (X.1 + 286), .int (0 : Int32)]) (st := []) hK dX6_drawn_192 kB_X6_174 kS_X6_passes (by decide) rfl rfl (Nat.le_of_ble_eq_true rfl) (fun _ _ hf => uX6_passes kd_286 hf) (fun _ h206 => ?_)
          refine J_iload hK dX6_drawn_195 3 rfl ?_
          refine J_aload_n hK dX6_drawn_197 4 rfl ?_
          refine rF_X6_31 (q2 := 286) hK dX6_drawn_198 kd_278 rfl ?_
          refine J_iconst hK dX6_drawn_201 ci_1 ?_
          refine J_iald hK dX6_drawn_202 kd_286 (fun _ => ?_)
          refine J_if_ne (tgt := 210) hK dX6_drawn_203 (by decide) ?_ ?_
          · refine J_iconst hK dX6_drawn_206 ci_1 ?_
            refine J_goto (len := 0) (tgt := 211) hK dX6_drawn_207 (by decide) ?_
            refine J_iadd hK dX6_drawn_211 ?_
            refine J_istoreV (lw := [(8, .int z202), (4, .long z201), (7, .int x7), (0, .ref (X.1 + 278)), (1, .int p1), (2, .int p2), (3, .int p3)]) hK dX6_drawn_212 (by decide) rfl (fun z207 => ?_)
            refine J_iinc (lw := [(6, .int z207), (8, .int z202), (4, .long z201), (0, .ref (X.1 + 278)), (1, .int p1), (2, .int p2), (3, .int p3)]) hK dX6_drawn_214 3 rfl (by decide) ci_1 rfl (fun z208 => ?_)
            refine J_goto (len := 0) (tgt := 65) hK dX6_drawn_217 (by decide) ?_
            exact J_sub [0, 1, 3, 4, 5, 6, 7] rfl (ih _ _ _ _)
          · refine J_iconst hK dX6_drawn_210 ci_0 ?_
            refine J_iadd hK dX6_drawn_211 ?_
            refine J_istoreV (lw := [(8, .int z202), (4, .long z201), (7, .int x7), (0, .ref (X.1 + 278)), (1, .int p1), (2, .int p2), (3, .int p3)]) hK dX6_drawn_212 (by decide) rfl (fun z209 => ?_)
            refine J_iinc (lw := [(6, .int z209), (8, .int z202), (4, .long z201), (0, .ref (X.1 + 278)), (1, .int p1), (2, .int p2), (3, .int p3)]) hK dX6_drawn_214 3 rfl (by decide) ci_1 rfl (fun z210 => ?_)
            refine J_goto (len := 0) (tgt := 65) hK dX6_drawn_217 (by decide) ?_
            exact J_sub [0, 1, 3, 4, 5, 6, 7] rfl (ih _ _ _ _)
        · refine J_aload_n hK dX6_drawn_187 4 rfl ?_
          refine rF_X6_31 (q2 := 286) hK dX6_drawn_188 kd_278 rfl ?_
          refine J_iconst hK dX6_drawn_191 ci_0 ?_
          refine J_callSv (As := [.ref (X.1 + 286), .int (0 : Int32)]) (st := []) hK dX6_drawn_192 kB_X6_174 kS_X6_passes (by decide) rfl rfl (Nat.le_of_ble_eq_true rfl) (fun _ _ hf => uX6_passes kd_286 hf) (fun _ h211 => ?_)
          refine J_iload hK dX6_drawn_195 3 rfl ?_
          refine J_aload_n hK dX6_drawn_197 4 rfl ?_
          refine rF_X6_31 (q2 := 286) hK dX6_drawn_198 kd_278 rfl ?_
          refine J_iconst hK dX6_drawn_201 ci_1 ?_
          refine J_iald hK dX6_drawn_202 kd_286 (fun _ => ?_)
          refine J_if_ne (tgt := 210) hK dX6_drawn_203 (by decide) ?_ ?_
          · refine J_iconst hK dX6_drawn_206 ci_1 ?_
            refine J_goto (len := 0) (tgt := 211) hK dX6_drawn_207 (by decide) ?_
            refine J_iadd hK dX6_drawn_211 ?_
            refine J_istoreV (lw := [(8, .int z202), (4, .long z201), (7, .int x7), (0, .ref (X.1 + 278)), (1, .int p1), (2, .int p2), (3, .int p3)]) hK dX6_drawn_212 (by decide) rfl (fun z212 => ?_)
            refine J_iinc (lw := [(6, .int z212), (8, .int z202), (4, .long z201), (0, .ref (X.1 + 278)), (1, .int p1), (2, .int p2), (3, .int p3)]) hK dX6_drawn_214 3 rfl (by decide) ci_1 rfl (fun z213 => ?_)
            refine J_goto (len := 0) (tgt := 65) hK dX6_drawn_217 (by decide) ?_
            exact J_sub [0, 1, 3, 4, 5, 6, 7] rfl (ih _ _ _ _)
          · refine J_iconst hK dX6_drawn_210 ci_0 ?_
            refine J_iadd hK dX6_drawn_211 ?_
            refine J_istoreV (lw := [(8, .int z202), (4, .long z201), (7, .int x7), (0, .ref (X.1 + 278)), (1, .int p1), (2, .int p2), (3, .int p3)]) hK dX6_drawn_212 (by decide) rfl (fun z214 => ?_)
            refine J_iinc (lw := [(6, .int z214), (8, .int z202), (4, .long z201), (0, .ref (X.1 + 278)), (1, .int p1), (2, .int p2), (3, .int p3)]) hK dX6_drawn_214 3 rfl (by decide) ci_1 rfl (fun z215 => ?_)
            refine J_goto (len := 0) (tgt := 65) hK dX6_drawn_217 (by decide) ?_
            exact J_sub [0, 1, 3, 4, 5, 6, 7] rfl (ih _ _ _ _)
      · refine J_lload hK dX6_drawn_143 1 rfl ?_
        refine J_ldc2 hK dX6_drawn_145 kK_X6_213 ?_
        refine J_lrem hK dX6_drawn_148 ?_
        refine J_lconst (v := 0) hK dX6_drawn_149 rfl ?_
        refine J_lcmp hK dX6_drawn_150 ?_
        refine J_if_ne (tgt := 163) hK dX6_drawn_151 (by decide) ?_ ?_
        · refine J_aload_n hK dX6_drawn_154 4 rfl ?_
          refine rF_X6_31 (q2 := 286) hK dX6_drawn_155 kd_278 rfl ?_
          refine J_iload hK dX6_drawn_158 0 rfl ?_
          refine J_callSv (As := [.ref (X.1 + 286), .int z202]) (st := []) hK dX6_drawn_160 kB_X6_149 kS_X6_drops (by decide) rfl rfl (Nat.le_of_ble_eq_true rfl) (fun _ _ hf => uX6_drops kd_286 hf) (fun _ h216 => ?_)
          refine J_aload_n hK dX6_drawn_163 4 rfl ?_
          refine rF_X6_31 (q2 := 286) hK dX6_drawn_164 kd_278 rfl ?_
          refine J_iconst hK dX6_drawn_167 ci_1 ?_
          refine J_iald hK dX6_drawn_168 kd_286 (fun _ => ?_)
          refine J_if_ne (tgt := 187) hK dX6_drawn_169 (by decide) ?_ ?_
          · refine J_aload_n hK dX6_drawn_172 4 rfl ?_
            refine rF_X6_31 (q2 := 286) hK dX6_drawn_173 kd_278 rfl ?_
            refine J_iconst hK dX6_drawn_176 ci_1 ?_
            refine J_lload hK dX6_drawn_177 1 rfl ?_
            refine J_ldc2 hK dX6_drawn_179 kK_X6_215 ?_
            refine J_lrem hK dX6_drawn_182 ?_
            refine J_l2i hK dX6_drawn_183 ?_
            refine J_iconst hK dX6_drawn_184 ci_1 ?_
            refine J_iadd hK dX6_drawn_185 ?_
            refine J_iast hK dX6_drawn_186 kd_286 (fun h217 => ?_)
            refine J_aload_n hK dX6_drawn_187 4 rfl ?_
            refine rF_X6_31 (q2 := 286) hK dX6_drawn_188 kd_278 rfl ?_
            refine J_iconst hK dX6_drawn_191 ci_0 ?_
            refine J_callSv (As := [.ref (X.1 + 286), .int (0 : Int32)]) (st := []) hK dX6_drawn_192 kB_X6_174 kS_X6_passes (by decide) rfl rfl (Nat.le_of_ble_eq_true rfl) (fun _ _ hf => uX6_passes kd_286 hf) (fun _ h218 => ?_)
            refine J_iload hK dX6_drawn_195 3 rfl ?_
            refine J_aload_n hK dX6_drawn_197 4 rfl ?_
            refine rF_X6_31 (q2 := 286) hK dX6_drawn_198 kd_278 rfl ?_
            refine J_iconst hK dX6_drawn_201 ci_1 ?_
            refine J_iald hK dX6_drawn_202 kd_286 (fun _ => ?_)
            refine J_if_ne (tgt := 210) hK dX6_drawn_203 (by decide) ?_ ?_
            · refine J_iconst hK dX6_drawn_206 ci_1 ?_
              refine J_goto (len := 0) (tgt := 211) hK dX6_drawn_207 (by decide) ?_
              refine J_iadd hK dX6_drawn_211 ?_
              refine J_istoreV (lw := [(8, .int z202), (4, .long z201), (7, .int x7), (0, .ref (X.1 + 278)), (1, .int p1), (2, .int p2), (3, .int p3)]) hK dX6_drawn_212 (by decide) rfl (fun z219 => ?_)
              refine J_iinc (lw := [(6, .int z219), (8, .int z202), (4, .long z201), (0, .ref (X.1 + 278)), (1, .int p1), (2, .int p2), (3, .int p3)]) hK dX6_drawn_214 3 rfl (by decide) ci_1 rfl (fun z220 => ?_)
              refine J_goto (len := 0) (tgt := 65) hK dX6_drawn_217 (by decide) ?_
              exact J_sub [0, 1, 3, 4, 5, 6, 7] rfl (ih _ _ _ _)
            · refine J_iconst hK dX6_drawn_210 ci_0 ?_
              refine J_iadd hK dX6_drawn_211 ?_
              refine J_istoreV (lw := [(8, .int z202), (4, .long z201), (7, .int x7), (0, .ref (X.1 + 278)), (1, .int p1), (2, .int p2), (3, .int p3)]) hK dX6_drawn_212 (by decide) rfl (fun z221 => ?_)
              refine J_iinc (lw := [(6, .int z221), (8, .int z202), (4, .long z201), (0, .ref (X.1 + 278)), (1, .int p1), (2, .int p2), (3, .int p3)]) hK dX6_drawn_214 3 rfl (by decide) ci_1 rfl (fun z222 => ?_)
              refine J_goto (len := 0) (tgt := 65) hK dX6_drawn_217 (by decide) ?_
              exact J_sub [0, 1, 3, 4, 5, 6, 7] rfl (ih _ _ _ _)
          · refine J_aload_n hK dX6_drawn_187 4 rfl ?_
            refine rF_X6_31 (q2 := 286) hK dX6_drawn_188 kd_278 rfl ?_
            refine J_iconst hK dX6_drawn_191 ci_0 ?_
            refine J_callSv (As := [.ref (X.1 + 286), .int (0 : Int32)]) (st := []) hK dX6_drawn_192 kB_X6_174 kS_X6_passes (by decide) rfl rfl (Nat.le_of_ble_eq_true rfl) (fun _ _ hf => uX6_passes kd_286 hf) (fun _ h223 => ?_)
            refine J_iload hK dX6_drawn_195 3 rfl ?_
            refine J_aload_n hK dX6_drawn_197 4 rfl ?_
            refine rF_X6_31 (q2 := 286) hK dX6_drawn_198 kd_278 rfl ?_
            refine J_iconst hK dX6_drawn_201 ci_1 ?_
            refine J_iald hK dX6_drawn_202 kd_286 (fun _ => ?_)
            refine J_if_ne (tgt := 210) hK dX6_drawn_203 (by decide) ?_ ?_
            · refine J_iconst hK dX6_drawn_206 ci_1 ?_
              refine J_goto (len := 0) (tgt := 211) hK dX6_drawn_207 (by decide) ?_
              refine J_iadd hK dX6_drawn_211 ?_
              refine J_istoreV (lw := [(8, .int z202), (4, .long z201), (7, .int x7), (0, .ref (X.1 + 278)), (1, .int p1), (2, .int p2), (3, .int p3)]) hK dX6_drawn_212 (by decide) rfl (fun z224 => ?_)
              refine J_iinc (lw := [(6, .int z224), (8, .int z202), (4, .long z201), (0, .ref (X.1 + 278)), (1, .int p1), (2, .int p2), (3, .int p3)]) hK dX6_drawn_214 3 rfl (by decide) ci_1 rfl (fun z225 => ?_)
              refine J_goto (len := 0) (tgt := 65) hK dX6_drawn_217 (by decide) ?_
              exact J_sub [0, 1, 3, 4, 5, 6, 7] rfl (ih _ _ _ _)
            · refine J_iconst hK dX6_drawn_210 ci_0 ?_
              refine J_iadd hK dX6_drawn_211 ?_
              refine J_istoreV (lw := [(8, .int z202), (4, .long z201), (7, .int x7), (0, .ref (X.1 + 278)), (1, .int p1), (2, .int p2), (3, .int p3)]) hK dX6_drawn_212 (by decide) rfl (fun z226 => ?_)
              refine J_iinc (lw := [(6, .int z226), (8, .int z202), (4, .long z201), (0, .ref (X.1 + 278)), (1, .int p1), (2, .int p2), (3, .int p3)]) hK dX6_drawn_214 3 rfl (by decide) ci_1 rfl (fun z227 => ?_)
              refine J_goto (len := 0) (tgt := 65) hK dX6_drawn_217 (by decide) ?_
              exact J_sub [0, 1, 3, 4, 5, 6, 7] rfl (ih _ _ _ _)
        · refine J_aload_n hK dX6_drawn_163 4 rfl ?_
          refine rF_X6_31 (q2 := 286) hK dX6_drawn_164 kd_278 rfl ?_
          refine J_iconst hK dX6_drawn_167 ci_1 ?_
          refine J_iald hK dX6_drawn_168 kd_286 (fun _ => ?_)
          refine J_if_ne (tgt := 187) hK dX6_drawn_169 (by decide) ?_ ?_
          · refine J_aload_n hK dX6_drawn_172 4 rfl ?_
            refine rF_X6_31 (q2 := 286) hK dX6_drawn_173 kd_278 rfl ?_
            refine J_iconst hK dX6_drawn_176 ci_1 ?_
            refine J_lload hK dX6_drawn_177 1 rfl ?_
            refine J_ldc2 hK dX6_drawn_179 kK_X6_215 ?_
            refine J_lrem hK dX6_drawn_182 ?_
            refine J_l2i hK dX6_drawn_183 ?_
            refine J_iconst hK dX6_drawn_184 ci_1 ?_
            refine J_iadd hK dX6_drawn_185 ?_
            refine J_iast hK dX6_drawn_186 kd_286 (fun h228 => ?_)
            refine J_aload_n hK dX6_drawn_187 4 rfl ?_
            refine rF_X6_31 (q2 := 286) hK dX6_drawn_188 kd_278 rfl ?_
            refine J_iconst hK dX6_drawn_191 ci_0 ?_
            refine J_callSv (As := [.ref (X.1 + 286), .int (0 : Int32)]) (st := []) hK dX6_drawn_192 kB_X6_174 kS_X6_passes (by decide) rfl rfl (Nat.le_of_ble_eq_true rfl) (fun _ _ hf => uX6_passes kd_286 hf) (fun _ h229 => ?_)
            refine J_iload hK dX6_drawn_195 3 rfl ?_
            refine J_aload_n hK dX6_drawn_197 4 rfl ?_
            refine rF_X6_31 (q2 := 286) hK dX6_drawn_198 kd_278 rfl ?_
            refine J_iconst hK dX6_drawn_201 ci_1 ?_
            refine J_iald hK dX6_drawn_202 kd_286 (fun _ => ?_)
            refine J_if_ne (tgt := 210) hK dX6_drawn_203 (by decide) ?_ ?_
            · refine J_iconst hK dX6_drawn_206 ci_1 ?_
              refine J_goto (len := 0) (tgt := 211) hK dX6_drawn_207 (by decide) ?_
              refine J_iadd hK dX6_drawn_211 ?_
              refine J_istoreV (lw := [(8, .int z202), (4, .long z201), (7, .int x7), (0, .ref (X.1 + 278)), (1, .int p1), (2, .int p2), (3, .int p3)]) hK dX6_drawn_212 (by decide) rfl (fun z230 => ?_)
              refine J_iinc (lw := [(6, .int z230), (8, .int z202), (4, .long z201), (0, .ref (X.1 + 278)), (1, .int p1), (2, .int p2), (3, .int p3)]) hK dX6_drawn_214 3 rfl (by decide) ci_1 rfl (fun z231 => ?_)
              refine J_goto (len := 0) (tgt := 65) hK dX6_drawn_217 (by decide) ?_
              exact J_sub [0, 1, 3, 4, 5, 6, 7] rfl (ih _ _ _ _)
            · refine J_iconst hK dX6_drawn_210 ci_0 ?_
              refine J_iadd hK dX6_drawn_211 ?_
              refine J_istoreV (lw := [(8, .int z202), (4, .long z201), (7, .int x7), (0, .ref (X.1 + 278)), (1, .int p1), (2, .int p2), (3, .int p3)]) hK dX6_drawn_212 (by decide) rfl (fun z232 => ?_)
              refine J_iinc (lw := [(6, .int z232), (8, .int z202), (4, .long z201), (0, .ref (X.1 + 278)), (1, .int p1), (2, .int p2), (3, .int p3)]) hK dX6_drawn_214 3 rfl (by decide) ci_1 rfl (fun z233 => ?_)
              refine J_goto (len := 0) (tgt := 65) hK dX6_drawn_217 (by decide) ?_
              exact J_sub [0, 1, 3, 4, 5, 6, 7] rfl (ih _ _ _ _)
          · refine J_aload_n hK dX6_drawn_187 4 rfl ?_
            refine rF_X6_31 (q2 := 286) hK dX6_drawn_188 kd_278 rfl ?_
            refine J_iconst hK dX6_drawn_191 ci_0 ?_
            refine J_callSv (As := [.ref (X.1 + 286), .int (0 : Int32)]) (st := []) hK dX6_drawn_192 kB_X6_174 kS_X6_passes (by decide) rfl rfl (Nat.le_of_ble_eq_true rfl) (fun _ _ hf => uX6_passes kd_286 hf) (fun _ h234 => ?_)
            refine J_iload hK dX6_drawn_195 3 rfl ?_
            refine J_aload_n hK dX6_drawn_197 4 rfl ?_
            refine rF_X6_31 (q2 := 286) hK dX6_drawn_198 kd_278 rfl ?_
            refine J_iconst hK dX6_drawn_201 ci_1 ?_
            refine J_iald hK dX6_drawn_202 kd_286 (fun _ => ?_)
            refine J_if_ne (tgt := 210) hK dX6_drawn_203 (by decide) ?_ ?_
            · refine J_iconst hK dX6_drawn_206 ci_1 ?_
              refine J_goto (len := 0) (tgt := 211) hK dX6_drawn_207 (by decide) ?_
              refine J_iadd hK dX6_drawn_211 ?_
              refine J_istoreV (lw := [(8, .int z202), (4, .long z201), (7, .int x7), (0, .ref (X.1 + 278)), (1, .int p1), (2, .int p2), (3, .int p3)]) hK dX6_drawn_212 (by decide) rfl (fun z235 => ?_)
              refine J_iinc (lw := [(6, .int z235), (8, .int z202), (4, .long z201), (0, .ref (X.1 + 278)), (1, .int p1), (2, .int p2), (3, .int p3)]) hK dX6_drawn_214 3 rfl (by decide) ci_1 rfl (fun z236 => ?_)
              refine J_goto (len := 0) (tgt := 65) hK dX6_drawn_217 (by decide) ?_
              exact J_sub [0, 1, 3, 4, 5, 6, 7] rfl (ih _ _ _ _)
            · refine J_iconst hK dX6_drawn_210 ci_0 ?_
              refine J_iadd hK dX6_drawn_211 ?_
              refine J_istoreV (lw := [(8, .int z202), (4, .long z201), (7, .int x7), (0, .ref (X.1 + 278)), (1, .int p1), (2, .int p2), (3, .int p3)]) hK dX6_drawn_212 (by decide) rfl (fun z237 => ?_)
              refine J_iinc (lw := [(6, .int z237), (8, .int z202), (4, .long z201), (0, .ref (X.1 + 278)), (1, .int p1), (2, .int p2), (3, .int p3)]) hK dX6_drawn_214 3 rfl (by decide) ci_1 rfl (fun z238 => ?_)
              refine J_goto (len := 0) (tgt := 65) hK dX6_drawn_217 (by decide) ?_
              exact J_sub [0, 1, 3, 4, 5, 6, 7] rfl (ih _ _ _ _)
    · exact J_sub [0, 1, 2, 3, 4, 5, 6] rfl (hk _ _ _ _)
set_option maxHeartbeats 4000000 in
set_option maxRecDepth 4000 in
theorem uX6_drawn {l : Launch} {X : WX} {a1 : Int32} {a2 : Int32} {a3 : Int32} {h h' : AH} {v : Int32} (hf : fX6_drawn a1 a2 a3 h = some (v, h')) : Does l X 4 yX6_drawn cX6_drawn 9 (some .int) [.ref (X.1 + 278), .int a1, .int a2, .int a3] h (eI v) h' := by
  refine Does.of (enc := eI) (o := fX6_drawn a1 a2 a3 h) (lv := [(0, .ref (X.1 + 278)), (1, .int a1), (2, .int a2), (3, .int a3)]) (by decide) (Nat.le_of_ble_eq_true rfl) rfl hf (fun K hl hK => ?_)
  subst hl
  unfold fX6_drawn
  refine J_aload_n hK dX6_drawn_0 0 rfl ?_
  refine J_callVi (q := 278) (As := []) (st := []) hK dX6_drawn_1 kB_X6_167 kV_X6_isEstuary kd_278 (by decide) rfl rfl (by decide) rfl rfl (Nat.le_of_ble_eq_true rfl) (fun _ _ hf => uX6_isEstuary  hf) (fun v2 h1 => ?_)
  refine J_if_ne (tgt := 10) hK dX6_drawn_4 (by decide) ?_ ?_
  · refine J_ldc hK dX6_drawn_7 kK_X6_170 ?_
    exact J_iret hK dX6_drawn_9
  · refine J_iload_n hK dX6_drawn_10 1 rfl ?_
    refine J_iconst hK dX6_drawn_11 ci_0 ?_
    refine J_bipush hK dX6_drawn_12 cb_60 ?_
    refine J_callSi (As := [.int a1, .int (0 : Int32), .int (60 : Int32)]) (st := []) hK dX6_drawn_14 kB_X6_53 kS_X6_in (by decide) rfl rfl (Nat.le_of_ble_eq_true rfl) (fun _ _ hf => uX6_in  hf) (fun v4 h3 => ?_)
    refine J_if_eq (tgt := 39) hK dX6_drawn_17 (by decide) ?_ ?_
    · refine J_ldc hK dX6_drawn_39 kK_X6_61 ?_
      exact J_iret hK dX6_drawn_41
    · refine J_iload_n hK dX6_drawn_20 2 rfl ?_
      refine J_iconst hK dX6_drawn_21 ci_1 ?_
      refine J_ldc hK dX6_drawn_22 kK_X6_208 ?_
      refine J_callSi (As := [.int a2, .int (1 : Int32), .int (999999 : Int32)]) (st := []) hK dX6_drawn_24 kB_X6_53 kS_X6_in (by decide) rfl rfl (Nat.le_of_ble_eq_true rfl) (fun _ _ hf => uX6_in  hf) (fun v6 h5 => ?_)
      refine J_if_eq (tgt := 39) hK dX6_drawn_27 (by decide) ?_ ?_
      · refine J_ldc hK dX6_drawn_39 kK_X6_61 ?_
        exact J_iret hK dX6_drawn_41
      · refine J_iload_n hK dX6_drawn_30 3 rfl ?_
        refine J_iconst hK dX6_drawn_31 ci_0 ?_
        refine J_iconst hK dX6_drawn_32 ci_1 ?_
        refine J_callSi (As := [.int a3, .int (0 : Int32), .int (1 : Int32)]) (st := []) hK dX6_drawn_33 kB_X6_53 kS_X6_in (by decide) rfl rfl (Nat.le_of_ble_eq_true rfl) (fun _ _ hf => uX6_in  hf) (fun v8 h7 => ?_)
        refine J_if_ne (tgt := 42) hK dX6_drawn_36 (by decide) ?_ ?_
        · refine J_ldc hK dX6_drawn_39 kK_X6_61 ?_
          exact J_iret hK dX6_drawn_41
        · refine J_aload_n hK dX6_drawn_42 0 rfl ?_
          refine rF_X6_25 (q2 := 284) hK dX6_drawn_43 kd_278 rfl ?_
          refine J_iconst hK dX6_drawn_46 ci_0 ?_
          refine J_aload_n hK dX6_drawn_47 0 rfl ?_
          refine rF_X6_31 (q2 := 286) hK dX6_drawn_48 kd_278 rfl ?_
          refine J_iconst hK dX6_drawn_51 ci_0 ?_
          refine J_callSv (As := [.ref (X.1 + 284), .int (0 : Int32), .ref (X.1 + 286), .int (0 : Int32)]) (st := []) hK dX6_drawn_52 kB_X6_135 kS_X6_copies (by decide) rfl rfl (Nat.le_of_ble_eq_true rfl) (fun _ _ hf => uX6_copies kd_284 kd_286 hf) (fun _ h9 => ?_)
          refine J_iload_n hK dX6_drawn_55 2 rfl ?_
          refine J_i2l hK dX6_drawn_56 ?_
          refine J_lstoreV (lw := [(0, .ref (X.1 + 278)), (1, .int a1), (2, .int a2), (3, .int a3)]) hK dX6_drawn_57 (by decide) rfl (fun z10 => ?_)
          refine J_iconst hK dX6_drawn_59 ci_0 ?_
          refine J_istore (lw := [(4, .long z10), (0, .ref (X.1 + 278)), (1, .int a1), (2, .int a2), (3, .int a3)]) hK dX6_drawn_60 (by decide) rfl ?_
          refine J_iconst hK dX6_drawn_62 ci_0 ?_
          refine J_istore (lw := [(6, .int (0 : Int32)), (4, .long z10), (0, .ref (X.1 + 278)), (1, .int a1), (2, .int a2), (3, .int a3)]) hK dX6_drawn_63 (by decide) rfl ?_
          refine J_sub [0, 1, 2, 3, 4, 5, 6] rfl (gX6_drawn_L65 hK  (fun z11 z12 z13 h14 => ?_) FU _ _ _ _)
          refine J_iload_n hK dX6_drawn_220 6 rfl ?_
          refine J_if_ne (tgt := 229) hK dX6_drawn_221 (by decide) ?_ ?_
          · refine J_iload hK dX6_drawn_224 1 rfl ?_
            refine J_goto (len := 0) (tgt := 239) hK dX6_drawn_226 (by decide) ?_
            exact J_iret hK dX6_drawn_239
          · refine J_aload_n hK dX6_drawn_229 3 rfl ?_
            refine rF_X6_31 (q2 := 286) hK dX6_drawn_230 kd_278 rfl ?_
            refine J_callSi (As := [.ref (X.1 + 286)]) (st := []) hK dX6_drawn_233 kB_X6_181 kS_X6_holding (by decide) rfl rfl (Nat.le_of_ble_eq_true rfl) (fun _ _ hf => uX6_holding kd_286 hf) (fun v16 h15 => ?_)
            refine J_callSi (As := [.int v16]) (st := []) hK dX6_drawn_236 kB_X6_197 kS_X6_ones (by decide) rfl rfl (Nat.le_of_ble_eq_true rfl) (fun _ _ hf => uX6_ones  hf) (fun v18 h17 => ?_)
            exact J_iret hK dX6_drawn_239
-- X6_figure
theorem dX6_figure_0 : DD cX6_figure 0 (.aload_n 0) 1 1 := by decide +kernel
theorem dX6_figure_1 : DD cX6_figure 1 (.invokevirtual 101) 3 4 := by decide +kernel
theorem dX6_figure_4 : DD cX6_figure 4 (.ifCond .eq 18) 3 7 := by decide +kernel
theorem dX6_figure_7 : DD cX6_figure 7 (.aload_n 0) 1 8 := by decide +kernel
theorem dX6_figure_8 : DD cX6_figure 8 (.getfield 95) 3 11 := by decide +kernel
theorem dX6_figure_11 : DD cX6_figure 11 (.iconst 2) 1 12 := by decide +kernel
theorem dX6_figure_12 : DD cX6_figure 12 (.if_icmp .eq 10) 3 15 := by decide +kernel
theorem dX6_figure_15 : DD cX6_figure 15 (.aload_n 0) 1 16 := by decide +kernel
theorem dX6_figure_16 : DD cX6_figure 16 (.iconst 0) 1 17 := by decide +kernel
theorem dX6_figure_17 : DD cX6_figure 17 (.iconst 1) 1 18 := by decide +kernel
theorem dX6_figure_18 : DD cX6_figure 18 (.invokevirtual 111) 3 21 := by decide +kernel
theorem dX6_figure_21 : DD cX6_figure 21 (.ireturn) 1 22 := by decide +kernel
theorem dX6_figure_22 : DD cX6_figure 22 (.aload_n 0) 1 23 := by decide +kernel
theorem dX6_figure_23 : DD cX6_figure 23 (.aload_n 0) 1 24 := by decide +kernel
theorem dX6_figure_24 : DD cX6_figure 24 (.getfield 92) 3 27 := by decide +kernel
theorem dX6_figure_27 : DD cX6_figure 27 (.iload_n 1) 1 28 := by decide +kernel
theorem dX6_figure_28 : DD cX6_figure 28 (.iload_n 2) 1 29 := by decide +kernel
theorem dX6_figure_29 : DD cX6_figure 29 (.invokestatic 53) 3 32 := by decide +kernel
theorem dX6_figure_32 : DD cX6_figure 32 (.iconst 2) 1 33 := by decide +kernel
theorem dX6_figure_33 : DD cX6_figure 33 (.invokevirtual 111) 3 36 := by decide +kernel
theorem dX6_figure_36 : DD cX6_figure 36 (.ireturn) 1 37 := by decide +kernel
def fX6_figure (a1 : Int32) (a2 : Int32) (h : AH) : Option (Int32 × AH) := (bnd (fX6_isWell  h) fun v2 h1 => (if v2 = 0 then (bnd (fX6_in (h1 278 12) a1 a2 h1) fun v4 h3 => (bnd (fX6_takes v4 (2 : Int32) h3) fun v6 h5 => (some (v6, h5)))) else (if (h1 278 11) = (2 : Int32) then (bnd (fX6_in (h1 278 12) a1 a2 h1) fun v8 h7 => (bnd (fX6_takes v8 (2 : Int32) h7) fun v10 h9 => (some (v10, h9)))) else (bnd (fX6_takes (0 : Int32) (1 : Int32) h1) fun v12 h11 => (some (v12, h11))))))
set_option maxHeartbeats 4000000 in
set_option maxRecDepth 4000 in
theorem uX6_figure {l : Launch} {X : WX} {a1 : Int32} {a2 : Int32} {h h' : AH} {v : Int32} (hf : fX6_figure a1 a2 h = some (v, h')) : Does l X 4 yX6_figure cX6_figure 3 (some .int) [.ref (X.1 + 278), .int a1, .int a2] h (eI v) h' := by
  refine Does.of (enc := eI) (o := fX6_figure a1 a2 h) (lv := [(0, .ref (X.1 + 278)), (1, .int a1), (2, .int a2)]) (by decide) (Nat.le_of_ble_eq_true rfl) rfl hf (fun K hl hK => ?_)
  subst hl
  unfold fX6_figure
  refine J_aload_n hK dX6_figure_0 0 rfl ?_
  refine J_callVi (q := 278) (As := []) (st := []) hK dX6_figure_1 kB_X6_101 kV_X6_isWell kd_278 (by decide) rfl rfl (by decide) rfl rfl (Nat.le_of_ble_eq_true rfl) (fun _ _ hf => uX6_isWell  hf) (fun v2 h1 => ?_)
  refine J_if_eq (tgt := 22) hK dX6_figure_4 (by decide) ?_ ?_
  · refine J_aload_n hK dX6_figure_22 0 rfl ?_
    refine J_aload_n hK dX6_figure_23 0 rfl ?_
    refine gF_X6_92 hK dX6_figure_24 kd_278 ?_
    refine J_iload_n hK dX6_figure_27 1 rfl ?_
    refine J_iload_n hK dX6_figure_28 2 rfl ?_
    refine J_callSi (As := [.int (h1 278 12), .int a1, .int a2]) (st := [.ref (X.1 + 278)]) hK dX6_figure_29 kB_X6_53 kS_X6_in (by decide) rfl rfl (Nat.le_of_ble_eq_true rfl) (fun _ _ hf => uX6_in  hf) (fun v4 h3 => ?_)
    refine J_iconst hK dX6_figure_32 ci_2 ?_
    refine J_callVi (q := 278) (As := [.int v4, .int (2 : Int32)]) (st := []) hK dX6_figure_33 kB_X6_111 kV_X6_takes kd_278 (by decide) rfl rfl (by decide) rfl rfl (Nat.le_of_ble_eq_true rfl) (fun _ _ hf => uX6_takes  hf) (fun v6 h5 => ?_)
    exact J_iret hK dX6_figure_36
  · refine J_aload_n hK dX6_figure_7 0 rfl ?_
    refine gF_X6_95 hK dX6_figure_8 kd_278 ?_
    refine J_iconst hK dX6_figure_11 ci_2 ?_
    refine J_icmp_eq (tgt := 22) hK dX6_figure_12 (by decide) ?_ ?_
    · refine J_aload_n hK dX6_figure_22 0 rfl ?_
      refine J_aload_n hK dX6_figure_23 0 rfl ?_
      refine gF_X6_92 hK dX6_figure_24 kd_278 ?_
      refine J_iload_n hK dX6_figure_27 1 rfl ?_
      refine J_iload_n hK dX6_figure_28 2 rfl ?_
      refine J_callSi (As := [.int (h1 278 12), .int a1, .int a2]) (st := [.ref (X.1 + 278)]) hK dX6_figure_29 kB_X6_53 kS_X6_in (by decide) rfl rfl (Nat.le_of_ble_eq_true rfl) (fun _ _ hf => uX6_in  hf) (fun v8 h7 => ?_)
      refine J_iconst hK dX6_figure_32 ci_2 ?_
      refine J_callVi (q := 278) (As := [.int v8, .int (2 : Int32)]) (st := []) hK dX6_figure_33 kB_X6_111 kV_X6_takes kd_278 (by decide) rfl rfl (by decide) rfl rfl (Nat.le_of_ble_eq_true rfl) (fun _ _ hf => uX6_takes  hf) (fun v10 h9 => ?_)
      exact J_iret hK dX6_figure_36
    · refine J_aload_n hK dX6_figure_15 0 rfl ?_
      refine J_iconst hK dX6_figure_16 ci_0 ?_
      refine J_iconst hK dX6_figure_17 ci_1 ?_
      refine J_callVi (q := 278) (As := [.int (0 : Int32), .int (1 : Int32)]) (st := []) hK dX6_figure_18 kB_X6_111 kV_X6_takes kd_278 (by decide) rfl rfl (by decide) rfl rfl (Nat.le_of_ble_eq_true rfl) (fun _ _ hf => uX6_takes  hf) (fun v12 h11 => ?_)
      exact J_iret hK dX6_figure_21
-- X6_goesOn
theorem dX6_goesOn_0 : DD cX6_goesOn 0 (.iconst 0) 1 1 := by decide +kernel
theorem dX6_goesOn_1 : DD cX6_goesOn 1 (.istore_n 2) 1 2 := by decide +kernel
theorem dX6_goesOn_2 : DD cX6_goesOn 2 (.iload_n 2) 1 3 := by decide +kernel
theorem dX6_goesOn_3 : DD cX6_goesOn 3 (.iload_n 1) 1 4 := by decide +kernel
theorem dX6_goesOn_4 : DD cX6_goesOn 4 (.if_icmp .ge 17) 3 7 := by decide +kernel
theorem dX6_goesOn_7 : DD cX6_goesOn 7 (.aload_n 0) 1 8 := by decide +kernel
theorem dX6_goesOn_8 : DD cX6_goesOn 8 (.getfield 31) 3 11 := by decide +kernel
theorem dX6_goesOn_11 : DD cX6_goesOn 11 (.iconst 0) 1 12 := by decide +kernel
theorem dX6_goesOn_12 : DD cX6_goesOn 12 (.invokestatic 174) 3 15 := by decide +kernel
theorem dX6_goesOn_15 : DD cX6_goesOn 15 (.iinc 2 1) 3 18 := by decide +kernel
theorem dX6_goesOn_18 : DD cX6_goesOn 18 (.goto (-16)) 3 21 := by decide +kernel
theorem dX6_goesOn_21 : DD cX6_goesOn 21 (.return_) 1 22 := by decide +kernel
def fX6_goesOn_L2 (p1 : Int32) : Nat → Int32 → AH → (Int32 → AH → Option (Unit × AH)) → Option (Unit × AH)
  | 0, _, _, _ => none
  | n + 1, x2, h, k => (if x2 < p1 then (bnd (fX6_passes 286 (0 : Int32) h) fun _ h201 => (vl (x2 + (1 : Int32)) fun z202 => fX6_goesOn_L2 p1 n z202 h201 k)) else k x2 h)
def fX6_goesOn (a1 : Int32) (h : AH) : Option (Unit × AH) := (fX6_goesOn_L2 a1 FU (0 : Int32) h fun z1 h2 => (some ((), h2)))
set_option maxHeartbeats 4000000 in
theorem gX6_goesOn_L2 {K : MC} {X : WX} {p1 : Int32} (hK : Ok K X RX6 cX6_goesOn 3 none 4) {k : Int32 → AH → Option (Unit × AH)} (hk : ∀ (x2 : Int32) (h : AH), J K X 3 (Zm K X) eV 21 [(2, .int x2), (0, .ref (X.1 + 278)), (1, .int p1)] [] h (k x2 h)) : ∀ (n : Nat) (x2 : Int32) (h : AH), J K X 3 (Zm K X) eV 2 [(2, .int x2), (0, .ref (X.1 + 278)), (1, .int p1)] [] h (fX6_goesOn_L2 p1 n x2 h k) := by
  intro n
  induction n with
  | zero => exact fun _ _ => J_none
  | succ n ih =>
    intro x2 h
    rw [fX6_goesOn_L2]
    refine J_iload_n hK dX6_goesOn_2 0 rfl ?_
    refine J_iload_n hK dX6_goesOn_3 2 rfl ?_
    refine J_icmp_ge (tgt := 21) hK dX6_goesOn_4 (by decide) ?_ ?_
    · refine J_aload_n hK dX6_goesOn_7 1 rfl ?_
      refine rF_X6_31 (q2 := 286) hK dX6_goesOn_8 kd_278 rfl ?_
      refine J_iconst hK dX6_goesOn_11 ci_0 ?_
      refine J_callSv (As := [.ref (X.1 + 286), .int (0 : Int32)]) (st := []) hK dX6_goesOn_12 kB_X6_174 kS_X6_passes (by decide) rfl rfl (Nat.le_of_ble_eq_true rfl) (fun _ _ hf => uX6_passes kd_286 hf) (fun _ h201 => ?_)
      refine J_iinc (lw := [(0, .ref (X.1 + 278)), (1, .int p1)]) hK dX6_goesOn_15 0 rfl (by decide) ci_1 rfl (fun z202 => ?_)
      refine J_goto (len := 0) (tgt := 2) hK dX6_goesOn_18 (by decide) ?_
      exact J_sub [0, 1, 2] rfl (ih _ _)
    · exact J_sub [0, 1, 2] rfl (hk _ _)
set_option maxHeartbeats 4000000 in
set_option maxRecDepth 4000 in
theorem uX6_goesOn {l : Launch} {X : WX} {a1 : Int32} {h h' : AH} {v : Unit} (hf : fX6_goesOn a1 h = some (v, h')) : Does l X 4 yX6_goesOn cX6_goesOn 3 none [.ref (X.1 + 278), .int a1] h (eV v) h' := by
  refine Does.of (enc := eV) (o := fX6_goesOn a1 h) (lv := [(0, .ref (X.1 + 278)), (1, .int a1)]) (by decide) (Nat.le_of_ble_eq_true rfl) rfl hf (fun K hl hK => ?_)
  subst hl
  unfold fX6_goesOn
  refine J_iconst hK dX6_goesOn_0 ci_0 ?_
  refine J_istore_n (n := 2) (lw := [(0, .ref (X.1 + 278)), (1, .int a1)]) hK dX6_goesOn_1 rfl (by decide) rfl ?_
  refine J_sub [0, 1, 2] rfl (gX6_goesOn_L2 hK  (fun z1 h2 => ?_) FU _ _)
  exact J_vret hK dX6_goesOn_21
-- X6_hours
theorem dX6_hours_0 : DD cX6_hours 0 (.aload_n 0) 1 1 := by decide +kernel
theorem dX6_hours_1 : DD cX6_hours 1 (.invokevirtual 167) 3 4 := by decide +kernel
theorem dX6_hours_4 : DD cX6_hours 4 (.ifCond .ne 6) 3 7 := by decide +kernel
theorem dX6_hours_7 : DD cX6_hours 7 (.ldc 170) 2 9 := by decide +kernel
theorem dX6_hours_9 : DD cX6_hours 9 (.ireturn) 1 10 := by decide +kernel
theorem dX6_hours_10 : DD cX6_hours 10 (.iload_n 1) 1 11 := by decide +kernel
theorem dX6_hours_11 : DD cX6_hours 11 (.iconst 1) 1 12 := by decide +kernel
theorem dX6_hours_12 : DD cX6_hours 12 (.bipush 24) 2 14 := by decide +kernel
theorem dX6_hours_14 : DD cX6_hours 14 (.invokestatic 53) 3 17 := by decide +kernel
theorem dX6_hours_17 : DD cX6_hours 17 (.ifCond .ne 6) 3 20 := by decide +kernel
theorem dX6_hours_20 : DD cX6_hours 20 (.ldc 61) 2 22 := by decide +kernel
theorem dX6_hours_22 : DD cX6_hours 22 (.ireturn) 1 23 := by decide +kernel
theorem dX6_hours_23 : DD cX6_hours 23 (.aload_n 0) 1 24 := by decide +kernel
theorem dX6_hours_24 : DD cX6_hours 24 (.getfield 25) 3 27 := by decide +kernel
theorem dX6_hours_27 : DD cX6_hours 27 (.iconst 4) 1 28 := by decide +kernel
theorem dX6_hours_28 : DD cX6_hours 28 (.iaload) 1 29 := by decide +kernel
theorem dX6_hours_29 : DD cX6_hours 29 (.iload_n 1) 1 30 := by decide +kernel
theorem dX6_hours_30 : DD cX6_hours 30 (.iadd) 1 31 := by decide +kernel
theorem dX6_hours_31 : DD cX6_hours 31 (.sipush 9999) 3 34 := by decide +kernel
theorem dX6_hours_34 : DD cX6_hours 34 (.if_icmp .le 6) 3 37 := by decide +kernel
theorem dX6_hours_37 : DD cX6_hours 37 (.ldc 82) 2 39 := by decide +kernel
theorem dX6_hours_39 : DD cX6_hours 39 (.ireturn) 1 40 := by decide +kernel
theorem dX6_hours_40 : DD cX6_hours 40 (.iconst 0) 1 41 := by decide +kernel
theorem dX6_hours_41 : DD cX6_hours 41 (.istore_n 2) 1 42 := by decide +kernel
theorem dX6_hours_42 : DD cX6_hours 42 (.iload_n 2) 1 43 := by decide +kernel
theorem dX6_hours_43 : DD cX6_hours 43 (.iload_n 1) 1 44 := by decide +kernel
theorem dX6_hours_44 : DD cX6_hours 44 (.if_icmp .ge 21) 3 47 := by decide +kernel
theorem dX6_hours_47 : DD cX6_hours 47 (.aload_n 0) 1 48 := by decide +kernel
theorem dX6_hours_48 : DD cX6_hours 48 (.invokevirtual 171) 3 51 := by decide +kernel
theorem dX6_hours_51 : DD cX6_hours 51 (.aload_n 0) 1 52 := by decide +kernel
theorem dX6_hours_52 : DD cX6_hours 52 (.getfield 25) 3 55 := by decide +kernel
theorem dX6_hours_55 : DD cX6_hours 55 (.iconst 0) 1 56 := by decide +kernel
theorem dX6_hours_56 : DD cX6_hours 56 (.invokestatic 174) 3 59 := by decide +kernel
theorem dX6_hours_59 : DD cX6_hours 59 (.iinc 2 1) 3 62 := by decide +kernel
theorem dX6_hours_62 : DD cX6_hours 62 (.goto (-20)) 3 65 := by decide +kernel
theorem dX6_hours_65 : DD cX6_hours 65 (.aload_n 0) 1 66 := by decide +kernel
theorem dX6_hours_66 : DD cX6_hours 66 (.getfield 25) 3 69 := by decide +kernel
theorem dX6_hours_69 : DD cX6_hours 69 (.iconst 1) 1 70 := by decide +kernel
theorem dX6_hours_70 : DD cX6_hours 70 (.iaload) 1 71 := by decide +kernel
theorem dX6_hours_71 : DD cX6_hours 71 (.ireturn) 1 72 := by decide +kernel
def fX6_hours_L42 (p1 : Int32) : Nat → Int32 → AH → (Int32 → AH → Option (Int32 × AH)) → Option (Int32 × AH)
  | 0, _, _, _ => none
  | n + 1, x2, h, k => (if x2 < p1 then (bnd (fX6_notes  h) fun _ h201 => (bnd (fX6_passes 284 (0 : Int32) h201) fun _ h202 => (vl (x2 + (1 : Int32)) fun z203 => fX6_hours_L42 p1 n z203 h202 k))) else k x2 h)
def fX6_hours (a1 : Int32) (h : AH) : Option (Int32 × AH) := (bnd (fX6_isEstuary  h) fun v2 h1 => (if v2 = 0 then (some ((-1000002 : Int32), h1)) else (bnd (fX6_in a1 (1 : Int32) (24 : Int32) h1) fun v4 h3 => (if v4 = 0 then (some ((-1000001 : Int32), h3)) else (chk (inb (4 : Int32) (ln 284)) (if (9999 : Int32) < ((h3 284 (Int32.toNatClampNeg (4 : Int32))) + a1) then (some ((-1000003 : Int32), h3)) else (fX6_hours_L42 a1 FU (0 : Int32) h3 fun z5 h6 => (chk (inb (1 : Int32) (ln 284)) (some ((h6 284 (Int32.toNatClampNeg (1 : Int32))), h6))))))))))
set_option maxHeartbeats 4000000 in
theorem gX6_hours_L42 {K : MC} {X : WX} {p1 : Int32} (hK : Ok K X RX6 cX6_hours 3 (some .int) 4) {k : Int32 → AH → Option (Int32 × AH)} (hk : ∀ (x2 : Int32) (h : AH), J K X 3 (Zm K X) eI 65 [(2, .int x2), (0, .ref (X.1 + 278)), (1, .int p1)] [] h (k x2 h)) : ∀ (n : Nat) (x2 : Int32) (h : AH), J K X 3 (Zm K X) eI 42 [(2, .int x2), (0, .ref (X.1 + 278)), (1, .int p1)] [] h (fX6_hours_L42 p1 n x2 h k) := by
  intro n
  induction n with
  | zero => exact fun _ _ => J_none
  | succ n ih =>
    intro x2 h
    rw [fX6_hours_L42]
    refine J_iload_n hK dX6_hours_42 0 rfl ?_
    refine J_iload_n hK dX6_hours_43 2 rfl ?_
    refine J_icmp_ge (tgt := 65) hK dX6_hours_44 (by decide) ?_ ?_
    · refine J_aload_n hK dX6_hours_47 1 rfl ?_
      refine J_callVv (q := 278) (As := []) (st := []) hK dX6_hours_48 kB_X6_171 kV_X6_notes kd_278 (by decide) rfl rfl (by decide) rfl rfl (Nat.le_of_ble_eq_true rfl) (fun _ _ hf => uX6_notes  hf) (fun _ h201 => ?_)
      refine J_aload_n hK dX6_hours_51 1 rfl ?_
      refine rF_X6_25 (q2 := 284) hK dX6_hours_52 kd_278 rfl ?_
      refine J_iconst hK dX6_hours_55 ci_0 ?_
      refine J_callSv (As := [.ref (X.1 + 284), .int (0 : Int32)]) (st := []) hK dX6_hours_56 kB_X6_174 kS_X6_passes (by decide) rfl rfl (Nat.le_of_ble_eq_true rfl) (fun _ _ hf => uX6_passes kd_284 hf) (fun _ h202 => ?_)
      refine J_iinc (lw := [(0, .ref (X.1 + 278)), (1, .int p1)]) hK dX6_hours_59 0 rfl (by decide) ci_1 rfl (fun z203 => ?_)
      refine J_goto (len := 0) (tgt := 42) hK dX6_hours_62 (by decide) ?_
      exact J_sub [0, 1, 2] rfl (ih _ _)
    · exact J_sub [0, 1, 2] rfl (hk _ _)
set_option maxHeartbeats 4000000 in
set_option maxRecDepth 4000 in
theorem uX6_hours {l : Launch} {X : WX} {a1 : Int32} {h h' : AH} {v : Int32} (hf : fX6_hours a1 h = some (v, h')) : Does l X 4 yX6_hours cX6_hours 3 (some .int) [.ref (X.1 + 278), .int a1] h (eI v) h' := by
  refine Does.of (enc := eI) (o := fX6_hours a1 h) (lv := [(0, .ref (X.1 + 278)), (1, .int a1)]) (by decide) (Nat.le_of_ble_eq_true rfl) rfl hf (fun K hl hK => ?_)
  subst hl
  unfold fX6_hours
  refine J_aload_n hK dX6_hours_0 0 rfl ?_
  refine J_callVi (q := 278) (As := []) (st := []) hK dX6_hours_1 kB_X6_167 kV_X6_isEstuary kd_278 (by decide) rfl rfl (by decide) rfl rfl (Nat.le_of_ble_eq_true rfl) (fun _ _ hf => uX6_isEstuary  hf) (fun v2 h1 => ?_)
  refine J_if_ne (tgt := 10) hK dX6_hours_4 (by decide) ?_ ?_
  · refine J_ldc hK dX6_hours_7 kK_X6_170 ?_
    exact J_iret hK dX6_hours_9
  · refine J_iload_n hK dX6_hours_10 1 rfl ?_
    refine J_iconst hK dX6_hours_11 ci_1 ?_
    refine J_bipush hK dX6_hours_12 cb_24 ?_
    refine J_callSi (As := [.int a1, .int (1 : Int32), .int (24 : Int32)]) (st := []) hK dX6_hours_14 kB_X6_53 kS_X6_in (by decide) rfl rfl (Nat.le_of_ble_eq_true rfl) (fun _ _ hf => uX6_in  hf) (fun v4 h3 => ?_)
    refine J_if_ne (tgt := 23) hK dX6_hours_17 (by decide) ?_ ?_
    · refine J_ldc hK dX6_hours_20 kK_X6_61 ?_
      exact J_iret hK dX6_hours_22
    · refine J_aload_n hK dX6_hours_23 0 rfl ?_
      refine rF_X6_25 (q2 := 284) hK dX6_hours_24 kd_278 rfl ?_
      refine J_iconst hK dX6_hours_27 ci_4 ?_
      refine J_iald hK dX6_hours_28 kd_284 (fun _ => ?_)
      refine J_iload_n hK dX6_hours_29 1 rfl ?_
      refine J_iadd hK dX6_hours_30 ?_
      refine J_sipush hK dX6_hours_31 cs_9999 ?_
      refine J_icmp_le (tgt := 40) hK dX6_hours_34 (by decide) ?_ ?_
      · refine J_ldc hK dX6_hours_37 kK_X6_82 ?_
        exact J_iret hK dX6_hours_39
      · refine J_iconst hK dX6_hours_40 ci_0 ?_
        refine J_istore_n (n := 2) (lw := [(0, .ref (X.1 + 278)), (1, .int a1)]) hK dX6_hours_41 rfl (by decide) rfl ?_
        refine J_sub [0, 1, 2] rfl (gX6_hours_L42 hK  (fun z5 h6 => ?_) FU _ _)
        refine J_aload_n hK dX6_hours_65 1 rfl ?_
        refine rF_X6_25 (q2 := 284) hK dX6_hours_66 kd_278 rfl ?_
        refine J_iconst hK dX6_hours_69 ci_1 ?_
        refine J_iald hK dX6_hours_70 kd_284 (fun _ => ?_)
        exact J_iret hK dX6_hours_71
-- X6_isSeen
theorem dX6_isSeen_0 : DD cX6_isSeen 0 (.aload_n 0) 1 1 := by decide +kernel
theorem dX6_isSeen_1 : DD cX6_isSeen 1 (.getfield 25) 3 4 := by decide +kernel
theorem dX6_isSeen_4 : DD cX6_isSeen 4 (.iconst 0) 1 5 := by decide +kernel
theorem dX6_isSeen_5 : DD cX6_isSeen 5 (.aload_n 0) 1 6 := by decide +kernel
theorem dX6_isSeen_6 : DD cX6_isSeen 6 (.getfield 31) 3 9 := by decide +kernel
theorem dX6_isSeen_9 : DD cX6_isSeen 9 (.iconst 0) 1 10 := by decide +kernel
theorem dX6_isSeen_10 : DD cX6_isSeen 10 (.invokestatic 135) 3 13 := by decide +kernel
theorem dX6_isSeen_13 : DD cX6_isSeen 13 (.aload_n 0) 1 14 := by decide +kernel
theorem dX6_isSeen_14 : DD cX6_isSeen 14 (.getfield 31) 3 17 := by decide +kernel
theorem dX6_isSeen_17 : DD cX6_isSeen 17 (.iload_n 3) 1 18 := by decide +kernel
theorem dX6_isSeen_18 : DD cX6_isSeen 18 (.iload 4) 2 20 := by decide +kernel
theorem dX6_isSeen_20 : DD cX6_isSeen 20 (.iastore) 1 21 := by decide +kernel
theorem dX6_isSeen_21 : DD cX6_isSeen 21 (.iconst 1) 1 22 := by decide +kernel
theorem dX6_isSeen_22 : DD cX6_isSeen 22 (.istore 5) 2 24 := by decide +kernel
theorem dX6_isSeen_24 : DD cX6_isSeen 24 (.iconst 0) 1 25 := by decide +kernel
theorem dX6_isSeen_25 : DD cX6_isSeen 25 (.istore 6) 2 27 := by decide +kernel
theorem dX6_isSeen_27 : DD cX6_isSeen 27 (.iload 6) 2 29 := by decide +kernel
theorem dX6_isSeen_29 : DD cX6_isSeen 29 (.iload_n 2) 1 30 := by decide +kernel
theorem dX6_isSeen_30 : DD cX6_isSeen 30 (.if_icmp .ge 47) 3 33 := by decide +kernel
theorem dX6_isSeen_33 : DD cX6_isSeen 33 (.aload_n 0) 1 34 := by decide +kernel
theorem dX6_isSeen_34 : DD cX6_isSeen 34 (.getfield 31) 3 37 := by decide +kernel
theorem dX6_isSeen_37 : DD cX6_isSeen 37 (.iconst 0) 1 38 := by decide +kernel
theorem dX6_isSeen_38 : DD cX6_isSeen 38 (.invokestatic 174) 3 41 := by decide +kernel
theorem dX6_isSeen_41 : DD cX6_isSeen 41 (.iload 5) 2 43 := by decide +kernel
theorem dX6_isSeen_43 : DD cX6_isSeen 43 (.ifCond .eq 25) 3 46 := by decide +kernel
theorem dX6_isSeen_46 : DD cX6_isSeen 46 (.aload_n 0) 1 47 := by decide +kernel
theorem dX6_isSeen_47 : DD cX6_isSeen 47 (.getfield 31) 3 50 := by decide +kernel
theorem dX6_isSeen_50 : DD cX6_isSeen 50 (.iconst 1) 1 51 := by decide +kernel
theorem dX6_isSeen_51 : DD cX6_isSeen 51 (.iaload) 1 52 := by decide +kernel
theorem dX6_isSeen_52 : DD cX6_isSeen 52 (.aload_n 0) 1 53 := by decide +kernel
theorem dX6_isSeen_53 : DD cX6_isSeen 53 (.getfield 16) 3 56 := by decide +kernel
theorem dX6_isSeen_56 : DD cX6_isSeen 56 (.iload_n 1) 1 57 := by decide +kernel
theorem dX6_isSeen_57 : DD cX6_isSeen 57 (.iload 6) 2 59 := by decide +kernel
theorem dX6_isSeen_59 : DD cX6_isSeen 59 (.iadd) 1 60 := by decide +kernel
theorem dX6_isSeen_60 : DD cX6_isSeen 60 (.iaload) 1 61 := by decide +kernel
theorem dX6_isSeen_61 : DD cX6_isSeen 61 (.if_icmp .ne 7) 3 64 := by decide +kernel
theorem dX6_isSeen_64 : DD cX6_isSeen 64 (.iconst 1) 1 65 := by decide +kernel
theorem dX6_isSeen_65 : DD cX6_isSeen 65 (.goto 4) 3 68 := by decide +kernel
theorem dX6_isSeen_68 : DD cX6_isSeen 68 (.iconst 0) 1 69 := by decide +kernel
theorem dX6_isSeen_69 : DD cX6_isSeen 69 (.istore 5) 2 71 := by decide +kernel
theorem dX6_isSeen_71 : DD cX6_isSeen 71 (.iinc 6 1) 3 74 := by decide +kernel
theorem dX6_isSeen_74 : DD cX6_isSeen 74 (.goto (-47)) 3 77 := by decide +kernel
theorem dX6_isSeen_77 : DD cX6_isSeen 77 (.iload 5) 2 79 := by decide +kernel
theorem dX6_isSeen_79 : DD cX6_isSeen 79 (.ireturn) 1 80 := by decide +kernel
def fX6_isSeen_L27 (p1 : Int32) (p2 : Int32) (p3 : Int32) (p4 : Int32) : Nat → Int32 → Int32 → AH → (Int32 → Int32 → AH → Option (Int32 × AH)) → Option (Int32 × AH)
  | 0, _, _, _, _ => none
  | n + 1, x6, x5, h, k => (if x6 < p2 then (bnd (fX6_passes 286 (0 : Int32) h) fun _ h201 => (if x5 = 0 then (vl (x6 + (1 : Int32)) fun z202 => fX6_isSeen_L27 p1 p2 p3 p4 n z202 (0 : Int32) h201 k) else (chk (inb (1 : Int32) (ln 286)) (chk (inb (p1 + x6) (ln 281)) (if (h201 286 (Int32.toNatClampNeg (1 : Int32))) = (h201 281 (Int32.toNatClampNeg (p1 + x6))) then (vl (x6 + (1 : Int32)) fun z203 => fX6_isSeen_L27 p1 p2 p3 p4 n z203 (1 : Int32) h201 k) else (vl (x6 + (1 : Int32)) fun z204 => fX6_isSeen_L27 p1 p2 p3 p4 n z204 (0 : Int32) h201 k)))))) else k x6 x5 h)
def fX6_isSeen (a1 : Int32) (a2 : Int32) (a3 : Int32) (a4 : Int32) (h : AH) : Option (Int32 × AH) := (bnd (fX6_copies 284 (0 : Int32) 286 (0 : Int32) h) fun _ h1 => (chk (inb a3 (ln 286)) (sto (hs h1 286 (Int32.toNatClampNeg a3) a4) fun h2 => (fX6_isSeen_L27 a1 a2 a3 a4 FU (0 : Int32) (1 : Int32) h2 fun z3 z4 h5 => (chk (z4 = 0 ∨ z4 = 1) (some (z4, h5)))))))
set_option maxHeartbeats 4000000 in
theorem gX6_isSeen_L27 {K : MC} {X : WX} {p1 : Int32} {p2 : Int32} {p3 : Int32} {p4 : Int32} (hK : Ok K X RX6 cX6_isSeen 7 (some .boolean) 4) {k : Int32 → Int32 → AH → Option (Int32 × AH)} (hk : ∀ (x6 : Int32) (x5 : Int32) (h : AH), J K X 7 (Zm K X) eI 77 [(6, .int x6), (5, .int x5), (0, .ref (X.1 + 278)), (1, .int p1), (2, .int p2), (3, .int p3), (4, .int p4)] [] h (k x6 x5 h)) : ∀ (n : Nat) (x6 : Int32) (x5 : Int32) (h : AH), J K X 7 (Zm K X) eI 27 [(6, .int x6), (5, .int x5), (0, .ref (X.1 + 278)), (1, .int p1), (2, .int p2), (3, .int p3), (4, .int p4)] [] h (fX6_isSeen_L27 p1 p2 p3 p4 n x6 x5 h k) := by
  intro n
  induction n with
  | zero => exact fun _ _ _ => J_none
  | succ n ih =>
    intro x6 x5 h
    rw [fX6_isSeen_L27]
    refine J_iload hK dX6_isSeen_27 0 rfl ?_
    refine J_iload_n hK dX6_isSeen_29 4 rfl ?_
    refine J_icmp_ge (tgt := 77) hK dX6_isSeen_30 (by decide) ?_ ?_
    · refine J_aload_n hK dX6_isSeen_33 2 rfl ?_
      refine rF_X6_31 (q2 := 286) hK dX6_isSeen_34 kd_278 rfl ?_
      refine J_iconst hK dX6_isSeen_37 ci_0 ?_
      refine J_callSv (As := [.ref (X.1 + 286), .int (0 : Int32)]) (st := []) hK dX6_isSeen_38 kB_X6_174 kS_X6_passes (by decide) rfl rfl (Nat.le_of_ble_eq_true rfl) (fun _ _ hf => uX6_passes kd_286 hf) (fun _ h201 => ?_)
      refine J_iload hK dX6_isSeen_41 1 rfl ?_
      refine J_if_eq (tgt := 68) hK dX6_isSeen_43 (by decide) ?_ ?_
      · refine J_iconst hK dX6_isSeen_68 ci_0 ?_
        refine J_istore (lw := [(6, .int x6), (0, .ref (X.1 + 278)), (1, .int p1), (2, .int p2), (3, .int p3), (4, .int p4)]) hK dX6_isSeen_69 (by decide) rfl ?_
        refine J_iinc (lw := [(5, .int (0 : Int32)), (0, .ref (X.1 + 278)), (1, .int p1), (2, .int p2), (3, .int p3), (4, .int p4)]) hK dX6_isSeen_71 1 rfl (by decide) ci_1 rfl (fun z202 => ?_)
        refine J_goto (len := 0) (tgt := 27) hK dX6_isSeen_74 (by decide) ?_
        exact J_sub [0, 1, 2, 3, 4, 5, 6] rfl (ih _ _ _)
      · refine J_aload_n hK dX6_isSeen_46 2 rfl ?_
        refine rF_X6_31 (q2 := 286) hK dX6_isSeen_47 kd_278 rfl ?_
        refine J_iconst hK dX6_isSeen_50 ci_1 ?_
        refine J_iald hK dX6_isSeen_51 kd_286 (fun _ => ?_)
        refine J_aload_n hK dX6_isSeen_52 2 rfl ?_
        refine rF_X6_16 (q2 := 281) hK dX6_isSeen_53 kd_278 rfl ?_
        refine J_iload_n hK dX6_isSeen_56 3 rfl ?_
        refine J_iload hK dX6_isSeen_57 0 rfl ?_
        refine J_iadd hK dX6_isSeen_59 ?_
        refine J_iald hK dX6_isSeen_60 kd_281 (fun _ => ?_)
        refine J_icmp_ne (tgt := 68) hK dX6_isSeen_61 (by decide) ?_ ?_
        · refine J_iconst hK dX6_isSeen_64 ci_1 ?_
          refine J_goto (len := 0) (tgt := 69) hK dX6_isSeen_65 (by decide) ?_
          refine J_istore (lw := [(6, .int x6), (0, .ref (X.1 + 278)), (1, .int p1), (2, .int p2), (3, .int p3), (4, .int p4)]) hK dX6_isSeen_69 (by decide) rfl ?_
          refine J_iinc (lw := [(5, .int (1 : Int32)), (0, .ref (X.1 + 278)), (1, .int p1), (2, .int p2), (3, .int p3), (4, .int p4)]) hK dX6_isSeen_71 1 rfl (by decide) ci_1 rfl (fun z203 => ?_)
          refine J_goto (len := 0) (tgt := 27) hK dX6_isSeen_74 (by decide) ?_
          exact J_sub [0, 1, 2, 3, 4, 5, 6] rfl (ih _ _ _)
        · refine J_iconst hK dX6_isSeen_68 ci_0 ?_
          refine J_istore (lw := [(6, .int x6), (0, .ref (X.1 + 278)), (1, .int p1), (2, .int p2), (3, .int p3), (4, .int p4)]) hK dX6_isSeen_69 (by decide) rfl ?_
          refine J_iinc (lw := [(5, .int (0 : Int32)), (0, .ref (X.1 + 278)), (1, .int p1), (2, .int p2), (3, .int p3), (4, .int p4)]) hK dX6_isSeen_71 1 rfl (by decide) ci_1 rfl (fun z204 => ?_)
          refine J_goto (len := 0) (tgt := 27) hK dX6_isSeen_74 (by decide) ?_
          exact J_sub [0, 1, 2, 3, 4, 5, 6] rfl (ih _ _ _)
    · exact J_sub [0, 1, 2, 3, 4, 5, 6] rfl (hk _ _ _)
set_option maxHeartbeats 4000000 in
set_option maxRecDepth 4000 in
theorem uX6_isSeen {l : Launch} {X : WX} {a1 : Int32} {a2 : Int32} {a3 : Int32} {a4 : Int32} {h h' : AH} {v : Int32} (hf : fX6_isSeen a1 a2 a3 a4 h = some (v, h')) : Does l X 4 yX6_isSeen cX6_isSeen 7 (some .boolean) [.ref (X.1 + 278), .int a1, .int a2, .int a3, .int a4] h (eI v) h' := by
  refine Does.of (enc := eI) (o := fX6_isSeen a1 a2 a3 a4 h) (lv := [(0, .ref (X.1 + 278)), (1, .int a1), (2, .int a2), (3, .int a3), (4, .int a4)]) (by decide) (Nat.le_of_ble_eq_true rfl) rfl hf (fun K hl hK => ?_)
  subst hl
  unfold fX6_isSeen
  refine J_aload_n hK dX6_isSeen_0 0 rfl ?_
  refine rF_X6_25 (q2 := 284) hK dX6_isSeen_1 kd_278 rfl ?_
  refine J_iconst hK dX6_isSeen_4 ci_0 ?_
  refine J_aload_n hK dX6_isSeen_5 0 rfl ?_
  refine rF_X6_31 (q2 := 286) hK dX6_isSeen_6 kd_278 rfl ?_
  refine J_iconst hK dX6_isSeen_9 ci_0 ?_
  refine J_callSv (As := [.ref (X.1 + 284), .int (0 : Int32), .ref (X.1 + 286), .int (0 : Int32)]) (st := []) hK dX6_isSeen_10 kB_X6_135 kS_X6_copies (by decide) rfl rfl (Nat.le_of_ble_eq_true rfl) (fun _ _ hf => uX6_copies kd_284 kd_286 hf) (fun _ h1 => ?_)
  refine J_aload_n hK dX6_isSeen_13 0 rfl ?_
  refine rF_X6_31 (q2 := 286) hK dX6_isSeen_14 kd_278 rfl ?_
  refine J_iload_n hK dX6_isSeen_17 3 rfl ?_
  refine J_iload hK dX6_isSeen_18 4 rfl ?_
  refine J_iast hK dX6_isSeen_20 kd_286 (fun h2 => ?_)
  refine J_iconst hK dX6_isSeen_21 ci_1 ?_
  refine J_istore (lw := [(0, .ref (X.1 + 278)), (1, .int a1), (2, .int a2), (3, .int a3), (4, .int a4)]) hK dX6_isSeen_22 (by decide) rfl ?_
  refine J_iconst hK dX6_isSeen_24 ci_0 ?_
  refine J_istore (lw := [(5, .int (1 : Int32)), (0, .ref (X.1 + 278)), (1, .int a1), (2, .int a2), (3, .int a3), (4, .int a4)]) hK dX6_isSeen_25 (by decide) rfl ?_
  refine J_sub [0, 1, 2, 3, 4, 5, 6] rfl (gX6_isSeen_L27 hK  (fun z3 z4 h5 => ?_) FU _ _ _)
  refine J_iload hK dX6_isSeen_77 1 rfl ?_
  exact J_zret hK dX6_isSeen_79
-- X6_must
theorem dX6_must_0 : DD cX6_must 0 (.aload_n 0) 1 1 := by decide +kernel
theorem dX6_must_1 : DD cX6_must 1 (.invokevirtual 101) 3 4 := by decide +kernel
theorem dX6_must_4 : DD cX6_must 4 (.ifCond .eq 14) 3 7 := by decide +kernel
theorem dX6_must_7 : DD cX6_must 7 (.iload_n 1) 1 8 := by decide +kernel
theorem dX6_must_8 : DD cX6_must 8 (.ifCond .ne 10) 3 11 := by decide +kernel
theorem dX6_must_11 : DD cX6_must 11 (.aload_n 0) 1 12 := by decide +kernel
theorem dX6_must_12 : DD cX6_must 12 (.iconst 0) 1 13 := by decide +kernel
theorem dX6_must_13 : DD cX6_must 13 (.iconst 1) 1 14 := by decide +kernel
theorem dX6_must_14 : DD cX6_must 14 (.invokevirtual 111) 3 17 := by decide +kernel
theorem dX6_must_17 : DD cX6_must 17 (.pop) 1 18 := by decide +kernel
theorem dX6_must_18 : DD cX6_must 18 (.return_) 1 19 := by decide +kernel
def fX6_must (a1 : Int32) (h : AH) : Option (Unit × AH) := (bnd (fX6_isWell  h) fun v2 h1 => (if v2 = 0 then (some ((), h1)) else (if a1 = 0 then (bnd (fX6_takes (0 : Int32) (1 : Int32) h1) fun v4 h3 => (some ((), h3))) else (some ((), h1)))))
set_option maxHeartbeats 4000000 in
set_option maxRecDepth 4000 in
theorem uX6_must {l : Launch} {X : WX} {a1 : Int32} {h h' : AH} {v : Unit} (hf : fX6_must a1 h = some (v, h')) : Does l X 4 yX6_must cX6_must 2 none [.ref (X.1 + 278), .int a1] h (eV v) h' := by
  refine Does.of (enc := eV) (o := fX6_must a1 h) (lv := [(0, .ref (X.1 + 278)), (1, .int a1)]) (by decide) (Nat.le_of_ble_eq_true rfl) rfl hf (fun K hl hK => ?_)
  subst hl
  unfold fX6_must
  refine J_aload_n hK dX6_must_0 0 rfl ?_
  refine J_callVi (q := 278) (As := []) (st := []) hK dX6_must_1 kB_X6_101 kV_X6_isWell kd_278 (by decide) rfl rfl (by decide) rfl rfl (Nat.le_of_ble_eq_true rfl) (fun _ _ hf => uX6_isWell  hf) (fun v2 h1 => ?_)
  refine J_if_eq (tgt := 18) hK dX6_must_4 (by decide) ?_ ?_
  · exact J_vret hK dX6_must_18
  · refine J_iload_n hK dX6_must_7 1 rfl ?_
    refine J_if_ne (tgt := 18) hK dX6_must_8 (by decide) ?_ ?_
    · refine J_aload_n hK dX6_must_11 0 rfl ?_
      refine J_iconst hK dX6_must_12 ci_0 ?_
      refine J_iconst hK dX6_must_13 ci_1 ?_
      refine J_callVi (q := 278) (As := [.int (0 : Int32), .int (1 : Int32)]) (st := []) hK dX6_must_14 kB_X6_111 kV_X6_takes kd_278 (by decide) rfl rfl (by decide) rfl rfl (Nat.le_of_ble_eq_true rfl) (fun _ _ hf => uX6_takes  hf) (fun v4 h3 => ?_)
      refine J_pop hK dX6_must_17 rfl ?_
      exact J_vret hK dX6_must_18
    · exact J_vret hK dX6_must_18
-- X6_parts
theorem dX6_parts_0 : DD cX6_parts 0 (.aload_n 0) 1 1 := by decide +kernel
theorem dX6_parts_1 : DD cX6_parts 1 (.iload_n 1) 1 2 := by decide +kernel
theorem dX6_parts_2 : DD cX6_parts 2 (.invokevirtual 178) 3 5 := by decide +kernel
theorem dX6_parts_5 : DD cX6_parts 5 (.ifCond .ne 6) 3 8 := by decide +kernel
theorem dX6_parts_8 : DD cX6_parts 8 (.ldc 61) 2 10 := by decide +kernel
theorem dX6_parts_10 : DD cX6_parts 10 (.ireturn) 1 11 := by decide +kernel
theorem dX6_parts_11 : DD cX6_parts 11 (.aload_n 0) 1 12 := by decide +kernel
theorem dX6_parts_12 : DD cX6_parts 12 (.getfield 25) 3 15 := by decide +kernel
theorem dX6_parts_15 : DD cX6_parts 15 (.iconst 0) 1 16 := by decide +kernel
theorem dX6_parts_16 : DD cX6_parts 16 (.aload_n 0) 1 17 := by decide +kernel
theorem dX6_parts_17 : DD cX6_parts 17 (.getfield 31) 3 20 := by decide +kernel
theorem dX6_parts_20 : DD cX6_parts 20 (.iconst 0) 1 21 := by decide +kernel
theorem dX6_parts_21 : DD cX6_parts 21 (.invokestatic 135) 3 24 := by decide +kernel
theorem dX6_parts_24 : DD cX6_parts 24 (.iconst 0) 1 25 := by decide +kernel
theorem dX6_parts_25 : DD cX6_parts 25 (.istore_n 2) 1 26 := by decide +kernel
theorem dX6_parts_26 : DD cX6_parts 26 (.iload_n 2) 1 27 := by decide +kernel
theorem dX6_parts_27 : DD cX6_parts 27 (.bipush 61) 2 29 := by decide +kernel
theorem dX6_parts_29 : DD cX6_parts 29 (.if_icmp .ge 34) 3 32 := by decide +kernel
theorem dX6_parts_32 : DD cX6_parts 32 (.aload_n 0) 1 33 := by decide +kernel
theorem dX6_parts_33 : DD cX6_parts 33 (.getfield 31) 3 36 := by decide +kernel
theorem dX6_parts_36 : DD cX6_parts 36 (.iconst 5) 1 37 := by decide +kernel
theorem dX6_parts_37 : DD cX6_parts 37 (.iconst 5) 1 38 := by decide +kernel
theorem dX6_parts_38 : DD cX6_parts 38 (.iload_n 1) 1 39 := by decide +kernel
theorem dX6_parts_39 : DD cX6_parts 39 (.imul) 1 40 := by decide +kernel
theorem dX6_parts_40 : DD cX6_parts 40 (.iadd) 1 41 := by decide +kernel
theorem dX6_parts_41 : DD cX6_parts 41 (.iconst 4) 1 42 := by decide +kernel
theorem dX6_parts_42 : DD cX6_parts 42 (.iadd) 1 43 := by decide +kernel
theorem dX6_parts_43 : DD cX6_parts 43 (.iaload) 1 44 := by decide +kernel
theorem dX6_parts_44 : DD cX6_parts 44 (.ifCond .ne 5) 3 47 := by decide +kernel
theorem dX6_parts_47 : DD cX6_parts 47 (.iload_n 2) 1 48 := by decide +kernel
theorem dX6_parts_48 : DD cX6_parts 48 (.ireturn) 1 49 := by decide +kernel
theorem dX6_parts_49 : DD cX6_parts 49 (.aload_n 0) 1 50 := by decide +kernel
theorem dX6_parts_50 : DD cX6_parts 50 (.getfield 31) 3 53 := by decide +kernel
theorem dX6_parts_53 : DD cX6_parts 53 (.iconst 0) 1 54 := by decide +kernel
theorem dX6_parts_54 : DD cX6_parts 54 (.invokestatic 174) 3 57 := by decide +kernel
theorem dX6_parts_57 : DD cX6_parts 57 (.iinc 2 1) 3 60 := by decide +kernel
theorem dX6_parts_60 : DD cX6_parts 60 (.goto (-34)) 3 63 := by decide +kernel
theorem dX6_parts_63 : DD cX6_parts 63 (.ldc 47) 2 65 := by decide +kernel
theorem dX6_parts_65 : DD cX6_parts 65 (.ireturn) 1 66 := by decide +kernel
def fX6_parts_L26 (p1 : Int32) : Nat → Int32 → AH → (Int32 → AH → Option (Int32 × AH)) → Option (Int32 × AH)
  | 0, _, _, _ => none
  | n + 1, x2, h, k => (if x2 < (61 : Int32) then (chk (inb (((5 : Int32) + ((5 : Int32) * p1)) + (4 : Int32)) (ln 286)) (if (h 286 (Int32.toNatClampNeg (((5 : Int32) + ((5 : Int32) * p1)) + (4 : Int32)))) = 0 then (some (x2, h)) else (bnd (fX6_passes 286 (0 : Int32) h) fun _ h201 => (vl (x2 + (1 : Int32)) fun z202 => fX6_parts_L26 p1 n z202 h201 k)))) else k x2 h)
def fX6_parts (a1 : Int32) (h : AH) : Option (Int32 × AH) := (bnd (fX6_isTug a1 h) fun v2 h1 => (if v2 = 0 then (some ((-1000001 : Int32), h1)) else (bnd (fX6_copies 284 (0 : Int32) 286 (0 : Int32) h1) fun _ h3 => (fX6_parts_L26 a1 FU (0 : Int32) h3 fun z4 h5 => (some ((-1000000 : Int32), h5))))))
set_option maxHeartbeats 4000000 in
theorem gX6_parts_L26 {K : MC} {X : WX} {p1 : Int32} (hK : Ok K X RX6 cX6_parts 3 (some .int) 4) {k : Int32 → AH → Option (Int32 × AH)} (hk : ∀ (x2 : Int32) (h : AH), J K X 3 (Zm K X) eI 63 [(2, .int x2), (0, .ref (X.1 + 278)), (1, .int p1)] [] h (k x2 h)) : ∀ (n : Nat) (x2 : Int32) (h : AH), J K X 3 (Zm K X) eI 26 [(2, .int x2), (0, .ref (X.1 + 278)), (1, .int p1)] [] h (fX6_parts_L26 p1 n x2 h k) := by
  intro n
  induction n with
  | zero => exact fun _ _ => J_none
  | succ n ih =>
    intro x2 h
    rw [fX6_parts_L26]
    refine J_iload_n hK dX6_parts_26 0 rfl ?_
    refine J_bipush hK dX6_parts_27 cb_61 ?_
    refine J_icmp_ge (tgt := 63) hK dX6_parts_29 (by decide) ?_ ?_
    · refine J_aload_n hK dX6_parts_32 1 rfl ?_
      refine rF_X6_31 (q2 := 286) hK dX6_parts_33 kd_278 rfl ?_
      refine J_iconst hK dX6_parts_36 ci_5 ?_
      refine J_iconst hK dX6_parts_37 ci_5 ?_
      refine J_iload_n hK dX6_parts_38 2 rfl ?_
      refine J_imul hK dX6_parts_39 ?_
      refine J_iadd hK dX6_parts_40 ?_
      refine J_iconst hK dX6_parts_41 ci_4 ?_
      refine J_iadd hK dX6_parts_42 ?_
      refine J_iald hK dX6_parts_43 kd_286 (fun _ => ?_)
      refine J_if_ne (tgt := 49) hK dX6_parts_44 (by decide) ?_ ?_
      · refine J_iload_n hK dX6_parts_47 0 rfl ?_
        exact J_iret hK dX6_parts_48
      · refine J_aload_n hK dX6_parts_49 1 rfl ?_
        refine rF_X6_31 (q2 := 286) hK dX6_parts_50 kd_278 rfl ?_
        refine J_iconst hK dX6_parts_53 ci_0 ?_
        refine J_callSv (As := [.ref (X.1 + 286), .int (0 : Int32)]) (st := []) hK dX6_parts_54 kB_X6_174 kS_X6_passes (by decide) rfl rfl (Nat.le_of_ble_eq_true rfl) (fun _ _ hf => uX6_passes kd_286 hf) (fun _ h201 => ?_)
        refine J_iinc (lw := [(0, .ref (X.1 + 278)), (1, .int p1)]) hK dX6_parts_57 0 rfl (by decide) ci_1 rfl (fun z202 => ?_)
        refine J_goto (len := 0) (tgt := 26) hK dX6_parts_60 (by decide) ?_
        exact J_sub [0, 1, 2] rfl (ih _ _)
    · exact J_sub [0, 1, 2] rfl (hk _ _)
set_option maxHeartbeats 4000000 in
set_option maxRecDepth 4000 in
theorem uX6_parts {l : Launch} {X : WX} {a1 : Int32} {h h' : AH} {v : Int32} (hf : fX6_parts a1 h = some (v, h')) : Does l X 4 yX6_parts cX6_parts 3 (some .int) [.ref (X.1 + 278), .int a1] h (eI v) h' := by
  refine Does.of (enc := eI) (o := fX6_parts a1 h) (lv := [(0, .ref (X.1 + 278)), (1, .int a1)]) (by decide) (Nat.le_of_ble_eq_true rfl) rfl hf (fun K hl hK => ?_)
  subst hl
  unfold fX6_parts
  refine J_aload_n hK dX6_parts_0 0 rfl ?_
  refine J_iload_n hK dX6_parts_1 1 rfl ?_
  refine J_callVi (q := 278) (As := [.int a1]) (st := []) hK dX6_parts_2 kB_X6_178 kV_X6_isTug kd_278 (by decide) rfl rfl (by decide) rfl rfl (Nat.le_of_ble_eq_true rfl) (fun _ _ hf => uX6_isTug  hf) (fun v2 h1 => ?_)
  refine J_if_ne (tgt := 11) hK dX6_parts_5 (by decide) ?_ ?_
  · refine J_ldc hK dX6_parts_8 kK_X6_61 ?_
    exact J_iret hK dX6_parts_10
  · refine J_aload_n hK dX6_parts_11 0 rfl ?_
    refine rF_X6_25 (q2 := 284) hK dX6_parts_12 kd_278 rfl ?_
    refine J_iconst hK dX6_parts_15 ci_0 ?_
    refine J_aload_n hK dX6_parts_16 0 rfl ?_
    refine rF_X6_31 (q2 := 286) hK dX6_parts_17 kd_278 rfl ?_
    refine J_iconst hK dX6_parts_20 ci_0 ?_
    refine J_callSv (As := [.ref (X.1 + 284), .int (0 : Int32), .ref (X.1 + 286), .int (0 : Int32)]) (st := []) hK dX6_parts_21 kB_X6_135 kS_X6_copies (by decide) rfl rfl (Nat.le_of_ble_eq_true rfl) (fun _ _ hf => uX6_copies kd_284 kd_286 hf) (fun _ h3 => ?_)
    refine J_iconst hK dX6_parts_24 ci_0 ?_
    refine J_istore_n (n := 2) (lw := [(0, .ref (X.1 + 278)), (1, .int a1)]) hK dX6_parts_25 rfl (by decide) rfl ?_
    refine J_sub [0, 1, 2] rfl (gX6_parts_L26 hK  (fun z4 h5 => ?_) FU _ _)
    refine J_ldc hK dX6_parts_63 kK_X6_47 ?_
    exact J_iret hK dX6_parts_65
-- X6_cleared
theorem dX6_cleared_0 : DD cX6_cleared 0 (.aload_n 0) 1 1 := by decide +kernel
theorem dX6_cleared_1 : DD cX6_cleared 1 (.invokevirtual 167) 3 4 := by decide +kernel
theorem dX6_cleared_4 : DD cX6_cleared 4 (.ifCond .ne 6) 3 7 := by decide +kernel
theorem dX6_cleared_7 : DD cX6_cleared 7 (.ldc 170) 2 9 := by decide +kernel
theorem dX6_cleared_9 : DD cX6_cleared 9 (.ireturn) 1 10 := by decide +kernel
theorem dX6_cleared_10 : DD cX6_cleared 10 (.iload_n 1) 1 11 := by decide +kernel
theorem dX6_cleared_11 : DD cX6_cleared 11 (.invokestatic 194) 3 14 := by decide +kernel
theorem dX6_cleared_14 : DD cX6_cleared 14 (.ifCond .eq 12) 3 17 := by decide +kernel
theorem dX6_cleared_17 : DD cX6_cleared 17 (.iload_n 2) 1 18 := by decide +kernel
theorem dX6_cleared_18 : DD cX6_cleared 18 (.iconst 0) 1 19 := by decide +kernel
theorem dX6_cleared_19 : DD cX6_cleared 19 (.iconst 1) 1 20 := by decide +kernel
theorem dX6_cleared_20 : DD cX6_cleared 20 (.invokestatic 53) 3 23 := by decide +kernel
theorem dX6_cleared_23 : DD cX6_cleared 23 (.ifCond .ne 6) 3 26 := by decide +kernel
theorem dX6_cleared_26 : DD cX6_cleared 26 (.ldc 61) 2 28 := by decide +kernel
theorem dX6_cleared_28 : DD cX6_cleared 28 (.ireturn) 1 29 := by decide +kernel
theorem dX6_cleared_29 : DD cX6_cleared 29 (.aload_n 0) 1 30 := by decide +kernel
theorem dX6_cleared_30 : DD cX6_cleared 30 (.getfield 25) 3 33 := by decide +kernel
theorem dX6_cleared_33 : DD cX6_cleared 33 (.invokestatic 191) 3 36 := by decide +kernel
theorem dX6_cleared_36 : DD cX6_cleared 36 (.istore_n 3) 1 37 := by decide +kernel
theorem dX6_cleared_37 : DD cX6_cleared 37 (.ldc 47) 2 39 := by decide +kernel
theorem dX6_cleared_39 : DD cX6_cleared 39 (.istore 4) 2 41 := by decide +kernel
theorem dX6_cleared_41 : DD cX6_cleared 41 (.iconst 0) 1 42 := by decide +kernel
theorem dX6_cleared_42 : DD cX6_cleared 42 (.istore 5) 2 44 := by decide +kernel
theorem dX6_cleared_44 : DD cX6_cleared 44 (.iload 5) 2 46 := by decide +kernel
theorem dX6_cleared_46 : DD cX6_cleared 46 (.iload_n 3) 1 47 := by decide +kernel
theorem dX6_cleared_47 : DD cX6_cleared 47 (.if_icmp .gt 148) 3 50 := by decide +kernel
theorem dX6_cleared_50 : DD cX6_cleared 50 (.iload 4) 2 52 := by decide +kernel
theorem dX6_cleared_52 : DD cX6_cleared 52 (.ldc 47) 2 54 := by decide +kernel
theorem dX6_cleared_54 : DD cX6_cleared 54 (.if_icmp .eq 16) 3 57 := by decide +kernel
theorem dX6_cleared_57 : DD cX6_cleared 57 (.iload 5) 2 59 := by decide +kernel
theorem dX6_cleared_59 : DD cX6_cleared 59 (.invokestatic 197) 3 62 := by decide +kernel
theorem dX6_cleared_62 : DD cX6_cleared 62 (.iload 4) 2 64 := by decide +kernel
theorem dX6_cleared_64 : DD cX6_cleared 64 (.invokestatic 197) 3 67 := by decide +kernel
theorem dX6_cleared_67 : DD cX6_cleared 67 (.if_icmp .ge 7) 3 70 := by decide +kernel
theorem dX6_cleared_70 : DD cX6_cleared 70 (.iconst 1) 1 71 := by decide +kernel
theorem dX6_cleared_71 : DD cX6_cleared 71 (.goto 4) 3 74 := by decide +kernel
theorem dX6_cleared_74 : DD cX6_cleared 74 (.iconst 0) 1 75 := by decide +kernel
theorem dX6_cleared_75 : DD cX6_cleared 75 (.istore 6) 2 77 := by decide +kernel
theorem dX6_cleared_77 : DD cX6_cleared 77 (.iload 5) 2 79 := by decide +kernel
theorem dX6_cleared_79 : DD cX6_cleared 79 (.iload_n 3) 1 80 := by decide +kernel
theorem dX6_cleared_80 : DD cX6_cleared 80 (.iconst (-1)) 1 81 := by decide +kernel
theorem dX6_cleared_81 : DD cX6_cleared 81 (.ixor) 1 82 := by decide +kernel
theorem dX6_cleared_82 : DD cX6_cleared 82 (.iand) 1 83 := by decide +kernel
theorem dX6_cleared_83 : DD cX6_cleared 83 (.ifCond .ne 106) 3 86 := by decide +kernel
theorem dX6_cleared_86 : DD cX6_cleared 86 (.iload 6) 2 88 := by decide +kernel
theorem dX6_cleared_88 : DD cX6_cleared 88 (.ifCond .eq 101) 3 91 := by decide +kernel
theorem dX6_cleared_91 : DD cX6_cleared 91 (.aload_n 0) 1 92 := by decide +kernel
theorem dX6_cleared_92 : DD cX6_cleared 92 (.getfield 25) 3 95 := by decide +kernel
theorem dX6_cleared_95 : DD cX6_cleared 95 (.iconst 0) 1 96 := by decide +kernel
theorem dX6_cleared_96 : DD cX6_cleared 96 (.aload_n 0) 1 97 := by decide +kernel
theorem dX6_cleared_97 : DD cX6_cleared 97 (.getfield 31) 3 100 := by decide +kernel
theorem dX6_cleared_100 : DD cX6_cleared 100 (.iconst 0) 1 101 := by decide +kernel
theorem dX6_cleared_101 : DD cX6_cleared 101 (.invokestatic 135) 3 104 := by decide +kernel
theorem dX6_cleared_104 : DD cX6_cleared 104 (.iconst 0) 1 105 := by decide +kernel
theorem dX6_cleared_105 : DD cX6_cleared 105 (.istore 7) 2 107 := by decide +kernel
theorem dX6_cleared_107 : DD cX6_cleared 107 (.iload 7) 2 109 := by decide +kernel
theorem dX6_cleared_109 : DD cX6_cleared 109 (.aload_n 0) 1 110 := by decide +kernel
theorem dX6_cleared_110 : DD cX6_cleared 110 (.getfield 25) 3 113 := by decide +kernel
theorem dX6_cleared_113 : DD cX6_cleared 113 (.iconst 3) 1 114 := by decide +kernel
theorem dX6_cleared_114 : DD cX6_cleared 114 (.iaload) 1 115 := by decide +kernel
theorem dX6_cleared_115 : DD cX6_cleared 115 (.if_icmp .ge 51) 3 118 := by decide +kernel
theorem dX6_cleared_118 : DD cX6_cleared 118 (.aload_n 0) 1 119 := by decide +kernel
theorem dX6_cleared_119 : DD cX6_cleared 119 (.getfield 31) 3 122 := by decide +kernel
theorem dX6_cleared_122 : DD cX6_cleared 122 (.bipush 35) 2 124 := by decide +kernel
theorem dX6_cleared_124 : DD cX6_cleared 124 (.iconst 2) 1 125 := by decide +kernel
theorem dX6_cleared_125 : DD cX6_cleared 125 (.iload 7) 2 127 := by decide +kernel
theorem dX6_cleared_127 : DD cX6_cleared 127 (.imul) 1 128 := by decide +kernel
theorem dX6_cleared_128 : DD cX6_cleared 128 (.iadd) 1 129 := by decide +kernel
theorem dX6_cleared_129 : DD cX6_cleared 129 (.iconst 1) 1 130 := by decide +kernel
theorem dX6_cleared_130 : DD cX6_cleared 130 (.iadd) 1 131 := by decide +kernel
theorem dX6_cleared_131 : DD cX6_cleared 131 (.iload 5) 2 133 := by decide +kernel
theorem dX6_cleared_133 : DD cX6_cleared 133 (.iload 7) 2 135 := by decide +kernel
theorem dX6_cleared_135 : DD cX6_cleared 135 (.invokestatic 200) 3 138 := by decide +kernel
theorem dX6_cleared_138 : DD cX6_cleared 138 (.ifCond .eq 7) 3 141 := by decide +kernel
theorem dX6_cleared_141 : DD cX6_cleared 141 (.iconst 0) 1 142 := by decide +kernel
theorem dX6_cleared_142 : DD cX6_cleared 142 (.goto 17) 3 145 := by decide +kernel
theorem dX6_cleared_145 : DD cX6_cleared 145 (.aload_n 0) 1 146 := by decide +kernel
theorem dX6_cleared_146 : DD cX6_cleared 146 (.getfield 25) 3 149 := by decide +kernel
theorem dX6_cleared_149 : DD cX6_cleared 149 (.bipush 35) 2 151 := by decide +kernel
theorem dX6_cleared_151 : DD cX6_cleared 151 (.iconst 2) 1 152 := by decide +kernel
theorem dX6_cleared_152 : DD cX6_cleared 152 (.iload 7) 2 154 := by decide +kernel
theorem dX6_cleared_154 : DD cX6_cleared 154 (.imul) 1 155 := by decide +kernel
theorem dX6_cleared_155 : DD cX6_cleared 155 (.iadd) 1 156 := by decide +kernel
theorem dX6_cleared_156 : DD cX6_cleared 156 (.iconst 1) 1 157 := by decide +kernel
theorem dX6_cleared_157 : DD cX6_cleared 157 (.iadd) 1 158 := by decide +kernel
theorem dX6_cleared_158 : DD cX6_cleared 158 (.iaload) 1 159 := by decide +kernel
theorem dX6_cleared_159 : DD cX6_cleared 159 (.iastore) 1 160 := by decide +kernel
theorem dX6_cleared_160 : DD cX6_cleared 160 (.iinc 7 1) 3 163 := by decide +kernel
theorem dX6_cleared_163 : DD cX6_cleared 163 (.goto (-56)) 3 166 := by decide +kernel
theorem dX6_cleared_166 : DD cX6_cleared 166 (.aload_n 0) 1 167 := by decide +kernel
theorem dX6_cleared_167 : DD cX6_cleared 167 (.iload_n 1) 1 168 := by decide +kernel
theorem dX6_cleared_168 : DD cX6_cleared 168 (.invokevirtual 187) 3 171 := by decide +kernel
theorem dX6_cleared_171 : DD cX6_cleared 171 (.aload_n 0) 1 172 := by decide +kernel
theorem dX6_cleared_172 : DD cX6_cleared 172 (.getfield 31) 3 175 := by decide +kernel
theorem dX6_cleared_175 : DD cX6_cleared 175 (.iconst 1) 1 176 := by decide +kernel
theorem dX6_cleared_176 : DD cX6_cleared 176 (.iaload) 1 177 := by decide +kernel
theorem dX6_cleared_177 : DD cX6_cleared 177 (.ifCond .ne 8) 3 180 := by decide +kernel
theorem dX6_cleared_180 : DD cX6_cleared 180 (.iload 5) 2 182 := by decide +kernel
theorem dX6_cleared_182 : DD cX6_cleared 182 (.goto 5) 3 185 := by decide +kernel
theorem dX6_cleared_185 : DD cX6_cleared 185 (.iload 4) 2 187 := by decide +kernel
theorem dX6_cleared_187 : DD cX6_cleared 187 (.istore 4) 2 189 := by decide +kernel
theorem dX6_cleared_189 : DD cX6_cleared 189 (.iinc 5 1) 3 192 := by decide +kernel
theorem dX6_cleared_192 : DD cX6_cleared 192 (.goto (-148)) 3 195 := by decide +kernel
theorem dX6_cleared_195 : DD cX6_cleared 195 (.iload 4) 2 197 := by decide +kernel
theorem dX6_cleared_197 : DD cX6_cleared 197 (.ldc 47) 2 199 := by decide +kernel
theorem dX6_cleared_199 : DD cX6_cleared 199 (.if_icmp .eq 8) 3 202 := by decide +kernel
theorem dX6_cleared_202 : DD cX6_cleared 202 (.iload_n 2) 1 203 := by decide +kernel
theorem dX6_cleared_203 : DD cX6_cleared 203 (.iconst 1) 1 204 := by decide +kernel
theorem dX6_cleared_204 : DD cX6_cleared 204 (.if_icmp .ne 8) 3 207 := by decide +kernel
theorem dX6_cleared_207 : DD cX6_cleared 207 (.iload 4) 2 209 := by decide +kernel
theorem dX6_cleared_209 : DD cX6_cleared 209 (.goto 8) 3 212 := by decide +kernel
theorem dX6_cleared_212 : DD cX6_cleared 212 (.iload 4) 2 214 := by decide +kernel
theorem dX6_cleared_214 : DD cX6_cleared 214 (.invokestatic 197) 3 217 := by decide +kernel
theorem dX6_cleared_217 : DD cX6_cleared 217 (.ireturn) 1 218 := by decide +kernel
def fX6_cleared_L107 (p6 : Int32) (p5 : Int32) (p4 : Int32) (p3 : Int32) (p1 : Int32) (p2 : Int32) : Nat → Int32 → AH → (Int32 → AH → Option (Int32 × AH)) → Option (Int32 × AH)
  | 0, _, _, _ => none
  | n + 1, x7, h, k => (chk (inb (3 : Int32) (ln 284)) (if x7 < (h 284 (Int32.toNatClampNeg (3 : Int32))) then (bnd (fX6_has p5 x7 h) fun v302 h301 => (if v302 = 0 then (chk (inb (((35 : Int32) + ((2 : Int32) * x7)) + (1 : Int32)) (ln 284)) (chk (inb (((35 : Int32) + ((2 : Int32) * x7)) + (1 : Int32)) (ln 286)) (sto (hs h301 286 (Int32.toNatClampNeg (((35 : Int32) + ((2 : Int32) * x7)) + (1 : Int32))) (h301 284 (Int32.toNatClampNeg (((35 : Int32) + ((2 : Int32) * x7)) + (1 : Int32))))) fun h303 => (vl (x7 + (1 : Int32)) fun z304 => fX6_cleared_L107 p6 p5 p4 p3 p1 p2 n z304 h303 k)))) else (chk (inb (((35 : Int32) + ((2 : Int32) * x7)) + (1 : Int32)) (ln 286)) (sto (hs h301 286 (Int32.toNatClampNeg (((35 : Int32) + ((2 : Int32) * x7)) + (1 : Int32))) (0 : Int32)) fun h305 => (vl (x7 + (1 : Int32)) fun z306 => fX6_cleared_L107 p6 p5 p4 p3 p1 p2 n z306 h305 k))))) else k x7 h))
def fX6_cleared_L44 (p3 : Int32) (p1 : Int32) (p2 : Int32) : Nat → Int32 → Int32 → AH → (Int32 → Int32 → AH → Option (Int32 × AH)) → Option (Int32 × AH)
  | 0, _, _, _, _ => none
  | n + 1, x5, x4, h, k => (if p3 < x5 then k x5 x4 h else (if x4 = (-1000000 : Int32) then (if (x5 &&& (p3 ^^^ (-1 : Int32))) = 0 then (if (1 : Int32) = 0 then none else (bnd (fX6_copies 284 (0 : Int32) 286 (0 : Int32) h) fun _ h201 => (fX6_cleared_L107 (1 : Int32) x5 x4 p3 p1 p2 FU (0 : Int32) h201 fun z202 h203 => (bnd (fX6_goesOn p1 h203) fun _ h204 => (chk (inb (1 : Int32) (ln 286)) (if (h204 286 (Int32.toNatClampNeg (1 : Int32))) = 0 then (vl (x5 + (1 : Int32)) fun z205 => fX6_cleared_L44 p3 p1 p2 n z205 x5 h204 k) else (vl (x5 + (1 : Int32)) fun z206 => fX6_cleared_L44 p3 p1 p2 n z206 x4 h204 k))))))) else (vl (x5 + (1 : Int32)) fun z207 => fX6_cleared_L44 p3 p1 p2 n z207 x4 h k)) else (bnd (fX6_ones x5 h) fun v209 h208 => (bnd (fX6_ones x4 h208) fun v211 h210 => (if v209 < v211 then (if (x5 &&& (p3 ^^^ (-1 : Int32))) = 0 then (if (1 : Int32) = 0 then none else (bnd (fX6_copies 284 (0 : Int32) 286 (0 : Int32) h210) fun _ h212 => (fX6_cleared_L107 (1 : Int32) x5 x4 p3 p1 p2 FU (0 : Int32) h212 fun z213 h214 => (bnd (fX6_goesOn p1 h214) fun _ h215 => (chk (inb (1 : Int32) (ln 286)) (if (h215 286 (Int32.toNatClampNeg (1 : Int32))) = 0 then (vl (x5 + (1 : Int32)) fun z216 => fX6_cleared_L44 p3 p1 p2 n z216 x5 h215 k) else (vl (x5 + (1 : Int32)) fun z217 => fX6_cleared_L44 p3 p1 p2 n z217 x4 h215 k))))))) else (vl (x5 + (1 : Int32)) fun z218 => fX6_cleared_L44 p3 p1 p2 n z218 x4 h210 k)) else (if (x5 &&& (p3 ^^^ (-1 : Int32))) = 0 then (if (0 : Int32) = 0 then (vl (x5 + (1 : Int32)) fun z219 => fX6_cleared_L44 p3 p1 p2 n z219 x4 h210 k) else none) else (vl (x5 + (1 : Int32)) fun z220 => fX6_cleared_L44 p3 p1 p2 n z220 x4 h210 k)))))))
def fX6_cleared (a1 : Int32) (a2 : Int32) (h : AH) : Option (Int32 × AH) := (bnd (fX6_isEstuary  h) fun v2 h1 => (if v2 = 0 then (some ((-1000002 : Int32), h1)) else (bnd (fX6_isNear a1 h1) fun v4 h3 => (if v4 = 0 then (some ((-1000001 : Int32), h3)) else (bnd (fX6_in a2 (0 : Int32) (1 : Int32) h3) fun v6 h5 => (if v6 = 0 then (some ((-1000001 : Int32), h5)) else (bnd (fX6_standing 284 h5) fun v8 h7 => (fX6_cleared_L44 v8 a1 a2 FU (0 : Int32) (-1000000 : Int32) h7 fun z9 z10 h11 => (if z10 = (-1000000 : Int32) then (some (z10, h11)) else (if a2 = (1 : Int32) then (some (z10, h11)) else (bnd (fX6_ones z10 h11) fun v13 h12 => (some (v13, h12)))))))))))))
set_option maxHeartbeats 4000000 in
theorem gX6_cleared_L107 {K : MC} {X : WX} {p6 : Int32} {p5 : Int32} {p4 : Int32} {p3 : Int32} {p1 : Int32} {p2 : Int32} (hK : Ok K X RX6 cX6_cleared 8 (some .int) 5) {k : Int32 → AH → Option (Int32 × AH)} (hk : ∀ (x7 : Int32) (h : AH), J K X 8 (Zm K X) eI 166 [(7, .int x7), (6, .int p6), (5, .int p5), (4, .int p4), (3, .int p3), (0, .ref (X.1 + 278)), (1, .int p1), (2, .int p2)] [] h (k x7 h)) : ∀ (n : Nat) (x7 : Int32) (h : AH), J K X 8 (Zm K X) eI 107 [(7, .int x7), (6, .int p6), (5, .int p5), (4, .int p4), (3, .int p3), (0, .ref (X.1 + 278)), (1, .int p1), (2, .int p2)] [] h (fX6_cleared_L107 p6 p5 p4 p3 p1 p2 n x7 h k) := by
  intro n
  induction n with
  | zero => exact fun _ _ => J_none
  | succ n ih =>
    intro x7 h
    rw [fX6_cleared_L107]
    refine J_iload hK dX6_cleared_107 0 rfl ?_
    refine J_aload_n hK dX6_cleared_109 5 rfl ?_
    refine rF_X6_25 (q2 := 284) hK dX6_cleared_110 kd_278 rfl ?_
    refine J_iconst hK dX6_cleared_113 ci_3 ?_
    refine J_iald hK dX6_cleared_114 kd_284 (fun _ => ?_)
    refine J_icmp_ge (tgt := 166) hK dX6_cleared_115 (by decide) ?_ ?_
    · refine J_aload_n hK dX6_cleared_118 5 rfl ?_
      refine rF_X6_31 (q2 := 286) hK dX6_cleared_119 kd_278 rfl ?_
      refine J_bipush hK dX6_cleared_122 cb_35 ?_
      refine J_iconst hK dX6_cleared_124 ci_2 ?_
      refine J_iload hK dX6_cleared_125 0 rfl ?_
      refine J_imul hK dX6_cleared_127 ?_
      refine J_iadd hK dX6_cleared_128 ?_
      refine J_iconst hK dX6_cleared_129 ci_1 ?_
      refine J_iadd hK dX6_cleared_130 ?_
      refine J_iload hK dX6_cleared_131 2 rfl ?_
      refine J_iload hK dX6_cleared_133 0 rfl ?_
      refine J_callSi (As := [.int p5, .int x7]) (st := [.int (((35 : Int32) + ((2 : Int32) * x7)) + (1 : Int32)), .ref (X.1 + 286)]) hK dX6_cleared_135 kB_X6_200 kS_X6_has (by decide) rfl rfl (Nat.le_of_ble_eq_true rfl) (fun _ _ hf => uX6_has  hf) (fun v302 h301 => ?_)
      refine J_if_eq (tgt := 145) hK dX6_cleared_138 (by decide) ?_ ?_
      · refine J_aload_n hK dX6_cleared_145 5 rfl ?_
        refine rF_X6_25 (q2 := 284) hK dX6_cleared_146 kd_278 rfl ?_
        refine J_bipush hK dX6_cleared_149 cb_35 ?_
        refine J_iconst hK dX6_cleared_151 ci_2 ?_
        refine J_iload hK dX6_cleared_152 0 rfl ?_
        refine J_imul hK dX6_cleared_154 ?_
        refine J_iadd hK dX6_cleared_155 ?_
        refine J_iconst hK dX6_cleared_156 ci_1 ?_
        refine J_iadd hK dX6_cleared_157 ?_
        refine J_iald hK dX6_cleared_158 kd_284 (fun _ => ?_)
        refine J_iast hK dX6_cleared_159 kd_286 (fun h303 => ?_)
        refine J_iinc (lw := [(6, .int p6), (5, .int p5), (4, .int p4), (3, .int p3), (0, .ref (X.1 + 278)), (1, .int p1), (2, .int p2)]) hK dX6_cleared_160 0 rfl (by decide) ci_1 rfl (fun z304 => ?_)
        refine J_goto (len := 0) (tgt := 107) hK dX6_cleared_163 (by decide) ?_
        exact J_sub [0, 1, 2, 3, 4, 5, 6, 7] rfl (ih _ _)
      · refine J_iconst hK dX6_cleared_141 ci_0 ?_
        refine J_goto (len := 0) (tgt := 159) hK dX6_cleared_142 (by decide) ?_
        refine J_iast hK dX6_cleared_159 kd_286 (fun h305 => ?_)
        refine J_iinc (lw := [(6, .int p6), (5, .int p5), (4, .int p4), (3, .int p3), (0, .ref (X.1 + 278)), (1, .int p1), (2, .int p2)]) hK dX6_cleared_160 0 rfl (by decide) ci_1 rfl (fun z306 => ?_)
        refine J_goto (len := 0) (tgt := 107) hK dX6_cleared_163 (by decide) ?_
        exact J_sub [0, 1, 2, 3, 4, 5, 6, 7] rfl (ih _ _)
    · exact J_sub [0, 1, 2, 3, 4, 5, 6, 7] rfl (hk _ _)
set_option maxHeartbeats 4000000 in
theorem gX6_cleared_L44 {K : MC} {X : WX} {p3 : Int32} {p1 : Int32} {p2 : Int32} (hK : Ok K X RX6 cX6_cleared 8 (some .int) 5) {k : Int32 → Int32 → AH → Option (Int32 × AH)} (hk : ∀ (x5 : Int32) (x4 : Int32) (h : AH), J K X 8 (Zm K X) eI 195 [(5, .int x5), (4, .int x4), (3, .int p3), (0, .ref (X.1 + 278)), (1, .int p1), (2, .int p2)] [] h (k x5 x4 h)) : ∀ (n : Nat) (x5 : Int32) (x4 : Int32) (h : AH), J K X 8 (Zm K X) eI 44 [(5, .int x5), (4, .int x4), (3, .int p3), (0, .ref (X.1 + 278)), (1, .int p1), (2, .int p2)] [] h (fX6_cleared_L44 p3 p1 p2 n x5 x4 h k) := by
  intro n
  induction n with
  | zero => exact fun _ _ _ => J_none
  | succ n ih =>
    intro x5 x4 h
    rw [fX6_cleared_L44]
    refine J_iload hK dX6_cleared_44 0 rfl ?_
    refine J_iload_n hK dX6_cleared_46 2 rfl ?_
    refine J_icmp_gt (tgt := 195) hK dX6_cleared_47 (by decide) ?_ ?_
    · exact J_sub [0, 1, 2, 3, 4, 5] rfl (hk _ _ _)
    · refine J_iload hK dX6_cleared_50 1 rfl ?_
      refine J_ldc hK dX6_cleared_52 kK_X6_47 ?_
      refine J_icmp_eq (tgt := 70) hK dX6_cleared_54 (by decide) ?_ ?_
      · refine J_iconst hK dX6_cleared_70 ci_1 ?_
        refine J_goto (len := 0) (tgt := 75) hK dX6_cleared_71 (by decide) ?_
        refine J_istore (lw := [(5, .int x5), (4, .int x4), (3, .int p3), (0, .ref (X.1 + 278)), (1, .int p1), (2, .int p2)]) hK dX6_cleared_75 (by decide) rfl ?_
        refine J_iload hK dX6_cleared_77 1 rfl ?_
        refine J_iload_n hK dX6_cleared_79 3 rfl ?_
        refine J_iconst hK dX6_cleared_80 ci_m1 ?_
        refine J_ixor hK dX6_cleared_81 ?_
        refine J_iand hK dX6_cleared_82 ?_
        refine J_if_ne (tgt := 189) hK dX6_cleared_83 (by decide) ?_ ?_
        · refine J_iload hK dX6_cleared_86 0 rfl ?_
          refine J_if_eq (tgt := 189) hK dX6_cleared_88 (by decide) ?_ ?_
          · exact J_none
          · refine J_aload_n hK dX6_cleared_91 4 rfl ?_
            refine rF_X6_25 (q2 := 284) hK dX6_cleared_92 kd_278 rfl ?_
            refine J_iconst hK dX6_cleared_95 ci_0 ?_
            refine J_aload_n hK dX6_cleared_96 4 rfl ?_
            refine rF_X6_31 (q2 := 286) hK dX6_cleared_97 kd_278 rfl ?_
            refine J_iconst hK dX6_cleared_100 ci_0 ?_
            refine J_callSv (As := [.ref (X.1 + 284), .int (0 : Int32), .ref (X.1 + 286), .int (0 : Int32)]) (st := []) hK dX6_cleared_101 kB_X6_135 kS_X6_copies (by decide) rfl rfl (Nat.le_of_ble_eq_true rfl) (fun _ _ hf => uX6_copies kd_284 kd_286 hf) (fun _ h201 => ?_)
            refine J_iconst hK dX6_cleared_104 ci_0 ?_
            refine J_istore (lw := [(6, .int (1 : Int32)), (5, .int x5), (4, .int x4), (3, .int p3), (0, .ref (X.1 + 278)), (1, .int p1), (2, .int p2)]) hK dX6_cleared_105 (by decide) rfl ?_
            refine J_sub [0, 1, 2, 3, 4, 5, 6, 7] rfl (gX6_cleared_L107 hK  (fun z202 h203 => ?_) FU _ _)
            refine J_aload_n hK dX6_cleared_166 5 rfl ?_
            refine J_iload_n hK dX6_cleared_167 6 rfl ?_
            refine J_callVv (q := 278) (As := [.int p1]) (st := []) hK dX6_cleared_168 kB_X6_187 kV_X6_goesOn kd_278 (by decide) rfl rfl (by decide) rfl rfl (Nat.le_of_ble_eq_true rfl) (fun _ _ hf => uX6_goesOn  hf) (fun _ h204 => ?_)
            refine J_aload_n hK dX6_cleared_171 5 rfl ?_
            refine rF_X6_31 (q2 := 286) hK dX6_cleared_172 kd_278 rfl ?_
            refine J_iconst hK dX6_cleared_175 ci_1 ?_
            refine J_iald hK dX6_cleared_176 kd_286 (fun _ => ?_)
            refine J_if_ne (tgt := 185) hK dX6_cleared_177 (by decide) ?_ ?_
            · refine J_iload hK dX6_cleared_180 2 rfl ?_
              refine J_goto (len := 0) (tgt := 187) hK dX6_cleared_182 (by decide) ?_
              refine J_istore (lw := [(7, .int z202), (6, .int (1 : Int32)), (5, .int x5), (3, .int p3), (0, .ref (X.1 + 278)), (1, .int p1), (2, .int p2)]) hK dX6_cleared_187 (by decide) rfl ?_
              refine J_iinc (lw := [(4, .int x5), (7, .int z202), (6, .int (1 : Int32)), (3, .int p3), (0, .ref (X.1 + 278)), (1, .int p1), (2, .int p2)]) hK dX6_cleared_189 3 rfl (by decide) ci_1 rfl (fun z205 => ?_)
              refine J_goto (len := 0) (tgt := 44) hK dX6_cleared_192 (by decide) ?_
              exact J_sub [0, 1, 4, 5, 6, 7] rfl (ih _ _ _)
            · refine J_iload hK dX6_cleared_185 3 rfl ?_
              refine J_istore (lw := [(7, .int z202), (6, .int (1 : Int32)), (5, .int x5), (3, .int p3), (0, .ref (X.1 + 278)), (1, .int p1), (2, .int p2)]) hK dX6_cleared_187 (by decide) rfl ?_
              refine J_iinc (lw := [(4, .int x4), (7, .int z202), (6, .int (1 : Int32)), (3, .int p3), (0, .ref (X.1 + 278)), (1, .int p1), (2, .int p2)]) hK dX6_cleared_189 3 rfl (by decide) ci_1 rfl (fun z206 => ?_)
              refine J_goto (len := 0) (tgt := 44) hK dX6_cleared_192 (by decide) ?_
              exact J_sub [0, 1, 4, 5, 6, 7] rfl (ih _ _ _)
        · refine J_iinc (lw := [(6, .int (1 : Int32)), (4, .int x4), (3, .int p3), (0, .ref (X.1 + 278)), (1, .int p1), (2, .int p2)]) hK dX6_cleared_189 1 rfl (by decide) ci_1 rfl (fun z207 => ?_)
          refine J_goto (len := 0) (tgt := 44) hK dX6_cleared_192 (by decide) ?_
          exact J_sub [0, 2, 3, 4, 5, 6] rfl (ih _ _ _)
      · refine J_iload hK dX6_cleared_57 0 rfl ?_
        refine J_callSi (As := [.int x5]) (st := []) hK dX6_cleared_59 kB_X6_197 kS_X6_ones (by decide) rfl rfl (Nat.le_of_ble_eq_true rfl) (fun _ _ hf => uX6_ones  hf) (fun v209 h208 => ?_)
        refine J_iload hK dX6_cleared_62 1 rfl ?_
        refine J_callSi (As := [.int x4]) (st := [.int v209]) hK dX6_cleared_64 kB_X6_197 kS_X6_ones (by decide) rfl rfl (Nat.le_of_ble_eq_true rfl) (fun _ _ hf => uX6_ones  hf) (fun v211 h210 => ?_)
        refine J_icmp_ge (tgt := 74) hK dX6_cleared_67 (by decide) ?_ ?_
        · refine J_iconst hK dX6_cleared_70 ci_1 ?_
          refine J_goto (len := 0) (tgt := 75) hK dX6_cleared_71 (by decide) ?_
          refine J_istore (lw := [(5, .int x5), (4, .int x4), (3, .int p3), (0, .ref (X.1 + 278)), (1, .int p1), (2, .int p2)]) hK dX6_cleared_75 (by decide) rfl ?_
          refine J_iload hK dX6_cleared_77 1 rfl ?_
          refine J_iload_n hK dX6_cleared_79 3 rfl ?_
          refine J_iconst hK dX6_cleared_80 ci_m1 ?_
          refine J_ixor hK dX6_cleared_81 ?_
          refine J_iand hK dX6_cleared_82 ?_
          refine J_if_ne (tgt := 189) hK dX6_cleared_83 (by decide) ?_ ?_
          · refine J_iload hK dX6_cleared_86 0 rfl ?_
            refine J_if_eq (tgt := 189) hK dX6_cleared_88 (by decide) ?_ ?_
            · exact J_none
            · refine J_aload_n hK dX6_cleared_91 4 rfl ?_
              refine rF_X6_25 (q2 := 284) hK dX6_cleared_92 kd_278 rfl ?_
              refine J_iconst hK dX6_cleared_95 ci_0 ?_
              refine J_aload_n hK dX6_cleared_96 4 rfl ?_
              refine rF_X6_31 (q2 := 286) hK dX6_cleared_97 kd_278 rfl ?_
              refine J_iconst hK dX6_cleared_100 ci_0 ?_
              refine J_callSv (As := [.ref (X.1 + 284), .int (0 : Int32), .ref (X.1 + 286), .int (0 : Int32)]) (st := []) hK dX6_cleared_101 kB_X6_135 kS_X6_copies (by decide) rfl rfl (Nat.le_of_ble_eq_true rfl) (fun _ _ hf => uX6_copies kd_284 kd_286 hf) (fun _ h212 => ?_)
              refine J_iconst hK dX6_cleared_104 ci_0 ?_
              refine J_istore (lw := [(6, .int (1 : Int32)), (5, .int x5), (4, .int x4), (3, .int p3), (0, .ref (X.1 + 278)), (1, .int p1), (2, .int p2)]) hK dX6_cleared_105 (by decide) rfl ?_
              refine J_sub [0, 1, 2, 3, 4, 5, 6, 7] rfl (gX6_cleared_L107 hK  (fun z213 h214 => ?_) FU _ _)
              refine J_aload_n hK dX6_cleared_166 5 rfl ?_
              refine J_iload_n hK dX6_cleared_167 6 rfl ?_
              refine J_callVv (q := 278) (As := [.int p1]) (st := []) hK dX6_cleared_168 kB_X6_187 kV_X6_goesOn kd_278 (by decide) rfl rfl (by decide) rfl rfl (Nat.le_of_ble_eq_true rfl) (fun _ _ hf => uX6_goesOn  hf) (fun _ h215 => ?_)
              refine J_aload_n hK dX6_cleared_171 5 rfl ?_
              refine rF_X6_31 (q2 := 286) hK dX6_cleared_172 kd_278 rfl ?_
              refine J_iconst hK dX6_cleared_175 ci_1 ?_
              refine J_iald hK dX6_cleared_176 kd_286 (fun _ => ?_)
              refine J_if_ne (tgt := 185) hK dX6_cleared_177 (by decide) ?_ ?_
              · refine J_iload hK dX6_cleared_180 2 rfl ?_
                refine J_goto (len := 0) (tgt := 187) hK dX6_cleared_182 (by decide) ?_
                refine J_istore (lw := [(7, .int z213), (6, .int (1 : Int32)), (5, .int x5), (3, .int p3), (0, .ref (X.1 + 278)), (1, .int p1), (2, .int p2)]) hK dX6_cleared_187 (by decide) rfl ?_
                refine J_iinc (lw := [(4, .int x5), (7, .int z213), (6, .int (1 : Int32)), (3, .int p3), (0, .ref (X.1 + 278)), (1, .int p1), (2, .int p2)]) hK dX6_cleared_189 3 rfl (by decide) ci_1 rfl (fun z216 => ?_)
                refine J_goto (len := 0) (tgt := 44) hK dX6_cleared_192 (by decide) ?_
                exact J_sub [0, 1, 4, 5, 6, 7] rfl (ih _ _ _)
              · refine J_iload hK dX6_cleared_185 3 rfl ?_
                refine J_istore (lw := [(7, .int z213), (6, .int (1 : Int32)), (5, .int x5), (3, .int p3), (0, .ref (X.1 + 278)), (1, .int p1), (2, .int p2)]) hK dX6_cleared_187 (by decide) rfl ?_
                refine J_iinc (lw := [(4, .int x4), (7, .int z213), (6, .int (1 : Int32)), (3, .int p3), (0, .ref (X.1 + 278)), (1, .int p1), (2, .int p2)]) hK dX6_cleared_189 3 rfl (by decide) ci_1 rfl (fun z217 => ?_)
                refine J_goto (len := 0) (tgt := 44) hK dX6_cleared_192 (by decide) ?_
                exact J_sub [0, 1, 4, 5, 6, 7] rfl (ih _ _ _)
          · refine J_iinc (lw := [(6, .int (1 : Int32)), (4, .int x4), (3, .int p3), (0, .ref (X.1 + 278)), (1, .int p1), (2, .int p2)]) hK dX6_cleared_189 1 rfl (by decide) ci_1 rfl (fun z218 => ?_)
            refine J_goto (len := 0) (tgt := 44) hK dX6_cleared_192 (by decide) ?_
            exact J_sub [0, 2, 3, 4, 5, 6] rfl (ih _ _ _)
        · refine J_iconst hK dX6_cleared_74 ci_0 ?_
          refine J_istore (lw := [(5, .int x5), (4, .int x4), (3, .int p3), (0, .ref (X.1 + 278)), (1, .int p1), (2, .int p2)]) hK dX6_cleared_75 (by decide) rfl ?_
          refine J_iload hK dX6_cleared_77 1 rfl ?_
          refine J_iload_n hK dX6_cleared_79 3 rfl ?_
          refine J_iconst hK dX6_cleared_80 ci_m1 ?_
          refine J_ixor hK dX6_cleared_81 ?_
          refine J_iand hK dX6_cleared_82 ?_
          refine J_if_ne (tgt := 189) hK dX6_cleared_83 (by decide) ?_ ?_
          · refine J_iload hK dX6_cleared_86 0 rfl ?_
            refine J_if_eq (tgt := 189) hK dX6_cleared_88 (by decide) ?_ ?_
            · refine J_iinc (lw := [(6, .int (0 : Int32)), (4, .int x4), (3, .int p3), (0, .ref (X.1 + 278)), (1, .int p1), (2, .int p2)]) hK dX6_cleared_189 1 rfl (by decide) ci_1 rfl (fun z219 => ?_)
              refine J_goto (len := 0) (tgt := 44) hK dX6_cleared_192 (by decide) ?_
              exact J_sub [0, 2, 3, 4, 5, 6] rfl (ih _ _ _)
            · exact J_none
          · refine J_iinc (lw := [(6, .int (0 : Int32)), (4, .int x4), (3, .int p3), (0, .ref (X.1 + 278)), (1, .int p1), (2, .int p2)]) hK dX6_cleared_189 1 rfl (by decide) ci_1 rfl (fun z220 => ?_)
            refine J_goto (len := 0) (tgt := 44) hK dX6_cleared_192 (by decide) ?_
            exact J_sub [0, 2, 3, 4, 5, 6] rfl (ih _ _ _)
set_option maxHeartbeats 4000000 in
set_option maxRecDepth 4000 in
theorem uX6_cleared {l : Launch} {X : WX} {a1 : Int32} {a2 : Int32} {h h' : AH} {v : Int32} (hf : fX6_cleared a1 a2 h = some (v, h')) : Does l X 5 yX6_cleared cX6_cleared 8 (some .int) [.ref (X.1 + 278), .int a1, .int a2] h (eI v) h' := by
  refine Does.of (enc := eI) (o := fX6_cleared a1 a2 h) (lv := [(0, .ref (X.1 + 278)), (1, .int a1), (2, .int a2)]) (by decide) (Nat.le_of_ble_eq_true rfl) rfl hf (fun K hl hK => ?_)
  subst hl
  unfold fX6_cleared
  refine J_aload_n hK dX6_cleared_0 0 rfl ?_
  refine J_callVi (q := 278) (As := []) (st := []) hK dX6_cleared_1 kB_X6_167 kV_X6_isEstuary kd_278 (by decide) rfl rfl (by decide) rfl rfl (Nat.le_of_ble_eq_true rfl) (fun _ _ hf => uX6_isEstuary  hf) (fun v2 h1 => ?_)
  refine J_if_ne (tgt := 10) hK dX6_cleared_4 (by decide) ?_ ?_
  · refine J_ldc hK dX6_cleared_7 kK_X6_170 ?_
    exact J_iret hK dX6_cleared_9
  · refine J_iload_n hK dX6_cleared_10 1 rfl ?_
    refine J_callSi (As := [.int a1]) (st := []) hK dX6_cleared_11 kB_X6_194 kS_X6_isNear (by decide) rfl rfl (Nat.le_of_ble_eq_true rfl) (fun _ _ hf => uX6_isNear  hf) (fun v4 h3 => ?_)
    refine J_if_eq (tgt := 26) hK dX6_cleared_14 (by decide) ?_ ?_
    · refine J_ldc hK dX6_cleared_26 kK_X6_61 ?_
      exact J_iret hK dX6_cleared_28
    · refine J_iload_n hK dX6_cleared_17 2 rfl ?_
      refine J_iconst hK dX6_cleared_18 ci_0 ?_
      refine J_iconst hK dX6_cleared_19 ci_1 ?_
      refine J_callSi (As := [.int a2, .int (0 : Int32), .int (1 : Int32)]) (st := []) hK dX6_cleared_20 kB_X6_53 kS_X6_in (by decide) rfl rfl (Nat.le_of_ble_eq_true rfl) (fun _ _ hf => uX6_in  hf) (fun v6 h5 => ?_)
      refine J_if_ne (tgt := 29) hK dX6_cleared_23 (by decide) ?_ ?_
      · refine J_ldc hK dX6_cleared_26 kK_X6_61 ?_
        exact J_iret hK dX6_cleared_28
      · refine J_aload_n hK dX6_cleared_29 0 rfl ?_
        refine rF_X6_25 (q2 := 284) hK dX6_cleared_30 kd_278 rfl ?_
        refine J_callSi (As := [.ref (X.1 + 284)]) (st := []) hK dX6_cleared_33 kB_X6_191 kS_X6_standing (by decide) rfl rfl (Nat.le_of_ble_eq_true rfl) (fun _ _ hf => uX6_standing kd_284 hf) (fun v8 h7 => ?_)
        refine J_istore_n (n := 3) (lw := [(0, .ref (X.1 + 278)), (1, .int a1), (2, .int a2)]) hK dX6_cleared_36 rfl (by decide) rfl ?_
        refine J_ldc hK dX6_cleared_37 kK_X6_47 ?_
        refine J_istore (lw := [(3, .int v8), (0, .ref (X.1 + 278)), (1, .int a1), (2, .int a2)]) hK dX6_cleared_39 (by decide) rfl ?_
        refine J_iconst hK dX6_cleared_41 ci_0 ?_
        refine J_istore (lw := [(4, .int (-1000000 : Int32)), (3, .int v8), (0, .ref (X.1 + 278)), (1, .int a1), (2, .int a2)]) hK dX6_cleared_42 (by decide) rfl ?_
        refine J_sub [0, 1, 2, 3, 4, 5] rfl (gX6_cleared_L44 hK  (fun z9 z10 h11 => ?_) FU _ _ _)
        refine J_iload hK dX6_cleared_195 1 rfl ?_
        refine J_ldc hK dX6_cleared_197 kK_X6_47 ?_
        refine J_icmp_eq (tgt := 207) hK dX6_cleared_199 (by decide) ?_ ?_
        · refine J_iload hK dX6_cleared_207 1 rfl ?_
          refine J_goto (len := 0) (tgt := 217) hK dX6_cleared_209 (by decide) ?_
          exact J_iret hK dX6_cleared_217
        · refine J_iload_n hK dX6_cleared_202 5 rfl ?_
          refine J_iconst hK dX6_cleared_203 ci_1 ?_
          refine J_icmp_ne (tgt := 212) hK dX6_cleared_204 (by decide) ?_ ?_
          · refine J_iload hK dX6_cleared_207 1 rfl ?_
            refine J_goto (len := 0) (tgt := 217) hK dX6_cleared_209 (by decide) ?_
            exact J_iret hK dX6_cleared_217
          · refine J_iload hK dX6_cleared_212 1 rfl ?_
            refine J_callSi (As := [.int z10]) (st := []) hK dX6_cleared_214 kB_X6_197 kS_X6_ones (by decide) rfl rfl (Nat.le_of_ble_eq_true rfl) (fun _ _ hf => uX6_ones  hf) (fun v13 h12 => ?_)
            exact J_iret hK dX6_cleared_217
-- X6_crew
theorem dX6_crew_0 : DD cX6_crew 0 (.aload_n 0) 1 1 := by decide +kernel
theorem dX6_crew_1 : DD cX6_crew 1 (.invokevirtual 167) 3 4 := by decide +kernel
theorem dX6_crew_4 : DD cX6_crew 4 (.ifCond .ne 6) 3 7 := by decide +kernel
theorem dX6_crew_7 : DD cX6_crew 7 (.ldc 170) 2 9 := by decide +kernel
theorem dX6_crew_9 : DD cX6_crew 9 (.ireturn) 1 10 := by decide +kernel
theorem dX6_crew_10 : DD cX6_crew 10 (.iload_n 1) 1 11 := by decide +kernel
theorem dX6_crew_11 : DD cX6_crew 11 (.invokestatic 194) 3 14 := by decide +kernel
theorem dX6_crew_14 : DD cX6_crew 14 (.ifCond .eq 12) 3 17 := by decide +kernel
theorem dX6_crew_17 : DD cX6_crew 17 (.iload_n 2) 1 18 := by decide +kernel
theorem dX6_crew_18 : DD cX6_crew 18 (.iconst 0) 1 19 := by decide +kernel
theorem dX6_crew_19 : DD cX6_crew 19 (.iconst 1) 1 20 := by decide +kernel
theorem dX6_crew_20 : DD cX6_crew 20 (.invokestatic 53) 3 23 := by decide +kernel
theorem dX6_crew_23 : DD cX6_crew 23 (.ifCond .ne 6) 3 26 := by decide +kernel
theorem dX6_crew_26 : DD cX6_crew 26 (.ldc 61) 2 28 := by decide +kernel
theorem dX6_crew_28 : DD cX6_crew 28 (.ireturn) 1 29 := by decide +kernel
theorem dX6_crew_29 : DD cX6_crew 29 (.aload_n 0) 1 30 := by decide +kernel
theorem dX6_crew_30 : DD cX6_crew 30 (.getfield 25) 3 33 := by decide +kernel
theorem dX6_crew_33 : DD cX6_crew 33 (.invokestatic 181) 3 36 := by decide +kernel
theorem dX6_crew_36 : DD cX6_crew 36 (.istore_n 3) 1 37 := by decide +kernel
theorem dX6_crew_37 : DD cX6_crew 37 (.ldc 47) 2 39 := by decide +kernel
theorem dX6_crew_39 : DD cX6_crew 39 (.istore 4) 2 41 := by decide +kernel
theorem dX6_crew_41 : DD cX6_crew 41 (.iconst 0) 1 42 := by decide +kernel
theorem dX6_crew_42 : DD cX6_crew 42 (.istore 5) 2 44 := by decide +kernel
theorem dX6_crew_44 : DD cX6_crew 44 (.iload 5) 2 46 := by decide +kernel
theorem dX6_crew_46 : DD cX6_crew 46 (.iload_n 3) 1 47 := by decide +kernel
theorem dX6_crew_47 : DD cX6_crew 47 (.if_icmp .gt 134) 3 50 := by decide +kernel
theorem dX6_crew_50 : DD cX6_crew 50 (.iload 4) 2 52 := by decide +kernel
theorem dX6_crew_52 : DD cX6_crew 52 (.ldc 47) 2 54 := by decide +kernel
theorem dX6_crew_54 : DD cX6_crew 54 (.if_icmp .eq 16) 3 57 := by decide +kernel
theorem dX6_crew_57 : DD cX6_crew 57 (.iload 5) 2 59 := by decide +kernel
theorem dX6_crew_59 : DD cX6_crew 59 (.invokestatic 197) 3 62 := by decide +kernel
theorem dX6_crew_62 : DD cX6_crew 62 (.iload 4) 2 64 := by decide +kernel
theorem dX6_crew_64 : DD cX6_crew 64 (.invokestatic 197) 3 67 := by decide +kernel
theorem dX6_crew_67 : DD cX6_crew 67 (.if_icmp .ge 7) 3 70 := by decide +kernel
theorem dX6_crew_70 : DD cX6_crew 70 (.iconst 1) 1 71 := by decide +kernel
theorem dX6_crew_71 : DD cX6_crew 71 (.goto 4) 3 74 := by decide +kernel
theorem dX6_crew_74 : DD cX6_crew 74 (.iconst 0) 1 75 := by decide +kernel
theorem dX6_crew_75 : DD cX6_crew 75 (.istore 6) 2 77 := by decide +kernel
theorem dX6_crew_77 : DD cX6_crew 77 (.iload 5) 2 79 := by decide +kernel
theorem dX6_crew_79 : DD cX6_crew 79 (.iload_n 3) 1 80 := by decide +kernel
theorem dX6_crew_80 : DD cX6_crew 80 (.iconst (-1)) 1 81 := by decide +kernel
theorem dX6_crew_81 : DD cX6_crew 81 (.ixor) 1 82 := by decide +kernel
theorem dX6_crew_82 : DD cX6_crew 82 (.iand) 1 83 := by decide +kernel
theorem dX6_crew_83 : DD cX6_crew 83 (.ifCond .ne 92) 3 86 := by decide +kernel
theorem dX6_crew_86 : DD cX6_crew 86 (.iload 6) 2 88 := by decide +kernel
theorem dX6_crew_88 : DD cX6_crew 88 (.ifCond .eq 87) 3 91 := by decide +kernel
theorem dX6_crew_91 : DD cX6_crew 91 (.aload_n 0) 1 92 := by decide +kernel
theorem dX6_crew_92 : DD cX6_crew 92 (.getfield 25) 3 95 := by decide +kernel
theorem dX6_crew_95 : DD cX6_crew 95 (.iconst 0) 1 96 := by decide +kernel
theorem dX6_crew_96 : DD cX6_crew 96 (.aload_n 0) 1 97 := by decide +kernel
theorem dX6_crew_97 : DD cX6_crew 97 (.getfield 31) 3 100 := by decide +kernel
theorem dX6_crew_100 : DD cX6_crew 100 (.iconst 0) 1 101 := by decide +kernel
theorem dX6_crew_101 : DD cX6_crew 101 (.invokestatic 135) 3 104 := by decide +kernel
theorem dX6_crew_104 : DD cX6_crew 104 (.iconst 0) 1 105 := by decide +kernel
theorem dX6_crew_105 : DD cX6_crew 105 (.istore 7) 2 107 := by decide +kernel
theorem dX6_crew_107 : DD cX6_crew 107 (.iload 7) 2 109 := by decide +kernel
theorem dX6_crew_109 : DD cX6_crew 109 (.aload_n 0) 1 110 := by decide +kernel
theorem dX6_crew_110 : DD cX6_crew 110 (.getfield 25) 3 113 := by decide +kernel
theorem dX6_crew_113 : DD cX6_crew 113 (.iconst 2) 1 114 := by decide +kernel
theorem dX6_crew_114 : DD cX6_crew 114 (.iaload) 1 115 := by decide +kernel
theorem dX6_crew_115 : DD cX6_crew 115 (.if_icmp .ge 37) 3 118 := by decide +kernel
theorem dX6_crew_118 : DD cX6_crew 118 (.iload_n 3) 1 119 := by decide +kernel
theorem dX6_crew_119 : DD cX6_crew 119 (.iload 7) 2 121 := by decide +kernel
theorem dX6_crew_121 : DD cX6_crew 121 (.invokestatic 200) 3 124 := by decide +kernel
theorem dX6_crew_124 : DD cX6_crew 124 (.ifCond .eq 22) 3 127 := by decide +kernel
theorem dX6_crew_127 : DD cX6_crew 127 (.iload 5) 2 129 := by decide +kernel
theorem dX6_crew_129 : DD cX6_crew 129 (.iload 7) 2 131 := by decide +kernel
theorem dX6_crew_131 : DD cX6_crew 131 (.invokestatic 200) 3 134 := by decide +kernel
theorem dX6_crew_134 : DD cX6_crew 134 (.ifCond .ne 12) 3 137 := by decide +kernel
theorem dX6_crew_137 : DD cX6_crew 137 (.aload_n 0) 1 138 := by decide +kernel
theorem dX6_crew_138 : DD cX6_crew 138 (.getfield 31) 3 141 := by decide +kernel
theorem dX6_crew_141 : DD cX6_crew 141 (.iload 7) 2 143 := by decide +kernel
theorem dX6_crew_143 : DD cX6_crew 143 (.invokestatic 149) 3 146 := by decide +kernel
theorem dX6_crew_146 : DD cX6_crew 146 (.iinc 7 1) 3 149 := by decide +kernel
theorem dX6_crew_149 : DD cX6_crew 149 (.goto (-42)) 3 152 := by decide +kernel
theorem dX6_crew_152 : DD cX6_crew 152 (.aload_n 0) 1 153 := by decide +kernel
theorem dX6_crew_153 : DD cX6_crew 153 (.iload_n 1) 1 154 := by decide +kernel
theorem dX6_crew_154 : DD cX6_crew 154 (.invokevirtual 187) 3 157 := by decide +kernel
theorem dX6_crew_157 : DD cX6_crew 157 (.aload_n 0) 1 158 := by decide +kernel
theorem dX6_crew_158 : DD cX6_crew 158 (.getfield 31) 3 161 := by decide +kernel
theorem dX6_crew_161 : DD cX6_crew 161 (.iconst 1) 1 162 := by decide +kernel
theorem dX6_crew_162 : DD cX6_crew 162 (.iaload) 1 163 := by decide +kernel
theorem dX6_crew_163 : DD cX6_crew 163 (.ifCond .ne 8) 3 166 := by decide +kernel
theorem dX6_crew_166 : DD cX6_crew 166 (.iload 5) 2 168 := by decide +kernel
theorem dX6_crew_168 : DD cX6_crew 168 (.goto 5) 3 171 := by decide +kernel
theorem dX6_crew_171 : DD cX6_crew 171 (.iload 4) 2 173 := by decide +kernel
theorem dX6_crew_173 : DD cX6_crew 173 (.istore 4) 2 175 := by decide +kernel
theorem dX6_crew_175 : DD cX6_crew 175 (.iinc 5 1) 3 178 := by decide +kernel
theorem dX6_crew_178 : DD cX6_crew 178 (.goto (-134)) 3 181 := by decide +kernel
theorem dX6_crew_181 : DD cX6_crew 181 (.iload 4) 2 183 := by decide +kernel
theorem dX6_crew_183 : DD cX6_crew 183 (.ldc 47) 2 185 := by decide +kernel
theorem dX6_crew_185 : DD cX6_crew 185 (.if_icmp .eq 8) 3 188 := by decide +kernel
theorem dX6_crew_188 : DD cX6_crew 188 (.iload_n 2) 1 189 := by decide +kernel
theorem dX6_crew_189 : DD cX6_crew 189 (.iconst 1) 1 190 := by decide +kernel
theorem dX6_crew_190 : DD cX6_crew 190 (.if_icmp .ne 8) 3 193 := by decide +kernel
theorem dX6_crew_193 : DD cX6_crew 193 (.iload 4) 2 195 := by decide +kernel
theorem dX6_crew_195 : DD cX6_crew 195 (.goto 8) 3 198 := by decide +kernel
theorem dX6_crew_198 : DD cX6_crew 198 (.iload 4) 2 200 := by decide +kernel
theorem dX6_crew_200 : DD cX6_crew 200 (.invokestatic 197) 3 203 := by decide +kernel
theorem dX6_crew_203 : DD cX6_crew 203 (.ireturn) 1 204 := by decide +kernel
def fX6_crew_L107 (p6 : Int32) (p5 : Int32) (p4 : Int32) (p3 : Int32) (p1 : Int32) (p2 : Int32) : Nat → Int32 → AH → (Int32 → AH → Option (Int32 × AH)) → Option (Int32 × AH)
  | 0, _, _, _ => none
  | n + 1, x7, h, k => (chk (inb (2 : Int32) (ln 284)) (if x7 < (h 284 (Int32.toNatClampNeg (2 : Int32))) then (bnd (fX6_has p3 x7 h) fun v302 h301 => (if v302 = 0 then (vl (x7 + (1 : Int32)) fun z303 => fX6_crew_L107 p6 p5 p4 p3 p1 p2 n z303 h301 k) else (bnd (fX6_has p5 x7 h301) fun v305 h304 => (if v305 = 0 then (bnd (fX6_drops 286 x7 h304) fun _ h306 => (vl (x7 + (1 : Int32)) fun z307 => fX6_crew_L107 p6 p5 p4 p3 p1 p2 n z307 h306 k)) else (vl (x7 + (1 : Int32)) fun z308 => fX6_crew_L107 p6 p5 p4 p3 p1 p2 n z308 h304 k))))) else k x7 h))
def fX6_crew_L44 (p3 : Int32) (p1 : Int32) (p2 : Int32) : Nat → Int32 → Int32 → AH → (Int32 → Int32 → AH → Option (Int32 × AH)) → Option (Int32 × AH)
  | 0, _, _, _, _ => none
  | n + 1, x5, x4, h, k => (if p3 < x5 then k x5 x4 h else (if x4 = (-1000000 : Int32) then (if (x5 &&& (p3 ^^^ (-1 : Int32))) = 0 then (if (1 : Int32) = 0 then none else (bnd (fX6_copies 284 (0 : Int32) 286 (0 : Int32) h) fun _ h201 => (fX6_crew_L107 (1 : Int32) x5 x4 p3 p1 p2 FU (0 : Int32) h201 fun z202 h203 => (bnd (fX6_goesOn p1 h203) fun _ h204 => (chk (inb (1 : Int32) (ln 286)) (if (h204 286 (Int32.toNatClampNeg (1 : Int32))) = 0 then (vl (x5 + (1 : Int32)) fun z205 => fX6_crew_L44 p3 p1 p2 n z205 x5 h204 k) else (vl (x5 + (1 : Int32)) fun z206 => fX6_crew_L44 p3 p1 p2 n z206 x4 h204 k))))))) else (vl (x5 + (1 : Int32)) fun z207 => fX6_crew_L44 p3 p1 p2 n z207 x4 h k)) else (bnd (fX6_ones x5 h) fun v209 h208 => (bnd (fX6_ones x4 h208) fun v211 h210 => (if v209 < v211 then (if (x5 &&& (p3 ^^^ (-1 : Int32))) = 0 then (if (1 : Int32) = 0 then none else (bnd (fX6_copies 284 (0 : Int32) 286 (0 : Int32) h210) fun _ h212 => (fX6_crew_L107 (1 : Int32) x5 x4 p3 p1 p2 FU (0 : Int32) h212 fun z213 h214 => (bnd (fX6_goesOn p1 h214) fun _ h215 => (chk (inb (1 : Int32) (ln 286)) (if (h215 286 (Int32.toNatClampNeg (1 : Int32))) = 0 then (vl (x5 + (1 : Int32)) fun z216 => fX6_crew_L44 p3 p1 p2 n z216 x5 h215 k) else (vl (x5 + (1 : Int32)) fun z217 => fX6_crew_L44 p3 p1 p2 n z217 x4 h215 k))))))) else (vl (x5 + (1 : Int32)) fun z218 => fX6_crew_L44 p3 p1 p2 n z218 x4 h210 k)) else (if (x5 &&& (p3 ^^^ (-1 : Int32))) = 0 then (if (0 : Int32) = 0 then (vl (x5 + (1 : Int32)) fun z219 => fX6_crew_L44 p3 p1 p2 n z219 x4 h210 k) else none) else (vl (x5 + (1 : Int32)) fun z220 => fX6_crew_L44 p3 p1 p2 n z220 x4 h210 k)))))))
def fX6_crew (a1 : Int32) (a2 : Int32) (h : AH) : Option (Int32 × AH) := (bnd (fX6_isEstuary  h) fun v2 h1 => (if v2 = 0 then (some ((-1000002 : Int32), h1)) else (bnd (fX6_isNear a1 h1) fun v4 h3 => (if v4 = 0 then (some ((-1000001 : Int32), h3)) else (bnd (fX6_in a2 (0 : Int32) (1 : Int32) h3) fun v6 h5 => (if v6 = 0 then (some ((-1000001 : Int32), h5)) else (bnd (fX6_holding 284 h5) fun v8 h7 => (fX6_crew_L44 v8 a1 a2 FU (0 : Int32) (-1000000 : Int32) h7 fun z9 z10 h11 => (if z10 = (-1000000 : Int32) then (some (z10, h11)) else (if a2 = (1 : Int32) then (some (z10, h11)) else (bnd (fX6_ones z10 h11) fun v13 h12 => (some (v13, h12)))))))))))))
set_option maxHeartbeats 4000000 in
theorem gX6_crew_L107 {K : MC} {X : WX} {p6 : Int32} {p5 : Int32} {p4 : Int32} {p3 : Int32} {p1 : Int32} {p2 : Int32} (hK : Ok K X RX6 cX6_crew 8 (some .int) 5) {k : Int32 → AH → Option (Int32 × AH)} (hk : ∀ (x7 : Int32) (h : AH), J K X 8 (Zm K X) eI 152 [(7, .int x7), (6, .int p6), (5, .int p5), (4, .int p4), (3, .int p3), (0, .ref (X.1 + 278)), (1, .int p1), (2, .int p2)] [] h (k x7 h)) : ∀ (n : Nat) (x7 : Int32) (h : AH), J K X 8 (Zm K X) eI 107 [(7, .int x7), (6, .int p6), (5, .int p5), (4, .int p4), (3, .int p3), (0, .ref (X.1 + 278)), (1, .int p1), (2, .int p2)] [] h (fX6_crew_L107 p6 p5 p4 p3 p1 p2 n x7 h k) := by
  intro n
  induction n with
  | zero => exact fun _ _ => J_none
  | succ n ih =>
    intro x7 h
    rw [fX6_crew_L107]
    refine J_iload hK dX6_crew_107 0 rfl ?_
    refine J_aload_n hK dX6_crew_109 5 rfl ?_
    refine rF_X6_25 (q2 := 284) hK dX6_crew_110 kd_278 rfl ?_
    refine J_iconst hK dX6_crew_113 ci_2 ?_
    refine J_iald hK dX6_crew_114 kd_284 (fun _ => ?_)
    refine J_icmp_ge (tgt := 152) hK dX6_crew_115 (by decide) ?_ ?_
    · refine J_iload_n hK dX6_crew_118 4 rfl ?_
      refine J_iload hK dX6_crew_119 0 rfl ?_
      refine J_callSi (As := [.int p3, .int x7]) (st := []) hK dX6_crew_121 kB_X6_200 kS_X6_has (by decide) rfl rfl (Nat.le_of_ble_eq_true rfl) (fun _ _ hf => uX6_has  hf) (fun v302 h301 => ?_)
      refine J_if_eq (tgt := 146) hK dX6_crew_124 (by decide) ?_ ?_
      · refine J_iinc (lw := [(6, .int p6), (5, .int p5), (4, .int p4), (3, .int p3), (0, .ref (X.1 + 278)), (1, .int p1), (2, .int p2)]) hK dX6_crew_146 0 rfl (by decide) ci_1 rfl (fun z303 => ?_)
        refine J_goto (len := 0) (tgt := 107) hK dX6_crew_149 (by decide) ?_
        exact J_sub [0, 1, 2, 3, 4, 5, 6, 7] rfl (ih _ _)
      · refine J_iload hK dX6_crew_127 2 rfl ?_
        refine J_iload hK dX6_crew_129 0 rfl ?_
        refine J_callSi (As := [.int p5, .int x7]) (st := []) hK dX6_crew_131 kB_X6_200 kS_X6_has (by decide) rfl rfl (Nat.le_of_ble_eq_true rfl) (fun _ _ hf => uX6_has  hf) (fun v305 h304 => ?_)
        refine J_if_ne (tgt := 146) hK dX6_crew_134 (by decide) ?_ ?_
        · refine J_aload_n hK dX6_crew_137 5 rfl ?_
          refine rF_X6_31 (q2 := 286) hK dX6_crew_138 kd_278 rfl ?_
          refine J_iload hK dX6_crew_141 0 rfl ?_
          refine J_callSv (As := [.ref (X.1 + 286), .int x7]) (st := []) hK dX6_crew_143 kB_X6_149 kS_X6_drops (by decide) rfl rfl (Nat.le_of_ble_eq_true rfl) (fun _ _ hf => uX6_drops kd_286 hf) (fun _ h306 => ?_)
          refine J_iinc (lw := [(6, .int p6), (5, .int p5), (4, .int p4), (3, .int p3), (0, .ref (X.1 + 278)), (1, .int p1), (2, .int p2)]) hK dX6_crew_146 0 rfl (by decide) ci_1 rfl (fun z307 => ?_)
          refine J_goto (len := 0) (tgt := 107) hK dX6_crew_149 (by decide) ?_
          exact J_sub [0, 1, 2, 3, 4, 5, 6, 7] rfl (ih _ _)
        · refine J_iinc (lw := [(6, .int p6), (5, .int p5), (4, .int p4), (3, .int p3), (0, .ref (X.1 + 278)), (1, .int p1), (2, .int p2)]) hK dX6_crew_146 0 rfl (by decide) ci_1 rfl (fun z308 => ?_)
          refine J_goto (len := 0) (tgt := 107) hK dX6_crew_149 (by decide) ?_
          exact J_sub [0, 1, 2, 3, 4, 5, 6, 7] rfl (ih _ _)
    · exact J_sub [0, 1, 2, 3, 4, 5, 6, 7] rfl (hk _ _)
set_option maxHeartbeats 4000000 in
theorem gX6_crew_L44 {K : MC} {X : WX} {p3 : Int32} {p1 : Int32} {p2 : Int32} (hK : Ok K X RX6 cX6_crew 8 (some .int) 5) {k : Int32 → Int32 → AH → Option (Int32 × AH)} (hk : ∀ (x5 : Int32) (x4 : Int32) (h : AH), J K X 8 (Zm K X) eI 181 [(5, .int x5), (4, .int x4), (3, .int p3), (0, .ref (X.1 + 278)), (1, .int p1), (2, .int p2)] [] h (k x5 x4 h)) : ∀ (n : Nat) (x5 : Int32) (x4 : Int32) (h : AH), J K X 8 (Zm K X) eI 44 [(5, .int x5), (4, .int x4), (3, .int p3), (0, .ref (X.1 + 278)), (1, .int p1), (2, .int p2)] [] h (fX6_crew_L44 p3 p1 p2 n x5 x4 h k) := by
  intro n
  induction n with
  | zero => exact fun _ _ _ => J_none
  | succ n ih =>
    intro x5 x4 h
    rw [fX6_crew_L44]
    refine J_iload hK dX6_crew_44 0 rfl ?_
    refine J_iload_n hK dX6_crew_46 2 rfl ?_
    refine J_icmp_gt (tgt := 181) hK dX6_crew_47 (by decide) ?_ ?_
    · exact J_sub [0, 1, 2, 3, 4, 5] rfl (hk _ _ _)
    · refine J_iload hK dX6_crew_50 1 rfl ?_
      refine J_ldc hK dX6_crew_52 kK_X6_47 ?_
      refine J_icmp_eq (tgt := 70) hK dX6_crew_54 (by decide) ?_ ?_
      · refine J_iconst hK dX6_crew_70 ci_1 ?_
        refine J_goto (len := 0) (tgt := 75) hK dX6_crew_71 (by decide) ?_
        refine J_istore (lw := [(5, .int x5), (4, .int x4), (3, .int p3), (0, .ref (X.1 + 278)), (1, .int p1), (2, .int p2)]) hK dX6_crew_75 (by decide) rfl ?_
        refine J_iload hK dX6_crew_77 1 rfl ?_
        refine J_iload_n hK dX6_crew_79 3 rfl ?_
        refine J_iconst hK dX6_crew_80 ci_m1 ?_
        refine J_ixor hK dX6_crew_81 ?_
        refine J_iand hK dX6_crew_82 ?_
        refine J_if_ne (tgt := 175) hK dX6_crew_83 (by decide) ?_ ?_
        · refine J_iload hK dX6_crew_86 0 rfl ?_
          refine J_if_eq (tgt := 175) hK dX6_crew_88 (by decide) ?_ ?_
          · exact J_none
          · refine J_aload_n hK dX6_crew_91 4 rfl ?_
            refine rF_X6_25 (q2 := 284) hK dX6_crew_92 kd_278 rfl ?_
            refine J_iconst hK dX6_crew_95 ci_0 ?_
            refine J_aload_n hK dX6_crew_96 4 rfl ?_
            refine rF_X6_31 (q2 := 286) hK dX6_crew_97 kd_278 rfl ?_
            refine J_iconst hK dX6_crew_100 ci_0 ?_
            refine J_callSv (As := [.ref (X.1 + 284), .int (0 : Int32), .ref (X.1 + 286), .int (0 : Int32)]) (st := []) hK dX6_crew_101 kB_X6_135 kS_X6_copies (by decide) rfl rfl (Nat.le_of_ble_eq_true rfl) (fun _ _ hf => uX6_copies kd_284 kd_286 hf) (fun _ h201 => ?_)
            refine J_iconst hK dX6_crew_104 ci_0 ?_
            refine J_istore (lw := [(6, .int (1 : Int32)), (5, .int x5), (4, .int x4), (3, .int p3), (0, .ref (X.1 + 278)), (1, .int p1), (2, .int p2)]) hK dX6_crew_105 (by decide) rfl ?_
            refine J_sub [0, 1, 2, 3, 4, 5, 6, 7] rfl (gX6_crew_L107 hK  (fun z202 h203 => ?_) FU _ _)
            refine J_aload_n hK dX6_crew_152 5 rfl ?_
            refine J_iload_n hK dX6_crew_153 6 rfl ?_
            refine J_callVv (q := 278) (As := [.int p1]) (st := []) hK dX6_crew_154 kB_X6_187 kV_X6_goesOn kd_278 (by decide) rfl rfl (by decide) rfl rfl (Nat.le_of_ble_eq_true rfl) (fun _ _ hf => uX6_goesOn  hf) (fun _ h204 => ?_)
            refine J_aload_n hK dX6_crew_157 5 rfl ?_
            refine rF_X6_31 (q2 := 286) hK dX6_crew_158 kd_278 rfl ?_
            refine J_iconst hK dX6_crew_161 ci_1 ?_
            refine J_iald hK dX6_crew_162 kd_286 (fun _ => ?_)
            refine J_if_ne (tgt := 171) hK dX6_crew_163 (by decide) ?_ ?_
            · refine J_iload hK dX6_crew_166 2 rfl ?_
              refine J_goto (len := 0) (tgt := 173) hK dX6_crew_168 (by decide) ?_
              refine J_istore (lw := [(7, .int z202), (6, .int (1 : Int32)), (5, .int x5), (3, .int p3), (0, .ref (X.1 + 278)), (1, .int p1), (2, .int p2)]) hK dX6_crew_173 (by decide) rfl ?_
              refine J_iinc (lw := [(4, .int x5), (7, .int z202), (6, .int (1 : Int32)), (3, .int p3), (0, .ref (X.1 + 278)), (1, .int p1), (2, .int p2)]) hK dX6_crew_175 3 rfl (by decide) ci_1 rfl (fun z205 => ?_)
              refine J_goto (len := 0) (tgt := 44) hK dX6_crew_178 (by decide) ?_
              exact J_sub [0, 1, 4, 5, 6, 7] rfl (ih _ _ _)
            · refine J_iload hK dX6_crew_171 3 rfl ?_
              refine J_istore (lw := [(7, .int z202), (6, .int (1 : Int32)), (5, .int x5), (3, .int p3), (0, .ref (X.1 + 278)), (1, .int p1), (2, .int p2)]) hK dX6_crew_173 (by decide) rfl ?_
              refine J_iinc (lw := [(4, .int x4), (7, .int z202), (6, .int (1 : Int32)), (3, .int p3), (0, .ref (X.1 + 278)), (1, .int p1), (2, .int p2)]) hK dX6_crew_175 3 rfl (by decide) ci_1 rfl (fun z206 => ?_)
              refine J_goto (len := 0) (tgt := 44) hK dX6_crew_178 (by decide) ?_
              exact J_sub [0, 1, 4, 5, 6, 7] rfl (ih _ _ _)
        · refine J_iinc (lw := [(6, .int (1 : Int32)), (4, .int x4), (3, .int p3), (0, .ref (X.1 + 278)), (1, .int p1), (2, .int p2)]) hK dX6_crew_175 1 rfl (by decide) ci_1 rfl (fun z207 => ?_)
          refine J_goto (len := 0) (tgt := 44) hK dX6_crew_178 (by decide) ?_
          exact J_sub [0, 2, 3, 4, 5, 6] rfl (ih _ _ _)
      · refine J_iload hK dX6_crew_57 0 rfl ?_
        refine J_callSi (As := [.int x5]) (st := []) hK dX6_crew_59 kB_X6_197 kS_X6_ones (by decide) rfl rfl (Nat.le_of_ble_eq_true rfl) (fun _ _ hf => uX6_ones  hf) (fun v209 h208 => ?_)
        refine J_iload hK dX6_crew_62 1 rfl ?_
        refine J_callSi (As := [.int x4]) (st := [.int v209]) hK dX6_crew_64 kB_X6_197 kS_X6_ones (by decide) rfl rfl (Nat.le_of_ble_eq_true rfl) (fun _ _ hf => uX6_ones  hf) (fun v211 h210 => ?_)
        refine J_icmp_ge (tgt := 74) hK dX6_crew_67 (by decide) ?_ ?_
        · refine J_iconst hK dX6_crew_70 ci_1 ?_
          refine J_goto (len := 0) (tgt := 75) hK dX6_crew_71 (by decide) ?_
          refine J_istore (lw := [(5, .int x5), (4, .int x4), (3, .int p3), (0, .ref (X.1 + 278)), (1, .int p1), (2, .int p2)]) hK dX6_crew_75 (by decide) rfl ?_
          refine J_iload hK dX6_crew_77 1 rfl ?_
          refine J_iload_n hK dX6_crew_79 3 rfl ?_
          refine J_iconst hK dX6_crew_80 ci_m1 ?_
          refine J_ixor hK dX6_crew_81 ?_
          refine J_iand hK dX6_crew_82 ?_
          refine J_if_ne (tgt := 175) hK dX6_crew_83 (by decide) ?_ ?_
          · refine J_iload hK dX6_crew_86 0 rfl ?_
            refine J_if_eq (tgt := 175) hK dX6_crew_88 (by decide) ?_ ?_
            · exact J_none
            · refine J_aload_n hK dX6_crew_91 4 rfl ?_
              refine rF_X6_25 (q2 := 284) hK dX6_crew_92 kd_278 rfl ?_
              refine J_iconst hK dX6_crew_95 ci_0 ?_
              refine J_aload_n hK dX6_crew_96 4 rfl ?_
              refine rF_X6_31 (q2 := 286) hK dX6_crew_97 kd_278 rfl ?_
              refine J_iconst hK dX6_crew_100 ci_0 ?_
              refine J_callSv (As := [.ref (X.1 + 284), .int (0 : Int32), .ref (X.1 + 286), .int (0 : Int32)]) (st := []) hK dX6_crew_101 kB_X6_135 kS_X6_copies (by decide) rfl rfl (Nat.le_of_ble_eq_true rfl) (fun _ _ hf => uX6_copies kd_284 kd_286 hf) (fun _ h212 => ?_)
              refine J_iconst hK dX6_crew_104 ci_0 ?_
              refine J_istore (lw := [(6, .int (1 : Int32)), (5, .int x5), (4, .int x4), (3, .int p3), (0, .ref (X.1 + 278)), (1, .int p1), (2, .int p2)]) hK dX6_crew_105 (by decide) rfl ?_
              refine J_sub [0, 1, 2, 3, 4, 5, 6, 7] rfl (gX6_crew_L107 hK  (fun z213 h214 => ?_) FU _ _)
              refine J_aload_n hK dX6_crew_152 5 rfl ?_
              refine J_iload_n hK dX6_crew_153 6 rfl ?_
              refine J_callVv (q := 278) (As := [.int p1]) (st := []) hK dX6_crew_154 kB_X6_187 kV_X6_goesOn kd_278 (by decide) rfl rfl (by decide) rfl rfl (Nat.le_of_ble_eq_true rfl) (fun _ _ hf => uX6_goesOn  hf) (fun _ h215 => ?_)
              refine J_aload_n hK dX6_crew_157 5 rfl ?_
              refine rF_X6_31 (q2 := 286) hK dX6_crew_158 kd_278 rfl ?_
              refine J_iconst hK dX6_crew_161 ci_1 ?_
              refine J_iald hK dX6_crew_162 kd_286 (fun _ => ?_)
              refine J_if_ne (tgt := 171) hK dX6_crew_163 (by decide) ?_ ?_
              · refine J_iload hK dX6_crew_166 2 rfl ?_
                refine J_goto (len := 0) (tgt := 173) hK dX6_crew_168 (by decide) ?_
                refine J_istore (lw := [(7, .int z213), (6, .int (1 : Int32)), (5, .int x5), (3, .int p3), (0, .ref (X.1 + 278)), (1, .int p1), (2, .int p2)]) hK dX6_crew_173 (by decide) rfl ?_
                refine J_iinc (lw := [(4, .int x5), (7, .int z213), (6, .int (1 : Int32)), (3, .int p3), (0, .ref (X.1 + 278)), (1, .int p1), (2, .int p2)]) hK dX6_crew_175 3 rfl (by decide) ci_1 rfl (fun z216 => ?_)
                refine J_goto (len := 0) (tgt := 44) hK dX6_crew_178 (by decide) ?_
                exact J_sub [0, 1, 4, 5, 6, 7] rfl (ih _ _ _)
              · refine J_iload hK dX6_crew_171 3 rfl ?_
                refine J_istore (lw := [(7, .int z213), (6, .int (1 : Int32)), (5, .int x5), (3, .int p3), (0, .ref (X.1 + 278)), (1, .int p1), (2, .int p2)]) hK dX6_crew_173 (by decide) rfl ?_
                refine J_iinc (lw := [(4, .int x4), (7, .int z213), (6, .int (1 : Int32)), (3, .int p3), (0, .ref (X.1 + 278)), (1, .int p1), (2, .int p2)]) hK dX6_crew_175 3 rfl (by decide) ci_1 rfl (fun z217 => ?_)
                refine J_goto (len := 0) (tgt := 44) hK dX6_crew_178 (by decide) ?_
                exact J_sub [0, 1, 4, 5, 6, 7] rfl (ih _ _ _)
          · refine J_iinc (lw := [(6, .int (1 : Int32)), (4, .int x4), (3, .int p3), (0, .ref (X.1 + 278)), (1, .int p1), (2, .int p2)]) hK dX6_crew_175 1 rfl (by decide) ci_1 rfl (fun z218 => ?_)
            refine J_goto (len := 0) (tgt := 44) hK dX6_crew_178 (by decide) ?_
            exact J_sub [0, 2, 3, 4, 5, 6] rfl (ih _ _ _)
        · refine J_iconst hK dX6_crew_74 ci_0 ?_
          refine J_istore (lw := [(5, .int x5), (4, .int x4), (3, .int p3), (0, .ref (X.1 + 278)), (1, .int p1), (2, .int p2)]) hK dX6_crew_75 (by decide) rfl ?_
          refine J_iload hK dX6_crew_77 1 rfl ?_
          refine J_iload_n hK dX6_crew_79 3 rfl ?_
          refine J_iconst hK dX6_crew_80 ci_m1 ?_
          refine J_ixor hK dX6_crew_81 ?_
          refine J_iand hK dX6_crew_82 ?_
          refine J_if_ne (tgt := 175) hK dX6_crew_83 (by decide) ?_ ?_
          · refine J_iload hK dX6_crew_86 0 rfl ?_
            refine J_if_eq (tgt := 175) hK dX6_crew_88 (by decide) ?_ ?_
            · refine J_iinc (lw := [(6, .int (0 : Int32)), (4, .int x4), (3, .int p3), (0, .ref (X.1 + 278)), (1, .int p1), (2, .int p2)]) hK dX6_crew_175 1 rfl (by decide) ci_1 rfl (fun z219 => ?_)
              refine J_goto (len := 0) (tgt := 44) hK dX6_crew_178 (by decide) ?_
              exact J_sub [0, 2, 3, 4, 5, 6] rfl (ih _ _ _)
            · exact J_none
          · refine J_iinc (lw := [(6, .int (0 : Int32)), (4, .int x4), (3, .int p3), (0, .ref (X.1 + 278)), (1, .int p1), (2, .int p2)]) hK dX6_crew_175 1 rfl (by decide) ci_1 rfl (fun z220 => ?_)
            refine J_goto (len := 0) (tgt := 44) hK dX6_crew_178 (by decide) ?_
            exact J_sub [0, 2, 3, 4, 5, 6] rfl (ih _ _ _)
set_option maxHeartbeats 4000000 in
set_option maxRecDepth 4000 in
theorem uX6_crew {l : Launch} {X : WX} {a1 : Int32} {a2 : Int32} {h h' : AH} {v : Int32} (hf : fX6_crew a1 a2 h = some (v, h')) : Does l X 5 yX6_crew cX6_crew 8 (some .int) [.ref (X.1 + 278), .int a1, .int a2] h (eI v) h' := by
  refine Does.of (enc := eI) (o := fX6_crew a1 a2 h) (lv := [(0, .ref (X.1 + 278)), (1, .int a1), (2, .int a2)]) (by decide) (Nat.le_of_ble_eq_true rfl) rfl hf (fun K hl hK => ?_)
  subst hl
  unfold fX6_crew
  refine J_aload_n hK dX6_crew_0 0 rfl ?_
  refine J_callVi (q := 278) (As := []) (st := []) hK dX6_crew_1 kB_X6_167 kV_X6_isEstuary kd_278 (by decide) rfl rfl (by decide) rfl rfl (Nat.le_of_ble_eq_true rfl) (fun _ _ hf => uX6_isEstuary  hf) (fun v2 h1 => ?_)
  refine J_if_ne (tgt := 10) hK dX6_crew_4 (by decide) ?_ ?_
  · refine J_ldc hK dX6_crew_7 kK_X6_170 ?_
    exact J_iret hK dX6_crew_9
  · refine J_iload_n hK dX6_crew_10 1 rfl ?_
    refine J_callSi (As := [.int a1]) (st := []) hK dX6_crew_11 kB_X6_194 kS_X6_isNear (by decide) rfl rfl (Nat.le_of_ble_eq_true rfl) (fun _ _ hf => uX6_isNear  hf) (fun v4 h3 => ?_)
    refine J_if_eq (tgt := 26) hK dX6_crew_14 (by decide) ?_ ?_
    · refine J_ldc hK dX6_crew_26 kK_X6_61 ?_
      exact J_iret hK dX6_crew_28
    · refine J_iload_n hK dX6_crew_17 2 rfl ?_
      refine J_iconst hK dX6_crew_18 ci_0 ?_
      refine J_iconst hK dX6_crew_19 ci_1 ?_
      refine J_callSi (As := [.int a2, .int (0 : Int32), .int (1 : Int32)]) (st := []) hK dX6_crew_20 kB_X6_53 kS_X6_in (by decide) rfl rfl (Nat.le_of_ble_eq_true rfl) (fun _ _ hf => uX6_in  hf) (fun v6 h5 => ?_)
      refine J_if_ne (tgt := 29) hK dX6_crew_23 (by decide) ?_ ?_
      · refine J_ldc hK dX6_crew_26 kK_X6_61 ?_
        exact J_iret hK dX6_crew_28
      · refine J_aload_n hK dX6_crew_29 0 rfl ?_
        refine rF_X6_25 (q2 := 284) hK dX6_crew_30 kd_278 rfl ?_
        refine J_callSi (As := [.ref (X.1 + 284)]) (st := []) hK dX6_crew_33 kB_X6_181 kS_X6_holding (by decide) rfl rfl (Nat.le_of_ble_eq_true rfl) (fun _ _ hf => uX6_holding kd_284 hf) (fun v8 h7 => ?_)
        refine J_istore_n (n := 3) (lw := [(0, .ref (X.1 + 278)), (1, .int a1), (2, .int a2)]) hK dX6_crew_36 rfl (by decide) rfl ?_
        refine J_ldc hK dX6_crew_37 kK_X6_47 ?_
        refine J_istore (lw := [(3, .int v8), (0, .ref (X.1 + 278)), (1, .int a1), (2, .int a2)]) hK dX6_crew_39 (by decide) rfl ?_
        refine J_iconst hK dX6_crew_41 ci_0 ?_
        refine J_istore (lw := [(4, .int (-1000000 : Int32)), (3, .int v8), (0, .ref (X.1 + 278)), (1, .int a1), (2, .int a2)]) hK dX6_crew_42 (by decide) rfl ?_
        refine J_sub [0, 1, 2, 3, 4, 5] rfl (gX6_crew_L44 hK  (fun z9 z10 h11 => ?_) FU _ _ _)
        refine J_iload hK dX6_crew_181 1 rfl ?_
        refine J_ldc hK dX6_crew_183 kK_X6_47 ?_
        refine J_icmp_eq (tgt := 193) hK dX6_crew_185 (by decide) ?_ ?_
        · refine J_iload hK dX6_crew_193 1 rfl ?_
          refine J_goto (len := 0) (tgt := 203) hK dX6_crew_195 (by decide) ?_
          exact J_iret hK dX6_crew_203
        · refine J_iload_n hK dX6_crew_188 5 rfl ?_
          refine J_iconst hK dX6_crew_189 ci_1 ?_
          refine J_icmp_ne (tgt := 198) hK dX6_crew_190 (by decide) ?_ ?_
          · refine J_iload hK dX6_crew_193 1 rfl ?_
            refine J_goto (len := 0) (tgt := 203) hK dX6_crew_195 (by decide) ?_
            exact J_iret hK dX6_crew_203
          · refine J_iload hK dX6_crew_198 1 rfl ?_
            refine J_callSi (As := [.int z10]) (st := []) hK dX6_crew_200 kB_X6_197 kS_X6_ones (by decide) rfl rfl (Nat.le_of_ble_eq_true rfl) (fun _ _ hf => uX6_ones  hf) (fun v13 h12 => ?_)
            exact J_iret hK dX6_crew_203
-- X6_fits
theorem dX6_fits_0 : DD cX6_fits 0 (.aload_n 0) 1 1 := by decide +kernel
theorem dX6_fits_1 : DD cX6_fits 1 (.iload_n 1) 1 2 := by decide +kernel
theorem dX6_fits_2 : DD cX6_fits 2 (.invokevirtual 178) 3 5 := by decide +kernel
theorem dX6_fits_5 : DD cX6_fits 5 (.ifCond .eq 31) 3 8 := by decide +kernel
theorem dX6_fits_8 : DD cX6_fits 8 (.iload_n 2) 1 9 := by decide +kernel
theorem dX6_fits_9 : DD cX6_fits 9 (.invokestatic 57) 3 12 := by decide +kernel
theorem dX6_fits_12 : DD cX6_fits 12 (.ifCond .eq 24) 3 15 := by decide +kernel
theorem dX6_fits_15 : DD cX6_fits 15 (.iload 4) 2 17 := by decide +kernel
theorem dX6_fits_17 : DD cX6_fits 17 (.iconst 1) 1 18 := by decide +kernel
theorem dX6_fits_18 : DD cX6_fits 18 (.bipush 12) 2 20 := by decide +kernel
theorem dX6_fits_20 : DD cX6_fits 20 (.invokestatic 53) 3 23 := by decide +kernel
theorem dX6_fits_23 : DD cX6_fits 23 (.ifCond .eq 13) 3 26 := by decide +kernel
theorem dX6_fits_26 : DD cX6_fits 26 (.iload 5) 2 28 := by decide +kernel
theorem dX6_fits_28 : DD cX6_fits 28 (.iconst 0) 1 29 := by decide +kernel
theorem dX6_fits_29 : DD cX6_fits 29 (.iconst 4) 1 30 := by decide +kernel
theorem dX6_fits_30 : DD cX6_fits 30 (.invokestatic 53) 3 33 := by decide +kernel
theorem dX6_fits_33 : DD cX6_fits 33 (.ifCond .ne 6) 3 36 := by decide +kernel
theorem dX6_fits_36 : DD cX6_fits 36 (.ldc 61) 2 38 := by decide +kernel
theorem dX6_fits_38 : DD cX6_fits 38 (.ireturn) 1 39 := by decide +kernel
theorem dX6_fits_39 : DD cX6_fits 39 (.aload_n 0) 1 40 := by decide +kernel
theorem dX6_fits_40 : DD cX6_fits 40 (.iload_n 2) 1 41 := by decide +kernel
theorem dX6_fits_41 : DD cX6_fits 41 (.invokevirtual 69) 3 44 := by decide +kernel
theorem dX6_fits_44 : DD cX6_fits 44 (.ifCond .eq 9) 3 47 := by decide +kernel
theorem dX6_fits_47 : DD cX6_fits 47 (.aload_n 0) 1 48 := by decide +kernel
theorem dX6_fits_48 : DD cX6_fits 48 (.iconst 1) 1 49 := by decide +kernel
theorem dX6_fits_49 : DD cX6_fits 49 (.invokevirtual 62) 3 52 := by decide +kernel
theorem dX6_fits_52 : DD cX6_fits 52 (.ireturn) 1 53 := by decide +kernel
theorem dX6_fits_53 : DD cX6_fits 53 (.aload_n 0) 1 54 := by decide +kernel
theorem dX6_fits_54 : DD cX6_fits 54 (.iload_n 2) 1 55 := by decide +kernel
theorem dX6_fits_55 : DD cX6_fits 55 (.iload_n 3) 1 56 := by decide +kernel
theorem dX6_fits_56 : DD cX6_fits 56 (.iload 4) 2 58 := by decide +kernel
theorem dX6_fits_58 : DD cX6_fits 58 (.invokevirtual 76) 3 61 := by decide +kernel
theorem dX6_fits_61 : DD cX6_fits 61 (.ifCond .ne 9) 3 64 := by decide +kernel
theorem dX6_fits_64 : DD cX6_fits 64 (.aload_n 0) 1 65 := by decide +kernel
theorem dX6_fits_65 : DD cX6_fits 65 (.iconst 2) 1 66 := by decide +kernel
theorem dX6_fits_66 : DD cX6_fits 66 (.invokevirtual 62) 3 69 := by decide +kernel
theorem dX6_fits_69 : DD cX6_fits 69 (.ireturn) 1 70 := by decide +kernel
theorem dX6_fits_70 : DD cX6_fits 70 (.iload 5) 2 72 := by decide +kernel
theorem dX6_fits_72 : DD cX6_fits 72 (.iconst 2) 1 73 := by decide +kernel
theorem dX6_fits_73 : DD cX6_fits 73 (.if_icmp .le 7) 3 76 := by decide +kernel
theorem dX6_fits_76 : DD cX6_fits 76 (.iconst 0) 1 77 := by decide +kernel
theorem dX6_fits_77 : DD cX6_fits 77 (.goto 11) 3 80 := by decide +kernel
theorem dX6_fits_80 : DD cX6_fits 80 (.iconst 5) 1 81 := by decide +kernel
theorem dX6_fits_81 : DD cX6_fits 81 (.iconst 5) 1 82 := by decide +kernel
theorem dX6_fits_82 : DD cX6_fits 82 (.iload_n 1) 1 83 := by decide +kernel
theorem dX6_fits_83 : DD cX6_fits 83 (.imul) 1 84 := by decide +kernel
theorem dX6_fits_84 : DD cX6_fits 84 (.iadd) 1 85 := by decide +kernel
theorem dX6_fits_85 : DD cX6_fits 85 (.iload 5) 2 87 := by decide +kernel
theorem dX6_fits_87 : DD cX6_fits 87 (.iadd) 1 88 := by decide +kernel
theorem dX6_fits_88 : DD cX6_fits 88 (.istore 6) 2 90 := by decide +kernel
theorem dX6_fits_90 : DD cX6_fits 90 (.iload 5) 2 92 := by decide +kernel
theorem dX6_fits_92 : DD cX6_fits 92 (.ifCond .ne 7) 3 95 := by decide +kernel
theorem dX6_fits_95 : DD cX6_fits 95 (.iconst 5) 1 96 := by decide +kernel
theorem dX6_fits_96 : DD cX6_fits 96 (.goto 16) 3 99 := by decide +kernel
theorem dX6_fits_99 : DD cX6_fits 99 (.iload 5) 2 101 := by decide +kernel
theorem dX6_fits_101 : DD cX6_fits 101 (.iconst 3) 1 102 := by decide +kernel
theorem dX6_fits_102 : DD cX6_fits 102 (.if_icmp .ge 8) 3 105 := by decide +kernel
theorem dX6_fits_105 : DD cX6_fits 105 (.bipush 20) 2 107 := by decide +kernel
theorem dX6_fits_107 : DD cX6_fits 107 (.goto 5) 3 110 := by decide +kernel
theorem dX6_fits_110 : DD cX6_fits 110 (.bipush 60) 2 112 := by decide +kernel
theorem dX6_fits_112 : DD cX6_fits 112 (.istore 7) 2 114 := by decide +kernel
theorem dX6_fits_114 : DD cX6_fits 114 (.iconst 0) 1 115 := by decide +kernel
theorem dX6_fits_115 : DD cX6_fits 115 (.istore 8) 2 117 := by decide +kernel
theorem dX6_fits_117 : DD cX6_fits 117 (.iconst 0) 1 118 := by decide +kernel
theorem dX6_fits_118 : DD cX6_fits 118 (.istore 9) 2 120 := by decide +kernel
theorem dX6_fits_120 : DD cX6_fits 120 (.ldc 47) 2 122 := by decide +kernel
theorem dX6_fits_122 : DD cX6_fits 122 (.istore 10) 2 124 := by decide +kernel
theorem dX6_fits_124 : DD cX6_fits 124 (.iload 7) 2 126 := by decide +kernel
theorem dX6_fits_126 : DD cX6_fits 126 (.istore 11) 2 128 := by decide +kernel
theorem dX6_fits_128 : DD cX6_fits 128 (.iload 11) 2 130 := by decide +kernel
theorem dX6_fits_130 : DD cX6_fits 130 (.ifCond .le 54) 3 133 := by decide +kernel
theorem dX6_fits_133 : DD cX6_fits 133 (.aload_n 0) 1 134 := by decide +kernel
theorem dX6_fits_134 : DD cX6_fits 134 (.bipush 40) 2 136 := by decide +kernel
theorem dX6_fits_136 : DD cX6_fits 136 (.iload_n 2) 1 137 := by decide +kernel
theorem dX6_fits_137 : DD cX6_fits 137 (.imul) 1 138 := by decide +kernel
theorem dX6_fits_138 : DD cX6_fits 138 (.iload_n 3) 1 139 := by decide +kernel
theorem dX6_fits_139 : DD cX6_fits 139 (.iadd) 1 140 := by decide +kernel
theorem dX6_fits_140 : DD cX6_fits 140 (.iload 4) 2 142 := by decide +kernel
theorem dX6_fits_142 : DD cX6_fits 142 (.iload 6) 2 144 := by decide +kernel
theorem dX6_fits_144 : DD cX6_fits 144 (.iload 11) 2 146 := by decide +kernel
theorem dX6_fits_146 : DD cX6_fits 146 (.invokevirtual 204) 3 149 := by decide +kernel
theorem dX6_fits_149 : DD cX6_fits 149 (.ifCond .eq 29) 3 152 := by decide +kernel
theorem dX6_fits_152 : DD cX6_fits 152 (.iload 8) 2 154 := by decide +kernel
theorem dX6_fits_154 : DD cX6_fits 154 (.iload 5) 2 156 := by decide +kernel
theorem dX6_fits_156 : DD cX6_fits 156 (.iconst 3) 1 157 := by decide +kernel
theorem dX6_fits_157 : DD cX6_fits 157 (.if_icmp .ge 10) 3 160 := by decide +kernel
theorem dX6_fits_160 : DD cX6_fits 160 (.iconst 1) 1 161 := by decide +kernel
theorem dX6_fits_161 : DD cX6_fits 161 (.iload 11) 2 163 := by decide +kernel
theorem dX6_fits_163 : DD cX6_fits 163 (.ishl) 1 164 := by decide +kernel
theorem dX6_fits_164 : DD cX6_fits 164 (.goto 4) 3 167 := by decide +kernel
theorem dX6_fits_167 : DD cX6_fits 167 (.iconst 0) 1 168 := by decide +kernel
theorem dX6_fits_168 : DD cX6_fits 168 (.ior) 1 169 := by decide +kernel
theorem dX6_fits_169 : DD cX6_fits 169 (.istore 8) 2 171 := by decide +kernel
theorem dX6_fits_171 : DD cX6_fits 171 (.iinc 9 1) 3 174 := by decide +kernel
theorem dX6_fits_174 : DD cX6_fits 174 (.iload 11) 2 176 := by decide +kernel
theorem dX6_fits_176 : DD cX6_fits 176 (.istore 10) 2 178 := by decide +kernel
theorem dX6_fits_178 : DD cX6_fits 178 (.iinc 11 (-1)) 3 181 := by decide +kernel
theorem dX6_fits_181 : DD cX6_fits 181 (.goto (-53)) 3 184 := by decide +kernel
theorem dX6_fits_184 : DD cX6_fits 184 (.aload_n 0) 1 185 := by decide +kernel
theorem dX6_fits_185 : DD cX6_fits 185 (.iload 5) 2 187 := by decide +kernel
theorem dX6_fits_187 : DD cX6_fits 187 (.iconst 3) 1 188 := by decide +kernel
theorem dX6_fits_188 : DD cX6_fits 188 (.if_icmp .ne 8) 3 191 := by decide +kernel
theorem dX6_fits_191 : DD cX6_fits 191 (.iload 9) 2 193 := by decide +kernel
theorem dX6_fits_193 : DD cX6_fits 193 (.goto 16) 3 196 := by decide +kernel
theorem dX6_fits_196 : DD cX6_fits 196 (.iload 5) 2 198 := by decide +kernel
theorem dX6_fits_198 : DD cX6_fits 198 (.iconst 4) 1 199 := by decide +kernel
theorem dX6_fits_199 : DD cX6_fits 199 (.if_icmp .ne 8) 3 202 := by decide +kernel
theorem dX6_fits_202 : DD cX6_fits 202 (.iload 10) 2 204 := by decide +kernel
theorem dX6_fits_204 : DD cX6_fits 204 (.goto 5) 3 207 := by decide +kernel
theorem dX6_fits_207 : DD cX6_fits 207 (.iload 8) 2 209 := by decide +kernel
theorem dX6_fits_209 : DD cX6_fits 209 (.invokevirtual 66) 3 212 := by decide +kernel
theorem dX6_fits_212 : DD cX6_fits 212 (.ireturn) 1 213 := by decide +kernel
def fX6_fits_L128 (p7 : Int32) (p6 : Int32) (p1 : Int32) (p2 : Int32) (p3 : Int32) (p4 : Int32) (p5 : Int32) : Nat → Int32 → Int32 → Int32 → Int32 → AH → (Int32 → Int32 → Int32 → Int32 → AH → Option (Int32 × AH)) → Option (Int32 × AH)
  | 0, _, _, _, _, _, _ => none
  | n + 1, x11, x10, x9, x8, h, k => (if 0 < x11 then (bnd (fX6_isSeen (((40 : Int32) * p2) + p3) p4 p6 x11 h) fun v202 h201 => (if v202 = 0 then (vl (x11 + (-1 : Int32)) fun z203 => fX6_fits_L128 p7 p6 p1 p2 p3 p4 p5 n z203 x10 x9 x8 h201 k) else (if p5 < (3 : Int32) then (vl (x8 ||| ((1 : Int32) <<< (x11 &&& 31))) fun z204 => (vl (x9 + (1 : Int32)) fun z205 => (vl (x11 + (-1 : Int32)) fun z206 => fX6_fits_L128 p7 p6 p1 p2 p3 p4 p5 n z206 x11 z205 z204 h201 k))) else (vl (x8 ||| (0 : Int32)) fun z207 => (vl (x9 + (1 : Int32)) fun z208 => (vl (x11 + (-1 : Int32)) fun z209 => fX6_fits_L128 p7 p6 p1 p2 p3 p4 p5 n z209 x11 z208 z207 h201 k)))))) else k x11 x10 x9 x8 h)
def fX6_fits (a1 : Int32) (a2 : Int32) (a3 : Int32) (a4 : Int32) (a5 : Int32) (h : AH) : Option (Int32 × AH) := (bnd (fX6_isTug a1 h) fun v2 h1 => (if v2 = 0 then (some ((-1000001 : Int32), h1)) else (bnd (fX6_isRow a2 h1) fun v4 h3 => (if v4 = 0 then (some ((-1000001 : Int32), h3)) else (bnd (fX6_in a4 (1 : Int32) (12 : Int32) h3) fun v6 h5 => (if v6 = 0 then (some ((-1000001 : Int32), h5)) else (bnd (fX6_in a5 (0 : Int32) (4 : Int32) h5) fun v8 h7 => (if v8 = 0 then (some ((-1000001 : Int32), h7)) else (bnd (fX6_isMissing a2 h7) fun v10 h9 => (if v10 = 0 then (bnd (fX6_isPart a2 a3 a4 h9) fun v12 h11 => (if v12 = 0 then (bnd (fX6_found (2 : Int32) h11) fun v14 h13 => (some (v14, h13))) else (if (2 : Int32) < a5 then (if a5 = 0 then (fX6_fits_L128 (5 : Int32) (0 : Int32) a1 a2 a3 a4 a5 FU (5 : Int32) (-1000000 : Int32) (0 : Int32) (0 : Int32) h11 fun z15 z16 z17 z18 h19 => (if a5 = (3 : Int32) then (bnd (fX6_well z17 h19) fun v21 h20 => (some (v21, h20))) else (if a5 = (4 : Int32) then (bnd (fX6_well z16 h19) fun v23 h22 => (some (v23, h22))) else (bnd (fX6_well z18 h19) fun v25 h24 => (some (v25, h24)))))) else (if a5 < (3 : Int32) then (fX6_fits_L128 (20 : Int32) (0 : Int32) a1 a2 a3 a4 a5 FU (20 : Int32) (-1000000 : Int32) (0 : Int32) (0 : Int32) h11 fun z26 z27 z28 z29 h30 => (if a5 = (3 : Int32) then (bnd (fX6_well z28 h30) fun v32 h31 => (some (v32, h31))) else (if a5 = (4 : Int32) then (bnd (fX6_well z27 h30) fun v34 h33 => (some (v34, h33))) else (bnd (fX6_well z29 h30) fun v36 h35 => (some (v36, h35)))))) else (fX6_fits_L128 (60 : Int32) (0 : Int32) a1 a2 a3 a4 a5 FU (60 : Int32) (-1000000 : Int32) (0 : Int32) (0 : Int32) h11 fun z37 z38 z39 z40 h41 => (if a5 = (3 : Int32) then (bnd (fX6_well z39 h41) fun v43 h42 => (some (v43, h42))) else (if a5 = (4 : Int32) then (bnd (fX6_well z38 h41) fun v45 h44 => (some (v45, h44))) else (bnd (fX6_well z40 h41) fun v47 h46 => (some (v47, h46)))))))) else (vl (((5 : Int32) + ((5 : Int32) * a1)) + a5) fun z48 => (if a5 = 0 then (fX6_fits_L128 (5 : Int32) z48 a1 a2 a3 a4 a5 FU (5 : Int32) (-1000000 : Int32) (0 : Int32) (0 : Int32) h11 fun z49 z50 z51 z52 h53 => (if a5 = (3 : Int32) then (bnd (fX6_well z51 h53) fun v55 h54 => (some (v55, h54))) else (if a5 = (4 : Int32) then (bnd (fX6_well z50 h53) fun v57 h56 => (some (v57, h56))) else (bnd (fX6_well z52 h53) fun v59 h58 => (some (v59, h58)))))) else (if a5 < (3 : Int32) then (fX6_fits_L128 (20 : Int32) z48 a1 a2 a3 a4 a5 FU (20 : Int32) (-1000000 : Int32) (0 : Int32) (0 : Int32) h11 fun z60 z61 z62 z63 h64 => (if a5 = (3 : Int32) then (bnd (fX6_well z62 h64) fun v66 h65 => (some (v66, h65))) else (if a5 = (4 : Int32) then (bnd (fX6_well z61 h64) fun v68 h67 => (some (v68, h67))) else (bnd (fX6_well z63 h64) fun v70 h69 => (some (v70, h69)))))) else (fX6_fits_L128 (60 : Int32) z48 a1 a2 a3 a4 a5 FU (60 : Int32) (-1000000 : Int32) (0 : Int32) (0 : Int32) h11 fun z71 z72 z73 z74 h75 => (if a5 = (3 : Int32) then (bnd (fX6_well z73 h75) fun v77 h76 => (some (v77, h76))) else (if a5 = (4 : Int32) then (bnd (fX6_well z72 h75) fun v79 h78 => (some (v79, h78))) else (bnd (fX6_well z74 h75) fun v81 h80 => (some (v81, h80)))))))))))) else (bnd (fX6_found (1 : Int32) h9) fun v83 h82 => (some (v83, h82)))))))))))))
set_option maxHeartbeats 4000000 in
theorem gX6_fits_L128 {K : MC} {X : WX} {p7 : Int32} {p6 : Int32} {p1 : Int32} {p2 : Int32} {p3 : Int32} {p4 : Int32} {p5 : Int32} (hK : Ok K X RX6 cX6_fits 12 (some .int) 5) {k : Int32 → Int32 → Int32 → Int32 → AH → Option (Int32 × AH)} (hk : ∀ (x11 : Int32) (x10 : Int32) (x9 : Int32) (x8 : Int32) (h : AH), J K X 12 (Zm K X) eI 184 [(11, .int x11), (10, .int x10), (9, .int x9), (8, .int x8), (7, .int p7), (6, .int p6), (0, .ref (X.1 + 278)), (1, .int p1), (2, .int p2), (3, .int p3), (4, .int p4), (5, .int p5)] [] h (k x11 x10 x9 x8 h)) : ∀ (n : Nat) (x11 : Int32) (x10 : Int32) (x9 : Int32) (x8 : Int32) (h : AH), J K X 12 (Zm K X) eI 128 [(11, .int x11), (10, .int x10), (9, .int x9), (8, .int x8), (7, .int p7), (6, .int p6), (0, .ref (X.1 + 278)), (1, .int p1), (2, .int p2), (3, .int p3), (4, .int p4), (5, .int p5)] [] h (fX6_fits_L128 p7 p6 p1 p2 p3 p4 p5 n x11 x10 x9 x8 h k) := by
  intro n
  induction n with
  | zero => exact fun _ _ _ _ _ => J_none
  | succ n ih =>
    intro x11 x10 x9 x8 h
    rw [fX6_fits_L128]
    refine J_iload hK dX6_fits_128 0 rfl ?_
    refine J_if_le (tgt := 184) hK dX6_fits_130 (by decide) ?_ ?_
    · refine J_aload_n hK dX6_fits_133 6 rfl ?_
      refine J_bipush hK dX6_fits_134 cb_40 ?_
      refine J_iload_n hK dX6_fits_136 8 rfl ?_
      refine J_imul hK dX6_fits_137 ?_
      refine J_iload_n hK dX6_fits_138 9 rfl ?_
      refine J_iadd hK dX6_fits_139 ?_
      refine J_iload hK dX6_fits_140 10 rfl ?_
      refine J_iload hK dX6_fits_142 5 rfl ?_
      refine J_iload hK dX6_fits_144 0 rfl ?_
      refine J_callVi (q := 278) (As := [.int (((40 : Int32) * p2) + p3), .int p4, .int p6, .int x11]) (st := []) hK dX6_fits_146 kB_X6_204 kV_X6_isSeen kd_278 (by decide) rfl rfl (by decide) rfl rfl (Nat.le_of_ble_eq_true rfl) (fun _ _ hf => uX6_isSeen  hf) (fun v202 h201 => ?_)
      refine J_if_eq (tgt := 178) hK dX6_fits_149 (by decide) ?_ ?_
      · refine J_iinc (lw := [(10, .int x10), (9, .int x9), (8, .int x8), (7, .int p7), (6, .int p6), (0, .ref (X.1 + 278)), (1, .int p1), (2, .int p2), (3, .int p3), (4, .int p4), (5, .int p5)]) hK dX6_fits_178 0 rfl (by decide) ci_m1 rfl (fun z203 => ?_)
        refine J_goto (len := 0) (tgt := 128) hK dX6_fits_181 (by decide) ?_
        exact J_sub [0, 1, 2, 3, 4, 5, 6, 7, 8, 9, 10, 11] rfl (ih _ _ _ _ _)
      · refine J_iload hK dX6_fits_152 3 rfl ?_
        refine J_iload hK dX6_fits_154 11 rfl ?_
        refine J_iconst hK dX6_fits_156 ci_3 ?_
        refine J_icmp_ge (tgt := 167) hK dX6_fits_157 (by decide) ?_ ?_
        · refine J_iconst hK dX6_fits_160 ci_1 ?_
          refine J_iload hK dX6_fits_161 0 rfl ?_
          refine J_ishl hK dX6_fits_163 ?_
          refine J_goto (len := 0) (tgt := 168) hK dX6_fits_164 (by decide) ?_
          refine J_ior hK dX6_fits_168 ?_
          refine J_istoreV (lw := [(11, .int x11), (10, .int x10), (9, .int x9), (7, .int p7), (6, .int p6), (0, .ref (X.1 + 278)), (1, .int p1), (2, .int p2), (3, .int p3), (4, .int p4), (5, .int p5)]) hK dX6_fits_169 (by decide) rfl (fun z204 => ?_)
          refine J_iinc (lw := [(8, .int z204), (11, .int x11), (10, .int x10), (7, .int p7), (6, .int p6), (0, .ref (X.1 + 278)), (1, .int p1), (2, .int p2), (3, .int p3), (4, .int p4), (5, .int p5)]) hK dX6_fits_171 3 rfl (by decide) ci_1 rfl (fun z205 => ?_)
          refine J_iload hK dX6_fits_174 2 rfl ?_
          refine J_istore (lw := [(9, .int z205), (8, .int z204), (11, .int x11), (7, .int p7), (6, .int p6), (0, .ref (X.1 + 278)), (1, .int p1), (2, .int p2), (3, .int p3), (4, .int p4), (5, .int p5)]) hK dX6_fits_176 (by decide) rfl ?_
          refine J_iinc (lw := [(10, .int x11), (9, .int z205), (8, .int z204), (7, .int p7), (6, .int p6), (0, .ref (X.1 + 278)), (1, .int p1), (2, .int p2), (3, .int p3), (4, .int p4), (5, .int p5)]) hK dX6_fits_178 3 rfl (by decide) ci_m1 rfl (fun z206 => ?_)
          refine J_goto (len := 0) (tgt := 128) hK dX6_fits_181 (by decide) ?_
          exact J_sub [0, 1, 2, 3, 4, 5, 6, 7, 8, 9, 10, 11] rfl (ih _ _ _ _ _)
        · refine J_iconst hK dX6_fits_167 ci_0 ?_
          refine J_ior hK dX6_fits_168 ?_
          refine J_istoreV (lw := [(11, .int x11), (10, .int x10), (9, .int x9), (7, .int p7), (6, .int p6), (0, .ref (X.1 + 278)), (1, .int p1), (2, .int p2), (3, .int p3), (4, .int p4), (5, .int p5)]) hK dX6_fits_169 (by decide) rfl (fun z207 => ?_)
          refine J_iinc (lw := [(8, .int z207), (11, .int x11), (10, .int x10), (7, .int p7), (6, .int p6), (0, .ref (X.1 + 278)), (1, .int p1), (2, .int p2), (3, .int p3), (4, .int p4), (5, .int p5)]) hK dX6_fits_171 3 rfl (by decide) ci_1 rfl (fun z208 => ?_)
          refine J_iload hK dX6_fits_174 2 rfl ?_
          refine J_istore (lw := [(9, .int z208), (8, .int z207), (11, .int x11), (7, .int p7), (6, .int p6), (0, .ref (X.1 + 278)), (1, .int p1), (2, .int p2), (3, .int p3), (4, .int p4), (5, .int p5)]) hK dX6_fits_176 (by decide) rfl ?_
          refine J_iinc (lw := [(10, .int x11), (9, .int z208), (8, .int z207), (7, .int p7), (6, .int p6), (0, .ref (X.1 + 278)), (1, .int p1), (2, .int p2), (3, .int p3), (4, .int p4), (5, .int p5)]) hK dX6_fits_178 3 rfl (by decide) ci_m1 rfl (fun z209 => ?_)
          refine J_goto (len := 0) (tgt := 128) hK dX6_fits_181 (by decide) ?_
          exact J_sub [0, 1, 2, 3, 4, 5, 6, 7, 8, 9, 10, 11] rfl (ih _ _ _ _ _)
    · exact J_sub [0, 1, 2, 3, 4, 5, 6, 7, 8, 9, 10, 11] rfl (hk _ _ _ _ _)
set_option maxHeartbeats 4000000 in
set_option maxRecDepth 4000 in
theorem uX6_fits {l : Launch} {X : WX} {a1 : Int32} {a2 : Int32} {a3 : Int32} {a4 : Int32} {a5 : Int32} {h h' : AH} {v : Int32} (hf : fX6_fits a1 a2 a3 a4 a5 h = some (v, h')) : Does l X 5 yX6_fits cX6_fits 12 (some .int) [.ref (X.1 + 278), .int a1, .int a2, .int a3, .int a4, .int a5] h (eI v) h' := by
  refine Does.of (enc := eI) (o := fX6_fits a1 a2 a3 a4 a5 h) (lv := [(0, .ref (X.1 + 278)), (1, .int a1), (2, .int a2), (3, .int a3), (4, .int a4), (5, .int a5)]) (by decide) (Nat.le_of_ble_eq_true rfl) rfl hf (fun K hl hK => ?_)
  subst hl
  unfold fX6_fits
  refine J_aload_n hK dX6_fits_0 0 rfl ?_
  refine J_iload_n hK dX6_fits_1 1 rfl ?_
  refine J_callVi (q := 278) (As := [.int a1]) (st := []) hK dX6_fits_2 kB_X6_178 kV_X6_isTug kd_278 (by decide) rfl rfl (by decide) rfl rfl (Nat.le_of_ble_eq_true rfl) (fun _ _ hf => uX6_isTug  hf) (fun v2 h1 => ?_)
  refine J_if_eq (tgt := 36) hK dX6_fits_5 (by decide) ?_ ?_
  · refine J_ldc hK dX6_fits_36 kK_X6_61 ?_
    exact J_iret hK dX6_fits_38
  · refine J_iload_n hK dX6_fits_8 2 rfl ?_
    refine J_callSi (As := [.int a2]) (st := []) hK dX6_fits_9 kB_X6_57 kS_X6_isRow (by decide) rfl rfl (Nat.le_of_ble_eq_true rfl) (fun _ _ hf => uX6_isRow  hf) (fun v4 h3 => ?_)
    refine J_if_eq (tgt := 36) hK dX6_fits_12 (by decide) ?_ ?_
    · refine J_ldc hK dX6_fits_36 kK_X6_61 ?_
      exact J_iret hK dX6_fits_38
    · refine J_iload hK dX6_fits_15 4 rfl ?_
      refine J_iconst hK dX6_fits_17 ci_1 ?_
      refine J_bipush hK dX6_fits_18 cb_12 ?_
      refine J_callSi (As := [.int a4, .int (1 : Int32), .int (12 : Int32)]) (st := []) hK dX6_fits_20 kB_X6_53 kS_X6_in (by decide) rfl rfl (Nat.le_of_ble_eq_true rfl) (fun _ _ hf => uX6_in  hf) (fun v6 h5 => ?_)
      refine J_if_eq (tgt := 36) hK dX6_fits_23 (by decide) ?_ ?_
      · refine J_ldc hK dX6_fits_36 kK_X6_61 ?_
        exact J_iret hK dX6_fits_38
      · refine J_iload hK dX6_fits_26 5 rfl ?_
        refine J_iconst hK dX6_fits_28 ci_0 ?_
        refine J_iconst hK dX6_fits_29 ci_4 ?_
        refine J_callSi (As := [.int a5, .int (0 : Int32), .int (4 : Int32)]) (st := []) hK dX6_fits_30 kB_X6_53 kS_X6_in (by decide) rfl rfl (Nat.le_of_ble_eq_true rfl) (fun _ _ hf => uX6_in  hf) (fun v8 h7 => ?_)
        refine J_if_ne (tgt := 39) hK dX6_fits_33 (by decide) ?_ ?_
        · refine J_ldc hK dX6_fits_36 kK_X6_61 ?_
          exact J_iret hK dX6_fits_38
        · refine J_aload_n hK dX6_fits_39 0 rfl ?_
          refine J_iload_n hK dX6_fits_40 2 rfl ?_
          refine J_callVi (q := 278) (As := [.int a2]) (st := []) hK dX6_fits_41 kB_X6_69 kV_X6_isMissing kd_278 (by decide) rfl rfl (by decide) rfl rfl (Nat.le_of_ble_eq_true rfl) (fun _ _ hf => uX6_isMissing  hf) (fun v10 h9 => ?_)
          refine J_if_eq (tgt := 53) hK dX6_fits_44 (by decide) ?_ ?_
          · refine J_aload_n hK dX6_fits_53 0 rfl ?_
            refine J_iload_n hK dX6_fits_54 2 rfl ?_
            refine J_iload_n hK dX6_fits_55 3 rfl ?_
            refine J_iload hK dX6_fits_56 4 rfl ?_
            refine J_callVi (q := 278) (As := [.int a2, .int a3, .int a4]) (st := []) hK dX6_fits_58 kB_X6_76 kV_X6_isPart kd_278 (by decide) rfl rfl (by decide) rfl rfl (Nat.le_of_ble_eq_true rfl) (fun _ _ hf => uX6_isPart  hf) (fun v12 h11 => ?_)
            refine J_if_ne (tgt := 70) hK dX6_fits_61 (by decide) ?_ ?_
            · refine J_aload_n hK dX6_fits_64 0 rfl ?_
              refine J_iconst hK dX6_fits_65 ci_2 ?_
              refine J_callVi (q := 278) (As := [.int (2 : Int32)]) (st := []) hK dX6_fits_66 kB_X6_62 kV_X6_found kd_278 (by decide) rfl rfl (by decide) rfl rfl (Nat.le_of_ble_eq_true rfl) (fun _ _ hf => uX6_found  hf) (fun v14 h13 => ?_)
              exact J_iret hK dX6_fits_69
            · refine J_iload hK dX6_fits_70 5 rfl ?_
              refine J_iconst hK dX6_fits_72 ci_2 ?_
              refine J_icmp_le (tgt := 80) hK dX6_fits_73 (by decide) ?_ ?_
              · refine J_iconst hK dX6_fits_76 ci_0 ?_
                refine J_goto (len := 0) (tgt := 88) hK dX6_fits_77 (by decide) ?_
                refine J_istore (lw := [(0, .ref (X.1 + 278)), (1, .int a1), (2, .int a2), (3, .int a3), (4, .int a4), (5, .int a5)]) hK dX6_fits_88 (by decide) rfl ?_
                refine J_iload hK dX6_fits_90 6 rfl ?_
                refine J_if_ne (tgt := 99) hK dX6_fits_92 (by decide) ?_ ?_
                · refine J_iconst hK dX6_fits_95 ci_5 ?_
                  refine J_goto (len := 0) (tgt := 112) hK dX6_fits_96 (by decide) ?_
                  refine J_istore (lw := [(6, .int (0 : Int32)), (0, .ref (X.1 + 278)), (1, .int a1), (2, .int a2), (3, .int a3), (4, .int a4), (5, .int a5)]) hK dX6_fits_112 (by decide) rfl ?_
                  refine J_iconst hK dX6_fits_114 ci_0 ?_
                  refine J_istore (lw := [(7, .int (5 : Int32)), (6, .int (0 : Int32)), (0, .ref (X.1 + 278)), (1, .int a1), (2, .int a2), (3, .int a3), (4, .int a4), (5, .int a5)]) hK dX6_fits_115 (by decide) rfl ?_
                  refine J_iconst hK dX6_fits_117 ci_0 ?_
                  refine J_istore (lw := [(8, .int (0 : Int32)), (7, .int (5 : Int32)), (6, .int (0 : Int32)), (0, .ref (X.1 + 278)), (1, .int a1), (2, .int a2), (3, .int a3), (4, .int a4), (5, .int a5)]) hK dX6_fits_118 (by decide) rfl ?_
                  refine J_ldc hK dX6_fits_120 kK_X6_47 ?_
                  refine J_istore (lw := [(9, .int (0 : Int32)), (8, .int (0 : Int32)), (7, .int (5 : Int32)), (6, .int (0 : Int32)), (0, .ref (X.1 + 278)), (1, .int a1), (2, .int a2), (3, .int a3), (4, .int a4), (5, .int a5)]) hK dX6_fits_122 (by decide) rfl ?_
                  refine J_iload hK dX6_fits_124 3 rfl ?_
                  refine J_istore (lw := [(10, .int (-1000000 : Int32)), (9, .int (0 : Int32)), (8, .int (0 : Int32)), (7, .int (5 : Int32)), (6, .int (0 : Int32)), (0, .ref (X.1 + 278)), (1, .int a1), (2, .int a2), (3, .int a3), (4, .int a4), (5, .int a5)]) hK dX6_fits_126 (by decide) rfl ?_
                  refine J_sub [0, 1, 2, 3, 4, 5, 6, 7, 8, 9, 10, 11] rfl (gX6_fits_L128 hK  (fun z15 z16 z17 z18 h19 => ?_) FU _ _ _ _ _)
                  refine J_aload_n hK dX6_fits_184 6 rfl ?_
                  refine J_iload hK dX6_fits_185 11 rfl ?_
                  refine J_iconst hK dX6_fits_187 ci_3 ?_
                  refine J_icmp_ne (tgt := 196) hK dX6_fits_188 (by decide) ?_ ?_
                  · refine J_iload hK dX6_fits_191 2 rfl ?_
                    refine J_goto (len := 0) (tgt := 209) hK dX6_fits_193 (by decide) ?_
                    refine J_callVi (q := 278) (As := [.int z17]) (st := []) hK dX6_fits_209 kB_X6_66 kV_X6_well kd_278 (by decide) rfl rfl (by decide) rfl rfl (Nat.le_of_ble_eq_true rfl) (fun _ _ hf => uX6_well  hf) (fun v21 h20 => ?_)
                    exact J_iret hK dX6_fits_212
                  · refine J_iload hK dX6_fits_196 11 rfl ?_
                    refine J_iconst hK dX6_fits_198 ci_4 ?_
                    refine J_icmp_ne (tgt := 207) hK dX6_fits_199 (by decide) ?_ ?_
                    · refine J_iload hK dX6_fits_202 1 rfl ?_
                      refine J_goto (len := 0) (tgt := 209) hK dX6_fits_204 (by decide) ?_
                      refine J_callVi (q := 278) (As := [.int z16]) (st := []) hK dX6_fits_209 kB_X6_66 kV_X6_well kd_278 (by decide) rfl rfl (by decide) rfl rfl (Nat.le_of_ble_eq_true rfl) (fun _ _ hf => uX6_well  hf) (fun v23 h22 => ?_)
                      exact J_iret hK dX6_fits_212
                    · refine J_iload hK dX6_fits_207 3 rfl ?_
                      refine J_callVi (q := 278) (As := [.int z18]) (st := []) hK dX6_fits_209 kB_X6_66 kV_X6_well kd_278 (by decide) rfl rfl (by decide) rfl rfl (Nat.le_of_ble_eq_true rfl) (fun _ _ hf => uX6_well  hf) (fun v25 h24 => ?_)
                      exact J_iret hK dX6_fits_212
                · refine J_iload hK dX6_fits_99 6 rfl ?_
                  refine J_iconst hK dX6_fits_101 ci_3 ?_
                  refine J_icmp_ge (tgt := 110) hK dX6_fits_102 (by decide) ?_ ?_
                  · refine J_bipush hK dX6_fits_105 cb_20 ?_
                    refine J_goto (len := 0) (tgt := 112) hK dX6_fits_107 (by decide) ?_
                    refine J_istore (lw := [(6, .int (0 : Int32)), (0, .ref (X.1 + 278)), (1, .int a1), (2, .int a2), (3, .int a3), (4, .int a4), (5, .int a5)]) hK dX6_fits_112 (by decide) rfl ?_
                    refine J_iconst hK dX6_fits_114 ci_0 ?_
                    refine J_istore (lw := [(7, .int (20 : Int32)), (6, .int (0 : Int32)), (0, .ref (X.1 + 278)), (1, .int a1), (2, .int a2), (3, .int a3), (4, .int a4), (5, .int a5)]) hK dX6_fits_115 (by decide) rfl ?_
                    refine J_iconst hK dX6_fits_117 ci_0 ?_
                    refine J_istore (lw := [(8, .int (0 : Int32)), (7, .int (20 : Int32)), (6, .int (0 : Int32)), (0, .ref (X.1 + 278)), (1, .int a1), (2, .int a2), (3, .int a3), (4, .int a4), (5, .int a5)]) hK dX6_fits_118 (by decide) rfl ?_
                    refine J_ldc hK dX6_fits_120 kK_X6_47 ?_
                    refine J_istore (lw := [(9, .int (0 : Int32)), (8, .int (0 : Int32)), (7, .int (20 : Int32)), (6, .int (0 : Int32)), (0, .ref (X.1 + 278)), (1, .int a1), (2, .int a2), (3, .int a3), (4, .int a4), (5, .int a5)]) hK dX6_fits_122 (by decide) rfl ?_
                    refine J_iload hK dX6_fits_124 3 rfl ?_
                    refine J_istore (lw := [(10, .int (-1000000 : Int32)), (9, .int (0 : Int32)), (8, .int (0 : Int32)), (7, .int (20 : Int32)), (6, .int (0 : Int32)), (0, .ref (X.1 + 278)), (1, .int a1), (2, .int a2), (3, .int a3), (4, .int a4), (5, .int a5)]) hK dX6_fits_126 (by decide) rfl ?_
                    refine J_sub [0, 1, 2, 3, 4, 5, 6, 7, 8, 9, 10, 11] rfl (gX6_fits_L128 hK  (fun z26 z27 z28 z29 h30 => ?_) FU _ _ _ _ _)
                    refine J_aload_n hK dX6_fits_184 6 rfl ?_
                    refine J_iload hK dX6_fits_185 11 rfl ?_
                    refine J_iconst hK dX6_fits_187 ci_3 ?_
                    refine J_icmp_ne (tgt := 196) hK dX6_fits_188 (by decide) ?_ ?_
                    · refine J_iload hK dX6_fits_191 2 rfl ?_
                      refine J_goto (len := 0) (tgt := 209) hK dX6_fits_193 (by decide) ?_
                      refine J_callVi (q := 278) (As := [.int z28]) (st := []) hK dX6_fits_209 kB_X6_66 kV_X6_well kd_278 (by decide) rfl rfl (by decide) rfl rfl (Nat.le_of_ble_eq_true rfl) (fun _ _ hf => uX6_well  hf) (fun v32 h31 => ?_)
                      exact J_iret hK dX6_fits_212
                    · refine J_iload hK dX6_fits_196 11 rfl ?_
                      refine J_iconst hK dX6_fits_198 ci_4 ?_
                      refine J_icmp_ne (tgt := 207) hK dX6_fits_199 (by decide) ?_ ?_
                      · refine J_iload hK dX6_fits_202 1 rfl ?_
                        refine J_goto (len := 0) (tgt := 209) hK dX6_fits_204 (by decide) ?_
                        refine J_callVi (q := 278) (As := [.int z27]) (st := []) hK dX6_fits_209 kB_X6_66 kV_X6_well kd_278 (by decide) rfl rfl (by decide) rfl rfl (Nat.le_of_ble_eq_true rfl) (fun _ _ hf => uX6_well  hf) (fun v34 h33 => ?_)
                        exact J_iret hK dX6_fits_212
                      · refine J_iload hK dX6_fits_207 3 rfl ?_
                        refine J_callVi (q := 278) (As := [.int z29]) (st := []) hK dX6_fits_209 kB_X6_66 kV_X6_well kd_278 (by decide) rfl rfl (by decide) rfl rfl (Nat.le_of_ble_eq_true rfl) (fun _ _ hf => uX6_well  hf) (fun v36 h35 => ?_)
                        exact J_iret hK dX6_fits_212
                  · refine J_bipush hK dX6_fits_110 cb_60 ?_
                    refine J_istore (lw := [(6, .int (0 : Int32)), (0, .ref (X.1 + 278)), (1, .int a1), (2, .int a2), (3, .int a3), (4, .int a4), (5, .int a5)]) hK dX6_fits_112 (by decide) rfl ?_
                    refine J_iconst hK dX6_fits_114 ci_0 ?_
                    refine J_istore (lw := [(7, .int (60 : Int32)), (6, .int (0 : Int32)), (0, .ref (X.1 + 278)), (1, .int a1), (2, .int a2), (3, .int a3), (4, .int a4), (5, .int a5)]) hK dX6_fits_115 (by decide) rfl ?_
                    refine J_iconst hK dX6_fits_117 ci_0 ?_
                    refine J_istore (lw := [(8, .int (0 : Int32)), (7, .int (60 : Int32)), (6, .int (0 : Int32)), (0, .ref (X.1 + 278)), (1, .int a1), (2, .int a2), (3, .int a3), (4, .int a4), (5, .int a5)]) hK dX6_fits_118 (by decide) rfl ?_
                    refine J_ldc hK dX6_fits_120 kK_X6_47 ?_
                    refine J_istore (lw := [(9, .int (0 : Int32)), (8, .int (0 : Int32)), (7, .int (60 : Int32)), (6, .int (0 : Int32)), (0, .ref (X.1 + 278)), (1, .int a1), (2, .int a2), (3, .int a3), (4, .int a4), (5, .int a5)]) hK dX6_fits_122 (by decide) rfl ?_
                    refine J_iload hK dX6_fits_124 3 rfl ?_
                    refine J_istore (lw := [(10, .int (-1000000 : Int32)), (9, .int (0 : Int32)), (8, .int (0 : Int32)), (7, .int (60 : Int32)), (6, .int (0 : Int32)), (0, .ref (X.1 + 278)), (1, .int a1), (2, .int a2), (3, .int a3), (4, .int a4), (5, .int a5)]) hK dX6_fits_126 (by decide) rfl ?_
                    refine J_sub [0, 1, 2, 3, 4, 5, 6, 7, 8, 9, 10, 11] rfl (gX6_fits_L128 hK  (fun z37 z38 z39 z40 h41 => ?_) FU _ _ _ _ _)
                    refine J_aload_n hK dX6_fits_184 6 rfl ?_
                    refine J_iload hK dX6_fits_185 11 rfl ?_
                    refine J_iconst hK dX6_fits_187 ci_3 ?_
                    refine J_icmp_ne (tgt := 196) hK dX6_fits_188 (by decide) ?_ ?_
                    · refine J_iload hK dX6_fits_191 2 rfl ?_
                      refine J_goto (len := 0) (tgt := 209) hK dX6_fits_193 (by decide) ?_
                      refine J_callVi (q := 278) (As := [.int z39]) (st := []) hK dX6_fits_209 kB_X6_66 kV_X6_well kd_278 (by decide) rfl rfl (by decide) rfl rfl (Nat.le_of_ble_eq_true rfl) (fun _ _ hf => uX6_well  hf) (fun v43 h42 => ?_)
                      exact J_iret hK dX6_fits_212
                    · refine J_iload hK dX6_fits_196 11 rfl ?_
                      refine J_iconst hK dX6_fits_198 ci_4 ?_
                      refine J_icmp_ne (tgt := 207) hK dX6_fits_199 (by decide) ?_ ?_
                      · refine J_iload hK dX6_fits_202 1 rfl ?_
                        refine J_goto (len := 0) (tgt := 209) hK dX6_fits_204 (by decide) ?_
                        refine J_callVi (q := 278) (As := [.int z38]) (st := []) hK dX6_fits_209 kB_X6_66 kV_X6_well kd_278 (by decide) rfl rfl (by decide) rfl rfl (Nat.le_of_ble_eq_true rfl) (fun _ _ hf => uX6_well  hf) (fun v45 h44 => ?_)
                        exact J_iret hK dX6_fits_212
                      · refine J_iload hK dX6_fits_207 3 rfl ?_
                        refine J_callVi (q := 278) (As := [.int z40]) (st := []) hK dX6_fits_209 kB_X6_66 kV_X6_well kd_278 (by decide) rfl rfl (by decide) rfl rfl (Nat.le_of_ble_eq_true rfl) (fun _ _ hf => uX6_well  hf) (fun v47 h46 => ?_)
                        exact J_iret hK dX6_fits_212
              · refine J_iconst hK dX6_fits_80 ci_5 ?_
                refine J_iconst hK dX6_fits_81 ci_5 ?_
                refine J_iload_n hK dX6_fits_82 1 rfl ?_
                refine J_imul hK dX6_fits_83 ?_
                refine J_iadd hK dX6_fits_84 ?_
                refine J_iload hK dX6_fits_85 5 rfl ?_
                refine J_iadd hK dX6_fits_87 ?_
                refine J_istoreV (lw := [(0, .ref (X.1 + 278)), (1, .int a1), (2, .int a2), (3, .int a3), (4, .int a4), (5, .int a5)]) hK dX6_fits_88 (by decide) rfl (fun z48 => ?_)
                refine J_iload hK dX6_fits_90 6 rfl ?_
                refine J_if_ne (tgt := 99) hK dX6_fits_92 (by decide) ?_ ?_
                · refine J_iconst hK dX6_fits_95 ci_5 ?_
                  refine J_goto (len := 0) (tgt := 112) hK dX6_fits_96 (by decide) ?_
                  refine J_istore (lw := [(6, .int z48), (0, .ref (X.1 + 278)), (1, .int a1), (2, .int a2), (3, .int a3), (4, .int a4), (5, .int a5)]) hK dX6_fits_112 (by decide) rfl ?_
                  refine J_iconst hK dX6_fits_114 ci_0 ?_
                  refine J_istore (lw := [(7, .int (5 : Int32)), (6, .int z48), (0, .ref (X.1 + 278)), (1, .int a1), (2, .int a2), (3, .int a3), (4, .int a4), (5, .int a5)]) hK dX6_fits_115 (by decide) rfl ?_
                  refine J_iconst hK dX6_fits_117 ci_0 ?_
                  refine J_istore (lw := [(8, .int (0 : Int32)), (7, .int (5 : Int32)), (6, .int z48), (0, .ref (X.1 + 278)), (1, .int a1), (2, .int a2), (3, .int a3), (4, .int a4), (5, .int a5)]) hK dX6_fits_118 (by decide) rfl ?_
                  refine J_ldc hK dX6_fits_120 kK_X6_47 ?_
                  refine J_istore (lw := [(9, .int (0 : Int32)), (8, .int (0 : Int32)), (7, .int (5 : Int32)), (6, .int z48), (0, .ref (X.1 + 278)), (1, .int a1), (2, .int a2), (3, .int a3), (4, .int a4), (5, .int a5)]) hK dX6_fits_122 (by decide) rfl ?_
                  refine J_iload hK dX6_fits_124 3 rfl ?_
                  refine J_istore (lw := [(10, .int (-1000000 : Int32)), (9, .int (0 : Int32)), (8, .int (0 : Int32)), (7, .int (5 : Int32)), (6, .int z48), (0, .ref (X.1 + 278)), (1, .int a1), (2, .int a2), (3, .int a3), (4, .int a4), (5, .int a5)]) hK dX6_fits_126 (by decide) rfl ?_
                  refine J_sub [0, 1, 2, 3, 4, 5, 6, 7, 8, 9, 10, 11] rfl (gX6_fits_L128 hK  (fun z49 z50 z51 z52 h53 => ?_) FU _ _ _ _ _)
                  refine J_aload_n hK dX6_fits_184 6 rfl ?_
                  refine J_iload hK dX6_fits_185 11 rfl ?_
                  refine J_iconst hK dX6_fits_187 ci_3 ?_
                  refine J_icmp_ne (tgt := 196) hK dX6_fits_188 (by decide) ?_ ?_
                  · refine J_iload hK dX6_fits_191 2 rfl ?_
                    refine J_goto (len := 0) (tgt := 209) hK dX6_fits_193 (by decide) ?_
                    refine J_callVi (q := 278) (As := [.int z51]) (st := []) hK dX6_fits_209 kB_X6_66 kV_X6_well kd_278 (by decide) rfl rfl (by decide) rfl rfl (Nat.le_of_ble_eq_true rfl) (fun _ _ hf => uX6_well  hf) (fun v55 h54 => ?_)
                    exact J_iret hK dX6_fits_212
                  · refine J_iload hK dX6_fits_196 11 rfl ?_
                    refine J_iconst hK dX6_fits_198 ci_4 ?_
                    refine J_icmp_ne (tgt := 207) hK dX6_fits_199 (by decide) ?_ ?_
                    · refine J_iload hK dX6_fits_202 1 rfl ?_
                      refine J_goto (len := 0) (tgt := 209) hK dX6_fits_204 (by decide) ?_
                      refine J_callVi (q := 278) (As := [.int z50]) (st := []) hK dX6_fits_209 kB_X6_66 kV_X6_well kd_278 (by decide) rfl rfl (by decide) rfl rfl (Nat.le_of_ble_eq_true rfl) (fun _ _ hf => uX6_well  hf) (fun v57 h56 => ?_)
                      exact J_iret hK dX6_fits_212
                    · refine J_iload hK dX6_fits_207 3 rfl ?_
                      refine J_callVi (q := 278) (As := [.int z52]) (st := []) hK dX6_fits_209 kB_X6_66 kV_X6_well kd_278 (by decide) rfl rfl (by decide) rfl rfl (Nat.le_of_ble_eq_true rfl) (fun _ _ hf => uX6_well  hf) (fun v59 h58 => ?_)
                      exact J_iret hK dX6_fits_212
                · refine J_iload hK dX6_fits_99 6 rfl ?_
                  refine J_iconst hK dX6_fits_101 ci_3 ?_
                  refine J_icmp_ge (tgt := 110) hK dX6_fits_102 (by decide) ?_ ?_
                  · refine J_bipush hK dX6_fits_105 cb_20 ?_
                    refine J_goto (len := 0) (tgt := 112) hK dX6_fits_107 (by decide) ?_
                    refine J_istore (lw := [(6, .int z48), (0, .ref (X.1 + 278)), (1, .int a1), (2, .int a2), (3, .int a3), (4, .int a4), (5, .int a5)]) hK dX6_fits_112 (by decide) rfl ?_
                    refine J_iconst hK dX6_fits_114 ci_0 ?_
                    refine J_istore (lw := [(7, .int (20 : Int32)), (6, .int z48), (0, .ref (X.1 + 278)), (1, .int a1), (2, .int a2), (3, .int a3), (4, .int a4), (5, .int a5)]) hK dX6_fits_115 (by decide) rfl ?_
                    refine J_iconst hK dX6_fits_117 ci_0 ?_
                    refine J_istore (lw := [(8, .int (0 : Int32)), (7, .int (20 : Int32)), (6, .int z48), (0, .ref (X.1 + 278)), (1, .int a1), (2, .int a2), (3, .int a3), (4, .int a4), (5, .int a5)]) hK dX6_fits_118 (by decide) rfl ?_
                    refine J_ldc hK dX6_fits_120 kK_X6_47 ?_
                    refine J_istore (lw := [(9, .int (0 : Int32)), (8, .int (0 : Int32)), (7, .int (20 : Int32)), (6, .int z48), (0, .ref (X.1 + 278)), (1, .int a1), (2, .int a2), (3, .int a3), (4, .int a4), (5, .int a5)]) hK dX6_fits_122 (by decide) rfl ?_
                    refine J_iload hK dX6_fits_124 3 rfl ?_
                    refine J_istore (lw := [(10, .int (-1000000 : Int32)), (9, .int (0 : Int32)), (8, .int (0 : Int32)), (7, .int (20 : Int32)), (6, .int z48), (0, .ref (X.1 + 278)), (1, .int a1), (2, .int a2), (3, .int a3), (4, .int a4), (5, .int a5)]) hK dX6_fits_126 (by decide) rfl ?_
                    refine J_sub [0, 1, 2, 3, 4, 5, 6, 7, 8, 9, 10, 11] rfl (gX6_fits_L128 hK  (fun z60 z61 z62 z63 h64 => ?_) FU _ _ _ _ _)
                    refine J_aload_n hK dX6_fits_184 6 rfl ?_
                    refine J_iload hK dX6_fits_185 11 rfl ?_
                    refine J_iconst hK dX6_fits_187 ci_3 ?_
                    refine J_icmp_ne (tgt := 196) hK dX6_fits_188 (by decide) ?_ ?_
                    · refine J_iload hK dX6_fits_191 2 rfl ?_
                      refine J_goto (len := 0) (tgt := 209) hK dX6_fits_193 (by decide) ?_
                      refine J_callVi (q := 278) (As := [.int z62]) (st := []) hK dX6_fits_209 kB_X6_66 kV_X6_well kd_278 (by decide) rfl rfl (by decide) rfl rfl (Nat.le_of_ble_eq_true rfl) (fun _ _ hf => uX6_well  hf) (fun v66 h65 => ?_)
                      exact J_iret hK dX6_fits_212
                    · refine J_iload hK dX6_fits_196 11 rfl ?_
                      refine J_iconst hK dX6_fits_198 ci_4 ?_
                      refine J_icmp_ne (tgt := 207) hK dX6_fits_199 (by decide) ?_ ?_
                      · refine J_iload hK dX6_fits_202 1 rfl ?_
                        refine J_goto (len := 0) (tgt := 209) hK dX6_fits_204 (by decide) ?_
                        refine J_callVi (q := 278) (As := [.int z61]) (st := []) hK dX6_fits_209 kB_X6_66 kV_X6_well kd_278 (by decide) rfl rfl (by decide) rfl rfl (Nat.le_of_ble_eq_true rfl) (fun _ _ hf => uX6_well  hf) (fun v68 h67 => ?_)
                        exact J_iret hK dX6_fits_212
                      · refine J_iload hK dX6_fits_207 3 rfl ?_
                        refine J_callVi (q := 278) (As := [.int z63]) (st := []) hK dX6_fits_209 kB_X6_66 kV_X6_well kd_278 (by decide) rfl rfl (by decide) rfl rfl (Nat.le_of_ble_eq_true rfl) (fun _ _ hf => uX6_well  hf) (fun v70 h69 => ?_)
                        exact J_iret hK dX6_fits_212
                  · refine J_bipush hK dX6_fits_110 cb_60 ?_
                    refine J_istore (lw := [(6, .int z48), (0, .ref (X.1 + 278)), (1, .int a1), (2, .int a2), (3, .int a3), (4, .int a4), (5, .int a5)]) hK dX6_fits_112 (by decide) rfl ?_
                    refine J_iconst hK dX6_fits_114 ci_0 ?_
                    refine J_istore (lw := [(7, .int (60 : Int32)), (6, .int z48), (0, .ref (X.1 + 278)), (1, .int a1), (2, .int a2), (3, .int a3), (4, .int a4), (5, .int a5)]) hK dX6_fits_115 (by decide) rfl ?_
                    refine J_iconst hK dX6_fits_117 ci_0 ?_
                    refine J_istore (lw := [(8, .int (0 : Int32)), (7, .int (60 : Int32)), (6, .int z48), (0, .ref (X.1 + 278)), (1, .int a1), (2, .int a2), (3, .int a3), (4, .int a4), (5, .int a5)]) hK dX6_fits_118 (by decide) rfl ?_
                    refine J_ldc hK dX6_fits_120 kK_X6_47 ?_
                    refine J_istore (lw := [(9, .int (0 : Int32)), (8, .int (0 : Int32)), (7, .int (60 : Int32)), (6, .int z48), (0, .ref (X.1 + 278)), (1, .int a1), (2, .int a2), (3, .int a3), (4, .int a4), (5, .int a5)]) hK dX6_fits_122 (by decide) rfl ?_
                    refine J_iload hK dX6_fits_124 3 rfl ?_
                    refine J_istore (lw := [(10, .int (-1000000 : Int32)), (9, .int (0 : Int32)), (8, .int (0 : Int32)), (7, .int (60 : Int32)), (6, .int z48), (0, .ref (X.1 + 278)), (1, .int a1), (2, .int a2), (3, .int a3), (4, .int a4), (5, .int a5)]) hK dX6_fits_126 (by decide) rfl ?_
                    refine J_sub [0, 1, 2, 3, 4, 5, 6, 7, 8, 9, 10, 11] rfl (gX6_fits_L128 hK  (fun z71 z72 z73 z74 h75 => ?_) FU _ _ _ _ _)
                    refine J_aload_n hK dX6_fits_184 6 rfl ?_
                    refine J_iload hK dX6_fits_185 11 rfl ?_
                    refine J_iconst hK dX6_fits_187 ci_3 ?_
                    refine J_icmp_ne (tgt := 196) hK dX6_fits_188 (by decide) ?_ ?_
                    · refine J_iload hK dX6_fits_191 2 rfl ?_
                      refine J_goto (len := 0) (tgt := 209) hK dX6_fits_193 (by decide) ?_
                      refine J_callVi (q := 278) (As := [.int z73]) (st := []) hK dX6_fits_209 kB_X6_66 kV_X6_well kd_278 (by decide) rfl rfl (by decide) rfl rfl (Nat.le_of_ble_eq_true rfl) (fun _ _ hf => uX6_well  hf) (fun v77 h76 => ?_)
                      exact J_iret hK dX6_fits_212
                    · refine J_iload hK dX6_fits_196 11 rfl ?_
                      refine J_iconst hK dX6_fits_198 ci_4 ?_
                      refine J_icmp_ne (tgt := 207) hK dX6_fits_199 (by decide) ?_ ?_
                      · refine J_iload hK dX6_fits_202 1 rfl ?_
                        refine J_goto (len := 0) (tgt := 209) hK dX6_fits_204 (by decide) ?_
                        refine J_callVi (q := 278) (As := [.int z72]) (st := []) hK dX6_fits_209 kB_X6_66 kV_X6_well kd_278 (by decide) rfl rfl (by decide) rfl rfl (Nat.le_of_ble_eq_true rfl) (fun _ _ hf => uX6_well  hf) (fun v79 h78 => ?_)
                        exact J_iret hK dX6_fits_212
                      · refine J_iload hK dX6_fits_207 3 rfl ?_
                        refine J_callVi (q := 278) (As := [.int z74]) (st := []) hK dX6_fits_209 kB_X6_66 kV_X6_well kd_278 (by decide) rfl rfl (by decide) rfl rfl (Nat.le_of_ble_eq_true rfl) (fun _ _ hf => uX6_well  hf) (fun v81 h80 => ?_)
                        exact J_iret hK dX6_fits_212
          · refine J_aload_n hK dX6_fits_47 0 rfl ?_
            refine J_iconst hK dX6_fits_48 ci_1 ?_
            refine J_callVi (q := 278) (As := [.int (1 : Int32)]) (st := []) hK dX6_fits_49 kB_X6_62 kV_X6_found kd_278 (by decide) rfl rfl (by decide) rfl rfl (Nat.le_of_ble_eq_true rfl) (fun _ _ hf => uX6_found  hf) (fun v83 h82 => ?_)
            exact J_iret hK dX6_fits_52
-- X6_follows
theorem dX6_follows_0 : DD cX6_follows 0 (.aload_n 0) 1 1 := by decide +kernel
theorem dX6_follows_1 : DD cX6_follows 1 (.aload_n 0) 1 2 := by decide +kernel
theorem dX6_follows_2 : DD cX6_follows 2 (.getfield 95) 3 5 := by decide +kernel
theorem dX6_follows_5 : DD cX6_follows 5 (.iconst 3) 1 6 := by decide +kernel
theorem dX6_follows_6 : DD cX6_follows 6 (.if_icmp .ne 7) 3 9 := by decide +kernel
theorem dX6_follows_9 : DD cX6_follows 9 (.iconst 1) 1 10 := by decide +kernel
theorem dX6_follows_10 : DD cX6_follows 10 (.goto 4) 3 13 := by decide +kernel
theorem dX6_follows_13 : DD cX6_follows 13 (.iconst 0) 1 14 := by decide +kernel
theorem dX6_follows_14 : DD cX6_follows 14 (.iconst 1) 1 15 := by decide +kernel
theorem dX6_follows_15 : DD cX6_follows 15 (.invokevirtual 111) 3 18 := by decide +kernel
theorem dX6_follows_18 : DD cX6_follows 18 (.pop) 1 19 := by decide +kernel
theorem dX6_follows_19 : DD cX6_follows 19 (.aload_n 0) 1 20 := by decide +kernel
theorem dX6_follows_20 : DD cX6_follows 20 (.iload_n 1) 1 21 := by decide +kernel
theorem dX6_follows_21 : DD cX6_follows 21 (.iload_n 2) 1 22 := by decide +kernel
theorem dX6_follows_22 : DD cX6_follows 22 (.invokevirtual 115) 3 25 := by decide +kernel
theorem dX6_follows_25 : DD cX6_follows 25 (.ireturn) 1 26 := by decide +kernel
def fX6_follows (a1 : Int32) (a2 : Int32) (h : AH) : Option (Int32 × AH) := (if (h 278 11) = (3 : Int32) then (bnd (fX6_takes (1 : Int32) (1 : Int32) h) fun v2 h1 => (bnd (fX6_figure a1 a2 h1) fun v4 h3 => (some (v4, h3)))) else (bnd (fX6_takes (0 : Int32) (1 : Int32) h) fun v6 h5 => (bnd (fX6_figure a1 a2 h5) fun v8 h7 => (some (v8, h7)))))
set_option maxHeartbeats 4000000 in
set_option maxRecDepth 4000 in
theorem uX6_follows {l : Launch} {X : WX} {a1 : Int32} {a2 : Int32} {h h' : AH} {v : Int32} (hf : fX6_follows a1 a2 h = some (v, h')) : Does l X 5 yX6_follows cX6_follows 3 (some .int) [.ref (X.1 + 278), .int a1, .int a2] h (eI v) h' := by
  refine Does.of (enc := eI) (o := fX6_follows a1 a2 h) (lv := [(0, .ref (X.1 + 278)), (1, .int a1), (2, .int a2)]) (by decide) (Nat.le_of_ble_eq_true rfl) rfl hf (fun K hl hK => ?_)
  subst hl
  unfold fX6_follows
  refine J_aload_n hK dX6_follows_0 0 rfl ?_
  refine J_aload_n hK dX6_follows_1 0 rfl ?_
  refine gF_X6_95 hK dX6_follows_2 kd_278 ?_
  refine J_iconst hK dX6_follows_5 ci_3 ?_
  refine J_icmp_ne (tgt := 13) hK dX6_follows_6 (by decide) ?_ ?_
  · refine J_iconst hK dX6_follows_9 ci_1 ?_
    refine J_goto (len := 0) (tgt := 14) hK dX6_follows_10 (by decide) ?_
    refine J_iconst hK dX6_follows_14 ci_1 ?_
    refine J_callVi (q := 278) (As := [.int (1 : Int32), .int (1 : Int32)]) (st := []) hK dX6_follows_15 kB_X6_111 kV_X6_takes kd_278 (by decide) rfl rfl (by decide) rfl rfl (Nat.le_of_ble_eq_true rfl) (fun _ _ hf => uX6_takes  hf) (fun v2 h1 => ?_)
    refine J_pop hK dX6_follows_18 rfl ?_
    refine J_aload_n hK dX6_follows_19 0 rfl ?_
    refine J_iload_n hK dX6_follows_20 1 rfl ?_
    refine J_iload_n hK dX6_follows_21 2 rfl ?_
    refine J_callVi (q := 278) (As := [.int a1, .int a2]) (st := []) hK dX6_follows_22 kB_X6_115 kV_X6_figure kd_278 (by decide) rfl rfl (by decide) rfl rfl (Nat.le_of_ble_eq_true rfl) (fun _ _ hf => uX6_figure  hf) (fun v4 h3 => ?_)
    exact J_iret hK dX6_follows_25
  · refine J_iconst hK dX6_follows_13 ci_0 ?_
    refine J_iconst hK dX6_follows_14 ci_1 ?_
    refine J_callVi (q := 278) (As := [.int (0 : Int32), .int (1 : Int32)]) (st := []) hK dX6_follows_15 kB_X6_111 kV_X6_takes kd_278 (by decide) rfl rfl (by decide) rfl rfl (Nat.le_of_ble_eq_true rfl) (fun _ _ hf => uX6_takes  hf) (fun v6 h5 => ?_)
    refine J_pop hK dX6_follows_18 rfl ?_
    refine J_aload_n hK dX6_follows_19 0 rfl ?_
    refine J_iload_n hK dX6_follows_20 1 rfl ?_
    refine J_iload_n hK dX6_follows_21 2 rfl ?_
    refine J_callVi (q := 278) (As := [.int a1, .int a2]) (st := []) hK dX6_follows_22 kB_X6_115 kV_X6_figure kd_278 (by decide) rfl rfl (by decide) rfl rfl (Nat.le_of_ble_eq_true rfl) (fun _ _ hf => uX6_figure  hf) (fun v8 h7 => ?_)
    exact J_iret hK dX6_follows_25
-- X6_later
theorem dX6_later_0 : DD cX6_later 0 (.aload_n 0) 1 1 := by decide +kernel
theorem dX6_later_1 : DD cX6_later 1 (.invokevirtual 167) 3 4 := by decide +kernel
theorem dX6_later_4 : DD cX6_later 4 (.ifCond .ne 6) 3 7 := by decide +kernel
theorem dX6_later_7 : DD cX6_later 7 (.ldc 170) 2 9 := by decide +kernel
theorem dX6_later_9 : DD cX6_later 9 (.ireturn) 1 10 := by decide +kernel
theorem dX6_later_10 : DD cX6_later 10 (.iload_n 1) 1 11 := by decide +kernel
theorem dX6_later_11 : DD cX6_later 11 (.iconst 0) 1 12 := by decide +kernel
theorem dX6_later_12 : DD cX6_later 12 (.bipush 60) 2 14 := by decide +kernel
theorem dX6_later_14 : DD cX6_later 14 (.invokestatic 53) 3 17 := by decide +kernel
theorem dX6_later_17 : DD cX6_later 17 (.ifCond .ne 6) 3 20 := by decide +kernel
theorem dX6_later_20 : DD cX6_later 20 (.ldc 61) 2 22 := by decide +kernel
theorem dX6_later_22 : DD cX6_later 22 (.ireturn) 1 23 := by decide +kernel
theorem dX6_later_23 : DD cX6_later 23 (.aload_n 0) 1 24 := by decide +kernel
theorem dX6_later_24 : DD cX6_later 24 (.getfield 25) 3 27 := by decide +kernel
theorem dX6_later_27 : DD cX6_later 27 (.iconst 0) 1 28 := by decide +kernel
theorem dX6_later_28 : DD cX6_later 28 (.aload_n 0) 1 29 := by decide +kernel
theorem dX6_later_29 : DD cX6_later 29 (.getfield 31) 3 32 := by decide +kernel
theorem dX6_later_32 : DD cX6_later 32 (.iconst 0) 1 33 := by decide +kernel
theorem dX6_later_33 : DD cX6_later 33 (.invokestatic 135) 3 36 := by decide +kernel
theorem dX6_later_36 : DD cX6_later 36 (.aload_n 0) 1 37 := by decide +kernel
theorem dX6_later_37 : DD cX6_later 37 (.iload_n 1) 1 38 := by decide +kernel
theorem dX6_later_38 : DD cX6_later 38 (.invokevirtual 187) 3 41 := by decide +kernel
theorem dX6_later_41 : DD cX6_later 41 (.iload_n 2) 1 42 := by decide +kernel
theorem dX6_later_42 : DD cX6_later 42 (.tableswitch 68 0 3 #[30, 37, 52, 60]) 30 72 := by decide +kernel
theorem dX6_later_72 : DD cX6_later 72 (.aload_n 0) 1 73 := by decide +kernel
theorem dX6_later_73 : DD cX6_later 73 (.getfield 31) 3 76 := by decide +kernel
theorem dX6_later_76 : DD cX6_later 76 (.iconst 1) 1 77 := by decide +kernel
theorem dX6_later_77 : DD cX6_later 77 (.iaload) 1 78 := by decide +kernel
theorem dX6_later_78 : DD cX6_later 78 (.ireturn) 1 79 := by decide +kernel
theorem dX6_later_79 : DD cX6_later 79 (.aload_n 0) 1 80 := by decide +kernel
theorem dX6_later_80 : DD cX6_later 80 (.getfield 31) 3 83 := by decide +kernel
theorem dX6_later_83 : DD cX6_later 83 (.aload_n 0) 1 84 := by decide +kernel
theorem dX6_later_84 : DD cX6_later 84 (.getfield 31) 3 87 := by decide +kernel
theorem dX6_later_87 : DD cX6_later 87 (.invokestatic 153) 3 90 := by decide +kernel
theorem dX6_later_90 : DD cX6_later 90 (.invokestatic 157) 3 93 := by decide +kernel
theorem dX6_later_93 : DD cX6_later 93 (.ireturn) 1 94 := by decide +kernel
theorem dX6_later_94 : DD cX6_later 94 (.aload_n 0) 1 95 := by decide +kernel
theorem dX6_later_95 : DD cX6_later 95 (.getfield 31) 3 98 := by decide +kernel
theorem dX6_later_98 : DD cX6_later 98 (.invokestatic 181) 3 101 := by decide +kernel
theorem dX6_later_101 : DD cX6_later 101 (.ireturn) 1 102 := by decide +kernel
theorem dX6_later_102 : DD cX6_later 102 (.aload_n 0) 1 103 := by decide +kernel
theorem dX6_later_103 : DD cX6_later 103 (.getfield 31) 3 106 := by decide +kernel
theorem dX6_later_106 : DD cX6_later 106 (.invokestatic 191) 3 109 := by decide +kernel
theorem dX6_later_109 : DD cX6_later 109 (.ireturn) 1 110 := by decide +kernel
theorem dX6_later_110 : DD cX6_later 110 (.ldc 61) 2 112 := by decide +kernel
theorem dX6_later_112 : DD cX6_later 112 (.ireturn) 1 113 := by decide +kernel
def fX6_later (a1 : Int32) (a2 : Int32) (h : AH) : Option (Int32 × AH) := (bnd (fX6_isEstuary  h) fun v2 h1 => (if v2 = 0 then (some ((-1000002 : Int32), h1)) else (bnd (fX6_in a1 (0 : Int32) (60 : Int32) h1) fun v4 h3 => (if v4 = 0 then (some ((-1000001 : Int32), h3)) else (bnd (fX6_copies 284 (0 : Int32) 286 (0 : Int32) h3) fun _ h5 => (bnd (fX6_goesOn a1 h5) fun _ h6 => (if a2 = (0 : Int32) then (chk (inb (1 : Int32) (ln 286)) (some ((h6 286 (Int32.toNatClampNeg (1 : Int32))), h6))) else (if a2 = (1 : Int32) then (bnd (fX6_force 286 h6) fun v9 h8 => (bnd (fX6_speed 286 v9 h8) fun v11 h10 => (some (v11, h10)))) else (if a2 = (2 : Int32) then (bnd (fX6_holding 286 h6) fun v14 h13 => (some (v14, h13))) else (if a2 = (3 : Int32) then (bnd (fX6_standing 286 h6) fun v17 h16 => (some (v17, h16))) else (some ((-1000001 : Int32), h6))))))))))))
set_option maxHeartbeats 4000000 in
set_option maxRecDepth 4000 in
theorem uX6_later {l : Launch} {X : WX} {a1 : Int32} {a2 : Int32} {h h' : AH} {v : Int32} (hf : fX6_later a1 a2 h = some (v, h')) : Does l X 5 yX6_later cX6_later 3 (some .int) [.ref (X.1 + 278), .int a1, .int a2] h (eI v) h' := by
  refine Does.of (enc := eI) (o := fX6_later a1 a2 h) (lv := [(0, .ref (X.1 + 278)), (1, .int a1), (2, .int a2)]) (by decide) (Nat.le_of_ble_eq_true rfl) rfl hf (fun K hl hK => ?_)
  subst hl
  unfold fX6_later
  refine J_aload_n hK dX6_later_0 0 rfl ?_
  refine J_callVi (q := 278) (As := []) (st := []) hK dX6_later_1 kB_X6_167 kV_X6_isEstuary kd_278 (by decide) rfl rfl (by decide) rfl rfl (Nat.le_of_ble_eq_true rfl) (fun _ _ hf => uX6_isEstuary  hf) (fun v2 h1 => ?_)
  refine J_if_ne (tgt := 10) hK dX6_later_4 (by decide) ?_ ?_
  · refine J_ldc hK dX6_later_7 kK_X6_170 ?_
    exact J_iret hK dX6_later_9
  · refine J_iload_n hK dX6_later_10 1 rfl ?_
    refine J_iconst hK dX6_later_11 ci_0 ?_
    refine J_bipush hK dX6_later_12 cb_60 ?_
    refine J_callSi (As := [.int a1, .int (0 : Int32), .int (60 : Int32)]) (st := []) hK dX6_later_14 kB_X6_53 kS_X6_in (by decide) rfl rfl (Nat.le_of_ble_eq_true rfl) (fun _ _ hf => uX6_in  hf) (fun v4 h3 => ?_)
    refine J_if_ne (tgt := 23) hK dX6_later_17 (by decide) ?_ ?_
    · refine J_ldc hK dX6_later_20 kK_X6_61 ?_
      exact J_iret hK dX6_later_22
    · refine J_aload_n hK dX6_later_23 0 rfl ?_
      refine rF_X6_25 (q2 := 284) hK dX6_later_24 kd_278 rfl ?_
      refine J_iconst hK dX6_later_27 ci_0 ?_
      refine J_aload_n hK dX6_later_28 0 rfl ?_
      refine rF_X6_31 (q2 := 286) hK dX6_later_29 kd_278 rfl ?_
      refine J_iconst hK dX6_later_32 ci_0 ?_
      refine J_callSv (As := [.ref (X.1 + 284), .int (0 : Int32), .ref (X.1 + 286), .int (0 : Int32)]) (st := []) hK dX6_later_33 kB_X6_135 kS_X6_copies (by decide) rfl rfl (Nat.le_of_ble_eq_true rfl) (fun _ _ hf => uX6_copies kd_284 kd_286 hf) (fun _ h5 => ?_)
      refine J_aload_n hK dX6_later_36 0 rfl ?_
      refine J_iload_n hK dX6_later_37 1 rfl ?_
      refine J_callVv (q := 278) (As := [.int a1]) (st := []) hK dX6_later_38 kB_X6_187 kV_X6_goesOn kd_278 (by decide) rfl rfl (by decide) rfl rfl (Nat.le_of_ble_eq_true rfl) (fun _ _ hf => uX6_goesOn  hf) (fun _ h6 => ?_)
      refine J_iload_n hK dX6_later_41 2 rfl ?_
      refine J_split (c := a2 = (0 : Int32)) (fun e7 => ?_) (fun e7 => ?_)
      · refine J_tableIn (v := 0) (off := 30) (tgt := 72) hK dX6_later_42 e7 (by decide) ?_
        refine J_aload_n hK dX6_later_72 0 rfl ?_
        refine rF_X6_31 (q2 := 286) hK dX6_later_73 kd_278 rfl ?_
        refine J_iconst hK dX6_later_76 ci_1 ?_
        refine J_iald hK dX6_later_77 kd_286 (fun _ => ?_)
        exact J_iret hK dX6_later_78
      refine J_split (c := a2 = (1 : Int32)) (fun e12 => ?_) (fun e12 => ?_)
      · refine J_tableIn (v := 1) (off := 37) (tgt := 79) hK dX6_later_42 e12 (by decide) ?_
        refine J_aload_n hK dX6_later_79 0 rfl ?_
        refine rF_X6_31 (q2 := 286) hK dX6_later_80 kd_278 rfl ?_
        refine J_aload_n hK dX6_later_83 0 rfl ?_
        refine rF_X6_31 (q2 := 286) hK dX6_later_84 kd_278 rfl ?_
        refine J_callSi (As := [.ref (X.1 + 286)]) (st := [.ref (X.1 + 286)]) hK dX6_later_87 kB_X6_153 kS_X6_force (by decide) rfl rfl (Nat.le_of_ble_eq_true rfl) (fun _ _ hf => uX6_force kd_286 hf) (fun v9 h8 => ?_)
        refine J_callSi (As := [.ref (X.1 + 286), .int v9]) (st := []) hK dX6_later_90 kB_X6_157 kS_X6_speed (by decide) rfl rfl (Nat.le_of_ble_eq_true rfl) (fun _ _ hf => uX6_speed kd_286 hf) (fun v11 h10 => ?_)
        exact J_iret hK dX6_later_93
      refine J_split (c := a2 = (2 : Int32)) (fun e15 => ?_) (fun e15 => ?_)
      · refine J_tableIn (v := 2) (off := 52) (tgt := 94) hK dX6_later_42 e15 (by decide) ?_
        refine J_aload_n hK dX6_later_94 0 rfl ?_
        refine rF_X6_31 (q2 := 286) hK dX6_later_95 kd_278 rfl ?_
        refine J_callSi (As := [.ref (X.1 + 286)]) (st := []) hK dX6_later_98 kB_X6_181 kS_X6_holding (by decide) rfl rfl (Nat.le_of_ble_eq_true rfl) (fun _ _ hf => uX6_holding kd_286 hf) (fun v14 h13 => ?_)
        exact J_iret hK dX6_later_101
      refine J_split (c := a2 = (3 : Int32)) (fun e18 => ?_) (fun e18 => ?_)
      · refine J_tableIn (v := 3) (off := 60) (tgt := 102) hK dX6_later_42 e18 (by decide) ?_
        refine J_aload_n hK dX6_later_102 0 rfl ?_
        refine rF_X6_31 (q2 := 286) hK dX6_later_103 kd_278 rfl ?_
        refine J_callSi (As := [.ref (X.1 + 286)]) (st := []) hK dX6_later_106 kB_X6_191 kS_X6_standing (by decide) rfl rfl (Nat.le_of_ble_eq_true rfl) (fun _ _ hf => uX6_standing kd_286 hf) (fun v17 h16 => ?_)
        exact J_iret hK dX6_later_109
      refine J_tableOut (tgt := 110) hK dX6_later_42 (tbl_out [0, 1, 2, 3] (by decide) (nl1 e7 (nl1 e12 (nl1 e15 (nl1 e18 nl0))))) (by decide) ?_
      refine J_ldc hK dX6_later_110 kK_X6_61 ?_
      exact J_iret hK dX6_later_112
-- X6_least
theorem dX6_least_0 : DD cX6_least 0 (.aload_n 0) 1 1 := by decide +kernel
theorem dX6_least_1 : DD cX6_least 1 (.iload_n 1) 1 2 := by decide +kernel
theorem dX6_least_2 : DD cX6_least 2 (.invokevirtual 178) 3 5 := by decide +kernel
theorem dX6_least_5 : DD cX6_least 5 (.ifCond .eq 10) 3 8 := by decide +kernel
theorem dX6_least_8 : DD cX6_least 8 (.iload_n 2) 1 9 := by decide +kernel
theorem dX6_least_9 : DD cX6_least 9 (.invokestatic 194) 3 12 := by decide +kernel
theorem dX6_least_12 : DD cX6_least 12 (.ifCond .ne 6) 3 15 := by decide +kernel
theorem dX6_least_15 : DD cX6_least 15 (.ldc 61) 2 17 := by decide +kernel
theorem dX6_least_17 : DD cX6_least 17 (.ireturn) 1 18 := by decide +kernel
theorem dX6_least_18 : DD cX6_least 18 (.iconst 1) 1 19 := by decide +kernel
theorem dX6_least_19 : DD cX6_least 19 (.istore_n 3) 1 20 := by decide +kernel
theorem dX6_least_20 : DD cX6_least 20 (.iload_n 3) 1 21 := by decide +kernel
theorem dX6_least_21 : DD cX6_least 21 (.bipush 21) 2 23 := by decide +kernel
theorem dX6_least_23 : DD cX6_least 23 (.if_icmp .ge 51) 3 26 := by decide +kernel
theorem dX6_least_26 : DD cX6_least 26 (.aload_n 0) 1 27 := by decide +kernel
theorem dX6_least_27 : DD cX6_least 27 (.getfield 25) 3 30 := by decide +kernel
theorem dX6_least_30 : DD cX6_least 30 (.iconst 0) 1 31 := by decide +kernel
theorem dX6_least_31 : DD cX6_least 31 (.aload_n 0) 1 32 := by decide +kernel
theorem dX6_least_32 : DD cX6_least 32 (.getfield 31) 3 35 := by decide +kernel
theorem dX6_least_35 : DD cX6_least 35 (.iconst 0) 1 36 := by decide +kernel
theorem dX6_least_36 : DD cX6_least 36 (.invokestatic 135) 3 39 := by decide +kernel
theorem dX6_least_39 : DD cX6_least 39 (.aload_n 0) 1 40 := by decide +kernel
theorem dX6_least_40 : DD cX6_least 40 (.getfield 31) 3 43 := by decide +kernel
theorem dX6_least_43 : DD cX6_least 43 (.iconst 5) 1 44 := by decide +kernel
theorem dX6_least_44 : DD cX6_least 44 (.iconst 5) 1 45 := by decide +kernel
theorem dX6_least_45 : DD cX6_least 45 (.iload_n 1) 1 46 := by decide +kernel
theorem dX6_least_46 : DD cX6_least 46 (.imul) 1 47 := by decide +kernel
theorem dX6_least_47 : DD cX6_least 47 (.iadd) 1 48 := by decide +kernel
theorem dX6_least_48 : DD cX6_least 48 (.iconst 1) 1 49 := by decide +kernel
theorem dX6_least_49 : DD cX6_least 49 (.iadd) 1 50 := by decide +kernel
theorem dX6_least_50 : DD cX6_least 50 (.iload_n 3) 1 51 := by decide +kernel
theorem dX6_least_51 : DD cX6_least 51 (.iastore) 1 52 := by decide +kernel
theorem dX6_least_52 : DD cX6_least 52 (.aload_n 0) 1 53 := by decide +kernel
theorem dX6_least_53 : DD cX6_least 53 (.iload_n 2) 1 54 := by decide +kernel
theorem dX6_least_54 : DD cX6_least 54 (.invokevirtual 187) 3 57 := by decide +kernel
theorem dX6_least_57 : DD cX6_least 57 (.aload_n 0) 1 58 := by decide +kernel
theorem dX6_least_58 : DD cX6_least 58 (.getfield 31) 3 61 := by decide +kernel
theorem dX6_least_61 : DD cX6_least 61 (.iconst 1) 1 62 := by decide +kernel
theorem dX6_least_62 : DD cX6_least 62 (.iaload) 1 63 := by decide +kernel
theorem dX6_least_63 : DD cX6_least 63 (.ifCond .ne 5) 3 66 := by decide +kernel
theorem dX6_least_66 : DD cX6_least 66 (.iload_n 3) 1 67 := by decide +kernel
theorem dX6_least_67 : DD cX6_least 67 (.ireturn) 1 68 := by decide +kernel
theorem dX6_least_68 : DD cX6_least 68 (.iinc 3 1) 3 71 := by decide +kernel
theorem dX6_least_71 : DD cX6_least 71 (.goto (-51)) 3 74 := by decide +kernel
theorem dX6_least_74 : DD cX6_least 74 (.ldc 47) 2 76 := by decide +kernel
theorem dX6_least_76 : DD cX6_least 76 (.ireturn) 1 77 := by decide +kernel
def fX6_least_L20 (p1 : Int32) (p2 : Int32) : Nat → Int32 → AH → (Int32 → AH → Option (Int32 × AH)) → Option (Int32 × AH)
  | 0, _, _, _ => none
  | n + 1, x3, h, k => (if x3 < (21 : Int32) then (bnd (fX6_copies 284 (0 : Int32) 286 (0 : Int32) h) fun _ h201 => (chk (inb (((5 : Int32) + ((5 : Int32) * p1)) + (1 : Int32)) (ln 286)) (sto (hs h201 286 (Int32.toNatClampNeg (((5 : Int32) + ((5 : Int32) * p1)) + (1 : Int32))) x3) fun h202 => (bnd (fX6_goesOn p2 h202) fun _ h203 => (chk (inb (1 : Int32) (ln 286)) (if (h203 286 (Int32.toNatClampNeg (1 : Int32))) = 0 then (some (x3, h203)) else (vl (x3 + (1 : Int32)) fun z204 => fX6_least_L20 p1 p2 n z204 h203 k))))))) else k x3 h)
def fX6_least (a1 : Int32) (a2 : Int32) (h : AH) : Option (Int32 × AH) := (bnd (fX6_isTug a1 h) fun v2 h1 => (if v2 = 0 then (some ((-1000001 : Int32), h1)) else (bnd (fX6_isNear a2 h1) fun v4 h3 => (if v4 = 0 then (some ((-1000001 : Int32), h3)) else (fX6_least_L20 a1 a2 FU (1 : Int32) h3 fun z5 h6 => (some ((-1000000 : Int32), h6)))))))
set_option maxHeartbeats 4000000 in
theorem gX6_least_L20 {K : MC} {X : WX} {p1 : Int32} {p2 : Int32} (hK : Ok K X RX6 cX6_least 4 (some .int) 5) {k : Int32 → AH → Option (Int32 × AH)} (hk : ∀ (x3 : Int32) (h : AH), J K X 4 (Zm K X) eI 74 [(3, .int x3), (0, .ref (X.1 + 278)), (1, .int p1), (2, .int p2)] [] h (k x3 h)) : ∀ (n : Nat) (x3 : Int32) (h : AH), J K X 4 (Zm K X) eI 20 [(3, .int x3), (0, .ref (X.1 + 278)), (1, .int p1), (2, .int p2)] [] h (fX6_least_L20 p1 p2 n x3 h k) := by
  intro n
  induction n with
  | zero => exact fun _ _ => J_none
  | succ n ih =>
    intro x3 h
    rw [fX6_least_L20]
    refine J_iload_n hK dX6_least_20 0 rfl ?_
    refine J_bipush hK dX6_least_21 cb_21 ?_
    refine J_icmp_ge (tgt := 74) hK dX6_least_23 (by decide) ?_ ?_
    · refine J_aload_n hK dX6_least_26 1 rfl ?_
      refine rF_X6_25 (q2 := 284) hK dX6_least_27 kd_278 rfl ?_
      refine J_iconst hK dX6_least_30 ci_0 ?_
      refine J_aload_n hK dX6_least_31 1 rfl ?_
      refine rF_X6_31 (q2 := 286) hK dX6_least_32 kd_278 rfl ?_
      refine J_iconst hK dX6_least_35 ci_0 ?_
      refine J_callSv (As := [.ref (X.1 + 284), .int (0 : Int32), .ref (X.1 + 286), .int (0 : Int32)]) (st := []) hK dX6_least_36 kB_X6_135 kS_X6_copies (by decide) rfl rfl (Nat.le_of_ble_eq_true rfl) (fun _ _ hf => uX6_copies kd_284 kd_286 hf) (fun _ h201 => ?_)
      refine J_aload_n hK dX6_least_39 1 rfl ?_
      refine rF_X6_31 (q2 := 286) hK dX6_least_40 kd_278 rfl ?_
      refine J_iconst hK dX6_least_43 ci_5 ?_
      refine J_iconst hK dX6_least_44 ci_5 ?_
      refine J_iload_n hK dX6_least_45 2 rfl ?_
      refine J_imul hK dX6_least_46 ?_
      refine J_iadd hK dX6_least_47 ?_
      refine J_iconst hK dX6_least_48 ci_1 ?_
      refine J_iadd hK dX6_least_49 ?_
      refine J_iload_n hK dX6_least_50 0 rfl ?_
      refine J_iast hK dX6_least_51 kd_286 (fun h202 => ?_)
      refine J_aload_n hK dX6_least_52 1 rfl ?_
      refine J_iload_n hK dX6_least_53 3 rfl ?_
      refine J_callVv (q := 278) (As := [.int p2]) (st := []) hK dX6_least_54 kB_X6_187 kV_X6_goesOn kd_278 (by decide) rfl rfl (by decide) rfl rfl (Nat.le_of_ble_eq_true rfl) (fun _ _ hf => uX6_goesOn  hf) (fun _ h203 => ?_)
      refine J_aload_n hK dX6_least_57 1 rfl ?_
      refine rF_X6_31 (q2 := 286) hK dX6_least_58 kd_278 rfl ?_
      refine J_iconst hK dX6_least_61 ci_1 ?_
      refine J_iald hK dX6_least_62 kd_286 (fun _ => ?_)
      refine J_if_ne (tgt := 68) hK dX6_least_63 (by decide) ?_ ?_
      · refine J_iload_n hK dX6_least_66 0 rfl ?_
        exact J_iret hK dX6_least_67
      · refine J_iinc (lw := [(0, .ref (X.1 + 278)), (1, .int p1), (2, .int p2)]) hK dX6_least_68 0 rfl (by decide) ci_1 rfl (fun z204 => ?_)
        refine J_goto (len := 0) (tgt := 20) hK dX6_least_71 (by decide) ?_
        exact J_sub [0, 1, 2, 3] rfl (ih _ _)
    · exact J_sub [0, 1, 2, 3] rfl (hk _ _)
set_option maxHeartbeats 4000000 in
set_option maxRecDepth 4000 in
theorem uX6_least {l : Launch} {X : WX} {a1 : Int32} {a2 : Int32} {h h' : AH} {v : Int32} (hf : fX6_least a1 a2 h = some (v, h')) : Does l X 5 yX6_least cX6_least 4 (some .int) [.ref (X.1 + 278), .int a1, .int a2] h (eI v) h' := by
  refine Does.of (enc := eI) (o := fX6_least a1 a2 h) (lv := [(0, .ref (X.1 + 278)), (1, .int a1), (2, .int a2)]) (by decide) (Nat.le_of_ble_eq_true rfl) rfl hf (fun K hl hK => ?_)
  subst hl
  unfold fX6_least
  refine J_aload_n hK dX6_least_0 0 rfl ?_
  refine J_iload_n hK dX6_least_1 1 rfl ?_
  refine J_callVi (q := 278) (As := [.int a1]) (st := []) hK dX6_least_2 kB_X6_178 kV_X6_isTug kd_278 (by decide) rfl rfl (by decide) rfl rfl (Nat.le_of_ble_eq_true rfl) (fun _ _ hf => uX6_isTug  hf) (fun v2 h1 => ?_)
  refine J_if_eq (tgt := 15) hK dX6_least_5 (by decide) ?_ ?_
  · refine J_ldc hK dX6_least_15 kK_X6_61 ?_
    exact J_iret hK dX6_least_17
  · refine J_iload_n hK dX6_least_8 2 rfl ?_
    refine J_callSi (As := [.int a2]) (st := []) hK dX6_least_9 kB_X6_194 kS_X6_isNear (by decide) rfl rfl (Nat.le_of_ble_eq_true rfl) (fun _ _ hf => uX6_isNear  hf) (fun v4 h3 => ?_)
    refine J_if_ne (tgt := 18) hK dX6_least_12 (by decide) ?_ ?_
    · refine J_ldc hK dX6_least_15 kK_X6_61 ?_
      exact J_iret hK dX6_least_17
    · refine J_iconst hK dX6_least_18 ci_1 ?_
      refine J_istore_n (n := 3) (lw := [(0, .ref (X.1 + 278)), (1, .int a1), (2, .int a2)]) hK dX6_least_19 rfl (by decide) rfl ?_
      refine J_sub [0, 1, 2, 3] rfl (gX6_least_L20 hK  (fun z5 h6 => ?_) FU _ _)
      refine J_ldc hK dX6_least_74 kK_X6_47 ?_
      exact J_iret hK dX6_least_76
-- X6_readsPier
theorem dX6_readsPier_0 : DD cX6_readsPier 0 (.aload_n 0) 1 1 := by decide +kernel
theorem dX6_readsPier_1 : DD cX6_readsPier 1 (.aload_n 0) 1 2 := by decide +kernel
theorem dX6_readsPier_2 : DD cX6_readsPier 2 (.getfield 28) 3 5 := by decide +kernel
theorem dX6_readsPier_5 : DD cX6_readsPier 5 (.iconst 3) 1 6 := by decide +kernel
theorem dX6_readsPier_6 : DD cX6_readsPier 6 (.iaload) 1 7 := by decide +kernel
theorem dX6_readsPier_7 : DD cX6_readsPier 7 (.iconst 4) 1 8 := by decide +kernel
theorem dX6_readsPier_8 : DD cX6_readsPier 8 (.if_icmp .ge 7) 3 11 := by decide +kernel
theorem dX6_readsPier_11 : DD cX6_readsPier 11 (.iconst 1) 1 12 := by decide +kernel
theorem dX6_readsPier_12 : DD cX6_readsPier 12 (.goto 4) 3 15 := by decide +kernel
theorem dX6_readsPier_15 : DD cX6_readsPier 15 (.iconst 0) 1 16 := by decide +kernel
theorem dX6_readsPier_16 : DD cX6_readsPier 16 (.iconst 3) 1 17 := by decide +kernel
theorem dX6_readsPier_17 : DD cX6_readsPier 17 (.invokevirtual 111) 3 20 := by decide +kernel
theorem dX6_readsPier_20 : DD cX6_readsPier 20 (.pop) 1 21 := by decide +kernel
theorem dX6_readsPier_21 : DD cX6_readsPier 21 (.bipush 35) 2 23 := by decide +kernel
theorem dX6_readsPier_23 : DD cX6_readsPier 23 (.iconst 2) 1 24 := by decide +kernel
theorem dX6_readsPier_24 : DD cX6_readsPier 24 (.aload_n 0) 1 25 := by decide +kernel
theorem dX6_readsPier_25 : DD cX6_readsPier 25 (.getfield 28) 3 28 := by decide +kernel
theorem dX6_readsPier_28 : DD cX6_readsPier 28 (.iconst 3) 1 29 := by decide +kernel
theorem dX6_readsPier_29 : DD cX6_readsPier 29 (.iaload) 1 30 := by decide +kernel
theorem dX6_readsPier_30 : DD cX6_readsPier 30 (.iconst 4) 1 31 := by decide +kernel
theorem dX6_readsPier_31 : DD cX6_readsPier 31 (.if_icmp .ge 12) 3 34 := by decide +kernel
theorem dX6_readsPier_34 : DD cX6_readsPier 34 (.aload_n 0) 1 35 := by decide +kernel
theorem dX6_readsPier_35 : DD cX6_readsPier 35 (.getfield 28) 3 38 := by decide +kernel
theorem dX6_readsPier_38 : DD cX6_readsPier 38 (.iconst 3) 1 39 := by decide +kernel
theorem dX6_readsPier_39 : DD cX6_readsPier 39 (.iaload) 1 40 := by decide +kernel
theorem dX6_readsPier_40 : DD cX6_readsPier 40 (.goto 4) 3 43 := by decide +kernel
theorem dX6_readsPier_43 : DD cX6_readsPier 43 (.iconst 0) 1 44 := by decide +kernel
theorem dX6_readsPier_44 : DD cX6_readsPier 44 (.imul) 1 45 := by decide +kernel
theorem dX6_readsPier_45 : DD cX6_readsPier 45 (.iadd) 1 46 := by decide +kernel
theorem dX6_readsPier_46 : DD cX6_readsPier 46 (.istore_n 1) 1 47 := by decide +kernel
theorem dX6_readsPier_47 : DD cX6_readsPier 47 (.aload_n 0) 1 48 := by decide +kernel
theorem dX6_readsPier_48 : DD cX6_readsPier 48 (.iconst 0) 1 49 := by decide +kernel
theorem dX6_readsPier_49 : DD cX6_readsPier 49 (.bipush 98) 2 51 := by decide +kernel
theorem dX6_readsPier_51 : DD cX6_readsPier 51 (.invokevirtual 115) 3 54 := by decide +kernel
theorem dX6_readsPier_54 : DD cX6_readsPier 54 (.istore_n 2) 1 55 := by decide +kernel
theorem dX6_readsPier_55 : DD cX6_readsPier 55 (.aload_n 0) 1 56 := by decide +kernel
theorem dX6_readsPier_56 : DD cX6_readsPier 56 (.iconst 1) 1 57 := by decide +kernel
theorem dX6_readsPier_57 : DD cX6_readsPier 57 (.bipush 20) 2 59 := by decide +kernel
theorem dX6_readsPier_59 : DD cX6_readsPier 59 (.invokevirtual 121) 3 62 := by decide +kernel
theorem dX6_readsPier_62 : DD cX6_readsPier 62 (.istore_n 3) 1 63 := by decide +kernel
theorem dX6_readsPier_63 : DD cX6_readsPier 63 (.aload_n 0) 1 64 := by decide +kernel
theorem dX6_readsPier_64 : DD cX6_readsPier 64 (.aload_n 0) 1 65 := by decide +kernel
theorem dX6_readsPier_65 : DD cX6_readsPier 65 (.getfield 95) 3 68 := by decide +kernel
theorem dX6_readsPier_68 : DD cX6_readsPier 68 (.iconst 4) 1 69 := by decide +kernel
theorem dX6_readsPier_69 : DD cX6_readsPier 69 (.if_icmp .ne 7) 3 72 := by decide +kernel
theorem dX6_readsPier_72 : DD cX6_readsPier 72 (.iconst 1) 1 73 := by decide +kernel
theorem dX6_readsPier_73 : DD cX6_readsPier 73 (.goto 4) 3 76 := by decide +kernel
theorem dX6_readsPier_76 : DD cX6_readsPier 76 (.iconst 0) 1 77 := by decide +kernel
theorem dX6_readsPier_77 : DD cX6_readsPier 77 (.iconst 1) 1 78 := by decide +kernel
theorem dX6_readsPier_78 : DD cX6_readsPier 78 (.invokevirtual 111) 3 81 := by decide +kernel
theorem dX6_readsPier_81 : DD cX6_readsPier 81 (.pop) 1 82 := by decide +kernel
theorem dX6_readsPier_82 : DD cX6_readsPier 82 (.aload_n 0) 1 83 := by decide +kernel
theorem dX6_readsPier_83 : DD cX6_readsPier 83 (.invokevirtual 101) 3 86 := by decide +kernel
theorem dX6_readsPier_86 : DD cX6_readsPier 86 (.ifCond .eq 29) 3 89 := by decide +kernel
theorem dX6_readsPier_89 : DD cX6_readsPier 89 (.aload_n 0) 1 90 := by decide +kernel
theorem dX6_readsPier_90 : DD cX6_readsPier 90 (.getfield 28) 3 93 := by decide +kernel
theorem dX6_readsPier_93 : DD cX6_readsPier 93 (.iload_n 1) 1 94 := by decide +kernel
theorem dX6_readsPier_94 : DD cX6_readsPier 94 (.iload_n 2) 1 95 := by decide +kernel
theorem dX6_readsPier_95 : DD cX6_readsPier 95 (.iastore) 1 96 := by decide +kernel
theorem dX6_readsPier_96 : DD cX6_readsPier 96 (.aload_n 0) 1 97 := by decide +kernel
theorem dX6_readsPier_97 : DD cX6_readsPier 97 (.getfield 28) 3 100 := by decide +kernel
theorem dX6_readsPier_100 : DD cX6_readsPier 100 (.iload_n 1) 1 101 := by decide +kernel
theorem dX6_readsPier_101 : DD cX6_readsPier 101 (.iconst 1) 1 102 := by decide +kernel
theorem dX6_readsPier_102 : DD cX6_readsPier 102 (.iadd) 1 103 := by decide +kernel
theorem dX6_readsPier_103 : DD cX6_readsPier 103 (.iload_n 3) 1 104 := by decide +kernel
theorem dX6_readsPier_104 : DD cX6_readsPier 104 (.iastore) 1 105 := by decide +kernel
theorem dX6_readsPier_105 : DD cX6_readsPier 105 (.aload_n 0) 1 106 := by decide +kernel
theorem dX6_readsPier_106 : DD cX6_readsPier 106 (.getfield 28) 3 109 := by decide +kernel
theorem dX6_readsPier_109 : DD cX6_readsPier 109 (.iconst 3) 1 110 := by decide +kernel
theorem dX6_readsPier_110 : DD cX6_readsPier 110 (.dup2) 1 111 := by decide +kernel
theorem dX6_readsPier_111 : DD cX6_readsPier 111 (.iaload) 1 112 := by decide +kernel
theorem dX6_readsPier_112 : DD cX6_readsPier 112 (.iconst 1) 1 113 := by decide +kernel
theorem dX6_readsPier_113 : DD cX6_readsPier 113 (.iadd) 1 114 := by decide +kernel
theorem dX6_readsPier_114 : DD cX6_readsPier 114 (.iastore) 1 115 := by decide +kernel
theorem dX6_readsPier_115 : DD cX6_readsPier 115 (.return_) 1 116 := by decide +kernel
def fX6_readsPier (h : AH) : Option (Unit × AH) := (chk (inb (3 : Int32) (ln 285)) (if (h 285 (Int32.toNatClampNeg (3 : Int32))) < (4 : Int32) then (bnd (fX6_takes (1 : Int32) (3 : Int32) h) fun v2 h1 => (chk (inb (3 : Int32) (ln 285)) (if (h1 285 (Int32.toNatClampNeg (3 : Int32))) < (4 : Int32) then (chk (inb (3 : Int32) (ln 285)) (vl ((35 : Int32) + ((2 : Int32) * (h1 285 (Int32.toNatClampNeg (3 : Int32))))) fun z3 => (bnd (fX6_figure (0 : Int32) (98 : Int32) h1) fun v5 h4 => (bnd (fX6_follows (1 : Int32) (20 : Int32) h4) fun v7 h6 => (if (h6 278 11) = (4 : Int32) then (bnd (fX6_takes (1 : Int32) (1 : Int32) h6) fun v9 h8 => (bnd (fX6_isWell  h8) fun v11 h10 => (if v11 = 0 then (some ((), h10)) else (chk (inb z3 (ln 285)) (sto (hs h10 285 (Int32.toNatClampNeg z3) v5) fun h12 => (chk (inb (z3 + (1 : Int32)) (ln 285)) (sto (hs h12 285 (Int32.toNatClampNeg (z3 + (1 : Int32))) v7) fun h13 => (chk (inb (3 : Int32) (ln 285)) (chk (inb (3 : Int32) (ln 285)) (sto (hs h13 285 (Int32.toNatClampNeg (3 : Int32)) ((h13 285 (Int32.toNatClampNeg (3 : Int32))) + (1 : Int32))) fun h14 => (some ((), h14)))))))))))) else (bnd (fX6_takes (0 : Int32) (1 : Int32) h6) fun v16 h15 => (bnd (fX6_isWell  h15) fun v18 h17 => (if v18 = 0 then (some ((), h17)) else (chk (inb z3 (ln 285)) (sto (hs h17 285 (Int32.toNatClampNeg z3) v5) fun h19 => (chk (inb (z3 + (1 : Int32)) (ln 285)) (sto (hs h19 285 (Int32.toNatClampNeg (z3 + (1 : Int32))) v7) fun h20 => (chk (inb (3 : Int32) (ln 285)) (chk (inb (3 : Int32) (ln 285)) (sto (hs h20 285 (Int32.toNatClampNeg (3 : Int32)) ((h20 285 (Int32.toNatClampNeg (3 : Int32))) + (1 : Int32))) fun h21 => (some ((), h21))))))))))))))))) else (vl ((35 : Int32) + ((2 : Int32) * (0 : Int32))) fun z22 => (bnd (fX6_figure (0 : Int32) (98 : Int32) h1) fun v24 h23 => (bnd (fX6_follows (1 : Int32) (20 : Int32) h23) fun v26 h25 => (if (h25 278 11) = (4 : Int32) then (bnd (fX6_takes (1 : Int32) (1 : Int32) h25) fun v28 h27 => (bnd (fX6_isWell  h27) fun v30 h29 => (if v30 = 0 then (some ((), h29)) else (chk (inb z22 (ln 285)) (sto (hs h29 285 (Int32.toNatClampNeg z22) v24) fun h31 => (chk (inb (z22 + (1 : Int32)) (ln 285)) (sto (hs h31 285 (Int32.toNatClampNeg (z22 + (1 : Int32))) v26) fun h32 => (chk (inb (3 : Int32) (ln 285)) (chk (inb (3 : Int32) (ln 285)) (sto (hs h32 285 (Int32.toNatClampNeg (3 : Int32)) ((h32 285 (Int32.toNatClampNeg (3 : Int32))) + (1 : Int32))) fun h33 => (some ((), h33)))))))))))) else (bnd (fX6_takes (0 : Int32) (1 : Int32) h25) fun v35 h34 => (bnd (fX6_isWell  h34) fun v37 h36 => (if v37 = 0 then (some ((), h36)) else (chk (inb z22 (ln 285)) (sto (hs h36 285 (Int32.toNatClampNeg z22) v24) fun h38 => (chk (inb (z22 + (1 : Int32)) (ln 285)) (sto (hs h38 285 (Int32.toNatClampNeg (z22 + (1 : Int32))) v26) fun h39 => (chk (inb (3 : Int32) (ln 285)) (chk (inb (3 : Int32) (ln 285)) (sto (hs h39 285 (Int32.toNatClampNeg (3 : Int32)) ((h39 285 (Int32.toNatClampNeg (3 : Int32))) + (1 : Int32))) fun h40 => (some ((), h40))))))))))))))))))) else (bnd (fX6_takes (0 : Int32) (3 : Int32) h) fun v42 h41 => (chk (inb (3 : Int32) (ln 285)) (if (h41 285 (Int32.toNatClampNeg (3 : Int32))) < (4 : Int32) then (chk (inb (3 : Int32) (ln 285)) (vl ((35 : Int32) + ((2 : Int32) * (h41 285 (Int32.toNatClampNeg (3 : Int32))))) fun z43 => (bnd (fX6_figure (0 : Int32) (98 : Int32) h41) fun v45 h44 => (bnd (fX6_follows (1 : Int32) (20 : Int32) h44) fun v47 h46 => (if (h46 278 11) = (4 : Int32) then (bnd (fX6_takes (1 : Int32) (1 : Int32) h46) fun v49 h48 => (bnd (fX6_isWell  h48) fun v51 h50 => (if v51 = 0 then (some ((), h50)) else (chk (inb z43 (ln 285)) (sto (hs h50 285 (Int32.toNatClampNeg z43) v45) fun h52 => (chk (inb (z43 + (1 : Int32)) (ln 285)) (sto (hs h52 285 (Int32.toNatClampNeg (z43 + (1 : Int32))) v47) fun h53 => (chk (inb (3 : Int32) (ln 285)) (chk (inb (3 : Int32) (ln 285)) (sto (hs h53 285 (Int32.toNatClampNeg (3 : Int32)) ((h53 285 (Int32.toNatClampNeg (3 : Int32))) + (1 : Int32))) fun h54 => (some ((), h54)))))))))))) else (bnd (fX6_takes (0 : Int32) (1 : Int32) h46) fun v56 h55 => (bnd (fX6_isWell  h55) fun v58 h57 => (if v58 = 0 then (some ((), h57)) else (chk (inb z43 (ln 285)) (sto (hs h57 285 (Int32.toNatClampNeg z43) v45) fun h59 => (chk (inb (z43 + (1 : Int32)) (ln 285)) (sto (hs h59 285 (Int32.toNatClampNeg (z43 + (1 : Int32))) v47) fun h60 => (chk (inb (3 : Int32) (ln 285)) (chk (inb (3 : Int32) (ln 285)) (sto (hs h60 285 (Int32.toNatClampNeg (3 : Int32)) ((h60 285 (Int32.toNatClampNeg (3 : Int32))) + (1 : Int32))) fun h61 => (some ((), h61))))))))))))))))) else (vl ((35 : Int32) + ((2 : Int32) * (0 : Int32))) fun z62 => (bnd (fX6_figure (0 : Int32) (98 : Int32) h41) fun v64 h63 => (bnd (fX6_follows (1 : Int32) (20 : Int32) h63) fun v66 h65 => (if (h65 278 11) = (4 : Int32) then (bnd (fX6_takes (1 : Int32) (1 : Int32) h65) fun v68 h67 => (bnd (fX6_isWell  h67) fun v70 h69 => (if v70 = 0 then (some ((), h69)) else (chk (inb z62 (ln 285)) (sto (hs h69 285 (Int32.toNatClampNeg z62) v64) fun h71 => (chk (inb (z62 + (1 : Int32)) (ln 285)) (sto (hs h71 285 (Int32.toNatClampNeg (z62 + (1 : Int32))) v66) fun h72 => (chk (inb (3 : Int32) (ln 285)) (chk (inb (3 : Int32) (ln 285)) (sto (hs h72 285 (Int32.toNatClampNeg (3 : Int32)) ((h72 285 (Int32.toNatClampNeg (3 : Int32))) + (1 : Int32))) fun h73 => (some ((), h73)))))))))))) else (bnd (fX6_takes (0 : Int32) (1 : Int32) h65) fun v75 h74 => (bnd (fX6_isWell  h74) fun v77 h76 => (if v77 = 0 then (some ((), h76)) else (chk (inb z62 (ln 285)) (sto (hs h76 285 (Int32.toNatClampNeg z62) v64) fun h78 => (chk (inb (z62 + (1 : Int32)) (ln 285)) (sto (hs h78 285 (Int32.toNatClampNeg (z62 + (1 : Int32))) v66) fun h79 => (chk (inb (3 : Int32) (ln 285)) (chk (inb (3 : Int32) (ln 285)) (sto (hs h79 285 (Int32.toNatClampNeg (3 : Int32)) ((h79 285 (Int32.toNatClampNeg (3 : Int32))) + (1 : Int32))) fun h80 => (some ((), h80)))))))))))))))))))))
set_option maxHeartbeats 4000000 in
set_option maxRecDepth 4000 in
theorem uX6_readsPier {l : Launch} {X : WX} {h h' : AH} {v : Unit} (hf : fX6_readsPier  h = some (v, h')) : Does l X 6 yX6_readsPier cX6_readsPier 4 none [.ref (X.1 + 278)] h (eV v) h' := by
  refine Does.of (enc := eV) (o := fX6_readsPier  h) (lv := [(0, .ref (X.1 + 278))]) (by decide) (Nat.le_of_ble_eq_true rfl) rfl hf (fun K hl hK => ?_)
  subst hl
  unfold fX6_readsPier
  refine J_aload_n hK dX6_readsPier_0 0 rfl ?_
  refine J_aload_n hK dX6_readsPier_1 0 rfl ?_
  refine rF_X6_28 (q2 := 285) hK dX6_readsPier_2 kd_278 rfl ?_
  refine J_iconst hK dX6_readsPier_5 ci_3 ?_
  refine J_iald hK dX6_readsPier_6 kd_285 (fun _ => ?_)
  refine J_iconst hK dX6_readsPier_7 ci_4 ?_
  refine J_icmp_ge (tgt := 15) hK dX6_readsPier_8 (by decide) ?_ ?_
  · refine J_iconst hK dX6_readsPier_11 ci_1 ?_
    refine J_goto (len := 0) (tgt := 16) hK dX6_readsPier_12 (by decide) ?_
    refine J_iconst hK dX6_readsPier_16 ci_3 ?_
    refine J_callVi (q := 278) (As := [.int (1 : Int32), .int (3 : Int32)]) (st := []) hK dX6_readsPier_17 kB_X6_111 kV_X6_takes kd_278 (by decide) rfl rfl (by decide) rfl rfl (Nat.le_of_ble_eq_true rfl) (fun _ _ hf => uX6_takes  hf) (fun v2 h1 => ?_)
    refine J_pop hK dX6_readsPier_20 rfl ?_
    refine J_bipush hK dX6_readsPier_21 cb_35 ?_
    refine J_iconst hK dX6_readsPier_23 ci_2 ?_
    refine J_aload_n hK dX6_readsPier_24 0 rfl ?_
    refine rF_X6_28 (q2 := 285) hK dX6_readsPier_25 kd_278 rfl ?_
    refine J_iconst hK dX6_readsPier_28 ci_3 ?_
    refine J_iald hK dX6_readsPier_29 kd_285 (fun _ => ?_)
    refine J_iconst hK dX6_readsPier_30 ci_4 ?_
    refine J_icmp_ge (tgt := 43) hK dX6_readsPier_31 (by decide) ?_ ?_
    · refine J_aload_n hK dX6_readsPier_34 0 rfl ?_
      refine rF_X6_28 (q2 := 285) hK dX6_readsPier_35 kd_278 rfl ?_
      refine J_iconst hK dX6_readsPier_38 ci_3 ?_
      refine J_iald hK dX6_readsPier_39 kd_285 (fun _ => ?_)
      refine J_goto (len := 0) (tgt := 44) hK dX6_readsPier_40 (by decide) ?_
      refine J_imul hK dX6_readsPier_44 ?_
      refine J_iadd hK dX6_readsPier_45 ?_
      refine J_istoreV_n (n := 1) (lw := [(0, .ref (X.1 + 278))]) hK dX6_readsPier_46 rfl (by decide) rfl (fun z3 => ?_)
      refine J_aload_n hK dX6_readsPier_47 1 rfl ?_
      refine J_iconst hK dX6_readsPier_48 ci_0 ?_
      refine J_bipush hK dX6_readsPier_49 cb_98 ?_
      refine J_callVi (q := 278) (As := [.int (0 : Int32), .int (98 : Int32)]) (st := []) hK dX6_readsPier_51 kB_X6_115 kV_X6_figure kd_278 (by decide) rfl rfl (by decide) rfl rfl (Nat.le_of_ble_eq_true rfl) (fun _ _ hf => uX6_figure  hf) (fun v5 h4 => ?_)
      refine J_istore_n (n := 2) (lw := [(1, .int z3), (0, .ref (X.1 + 278))]) hK dX6_readsPier_54 rfl (by decide) rfl ?_
      refine J_aload_n hK dX6_readsPier_55 2 rfl ?_
      refine J_iconst hK dX6_readsPier_56 ci_1 ?_
      refine J_bipush hK dX6_readsPier_57 cb_20 ?_
      refine J_callVi (q := 278) (As := [.int (1 : Int32), .int (20 : Int32)]) (st := []) hK dX6_readsPier_59 kB_X6_121 kV_X6_follows kd_278 (by decide) rfl rfl (by decide) rfl rfl (Nat.le_of_ble_eq_true rfl) (fun _ _ hf => uX6_follows  hf) (fun v7 h6 => ?_)
      refine J_istore_n (n := 3) (lw := [(2, .int v5), (1, .int z3), (0, .ref (X.1 + 278))]) hK dX6_readsPier_62 rfl (by decide) rfl ?_
      refine J_aload_n hK dX6_readsPier_63 3 rfl ?_
      refine J_aload_n hK dX6_readsPier_64 3 rfl ?_
      refine gF_X6_95 hK dX6_readsPier_65 kd_278 ?_
      refine J_iconst hK dX6_readsPier_68 ci_4 ?_
      refine J_icmp_ne (tgt := 76) hK dX6_readsPier_69 (by decide) ?_ ?_
      · refine J_iconst hK dX6_readsPier_72 ci_1 ?_
        refine J_goto (len := 0) (tgt := 77) hK dX6_readsPier_73 (by decide) ?_
        refine J_iconst hK dX6_readsPier_77 ci_1 ?_
        refine J_callVi (q := 278) (As := [.int (1 : Int32), .int (1 : Int32)]) (st := []) hK dX6_readsPier_78 kB_X6_111 kV_X6_takes kd_278 (by decide) rfl rfl (by decide) rfl rfl (Nat.le_of_ble_eq_true rfl) (fun _ _ hf => uX6_takes  hf) (fun v9 h8 => ?_)
        refine J_pop hK dX6_readsPier_81 rfl ?_
        refine J_aload_n hK dX6_readsPier_82 3 rfl ?_
        refine J_callVi (q := 278) (As := []) (st := []) hK dX6_readsPier_83 kB_X6_101 kV_X6_isWell kd_278 (by decide) rfl rfl (by decide) rfl rfl (Nat.le_of_ble_eq_true rfl) (fun _ _ hf => uX6_isWell  hf) (fun v11 h10 => ?_)
        refine J_if_eq (tgt := 115) hK dX6_readsPier_86 (by decide) ?_ ?_
        · exact J_vret hK dX6_readsPier_115
        · refine J_aload_n hK dX6_readsPier_89 3 rfl ?_
          refine rF_X6_28 (q2 := 285) hK dX6_readsPier_90 kd_278 rfl ?_
          refine J_iload_n hK dX6_readsPier_93 2 rfl ?_
          refine J_iload_n hK dX6_readsPier_94 1 rfl ?_
          refine J_iast hK dX6_readsPier_95 kd_285 (fun h12 => ?_)
          refine J_aload_n hK dX6_readsPier_96 3 rfl ?_
          refine rF_X6_28 (q2 := 285) hK dX6_readsPier_97 kd_278 rfl ?_
          refine J_iload_n hK dX6_readsPier_100 2 rfl ?_
          refine J_iconst hK dX6_readsPier_101 ci_1 ?_
          refine J_iadd hK dX6_readsPier_102 ?_
          refine J_iload_n hK dX6_readsPier_103 0 rfl ?_
          refine J_iast hK dX6_readsPier_104 kd_285 (fun h13 => ?_)
          refine J_aload_n hK dX6_readsPier_105 3 rfl ?_
          refine rF_X6_28 (q2 := 285) hK dX6_readsPier_106 kd_278 rfl ?_
          refine J_iconst hK dX6_readsPier_109 ci_3 ?_
          refine J_dup2 hK dX6_readsPier_110 rfl rfl ?_
          refine J_iald hK dX6_readsPier_111 kd_285 (fun _ => ?_)
          refine J_iconst hK dX6_readsPier_112 ci_1 ?_
          refine J_iadd hK dX6_readsPier_113 ?_
          refine J_iast hK dX6_readsPier_114 kd_285 (fun h14 => ?_)
          exact J_vret hK dX6_readsPier_115
      · refine J_iconst hK dX6_readsPier_76 ci_0 ?_
        refine J_iconst hK dX6_readsPier_77 ci_1 ?_
        refine J_callVi (q := 278) (As := [.int (0 : Int32), .int (1 : Int32)]) (st := []) hK dX6_readsPier_78 kB_X6_111 kV_X6_takes kd_278 (by decide) rfl rfl (by decide) rfl rfl (Nat.le_of_ble_eq_true rfl) (fun _ _ hf => uX6_takes  hf) (fun v16 h15 => ?_)
        refine J_pop hK dX6_readsPier_81 rfl ?_
        refine J_aload_n hK dX6_readsPier_82 3 rfl ?_
        refine J_callVi (q := 278) (As := []) (st := []) hK dX6_readsPier_83 kB_X6_101 kV_X6_isWell kd_278 (by decide) rfl rfl (by decide) rfl rfl (Nat.le_of_ble_eq_true rfl) (fun _ _ hf => uX6_isWell  hf) (fun v18 h17 => ?_)
        refine J_if_eq (tgt := 115) hK dX6_readsPier_86 (by decide) ?_ ?_
        · exact J_vret hK dX6_readsPier_115
        · refine J_aload_n hK dX6_readsPier_89 3 rfl ?_
          refine rF_X6_28 (q2 := 285) hK dX6_readsPier_90 kd_278 rfl ?_
          refine J_iload_n hK dX6_readsPier_93 2 rfl ?_
          refine J_iload_n hK dX6_readsPier_94 1 rfl ?_
          refine J_iast hK dX6_readsPier_95 kd_285 (fun h19 => ?_)
          refine J_aload_n hK dX6_readsPier_96 3 rfl ?_
          refine rF_X6_28 (q2 := 285) hK dX6_readsPier_97 kd_278 rfl ?_
          refine J_iload_n hK dX6_readsPier_100 2 rfl ?_
          refine J_iconst hK dX6_readsPier_101 ci_1 ?_
          refine J_iadd hK dX6_readsPier_102 ?_
          refine J_iload_n hK dX6_readsPier_103 0 rfl ?_
          refine J_iast hK dX6_readsPier_104 kd_285 (fun h20 => ?_)
          refine J_aload_n hK dX6_readsPier_105 3 rfl ?_
          refine rF_X6_28 (q2 := 285) hK dX6_readsPier_106 kd_278 rfl ?_
          refine J_iconst hK dX6_readsPier_109 ci_3 ?_
          refine J_dup2 hK dX6_readsPier_110 rfl rfl ?_
          refine J_iald hK dX6_readsPier_111 kd_285 (fun _ => ?_)
          refine J_iconst hK dX6_readsPier_112 ci_1 ?_
          refine J_iadd hK dX6_readsPier_113 ?_
          refine J_iast hK dX6_readsPier_114 kd_285 (fun h21 => ?_)
          exact J_vret hK dX6_readsPier_115
    · refine J_iconst hK dX6_readsPier_43 ci_0 ?_
      refine J_imul hK dX6_readsPier_44 ?_
      refine J_iadd hK dX6_readsPier_45 ?_
      refine J_istoreV_n (n := 1) (lw := [(0, .ref (X.1 + 278))]) hK dX6_readsPier_46 rfl (by decide) rfl (fun z22 => ?_)
      refine J_aload_n hK dX6_readsPier_47 1 rfl ?_
      refine J_iconst hK dX6_readsPier_48 ci_0 ?_
      refine J_bipush hK dX6_readsPier_49 cb_98 ?_
      refine J_callVi (q := 278) (As := [.int (0 : Int32), .int (98 : Int32)]) (st := []) hK dX6_readsPier_51 kB_X6_115 kV_X6_figure kd_278 (by decide) rfl rfl (by decide) rfl rfl (Nat.le_of_ble_eq_true rfl) (fun _ _ hf => uX6_figure  hf) (fun v24 h23 => ?_)
      refine J_istore_n (n := 2) (lw := [(1, .int z22), (0, .ref (X.1 + 278))]) hK dX6_readsPier_54 rfl (by decide) rfl ?_
      refine J_aload_n hK dX6_readsPier_55 2 rfl ?_
      refine J_iconst hK dX6_readsPier_56 ci_1 ?_
      refine J_bipush hK dX6_readsPier_57 cb_20 ?_
      refine J_callVi (q := 278) (As := [.int (1 : Int32), .int (20 : Int32)]) (st := []) hK dX6_readsPier_59 kB_X6_121 kV_X6_follows kd_278 (by decide) rfl rfl (by decide) rfl rfl (Nat.le_of_ble_eq_true rfl) (fun _ _ hf => uX6_follows  hf) (fun v26 h25 => ?_)
      refine J_istore_n (n := 3) (lw := [(2, .int v24), (1, .int z22), (0, .ref (X.1 + 278))]) hK dX6_readsPier_62 rfl (by decide) rfl ?_
      refine J_aload_n hK dX6_readsPier_63 3 rfl ?_
      refine J_aload_n hK dX6_readsPier_64 3 rfl ?_
      refine gF_X6_95 hK dX6_readsPier_65 kd_278 ?_
      refine J_iconst hK dX6_readsPier_68 ci_4 ?_
      refine J_icmp_ne (tgt := 76) hK dX6_readsPier_69 (by decide) ?_ ?_
      · refine J_iconst hK dX6_readsPier_72 ci_1 ?_
        refine J_goto (len := 0) (tgt := 77) hK dX6_readsPier_73 (by decide) ?_
        refine J_iconst hK dX6_readsPier_77 ci_1 ?_
        refine J_callVi (q := 278) (As := [.int (1 : Int32), .int (1 : Int32)]) (st := []) hK dX6_readsPier_78 kB_X6_111 kV_X6_takes kd_278 (by decide) rfl rfl (by decide) rfl rfl (Nat.le_of_ble_eq_true rfl) (fun _ _ hf => uX6_takes  hf) (fun v28 h27 => ?_)
        refine J_pop hK dX6_readsPier_81 rfl ?_
        refine J_aload_n hK dX6_readsPier_82 3 rfl ?_
        refine J_callVi (q := 278) (As := []) (st := []) hK dX6_readsPier_83 kB_X6_101 kV_X6_isWell kd_278 (by decide) rfl rfl (by decide) rfl rfl (Nat.le_of_ble_eq_true rfl) (fun _ _ hf => uX6_isWell  hf) (fun v30 h29 => ?_)
        refine J_if_eq (tgt := 115) hK dX6_readsPier_86 (by decide) ?_ ?_
        · exact J_vret hK dX6_readsPier_115
        · refine J_aload_n hK dX6_readsPier_89 3 rfl ?_
          refine rF_X6_28 (q2 := 285) hK dX6_readsPier_90 kd_278 rfl ?_
          refine J_iload_n hK dX6_readsPier_93 2 rfl ?_
          refine J_iload_n hK dX6_readsPier_94 1 rfl ?_
          refine J_iast hK dX6_readsPier_95 kd_285 (fun h31 => ?_)
          refine J_aload_n hK dX6_readsPier_96 3 rfl ?_
          refine rF_X6_28 (q2 := 285) hK dX6_readsPier_97 kd_278 rfl ?_
          refine J_iload_n hK dX6_readsPier_100 2 rfl ?_
          refine J_iconst hK dX6_readsPier_101 ci_1 ?_
          refine J_iadd hK dX6_readsPier_102 ?_
          refine J_iload_n hK dX6_readsPier_103 0 rfl ?_
          refine J_iast hK dX6_readsPier_104 kd_285 (fun h32 => ?_)
          refine J_aload_n hK dX6_readsPier_105 3 rfl ?_
          refine rF_X6_28 (q2 := 285) hK dX6_readsPier_106 kd_278 rfl ?_
          refine J_iconst hK dX6_readsPier_109 ci_3 ?_
          refine J_dup2 hK dX6_readsPier_110 rfl rfl ?_
          refine J_iald hK dX6_readsPier_111 kd_285 (fun _ => ?_)
          refine J_iconst hK dX6_readsPier_112 ci_1 ?_
          refine J_iadd hK dX6_readsPier_113 ?_
          refine J_iast hK dX6_readsPier_114 kd_285 (fun h33 => ?_)
          exact J_vret hK dX6_readsPier_115
      · refine J_iconst hK dX6_readsPier_76 ci_0 ?_
        refine J_iconst hK dX6_readsPier_77 ci_1 ?_
        refine J_callVi (q := 278) (As := [.int (0 : Int32), .int (1 : Int32)]) (st := []) hK dX6_readsPier_78 kB_X6_111 kV_X6_takes kd_278 (by decide) rfl rfl (by decide) rfl rfl (Nat.le_of_ble_eq_true rfl) (fun _ _ hf => uX6_takes  hf) (fun v35 h34 => ?_)
        refine J_pop hK dX6_readsPier_81 rfl ?_
        refine J_aload_n hK dX6_readsPier_82 3 rfl ?_
        refine J_callVi (q := 278) (As := []) (st := []) hK dX6_readsPier_83 kB_X6_101 kV_X6_isWell kd_278 (by decide) rfl rfl (by decide) rfl rfl (Nat.le_of_ble_eq_true rfl) (fun _ _ hf => uX6_isWell  hf) (fun v37 h36 => ?_)
        refine J_if_eq (tgt := 115) hK dX6_readsPier_86 (by decide) ?_ ?_
        · exact J_vret hK dX6_readsPier_115
        · refine J_aload_n hK dX6_readsPier_89 3 rfl ?_
          refine rF_X6_28 (q2 := 285) hK dX6_readsPier_90 kd_278 rfl ?_
          refine J_iload_n hK dX6_readsPier_93 2 rfl ?_
          refine J_iload_n hK dX6_readsPier_94 1 rfl ?_
          refine J_iast hK dX6_readsPier_95 kd_285 (fun h38 => ?_)
          refine J_aload_n hK dX6_readsPier_96 3 rfl ?_
          refine rF_X6_28 (q2 := 285) hK dX6_readsPier_97 kd_278 rfl ?_
          refine J_iload_n hK dX6_readsPier_100 2 rfl ?_
          refine J_iconst hK dX6_readsPier_101 ci_1 ?_
          refine J_iadd hK dX6_readsPier_102 ?_
          refine J_iload_n hK dX6_readsPier_103 0 rfl ?_
          refine J_iast hK dX6_readsPier_104 kd_285 (fun h39 => ?_)
          refine J_aload_n hK dX6_readsPier_105 3 rfl ?_
          refine rF_X6_28 (q2 := 285) hK dX6_readsPier_106 kd_278 rfl ?_
          refine J_iconst hK dX6_readsPier_109 ci_3 ?_
          refine J_dup2 hK dX6_readsPier_110 rfl rfl ?_
          refine J_iald hK dX6_readsPier_111 kd_285 (fun _ => ?_)
          refine J_iconst hK dX6_readsPier_112 ci_1 ?_
          refine J_iadd hK dX6_readsPier_113 ?_
          refine J_iast hK dX6_readsPier_114 kd_285 (fun h40 => ?_)
          exact J_vret hK dX6_readsPier_115
  · refine J_iconst hK dX6_readsPier_15 ci_0 ?_
    refine J_iconst hK dX6_readsPier_16 ci_3 ?_
    refine J_callVi (q := 278) (As := [.int (0 : Int32), .int (3 : Int32)]) (st := []) hK dX6_readsPier_17 kB_X6_111 kV_X6_takes kd_278 (by decide) rfl rfl (by decide) rfl rfl (Nat.le_of_ble_eq_true rfl) (fun _ _ hf => uX6_takes  hf) (fun v42 h41 => ?_)
    refine J_pop hK dX6_readsPier_20 rfl ?_
    refine J_bipush hK dX6_readsPier_21 cb_35 ?_
    refine J_iconst hK dX6_readsPier_23 ci_2 ?_
    refine J_aload_n hK dX6_readsPier_24 0 rfl ?_
    refine rF_X6_28 (q2 := 285) hK dX6_readsPier_25 kd_278 rfl ?_
    refine J_iconst hK dX6_readsPier_28 ci_3 ?_
    refine J_iald hK dX6_readsPier_29 kd_285 (fun _ => ?_)
    refine J_iconst hK dX6_readsPier_30 ci_4 ?_
    refine J_icmp_ge (tgt := 43) hK dX6_readsPier_31 (by decide) ?_ ?_
    · refine J_aload_n hK dX6_readsPier_34 0 rfl ?_
      refine rF_X6_28 (q2 := 285) hK dX6_readsPier_35 kd_278 rfl ?_
      refine J_iconst hK dX6_readsPier_38 ci_3 ?_
      refine J_iald hK dX6_readsPier_39 kd_285 (fun _ => ?_)
      refine J_goto (len := 0) (tgt := 44) hK dX6_readsPier_40 (by decide) ?_
      refine J_imul hK dX6_readsPier_44 ?_
      refine J_iadd hK dX6_readsPier_45 ?_
      refine J_istoreV_n (n := 1) (lw := [(0, .ref (X.1 + 278))]) hK dX6_readsPier_46 rfl (by decide) rfl (fun z43 => ?_)
      refine J_aload_n hK dX6_readsPier_47 1 rfl ?_
      refine J_iconst hK dX6_readsPier_48 ci_0 ?_
      refine J_bipush hK dX6_readsPier_49 cb_98 ?_
      refine J_callVi (q := 278) (As := [.int (0 : Int32), .int (98 : Int32)]) (st := []) hK dX6_readsPier_51 kB_X6_115 kV_X6_figure kd_278 (by decide) rfl rfl (by decide) rfl rfl (Nat.le_of_ble_eq_true rfl) (fun _ _ hf => uX6_figure  hf) (fun v45 h44 => ?_)
      refine J_istore_n (n := 2) (lw := [(1, .int z43), (0, .ref (X.1 + 278))]) hK dX6_readsPier_54 rfl (by decide) rfl ?_
      refine J_aload_n hK dX6_readsPier_55 2 rfl ?_
      refine J_iconst hK dX6_readsPier_56 ci_1 ?_
      refine J_bipush hK dX6_readsPier_57 cb_20 ?_
      refine J_callVi (q := 278) (As := [.int (1 : Int32), .int (20 : Int32)]) (st := []) hK dX6_readsPier_59 kB_X6_121 kV_X6_follows kd_278 (by decide) rfl rfl (by decide) rfl rfl (Nat.le_of_ble_eq_true rfl) (fun _ _ hf => uX6_follows  hf) (fun v47 h46 => ?_)
      refine J_istore_n (n := 3) (lw := [(2, .int v45), (1, .int z43), (0, .ref (X.1 + 278))]) hK dX6_readsPier_62 rfl (by decide) rfl ?_
      refine J_aload_n hK dX6_readsPier_63 3 rfl ?_
      refine J_aload_n hK dX6_readsPier_64 3 rfl ?_
      refine gF_X6_95 hK dX6_readsPier_65 kd_278 ?_
      refine J_iconst hK dX6_readsPier_68 ci_4 ?_
      refine J_icmp_ne (tgt := 76) hK dX6_readsPier_69 (by decide) ?_ ?_
      · refine J_iconst hK dX6_readsPier_72 ci_1 ?_
        refine J_goto (len := 0) (tgt := 77) hK dX6_readsPier_73 (by decide) ?_
        refine J_iconst hK dX6_readsPier_77 ci_1 ?_
        refine J_callVi (q := 278) (As := [.int (1 : Int32), .int (1 : Int32)]) (st := []) hK dX6_readsPier_78 kB_X6_111 kV_X6_takes kd_278 (by decide) rfl rfl (by decide) rfl rfl (Nat.le_of_ble_eq_true rfl) (fun _ _ hf => uX6_takes  hf) (fun v49 h48 => ?_)
        refine J_pop hK dX6_readsPier_81 rfl ?_
        refine J_aload_n hK dX6_readsPier_82 3 rfl ?_
        refine J_callVi (q := 278) (As := []) (st := []) hK dX6_readsPier_83 kB_X6_101 kV_X6_isWell kd_278 (by decide) rfl rfl (by decide) rfl rfl (Nat.le_of_ble_eq_true rfl) (fun _ _ hf => uX6_isWell  hf) (fun v51 h50 => ?_)
        refine J_if_eq (tgt := 115) hK dX6_readsPier_86 (by decide) ?_ ?_
        · exact J_vret hK dX6_readsPier_115
        · refine J_aload_n hK dX6_readsPier_89 3 rfl ?_
          refine rF_X6_28 (q2 := 285) hK dX6_readsPier_90 kd_278 rfl ?_
          refine J_iload_n hK dX6_readsPier_93 2 rfl ?_
          refine J_iload_n hK dX6_readsPier_94 1 rfl ?_
          refine J_iast hK dX6_readsPier_95 kd_285 (fun h52 => ?_)
          refine J_aload_n hK dX6_readsPier_96 3 rfl ?_
          refine rF_X6_28 (q2 := 285) hK dX6_readsPier_97 kd_278 rfl ?_
          refine J_iload_n hK dX6_readsPier_100 2 rfl ?_
          refine J_iconst hK dX6_readsPier_101 ci_1 ?_
          refine J_iadd hK dX6_readsPier_102 ?_
          refine J_iload_n hK dX6_readsPier_103 0 rfl ?_
          refine J_iast hK dX6_readsPier_104 kd_285 (fun h53 => ?_)
          refine J_aload_n hK dX6_readsPier_105 3 rfl ?_
          refine rF_X6_28 (q2 := 285) hK dX6_readsPier_106 kd_278 rfl ?_
          refine J_iconst hK dX6_readsPier_109 ci_3 ?_
          refine J_dup2 hK dX6_readsPier_110 rfl rfl ?_
          refine J_iald hK dX6_readsPier_111 kd_285 (fun _ => ?_)
          refine J_iconst hK dX6_readsPier_112 ci_1 ?_
          refine J_iadd hK dX6_readsPier_113 ?_
          refine J_iast hK dX6_readsPier_114 kd_285 (fun h54 => ?_)
          exact J_vret hK dX6_readsPier_115
      · refine J_iconst hK dX6_readsPier_76 ci_0 ?_
        refine J_iconst hK dX6_readsPier_77 ci_1 ?_
        refine J_callVi (q := 278) (As := [.int (0 : Int32), .int (1 : Int32)]) (st := []) hK dX6_readsPier_78 kB_X6_111 kV_X6_takes kd_278 (by decide) rfl rfl (by decide) rfl rfl (Nat.le_of_ble_eq_true rfl) (fun _ _ hf => uX6_takes  hf) (fun v56 h55 => ?_)
        refine J_pop hK dX6_readsPier_81 rfl ?_
        refine J_aload_n hK dX6_readsPier_82 3 rfl ?_
        refine J_callVi (q := 278) (As := []) (st := []) hK dX6_readsPier_83 kB_X6_101 kV_X6_isWell kd_278 (by decide) rfl rfl (by decide) rfl rfl (Nat.le_of_ble_eq_true rfl) (fun _ _ hf => uX6_isWell  hf) (fun v58 h57 => ?_)
        refine J_if_eq (tgt := 115) hK dX6_readsPier_86 (by decide) ?_ ?_
        · exact J_vret hK dX6_readsPier_115
        · refine J_aload_n hK dX6_readsPier_89 3 rfl ?_
          refine rF_X6_28 (q2 := 285) hK dX6_readsPier_90 kd_278 rfl ?_
          refine J_iload_n hK dX6_readsPier_93 2 rfl ?_
          refine J_iload_n hK dX6_readsPier_94 1 rfl ?_
          refine J_iast hK dX6_readsPier_95 kd_285 (fun h59 => ?_)
          refine J_aload_n hK dX6_readsPier_96 3 rfl ?_
          refine rF_X6_28 (q2 := 285) hK dX6_readsPier_97 kd_278 rfl ?_
          refine J_iload_n hK dX6_readsPier_100 2 rfl ?_
          refine J_iconst hK dX6_readsPier_101 ci_1 ?_
          refine J_iadd hK dX6_readsPier_102 ?_
          refine J_iload_n hK dX6_readsPier_103 0 rfl ?_
          refine J_iast hK dX6_readsPier_104 kd_285 (fun h60 => ?_)
          refine J_aload_n hK dX6_readsPier_105 3 rfl ?_
          refine rF_X6_28 (q2 := 285) hK dX6_readsPier_106 kd_278 rfl ?_
          refine J_iconst hK dX6_readsPier_109 ci_3 ?_
          refine J_dup2 hK dX6_readsPier_110 rfl rfl ?_
          refine J_iald hK dX6_readsPier_111 kd_285 (fun _ => ?_)
          refine J_iconst hK dX6_readsPier_112 ci_1 ?_
          refine J_iadd hK dX6_readsPier_113 ?_
          refine J_iast hK dX6_readsPier_114 kd_285 (fun h61 => ?_)
          exact J_vret hK dX6_readsPier_115
    · refine J_iconst hK dX6_readsPier_43 ci_0 ?_
      refine J_imul hK dX6_readsPier_44 ?_
      refine J_iadd hK dX6_readsPier_45 ?_
      refine J_istoreV_n (n := 1) (lw := [(0, .ref (X.1 + 278))]) hK dX6_readsPier_46 rfl (by decide) rfl (fun z62 => ?_)
      refine J_aload_n hK dX6_readsPier_47 1 rfl ?_
      refine J_iconst hK dX6_readsPier_48 ci_0 ?_
      refine J_bipush hK dX6_readsPier_49 cb_98 ?_
      refine J_callVi (q := 278) (As := [.int (0 : Int32), .int (98 : Int32)]) (st := []) hK dX6_readsPier_51 kB_X6_115 kV_X6_figure kd_278 (by decide) rfl rfl (by decide) rfl rfl (Nat.le_of_ble_eq_true rfl) (fun _ _ hf => uX6_figure  hf) (fun v64 h63 => ?_)
      refine J_istore_n (n := 2) (lw := [(1, .int z62), (0, .ref (X.1 + 278))]) hK dX6_readsPier_54 rfl (by decide) rfl ?_
      refine J_aload_n hK dX6_readsPier_55 2 rfl ?_
      refine J_iconst hK dX6_readsPier_56 ci_1 ?_
      refine J_bipush hK dX6_readsPier_57 cb_20 ?_
      refine J_callVi (q := 278) (As := [.int (1 : Int32), .int (20 : Int32)]) (st := []) hK dX6_readsPier_59 kB_X6_121 kV_X6_follows kd_278 (by decide) rfl rfl (by decide) rfl rfl (Nat.le_of_ble_eq_true rfl) (fun _ _ hf => uX6_follows  hf) (fun v66 h65 => ?_)
      refine J_istore_n (n := 3) (lw := [(2, .int v64), (1, .int z62), (0, .ref (X.1 + 278))]) hK dX6_readsPier_62 rfl (by decide) rfl ?_
      refine J_aload_n hK dX6_readsPier_63 3 rfl ?_
      refine J_aload_n hK dX6_readsPier_64 3 rfl ?_
      refine gF_X6_95 hK dX6_readsPier_65 kd_278 ?_
      refine J_iconst hK dX6_readsPier_68 ci_4 ?_
      refine J_icmp_ne (tgt := 76) hK dX6_readsPier_69 (by decide) ?_ ?_
      · refine J_iconst hK dX6_readsPier_72 ci_1 ?_
        refine J_goto (len := 0) (tgt := 77) hK dX6_readsPier_73 (by decide) ?_
        refine J_iconst hK dX6_readsPier_77 ci_1 ?_
        refine J_callVi (q := 278) (As := [.int (1 : Int32), .int (1 : Int32)]) (st := []) hK dX6_readsPier_78 kB_X6_111 kV_X6_takes kd_278 (by decide) rfl rfl (by decide) rfl rfl (Nat.le_of_ble_eq_true rfl) (fun _ _ hf => uX6_takes  hf) (fun v68 h67 => ?_)
        refine J_pop hK dX6_readsPier_81 rfl ?_
        refine J_aload_n hK dX6_readsPier_82 3 rfl ?_
        refine J_callVi (q := 278) (As := []) (st := []) hK dX6_readsPier_83 kB_X6_101 kV_X6_isWell kd_278 (by decide) rfl rfl (by decide) rfl rfl (Nat.le_of_ble_eq_true rfl) (fun _ _ hf => uX6_isWell  hf) (fun v70 h69 => ?_)
        refine J_if_eq (tgt := 115) hK dX6_readsPier_86 (by decide) ?_ ?_
        · exact J_vret hK dX6_readsPier_115
        · refine J_aload_n hK dX6_readsPier_89 3 rfl ?_
          refine rF_X6_28 (q2 := 285) hK dX6_readsPier_90 kd_278 rfl ?_
          refine J_iload_n hK dX6_readsPier_93 2 rfl ?_
          refine J_iload_n hK dX6_readsPier_94 1 rfl ?_
          refine J_iast hK dX6_readsPier_95 kd_285 (fun h71 => ?_)
          refine J_aload_n hK dX6_readsPier_96 3 rfl ?_
          refine rF_X6_28 (q2 := 285) hK dX6_readsPier_97 kd_278 rfl ?_
          refine J_iload_n hK dX6_readsPier_100 2 rfl ?_
          refine J_iconst hK dX6_readsPier_101 ci_1 ?_
          refine J_iadd hK dX6_readsPier_102 ?_
          refine J_iload_n hK dX6_readsPier_103 0 rfl ?_
          refine J_iast hK dX6_readsPier_104 kd_285 (fun h72 => ?_)
          refine J_aload_n hK dX6_readsPier_105 3 rfl ?_
          refine rF_X6_28 (q2 := 285) hK dX6_readsPier_106 kd_278 rfl ?_
          refine J_iconst hK dX6_readsPier_109 ci_3 ?_
          refine J_dup2 hK dX6_readsPier_110 rfl rfl ?_
          refine J_iald hK dX6_readsPier_111 kd_285 (fun _ => ?_)
          refine J_iconst hK dX6_readsPier_112 ci_1 ?_
          refine J_iadd hK dX6_readsPier_113 ?_
          refine J_iast hK dX6_readsPier_114 kd_285 (fun h73 => ?_)
          exact J_vret hK dX6_readsPier_115
      · refine J_iconst hK dX6_readsPier_76 ci_0 ?_
        refine J_iconst hK dX6_readsPier_77 ci_1 ?_
        refine J_callVi (q := 278) (As := [.int (0 : Int32), .int (1 : Int32)]) (st := []) hK dX6_readsPier_78 kB_X6_111 kV_X6_takes kd_278 (by decide) rfl rfl (by decide) rfl rfl (Nat.le_of_ble_eq_true rfl) (fun _ _ hf => uX6_takes  hf) (fun v75 h74 => ?_)
        refine J_pop hK dX6_readsPier_81 rfl ?_
        refine J_aload_n hK dX6_readsPier_82 3 rfl ?_
        refine J_callVi (q := 278) (As := []) (st := []) hK dX6_readsPier_83 kB_X6_101 kV_X6_isWell kd_278 (by decide) rfl rfl (by decide) rfl rfl (Nat.le_of_ble_eq_true rfl) (fun _ _ hf => uX6_isWell  hf) (fun v77 h76 => ?_)
        refine J_if_eq (tgt := 115) hK dX6_readsPier_86 (by decide) ?_ ?_
        · exact J_vret hK dX6_readsPier_115
        · refine J_aload_n hK dX6_readsPier_89 3 rfl ?_
          refine rF_X6_28 (q2 := 285) hK dX6_readsPier_90 kd_278 rfl ?_
          refine J_iload_n hK dX6_readsPier_93 2 rfl ?_
          refine J_iload_n hK dX6_readsPier_94 1 rfl ?_
          refine J_iast hK dX6_readsPier_95 kd_285 (fun h78 => ?_)
          refine J_aload_n hK dX6_readsPier_96 3 rfl ?_
          refine rF_X6_28 (q2 := 285) hK dX6_readsPier_97 kd_278 rfl ?_
          refine J_iload_n hK dX6_readsPier_100 2 rfl ?_
          refine J_iconst hK dX6_readsPier_101 ci_1 ?_
          refine J_iadd hK dX6_readsPier_102 ?_
          refine J_iload_n hK dX6_readsPier_103 0 rfl ?_
          refine J_iast hK dX6_readsPier_104 kd_285 (fun h79 => ?_)
          refine J_aload_n hK dX6_readsPier_105 3 rfl ?_
          refine rF_X6_28 (q2 := 285) hK dX6_readsPier_106 kd_278 rfl ?_
          refine J_iconst hK dX6_readsPier_109 ci_3 ?_
          refine J_dup2 hK dX6_readsPier_110 rfl rfl ?_
          refine J_iald hK dX6_readsPier_111 kd_285 (fun _ => ?_)
          refine J_iconst hK dX6_readsPier_112 ci_1 ?_
          refine J_iadd hK dX6_readsPier_113 ?_
          refine J_iast hK dX6_readsPier_114 kd_285 (fun h80 => ?_)
          exact J_vret hK dX6_readsPier_115
-- X6_readsTug
theorem dX6_readsTug_0 : DD cX6_readsTug 0 (.aload_n 0) 1 1 := by decide +kernel
theorem dX6_readsTug_1 : DD cX6_readsTug 1 (.getfield 92) 3 4 := by decide +kernel
theorem dX6_readsTug_4 : DD cX6_readsTug 4 (.invokestatic 118) 3 7 := by decide +kernel
theorem dX6_readsTug_7 : DD cX6_readsTug 7 (.istore_n 1) 1 8 := by decide +kernel
theorem dX6_readsTug_8 : DD cX6_readsTug 8 (.aload_n 0) 1 9 := by decide +kernel
theorem dX6_readsTug_9 : DD cX6_readsTug 9 (.aload_n 0) 1 10 := by decide +kernel
theorem dX6_readsTug_10 : DD cX6_readsTug 10 (.getfield 28) 3 13 := by decide +kernel
theorem dX6_readsTug_13 : DD cX6_readsTug 13 (.iconst 2) 1 14 := by decide +kernel
theorem dX6_readsTug_14 : DD cX6_readsTug 14 (.iaload) 1 15 := by decide +kernel
theorem dX6_readsTug_15 : DD cX6_readsTug 15 (.bipush 6) 2 17 := by decide +kernel
theorem dX6_readsTug_17 : DD cX6_readsTug 17 (.if_icmp .ge 7) 3 20 := by decide +kernel
theorem dX6_readsTug_20 : DD cX6_readsTug 20 (.iconst 1) 1 21 := by decide +kernel
theorem dX6_readsTug_21 : DD cX6_readsTug 21 (.goto 4) 3 24 := by decide +kernel
theorem dX6_readsTug_24 : DD cX6_readsTug 24 (.iconst 0) 1 25 := by decide +kernel
theorem dX6_readsTug_25 : DD cX6_readsTug 25 (.iconst 3) 1 26 := by decide +kernel
theorem dX6_readsTug_26 : DD cX6_readsTug 26 (.invokevirtual 111) 3 29 := by decide +kernel
theorem dX6_readsTug_29 : DD cX6_readsTug 29 (.pop) 1 30 := by decide +kernel
theorem dX6_readsTug_30 : DD cX6_readsTug 30 (.iconst 5) 1 31 := by decide +kernel
theorem dX6_readsTug_31 : DD cX6_readsTug 31 (.iconst 5) 1 32 := by decide +kernel
theorem dX6_readsTug_32 : DD cX6_readsTug 32 (.aload_n 0) 1 33 := by decide +kernel
theorem dX6_readsTug_33 : DD cX6_readsTug 33 (.getfield 28) 3 36 := by decide +kernel
theorem dX6_readsTug_36 : DD cX6_readsTug 36 (.iconst 2) 1 37 := by decide +kernel
theorem dX6_readsTug_37 : DD cX6_readsTug 37 (.iaload) 1 38 := by decide +kernel
theorem dX6_readsTug_38 : DD cX6_readsTug 38 (.bipush 6) 2 40 := by decide +kernel
theorem dX6_readsTug_40 : DD cX6_readsTug 40 (.if_icmp .ge 12) 3 43 := by decide +kernel
theorem dX6_readsTug_43 : DD cX6_readsTug 43 (.aload_n 0) 1 44 := by decide +kernel
theorem dX6_readsTug_44 : DD cX6_readsTug 44 (.getfield 28) 3 47 := by decide +kernel
theorem dX6_readsTug_47 : DD cX6_readsTug 47 (.iconst 2) 1 48 := by decide +kernel
theorem dX6_readsTug_48 : DD cX6_readsTug 48 (.iaload) 1 49 := by decide +kernel
theorem dX6_readsTug_49 : DD cX6_readsTug 49 (.goto 4) 3 52 := by decide +kernel
theorem dX6_readsTug_52 : DD cX6_readsTug 52 (.iconst 0) 1 53 := by decide +kernel
theorem dX6_readsTug_53 : DD cX6_readsTug 53 (.imul) 1 54 := by decide +kernel
theorem dX6_readsTug_54 : DD cX6_readsTug 54 (.iadd) 1 55 := by decide +kernel
theorem dX6_readsTug_55 : DD cX6_readsTug 55 (.istore_n 2) 1 56 := by decide +kernel
theorem dX6_readsTug_56 : DD cX6_readsTug 56 (.aload_n 0) 1 57 := by decide +kernel
theorem dX6_readsTug_57 : DD cX6_readsTug 57 (.iconst 1) 1 58 := by decide +kernel
theorem dX6_readsTug_58 : DD cX6_readsTug 58 (.bipush 20) 2 60 := by decide +kernel
theorem dX6_readsTug_60 : DD cX6_readsTug 60 (.invokevirtual 115) 3 63 := by decide +kernel
theorem dX6_readsTug_63 : DD cX6_readsTug 63 (.istore_n 3) 1 64 := by decide +kernel
theorem dX6_readsTug_64 : DD cX6_readsTug 64 (.aload_n 0) 1 65 := by decide +kernel
theorem dX6_readsTug_65 : DD cX6_readsTug 65 (.iconst 1) 1 66 := by decide +kernel
theorem dX6_readsTug_66 : DD cX6_readsTug 66 (.bipush 20) 2 68 := by decide +kernel
theorem dX6_readsTug_68 : DD cX6_readsTug 68 (.invokevirtual 121) 3 71 := by decide +kernel
theorem dX6_readsTug_71 : DD cX6_readsTug 71 (.istore 4) 2 73 := by decide +kernel
theorem dX6_readsTug_73 : DD cX6_readsTug 73 (.aload_n 0) 1 74 := by decide +kernel
theorem dX6_readsTug_74 : DD cX6_readsTug 74 (.aload_n 0) 1 75 := by decide +kernel
theorem dX6_readsTug_75 : DD cX6_readsTug 75 (.getfield 95) 3 78 := by decide +kernel
theorem dX6_readsTug_78 : DD cX6_readsTug 78 (.iconst 4) 1 79 := by decide +kernel
theorem dX6_readsTug_79 : DD cX6_readsTug 79 (.if_icmp .ne 7) 3 82 := by decide +kernel
theorem dX6_readsTug_82 : DD cX6_readsTug 82 (.iconst 1) 1 83 := by decide +kernel
theorem dX6_readsTug_83 : DD cX6_readsTug 83 (.goto 4) 3 86 := by decide +kernel
theorem dX6_readsTug_86 : DD cX6_readsTug 86 (.iconst 0) 1 87 := by decide +kernel
theorem dX6_readsTug_87 : DD cX6_readsTug 87 (.iconst 1) 1 88 := by decide +kernel
theorem dX6_readsTug_88 : DD cX6_readsTug 88 (.invokevirtual 111) 3 91 := by decide +kernel
theorem dX6_readsTug_91 : DD cX6_readsTug 91 (.pop) 1 92 := by decide +kernel
theorem dX6_readsTug_92 : DD cX6_readsTug 92 (.aload_n 0) 1 93 := by decide +kernel
theorem dX6_readsTug_93 : DD cX6_readsTug 93 (.invokevirtual 101) 3 96 := by decide +kernel
theorem dX6_readsTug_96 : DD cX6_readsTug 96 (.ifCond .eq 48) 3 99 := by decide +kernel
theorem dX6_readsTug_99 : DD cX6_readsTug 99 (.aload_n 0) 1 100 := by decide +kernel
theorem dX6_readsTug_100 : DD cX6_readsTug 100 (.getfield 28) 3 103 := by decide +kernel
theorem dX6_readsTug_103 : DD cX6_readsTug 103 (.iload_n 2) 1 104 := by decide +kernel
theorem dX6_readsTug_104 : DD cX6_readsTug 104 (.iload_n 1) 1 105 := by decide +kernel
theorem dX6_readsTug_105 : DD cX6_readsTug 105 (.iastore) 1 106 := by decide +kernel
theorem dX6_readsTug_106 : DD cX6_readsTug 106 (.aload_n 0) 1 107 := by decide +kernel
theorem dX6_readsTug_107 : DD cX6_readsTug 107 (.getfield 28) 3 110 := by decide +kernel
theorem dX6_readsTug_110 : DD cX6_readsTug 110 (.iload_n 2) 1 111 := by decide +kernel
theorem dX6_readsTug_111 : DD cX6_readsTug 111 (.iconst 1) 1 112 := by decide +kernel
theorem dX6_readsTug_112 : DD cX6_readsTug 112 (.iadd) 1 113 := by decide +kernel
theorem dX6_readsTug_113 : DD cX6_readsTug 113 (.iload_n 3) 1 114 := by decide +kernel
theorem dX6_readsTug_114 : DD cX6_readsTug 114 (.iastore) 1 115 := by decide +kernel
theorem dX6_readsTug_115 : DD cX6_readsTug 115 (.aload_n 0) 1 116 := by decide +kernel
theorem dX6_readsTug_116 : DD cX6_readsTug 116 (.getfield 28) 3 119 := by decide +kernel
theorem dX6_readsTug_119 : DD cX6_readsTug 119 (.iload_n 2) 1 120 := by decide +kernel
theorem dX6_readsTug_120 : DD cX6_readsTug 120 (.iconst 2) 1 121 := by decide +kernel
theorem dX6_readsTug_121 : DD cX6_readsTug 121 (.iadd) 1 122 := by decide +kernel
theorem dX6_readsTug_122 : DD cX6_readsTug 122 (.iload 4) 2 124 := by decide +kernel
theorem dX6_readsTug_124 : DD cX6_readsTug 124 (.iastore) 1 125 := by decide +kernel
theorem dX6_readsTug_125 : DD cX6_readsTug 125 (.aload_n 0) 1 126 := by decide +kernel
theorem dX6_readsTug_126 : DD cX6_readsTug 126 (.getfield 28) 3 129 := by decide +kernel
theorem dX6_readsTug_129 : DD cX6_readsTug 129 (.iload_n 2) 1 130 := by decide +kernel
theorem dX6_readsTug_130 : DD cX6_readsTug 130 (.iconst 4) 1 131 := by decide +kernel
theorem dX6_readsTug_131 : DD cX6_readsTug 131 (.iadd) 1 132 := by decide +kernel
theorem dX6_readsTug_132 : DD cX6_readsTug 132 (.iconst 1) 1 133 := by decide +kernel
theorem dX6_readsTug_133 : DD cX6_readsTug 133 (.iastore) 1 134 := by decide +kernel
theorem dX6_readsTug_134 : DD cX6_readsTug 134 (.aload_n 0) 1 135 := by decide +kernel
theorem dX6_readsTug_135 : DD cX6_readsTug 135 (.getfield 28) 3 138 := by decide +kernel
theorem dX6_readsTug_138 : DD cX6_readsTug 138 (.iconst 2) 1 139 := by decide +kernel
theorem dX6_readsTug_139 : DD cX6_readsTug 139 (.dup2) 1 140 := by decide +kernel
theorem dX6_readsTug_140 : DD cX6_readsTug 140 (.iaload) 1 141 := by decide +kernel
theorem dX6_readsTug_141 : DD cX6_readsTug 141 (.iconst 1) 1 142 := by decide +kernel
theorem dX6_readsTug_142 : DD cX6_readsTug 142 (.iadd) 1 143 := by decide +kernel
theorem dX6_readsTug_143 : DD cX6_readsTug 143 (.iastore) 1 144 := by decide +kernel
theorem dX6_readsTug_144 : DD cX6_readsTug 144 (.return_) 1 145 := by decide +kernel
def fX6_readsTug (h : AH) : Option (Unit × AH) := (bnd (fX6_kindOf (h 278 12) h) fun v2 h1 => (chk (inb (2 : Int32) (ln 285)) (if (h1 285 (Int32.toNatClampNeg (2 : Int32))) < (6 : Int32) then (bnd (fX6_takes (1 : Int32) (3 : Int32) h1) fun v4 h3 => (chk (inb (2 : Int32) (ln 285)) (if (h3 285 (Int32.toNatClampNeg (2 : Int32))) < (6 : Int32) then (chk (inb (2 : Int32) (ln 285)) (vl ((5 : Int32) + ((5 : Int32) * (h3 285 (Int32.toNatClampNeg (2 : Int32))))) fun z5 => (bnd (fX6_figure (1 : Int32) (20 : Int32) h3) fun v7 h6 => (bnd (fX6_follows (1 : Int32) (20 : Int32) h6) fun v9 h8 => (if (h8 278 11) = (4 : Int32) then (bnd (fX6_takes (1 : Int32) (1 : Int32) h8) fun v11 h10 => (bnd (fX6_isWell  h10) fun v13 h12 => (if v13 = 0 then (some ((), h12)) else (chk (inb z5 (ln 285)) (sto (hs h12 285 (Int32.toNatClampNeg z5) v2) fun h14 => (chk (inb (z5 + (1 : Int32)) (ln 285)) (sto (hs h14 285 (Int32.toNatClampNeg (z5 + (1 : Int32))) v7) fun h15 => (chk (inb (z5 + (2 : Int32)) (ln 285)) (sto (hs h15 285 (Int32.toNatClampNeg (z5 + (2 : Int32))) v9) fun h16 => (chk (inb (z5 + (4 : Int32)) (ln 285)) (sto (hs h16 285 (Int32.toNatClampNeg (z5 + (4 : Int32))) (1 : Int32)) fun h17 => (chk (inb (2 : Int32) (ln 285)) (chk (inb (2 : Int32) (ln 285)) (sto (hs h17 285 (Int32.toNatClampNeg (2 : Int32)) ((h17 285 (Int32.toNatClampNeg (2 : Int32))) + (1 : Int32))) fun h18 => (some ((), h18)))))))))))))))) else (bnd (fX6_takes (0 : Int32) (1 : Int32) h8) fun v20 h19 => (bnd (fX6_isWell  h19) fun v22 h21 => (if v22 = 0 then (some ((), h21)) else (chk (inb z5 (ln 285)) (sto (hs h21 285 (Int32.toNatClampNeg z5) v2) fun h23 => (chk (inb (z5 + (1 : Int32)) (ln 285)) (sto (hs h23 285 (Int32.toNatClampNeg (z5 + (1 : Int32))) v7) fun h24 => (chk (inb (z5 + (2 : Int32)) (ln 285)) (sto (hs h24 285 (Int32.toNatClampNeg (z5 + (2 : Int32))) v9) fun h25 => (chk (inb (z5 + (4 : Int32)) (ln 285)) (sto (hs h25 285 (Int32.toNatClampNeg (z5 + (4 : Int32))) (1 : Int32)) fun h26 => (chk (inb (2 : Int32) (ln 285)) (chk (inb (2 : Int32) (ln 285)) (sto (hs h26 285 (Int32.toNatClampNeg (2 : Int32)) ((h26 285 (Int32.toNatClampNeg (2 : Int32))) + (1 : Int32))) fun h27 => (some ((), h27))))))))))))))))))))) else (vl ((5 : Int32) + ((5 : Int32) * (0 : Int32))) fun z28 => (bnd (fX6_figure (1 : Int32) (20 : Int32) h3) fun v30 h29 => (bnd (fX6_follows (1 : Int32) (20 : Int32) h29) fun v32 h31 => (if (h31 278 11) = (4 : Int32) then (bnd (fX6_takes (1 : Int32) (1 : Int32) h31) fun v34 h33 => (bnd (fX6_isWell  h33) fun v36 h35 => (if v36 = 0 then (some ((), h35)) else (chk (inb z28 (ln 285)) (sto (hs h35 285 (Int32.toNatClampNeg z28) v2) fun h37 => (chk (inb (z28 + (1 : Int32)) (ln 285)) (sto (hs h37 285 (Int32.toNatClampNeg (z28 + (1 : Int32))) v30) fun h38 => (chk (inb (z28 + (2 : Int32)) (ln 285)) (sto (hs h38 285 (Int32.toNatClampNeg (z28 + (2 : Int32))) v32) fun h39 => (chk (inb (z28 + (4 : Int32)) (ln 285)) (sto (hs h39 285 (Int32.toNatClampNeg (z28 + (4 : Int32))) (1 : Int32)) fun h40 => (chk (inb (2 : Int32) (ln 285)) (chk (inb (2 : Int32) (ln 285)) (sto (hs h40 285 (Int32.toNatClampNeg (2 : Int32)) ((h40 285 (Int32.toNatClampNeg (2 : Int32))) + (1 : Int32))) fun h41 => (some ((), h41)))))))))))))))) else (bnd (fX6_takes (0 : Int32) (1 : Int32) h31) fun v43 h42 => (bnd (fX6_isWell  h42) fun v45 h44 => (if v45 = 0 then (some ((), h44)) else (chk (inb z28 (ln 285)) (sto (hs h44 285 (Int32.toNatClampNeg z28) v2) fun h46 => (chk (inb (z28 + (1 : Int32)) (ln 285)) (sto (hs h46 285 (Int32.toNatClampNeg (z28 + (1 : Int32))) v30) fun h47 => (chk (inb (z28 + (2 : Int32)) (ln 285)) (sto (hs h47 285 (Int32.toNatClampNeg (z28 + (2 : Int32))) v32) fun h48 => (chk (inb (z28 + (4 : Int32)) (ln 285)) (sto (hs h48 285 (Int32.toNatClampNeg (z28 + (4 : Int32))) (1 : Int32)) fun h49 => (chk (inb (2 : Int32) (ln 285)) (chk (inb (2 : Int32) (ln 285)) (sto (hs h49 285 (Int32.toNatClampNeg (2 : Int32)) ((h49 285 (Int32.toNatClampNeg (2 : Int32))) + (1 : Int32))) fun h50 => (some ((), h50))))))))))))))))))))))) else (bnd (fX6_takes (0 : Int32) (3 : Int32) h1) fun v52 h51 => (chk (inb (2 : Int32) (ln 285)) (if (h51 285 (Int32.toNatClampNeg (2 : Int32))) < (6 : Int32) then (chk (inb (2 : Int32) (ln 285)) (vl ((5 : Int32) + ((5 : Int32) * (h51 285 (Int32.toNatClampNeg (2 : Int32))))) fun z53 => (bnd (fX6_figure (1 : Int32) (20 : Int32) h51) fun v55 h54 => (bnd (fX6_follows (1 : Int32) (20 : Int32) h54) fun v57 h56 => (if (h56 278 11) = (4 : Int32) then (bnd (fX6_takes (1 : Int32) (1 : Int32) h56) fun v59 h58 => (bnd (fX6_isWell  h58) fun v61 h60 => (if v61 = 0 then (some ((), h60)) else (chk (inb z53 (ln 285)) (sto (hs h60 285 (Int32.toNatClampNeg z53) v2) fun h62 => (chk (inb (z53 + (1 : Int32)) (ln 285)) (sto (hs h62 285 (Int32.toNatClampNeg (z53 + (1 : Int32))) v55) fun h63 => (chk (inb (z53 + (2 : Int32)) (ln 285)) (sto (hs h63 285 (Int32.toNatClampNeg (z53 + (2 : Int32))) v57) fun h64 => (chk (inb (z53 + (4 : Int32)) (ln 285)) (sto (hs h64 285 (Int32.toNatClampNeg (z53 + (4 : Int32))) (1 : Int32)) fun h65 => (chk (inb (2 : Int32) (ln 285)) (chk (inb (2 : Int32) (ln 285)) (sto (hs h65 285 (Int32.toNatClampNeg (2 : Int32)) ((h65 285 (Int32.toNatClampNeg (2 : Int32))) + (1 : Int32))) fun h66 => (some ((), h66)))))))))))))))) else (bnd (fX6_takes (0 : Int32) (1 : Int32) h56) fun v68 h67 => (bnd (fX6_isWell  h67) fun v70 h69 => (if v70 = 0 then (some ((), h69)) else (chk (inb z53 (ln 285)) (sto (hs h69 285 (Int32.toNatClampNeg z53) v2) fun h71 => (chk (inb (z53 + (1 : Int32)) (ln 285)) (sto (hs h71 285 (Int32.toNatClampNeg (z53 + (1 : Int32))) v55) fun h72 => (chk (inb (z53 + (2 : Int32)) (ln 285)) (sto (hs h72 285 (Int32.toNatClampNeg (z53 + (2 : Int32))) v57) fun h73 => (chk (inb (z53 + (4 : Int32)) (ln 285)) (sto (hs h73 285 (Int32.toNatClampNeg (z53 + (4 : Int32))) (1 : Int32)) fun h74 => (chk (inb (2 : Int32) (ln 285)) (chk (inb (2 : Int32) (ln 285)) (sto (hs h74 285 (Int32.toNatClampNeg (2 : Int32)) ((h74 285 (Int32.toNatClampNeg (2 : Int32))) + (1 : Int32))) fun h75 => (some ((), h75))))))))))))))))))))) else (vl ((5 : Int32) + ((5 : Int32) * (0 : Int32))) fun z76 => (bnd (fX6_figure (1 : Int32) (20 : Int32) h51) fun v78 h77 => (bnd (fX6_follows (1 : Int32) (20 : Int32) h77) fun v80 h79 => (if (h79 278 11) = (4 : Int32) then (bnd (fX6_takes (1 : Int32) (1 : Int32) h79) fun v82 h81 => (bnd (fX6_isWell  h81) fun v84 h83 => (if v84 = 0 then (some ((), h83)) else (chk (inb z76 (ln 285)) (sto (hs h83 285 (Int32.toNatClampNeg z76) v2) fun h85 => (chk (inb (z76 + (1 : Int32)) (ln 285)) (sto (hs h85 285 (Int32.toNatClampNeg (z76 + (1 : Int32))) v78) fun h86 => (chk (inb (z76 + (2 : Int32)) (ln 285)) (sto (hs h86 285 (Int32.toNatClampNeg (z76 + (2 : Int32))) v80) fun h87 => (chk (inb (z76 + (4 : Int32)) (ln 285)) (sto (hs h87 285 (Int32.toNatClampNeg (z76 + (4 : Int32))) (1 : Int32)) fun h88 => (chk (inb (2 : Int32) (ln 285)) (chk (inb (2 : Int32) (ln 285)) (sto (hs h88 285 (Int32.toNatClampNeg (2 : Int32)) ((h88 285 (Int32.toNatClampNeg (2 : Int32))) + (1 : Int32))) fun h89 => (some ((), h89)))))))))))))))) else (bnd (fX6_takes (0 : Int32) (1 : Int32) h79) fun v91 h90 => (bnd (fX6_isWell  h90) fun v93 h92 => (if v93 = 0 then (some ((), h92)) else (chk (inb z76 (ln 285)) (sto (hs h92 285 (Int32.toNatClampNeg z76) v2) fun h94 => (chk (inb (z76 + (1 : Int32)) (ln 285)) (sto (hs h94 285 (Int32.toNatClampNeg (z76 + (1 : Int32))) v78) fun h95 => (chk (inb (z76 + (2 : Int32)) (ln 285)) (sto (hs h95 285 (Int32.toNatClampNeg (z76 + (2 : Int32))) v80) fun h96 => (chk (inb (z76 + (4 : Int32)) (ln 285)) (sto (hs h96 285 (Int32.toNatClampNeg (z76 + (4 : Int32))) (1 : Int32)) fun h97 => (chk (inb (2 : Int32) (ln 285)) (chk (inb (2 : Int32) (ln 285)) (sto (hs h97 285 (Int32.toNatClampNeg (2 : Int32)) ((h97 285 (Int32.toNatClampNeg (2 : Int32))) + (1 : Int32))) fun h98 => (some ((), h98))))))))))))))))))))))))))
set_option maxHeartbeats 4000000 in
set_option maxRecDepth 4000 in
theorem uX6_readsTug {l : Launch} {X : WX} {h h' : AH} {v : Unit} (hf : fX6_readsTug  h = some (v, h')) : Does l X 6 yX6_readsTug cX6_readsTug 5 none [.ref (X.1 + 278)] h (eV v) h' := by
  refine Does.of (enc := eV) (o := fX6_readsTug  h) (lv := [(0, .ref (X.1 + 278))]) (by decide) (Nat.le_of_ble_eq_true rfl) rfl hf (fun K hl hK => ?_)
  subst hl
  unfold fX6_readsTug
  refine J_aload_n hK dX6_readsTug_0 0 rfl ?_
  refine gF_X6_92 hK dX6_readsTug_1 kd_278 ?_
  refine J_callSi (As := [.int (h 278 12)]) (st := []) hK dX6_readsTug_4 kB_X6_118 kS_X6_kindOf (by decide) rfl rfl (Nat.le_of_ble_eq_true rfl) (fun _ _ hf => uX6_kindOf  hf) (fun v2 h1 => ?_)
  refine J_istore_n (n := 1) (lw := [(0, .ref (X.1 + 278))]) hK dX6_readsTug_7 rfl (by decide) rfl ?_
  refine J_aload_n hK dX6_readsTug_8 1 rfl ?_
  refine J_aload_n hK dX6_readsTug_9 1 rfl ?_
  refine rF_X6_28 (q2 := 285) hK dX6_readsTug_10 kd_278 rfl ?_
  refine J_iconst hK dX6_readsTug_13 ci_2 ?_
  refine J_iald hK dX6_readsTug_14 kd_285 (fun _ => ?_)
  refine J_bipush hK dX6_readsTug_15 cb_6 ?_
  refine J_icmp_ge (tgt := 24) hK dX6_readsTug_17 (by decide) ?_ ?_
  · refine J_iconst hK dX6_readsTug_20 ci_1 ?_
    refine J_goto (len := 0) (tgt := 25) hK dX6_readsTug_21 (by decide) ?_
    refine J_iconst hK dX6_readsTug_25 ci_3 ?_
    refine J_callVi (q := 278) (As := [.int (1 : Int32), .int (3 : Int32)]) (st := []) hK dX6_readsTug_26 kB_X6_111 kV_X6_takes kd_278 (by decide) rfl rfl (by decide) rfl rfl (Nat.le_of_ble_eq_true rfl) (fun _ _ hf => uX6_takes  hf) (fun v4 h3 => ?_)
    refine J_pop hK dX6_readsTug_29 rfl ?_
    refine J_iconst hK dX6_readsTug_30 ci_5 ?_
    refine J_iconst hK dX6_readsTug_31 ci_5 ?_
    refine J_aload_n hK dX6_readsTug_32 1 rfl ?_
    refine rF_X6_28 (q2 := 285) hK dX6_readsTug_33 kd_278 rfl ?_
    refine J_iconst hK dX6_readsTug_36 ci_2 ?_
    refine J_iald hK dX6_readsTug_37 kd_285 (fun _ => ?_)
    refine J_bipush hK dX6_readsTug_38 cb_6 ?_
    refine J_icmp_ge (tgt := 52) hK dX6_readsTug_40 (by decide) ?_ ?_
    · refine J_aload_n hK dX6_readsTug_43 1 rfl ?_
      refine rF_X6_28 (q2 := 285) hK dX6_readsTug_44 kd_278 rfl ?_
      refine J_iconst hK dX6_readsTug_47 ci_2 ?_
      refine J_iald hK dX6_readsTug_48 kd_285 (fun _ => ?_)
      refine J_goto (len := 0) (tgt := 53) hK dX6_readsTug_49 (by decide) ?_
      refine J_imul hK dX6_readsTug_53 ?_
      refine J_iadd hK dX6_readsTug_54 ?_
      refine J_istoreV_n (n := 2) (lw := [(1, .int v2), (0, .ref (X.1 + 278))]) hK dX6_readsTug_55 rfl (by decide) rfl (fun z5 => ?_)
      refine J_aload_n hK dX6_readsTug_56 2 rfl ?_
      refine J_iconst hK dX6_readsTug_57 ci_1 ?_
      refine J_bipush hK dX6_readsTug_58 cb_20 ?_
      refine J_callVi (q := 278) (As := [.int (1 : Int32), .int (20 : Int32)]) (st := []) hK dX6_readsTug_60 kB_X6_115 kV_X6_figure kd_278 (by decide) rfl rfl (by decide) rfl rfl (Nat.le_of_ble_eq_true rfl) (fun _ _ hf => uX6_figure  hf) (fun v7 h6 => ?_)
      refine J_istore_n (n := 3) (lw := [(2, .int z5), (1, .int v2), (0, .ref (X.1 + 278))]) hK dX6_readsTug_63 rfl (by decide) rfl ?_
      refine J_aload_n hK dX6_readsTug_64 3 rfl ?_
      refine J_iconst hK dX6_readsTug_65 ci_1 ?_
      refine J_bipush hK dX6_readsTug_66 cb_20 ?_
      refine J_callVi (q := 278) (As := [.int (1 : Int32), .int (20 : Int32)]) (st := []) hK dX6_readsTug_68 kB_X6_121 kV_X6_follows kd_278 (by decide) rfl rfl (by decide) rfl rfl (Nat.le_of_ble_eq_true rfl) (fun _ _ hf => uX6_follows  hf) (fun v9 h8 => ?_)
      refine J_istore (lw := [(3, .int v7), (2, .int z5), (1, .int v2), (0, .ref (X.1 + 278))]) hK dX6_readsTug_71 (by decide) rfl ?_
      refine J_aload_n hK dX6_readsTug_73 4 rfl ?_
      refine J_aload_n hK dX6_readsTug_74 4 rfl ?_
      refine gF_X6_95 hK dX6_readsTug_75 kd_278 ?_
      refine J_iconst hK dX6_readsTug_78 ci_4 ?_
      refine J_icmp_ne (tgt := 86) hK dX6_readsTug_79 (by decide) ?_ ?_
      · refine J_iconst hK dX6_readsTug_82 ci_1 ?_
        refine J_goto (len := 0) (tgt := 87) hK dX6_readsTug_83 (by decide) ?_
        refine J_iconst hK dX6_readsTug_87 ci_1 ?_
        refine J_callVi (q := 278) (As := [.int (1 : Int32), .int (1 : Int32)]) (st := []) hK dX6_readsTug_88 kB_X6_111 kV_X6_takes kd_278 (by decide) rfl rfl (by decide) rfl rfl (Nat.le_of_ble_eq_true rfl) (fun _ _ hf => uX6_takes  hf) (fun v11 h10 => ?_)
        refine J_pop hK dX6_readsTug_91 rfl ?_
        refine J_aload_n hK dX6_readsTug_92 4 rfl ?_
        refine J_callVi (q := 278) (As := []) (st := []) hK dX6_readsTug_93 kB_X6_101 kV_X6_isWell kd_278 (by decide) rfl rfl (by decide) rfl rfl (Nat.le_of_ble_eq_true rfl) (fun _ _ hf => uX6_isWell  hf) (fun v13 h12 => ?_)
        refine J_if_eq (tgt := 144) hK dX6_readsTug_96 (by decide) ?_ ?_
        · exact J_vret hK dX6_readsTug_144
        · refine J_aload_n hK dX6_readsTug_99 4 rfl ?_
          refine rF_X6_28 (q2 := 285) hK dX6_readsTug_100 kd_278 rfl ?_
          refine J_iload_n hK dX6_readsTug_103 2 rfl ?_
          refine J_iload_n hK dX6_readsTug_104 3 rfl ?_
          refine J_iast hK dX6_readsTug_105 kd_285 (fun h14 => ?_)
          refine J_aload_n hK dX6_readsTug_106 4 rfl ?_
          refine rF_X6_28 (q2 := 285) hK dX6_readsTug_107 kd_278 rfl ?_
          refine J_iload_n hK dX6_readsTug_110 2 rfl ?_
          refine J_iconst hK dX6_readsTug_111 ci_1 ?_
          refine J_iadd hK dX6_readsTug_112 ?_
          refine J_iload_n hK dX6_readsTug_113 1 rfl ?_
          refine J_iast hK dX6_readsTug_114 kd_285 (fun h15 => ?_)
          refine J_aload_n hK dX6_readsTug_115 4 rfl ?_
          refine rF_X6_28 (q2 := 285) hK dX6_readsTug_116 kd_278 rfl ?_
          refine J_iload_n hK dX6_readsTug_119 2 rfl ?_
          refine J_iconst hK dX6_readsTug_120 ci_2 ?_
          refine J_iadd hK dX6_readsTug_121 ?_
          refine J_iload hK dX6_readsTug_122 0 rfl ?_
          refine J_iast hK dX6_readsTug_124 kd_285 (fun h16 => ?_)
          refine J_aload_n hK dX6_readsTug_125 4 rfl ?_
          refine rF_X6_28 (q2 := 285) hK dX6_readsTug_126 kd_278 rfl ?_
          refine J_iload_n hK dX6_readsTug_129 2 rfl ?_
          refine J_iconst hK dX6_readsTug_130 ci_4 ?_
          refine J_iadd hK dX6_readsTug_131 ?_
          refine J_iconst hK dX6_readsTug_132 ci_1 ?_
          refine J_iast hK dX6_readsTug_133 kd_285 (fun h17 => ?_)
          refine J_aload_n hK dX6_readsTug_134 4 rfl ?_
          refine rF_X6_28 (q2 := 285) hK dX6_readsTug_135 kd_278 rfl ?_
          refine J_iconst hK dX6_readsTug_138 ci_2 ?_
          refine J_dup2 hK dX6_readsTug_139 rfl rfl ?_
          refine J_iald hK dX6_readsTug_140 kd_285 (fun _ => ?_)
          refine J_iconst hK dX6_readsTug_141 ci_1 ?_
          refine J_iadd hK dX6_readsTug_142 ?_
          refine J_iast hK dX6_readsTug_143 kd_285 (fun h18 => ?_)
          exact J_vret hK dX6_readsTug_144
      · refine J_iconst hK dX6_readsTug_86 ci_0 ?_
        refine J_iconst hK dX6_readsTug_87 ci_1 ?_
        refine J_callVi (q := 278) (As := [.int (0 : Int32), .int (1 : Int32)]) (st := []) hK dX6_readsTug_88 kB_X6_111 kV_X6_takes kd_278 (by decide) rfl rfl (by decide) rfl rfl (Nat.le_of_ble_eq_true rfl) (fun _ _ hf => uX6_takes  hf) (fun v20 h19 => ?_)
        refine J_pop hK dX6_readsTug_91 rfl ?_
        refine J_aload_n hK dX6_readsTug_92 4 rfl ?_
        refine J_callVi (q := 278) (As := []) (st := []) hK dX6_readsTug_93 kB_X6_101 kV_X6_isWell kd_278 (by decide) rfl rfl (by decide) rfl rfl (Nat.le_of_ble_eq_true rfl) (fun _ _ hf => uX6_isWell  hf) (fun v22 h21 => ?_)
        refine J_if_eq (tgt := 144) hK dX6_readsTug_96 (by decide) ?_ ?_
        · exact J_vret hK dX6_readsTug_144
        · refine J_aload_n hK dX6_readsTug_99 4 rfl ?_
          refine rF_X6_28 (q2 := 285) hK dX6_readsTug_100 kd_278 rfl ?_
          refine J_iload_n hK dX6_readsTug_103 2 rfl ?_
          refine J_iload_n hK dX6_readsTug_104 3 rfl ?_
          refine J_iast hK dX6_readsTug_105 kd_285 (fun h23 => ?_)
          refine J_aload_n hK dX6_readsTug_106 4 rfl ?_
          refine rF_X6_28 (q2 := 285) hK dX6_readsTug_107 kd_278 rfl ?_
          refine J_iload_n hK dX6_readsTug_110 2 rfl ?_
          refine J_iconst hK dX6_readsTug_111 ci_1 ?_
          refine J_iadd hK dX6_readsTug_112 ?_
          refine J_iload_n hK dX6_readsTug_113 1 rfl ?_
          refine J_iast hK dX6_readsTug_114 kd_285 (fun h24 => ?_)
          refine J_aload_n hK dX6_readsTug_115 4 rfl ?_
          refine rF_X6_28 (q2 := 285) hK dX6_readsTug_116 kd_278 rfl ?_
          refine J_iload_n hK dX6_readsTug_119 2 rfl ?_
          refine J_iconst hK dX6_readsTug_120 ci_2 ?_
          refine J_iadd hK dX6_readsTug_121 ?_
          refine J_iload hK dX6_readsTug_122 0 rfl ?_
          refine J_iast hK dX6_readsTug_124 kd_285 (fun h25 => ?_)
          refine J_aload_n hK dX6_readsTug_125 4 rfl ?_
          refine rF_X6_28 (q2 := 285) hK dX6_readsTug_126 kd_278 rfl ?_
          refine J_iload_n hK dX6_readsTug_129 2 rfl ?_
          refine J_iconst hK dX6_readsTug_130 ci_4 ?_
          refine J_iadd hK dX6_readsTug_131 ?_
          refine J_iconst hK dX6_readsTug_132 ci_1 ?_
          refine J_iast hK dX6_readsTug_133 kd_285 (fun h26 => ?_)
          refine J_aload_n hK dX6_readsTug_134 4 rfl ?_
          refine rF_X6_28 (q2 := 285) hK dX6_readsTug_135 kd_278 rfl ?_
          refine J_iconst hK dX6_readsTug_138 ci_2 ?_
          refine J_dup2 hK dX6_readsTug_139 rfl rfl ?_
          refine J_iald hK dX6_readsTug_140 kd_285 (fun _ => ?_)
          refine J_iconst hK dX6_readsTug_141 ci_1 ?_
          refine J_iadd hK dX6_readsTug_142 ?_
          refine J_iast hK dX6_readsTug_143 kd_285 (fun h27 => ?_)
          exact J_vret hK dX6_readsTug_144
    · refine J_iconst hK dX6_readsTug_52 ci_0 ?_
      refine J_imul hK dX6_readsTug_53 ?_
      refine J_iadd hK dX6_readsTug_54 ?_
      refine J_istoreV_n (n := 2) (lw := [(1, .int v2), (0, .ref (X.1 + 278))]) hK dX6_readsTug_55 rfl (by decide) rfl (fun z28 => ?_)
      refine J_aload_n hK dX6_readsTug_56 2 rfl ?_
      refine J_iconst hK dX6_readsTug_57 ci_1 ?_
      refine J_bipush hK dX6_readsTug_58 cb_20 ?_
      refine J_callVi (q := 278) (As := [.int (1 : Int32), .int (20 : Int32)]) (st := []) hK dX6_readsTug_60 kB_X6_115 kV_X6_figure kd_278 (by decide) rfl rfl (by decide) rfl rfl (Nat.le_of_ble_eq_true rfl) (fun _ _ hf => uX6_figure  hf) (fun v30 h29 => ?_)
      refine J_istore_n (n := 3) (lw := [(2, .int z28), (1, .int v2), (0, .ref (X.1 + 278))]) hK dX6_readsTug_63 rfl (by decide) rfl ?_
      refine J_aload_n hK dX6_readsTug_64 3 rfl ?_
      refine J_iconst hK dX6_readsTug_65 ci_1 ?_
      refine J_bipush hK dX6_readsTug_66 cb_20 ?_
      refine J_callVi (q := 278) (As := [.int (1 : Int32), .int (20 : Int32)]) (st := []) hK dX6_readsTug_68 kB_X6_121 kV_X6_follows kd_278 (by decide) rfl rfl (by decide) rfl rfl (Nat.le_of_ble_eq_true rfl) (fun _ _ hf => uX6_follows  hf) (fun v32 h31 => ?_)
      refine J_istore (lw := [(3, .int v30), (2, .int z28), (1, .int v2), (0, .ref (X.1 + 278))]) hK dX6_readsTug_71 (by decide) rfl ?_
      refine J_aload_n hK dX6_readsTug_73 4 rfl ?_
      refine J_aload_n hK dX6_readsTug_74 4 rfl ?_
      refine gF_X6_95 hK dX6_readsTug_75 kd_278 ?_
      refine J_iconst hK dX6_readsTug_78 ci_4 ?_
      refine J_icmp_ne (tgt := 86) hK dX6_readsTug_79 (by decide) ?_ ?_
      · refine J_iconst hK dX6_readsTug_82 ci_1 ?_
        refine J_goto (len := 0) (tgt := 87) hK dX6_readsTug_83 (by decide) ?_
        refine J_iconst hK dX6_readsTug_87 ci_1 ?_
        refine J_callVi (q := 278) (As := [.int (1 : Int32), .int (1 : Int32)]) (st := []) hK dX6_readsTug_88 kB_X6_111 kV_X6_takes kd_278 (by decide) rfl rfl (by decide) rfl rfl (Nat.le_of_ble_eq_true rfl) (fun _ _ hf => uX6_takes  hf) (fun v34 h33 => ?_)
        refine J_pop hK dX6_readsTug_91 rfl ?_
        refine J_aload_n hK dX6_readsTug_92 4 rfl ?_
        refine J_callVi (q := 278) (As := []) (st := []) hK dX6_readsTug_93 kB_X6_101 kV_X6_isWell kd_278 (by decide) rfl rfl (by decide) rfl rfl (Nat.le_of_ble_eq_true rfl) (fun _ _ hf => uX6_isWell  hf) (fun v36 h35 => ?_)
        refine J_if_eq (tgt := 144) hK dX6_readsTug_96 (by decide) ?_ ?_
        · exact J_vret hK dX6_readsTug_144
        · refine J_aload_n hK dX6_readsTug_99 4 rfl ?_
          refine rF_X6_28 (q2 := 285) hK dX6_readsTug_100 kd_278 rfl ?_
          refine J_iload_n hK dX6_readsTug_103 2 rfl ?_
          refine J_iload_n hK dX6_readsTug_104 3 rfl ?_
          refine J_iast hK dX6_readsTug_105 kd_285 (fun h37 => ?_)
          refine J_aload_n hK dX6_readsTug_106 4 rfl ?_
          refine rF_X6_28 (q2 := 285) hK dX6_readsTug_107 kd_278 rfl ?_
          refine J_iload_n hK dX6_readsTug_110 2 rfl ?_
          refine J_iconst hK dX6_readsTug_111 ci_1 ?_
          refine J_iadd hK dX6_readsTug_112 ?_
          refine J_iload_n hK dX6_readsTug_113 1 rfl ?_
          refine J_iast hK dX6_readsTug_114 kd_285 (fun h38 => ?_)
          refine J_aload_n hK dX6_readsTug_115 4 rfl ?_
          refine rF_X6_28 (q2 := 285) hK dX6_readsTug_116 kd_278 rfl ?_
          refine J_iload_n hK dX6_readsTug_119 2 rfl ?_
          refine J_iconst hK dX6_readsTug_120 ci_2 ?_
          refine J_iadd hK dX6_readsTug_121 ?_
          refine J_iload hK dX6_readsTug_122 0 rfl ?_
          refine J_iast hK dX6_readsTug_124 kd_285 (fun h39 => ?_)
          refine J_aload_n hK dX6_readsTug_125 4 rfl ?_
          refine rF_X6_28 (q2 := 285) hK dX6_readsTug_126 kd_278 rfl ?_
          refine J_iload_n hK dX6_readsTug_129 2 rfl ?_
          refine J_iconst hK dX6_readsTug_130 ci_4 ?_
          refine J_iadd hK dX6_readsTug_131 ?_
          refine J_iconst hK dX6_readsTug_132 ci_1 ?_
          refine J_iast hK dX6_readsTug_133 kd_285 (fun h40 => ?_)
          refine J_aload_n hK dX6_readsTug_134 4 rfl ?_
          refine rF_X6_28 (q2 := 285) hK dX6_readsTug_135 kd_278 rfl ?_
          refine J_iconst hK dX6_readsTug_138 ci_2 ?_
          refine J_dup2 hK dX6_readsTug_139 rfl rfl ?_
          refine J_iald hK dX6_readsTug_140 kd_285 (fun _ => ?_)
          refine J_iconst hK dX6_readsTug_141 ci_1 ?_
          refine J_iadd hK dX6_readsTug_142 ?_
          refine J_iast hK dX6_readsTug_143 kd_285 (fun h41 => ?_)
          exact J_vret hK dX6_readsTug_144
      · refine J_iconst hK dX6_readsTug_86 ci_0 ?_
        refine J_iconst hK dX6_readsTug_87 ci_1 ?_
        refine J_callVi (q := 278) (As := [.int (0 : Int32), .int (1 : Int32)]) (st := []) hK dX6_readsTug_88 kB_X6_111 kV_X6_takes kd_278 (by decide) rfl rfl (by decide) rfl rfl (Nat.le_of_ble_eq_true rfl) (fun _ _ hf => uX6_takes  hf) (fun v43 h42 => ?_)
        refine J_pop hK dX6_readsTug_91 rfl ?_
        refine J_aload_n hK dX6_readsTug_92 4 rfl ?_
        refine J_callVi (q := 278) (As := []) (st := []) hK dX6_readsTug_93 kB_X6_101 kV_X6_isWell kd_278 (by decide) rfl rfl (by decide) rfl rfl (Nat.le_of_ble_eq_true rfl) (fun _ _ hf => uX6_isWell  hf) (fun v45 h44 => ?_)
        refine J_if_eq (tgt := 144) hK dX6_readsTug_96 (by decide) ?_ ?_
        · exact J_vret hK dX6_readsTug_144
        · refine J_aload_n hK dX6_readsTug_99 4 rfl ?_
          refine rF_X6_28 (q2 := 285) hK dX6_readsTug_100 kd_278 rfl ?_
          refine J_iload_n hK dX6_readsTug_103 2 rfl ?_
          refine J_iload_n hK dX6_readsTug_104 3 rfl ?_
          refine J_iast hK dX6_readsTug_105 kd_285 (fun h46 => ?_)
          refine J_aload_n hK dX6_readsTug_106 4 rfl ?_
          refine rF_X6_28 (q2 := 285) hK dX6_readsTug_107 kd_278 rfl ?_
          refine J_iload_n hK dX6_readsTug_110 2 rfl ?_
          refine J_iconst hK dX6_readsTug_111 ci_1 ?_
          refine J_iadd hK dX6_readsTug_112 ?_
          refine J_iload_n hK dX6_readsTug_113 1 rfl ?_
          refine J_iast hK dX6_readsTug_114 kd_285 (fun h47 => ?_)
          refine J_aload_n hK dX6_readsTug_115 4 rfl ?_
          refine rF_X6_28 (q2 := 285) hK dX6_readsTug_116 kd_278 rfl ?_
          refine J_iload_n hK dX6_readsTug_119 2 rfl ?_
          refine J_iconst hK dX6_readsTug_120 ci_2 ?_
          refine J_iadd hK dX6_readsTug_121 ?_
          refine J_iload hK dX6_readsTug_122 0 rfl ?_
          refine J_iast hK dX6_readsTug_124 kd_285 (fun h48 => ?_)
          refine J_aload_n hK dX6_readsTug_125 4 rfl ?_
          refine rF_X6_28 (q2 := 285) hK dX6_readsTug_126 kd_278 rfl ?_
          refine J_iload_n hK dX6_readsTug_129 2 rfl ?_
          refine J_iconst hK dX6_readsTug_130 ci_4 ?_
          refine J_iadd hK dX6_readsTug_131 ?_
          refine J_iconst hK dX6_readsTug_132 ci_1 ?_
          refine J_iast hK dX6_readsTug_133 kd_285 (fun h49 => ?_)
          refine J_aload_n hK dX6_readsTug_134 4 rfl ?_
          refine rF_X6_28 (q2 := 285) hK dX6_readsTug_135 kd_278 rfl ?_
          refine J_iconst hK dX6_readsTug_138 ci_2 ?_
          refine J_dup2 hK dX6_readsTug_139 rfl rfl ?_
          refine J_iald hK dX6_readsTug_140 kd_285 (fun _ => ?_)
          refine J_iconst hK dX6_readsTug_141 ci_1 ?_
          refine J_iadd hK dX6_readsTug_142 ?_
          refine J_iast hK dX6_readsTug_143 kd_285 (fun h50 => ?_)
          exact J_vret hK dX6_readsTug_144
  · refine J_iconst hK dX6_readsTug_24 ci_0 ?_
    refine J_iconst hK dX6_readsTug_25 ci_3 ?_
    refine J_callVi (q := 278) (As := [.int (0 : Int32), .int (3 : Int32)]) (st := []) hK dX6_readsTug_26 kB_X6_111 kV_X6_takes kd_278 (by decide) rfl rfl (by decide) rfl rfl (Nat.le_of_ble_eq_true rfl) (fun _ _ hf => uX6_takes  hf) (fun v52 h51 => ?_)
    refine J_pop hK dX6_readsTug_29 rfl ?_
    refine J_iconst hK dX6_readsTug_30 ci_5 ?_
    refine J_iconst hK dX6_readsTug_31 ci_5 ?_
    refine J_aload_n hK dX6_readsTug_32 1 rfl ?_
    refine rF_X6_28 (q2 := 285) hK dX6_readsTug_33 kd_278 rfl ?_
    refine J_iconst hK dX6_readsTug_36 ci_2 ?_
    refine J_iald hK dX6_readsTug_37 kd_285 (fun _ => ?_)
    refine J_bipush hK dX6_readsTug_38 cb_6 ?_
    refine J_icmp_ge (tgt := 52) hK dX6_readsTug_40 (by decide) ?_ ?_
    · refine J_aload_n hK dX6_readsTug_43 1 rfl ?_
      refine rF_X6_28 (q2 := 285) hK dX6_readsTug_44 kd_278 rfl ?_
      refine J_iconst hK dX6_readsTug_47 ci_2 ?_
      refine J_iald hK dX6_readsTug_48 kd_285 (fun _ => ?_)
      refine J_goto (len := 0) (tgt := 53) hK dX6_readsTug_49 (by decide) ?_
      refine J_imul hK dX6_readsTug_53 ?_
      refine J_iadd hK dX6_readsTug_54 ?_
      refine J_istoreV_n (n := 2) (lw := [(1, .int v2), (0, .ref (X.1 + 278))]) hK dX6_readsTug_55 rfl (by decide) rfl (fun z53 => ?_)
      refine J_aload_n hK dX6_readsTug_56 2 rfl ?_
      refine J_iconst hK dX6_readsTug_57 ci_1 ?_
      refine J_bipush hK dX6_readsTug_58 cb_20 ?_
      refine J_callVi (q := 278) (As := [.int (1 : Int32), .int (20 : Int32)]) (st := []) hK dX6_readsTug_60 kB_X6_115 kV_X6_figure kd_278 (by decide) rfl rfl (by decide) rfl rfl (Nat.le_of_ble_eq_true rfl) (fun _ _ hf => uX6_figure  hf) (fun v55 h54 => ?_)
      refine J_istore_n (n := 3) (lw := [(2, .int z53), (1, .int v2), (0, .ref (X.1 + 278))]) hK dX6_readsTug_63 rfl (by decide) rfl ?_
      refine J_aload_n hK dX6_readsTug_64 3 rfl ?_
      refine J_iconst hK dX6_readsTug_65 ci_1 ?_
      refine J_bipush hK dX6_readsTug_66 cb_20 ?_
      refine J_callVi (q := 278) (As := [.int (1 : Int32), .int (20 : Int32)]) (st := []) hK dX6_readsTug_68 kB_X6_121 kV_X6_follows kd_278 (by decide) rfl rfl (by decide) rfl rfl (Nat.le_of_ble_eq_true rfl) (fun _ _ hf => uX6_follows  hf) (fun v57 h56 => ?_)
      refine J_istore (lw := [(3, .int v55), (2, .int z53), (1, .int v2), (0, .ref (X.1 + 278))]) hK dX6_readsTug_71 (by decide) rfl ?_
      refine J_aload_n hK dX6_readsTug_73 4 rfl ?_
      refine J_aload_n hK dX6_readsTug_74 4 rfl ?_
      refine gF_X6_95 hK dX6_readsTug_75 kd_278 ?_
      refine J_iconst hK dX6_readsTug_78 ci_4 ?_
      refine J_icmp_ne (tgt := 86) hK dX6_readsTug_79 (by decide) ?_ ?_
      · refine J_iconst hK dX6_readsTug_82 ci_1 ?_
        refine J_goto (len := 0) (tgt := 87) hK dX6_readsTug_83 (by decide) ?_
        refine J_iconst hK dX6_readsTug_87 ci_1 ?_
        refine J_callVi (q := 278) (As := [.int (1 : Int32), .int (1 : Int32)]) (st := []) hK dX6_readsTug_88 kB_X6_111 kV_X6_takes kd_278 (by decide) rfl rfl (by decide) rfl rfl (Nat.le_of_ble_eq_true rfl) (fun _ _ hf => uX6_takes  hf) (fun v59 h58 => ?_)
        refine J_pop hK dX6_readsTug_91 rfl ?_
        refine J_aload_n hK dX6_readsTug_92 4 rfl ?_
        refine J_callVi (q := 278) (As := []) (st := []) hK dX6_readsTug_93 kB_X6_101 kV_X6_isWell kd_278 (by decide) rfl rfl (by decide) rfl rfl (Nat.le_of_ble_eq_true rfl) (fun _ _ hf => uX6_isWell  hf) (fun v61 h60 => ?_)
        refine J_if_eq (tgt := 144) hK dX6_readsTug_96 (by decide) ?_ ?_
        · exact J_vret hK dX6_readsTug_144
        · refine J_aload_n hK dX6_readsTug_99 4 rfl ?_
          refine rF_X6_28 (q2 := 285) hK dX6_readsTug_100 kd_278 rfl ?_
          refine J_iload_n hK dX6_readsTug_103 2 rfl ?_
          refine J_iload_n hK dX6_readsTug_104 3 rfl ?_
          refine J_iast hK dX6_readsTug_105 kd_285 (fun h62 => ?_)
          refine J_aload_n hK dX6_readsTug_106 4 rfl ?_
          refine rF_X6_28 (q2 := 285) hK dX6_readsTug_107 kd_278 rfl ?_
          refine J_iload_n hK dX6_readsTug_110 2 rfl ?_
          refine J_iconst hK dX6_readsTug_111 ci_1 ?_
          refine J_iadd hK dX6_readsTug_112 ?_
          refine J_iload_n hK dX6_readsTug_113 1 rfl ?_
          refine J_iast hK dX6_readsTug_114 kd_285 (fun h63 => ?_)
          refine J_aload_n hK dX6_readsTug_115 4 rfl ?_
          refine rF_X6_28 (q2 := 285) hK dX6_readsTug_116 kd_278 rfl ?_
          refine J_iload_n hK dX6_readsTug_119 2 rfl ?_
          refine J_iconst hK dX6_readsTug_120 ci_2 ?_
          refine J_iadd hK dX6_readsTug_121 ?_
          refine J_iload hK dX6_readsTug_122 0 rfl ?_
          refine J_iast hK dX6_readsTug_124 kd_285 (fun h64 => ?_)
          refine J_aload_n hK dX6_readsTug_125 4 rfl ?_
          refine rF_X6_28 (q2 := 285) hK dX6_readsTug_126 kd_278 rfl ?_
          refine J_iload_n hK dX6_readsTug_129 2 rfl ?_
          refine J_iconst hK dX6_readsTug_130 ci_4 ?_
          refine J_iadd hK dX6_readsTug_131 ?_
          refine J_iconst hK dX6_readsTug_132 ci_1 ?_
          refine J_iast hK dX6_readsTug_133 kd_285 (fun h65 => ?_)
          refine J_aload_n hK dX6_readsTug_134 4 rfl ?_
          refine rF_X6_28 (q2 := 285) hK dX6_readsTug_135 kd_278 rfl ?_
          refine J_iconst hK dX6_readsTug_138 ci_2 ?_
          refine J_dup2 hK dX6_readsTug_139 rfl rfl ?_
          refine J_iald hK dX6_readsTug_140 kd_285 (fun _ => ?_)
          refine J_iconst hK dX6_readsTug_141 ci_1 ?_
          refine J_iadd hK dX6_readsTug_142 ?_
          refine J_iast hK dX6_readsTug_143 kd_285 (fun h66 => ?_)
          exact J_vret hK dX6_readsTug_144
      · refine J_iconst hK dX6_readsTug_86 ci_0 ?_
        refine J_iconst hK dX6_readsTug_87 ci_1 ?_
        refine J_callVi (q := 278) (As := [.int (0 : Int32), .int (1 : Int32)]) (st := []) hK dX6_readsTug_88 kB_X6_111 kV_X6_takes kd_278 (by decide) rfl rfl (by decide) rfl rfl (Nat.le_of_ble_eq_true rfl) (fun _ _ hf => uX6_takes  hf) (fun v68 h67 => ?_)
        refine J_pop hK dX6_readsTug_91 rfl ?_
        refine J_aload_n hK dX6_readsTug_92 4 rfl ?_
        refine J_callVi (q := 278) (As := []) (st := []) hK dX6_readsTug_93 kB_X6_101 kV_X6_isWell kd_278 (by decide) rfl rfl (by decide) rfl rfl (Nat.le_of_ble_eq_true rfl) (fun _ _ hf => uX6_isWell  hf) (fun v70 h69 => ?_)
        refine J_if_eq (tgt := 144) hK dX6_readsTug_96 (by decide) ?_ ?_
        · exact J_vret hK dX6_readsTug_144
        · refine J_aload_n hK dX6_readsTug_99 4 rfl ?_
          refine rF_X6_28 (q2 := 285) hK dX6_readsTug_100 kd_278 rfl ?_
          refine J_iload_n hK dX6_readsTug_103 2 rfl ?_
          refine J_iload_n hK dX6_readsTug_104 3 rfl ?_
          refine J_iast hK dX6_readsTug_105 kd_285 (fun h71 => ?_)
          refine J_aload_n hK dX6_readsTug_106 4 rfl ?_
          refine rF_X6_28 (q2 := 285) hK dX6_readsTug_107 kd_278 rfl ?_
          refine J_iload_n hK dX6_readsTug_110 2 rfl ?_
          refine J_iconst hK dX6_readsTug_111 ci_1 ?_
          refine J_iadd hK dX6_readsTug_112 ?_
          refine J_iload_n hK dX6_readsTug_113 1 rfl ?_
          refine J_iast hK dX6_readsTug_114 kd_285 (fun h72 => ?_)
          refine J_aload_n hK dX6_readsTug_115 4 rfl ?_
          refine rF_X6_28 (q2 := 285) hK dX6_readsTug_116 kd_278 rfl ?_
          refine J_iload_n hK dX6_readsTug_119 2 rfl ?_
          refine J_iconst hK dX6_readsTug_120 ci_2 ?_
          refine J_iadd hK dX6_readsTug_121 ?_
          refine J_iload hK dX6_readsTug_122 0 rfl ?_
          refine J_iast hK dX6_readsTug_124 kd_285 (fun h73 => ?_)
          refine J_aload_n hK dX6_readsTug_125 4 rfl ?_
          refine rF_X6_28 (q2 := 285) hK dX6_readsTug_126 kd_278 rfl ?_
          refine J_iload_n hK dX6_readsTug_129 2 rfl ?_
          refine J_iconst hK dX6_readsTug_130 ci_4 ?_
          refine J_iadd hK dX6_readsTug_131 ?_
          refine J_iconst hK dX6_readsTug_132 ci_1 ?_
          refine J_iast hK dX6_readsTug_133 kd_285 (fun h74 => ?_)
          refine J_aload_n hK dX6_readsTug_134 4 rfl ?_
          refine rF_X6_28 (q2 := 285) hK dX6_readsTug_135 kd_278 rfl ?_
          refine J_iconst hK dX6_readsTug_138 ci_2 ?_
          refine J_dup2 hK dX6_readsTug_139 rfl rfl ?_
          refine J_iald hK dX6_readsTug_140 kd_285 (fun _ => ?_)
          refine J_iconst hK dX6_readsTug_141 ci_1 ?_
          refine J_iadd hK dX6_readsTug_142 ?_
          refine J_iast hK dX6_readsTug_143 kd_285 (fun h75 => ?_)
          exact J_vret hK dX6_readsTug_144
    · refine J_iconst hK dX6_readsTug_52 ci_0 ?_
      refine J_imul hK dX6_readsTug_53 ?_
      refine J_iadd hK dX6_readsTug_54 ?_
      refine J_istoreV_n (n := 2) (lw := [(1, .int v2), (0, .ref (X.1 + 278))]) hK dX6_readsTug_55 rfl (by decide) rfl (fun z76 => ?_)
      refine J_aload_n hK dX6_readsTug_56 2 rfl ?_
      refine J_iconst hK dX6_readsTug_57 ci_1 ?_
      refine J_bipush hK dX6_readsTug_58 cb_20 ?_
      refine J_callVi (q := 278) (As := [.int (1 : Int32), .int (20 : Int32)]) (st := []) hK dX6_readsTug_60 kB_X6_115 kV_X6_figure kd_278 (by decide) rfl rfl (by decide) rfl rfl (Nat.le_of_ble_eq_true rfl) (fun _ _ hf => uX6_figure  hf) (fun v78 h77 => ?_)
      refine J_istore_n (n := 3) (lw := [(2, .int z76), (1, .int v2), (0, .ref (X.1 + 278))]) hK dX6_readsTug_63 rfl (by decide) rfl ?_
      refine J_aload_n hK dX6_readsTug_64 3 rfl ?_
      refine J_iconst hK dX6_readsTug_65 ci_1 ?_
      refine J_bipush hK dX6_readsTug_66 cb_20 ?_
      refine J_callVi (q := 278) (As := [.int (1 : Int32), .int (20 : Int32)]) (st := []) hK dX6_readsTug_68 kB_X6_121 kV_X6_follows kd_278 (by decide) rfl rfl (by decide) rfl rfl (Nat.le_of_ble_eq_true rfl) (fun _ _ hf => uX6_follows  hf) (fun v80 h79 => ?_)
      refine J_istore (lw := [(3, .int v78), (2, .int z76), (1, .int v2), (0, .ref (X.1 + 278))]) hK dX6_readsTug_71 (by decide) rfl ?_
      refine J_aload_n hK dX6_readsTug_73 4 rfl ?_
      refine J_aload_n hK dX6_readsTug_74 4 rfl ?_
      refine gF_X6_95 hK dX6_readsTug_75 kd_278 ?_
      refine J_iconst hK dX6_readsTug_78 ci_4 ?_
      refine J_icmp_ne (tgt := 86) hK dX6_readsTug_79 (by decide) ?_ ?_
      · refine J_iconst hK dX6_readsTug_82 ci_1 ?_
        refine J_goto (len := 0) (tgt := 87) hK dX6_readsTug_83 (by decide) ?_
        refine J_iconst hK dX6_readsTug_87 ci_1 ?_
        refine J_callVi (q := 278) (As := [.int (1 : Int32), .int (1 : Int32)]) (st := []) hK dX6_readsTug_88 kB_X6_111 kV_X6_takes kd_278 (by decide) rfl rfl (by decide) rfl rfl (Nat.le_of_ble_eq_true rfl) (fun _ _ hf => uX6_takes  hf) (fun v82 h81 => ?_)
        refine J_pop hK dX6_readsTug_91 rfl ?_
        refine J_aload_n hK dX6_readsTug_92 4 rfl ?_
        refine J_callVi (q := 278) (As := []) (st := []) hK dX6_readsTug_93 kB_X6_101 kV_X6_isWell kd_278 (by decide) rfl rfl (by decide) rfl rfl (Nat.le_of_ble_eq_true rfl) (fun _ _ hf => uX6_isWell  hf) (fun v84 h83 => ?_)
        refine J_if_eq (tgt := 144) hK dX6_readsTug_96 (by decide) ?_ ?_
        · exact J_vret hK dX6_readsTug_144
        · refine J_aload_n hK dX6_readsTug_99 4 rfl ?_
          refine rF_X6_28 (q2 := 285) hK dX6_readsTug_100 kd_278 rfl ?_
          refine J_iload_n hK dX6_readsTug_103 2 rfl ?_
          refine J_iload_n hK dX6_readsTug_104 3 rfl ?_
          refine J_iast hK dX6_readsTug_105 kd_285 (fun h85 => ?_)
          refine J_aload_n hK dX6_readsTug_106 4 rfl ?_
          refine rF_X6_28 (q2 := 285) hK dX6_readsTug_107 kd_278 rfl ?_
          refine J_iload_n hK dX6_readsTug_110 2 rfl ?_
          refine J_iconst hK dX6_readsTug_111 ci_1 ?_
          refine J_iadd hK dX6_readsTug_112 ?_
          refine J_iload_n hK dX6_readsTug_113 1 rfl ?_
          refine J_iast hK dX6_readsTug_114 kd_285 (fun h86 => ?_)
          refine J_aload_n hK dX6_readsTug_115 4 rfl ?_
          refine rF_X6_28 (q2 := 285) hK dX6_readsTug_116 kd_278 rfl ?_
          refine J_iload_n hK dX6_readsTug_119 2 rfl ?_
          refine J_iconst hK dX6_readsTug_120 ci_2 ?_
          refine J_iadd hK dX6_readsTug_121 ?_
          refine J_iload hK dX6_readsTug_122 0 rfl ?_
          refine J_iast hK dX6_readsTug_124 kd_285 (fun h87 => ?_)
          refine J_aload_n hK dX6_readsTug_125 4 rfl ?_
          refine rF_X6_28 (q2 := 285) hK dX6_readsTug_126 kd_278 rfl ?_
          refine J_iload_n hK dX6_readsTug_129 2 rfl ?_
          refine J_iconst hK dX6_readsTug_130 ci_4 ?_
          refine J_iadd hK dX6_readsTug_131 ?_
          refine J_iconst hK dX6_readsTug_132 ci_1 ?_
          refine J_iast hK dX6_readsTug_133 kd_285 (fun h88 => ?_)
          refine J_aload_n hK dX6_readsTug_134 4 rfl ?_
          refine rF_X6_28 (q2 := 285) hK dX6_readsTug_135 kd_278 rfl ?_
          refine J_iconst hK dX6_readsTug_138 ci_2 ?_
          refine J_dup2 hK dX6_readsTug_139 rfl rfl ?_
          refine J_iald hK dX6_readsTug_140 kd_285 (fun _ => ?_)
          refine J_iconst hK dX6_readsTug_141 ci_1 ?_
          refine J_iadd hK dX6_readsTug_142 ?_
          refine J_iast hK dX6_readsTug_143 kd_285 (fun h89 => ?_)
          exact J_vret hK dX6_readsTug_144
      · refine J_iconst hK dX6_readsTug_86 ci_0 ?_
        refine J_iconst hK dX6_readsTug_87 ci_1 ?_
        refine J_callVi (q := 278) (As := [.int (0 : Int32), .int (1 : Int32)]) (st := []) hK dX6_readsTug_88 kB_X6_111 kV_X6_takes kd_278 (by decide) rfl rfl (by decide) rfl rfl (Nat.le_of_ble_eq_true rfl) (fun _ _ hf => uX6_takes  hf) (fun v91 h90 => ?_)
        refine J_pop hK dX6_readsTug_91 rfl ?_
        refine J_aload_n hK dX6_readsTug_92 4 rfl ?_
        refine J_callVi (q := 278) (As := []) (st := []) hK dX6_readsTug_93 kB_X6_101 kV_X6_isWell kd_278 (by decide) rfl rfl (by decide) rfl rfl (Nat.le_of_ble_eq_true rfl) (fun _ _ hf => uX6_isWell  hf) (fun v93 h92 => ?_)
        refine J_if_eq (tgt := 144) hK dX6_readsTug_96 (by decide) ?_ ?_
        · exact J_vret hK dX6_readsTug_144
        · refine J_aload_n hK dX6_readsTug_99 4 rfl ?_
          refine rF_X6_28 (q2 := 285) hK dX6_readsTug_100 kd_278 rfl ?_
          refine J_iload_n hK dX6_readsTug_103 2 rfl ?_
          refine J_iload_n hK dX6_readsTug_104 3 rfl ?_
          refine J_iast hK dX6_readsTug_105 kd_285 (fun h94 => ?_)
          refine J_aload_n hK dX6_readsTug_106 4 rfl ?_
          refine rF_X6_28 (q2 := 285) hK dX6_readsTug_107 kd_278 rfl ?_
          refine J_iload_n hK dX6_readsTug_110 2 rfl ?_
          refine J_iconst hK dX6_readsTug_111 ci_1 ?_
          refine J_iadd hK dX6_readsTug_112 ?_
          refine J_iload_n hK dX6_readsTug_113 1 rfl ?_
          refine J_iast hK dX6_readsTug_114 kd_285 (fun h95 => ?_)
          refine J_aload_n hK dX6_readsTug_115 4 rfl ?_
          refine rF_X6_28 (q2 := 285) hK dX6_readsTug_116 kd_278 rfl ?_
          refine J_iload_n hK dX6_readsTug_119 2 rfl ?_
          refine J_iconst hK dX6_readsTug_120 ci_2 ?_
          refine J_iadd hK dX6_readsTug_121 ?_
          refine J_iload hK dX6_readsTug_122 0 rfl ?_
          refine J_iast hK dX6_readsTug_124 kd_285 (fun h96 => ?_)
          refine J_aload_n hK dX6_readsTug_125 4 rfl ?_
          refine rF_X6_28 (q2 := 285) hK dX6_readsTug_126 kd_278 rfl ?_
          refine J_iload_n hK dX6_readsTug_129 2 rfl ?_
          refine J_iconst hK dX6_readsTug_130 ci_4 ?_
          refine J_iadd hK dX6_readsTug_131 ?_
          refine J_iconst hK dX6_readsTug_132 ci_1 ?_
          refine J_iast hK dX6_readsTug_133 kd_285 (fun h97 => ?_)
          refine J_aload_n hK dX6_readsTug_134 4 rfl ?_
          refine rF_X6_28 (q2 := 285) hK dX6_readsTug_135 kd_278 rfl ?_
          refine J_iconst hK dX6_readsTug_138 ci_2 ?_
          refine J_dup2 hK dX6_readsTug_139 rfl rfl ?_
          refine J_iald hK dX6_readsTug_140 kd_285 (fun _ => ?_)
          refine J_iconst hK dX6_readsTug_141 ci_1 ?_
          refine J_iadd hK dX6_readsTug_142 ?_
          refine J_iast hK dX6_readsTug_143 kd_285 (fun h98 => ?_)
          exact J_vret hK dX6_readsTug_144
-- X6_estuary
theorem dX6_estuary_0 : DD cX6_estuary 0 (.iconst 0) 1 1 := by decide +kernel
theorem dX6_estuary_1 : DD cX6_estuary 1 (.istore_n 1) 1 2 := by decide +kernel
theorem dX6_estuary_2 : DD cX6_estuary 2 (.iload_n 1) 1 3 := by decide +kernel
theorem dX6_estuary_3 : DD cX6_estuary 3 (.bipush 43) 2 5 := by decide +kernel
theorem dX6_estuary_5 : DD cX6_estuary 5 (.if_icmp .ge 16) 3 8 := by decide +kernel
theorem dX6_estuary_8 : DD cX6_estuary 8 (.aload_n 0) 1 9 := by decide +kernel
theorem dX6_estuary_9 : DD cX6_estuary 9 (.getfield 28) 3 12 := by decide +kernel
theorem dX6_estuary_12 : DD cX6_estuary 12 (.iload_n 1) 1 13 := by decide +kernel
theorem dX6_estuary_13 : DD cX6_estuary 13 (.iconst 0) 1 14 := by decide +kernel
theorem dX6_estuary_14 : DD cX6_estuary 14 (.iastore) 1 15 := by decide +kernel
theorem dX6_estuary_15 : DD cX6_estuary 15 (.iinc 1 1) 3 18 := by decide +kernel
theorem dX6_estuary_18 : DD cX6_estuary 18 (.goto (-16)) 3 21 := by decide +kernel
theorem dX6_estuary_21 : DD cX6_estuary 21 (.aload_n 0) 1 22 := by decide +kernel
theorem dX6_estuary_22 : DD cX6_estuary 22 (.iconst 0) 1 23 := by decide +kernel
theorem dX6_estuary_23 : DD cX6_estuary 23 (.putfield 83) 3 26 := by decide +kernel
theorem dX6_estuary_26 : DD cX6_estuary 26 (.aload_n 0) 1 27 := by decide +kernel
theorem dX6_estuary_27 : DD cX6_estuary 27 (.iconst (-1)) 1 28 := by decide +kernel
theorem dX6_estuary_28 : DD cX6_estuary 28 (.putfield 98) 3 31 := by decide +kernel
theorem dX6_estuary_31 : DD cX6_estuary 31 (.aload_n 0) 1 32 := by decide +kernel
theorem dX6_estuary_32 : DD cX6_estuary 32 (.invokevirtual 108) 3 35 := by decide +kernel
theorem dX6_estuary_35 : DD cX6_estuary 35 (.aload_n 0) 1 36 := by decide +kernel
theorem dX6_estuary_36 : DD cX6_estuary 36 (.aload_n 0) 1 37 := by decide +kernel
theorem dX6_estuary_37 : DD cX6_estuary 37 (.getfield 95) 3 40 := by decide +kernel
theorem dX6_estuary_40 : DD cX6_estuary 40 (.iconst 1) 1 41 := by decide +kernel
theorem dX6_estuary_41 : DD cX6_estuary 41 (.if_icmp .ne 16) 3 44 := by decide +kernel
theorem dX6_estuary_44 : DD cX6_estuary 44 (.aload_n 0) 1 45 := by decide +kernel
theorem dX6_estuary_45 : DD cX6_estuary 45 (.getfield 92) 3 48 := by decide +kernel
theorem dX6_estuary_48 : DD cX6_estuary 48 (.bipush 116) 2 50 := by decide +kernel
theorem dX6_estuary_50 : DD cX6_estuary 50 (.if_icmp .ne 7) 3 53 := by decide +kernel
theorem dX6_estuary_53 : DD cX6_estuary 53 (.iconst 1) 1 54 := by decide +kernel
theorem dX6_estuary_54 : DD cX6_estuary 54 (.goto 4) 3 57 := by decide +kernel
theorem dX6_estuary_57 : DD cX6_estuary 57 (.iconst 0) 1 58 := by decide +kernel
theorem dX6_estuary_58 : DD cX6_estuary 58 (.iconst 1) 1 59 := by decide +kernel
theorem dX6_estuary_59 : DD cX6_estuary 59 (.invokevirtual 111) 3 62 := by decide +kernel
theorem dX6_estuary_62 : DD cX6_estuary 62 (.pop) 1 63 := by decide +kernel
theorem dX6_estuary_63 : DD cX6_estuary 63 (.aload_n 0) 1 64 := by decide +kernel
theorem dX6_estuary_64 : DD cX6_estuary 64 (.getfield 28) 3 67 := by decide +kernel
theorem dX6_estuary_67 : DD cX6_estuary 67 (.iconst 0) 1 68 := by decide +kernel
theorem dX6_estuary_68 : DD cX6_estuary 68 (.aload_n 0) 1 69 := by decide +kernel
theorem dX6_estuary_69 : DD cX6_estuary 69 (.iconst 1) 1 70 := by decide +kernel
theorem dX6_estuary_70 : DD cX6_estuary 70 (.bipush 60) 2 72 := by decide +kernel
theorem dX6_estuary_72 : DD cX6_estuary 72 (.invokevirtual 115) 3 75 := by decide +kernel
theorem dX6_estuary_75 : DD cX6_estuary 75 (.iastore) 1 76 := by decide +kernel
theorem dX6_estuary_76 : DD cX6_estuary 76 (.aload_n 0) 1 77 := by decide +kernel
theorem dX6_estuary_77 : DD cX6_estuary 77 (.getfield 28) 3 80 := by decide +kernel
theorem dX6_estuary_80 : DD cX6_estuary 80 (.iconst 1) 1 81 := by decide +kernel
theorem dX6_estuary_81 : DD cX6_estuary 81 (.aload_n 0) 1 82 := by decide +kernel
theorem dX6_estuary_82 : DD cX6_estuary 82 (.iconst 1) 1 83 := by decide +kernel
theorem dX6_estuary_83 : DD cX6_estuary 83 (.bipush 99) 2 85 := by decide +kernel
theorem dX6_estuary_85 : DD cX6_estuary 85 (.invokevirtual 121) 3 88 := by decide +kernel
theorem dX6_estuary_88 : DD cX6_estuary 88 (.iastore) 1 89 := by decide +kernel
theorem dX6_estuary_89 : DD cX6_estuary 89 (.aload_n 0) 1 90 := by decide +kernel
theorem dX6_estuary_90 : DD cX6_estuary 90 (.aload_n 0) 1 91 := by decide +kernel
theorem dX6_estuary_91 : DD cX6_estuary 91 (.getfield 95) 3 94 := by decide +kernel
theorem dX6_estuary_94 : DD cX6_estuary 94 (.iconst 4) 1 95 := by decide +kernel
theorem dX6_estuary_95 : DD cX6_estuary 95 (.if_icmp .ne 7) 3 98 := by decide +kernel
theorem dX6_estuary_98 : DD cX6_estuary 98 (.iconst 1) 1 99 := by decide +kernel
theorem dX6_estuary_99 : DD cX6_estuary 99 (.goto 4) 3 102 := by decide +kernel
theorem dX6_estuary_102 : DD cX6_estuary 102 (.iconst 0) 1 103 := by decide +kernel
theorem dX6_estuary_103 : DD cX6_estuary 103 (.iconst 1) 1 104 := by decide +kernel
theorem dX6_estuary_104 : DD cX6_estuary 104 (.invokevirtual 111) 3 107 := by decide +kernel
theorem dX6_estuary_107 : DD cX6_estuary 107 (.pop) 1 108 := by decide +kernel
theorem dX6_estuary_108 : DD cX6_estuary 108 (.aload_n 0) 1 109 := by decide +kernel
theorem dX6_estuary_109 : DD cX6_estuary 109 (.invokevirtual 101) 3 112 := by decide +kernel
theorem dX6_estuary_112 : DD cX6_estuary 112 (.ifCond .eq 28) 3 115 := by decide +kernel
theorem dX6_estuary_115 : DD cX6_estuary 115 (.aload_n 0) 1 116 := by decide +kernel
theorem dX6_estuary_116 : DD cX6_estuary 116 (.getfield 95) 3 119 := by decide +kernel
theorem dX6_estuary_119 : DD cX6_estuary 119 (.iconst 1) 1 120 := by decide +kernel
theorem dX6_estuary_120 : DD cX6_estuary 120 (.if_icmp .ne 20) 3 123 := by decide +kernel
theorem dX6_estuary_123 : DD cX6_estuary 123 (.aload_n 0) 1 124 := by decide +kernel
theorem dX6_estuary_124 : DD cX6_estuary 124 (.getfield 92) 3 127 := by decide +kernel
theorem dX6_estuary_127 : DD cX6_estuary 127 (.invokestatic 118) 3 130 := by decide +kernel
theorem dX6_estuary_130 : DD cX6_estuary 130 (.ifCond .le 10) 3 133 := by decide +kernel
theorem dX6_estuary_133 : DD cX6_estuary 133 (.aload_n 0) 1 134 := by decide +kernel
theorem dX6_estuary_134 : DD cX6_estuary 134 (.invokevirtual 124) 3 137 := by decide +kernel
theorem dX6_estuary_137 : DD cX6_estuary 137 (.goto (-29)) 3 140 := by decide +kernel
theorem dX6_estuary_140 : DD cX6_estuary 140 (.aload_n 0) 1 141 := by decide +kernel
theorem dX6_estuary_141 : DD cX6_estuary 141 (.aload_n 0) 1 142 := by decide +kernel
theorem dX6_estuary_142 : DD cX6_estuary 142 (.getfield 28) 3 145 := by decide +kernel
theorem dX6_estuary_145 : DD cX6_estuary 145 (.iconst 2) 1 146 := by decide +kernel
theorem dX6_estuary_146 : DD cX6_estuary 146 (.iaload) 1 147 := by decide +kernel
theorem dX6_estuary_147 : DD cX6_estuary 147 (.ifCond .le 7) 3 150 := by decide +kernel
theorem dX6_estuary_150 : DD cX6_estuary 150 (.iconst 1) 1 151 := by decide +kernel
theorem dX6_estuary_151 : DD cX6_estuary 151 (.goto 4) 3 154 := by decide +kernel
theorem dX6_estuary_154 : DD cX6_estuary 154 (.iconst 0) 1 155 := by decide +kernel
theorem dX6_estuary_155 : DD cX6_estuary 155 (.invokevirtual 127) 3 158 := by decide +kernel
theorem dX6_estuary_158 : DD cX6_estuary 158 (.aload_n 0) 1 159 := by decide +kernel
theorem dX6_estuary_159 : DD cX6_estuary 159 (.invokevirtual 101) 3 162 := by decide +kernel
theorem dX6_estuary_162 : DD cX6_estuary 162 (.ifCond .eq 27) 3 165 := by decide +kernel
theorem dX6_estuary_165 : DD cX6_estuary 165 (.aload_n 0) 1 166 := by decide +kernel
theorem dX6_estuary_166 : DD cX6_estuary 166 (.getfield 95) 3 169 := by decide +kernel
theorem dX6_estuary_169 : DD cX6_estuary 169 (.iconst 1) 1 170 := by decide +kernel
theorem dX6_estuary_170 : DD cX6_estuary 170 (.if_icmp .ne 19) 3 173 := by decide +kernel
theorem dX6_estuary_173 : DD cX6_estuary 173 (.aload_n 0) 1 174 := by decide +kernel
theorem dX6_estuary_174 : DD cX6_estuary 174 (.getfield 92) 3 177 := by decide +kernel
theorem dX6_estuary_177 : DD cX6_estuary 177 (.bipush 113) 2 179 := by decide +kernel
theorem dX6_estuary_179 : DD cX6_estuary 179 (.if_icmp .ne 10) 3 182 := by decide +kernel
theorem dX6_estuary_182 : DD cX6_estuary 182 (.aload_n 0) 1 183 := by decide +kernel
theorem dX6_estuary_183 : DD cX6_estuary 183 (.invokevirtual 131) 3 186 := by decide +kernel
theorem dX6_estuary_186 : DD cX6_estuary 186 (.goto (-28)) 3 189 := by decide +kernel
theorem dX6_estuary_189 : DD cX6_estuary 189 (.aload_n 0) 1 190 := by decide +kernel
theorem dX6_estuary_190 : DD cX6_estuary 190 (.aload_n 0) 1 191 := by decide +kernel
theorem dX6_estuary_191 : DD cX6_estuary 191 (.getfield 95) 3 194 := by decide +kernel
theorem dX6_estuary_194 : DD cX6_estuary 194 (.ifCond .ne 7) 3 197 := by decide +kernel
theorem dX6_estuary_197 : DD cX6_estuary 197 (.iconst 1) 1 198 := by decide +kernel
theorem dX6_estuary_198 : DD cX6_estuary 198 (.goto 4) 3 201 := by decide +kernel
theorem dX6_estuary_201 : DD cX6_estuary 201 (.iconst 0) 1 202 := by decide +kernel
theorem dX6_estuary_202 : DD cX6_estuary 202 (.invokevirtual 127) 3 205 := by decide +kernel
theorem dX6_estuary_205 : DD cX6_estuary 205 (.aload_n 0) 1 206 := by decide +kernel
theorem dX6_estuary_206 : DD cX6_estuary 206 (.iconst 0) 1 207 := by decide +kernel
theorem dX6_estuary_207 : DD cX6_estuary 207 (.putfield 79) 3 210 := by decide +kernel
theorem dX6_estuary_210 : DD cX6_estuary 210 (.aload_n 0) 1 211 := by decide +kernel
theorem dX6_estuary_211 : DD cX6_estuary 211 (.invokevirtual 101) 3 214 := by decide +kernel
theorem dX6_estuary_214 : DD cX6_estuary 214 (.ifCond .ne 11) 3 217 := by decide +kernel
theorem dX6_estuary_217 : DD cX6_estuary 217 (.ldc 134) 2 219 := by decide +kernel
theorem dX6_estuary_219 : DD cX6_estuary 219 (.aload_n 0) 1 220 := by decide +kernel
theorem dX6_estuary_220 : DD cX6_estuary 220 (.getfield 98) 3 223 := by decide +kernel
theorem dX6_estuary_223 : DD cX6_estuary 223 (.isub) 1 224 := by decide +kernel
theorem dX6_estuary_224 : DD cX6_estuary 224 (.ireturn) 1 225 := by decide +kernel
theorem dX6_estuary_225 : DD cX6_estuary 225 (.aload_n 0) 1 226 := by decide +kernel
theorem dX6_estuary_226 : DD cX6_estuary 226 (.getfield 28) 3 229 := by decide +kernel
theorem dX6_estuary_229 : DD cX6_estuary 229 (.iconst 0) 1 230 := by decide +kernel
theorem dX6_estuary_230 : DD cX6_estuary 230 (.aload_n 0) 1 231 := by decide +kernel
theorem dX6_estuary_231 : DD cX6_estuary 231 (.getfield 25) 3 234 := by decide +kernel
theorem dX6_estuary_234 : DD cX6_estuary 234 (.iconst 0) 1 235 := by decide +kernel
theorem dX6_estuary_235 : DD cX6_estuary 235 (.invokestatic 135) 3 238 := by decide +kernel
theorem dX6_estuary_238 : DD cX6_estuary 238 (.aload_n 0) 1 239 := by decide +kernel
theorem dX6_estuary_239 : DD cX6_estuary 239 (.iconst 0) 1 240 := by decide +kernel
theorem dX6_estuary_240 : DD cX6_estuary 240 (.putfield 139) 3 243 := by decide +kernel
theorem dX6_estuary_243 : DD cX6_estuary 243 (.aload_n 0) 1 244 := by decide +kernel
theorem dX6_estuary_244 : DD cX6_estuary 244 (.getfield 25) 3 247 := by decide +kernel
theorem dX6_estuary_247 : DD cX6_estuary 247 (.iconst 2) 1 248 := by decide +kernel
theorem dX6_estuary_248 : DD cX6_estuary 248 (.iaload) 1 249 := by decide +kernel
theorem dX6_estuary_249 : DD cX6_estuary 249 (.ireturn) 1 250 := by decide +kernel
def fX6_estuary_L2 : Nat → Int32 → AH → (Int32 → AH → Option (Int32 × AH)) → Option (Int32 × AH)
  | 0, _, _, _ => none
  | n + 1, x1, h, k => (if x1 < (43 : Int32) then (chk (inb x1 (ln 285)) (sto (hs h 285 (Int32.toNatClampNeg x1) (0 : Int32)) fun h201 => (vl (x1 + (1 : Int32)) fun z202 => fX6_estuary_L2 n z202 h201 k))) else k x1 h)
def fX6_estuary_L108 (p1 : Int32) : Nat → AH → (AH → Option (Int32 × AH)) → Option (Int32 × AH)
  | 0, _, _ => none
  | n + 1, h, k => (bnd (fX6_isWell  h) fun v302 h301 => (if v302 = 0 then k h301 else (if (h301 278 11) = (1 : Int32) then (bnd (fX6_kindOf (h301 278 12) h301) fun v304 h303 => (if 0 < v304 then (bnd (fX6_readsTug  h303) fun _ h305 => fX6_estuary_L108 p1 n h305 k) else k h303)) else k h301)))
def fX6_estuary_L158 (p1 : Int32) : Nat → AH → (AH → Option (Int32 × AH)) → Option (Int32 × AH)
  | 0, _, _ => none
  | n + 1, h, k => (bnd (fX6_isWell  h) fun v402 h401 => (if v402 = 0 then k h401 else (if (h401 278 11) = (1 : Int32) then (if (h401 278 12) = (113 : Int32) then (bnd (fX6_readsPier  h401) fun _ h403 => fX6_estuary_L158 p1 n h403 k) else k h401) else k h401)))
def fX6_estuary (h : AH) : Option (Int32 × AH) := (fX6_estuary_L2  FU (0 : Int32) h fun z1 h2 => (sto (hs h2 278 9 (0 : Int32)) fun h3 => (sto (hs h3 278 8 (-1 : Int32)) fun h4 => (bnd (fX6_advances  h4) fun _ h5 => (if (h5 278 11) = (1 : Int32) then (if (h5 278 12) = (116 : Int32) then (bnd (fX6_takes (1 : Int32) (1 : Int32) h5) fun v7 h6 => (bnd (fX6_figure (1 : Int32) (60 : Int32) h6) fun v9 h8 => (chk (inb (0 : Int32) (ln 285)) (sto (hs h8 285 (Int32.toNatClampNeg (0 : Int32)) v9) fun h10 => (bnd (fX6_follows (1 : Int32) (99 : Int32) h10) fun v12 h11 => (chk (inb (1 : Int32) (ln 285)) (sto (hs h11 285 (Int32.toNatClampNeg (1 : Int32)) v12) fun h13 => (if (h13 278 11) = (4 : Int32) then (bnd (fX6_takes (1 : Int32) (1 : Int32) h13) fun v15 h14 => (fX6_estuary_L108 z1 FU  h14 fun h16 => (chk (inb (2 : Int32) (ln 285)) (if 0 < (h16 285 (Int32.toNatClampNeg (2 : Int32))) then (bnd (fX6_must (1 : Int32) h16) fun _ h17 => (fX6_estuary_L158 z1 FU  h17 fun h18 => (if (h18 278 11) = 0 then (bnd (fX6_must (1 : Int32) h18) fun _ h19 => (sto (hs h19 278 6 (0 : Int32)) fun h20 => (bnd (fX6_isWell  h20) fun v22 h21 => (if v22 = 0 then (some (((-1000100 : Int32) - (h21 278 8)), h21)) else (bnd (fX6_copies 285 (0 : Int32) 284 (0 : Int32) h21) fun _ h23 => (sto (hs h23 278 17 (0 : Int32)) fun h24 => (chk (inb (2 : Int32) (ln 284)) (some ((h24 284 (Int32.toNatClampNeg (2 : Int32))), h24))))))))) else (bnd (fX6_must (0 : Int32) h18) fun _ h25 => (sto (hs h25 278 6 (0 : Int32)) fun h26 => (bnd (fX6_isWell  h26) fun v28 h27 => (if v28 = 0 then (some (((-1000100 : Int32) - (h27 278 8)), h27)) else (bnd (fX6_copies 285 (0 : Int32) 284 (0 : Int32) h27) fun _ h29 => (sto (hs h29 278 17 (0 : Int32)) fun h30 => (chk (inb (2 : Int32) (ln 284)) (some ((h30 284 (Int32.toNatClampNeg (2 : Int32))), h30)))))))))))) else (bnd (fX6_must (0 : Int32) h16) fun _ h31 => (fX6_estuary_L158 z1 FU  h31 fun h32 => (if (h32 278 11) = 0 then (bnd (fX6_must (1 : Int32) h32) fun _ h33 => (sto (hs h33 278 6 (0 : Int32)) fun h34 => (bnd (fX6_isWell  h34) fun v36 h35 => (if v36 = 0 then (some (((-1000100 : Int32) - (h35 278 8)), h35)) else (bnd (fX6_copies 285 (0 : Int32) 284 (0 : Int32) h35) fun _ h37 => (sto (hs h37 278 17 (0 : Int32)) fun h38 => (chk (inb (2 : Int32) (ln 284)) (some ((h38 284 (Int32.toNatClampNeg (2 : Int32))), h38))))))))) else (bnd (fX6_must (0 : Int32) h32) fun _ h39 => (sto (hs h39 278 6 (0 : Int32)) fun h40 => (bnd (fX6_isWell  h40) fun v42 h41 => (if v42 = 0 then (some (((-1000100 : Int32) - (h41 278 8)), h41)) else (bnd (fX6_copies 285 (0 : Int32) 284 (0 : Int32) h41) fun _ h43 => (sto (hs h43 278 17 (0 : Int32)) fun h44 => (chk (inb (2 : Int32) (ln 284)) (some ((h44 284 (Int32.toNatClampNeg (2 : Int32))), h44)))))))))))))))) else (bnd (fX6_takes (0 : Int32) (1 : Int32) h13) fun v46 h45 => (fX6_estuary_L108 z1 FU  h45 fun h47 => (chk (inb (2 : Int32) (ln 285)) (if 0 < (h47 285 (Int32.toNatClampNeg (2 : Int32))) then (bnd (fX6_must (1 : Int32) h47) fun _ h48 => (fX6_estuary_L158 z1 FU  h48 fun h49 => (if (h49 278 11) = 0 then (bnd (fX6_must (1 : Int32) h49) fun _ h50 => (sto (hs h50 278 6 (0 : Int32)) fun h51 => (bnd (fX6_isWell  h51) fun v53 h52 => (if v53 = 0 then (some (((-1000100 : Int32) - (h52 278 8)), h52)) else (bnd (fX6_copies 285 (0 : Int32) 284 (0 : Int32) h52) fun _ h54 => (sto (hs h54 278 17 (0 : Int32)) fun h55 => (chk (inb (2 : Int32) (ln 284)) (some ((h55 284 (Int32.toNatClampNeg (2 : Int32))), h55))))))))) else (bnd (fX6_must (0 : Int32) h49) fun _ h56 => (sto (hs h56 278 6 (0 : Int32)) fun h57 => (bnd (fX6_isWell  h57) fun v59 h58 => (if v59 = 0 then (some (((-1000100 : Int32) - (h58 278 8)), h58)) else (bnd (fX6_copies 285 (0 : Int32) 284 (0 : Int32) h58) fun _ h60 => (sto (hs h60 278 17 (0 : Int32)) fun h61 => (chk (inb (2 : Int32) (ln 284)) (some ((h61 284 (Int32.toNatClampNeg (2 : Int32))), h61)))))))))))) else (bnd (fX6_must (0 : Int32) h47) fun _ h62 => (fX6_estuary_L158 z1 FU  h62 fun h63 => (if (h63 278 11) = 0 then (bnd (fX6_must (1 : Int32) h63) fun _ h64 => (sto (hs h64 278 6 (0 : Int32)) fun h65 => (bnd (fX6_isWell  h65) fun v67 h66 => (if v67 = 0 then (some (((-1000100 : Int32) - (h66 278 8)), h66)) else (bnd (fX6_copies 285 (0 : Int32) 284 (0 : Int32) h66) fun _ h68 => (sto (hs h68 278 17 (0 : Int32)) fun h69 => (chk (inb (2 : Int32) (ln 284)) (some ((h69 284 (Int32.toNatClampNeg (2 : Int32))), h69))))))))) else (bnd (fX6_must (0 : Int32) h63) fun _ h70 => (sto (hs h70 278 6 (0 : Int32)) fun h71 => (bnd (fX6_isWell  h71) fun v73 h72 => (if v73 = 0 then (some (((-1000100 : Int32) - (h72 278 8)), h72)) else (bnd (fX6_copies 285 (0 : Int32) 284 (0 : Int32) h72) fun _ h74 => (sto (hs h74 278 17 (0 : Int32)) fun h75 => (chk (inb (2 : Int32) (ln 284)) (some ((h75 284 (Int32.toNatClampNeg (2 : Int32))), h75)))))))))))))))))))))))) else (bnd (fX6_takes (0 : Int32) (1 : Int32) h5) fun v77 h76 => (bnd (fX6_figure (1 : Int32) (60 : Int32) h76) fun v79 h78 => (chk (inb (0 : Int32) (ln 285)) (sto (hs h78 285 (Int32.toNatClampNeg (0 : Int32)) v79) fun h80 => (bnd (fX6_follows (1 : Int32) (99 : Int32) h80) fun v82 h81 => (chk (inb (1 : Int32) (ln 285)) (sto (hs h81 285 (Int32.toNatClampNeg (1 : Int32)) v82) fun h83 => (if (h83 278 11) = (4 : Int32) then (bnd (fX6_takes (1 : Int32) (1 : Int32) h83) fun v85 h84 => (fX6_estuary_L108 z1 FU  h84 fun h86 => (chk (inb (2 : Int32) (ln 285)) (if 0 < (h86 285 (Int32.toNatClampNeg (2 : Int32))) then (bnd (fX6_must (1 : Int32) h86) fun _ h87 => (fX6_estuary_L158 z1 FU  h87 fun h88 => (if (h88 278 11) = 0 then (bnd (fX6_must (1 : Int32) h88) fun _ h89 => (sto (hs h89 278 6 (0 : Int32)) fun h90 => (bnd (fX6_isWell  h90) fun v92 h91 => (if v92 = 0 then (some (((-1000100 : Int32) - (h91 278 8)), h91)) else (bnd (fX6_copies 285 (0 : Int32) 284 (0 : Int32) h91) fun _ h93 => (sto (hs h93 278 17 (0 : Int32)) fun h94 => (chk (inb (2 : Int32) (ln 284)) (some ((h94 284 (Int32.toNatClampNeg (2 : Int32))), h94))))))))) else (bnd (fX6_must (0 : Int32) h88) fun _ h95 => (sto (hs h95 278 6 (0 : Int32)) fun h96 => (bnd (fX6_isWell  h96) fun v98 h97 => (if v98 = 0 then (some (((-1000100 : Int32) - (h97 278 8)), h97)) else (bnd (fX6_copies 285 (0 : Int32) 284 (0 : Int32) h97) fun _ h99 => (sto (hs h99 278 17 (0 : Int32)) fun h100 => (chk (inb (2 : Int32) (ln 284)) (some ((h100 284 (Int32.toNatClampNeg (2 : Int32))), h100)))))))))))) else (bnd (fX6_must (0 : Int32) h86) fun _ h101 => (fX6_estuary_L158 z1 FU  h101 fun h102 => (if (h102 278 11) = 0 then (bnd (fX6_must (1 : Int32) h102) fun _ h103 => (sto (hs h103 278 6 (0 : Int32)) fun h104 => (bnd (fX6_isWell  h104) fun v106 h105 => (if v106 = 0 then (some (((-1000100 : Int32) - (h105 278 8)), h105)) else (bnd (fX6_copies 285 (0 : Int32) 284 (0 : Int32) h105) fun _ h107 => (sto (hs h107 278 17 (0 : Int32)) fun h108 => (chk (inb (2 : Int32) (ln 284)) (some ((h108 284 (Int32.toNatClampNeg (2 : Int32))), h108))))))))) else (bnd (fX6_must (0 : Int32) h102) fun _ h109 => (sto (hs h109 278 6 (0 : Int32)) fun h110 => (bnd (fX6_isWell  h110) fun v112 h111 => (if v112 = 0 then (some (((-1000100 : Int32) - (h111 278 8)), h111)) else (bnd (fX6_copies 285 (0 : Int32) 284 (0 : Int32) h111) fun _ h113 => (sto (hs h113 278 17 (0 : Int32)) fun h114 => (chk (inb (2 : Int32) (ln 284)) (some ((h114 284 (Int32.toNatClampNeg (2 : Int32))), h114)))))))))))))))) else (bnd (fX6_takes (0 : Int32) (1 : Int32) h83) fun v116 h115 => (fX6_estuary_L108 z1 FU  h115 fun h117 => (chk (inb (2 : Int32) (ln 285)) (if 0 < (h117 285 (Int32.toNatClampNeg (2 : Int32))) then (bnd (fX6_must (1 : Int32) h117) fun _ h118 => (fX6_estuary_L158 z1 FU  h118 fun h119 => (if (h119 278 11) = 0 then (bnd (fX6_must (1 : Int32) h119) fun _ h120 => (sto (hs h120 278 6 (0 : Int32)) fun h121 => (bnd (fX6_isWell  h121) fun v123 h122 => (if v123 = 0 then (some (((-1000100 : Int32) - (h122 278 8)), h122)) else (bnd (fX6_copies 285 (0 : Int32) 284 (0 : Int32) h122) fun _ h124 => (sto (hs h124 278 17 (0 : Int32)) fun h125 => (chk (inb (2 : Int32) (ln 284)) (some ((h125 284 (Int32.toNatClampNeg (2 : Int32))), h125))))))))) else (bnd (fX6_must (0 : Int32) h119) fun _ h126 => (sto (hs h126 278 6 (0 : Int32)) fun h127 => (bnd (fX6_isWell  h127) fun v129 h128 => (if v129 = 0 then (some (((-1000100 : Int32) - (h128 278 8)), h128)) else (bnd (fX6_copies 285 (0 : Int32) 284 (0 : Int32) h128) fun _ h130 => (sto (hs h130 278 17 (0 : Int32)) fun h131 => (chk (inb (2 : Int32) (ln 284)) (some ((h131 284 (Int32.toNatClampNeg (2 : Int32))), h131)))))))))))) else (bnd (fX6_must (0 : Int32) h117) fun _ h132 => (fX6_estuary_L158 z1 FU  h132 fun h133 => (if (h133 278 11) = 0 then (bnd (fX6_must (1 : Int32) h133) fun _ h134 => (sto (hs h134 278 6 (0 : Int32)) fun h135 => (bnd (fX6_isWell  h135) fun v137 h136 => (if v137 = 0 then (some (((-1000100 : Int32) - (h136 278 8)), h136)) else (bnd (fX6_copies 285 (0 : Int32) 284 (0 : Int32) h136) fun _ h138 => (sto (hs h138 278 17 (0 : Int32)) fun h139 => (chk (inb (2 : Int32) (ln 284)) (some ((h139 284 (Int32.toNatClampNeg (2 : Int32))), h139))))))))) else (bnd (fX6_must (0 : Int32) h133) fun _ h140 => (sto (hs h140 278 6 (0 : Int32)) fun h141 => (bnd (fX6_isWell  h141) fun v143 h142 => (if v143 = 0 then (some (((-1000100 : Int32) - (h142 278 8)), h142)) else (bnd (fX6_copies 285 (0 : Int32) 284 (0 : Int32) h142) fun _ h144 => (sto (hs h144 278 17 (0 : Int32)) fun h145 => (chk (inb (2 : Int32) (ln 284)) (some ((h145 284 (Int32.toNatClampNeg (2 : Int32))), h145))))))))))))))))))))))))) else (bnd (fX6_takes (0 : Int32) (1 : Int32) h5) fun v147 h146 => (bnd (fX6_figure (1 : Int32) (60 : Int32) h146) fun v149 h148 => (chk (inb (0 : Int32) (ln 285)) (sto (hs h148 285 (Int32.toNatClampNeg (0 : Int32)) v149) fun h150 => (bnd (fX6_follows (1 : Int32) (99 : Int32) h150) fun v152 h151 => (chk (inb (1 : Int32) (ln 285)) (sto (hs h151 285 (Int32.toNatClampNeg (1 : Int32)) v152) fun h153 => (if (h153 278 11) = (4 : Int32) then (bnd (fX6_takes (1 : Int32) (1 : Int32) h153) fun v155 h154 => (fX6_estuary_L108 z1 FU  h154 fun h156 => (chk (inb (2 : Int32) (ln 285)) (if 0 < (h156 285 (Int32.toNatClampNeg (2 : Int32))) then (bnd (fX6_must (1 : Int32) h156) fun _ h157 => (fX6_estuary_L158 z1 FU  h157 fun h158 => (if (h158 278 11) = 0 then (bnd (fX6_must (1 : Int32) h158) fun _ h159 => (sto (hs h159 278 6 (0 : Int32)) fun h160 => (bnd (fX6_isWell  h160) fun v162 h161 => (if v162 = 0 then (some (((-1000100 : Int32) - (h161 278 8)), h161)) else (bnd (fX6_copies 285 (0 : Int32) 284 (0 : Int32) h161) fun _ h163 => (sto (hs h163 278 17 (0 : Int32)) fun h164 => (chk (inb (2 : Int32) (ln 284)) (some ((h164 284 (Int32.toNatClampNeg (2 : Int32))), h164))))))))) else (bnd (fX6_must (0 : Int32) h158) fun _ h165 => (sto (hs h165 278 6 (0 : Int32)) fun h166 => (bnd (fX6_isWell  h166) fun v168 h167 => (if v168 = 0 then (some (((-1000100 : Int32) - (h167 278 8)), h167)) else (bnd (fX6_copies 285 (0 : Int32) 284 (0 : Int32) h167) fun _ h169 => (sto (hs h169 278 17 (0 : Int32)) fun h170 => (chk (inb (2 : Int32) (ln 284)) (some ((h170 284 (Int32.toNatClampNeg (2 : Int32))), h170)))))))))))) else (bnd (fX6_must (0 : Int32) h156) fun _ h171 => (fX6_estuary_L158 z1 FU  h171 fun h172 => (if (h172 278 11) = 0 then (bnd (fX6_must (1 : Int32) h172) fun _ h173 => (sto (hs h173 278 6 (0 : Int32)) fun h174 => (bnd (fX6_isWell  h174) fun v176 h175 => (if v176 = 0 then (some (((-1000100 : Int32) - (h175 278 8)), h175)) else (bnd (fX6_copies 285 (0 : Int32) 284 (0 : Int32) h175) fun _ h177 => (sto (hs h177 278 17 (0 : Int32)) fun h178 => (chk (inb (2 : Int32) (ln 284)) (some ((h178 284 (Int32.toNatClampNeg (2 : Int32))), h178))))))))) else (bnd (fX6_must (0 : Int32) h172) fun _ h179 => (sto (hs h179 278 6 (0 : Int32)) fun h180 => (bnd (fX6_isWell  h180) fun v182 h181 => (if v182 = 0 then (some (((-1000100 : Int32) - (h181 278 8)), h181)) else (bnd (fX6_copies 285 (0 : Int32) 284 (0 : Int32) h181) fun _ h183 => (sto (hs h183 278 17 (0 : Int32)) fun h184 => (chk (inb (2 : Int32) (ln 284)) (some ((h184 284 (Int32.toNatClampNeg (2 : Int32))), h184)))))))))))))))) else (bnd (fX6_takes (0 : Int32) (1 : Int32) h153) fun v186 h185 => (fX6_estuary_L108 z1 FU  h185 fun h187 => (chk (inb (2 : Int32) (ln 285)) (if 0 < (h187 285 (Int32.toNatClampNeg (2 : Int32))) then (bnd (fX6_must (1 : Int32) h187) fun _ h188 => (fX6_estuary_L158 z1 FU  h188 fun h189 => (if (h189 278 11) = 0 then (bnd (fX6_must (1 : Int32) h189) fun _ h190 => (sto (hs h190 278 6 (0 : Int32)) fun h191 => (bnd (fX6_isWell  h191) fun v193 h192 => (if v193 = 0 then (some (((-1000100 : Int32) - (h192 278 8)), h192)) else (bnd (fX6_copies 285 (0 : Int32) 284 (0 : Int32) h192) fun _ h194 => (sto (hs h194 278 17 (0 : Int32)) fun h195 => (chk (inb (2 : Int32) (ln 284)) (some ((h195 284 (Int32.toNatClampNeg (2 : Int32))), h195))))))))) else (bnd (fX6_must (0 : Int32) h189) fun _ h196 => (sto (hs h196 278 6 (0 : Int32)) fun h197 => (bnd (fX6_isWell  h197) fun v199 h198 => (if v199 = 0 then (some (((-1000100 : Int32) - (h198 278 8)), h198)) else (bnd (fX6_copies 285 (0 : Int32) 284 (0 : Int32) h198) fun _ h200 => (sto (hs h200 278 17 (0 : Int32)) fun h201 => (chk (inb (2 : Int32) (ln 284)) (some ((h201 284 (Int32.toNatClampNeg (2 : Int32))), h201)))))))))))) else (bnd (fX6_must (0 : Int32) h187) fun _ h202 => (fX6_estuary_L158 z1 FU  h202 fun h203 => (if (h203 278 11) = 0 then (bnd (fX6_must (1 : Int32) h203) fun _ h204 => (sto (hs h204 278 6 (0 : Int32)) fun h205 => (bnd (fX6_isWell  h205) fun v207 h206 => (if v207 = 0 then (some (((-1000100 : Int32) - (h206 278 8)), h206)) else (bnd (fX6_copies 285 (0 : Int32) 284 (0 : Int32) h206) fun _ h208 => (sto (hs h208 278 17 (0 : Int32)) fun h209 => (chk (inb (2 : Int32) (ln 284)) (some ((h209 284 (Int32.toNatClampNeg (2 : Int32))), h209))))))))) else (bnd (fX6_must (0 : Int32) h203) fun _ h210 => (sto (hs h210 278 6 (0 : Int32)) fun h211 => (bnd (fX6_isWell  h211) fun v213 h212 => (if v213 = 0 then (some (((-1000100 : Int32) - (h212 278 8)), h212)) else (bnd (fX6_copies 285 (0 : Int32) 284 (0 : Int32) h212) fun _ h214 => (sto (hs h214 278 17 (0 : Int32)) fun h215 => (chk (inb (2 : Int32) (ln 284)) (some ((h215 284 (Int32.toNatClampNeg (2 : Int32))), h215)))))))))))))))))))))))))))))
set_option maxHeartbeats 4000000 in
theorem gX6_estuary_L2 {K : MC} {X : WX} (hK : Ok K X RX6 cX6_estuary 2 (some .int) 7) {k : Int32 → AH → Option (Int32 × AH)} (hk : ∀ (x1 : Int32) (h : AH), J K X 2 (Zm K X) eI 21 [(1, .int x1), (0, .ref (X.1 + 278))] [] h (k x1 h)) : ∀ (n : Nat) (x1 : Int32) (h : AH), J K X 2 (Zm K X) eI 2 [(1, .int x1), (0, .ref (X.1 + 278))] [] h (fX6_estuary_L2  n x1 h k) := by
  intro n
  induction n with
  | zero => exact fun _ _ => J_none
  | succ n ih =>
    intro x1 h
    rw [fX6_estuary_L2]
    refine J_iload_n hK dX6_estuary_2 0 rfl ?_
    refine J_bipush hK dX6_estuary_3 cb_43 ?_
    refine J_icmp_ge (tgt := 21) hK dX6_estuary_5 (by decide) ?_ ?_
    · refine J_aload_n hK dX6_estuary_8 1 rfl ?_
      refine rF_X6_28 (q2 := 285) hK dX6_estuary_9 kd_278 rfl ?_
      refine J_iload_n hK dX6_estuary_12 0 rfl ?_
      refine J_iconst hK dX6_estuary_13 ci_0 ?_
      refine J_iast hK dX6_estuary_14 kd_285 (fun h201 => ?_)
      refine J_iinc (lw := [(0, .ref (X.1 + 278))]) hK dX6_estuary_15 0 rfl (by decide) ci_1 rfl (fun z202 => ?_)
      refine J_goto (len := 0) (tgt := 2) hK dX6_estuary_18 (by decide) ?_
      exact J_sub [0, 1] rfl (ih _ _)
    · exact J_sub [0, 1] rfl (hk _ _)
set_option maxHeartbeats 4000000 in
theorem gX6_estuary_L108 {K : MC} {X : WX} {p1 : Int32} (hK : Ok K X RX6 cX6_estuary 2 (some .int) 7) {k : AH → Option (Int32 × AH)} (hk : ∀ (h : AH), J K X 2 (Zm K X) eI 140 [(1, .int p1), (0, .ref (X.1 + 278))] [] h (k h)) : ∀ (n : Nat) (h : AH), J K X 2 (Zm K X) eI 108 [(1, .int p1), (0, .ref (X.1 + 278))] [] h (fX6_estuary_L108 p1 n h k) := by
  intro n
  induction n with
  | zero => exact fun _ => J_none
  | succ n ih =>
    intro h
    rw [fX6_estuary_L108]
    refine J_aload_n hK dX6_estuary_108 1 rfl ?_
    refine J_callVi (q := 278) (As := []) (st := []) hK dX6_estuary_109 kB_X6_101 kV_X6_isWell kd_278 (by decide) rfl rfl (by decide) rfl rfl (Nat.le_of_ble_eq_true rfl) (fun _ _ hf => uX6_isWell  hf) (fun v302 h301 => ?_)
    refine J_if_eq (tgt := 140) hK dX6_estuary_112 (by decide) ?_ ?_
    · exact J_sub [0, 1] rfl (hk _)
    · refine J_aload_n hK dX6_estuary_115 1 rfl ?_
      refine gF_X6_95 hK dX6_estuary_116 kd_278 ?_
      refine J_iconst hK dX6_estuary_119 ci_1 ?_
      refine J_icmp_ne (tgt := 140) hK dX6_estuary_120 (by decide) ?_ ?_
      · refine J_aload_n hK dX6_estuary_123 1 rfl ?_
        refine gF_X6_92 hK dX6_estuary_124 kd_278 ?_
        refine J_callSi (As := [.int (h301 278 12)]) (st := []) hK dX6_estuary_127 kB_X6_118 kS_X6_kindOf (by decide) rfl rfl (Nat.le_of_ble_eq_true rfl) (fun _ _ hf => uX6_kindOf  hf) (fun v304 h303 => ?_)
        refine J_if_le (tgt := 140) hK dX6_estuary_130 (by decide) ?_ ?_
        · refine J_aload_n hK dX6_estuary_133 1 rfl ?_
          refine J_callVv (q := 278) (As := []) (st := []) hK dX6_estuary_134 kB_X6_124 kV_X6_readsTug kd_278 (by decide) rfl rfl (by decide) rfl rfl (Nat.le_of_ble_eq_true rfl) (fun _ _ hf => uX6_readsTug  hf) (fun _ h305 => ?_)
          refine J_goto (len := 0) (tgt := 108) hK dX6_estuary_137 (by decide) ?_
          exact J_sub [0, 1] rfl (ih _)
        · exact J_sub [0, 1] rfl (hk _)
      · exact J_sub [0, 1] rfl (hk _)
set_option maxHeartbeats 4000000 in
theorem gX6_estuary_L158 {K : MC} {X : WX} {p1 : Int32} (hK : Ok K X RX6 cX6_estuary 2 (some .int) 7) {k : AH → Option (Int32 × AH)} (hk : ∀ (h : AH), J K X 2 (Zm K X) eI 189 [(1, .int p1), (0, .ref (X.1 + 278))] [] h (k h)) : ∀ (n : Nat) (h : AH), J K X 2 (Zm K X) eI 158 [(1, .int p1), (0, .ref (X.1 + 278))] [] h (fX6_estuary_L158 p1 n h k) := by
  intro n
  induction n with
  | zero => exact fun _ => J_none
  | succ n ih =>
    intro h
    rw [fX6_estuary_L158]
    refine J_aload_n hK dX6_estuary_158 1 rfl ?_
    refine J_callVi (q := 278) (As := []) (st := []) hK dX6_estuary_159 kB_X6_101 kV_X6_isWell kd_278 (by decide) rfl rfl (by decide) rfl rfl (Nat.le_of_ble_eq_true rfl) (fun _ _ hf => uX6_isWell  hf) (fun v402 h401 => ?_)
    refine J_if_eq (tgt := 189) hK dX6_estuary_162 (by decide) ?_ ?_
    · exact J_sub [0, 1] rfl (hk _)
    · refine J_aload_n hK dX6_estuary_165 1 rfl ?_
      refine gF_X6_95 hK dX6_estuary_166 kd_278 ?_
      refine J_iconst hK dX6_estuary_169 ci_1 ?_
      refine J_icmp_ne (tgt := 189) hK dX6_estuary_170 (by decide) ?_ ?_
      · refine J_aload_n hK dX6_estuary_173 1 rfl ?_
        refine gF_X6_92 hK dX6_estuary_174 kd_278 ?_
        refine J_bipush hK dX6_estuary_177 cb_113 ?_
        refine J_icmp_ne (tgt := 189) hK dX6_estuary_179 (by decide) ?_ ?_
        · refine J_aload_n hK dX6_estuary_182 1 rfl ?_
          refine J_callVv (q := 278) (As := []) (st := []) hK dX6_estuary_183 kB_X6_131 kV_X6_readsPier kd_278 (by decide) rfl rfl (by decide) rfl rfl (Nat.le_of_ble_eq_true rfl) (fun _ _ hf => uX6_readsPier  hf) (fun _ h403 => ?_)
          refine J_goto (len := 0) (tgt := 158) hK dX6_estuary_186 (by decide) ?_
          exact J_sub [0, 1] rfl (ih _)
        · exact J_sub [0, 1] rfl (hk _)
      · exact J_sub [0, 1] rfl (hk _)
set_option maxHeartbeats 4000000 in
set_option maxRecDepth 4000 in
theorem uX6_estuary {l : Launch} {X : WX} {h h' : AH} {v : Int32} (hf : fX6_estuary  h = some (v, h')) : Does l X 7 yX6_estuary cX6_estuary 2 (some .int) [.ref (X.1 + 278)] h (eI v) h' := by
  refine Does.of (enc := eI) (o := fX6_estuary  h) (lv := [(0, .ref (X.1 + 278))]) (by decide) (Nat.le_of_ble_eq_true rfl) rfl hf (fun K hl hK => ?_)
  subst hl
  unfold fX6_estuary
  refine J_iconst hK dX6_estuary_0 ci_0 ?_
  refine J_istore_n (n := 1) (lw := [(0, .ref (X.1 + 278))]) hK dX6_estuary_1 rfl (by decide) rfl ?_
  refine J_sub [0, 1] rfl (gX6_estuary_L2 hK  (fun z1 h2 => ?_) FU _ _)
  refine J_aload_n hK dX6_estuary_21 1 rfl ?_
  refine J_iconst hK dX6_estuary_22 ci_0 ?_
  refine pF_X6_83 hK dX6_estuary_23 kd_278 (fun h3 => ?_)
  refine J_aload_n hK dX6_estuary_26 1 rfl ?_
  refine J_iconst hK dX6_estuary_27 ci_m1 ?_
  refine pF_X6_98 hK dX6_estuary_28 kd_278 (fun h4 => ?_)
  refine J_aload_n hK dX6_estuary_31 1 rfl ?_
  refine J_callVv (q := 278) (As := []) (st := []) hK dX6_estuary_32 kB_X6_108 kV_X6_advances kd_278 (by decide) rfl rfl (by decide) rfl rfl (Nat.le_of_ble_eq_true rfl) (fun _ _ hf => uX6_advances  hf) (fun _ h5 => ?_)
  refine J_aload_n hK dX6_estuary_35 1 rfl ?_
  refine J_aload_n hK dX6_estuary_36 1 rfl ?_
  refine gF_X6_95 hK dX6_estuary_37 kd_278 ?_
  refine J_iconst hK dX6_estuary_40 ci_1 ?_
  refine J_icmp_ne (tgt := 57) hK dX6_estuary_41 (by decide) ?_ ?_
  · refine J_aload_n hK dX6_estuary_44 1 rfl ?_
    refine gF_X6_92 hK dX6_estuary_45 kd_278 ?_
    refine J_bipush hK dX6_estuary_48 cb_116 ?_
    refine J_icmp_ne (tgt := 57) hK dX6_estuary_50 (by decide) ?_ ?_
    · refine J_iconst hK dX6_estuary_53 ci_1 ?_
      refine J_goto (len := 0) (tgt := 58) hK dX6_estuary_54 (by decide) ?_
      refine J_iconst hK dX6_estuary_58 ci_1 ?_
      refine J_callVi (q := 278) (As := [.int (1 : Int32), .int (1 : Int32)]) (st := []) hK dX6_estuary_59 kB_X6_111 kV_X6_takes kd_278 (by decide) rfl rfl (by decide) rfl rfl (Nat.le_of_ble_eq_true rfl) (fun _ _ hf => uX6_takes  hf) (fun v7 h6 => ?_)
      refine J_pop hK dX6_estuary_62 rfl ?_
      refine J_aload_n hK dX6_estuary_63 1 rfl ?_
      refine rF_X6_28 (q2 := 285) hK dX6_estuary_64 kd_278 rfl ?_
      refine J_iconst hK dX6_estuary_67 ci_0 ?_
      refine J_aload_n hK dX6_estuary_68 1 rfl ?_
      refine J_iconst hK dX6_estuary_69 ci_1 ?_
      refine J_bipush hK dX6_estuary_70 cb_60 ?_
      refine J_callVi (q := 278) (As := [.int (1 : Int32), .int (60 : Int32)]) (st := [.int (0 : Int32), .ref (X.1 + 285)]) hK dX6_estuary_72 kB_X6_115 kV_X6_figure kd_278 (by decide) rfl rfl (by decide) rfl rfl (Nat.le_of_ble_eq_true rfl) (fun _ _ hf => uX6_figure  hf) (fun v9 h8 => ?_)
      refine J_iast hK dX6_estuary_75 kd_285 (fun h10 => ?_)
      refine J_aload_n hK dX6_estuary_76 1 rfl ?_
      refine rF_X6_28 (q2 := 285) hK dX6_estuary_77 kd_278 rfl ?_
      refine J_iconst hK dX6_estuary_80 ci_1 ?_
      refine J_aload_n hK dX6_estuary_81 1 rfl ?_
      refine J_iconst hK dX6_estuary_82 ci_1 ?_
      refine J_bipush hK dX6_estuary_83 cb_99 ?_
      refine J_callVi (q := 278) (As := [.int (1 : Int32), .int (99 : Int32)]) (st := [.int (1 : Int32), .ref (X.1 + 285)]) hK dX6_estuary_85 kB_X6_121 kV_X6_follows kd_278 (by decide) rfl rfl (by decide) rfl rfl (Nat.le_of_ble_eq_true rfl) (fun _ _ hf => uX6_follows  hf) (fun v12 h11 => ?_)
      refine J_iast hK dX6_estuary_88 kd_285 (fun h13 => ?_)
      refine J_aload_n hK dX6_estuary_89 1 rfl ?_
      refine J_aload_n hK dX6_estuary_90 1 rfl ?_
      refine gF_X6_95 hK dX6_estuary_91 kd_278 ?_
      refine J_iconst hK dX6_estuary_94 ci_4 ?_
      refine J_icmp_ne (tgt := 102) hK dX6_estuary_95 (by decide) ?_ ?_
      · refine J_iconst hK dX6_estuary_98 ci_1 ?_
        refine J_goto (len := 0) (tgt := 103) hK dX6_estuary_99 (by decide) ?_
        refine J_iconst hK dX6_estuary_103 ci_1 ?_
        refine J_callVi (q := 278) (As := [.int (1 : Int32), .int (1 : Int32)]) (st := []) hK dX6_estuary_104 kB_X6_111 kV_X6_takes kd_278 (by decide) rfl rfl (by decide) rfl rfl (Nat.le_of_ble_eq_true rfl) (fun _ _ hf => uX6_takes  hf) (fun v15 h14 => ?_)
        refine J_pop hK dX6_estuary_107 rfl ?_
        refine J_sub [0, 1] rfl (gX6_estuary_L108 hK  (fun h16 => ?_) FU _)
        refine J_aload_n hK dX6_estuary_140 1 rfl ?_
        refine J_aload_n hK dX6_estuary_141 1 rfl ?_
        refine rF_X6_28 (q2 := 285) hK dX6_estuary_142 kd_278 rfl ?_
        refine J_iconst hK dX6_estuary_145 ci_2 ?_
        refine J_iald hK dX6_estuary_146 kd_285 (fun _ => ?_)
        refine J_if_le (tgt := 154) hK dX6_estuary_147 (by decide) ?_ ?_
        · refine J_iconst hK dX6_estuary_150 ci_1 ?_
          refine J_goto (len := 0) (tgt := 155) hK dX6_estuary_151 (by decide) ?_
          refine J_callVv (q := 278) (As := [.int (1 : Int32)]) (st := []) hK dX6_estuary_155 kB_X6_127 kV_X6_must kd_278 (by decide) rfl rfl (by decide) rfl rfl (Nat.le_of_ble_eq_true rfl) (fun _ _ hf => uX6_must  hf) (fun _ h17 => ?_)
          refine J_sub [0, 1] rfl (gX6_estuary_L158 hK  (fun h18 => ?_) FU _)
          refine J_aload_n hK dX6_estuary_189 1 rfl ?_
          refine J_aload_n hK dX6_estuary_190 1 rfl ?_
          refine gF_X6_95 hK dX6_estuary_191 kd_278 ?_
          refine J_if_ne (tgt := 201) hK dX6_estuary_194 (by decide) ?_ ?_
          · refine J_iconst hK dX6_estuary_197 ci_1 ?_
            refine J_goto (len := 0) (tgt := 202) hK dX6_estuary_198 (by decide) ?_
            refine J_callVv (q := 278) (As := [.int (1 : Int32)]) (st := []) hK dX6_estuary_202 kB_X6_127 kV_X6_must kd_278 (by decide) rfl rfl (by decide) rfl rfl (Nat.le_of_ble_eq_true rfl) (fun _ _ hf => uX6_must  hf) (fun _ h19 => ?_)
            refine J_aload_n hK dX6_estuary_205 1 rfl ?_
            refine J_iconst hK dX6_estuary_206 ci_0 ?_
            refine pF_X6_79 hK dX6_estuary_207 kd_278 (fun h20 => ?_)
            refine J_aload_n hK dX6_estuary_210 1 rfl ?_
            refine J_callVi (q := 278) (As := []) (st := []) hK dX6_estuary_211 kB_X6_101 kV_X6_isWell kd_278 (by decide) rfl rfl (by decide) rfl rfl (Nat.le_of_ble_eq_true rfl) (fun _ _ hf => uX6_isWell  hf) (fun v22 h21 => ?_)
            refine J_if_ne (tgt := 225) hK dX6_estuary_214 (by decide) ?_ ?_
            · refine J_ldc hK dX6_estuary_217 kK_X6_134 ?_
              refine J_aload_n hK dX6_estuary_219 1 rfl ?_
              refine gF_X6_98 hK dX6_estuary_220 kd_278 ?_
              refine J_isub hK dX6_estuary_223 ?_
              exact J_iret hK dX6_estuary_224
            · refine J_aload_n hK dX6_estuary_225 1 rfl ?_
              refine rF_X6_28 (q2 := 285) hK dX6_estuary_226 kd_278 rfl ?_
              refine J_iconst hK dX6_estuary_229 ci_0 ?_
              refine J_aload_n hK dX6_estuary_230 1 rfl ?_
              refine rF_X6_25 (q2 := 284) hK dX6_estuary_231 kd_278 rfl ?_
              refine J_iconst hK dX6_estuary_234 ci_0 ?_
              refine J_callSv (As := [.ref (X.1 + 285), .int (0 : Int32), .ref (X.1 + 284), .int (0 : Int32)]) (st := []) hK dX6_estuary_235 kB_X6_135 kS_X6_copies (by decide) rfl rfl (Nat.le_of_ble_eq_true rfl) (fun _ _ hf => uX6_copies kd_285 kd_284 hf) (fun _ h23 => ?_)
              refine J_aload_n hK dX6_estuary_238 1 rfl ?_
              refine J_iconst hK dX6_estuary_239 ci_0 ?_
              refine pF_X6_139 hK dX6_estuary_240 kd_278 (fun h24 => ?_)
              refine J_aload_n hK dX6_estuary_243 1 rfl ?_
              refine rF_X6_25 (q2 := 284) hK dX6_estuary_244 kd_278 rfl ?_
              refine J_iconst hK dX6_estuary_247 ci_2 ?_
              refine J_iald hK dX6_estuary_248 kd_284 (fun _ => ?_)
              exact J_iret hK dX6_estuary_249
          · refine J_iconst hK dX6_estuary_201 ci_0 ?_
            refine J_callVv (q := 278) (As := [.int (0 : Int32)]) (st := []) hK dX6_estuary_202 kB_X6_127 kV_X6_must kd_278 (by decide) rfl rfl (by decide) rfl rfl (Nat.le_of_ble_eq_true rfl) (fun _ _ hf => uX6_must  hf) (fun _ h25 => ?_)
            refine J_aload_n hK dX6_estuary_205 1 rfl ?_
            refine J_iconst hK dX6_estuary_206 ci_0 ?_
            refine pF_X6_79 hK dX6_estuary_207 kd_278 (fun h26 => ?_)
            refine J_aload_n hK dX6_estuary_210 1 rfl ?_
            refine J_callVi (q := 278) (As := []) (st := []) hK dX6_estuary_211 kB_X6_101 kV_X6_isWell kd_278 (by decide) rfl rfl (by decide) rfl rfl (Nat.le_of_ble_eq_true rfl) (fun _ _ hf => uX6_isWell  hf) (fun v28 h27 => ?_)
            refine J_if_ne (tgt := 225) hK dX6_estuary_214 (by decide) ?_ ?_
            · refine J_ldc hK dX6_estuary_217 kK_X6_134 ?_
              refine J_aload_n hK dX6_estuary_219 1 rfl ?_
              refine gF_X6_98 hK dX6_estuary_220 kd_278 ?_
              refine J_isub hK dX6_estuary_223 ?_
              exact J_iret hK dX6_estuary_224
            · refine J_aload_n hK dX6_estuary_225 1 rfl ?_
              refine rF_X6_28 (q2 := 285) hK dX6_estuary_226 kd_278 rfl ?_
              refine J_iconst hK dX6_estuary_229 ci_0 ?_
              refine J_aload_n hK dX6_estuary_230 1 rfl ?_
              refine rF_X6_25 (q2 := 284) hK dX6_estuary_231 kd_278 rfl ?_
              refine J_iconst hK dX6_estuary_234 ci_0 ?_
              refine J_callSv (As := [.ref (X.1 + 285), .int (0 : Int32), .ref (X.1 + 284), .int (0 : Int32)]) (st := []) hK dX6_estuary_235 kB_X6_135 kS_X6_copies (by decide) rfl rfl (Nat.le_of_ble_eq_true rfl) (fun _ _ hf => uX6_copies kd_285 kd_284 hf) (fun _ h29 => ?_)
              refine J_aload_n hK dX6_estuary_238 1 rfl ?_
              refine J_iconst hK dX6_estuary_239 ci_0 ?_
              refine pF_X6_139 hK dX6_estuary_240 kd_278 (fun h30 => ?_)
              refine J_aload_n hK dX6_estuary_243 1 rfl ?_
              refine rF_X6_25 (q2 := 284) hK dX6_estuary_244 kd_278 rfl ?_
              refine J_iconst hK dX6_estuary_247 ci_2 ?_
              refine J_iald hK dX6_estuary_248 kd_284 (fun _ => ?_)
              exact J_iret hK dX6_estuary_249
        · refine J_iconst hK dX6_estuary_154 ci_0 ?_
          refine J_callVv (q := 278) (As := [.int (0 : Int32)]) (st := []) hK dX6_estuary_155 kB_X6_127 kV_X6_must kd_278 (by decide) rfl rfl (by decide) rfl rfl (Nat.le_of_ble_eq_true rfl) (fun _ _ hf => uX6_must  hf) (fun _ h31 => ?_)
          refine J_sub [0, 1] rfl (gX6_estuary_L158 hK  (fun h32 => ?_) FU _)
          refine J_aload_n hK dX6_estuary_189 1 rfl ?_
          refine J_aload_n hK dX6_estuary_190 1 rfl ?_
          refine gF_X6_95 hK dX6_estuary_191 kd_278 ?_
          refine J_if_ne (tgt := 201) hK dX6_estuary_194 (by decide) ?_ ?_
          · refine J_iconst hK dX6_estuary_197 ci_1 ?_
            refine J_goto (len := 0) (tgt := 202) hK dX6_estuary_198 (by decide) ?_
            refine J_callVv (q := 278) (As := [.int (1 : Int32)]) (st := []) hK dX6_estuary_202 kB_X6_127 kV_X6_must kd_278 (by decide) rfl rfl (by decide) rfl rfl (Nat.le_of_ble_eq_true rfl) (fun _ _ hf => uX6_must  hf) (fun _ h33 => ?_)
            refine J_aload_n hK dX6_estuary_205 1 rfl ?_
            refine J_iconst hK dX6_estuary_206 ci_0 ?_
            refine pF_X6_79 hK dX6_estuary_207 kd_278 (fun h34 => ?_)
            refine J_aload_n hK dX6_estuary_210 1 rfl ?_
            refine J_callVi (q := 278) (As := []) (st := []) hK dX6_estuary_211 kB_X6_101 kV_X6_isWell kd_278 (by decide) rfl rfl (by decide) rfl rfl (Nat.le_of_ble_eq_true rfl) (fun _ _ hf => uX6_isWell  hf) (fun v36 h35 => ?_)
            refine J_if_ne (tgt := 225) hK dX6_estuary_214 (by decide) ?_ ?_
            · refine J_ldc hK dX6_estuary_217 kK_X6_134 ?_
              refine J_aload_n hK dX6_estuary_219 1 rfl ?_
              refine gF_X6_98 hK dX6_estuary_220 kd_278 ?_
              refine J_isub hK dX6_estuary_223 ?_
              exact J_iret hK dX6_estuary_224
            · refine J_aload_n hK dX6_estuary_225 1 rfl ?_
              refine rF_X6_28 (q2 := 285) hK dX6_estuary_226 kd_278 rfl ?_
              refine J_iconst hK dX6_estuary_229 ci_0 ?_
              refine J_aload_n hK dX6_estuary_230 1 rfl ?_
              refine rF_X6_25 (q2 := 284) hK dX6_estuary_231 kd_278 rfl ?_
              refine J_iconst hK dX6_estuary_234 ci_0 ?_
              refine J_callSv (As := [.ref (X.1 + 285), .int (0 : Int32), .ref (X.1 + 284), .int (0 : Int32)]) (st := []) hK dX6_estuary_235 kB_X6_135 kS_X6_copies (by decide) rfl rfl (Nat.le_of_ble_eq_true rfl) (fun _ _ hf => uX6_copies kd_285 kd_284 hf) (fun _ h37 => ?_)
              refine J_aload_n hK dX6_estuary_238 1 rfl ?_
              refine J_iconst hK dX6_estuary_239 ci_0 ?_
              refine pF_X6_139 hK dX6_estuary_240 kd_278 (fun h38 => ?_)
              refine J_aload_n hK dX6_estuary_243 1 rfl ?_
              refine rF_X6_25 (q2 := 284) hK dX6_estuary_244 kd_278 rfl ?_
              refine J_iconst hK dX6_estuary_247 ci_2 ?_
              refine J_iald hK dX6_estuary_248 kd_284 (fun _ => ?_)
              exact J_iret hK dX6_estuary_249
          · refine J_iconst hK dX6_estuary_201 ci_0 ?_
            refine J_callVv (q := 278) (As := [.int (0 : Int32)]) (st := []) hK dX6_estuary_202 kB_X6_127 kV_X6_must kd_278 (by decide) rfl rfl (by decide) rfl rfl (Nat.le_of_ble_eq_true rfl) (fun _ _ hf => uX6_must  hf) (fun _ h39 => ?_)
            refine J_aload_n hK dX6_estuary_205 1 rfl ?_
            refine J_iconst hK dX6_estuary_206 ci_0 ?_
            refine pF_X6_79 hK dX6_estuary_207 kd_278 (fun h40 => ?_)
            refine J_aload_n hK dX6_estuary_210 1 rfl ?_
            refine J_callVi (q := 278) (As := []) (st := []) hK dX6_estuary_211 kB_X6_101 kV_X6_isWell kd_278 (by decide) rfl rfl (by decide) rfl rfl (Nat.le_of_ble_eq_true rfl) (fun _ _ hf => uX6_isWell  hf) (fun v42 h41 => ?_)
            refine J_if_ne (tgt := 225) hK dX6_estuary_214 (by decide) ?_ ?_
            · refine J_ldc hK dX6_estuary_217 kK_X6_134 ?_
              refine J_aload_n hK dX6_estuary_219 1 rfl ?_
              refine gF_X6_98 hK dX6_estuary_220 kd_278 ?_
              refine J_isub hK dX6_estuary_223 ?_
              exact J_iret hK dX6_estuary_224
            · refine J_aload_n hK dX6_estuary_225 1 rfl ?_
              refine rF_X6_28 (q2 := 285) hK dX6_estuary_226 kd_278 rfl ?_
              refine J_iconst hK dX6_estuary_229 ci_0 ?_
              refine J_aload_n hK dX6_estuary_230 1 rfl ?_
              refine rF_X6_25 (q2 := 284) hK dX6_estuary_231 kd_278 rfl ?_
              refine J_iconst hK dX6_estuary_234 ci_0 ?_
              refine J_callSv (As := [.ref (X.1 + 285), .int (0 : Int32), .ref (X.1 + 284), .int (0 : Int32)]) (st := []) hK dX6_estuary_235 kB_X6_135 kS_X6_copies (by decide) rfl rfl (Nat.le_of_ble_eq_true rfl) (fun _ _ hf => uX6_copies kd_285 kd_284 hf) (fun _ h43 => ?_)
              refine J_aload_n hK dX6_estuary_238 1 rfl ?_
              refine J_iconst hK dX6_estuary_239 ci_0 ?_
              refine pF_X6_139 hK dX6_estuary_240 kd_278 (fun h44 => ?_)
              refine J_aload_n hK dX6_estuary_243 1 rfl ?_
              refine rF_X6_25 (q2 := 284) hK dX6_estuary_244 kd_278 rfl ?_
              refine J_iconst hK dX6_estuary_247 ci_2 ?_
              refine J_iald hK dX6_estuary_248 kd_284 (fun _ => ?_)
              exact J_iret hK dX6_estuary_249
      · refine J_iconst hK dX6_estuary_102 ci_0 ?_
        refine J_iconst hK dX6_estuary_103 ci_1 ?_
        refine J_callVi (q := 278) (As := [.int (0 : Int32), .int (1 : Int32)]) (st := []) hK dX6_estuary_104 kB_X6_111 kV_X6_takes kd_278 (by decide) rfl rfl (by decide) rfl rfl (Nat.le_of_ble_eq_true rfl) (fun _ _ hf => uX6_takes  hf) (fun v46 h45 => ?_)
        refine J_pop hK dX6_estuary_107 rfl ?_
        refine J_sub [0, 1] rfl (gX6_estuary_L108 hK  (fun h47 => ?_) FU _)
        refine J_aload_n hK dX6_estuary_140 1 rfl ?_
        refine J_aload_n hK dX6_estuary_141 1 rfl ?_
        refine rF_X6_28 (q2 := 285) hK dX6_estuary_142 kd_278 rfl ?_
        refine J_iconst hK dX6_estuary_145 ci_2 ?_
        refine J_iald hK dX6_estuary_146 kd_285 (fun _ => ?_)
        refine J_if_le (tgt := 154) hK dX6_estuary_147 (by decide) ?_ ?_
        · refine J_iconst hK dX6_estuary_150 ci_1 ?_
          refine J_goto (len := 0) (tgt := 155) hK dX6_estuary_151 (by decide) ?_
          refine J_callVv (q := 278) (As := [.int (1 : Int32)]) (st := []) hK dX6_estuary_155 kB_X6_127 kV_X6_must kd_278 (by decide) rfl rfl (by decide) rfl rfl (Nat.le_of_ble_eq_true rfl) (fun _ _ hf => uX6_must  hf) (fun _ h48 => ?_)
          refine J_sub [0, 1] rfl (gX6_estuary_L158 hK  (fun h49 => ?_) FU _)
          refine J_aload_n hK dX6_estuary_189 1 rfl ?_
          refine J_aload_n hK dX6_estuary_190 1 rfl ?_
          refine gF_X6_95 hK dX6_estuary_191 kd_278 ?_
          refine J_if_ne (tgt := 201) hK dX6_estuary_194 (by decide) ?_ ?_
          · refine J_iconst hK dX6_estuary_197 ci_1 ?_
            refine J_goto (len := 0) (tgt := 202) hK dX6_estuary_198 (by decide) ?_
            refine J_callVv (q := 278) (As := [.int (1 : Int32)]) (st := []) hK dX6_estuary_202 kB_X6_127 kV_X6_must kd_278 (by decide) rfl rfl (by decide) rfl rfl (Nat.le_of_ble_eq_true rfl) (fun _ _ hf => uX6_must  hf) (fun _ h50 => ?_)
            refine J_aload_n hK dX6_estuary_205 1 rfl ?_
            refine J_iconst hK dX6_estuary_206 ci_0 ?_
            refine pF_X6_79 hK dX6_estuary_207 kd_278 (fun h51 => ?_)
            refine J_aload_n hK dX6_estuary_210 1 rfl ?_
            refine J_callVi (q := 278) (As := []) (st := []) hK dX6_estuary_211 kB_X6_101 kV_X6_isWell kd_278 (by decide) rfl rfl (by decide) rfl rfl (Nat.le_of_ble_eq_true rfl) (fun _ _ hf => uX6_isWell  hf) (fun v53 h52 => ?_)
            refine J_if_ne (tgt := 225) hK dX6_estuary_214 (by decide) ?_ ?_
            · refine J_ldc hK dX6_estuary_217 kK_X6_134 ?_
              refine J_aload_n hK dX6_estuary_219 1 rfl ?_
              refine gF_X6_98 hK dX6_estuary_220 kd_278 ?_
              refine J_isub hK dX6_estuary_223 ?_
              exact J_iret hK dX6_estuary_224
            · refine J_aload_n hK dX6_estuary_225 1 rfl ?_
              refine rF_X6_28 (q2 := 285) hK dX6_estuary_226 kd_278 rfl ?_
              refine J_iconst hK dX6_estuary_229 ci_0 ?_
              refine J_aload_n hK dX6_estuary_230 1 rfl ?_
              refine rF_X6_25 (q2 := 284) hK dX6_estuary_231 kd_278 rfl ?_
              refine J_iconst hK dX6_estuary_234 ci_0 ?_
              refine J_callSv (As := [.ref (X.1 + 285), .int (0 : Int32), .ref (X.1 + 284), .int (0 : Int32)]) (st := []) hK dX6_estuary_235 kB_X6_135 kS_X6_copies (by decide) rfl rfl (Nat.le_of_ble_eq_true rfl) (fun _ _ hf => uX6_copies kd_285 kd_284 hf) (fun _ h54 => ?_)
              refine J_aload_n hK dX6_estuary_238 1 rfl ?_
              refine J_iconst hK dX6_estuary_239 ci_0 ?_
              refine pF_X6_139 hK dX6_estuary_240 kd_278 (fun h55 => ?_)
              refine J_aload_n hK dX6_estuary_243 1 rfl ?_
              refine rF_X6_25 (q2 := 284) hK dX6_estuary_244 kd_278 rfl ?_
              refine J_iconst hK dX6_estuary_247 ci_2 ?_
              refine J_iald hK dX6_estuary_248 kd_284 (fun _ => ?_)
              exact J_iret hK dX6_estuary_249
          · refine J_iconst hK dX6_estuary_201 ci_0 ?_
            refine J_callVv (q := 278) (As := [.int (0 : Int32)]) (st := []) hK dX6_estuary_202 kB_X6_127 kV_X6_must kd_278 (by decide) rfl rfl (by decide) rfl rfl (Nat.le_of_ble_eq_true rfl) (fun _ _ hf => uX6_must  hf) (fun _ h56 => ?_)
            refine J_aload_n hK dX6_estuary_205 1 rfl ?_
            refine J_iconst hK dX6_estuary_206 ci_0 ?_
            refine pF_X6_79 hK dX6_estuary_207 kd_278 (fun h57 => ?_)
            refine J_aload_n hK dX6_estuary_210 1 rfl ?_
            refine J_callVi (q := 278) (As := []) (st := []) hK dX6_estuary_211 kB_X6_101 kV_X6_isWell kd_278 (by decide) rfl rfl (by decide) rfl rfl (Nat.le_of_ble_eq_true rfl) (fun _ _ hf => uX6_isWell  hf) (fun v59 h58 => ?_)
            refine J_if_ne (tgt := 225) hK dX6_estuary_214 (by decide) ?_ ?_
            · refine J_ldc hK dX6_estuary_217 kK_X6_134 ?_
              refine J_aload_n hK dX6_estuary_219 1 rfl ?_
              refine gF_X6_98 hK dX6_estuary_220 kd_278 ?_
              refine J_isub hK dX6_estuary_223 ?_
              exact J_iret hK dX6_estuary_224
            · refine J_aload_n hK dX6_estuary_225 1 rfl ?_
              refine rF_X6_28 (q2 := 285) hK dX6_estuary_226 kd_278 rfl ?_
              refine J_iconst hK dX6_estuary_229 ci_0 ?_
              refine J_aload_n hK dX6_estuary_230 1 rfl ?_
              refine rF_X6_25 (q2 := 284) hK dX6_estuary_231 kd_278 rfl ?_
              refine J_iconst hK dX6_estuary_234 ci_0 ?_
              refine J_callSv (As := [.ref (X.1 + 285), .int (0 : Int32), .ref (X.1 + 284), .int (0 : Int32)]) (st := []) hK dX6_estuary_235 kB_X6_135 kS_X6_copies (by decide) rfl rfl (Nat.le_of_ble_eq_true rfl) (fun _ _ hf => uX6_copies kd_285 kd_284 hf) (fun _ h60 => ?_)
              refine J_aload_n hK dX6_estuary_238 1 rfl ?_
              refine J_iconst hK dX6_estuary_239 ci_0 ?_
              refine pF_X6_139 hK dX6_estuary_240 kd_278 (fun h61 => ?_)
              refine J_aload_n hK dX6_estuary_243 1 rfl ?_
              refine rF_X6_25 (q2 := 284) hK dX6_estuary_244 kd_278 rfl ?_
              refine J_iconst hK dX6_estuary_247 ci_2 ?_
              refine J_iald hK dX6_estuary_248 kd_284 (fun _ => ?_)
              exact J_iret hK dX6_estuary_249
        · refine J_iconst hK dX6_estuary_154 ci_0 ?_
          refine J_callVv (q := 278) (As := [.int (0 : Int32)]) (st := []) hK dX6_estuary_155 kB_X6_127 kV_X6_must kd_278 (by decide) rfl rfl (by decide) rfl rfl (Nat.le_of_ble_eq_true rfl) (fun _ _ hf => uX6_must  hf) (fun _ h62 => ?_)
          refine J_sub [0, 1] rfl (gX6_estuary_L158 hK  (fun h63 => ?_) FU _)
          refine J_aload_n hK dX6_estuary_189 1 rfl ?_
          refine J_aload_n hK dX6_estuary_190 1 rfl ?_
          refine gF_X6_95 hK dX6_estuary_191 kd_278 ?_
          refine J_if_ne (tgt := 201) hK dX6_estuary_194 (by decide) ?_ ?_
          · refine J_iconst hK dX6_estuary_197 ci_1 ?_
            refine J_goto (len := 0) (tgt := 202) hK dX6_estuary_198 (by decide) ?_
            refine J_callVv (q := 278) (As := [.int (1 : Int32)]) (st := []) hK dX6_estuary_202 kB_X6_127 kV_X6_must kd_278 (by decide) rfl rfl (by decide) rfl rfl (Nat.le_of_ble_eq_true rfl) (fun _ _ hf => uX6_must  hf) (fun _ h64 => ?_)
            refine J_aload_n hK dX6_estuary_205 1 rfl ?_
            refine J_iconst hK dX6_estuary_206 ci_0 ?_
            refine pF_X6_79 hK dX6_estuary_207 kd_278 (fun h65 => ?_)
            refine J_aload_n hK dX6_estuary_210 1 rfl ?_
            refine J_callVi (q := 278) (As := []) (st := []) hK dX6_estuary_211 kB_X6_101 kV_X6_isWell kd_278 (by decide) rfl rfl (by decide) rfl rfl (Nat.le_of_ble_eq_true rfl) (fun _ _ hf => uX6_isWell  hf) (fun v67 h66 => ?_)
            refine J_if_ne (tgt := 225) hK dX6_estuary_214 (by decide) ?_ ?_
            · refine J_ldc hK dX6_estuary_217 kK_X6_134 ?_
              refine J_aload_n hK dX6_estuary_219 1 rfl ?_
              refine gF_X6_98 hK dX6_estuary_220 kd_278 ?_
              refine J_isub hK dX6_estuary_223 ?_
              exact J_iret hK dX6_estuary_224
            · refine J_aload_n hK dX6_estuary_225 1 rfl ?_
              refine rF_X6_28 (q2 := 285) hK dX6_estuary_226 kd_278 rfl ?_
              refine J_iconst hK dX6_estuary_229 ci_0 ?_
              refine J_aload_n hK dX6_estuary_230 1 rfl ?_
              refine rF_X6_25 (q2 := 284) hK dX6_estuary_231 kd_278 rfl ?_
              refine J_iconst hK dX6_estuary_234 ci_0 ?_
              refine J_callSv (As := [.ref (X.1 + 285), .int (0 : Int32), .ref (X.1 + 284), .int (0 : Int32)]) (st := []) hK dX6_estuary_235 kB_X6_135 kS_X6_copies (by decide) rfl rfl (Nat.le_of_ble_eq_true rfl) (fun _ _ hf => uX6_copies kd_285 kd_284 hf) (fun _ h68 => ?_)
              refine J_aload_n hK dX6_estuary_238 1 rfl ?_
              refine J_iconst hK dX6_estuary_239 ci_0 ?_
              refine pF_X6_139 hK dX6_estuary_240 kd_278 (fun h69 => ?_)
              refine J_aload_n hK dX6_estuary_243 1 rfl ?_
              refine rF_X6_25 (q2 := 284) hK dX6_estuary_244 kd_278 rfl ?_
              refine J_iconst hK dX6_estuary_247 ci_2 ?_
              refine J_iald hK dX6_estuary_248 kd_284 (fun _ => ?_)
              exact J_iret hK dX6_estuary_249
          · refine J_iconst hK dX6_estuary_201 ci_0 ?_
            refine J_callVv (q := 278) (As := [.int (0 : Int32)]) (st := []) hK dX6_estuary_202 kB_X6_127 kV_X6_must kd_278 (by decide) rfl rfl (by decide) rfl rfl (Nat.le_of_ble_eq_true rfl) (fun _ _ hf => uX6_must  hf) (fun _ h70 => ?_)
            refine J_aload_n hK dX6_estuary_205 1 rfl ?_
            refine J_iconst hK dX6_estuary_206 ci_0 ?_
            refine pF_X6_79 hK dX6_estuary_207 kd_278 (fun h71 => ?_)
            refine J_aload_n hK dX6_estuary_210 1 rfl ?_
            refine J_callVi (q := 278) (As := []) (st := []) hK dX6_estuary_211 kB_X6_101 kV_X6_isWell kd_278 (by decide) rfl rfl (by decide) rfl rfl (Nat.le_of_ble_eq_true rfl) (fun _ _ hf => uX6_isWell  hf) (fun v73 h72 => ?_)
            refine J_if_ne (tgt := 225) hK dX6_estuary_214 (by decide) ?_ ?_
            · refine J_ldc hK dX6_estuary_217 kK_X6_134 ?_
              refine J_aload_n hK dX6_estuary_219 1 rfl ?_
              refine gF_X6_98 hK dX6_estuary_220 kd_278 ?_
              refine J_isub hK dX6_estuary_223 ?_
              exact J_iret hK dX6_estuary_224
            · refine J_aload_n hK dX6_estuary_225 1 rfl ?_
              refine rF_X6_28 (q2 := 285) hK dX6_estuary_226 kd_278 rfl ?_
              refine J_iconst hK dX6_estuary_229 ci_0 ?_
              refine J_aload_n hK dX6_estuary_230 1 rfl ?_
              refine rF_X6_25 (q2 := 284) hK dX6_estuary_231 kd_278 rfl ?_
              refine J_iconst hK dX6_estuary_234 ci_0 ?_
              refine J_callSv (As := [.ref (X.1 + 285), .int (0 : Int32), .ref (X.1 + 284), .int (0 : Int32)]) (st := []) hK dX6_estuary_235 kB_X6_135 kS_X6_copies (by decide) rfl rfl (Nat.le_of_ble_eq_true rfl) (fun _ _ hf => uX6_copies kd_285 kd_284 hf) (fun _ h74 => ?_)
              refine J_aload_n hK dX6_estuary_238 1 rfl ?_
              refine J_iconst hK dX6_estuary_239 ci_0 ?_
              refine pF_X6_139 hK dX6_estuary_240 kd_278 (fun h75 => ?_)
              refine J_aload_n hK dX6_estuary_243 1 rfl ?_
              refine rF_X6_25 (q2 := 284) hK dX6_estuary_244 kd_278 rfl ?_
              refine J_iconst hK dX6_estuary_247 ci_2 ?_
              refine J_iald hK dX6_estuary_248 kd_284 (fun _ => ?_)
              exact J_iret hK dX6_estuary_249
    · refine J_iconst hK dX6_estuary_57 ci_0 ?_
      refine J_iconst hK dX6_estuary_58 ci_1 ?_
      refine J_callVi (q := 278) (As := [.int (0 : Int32), .int (1 : Int32)]) (st := []) hK dX6_estuary_59 kB_X6_111 kV_X6_takes kd_278 (by decide) rfl rfl (by decide) rfl rfl (Nat.le_of_ble_eq_true rfl) (fun _ _ hf => uX6_takes  hf) (fun v77 h76 => ?_)
      refine J_pop hK dX6_estuary_62 rfl ?_
      refine J_aload_n hK dX6_estuary_63 1 rfl ?_
      refine rF_X6_28 (q2 := 285) hK dX6_estuary_64 kd_278 rfl ?_
      refine J_iconst hK dX6_estuary_67 ci_0 ?_
      refine J_aload_n hK dX6_estuary_68 1 rfl ?_
      refine J_iconst hK dX6_estuary_69 ci_1 ?_
      refine J_bipush hK dX6_estuary_70 cb_60 ?_
      refine J_callVi (q := 278) (As := [.int (1 : Int32), .int (60 : Int32)]) (st := [.int (0 : Int32), .ref (X.1 + 285)]) hK dX6_estuary_72 kB_X6_115 kV_X6_figure kd_278 (by decide) rfl rfl (by decide) rfl rfl (Nat.le_of_ble_eq_true rfl) (fun _ _ hf => uX6_figure  hf) (fun v79 h78 => ?_)
      refine J_iast hK dX6_estuary_75 kd_285 (fun h80 => ?_)
      refine J_aload_n hK dX6_estuary_76 1 rfl ?_
      refine rF_X6_28 (q2 := 285) hK dX6_estuary_77 kd_278 rfl ?_
      refine J_iconst hK dX6_estuary_80 ci_1 ?_
      refine J_aload_n hK dX6_estuary_81 1 rfl ?_
      refine J_iconst hK dX6_estuary_82 ci_1 ?_
      refine J_bipush hK dX6_estuary_83 cb_99 ?_
      refine J_callVi (q := 278) (As := [.int (1 : Int32), .int (99 : Int32)]) (st := [.int (1 : Int32), .ref (X.1 + 285)]) hK dX6_estuary_85 kB_X6_121 kV_X6_follows kd_278 (by decide) rfl rfl (by decide) rfl rfl (Nat.le_of_ble_eq_true rfl) (fun _ _ hf => uX6_follows  hf) (fun v82 h81 => ?_)
      refine J_iast hK dX6_estuary_88 kd_285 (fun h83 => ?_)
      refine J_aload_n hK dX6_estuary_89 1 rfl ?_
      refine J_aload_n hK dX6_estuary_90 1 rfl ?_
      refine gF_X6_95 hK dX6_estuary_91 kd_278 ?_
      refine J_iconst hK dX6_estuary_94 ci_4 ?_
      refine J_icmp_ne (tgt := 102) hK dX6_estuary_95 (by decide) ?_ ?_
      · refine J_iconst hK dX6_estuary_98 ci_1 ?_
        refine J_goto (len := 0) (tgt := 103) hK dX6_estuary_99 (by decide) ?_
        refine J_iconst hK dX6_estuary_103 ci_1 ?_
        refine J_callVi (q := 278) (As := [.int (1 : Int32), .int (1 : Int32)]) (st := []) hK dX6_estuary_104 kB_X6_111 kV_X6_takes kd_278 (by decide) rfl rfl (by decide) rfl rfl (Nat.le_of_ble_eq_true rfl) (fun _ _ hf => uX6_takes  hf) (fun v85 h84 => ?_)
        refine J_pop hK dX6_estuary_107 rfl ?_
        refine J_sub [0, 1] rfl (gX6_estuary_L108 hK  (fun h86 => ?_) FU _)
        refine J_aload_n hK dX6_estuary_140 1 rfl ?_
        refine J_aload_n hK dX6_estuary_141 1 rfl ?_
        refine rF_X6_28 (q2 := 285) hK dX6_estuary_142 kd_278 rfl ?_
        refine J_iconst hK dX6_estuary_145 ci_2 ?_
        refine J_iald hK dX6_estuary_146 kd_285 (fun _ => ?_)
        refine J_if_le (tgt := 154) hK dX6_estuary_147 (by decide) ?_ ?_
        · refine J_iconst hK dX6_estuary_150 ci_1 ?_
          refine J_goto (len := 0) (tgt := 155) hK dX6_estuary_151 (by decide) ?_
          refine J_callVv (q := 278) (As := [.int (1 : Int32)]) (st := []) hK dX6_estuary_155 kB_X6_127 kV_X6_must kd_278 (by decide) rfl rfl (by decide) rfl rfl (Nat.le_of_ble_eq_true rfl) (fun _ _ hf => uX6_must  hf) (fun _ h87 => ?_)
          refine J_sub [0, 1] rfl (gX6_estuary_L158 hK  (fun h88 => ?_) FU _)
          refine J_aload_n hK dX6_estuary_189 1 rfl ?_
          refine J_aload_n hK dX6_estuary_190 1 rfl ?_
          refine gF_X6_95 hK dX6_estuary_191 kd_278 ?_
          refine J_if_ne (tgt := 201) hK dX6_estuary_194 (by decide) ?_ ?_
          · refine J_iconst hK dX6_estuary_197 ci_1 ?_
            refine J_goto (len := 0) (tgt := 202) hK dX6_estuary_198 (by decide) ?_
            refine J_callVv (q := 278) (As := [.int (1 : Int32)]) (st := []) hK dX6_estuary_202 kB_X6_127 kV_X6_must kd_278 (by decide) rfl rfl (by decide) rfl rfl (Nat.le_of_ble_eq_true rfl) (fun _ _ hf => uX6_must  hf) (fun _ h89 => ?_)
            refine J_aload_n hK dX6_estuary_205 1 rfl ?_
            refine J_iconst hK dX6_estuary_206 ci_0 ?_
            refine pF_X6_79 hK dX6_estuary_207 kd_278 (fun h90 => ?_)
            refine J_aload_n hK dX6_estuary_210 1 rfl ?_
            refine J_callVi (q := 278) (As := []) (st := []) hK dX6_estuary_211 kB_X6_101 kV_X6_isWell kd_278 (by decide) rfl rfl (by decide) rfl rfl (Nat.le_of_ble_eq_true rfl) (fun _ _ hf => uX6_isWell  hf) (fun v92 h91 => ?_)
            refine J_if_ne (tgt := 225) hK dX6_estuary_214 (by decide) ?_ ?_
            · refine J_ldc hK dX6_estuary_217 kK_X6_134 ?_
              refine J_aload_n hK dX6_estuary_219 1 rfl ?_
              refine gF_X6_98 hK dX6_estuary_220 kd_278 ?_
              refine J_isub hK dX6_estuary_223 ?_
              exact J_iret hK dX6_estuary_224
            · refine J_aload_n hK dX6_estuary_225 1 rfl ?_
              refine rF_X6_28 (q2 := 285) hK dX6_estuary_226 kd_278 rfl ?_
              refine J_iconst hK dX6_estuary_229 ci_0 ?_
              refine J_aload_n hK dX6_estuary_230 1 rfl ?_
              refine rF_X6_25 (q2 := 284) hK dX6_estuary_231 kd_278 rfl ?_
              refine J_iconst hK dX6_estuary_234 ci_0 ?_
              refine J_callSv (As := [.ref (X.1 + 285), .int (0 : Int32), .ref (X.1 + 284), .int (0 : Int32)]) (st := []) hK dX6_estuary_235 kB_X6_135 kS_X6_copies (by decide) rfl rfl (Nat.le_of_ble_eq_true rfl) (fun _ _ hf => uX6_copies kd_285 kd_284 hf) (fun _ h93 => ?_)
              refine J_aload_n hK dX6_estuary_238 1 rfl ?_
              refine J_iconst hK dX6_estuary_239 ci_0 ?_
              refine pF_X6_139 hK dX6_estuary_240 kd_278 (fun h94 => ?_)
              refine J_aload_n hK dX6_estuary_243 1 rfl ?_
              refine rF_X6_25 (q2 := 284) hK dX6_estuary_244 kd_278 rfl ?_
              refine J_iconst hK dX6_estuary_247 ci_2 ?_
              refine J_iald hK dX6_estuary_248 kd_284 (fun _ => ?_)
              exact J_iret hK dX6_estuary_249
          · refine J_iconst hK dX6_estuary_201 ci_0 ?_
            refine J_callVv (q := 278) (As := [.int (0 : Int32)]) (st := []) hK dX6_estuary_202 kB_X6_127 kV_X6_must kd_278 (by decide) rfl rfl (by decide) rfl rfl (Nat.le_of_ble_eq_true rfl) (fun _ _ hf => uX6_must  hf) (fun _ h95 => ?_)
            refine J_aload_n hK dX6_estuary_205 1 rfl ?_
            refine J_iconst hK dX6_estuary_206 ci_0 ?_
            refine pF_X6_79 hK dX6_estuary_207 kd_278 (fun h96 => ?_)
            refine J_aload_n hK dX6_estuary_210 1 rfl ?_
            refine J_callVi (q := 278) (As := []) (st := []) hK dX6_estuary_211 kB_X6_101 kV_X6_isWell kd_278 (by decide) rfl rfl (by decide) rfl rfl (Nat.le_of_ble_eq_true rfl) (fun _ _ hf => uX6_isWell  hf) (fun v98 h97 => ?_)
            refine J_if_ne (tgt := 225) hK dX6_estuary_214 (by decide) ?_ ?_
            · refine J_ldc hK dX6_estuary_217 kK_X6_134 ?_
              refine J_aload_n hK dX6_estuary_219 1 rfl ?_
              refine gF_X6_98 hK dX6_estuary_220 kd_278 ?_
              refine J_isub hK dX6_estuary_223 ?_
              exact J_iret hK dX6_estuary_224
            · refine J_aload_n hK dX6_estuary_225 1 rfl ?_
              refine rF_X6_28 (q2 := 285) hK dX6_estuary_226 kd_278 rfl ?_
              refine J_iconst hK dX6_estuary_229 ci_0 ?_
              refine J_aload_n hK dX6_estuary_230 1 rfl ?_
              refine rF_X6_25 (q2 := 284) hK dX6_estuary_231 kd_278 rfl ?_
              refine J_iconst hK dX6_estuary_234 ci_0 ?_
              refine J_callSv (As := [.ref (X.1 + 285), .int (0 : Int32), .ref (X.1 + 284), .int (0 : Int32)]) (st := []) hK dX6_estuary_235 kB_X6_135 kS_X6_copies (by decide) rfl rfl (Nat.le_of_ble_eq_true rfl) (fun _ _ hf => uX6_copies kd_285 kd_284 hf) (fun _ h99 => ?_)
              refine J_aload_n hK dX6_estuary_238 1 rfl ?_
              refine J_iconst hK dX6_estuary_239 ci_0 ?_
              refine pF_X6_139 hK dX6_estuary_240 kd_278 (fun h100 => ?_)
              refine J_aload_n hK dX6_estuary_243 1 rfl ?_
              refine rF_X6_25 (q2 := 284) hK dX6_estuary_244 kd_278 rfl ?_
              refine J_iconst hK dX6_estuary_247 ci_2 ?_
              refine J_iald hK dX6_estuary_248 kd_284 (fun _ => ?_)
              exact J_iret hK dX6_estuary_249
        · refine J_iconst hK dX6_estuary_154 ci_0 ?_
          refine J_callVv (q := 278) (As := [.int (0 : Int32)]) (st := []) hK dX6_estuary_155 kB_X6_127 kV_X6_must kd_278 (by decide) rfl rfl (by decide) rfl rfl (Nat.le_of_ble_eq_true rfl) (fun _ _ hf => uX6_must  hf) (fun _ h101 => ?_)
          refine J_sub [0, 1] rfl (gX6_estuary_L158 hK  (fun h102 => ?_) FU _)
          refine J_aload_n hK dX6_estuary_189 1 rfl ?_
          refine J_aload_n hK dX6_estuary_190 1 rfl ?_
          refine gF_X6_95 hK dX6_estuary_191 kd_278 ?_
          refine J_if_ne (tgt := 201) hK dX6_estuary_194 (by decide) ?_ ?_
          · refine J_iconst hK dX6_estuary_197 ci_1 ?_
            refine J_goto (len := 0) (tgt := 202) hK dX6_estuary_198 (by decide) ?_
            refine J_callVv (q := 278) (As := [.int (1 : Int32)]) (st := []) hK dX6_estuary_202 kB_X6_127 kV_X6_must kd_278 (by decide) rfl rfl (by decide) rfl rfl (Nat.le_of_ble_eq_true rfl) (fun _ _ hf => uX6_must  hf) (fun _ h103 => ?_)
            refine J_aload_n hK dX6_estuary_205 1 rfl ?_
            refine J_iconst hK dX6_estuary_206 ci_0 ?_
            refine pF_X6_79 hK dX6_estuary_207 kd_278 (fun h104 => ?_)
            refine J_aload_n hK dX6_estuary_210 1 rfl ?_
            refine J_callVi (q := 278) (As := []) (st := []) hK dX6_estuary_211 kB_X6_101 kV_X6_isWell kd_278 (by decide) rfl rfl (by decide) rfl rfl (Nat.le_of_ble_eq_true rfl) (fun _ _ hf => uX6_isWell  hf) (fun v106 h105 => ?_)
            refine J_if_ne (tgt := 225) hK dX6_estuary_214 (by decide) ?_ ?_
            · refine J_ldc hK dX6_estuary_217 kK_X6_134 ?_
              refine J_aload_n hK dX6_estuary_219 1 rfl ?_
              refine gF_X6_98 hK dX6_estuary_220 kd_278 ?_
              refine J_isub hK dX6_estuary_223 ?_
              exact J_iret hK dX6_estuary_224
            · refine J_aload_n hK dX6_estuary_225 1 rfl ?_
              refine rF_X6_28 (q2 := 285) hK dX6_estuary_226 kd_278 rfl ?_
              refine J_iconst hK dX6_estuary_229 ci_0 ?_
              refine J_aload_n hK dX6_estuary_230 1 rfl ?_
              refine rF_X6_25 (q2 := 284) hK dX6_estuary_231 kd_278 rfl ?_
              refine J_iconst hK dX6_estuary_234 ci_0 ?_
              refine J_callSv (As := [.ref (X.1 + 285), .int (0 : Int32), .ref (X.1 + 284), .int (0 : Int32)]) (st := []) hK dX6_estuary_235 kB_X6_135 kS_X6_copies (by decide) rfl rfl (Nat.le_of_ble_eq_true rfl) (fun _ _ hf => uX6_copies kd_285 kd_284 hf) (fun _ h107 => ?_)
              refine J_aload_n hK dX6_estuary_238 1 rfl ?_
              refine J_iconst hK dX6_estuary_239 ci_0 ?_
              refine pF_X6_139 hK dX6_estuary_240 kd_278 (fun h108 => ?_)
              refine J_aload_n hK dX6_estuary_243 1 rfl ?_
              refine rF_X6_25 (q2 := 284) hK dX6_estuary_244 kd_278 rfl ?_
              refine J_iconst hK dX6_estuary_247 ci_2 ?_
              refine J_iald hK dX6_estuary_248 kd_284 (fun _ => ?_)
              exact J_iret hK dX6_estuary_249
          · refine J_iconst hK dX6_estuary_201 ci_0 ?_
            refine J_callVv (q := 278) (As := [.int (0 : Int32)]) (st := []) hK dX6_estuary_202 kB_X6_127 kV_X6_must kd_278 (by decide) rfl rfl (by decide) rfl rfl (Nat.le_of_ble_eq_true rfl) (fun _ _ hf => uX6_must  hf) (fun _ h109 => ?_)
            refine J_aload_n hK dX6_estuary_205 1 rfl ?_
            refine J_iconst hK dX6_estuary_206 ci_0 ?_
            refine pF_X6_79 hK dX6_estuary_207 kd_278 (fun h110 => ?_)
            refine J_aload_n hK dX6_estuary_210 1 rfl ?_
            refine J_callVi (q := 278) (As := []) (st := []) hK dX6_estuary_211 kB_X6_101 kV_X6_isWell kd_278 (by decide) rfl rfl (by decide) rfl rfl (Nat.le_of_ble_eq_true rfl) (fun _ _ hf => uX6_isWell  hf) (fun v112 h111 => ?_)
            refine J_if_ne (tgt := 225) hK dX6_estuary_214 (by decide) ?_ ?_
            · refine J_ldc hK dX6_estuary_217 kK_X6_134 ?_
              refine J_aload_n hK dX6_estuary_219 1 rfl ?_
              refine gF_X6_98 hK dX6_estuary_220 kd_278 ?_
              refine J_isub hK dX6_estuary_223 ?_
              exact J_iret hK dX6_estuary_224
            · refine J_aload_n hK dX6_estuary_225 1 rfl ?_
              refine rF_X6_28 (q2 := 285) hK dX6_estuary_226 kd_278 rfl ?_
              refine J_iconst hK dX6_estuary_229 ci_0 ?_
              refine J_aload_n hK dX6_estuary_230 1 rfl ?_
              refine rF_X6_25 (q2 := 284) hK dX6_estuary_231 kd_278 rfl ?_
              refine J_iconst hK dX6_estuary_234 ci_0 ?_
              refine J_callSv (As := [.ref (X.1 + 285), .int (0 : Int32), .ref (X.1 + 284), .int (0 : Int32)]) (st := []) hK dX6_estuary_235 kB_X6_135 kS_X6_copies (by decide) rfl rfl (Nat.le_of_ble_eq_true rfl) (fun _ _ hf => uX6_copies kd_285 kd_284 hf) (fun _ h113 => ?_)
              refine J_aload_n hK dX6_estuary_238 1 rfl ?_
              refine J_iconst hK dX6_estuary_239 ci_0 ?_
              refine pF_X6_139 hK dX6_estuary_240 kd_278 (fun h114 => ?_)
              refine J_aload_n hK dX6_estuary_243 1 rfl ?_
              refine rF_X6_25 (q2 := 284) hK dX6_estuary_244 kd_278 rfl ?_
              refine J_iconst hK dX6_estuary_247 ci_2 ?_
              refine J_iald hK dX6_estuary_248 kd_284 (fun _ => ?_)
              exact J_iret hK dX6_estuary_249
      · refine J_iconst hK dX6_estuary_102 ci_0 ?_
        refine J_iconst hK dX6_estuary_103 ci_1 ?_
        refine J_callVi (q := 278) (As := [.int (0 : Int32), .int (1 : Int32)]) (st := []) hK dX6_estuary_104 kB_X6_111 kV_X6_takes kd_278 (by decide) rfl rfl (by decide) rfl rfl (Nat.le_of_ble_eq_true rfl) (fun _ _ hf => uX6_takes  hf) (fun v116 h115 => ?_)
        refine J_pop hK dX6_estuary_107 rfl ?_
        refine J_sub [0, 1] rfl (gX6_estuary_L108 hK  (fun h117 => ?_) FU _)
        refine J_aload_n hK dX6_estuary_140 1 rfl ?_
        refine J_aload_n hK dX6_estuary_141 1 rfl ?_
        refine rF_X6_28 (q2 := 285) hK dX6_estuary_142 kd_278 rfl ?_
        refine J_iconst hK dX6_estuary_145 ci_2 ?_
        refine J_iald hK dX6_estuary_146 kd_285 (fun _ => ?_)
        refine J_if_le (tgt := 154) hK dX6_estuary_147 (by decide) ?_ ?_
        · refine J_iconst hK dX6_estuary_150 ci_1 ?_
          refine J_goto (len := 0) (tgt := 155) hK dX6_estuary_151 (by decide) ?_
          refine J_callVv (q := 278) (As := [.int (1 : Int32)]) (st := []) hK dX6_estuary_155 kB_X6_127 kV_X6_must kd_278 (by decide) rfl rfl (by decide) rfl rfl (Nat.le_of_ble_eq_true rfl) (fun _ _ hf => uX6_must  hf) (fun _ h118 => ?_)
          refine J_sub [0, 1] rfl (gX6_estuary_L158 hK  (fun h119 => ?_) FU _)
          refine J_aload_n hK dX6_estuary_189 1 rfl ?_
          refine J_aload_n hK dX6_estuary_190 1 rfl ?_
          refine gF_X6_95 hK dX6_estuary_191 kd_278 ?_
          refine J_if_ne (tgt := 201) hK dX6_estuary_194 (by decide) ?_ ?_
          · refine J_iconst hK dX6_estuary_197 ci_1 ?_
            refine J_goto (len := 0) (tgt := 202) hK dX6_estuary_198 (by decide) ?_
            refine J_callVv (q := 278) (As := [.int (1 : Int32)]) (st := []) hK dX6_estuary_202 kB_X6_127 kV_X6_must kd_278 (by decide) rfl rfl (by decide) rfl rfl (Nat.le_of_ble_eq_true rfl) (fun _ _ hf => uX6_must  hf) (fun _ h120 => ?_)
            refine J_aload_n hK dX6_estuary_205 1 rfl ?_
            refine J_iconst hK dX6_estuary_206 ci_0 ?_
            refine pF_X6_79 hK dX6_estuary_207 kd_278 (fun h121 => ?_)
            refine J_aload_n hK dX6_estuary_210 1 rfl ?_
            refine J_callVi (q := 278) (As := []) (st := []) hK dX6_estuary_211 kB_X6_101 kV_X6_isWell kd_278 (by decide) rfl rfl (by decide) rfl rfl (Nat.le_of_ble_eq_true rfl) (fun _ _ hf => uX6_isWell  hf) (fun v123 h122 => ?_)
            refine J_if_ne (tgt := 225) hK dX6_estuary_214 (by decide) ?_ ?_
            · refine J_ldc hK dX6_estuary_217 kK_X6_134 ?_
              refine J_aload_n hK dX6_estuary_219 1 rfl ?_
              refine gF_X6_98 hK dX6_estuary_220 kd_278 ?_
              refine J_isub hK dX6_estuary_223 ?_
              exact J_iret hK dX6_estuary_224
            · refine J_aload_n hK dX6_estuary_225 1 rfl ?_
              refine rF_X6_28 (q2 := 285) hK dX6_estuary_226 kd_278 rfl ?_
              refine J_iconst hK dX6_estuary_229 ci_0 ?_
              refine J_aload_n hK dX6_estuary_230 1 rfl ?_
              refine rF_X6_25 (q2 := 284) hK dX6_estuary_231 kd_278 rfl ?_
              refine J_iconst hK dX6_estuary_234 ci_0 ?_
              refine J_callSv (As := [.ref (X.1 + 285), .int (0 : Int32), .ref (X.1 + 284), .int (0 : Int32)]) (st := []) hK dX6_estuary_235 kB_X6_135 kS_X6_copies (by decide) rfl rfl (Nat.le_of_ble_eq_true rfl) (fun _ _ hf => uX6_copies kd_285 kd_284 hf) (fun _ h124 => ?_)
              refine J_aload_n hK dX6_estuary_238 1 rfl ?_
              refine J_iconst hK dX6_estuary_239 ci_0 ?_
              refine pF_X6_139 hK dX6_estuary_240 kd_278 (fun h125 => ?_)
              refine J_aload_n hK dX6_estuary_243 1 rfl ?_
              refine rF_X6_25 (q2 := 284) hK dX6_estuary_244 kd_278 rfl ?_
              refine J_iconst hK dX6_estuary_247 ci_2 ?_
              refine J_iald hK dX6_estuary_248 kd_284 (fun _ => ?_)
              exact J_iret hK dX6_estuary_249
          · refine J_iconst hK dX6_estuary_201 ci_0 ?_
            refine J_callVv (q := 278) (As := [.int (0 : Int32)]) (st := []) hK dX6_estuary_202 kB_X6_127 kV_X6_must kd_278 (by decide) rfl rfl (by decide) rfl rfl (Nat.le_of_ble_eq_true rfl) (fun _ _ hf => uX6_must  hf) (fun _ h126 => ?_)
            refine J_aload_n hK dX6_estuary_205 1 rfl ?_
            refine J_iconst hK dX6_estuary_206 ci_0 ?_
            refine pF_X6_79 hK dX6_estuary_207 kd_278 (fun h127 => ?_)
            refine J_aload_n hK dX6_estuary_210 1 rfl ?_
            refine J_callVi (q := 278) (As := []) (st := []) hK dX6_estuary_211 kB_X6_101 kV_X6_isWell kd_278 (by decide) rfl rfl (by decide) rfl rfl (Nat.le_of_ble_eq_true rfl) (fun _ _ hf => uX6_isWell  hf) (fun v129 h128 => ?_)
            refine J_if_ne (tgt := 225) hK dX6_estuary_214 (by decide) ?_ ?_
            · refine J_ldc hK dX6_estuary_217 kK_X6_134 ?_
              refine J_aload_n hK dX6_estuary_219 1 rfl ?_
              refine gF_X6_98 hK dX6_estuary_220 kd_278 ?_
              refine J_isub hK dX6_estuary_223 ?_
              exact J_iret hK dX6_estuary_224
            · refine J_aload_n hK dX6_estuary_225 1 rfl ?_
              refine rF_X6_28 (q2 := 285) hK dX6_estuary_226 kd_278 rfl ?_
              refine J_iconst hK dX6_estuary_229 ci_0 ?_
              refine J_aload_n hK dX6_estuary_230 1 rfl ?_
              refine rF_X6_25 (q2 := 284) hK dX6_estuary_231 kd_278 rfl ?_
              refine J_iconst hK dX6_estuary_234 ci_0 ?_
              refine J_callSv (As := [.ref (X.1 + 285), .int (0 : Int32), .ref (X.1 + 284), .int (0 : Int32)]) (st := []) hK dX6_estuary_235 kB_X6_135 kS_X6_copies (by decide) rfl rfl (Nat.le_of_ble_eq_true rfl) (fun _ _ hf => uX6_copies kd_285 kd_284 hf) (fun _ h130 => ?_)
              refine J_aload_n hK dX6_estuary_238 1 rfl ?_
              refine J_iconst hK dX6_estuary_239 ci_0 ?_
              refine pF_X6_139 hK dX6_estuary_240 kd_278 (fun h131 => ?_)
              refine J_aload_n hK dX6_estuary_243 1 rfl ?_
              refine rF_X6_25 (q2 := 284) hK dX6_estuary_244 kd_278 rfl ?_
              refine J_iconst hK dX6_estuary_247 ci_2 ?_
              refine J_iald hK dX6_estuary_248 kd_284 (fun _ => ?_)
              exact J_iret hK dX6_estuary_249
        · refine J_iconst hK dX6_estuary_154 ci_0 ?_
          refine J_callVv (q := 278) (As := [.int (0 : Int32)]) (st := []) hK dX6_estuary_155 kB_X6_127 kV_X6_must kd_278 (by decide) rfl rfl (by decide) rfl rfl (Nat.le_of_ble_eq_true rfl) (fun _ _ hf => uX6_must  hf) (fun _ h132 => ?_)
          refine J_sub [0, 1] rfl (gX6_estuary_L158 hK  (fun h133 => ?_) FU _)
          refine J_aload_n hK dX6_estuary_189 1 rfl ?_
          refine J_aload_n hK dX6_estuary_190 1 rfl ?_
          refine gF_X6_95 hK dX6_estuary_191 kd_278 ?_
          refine J_if_ne (tgt := 201) hK dX6_estuary_194 (by decide) ?_ ?_
          · refine J_iconst hK dX6_estuary_197 ci_1 ?_
            refine J_goto (len := 0) (tgt := 202) hK dX6_estuary_198 (by decide) ?_
            refine J_callVv (q := 278) (As := [.int (1 : Int32)]) (st := []) hK dX6_estuary_202 kB_X6_127 kV_X6_must kd_278 (by decide) rfl rfl (by decide) rfl rfl (Nat.le_of_ble_eq_true rfl) (fun _ _ hf => uX6_must  hf) (fun _ h134 => ?_)
            refine J_aload_n hK dX6_estuary_205 1 rfl ?_
            refine J_iconst hK dX6_estuary_206 ci_0 ?_
            refine pF_X6_79 hK dX6_estuary_207 kd_278 (fun h135 => ?_)
            refine J_aload_n hK dX6_estuary_210 1 rfl ?_
            refine J_callVi (q := 278) (As := []) (st := []) hK dX6_estuary_211 kB_X6_101 kV_X6_isWell kd_278 (by decide) rfl rfl (by decide) rfl rfl (Nat.le_of_ble_eq_true rfl) (fun _ _ hf => uX6_isWell  hf) (fun v137 h136 => ?_)
            refine J_if_ne (tgt := 225) hK dX6_estuary_214 (by decide) ?_ ?_
            · refine J_ldc hK dX6_estuary_217 kK_X6_134 ?_
              refine J_aload_n hK dX6_estuary_219 1 rfl ?_
              refine gF_X6_98 hK dX6_estuary_220 kd_278 ?_
              refine J_isub hK dX6_estuary_223 ?_
              exact J_iret hK dX6_estuary_224
            · refine J_aload_n hK dX6_estuary_225 1 rfl ?_
              refine rF_X6_28 (q2 := 285) hK dX6_estuary_226 kd_278 rfl ?_
              refine J_iconst hK dX6_estuary_229 ci_0 ?_
              refine J_aload_n hK dX6_estuary_230 1 rfl ?_
              refine rF_X6_25 (q2 := 284) hK dX6_estuary_231 kd_278 rfl ?_
              refine J_iconst hK dX6_estuary_234 ci_0 ?_
              refine J_callSv (As := [.ref (X.1 + 285), .int (0 : Int32), .ref (X.1 + 284), .int (0 : Int32)]) (st := []) hK dX6_estuary_235 kB_X6_135 kS_X6_copies (by decide) rfl rfl (Nat.le_of_ble_eq_true rfl) (fun _ _ hf => uX6_copies kd_285 kd_284 hf) (fun _ h138 => ?_)
              refine J_aload_n hK dX6_estuary_238 1 rfl ?_
              refine J_iconst hK dX6_estuary_239 ci_0 ?_
              refine pF_X6_139 hK dX6_estuary_240 kd_278 (fun h139 => ?_)
              refine J_aload_n hK dX6_estuary_243 1 rfl ?_
              refine rF_X6_25 (q2 := 284) hK dX6_estuary_244 kd_278 rfl ?_
              refine J_iconst hK dX6_estuary_247 ci_2 ?_
              refine J_iald hK dX6_estuary_248 kd_284 (fun _ => ?_)
              exact J_iret hK dX6_estuary_249
          · refine J_iconst hK dX6_estuary_201 ci_0 ?_
            refine J_callVv (q := 278) (As := [.int (0 : Int32)]) (st := []) hK dX6_estuary_202 kB_X6_127 kV_X6_must kd_278 (by decide) rfl rfl (by decide) rfl rfl (Nat.le_of_ble_eq_true rfl) (fun _ _ hf => uX6_must  hf) (fun _ h140 => ?_)
            refine J_aload_n hK dX6_estuary_205 1 rfl ?_
            refine J_iconst hK dX6_estuary_206 ci_0 ?_
            refine pF_X6_79 hK dX6_estuary_207 kd_278 (fun h141 => ?_)
            refine J_aload_n hK dX6_estuary_210 1 rfl ?_
            refine J_callVi (q := 278) (As := []) (st := []) hK dX6_estuary_211 kB_X6_101 kV_X6_isWell kd_278 (by decide) rfl rfl (by decide) rfl rfl (Nat.le_of_ble_eq_true rfl) (fun _ _ hf => uX6_isWell  hf) (fun v143 h142 => ?_)
            refine J_if_ne (tgt := 225) hK dX6_estuary_214 (by decide) ?_ ?_
            · refine J_ldc hK dX6_estuary_217 kK_X6_134 ?_
              refine J_aload_n hK dX6_estuary_219 1 rfl ?_
              refine gF_X6_98 hK dX6_estuary_220 kd_278 ?_
              refine J_isub hK dX6_estuary_223 ?_
              exact J_iret hK dX6_estuary_224
            · refine J_aload_n hK dX6_estuary_225 1 rfl ?_
              refine rF_X6_28 (q2 := 285) hK dX6_estuary_226 kd_278 rfl ?_
              refine J_iconst hK dX6_estuary_229 ci_0 ?_
              refine J_aload_n hK dX6_estuary_230 1 rfl ?_
              refine rF_X6_25 (q2 := 284) hK dX6_estuary_231 kd_278 rfl ?_
              refine J_iconst hK dX6_estuary_234 ci_0 ?_
              refine J_callSv (As := [.ref (X.1 + 285), .int (0 : Int32), .ref (X.1 + 284), .int (0 : Int32)]) (st := []) hK dX6_estuary_235 kB_X6_135 kS_X6_copies (by decide) rfl rfl (Nat.le_of_ble_eq_true rfl) (fun _ _ hf => uX6_copies kd_285 kd_284 hf) (fun _ h144 => ?_)
              refine J_aload_n hK dX6_estuary_238 1 rfl ?_
              refine J_iconst hK dX6_estuary_239 ci_0 ?_
              refine pF_X6_139 hK dX6_estuary_240 kd_278 (fun h145 => ?_)
              refine J_aload_n hK dX6_estuary_243 1 rfl ?_
              refine rF_X6_25 (q2 := 284) hK dX6_estuary_244 kd_278 rfl ?_
              refine J_iconst hK dX6_estuary_247 ci_2 ?_
              refine J_iald hK dX6_estuary_248 kd_284 (fun _ => ?_)
              exact J_iret hK dX6_estuary_249
  · refine J_iconst hK dX6_estuary_57 ci_0 ?_
    refine J_iconst hK dX6_estuary_58 ci_1 ?_
    refine J_callVi (q := 278) (As := [.int (0 : Int32), .int (1 : Int32)]) (st := []) hK dX6_estuary_59 kB_X6_111 kV_X6_takes kd_278 (by decide) rfl rfl (by decide) rfl rfl (Nat.le_of_ble_eq_true rfl) (fun _ _ hf => uX6_takes  hf) (fun v147 h146 => ?_)
    refine J_pop hK dX6_estuary_62 rfl ?_
    refine J_aload_n hK dX6_estuary_63 1 rfl ?_
    refine rF_X6_28 (q2 := 285) hK dX6_estuary_64 kd_278 rfl ?_
    refine J_iconst hK dX6_estuary_67 ci_0 ?_
    refine J_aload_n hK dX6_estuary_68 1 rfl ?_
    refine J_iconst hK dX6_estuary_69 ci_1 ?_
    refine J_bipush hK dX6_estuary_70 cb_60 ?_
    refine J_callVi (q := 278) (As := [.int (1 : Int32), .int (60 : Int32)]) (st := [.int (0 : Int32), .ref (X.1 + 285)]) hK dX6_estuary_72 kB_X6_115 kV_X6_figure kd_278 (by decide) rfl rfl (by decide) rfl rfl (Nat.le_of_ble_eq_true rfl) (fun _ _ hf => uX6_figure  hf) (fun v149 h148 => ?_)
    refine J_iast hK dX6_estuary_75 kd_285 (fun h150 => ?_)
    refine J_aload_n hK dX6_estuary_76 1 rfl ?_
    refine rF_X6_28 (q2 := 285) hK dX6_estuary_77 kd_278 rfl ?_
    refine J_iconst hK dX6_estuary_80 ci_1 ?_
    refine J_aload_n hK dX6_estuary_81 1 rfl ?_
    refine J_iconst hK dX6_estuary_82 ci_1 ?_
    refine J_bipush hK dX6_estuary_83 cb_99 ?_
    refine J_callVi (q := 278) (As := [.int (1 : Int32), .int (99 : Int32)]) (st := [.int (1 : Int32), .ref (X.1 + 285)]) hK dX6_estuary_85 kB_X6_121 kV_X6_follows kd_278 (by decide) rfl rfl (by decide) rfl rfl (Nat.le_of_ble_eq_true rfl) (fun _ _ hf => uX6_follows  hf) (fun v152 h151 => ?_)
    refine J_iast hK dX6_estuary_88 kd_285 (fun h153 => ?_)
    refine J_aload_n hK dX6_estuary_89 1 rfl ?_
    refine J_aload_n hK dX6_estuary_90 1 rfl ?_
    refine gF_X6_95 hK dX6_estuary_91 kd_278 ?_
    refine J_iconst hK dX6_estuary_94 ci_4 ?_
    refine J_icmp_ne (tgt := 102) hK dX6_estuary_95 (by decide) ?_ ?_
    · refine J_iconst hK dX6_estuary_98 ci_1 ?_
      refine J_goto (len := 0) (tgt := 103) hK dX6_estuary_99 (by decide) ?_
      refine J_iconst hK dX6_estuary_103 ci_1 ?_
      refine J_callVi (q := 278) (As := [.int (1 : Int32), .int (1 : Int32)]) (st := []) hK dX6_estuary_104 kB_X6_111 kV_X6_takes kd_278 (by decide) rfl rfl (by decide) rfl rfl (Nat.le_of_ble_eq_true rfl) (fun _ _ hf => uX6_takes  hf) (fun v155 h154 => ?_)
      refine J_pop hK dX6_estuary_107 rfl ?_
      refine J_sub [0, 1] rfl (gX6_estuary_L108 hK  (fun h156 => ?_) FU _)
      refine J_aload_n hK dX6_estuary_140 1 rfl ?_
      refine J_aload_n hK dX6_estuary_141 1 rfl ?_
      refine rF_X6_28 (q2 := 285) hK dX6_estuary_142 kd_278 rfl ?_
      refine J_iconst hK dX6_estuary_145 ci_2 ?_
      refine J_iald hK dX6_estuary_146 kd_285 (fun _ => ?_)
      refine J_if_le (tgt := 154) hK dX6_estuary_147 (by decide) ?_ ?_
      · refine J_iconst hK dX6_estuary_150 ci_1 ?_
        refine J_goto (len := 0) (tgt := 155) hK dX6_estuary_151 (by decide) ?_
        refine J_callVv (q := 278) (As := [.int (1 : Int32)]) (st := []) hK dX6_estuary_155 kB_X6_127 kV_X6_must kd_278 (by decide) rfl rfl (by decide) rfl rfl (Nat.le_of_ble_eq_true rfl) (fun _ _ hf => uX6_must  hf) (fun _ h157 => ?_)
        refine J_sub [0, 1] rfl (gX6_estuary_L158 hK  (fun h158 => ?_) FU _)
        refine J_aload_n hK dX6_estuary_189 1 rfl ?_
        refine J_aload_n hK dX6_estuary_190 1 rfl ?_
        refine gF_X6_95 hK dX6_estuary_191 kd_278 ?_
        refine J_if_ne (tgt := 201) hK dX6_estuary_194 (by decide) ?_ ?_
        · refine J_iconst hK dX6_estuary_197 ci_1 ?_
          refine J_goto (len := 0) (tgt := 202) hK dX6_estuary_198 (by decide) ?_
          refine J_callVv (q := 278) (As := [.int (1 : Int32)]) (st := []) hK dX6_estuary_202 kB_X6_127 kV_X6_must kd_278 (by decide) rfl rfl (by decide) rfl rfl (Nat.le_of_ble_eq_true rfl) (fun _ _ hf => uX6_must  hf) (fun _ h159 => ?_)
          refine J_aload_n hK dX6_estuary_205 1 rfl ?_
          refine J_iconst hK dX6_estuary_206 ci_0 ?_
          refine pF_X6_79 hK dX6_estuary_207 kd_278 (fun h160 => ?_)
          refine J_aload_n hK dX6_estuary_210 1 rfl ?_
          refine J_callVi (q := 278) (As := []) (st := []) hK dX6_estuary_211 kB_X6_101 kV_X6_isWell kd_278 (by decide) rfl rfl (by decide) rfl rfl (Nat.le_of_ble_eq_true rfl) (fun _ _ hf => uX6_isWell  hf) (fun v162 h161 => ?_)
          refine J_if_ne (tgt := 225) hK dX6_estuary_214 (by decide) ?_ ?_
          · refine J_ldc hK dX6_estuary_217 kK_X6_134 ?_
            refine J_aload_n hK dX6_estuary_219 1 rfl ?_
            refine gF_X6_98 hK dX6_estuary_220 kd_278 ?_
            refine J_isub hK dX6_estuary_223 ?_
            exact J_iret hK dX6_estuary_224
          · refine J_aload_n hK dX6_estuary_225 1 rfl ?_
            refine rF_X6_28 (q2 := 285) hK dX6_estuary_226 kd_278 rfl ?_
            refine J_iconst hK dX6_estuary_229 ci_0 ?_
            refine J_aload_n hK dX6_estuary_230 1 rfl ?_
            refine rF_X6_25 (q2 := 284) hK dX6_estuary_231 kd_278 rfl ?_
            refine J_iconst hK dX6_estuary_234 ci_0 ?_
            refine J_callSv (As := [.ref (X.1 + 285), .int (0 : Int32), .ref (X.1 + 284), .int (0 : Int32)]) (st := []) hK dX6_estuary_235 kB_X6_135 kS_X6_copies (by decide) rfl rfl (Nat.le_of_ble_eq_true rfl) (fun _ _ hf => uX6_copies kd_285 kd_284 hf) (fun _ h163 => ?_)
            refine J_aload_n hK dX6_estuary_238 1 rfl ?_
            refine J_iconst hK dX6_estuary_239 ci_0 ?_
            refine pF_X6_139 hK dX6_estuary_240 kd_278 (fun h164 => ?_)
            refine J_aload_n hK dX6_estuary_243 1 rfl ?_
            refine rF_X6_25 (q2 := 284) hK dX6_estuary_244 kd_278 rfl ?_
            refine J_iconst hK dX6_estuary_247 ci_2 ?_
            refine J_iald hK dX6_estuary_248 kd_284 (fun _ => ?_)
            exact J_iret hK dX6_estuary_249
        · refine J_iconst hK dX6_estuary_201 ci_0 ?_
          refine J_callVv (q := 278) (As := [.int (0 : Int32)]) (st := []) hK dX6_estuary_202 kB_X6_127 kV_X6_must kd_278 (by decide) rfl rfl (by decide) rfl rfl (Nat.le_of_ble_eq_true rfl) (fun _ _ hf => uX6_must  hf) (fun _ h165 => ?_)
          refine J_aload_n hK dX6_estuary_205 1 rfl ?_
          refine J_iconst hK dX6_estuary_206 ci_0 ?_
          refine pF_X6_79 hK dX6_estuary_207 kd_278 (fun h166 => ?_)
          refine J_aload_n hK dX6_estuary_210 1 rfl ?_
          refine J_callVi (q := 278) (As := []) (st := []) hK dX6_estuary_211 kB_X6_101 kV_X6_isWell kd_278 (by decide) rfl rfl (by decide) rfl rfl (Nat.le_of_ble_eq_true rfl) (fun _ _ hf => uX6_isWell  hf) (fun v168 h167 => ?_)
          refine J_if_ne (tgt := 225) hK dX6_estuary_214 (by decide) ?_ ?_
          · refine J_ldc hK dX6_estuary_217 kK_X6_134 ?_
            refine J_aload_n hK dX6_estuary_219 1 rfl ?_
            refine gF_X6_98 hK dX6_estuary_220 kd_278 ?_
            refine J_isub hK dX6_estuary_223 ?_
            exact J_iret hK dX6_estuary_224
          · refine J_aload_n hK dX6_estuary_225 1 rfl ?_
            refine rF_X6_28 (q2 := 285) hK dX6_estuary_226 kd_278 rfl ?_
            refine J_iconst hK dX6_estuary_229 ci_0 ?_
            refine J_aload_n hK dX6_estuary_230 1 rfl ?_
            refine rF_X6_25 (q2 := 284) hK dX6_estuary_231 kd_278 rfl ?_
            refine J_iconst hK dX6_estuary_234 ci_0 ?_
            refine J_callSv (As := [.ref (X.1 + 285), .int (0 : Int32), .ref (X.1 + 284), .int (0 : Int32)]) (st := []) hK dX6_estuary_235 kB_X6_135 kS_X6_copies (by decide) rfl rfl (Nat.le_of_ble_eq_true rfl) (fun _ _ hf => uX6_copies kd_285 kd_284 hf) (fun _ h169 => ?_)
            refine J_aload_n hK dX6_estuary_238 1 rfl ?_
            refine J_iconst hK dX6_estuary_239 ci_0 ?_
            refine pF_X6_139 hK dX6_estuary_240 kd_278 (fun h170 => ?_)
            refine J_aload_n hK dX6_estuary_243 1 rfl ?_
            refine rF_X6_25 (q2 := 284) hK dX6_estuary_244 kd_278 rfl ?_
            refine J_iconst hK dX6_estuary_247 ci_2 ?_
            refine J_iald hK dX6_estuary_248 kd_284 (fun _ => ?_)
            exact J_iret hK dX6_estuary_249
      · refine J_iconst hK dX6_estuary_154 ci_0 ?_
        refine J_callVv (q := 278) (As := [.int (0 : Int32)]) (st := []) hK dX6_estuary_155 kB_X6_127 kV_X6_must kd_278 (by decide) rfl rfl (by decide) rfl rfl (Nat.le_of_ble_eq_true rfl) (fun _ _ hf => uX6_must  hf) (fun _ h171 => ?_)
        refine J_sub [0, 1] rfl (gX6_estuary_L158 hK  (fun h172 => ?_) FU _)
        refine J_aload_n hK dX6_estuary_189 1 rfl ?_
        refine J_aload_n hK dX6_estuary_190 1 rfl ?_
        refine gF_X6_95 hK dX6_estuary_191 kd_278 ?_
        refine J_if_ne (tgt := 201) hK dX6_estuary_194 (by decide) ?_ ?_
        · refine J_iconst hK dX6_estuary_197 ci_1 ?_
          refine J_goto (len := 0) (tgt := 202) hK dX6_estuary_198 (by decide) ?_
          refine J_callVv (q := 278) (As := [.int (1 : Int32)]) (st := []) hK dX6_estuary_202 kB_X6_127 kV_X6_must kd_278 (by decide) rfl rfl (by decide) rfl rfl (Nat.le_of_ble_eq_true rfl) (fun _ _ hf => uX6_must  hf) (fun _ h173 => ?_)
          refine J_aload_n hK dX6_estuary_205 1 rfl ?_
          refine J_iconst hK dX6_estuary_206 ci_0 ?_
          refine pF_X6_79 hK dX6_estuary_207 kd_278 (fun h174 => ?_)
          refine J_aload_n hK dX6_estuary_210 1 rfl ?_
          refine J_callVi (q := 278) (As := []) (st := []) hK dX6_estuary_211 kB_X6_101 kV_X6_isWell kd_278 (by decide) rfl rfl (by decide) rfl rfl (Nat.le_of_ble_eq_true rfl) (fun _ _ hf => uX6_isWell  hf) (fun v176 h175 => ?_)
          refine J_if_ne (tgt := 225) hK dX6_estuary_214 (by decide) ?_ ?_
          · refine J_ldc hK dX6_estuary_217 kK_X6_134 ?_
            refine J_aload_n hK dX6_estuary_219 1 rfl ?_
            refine gF_X6_98 hK dX6_estuary_220 kd_278 ?_
            refine J_isub hK dX6_estuary_223 ?_
            exact J_iret hK dX6_estuary_224
          · refine J_aload_n hK dX6_estuary_225 1 rfl ?_
            refine rF_X6_28 (q2 := 285) hK dX6_estuary_226 kd_278 rfl ?_
            refine J_iconst hK dX6_estuary_229 ci_0 ?_
            refine J_aload_n hK dX6_estuary_230 1 rfl ?_
            refine rF_X6_25 (q2 := 284) hK dX6_estuary_231 kd_278 rfl ?_
            refine J_iconst hK dX6_estuary_234 ci_0 ?_
            refine J_callSv (As := [.ref (X.1 + 285), .int (0 : Int32), .ref (X.1 + 284), .int (0 : Int32)]) (st := []) hK dX6_estuary_235 kB_X6_135 kS_X6_copies (by decide) rfl rfl (Nat.le_of_ble_eq_true rfl) (fun _ _ hf => uX6_copies kd_285 kd_284 hf) (fun _ h177 => ?_)
            refine J_aload_n hK dX6_estuary_238 1 rfl ?_
            refine J_iconst hK dX6_estuary_239 ci_0 ?_
            refine pF_X6_139 hK dX6_estuary_240 kd_278 (fun h178 => ?_)
            refine J_aload_n hK dX6_estuary_243 1 rfl ?_
            refine rF_X6_25 (q2 := 284) hK dX6_estuary_244 kd_278 rfl ?_
            refine J_iconst hK dX6_estuary_247 ci_2 ?_
            refine J_iald hK dX6_estuary_248 kd_284 (fun _ => ?_)
            exact J_iret hK dX6_estuary_249
        · refine J_iconst hK dX6_estuary_201 ci_0 ?_
          refine J_callVv (q := 278) (As := [.int (0 : Int32)]) (st := []) hK dX6_estuary_202 kB_X6_127 kV_X6_must kd_278 (by decide) rfl rfl (by decide) rfl rfl (Nat.le_of_ble_eq_true rfl) (fun _ _ hf => uX6_must  hf) (fun _ h179 => ?_)
          refine J_aload_n hK dX6_estuary_205 1 rfl ?_
          refine J_iconst hK dX6_estuary_206 ci_0 ?_
          refine pF_X6_79 hK dX6_estuary_207 kd_278 (fun h180 => ?_)
          refine J_aload_n hK dX6_estuary_210 1 rfl ?_
          refine J_callVi (q := 278) (As := []) (st := []) hK dX6_estuary_211 kB_X6_101 kV_X6_isWell kd_278 (by decide) rfl rfl (by decide) rfl rfl (Nat.le_of_ble_eq_true rfl) (fun _ _ hf => uX6_isWell  hf) (fun v182 h181 => ?_)
          refine J_if_ne (tgt := 225) hK dX6_estuary_214 (by decide) ?_ ?_
          · refine J_ldc hK dX6_estuary_217 kK_X6_134 ?_
            refine J_aload_n hK dX6_estuary_219 1 rfl ?_
            refine gF_X6_98 hK dX6_estuary_220 kd_278 ?_
            refine J_isub hK dX6_estuary_223 ?_
            exact J_iret hK dX6_estuary_224
          · refine J_aload_n hK dX6_estuary_225 1 rfl ?_
            refine rF_X6_28 (q2 := 285) hK dX6_estuary_226 kd_278 rfl ?_
            refine J_iconst hK dX6_estuary_229 ci_0 ?_
            refine J_aload_n hK dX6_estuary_230 1 rfl ?_
            refine rF_X6_25 (q2 := 284) hK dX6_estuary_231 kd_278 rfl ?_
            refine J_iconst hK dX6_estuary_234 ci_0 ?_
            refine J_callSv (As := [.ref (X.1 + 285), .int (0 : Int32), .ref (X.1 + 284), .int (0 : Int32)]) (st := []) hK dX6_estuary_235 kB_X6_135 kS_X6_copies (by decide) rfl rfl (Nat.le_of_ble_eq_true rfl) (fun _ _ hf => uX6_copies kd_285 kd_284 hf) (fun _ h183 => ?_)
            refine J_aload_n hK dX6_estuary_238 1 rfl ?_
            refine J_iconst hK dX6_estuary_239 ci_0 ?_
            refine pF_X6_139 hK dX6_estuary_240 kd_278 (fun h184 => ?_)
            refine J_aload_n hK dX6_estuary_243 1 rfl ?_
            refine rF_X6_25 (q2 := 284) hK dX6_estuary_244 kd_278 rfl ?_
            refine J_iconst hK dX6_estuary_247 ci_2 ?_
            refine J_iald hK dX6_estuary_248 kd_284 (fun _ => ?_)
            exact J_iret hK dX6_estuary_249
    · refine J_iconst hK dX6_estuary_102 ci_0 ?_
      refine J_iconst hK dX6_estuary_103 ci_1 ?_
      refine J_callVi (q := 278) (As := [.int (0 : Int32), .int (1 : Int32)]) (st := []) hK dX6_estuary_104 kB_X6_111 kV_X6_takes kd_278 (by decide) rfl rfl (by decide) rfl rfl (Nat.le_of_ble_eq_true rfl) (fun _ _ hf => uX6_takes  hf) (fun v186 h185 => ?_)
      refine J_pop hK dX6_estuary_107 rfl ?_
      refine J_sub [0, 1] rfl (gX6_estuary_L108 hK  (fun h187 => ?_) FU _)
      refine J_aload_n hK dX6_estuary_140 1 rfl ?_
      refine J_aload_n hK dX6_estuary_141 1 rfl ?_
      refine rF_X6_28 (q2 := 285) hK dX6_estuary_142 kd_278 rfl ?_
      refine J_iconst hK dX6_estuary_145 ci_2 ?_
      refine J_iald hK dX6_estuary_146 kd_285 (fun _ => ?_)
      refine J_if_le (tgt := 154) hK dX6_estuary_147 (by decide) ?_ ?_
      · refine J_iconst hK dX6_estuary_150 ci_1 ?_
        refine J_goto (len := 0) (tgt := 155) hK dX6_estuary_151 (by decide) ?_
        refine J_callVv (q := 278) (As := [.int (1 : Int32)]) (st := []) hK dX6_estuary_155 kB_X6_127 kV_X6_must kd_278 (by decide) rfl rfl (by decide) rfl rfl (Nat.le_of_ble_eq_true rfl) (fun _ _ hf => uX6_must  hf) (fun _ h188 => ?_)
        refine J_sub [0, 1] rfl (gX6_estuary_L158 hK  (fun h189 => ?_) FU _)
        refine J_aload_n hK dX6_estuary_189 1 rfl ?_
        refine J_aload_n hK dX6_estuary_190 1 rfl ?_
        refine gF_X6_95 hK dX6_estuary_191 kd_278 ?_
        refine J_if_ne (tgt := 201) hK dX6_estuary_194 (by decide) ?_ ?_
        · refine J_iconst hK dX6_estuary_197 ci_1 ?_
          refine J_goto (len := 0) (tgt := 202) hK dX6_estuary_198 (by decide) ?_
          refine J_callVv (q := 278) (As := [.int (1 : Int32)]) (st := []) hK dX6_estuary_202 kB_X6_127 kV_X6_must kd_278 (by decide) rfl rfl (by decide) rfl rfl (Nat.le_of_ble_eq_true rfl) (fun _ _ hf => uX6_must  hf) (fun _ h190 => ?_)
          refine J_aload_n hK dX6_estuary_205 1 rfl ?_
          refine J_iconst hK dX6_estuary_206 ci_0 ?_
          refine pF_X6_79 hK dX6_estuary_207 kd_278 (fun h191 => ?_)
          refine J_aload_n hK dX6_estuary_210 1 rfl ?_
          refine J_callVi (q := 278) (As := []) (st := []) hK dX6_estuary_211 kB_X6_101 kV_X6_isWell kd_278 (by decide) rfl rfl (by decide) rfl rfl (Nat.le_of_ble_eq_true rfl) (fun _ _ hf => uX6_isWell  hf) (fun v193 h192 => ?_)
          refine J_if_ne (tgt := 225) hK dX6_estuary_214 (by decide) ?_ ?_
          · refine J_ldc hK dX6_estuary_217 kK_X6_134 ?_
            refine J_aload_n hK dX6_estuary_219 1 rfl ?_
            refine gF_X6_98 hK dX6_estuary_220 kd_278 ?_
            refine J_isub hK dX6_estuary_223 ?_
            exact J_iret hK dX6_estuary_224
          · refine J_aload_n hK dX6_estuary_225 1 rfl ?_
            refine rF_X6_28 (q2 := 285) hK dX6_estuary_226 kd_278 rfl ?_
            refine J_iconst hK dX6_estuary_229 ci_0 ?_
            refine J_aload_n hK dX6_estuary_230 1 rfl ?_
            refine rF_X6_25 (q2 := 284) hK dX6_estuary_231 kd_278 rfl ?_
            refine J_iconst hK dX6_estuary_234 ci_0 ?_
            refine J_callSv (As := [.ref (X.1 + 285), .int (0 : Int32), .ref (X.1 + 284), .int (0 : Int32)]) (st := []) hK dX6_estuary_235 kB_X6_135 kS_X6_copies (by decide) rfl rfl (Nat.le_of_ble_eq_true rfl) (fun _ _ hf => uX6_copies kd_285 kd_284 hf) (fun _ h194 => ?_)
            refine J_aload_n hK dX6_estuary_238 1 rfl ?_
            refine J_iconst hK dX6_estuary_239 ci_0 ?_
            refine pF_X6_139 hK dX6_estuary_240 kd_278 (fun h195 => ?_)
            refine J_aload_n hK dX6_estuary_243 1 rfl ?_
            refine rF_X6_25 (q2 := 284) hK dX6_estuary_244 kd_278 rfl ?_
            refine J_iconst hK dX6_estuary_247 ci_2 ?_
            refine J_iald hK dX6_estuary_248 kd_284 (fun _ => ?_)
            exact J_iret hK dX6_estuary_249
        · refine J_iconst hK dX6_estuary_201 ci_0 ?_
          refine J_callVv (q := 278) (As := [.int (0 : Int32)]) (st := []) hK dX6_estuary_202 kB_X6_127 kV_X6_must kd_278 (by decide) rfl rfl (by decide) rfl rfl (Nat.le_of_ble_eq_true rfl) (fun _ _ hf => uX6_must  hf) (fun _ h196 => ?_)
          refine J_aload_n hK dX6_estuary_205 1 rfl ?_
          refine J_iconst hK dX6_estuary_206 ci_0 ?_
          refine pF_X6_79 hK dX6_estuary_207 kd_278 (fun h197 => ?_)
          refine J_aload_n hK dX6_estuary_210 1 rfl ?_
          refine J_callVi (q := 278) (As := []) (st := []) hK dX6_estuary_211 kB_X6_101 kV_X6_isWell kd_278 (by decide) rfl rfl (by decide) rfl rfl (Nat.le_of_ble_eq_true rfl) (fun _ _ hf => uX6_isWell  hf) (fun v199 h198 => ?_)
          refine J_if_ne (tgt := 225) hK dX6_estuary_214 (by decide) ?_ ?_
          · refine J_ldc hK dX6_estuary_217 kK_X6_134 ?_
            refine J_aload_n hK dX6_estuary_219 1 rfl ?_
            refine gF_X6_98 hK dX6_estuary_220 kd_278 ?_
            refine J_isub hK dX6_estuary_223 ?_
            exact J_iret hK dX6_estuary_224
          · refine J_aload_n hK dX6_estuary_225 1 rfl ?_
            refine rF_X6_28 (q2 := 285) hK dX6_estuary_226 kd_278 rfl ?_
            refine J_iconst hK dX6_estuary_229 ci_0 ?_
            refine J_aload_n hK dX6_estuary_230 1 rfl ?_
            refine rF_X6_25 (q2 := 284) hK dX6_estuary_231 kd_278 rfl ?_
            refine J_iconst hK dX6_estuary_234 ci_0 ?_
            refine J_callSv (As := [.ref (X.1 + 285), .int (0 : Int32), .ref (X.1 + 284), .int (0 : Int32)]) (st := []) hK dX6_estuary_235 kB_X6_135 kS_X6_copies (by decide) rfl rfl (Nat.le_of_ble_eq_true rfl) (fun _ _ hf => uX6_copies kd_285 kd_284 hf) (fun _ h200 => ?_)
            refine J_aload_n hK dX6_estuary_238 1 rfl ?_
            refine J_iconst hK dX6_estuary_239 ci_0 ?_
            refine pF_X6_139 hK dX6_estuary_240 kd_278 (fun h201 => ?_)
            refine J_aload_n hK dX6_estuary_243 1 rfl ?_
            refine rF_X6_25 (q2 := 284) hK dX6_estuary_244 kd_278 rfl ?_
            refine J_iconst hK dX6_estuary_247 ci_2 ?_
            refine J_iald hK dX6_estuary_248 kd_284 (fun _ => ?_)
            exact J_iret hK dX6_estuary_249
      · refine J_iconst hK dX6_estuary_154 ci_0 ?_
        refine J_callVv (q := 278) (As := [.int (0 : Int32)]) (st := []) hK dX6_estuary_155 kB_X6_127 kV_X6_must kd_278 (by decide) rfl rfl (by decide) rfl rfl (Nat.le_of_ble_eq_true rfl) (fun _ _ hf => uX6_must  hf) (fun _ h202 => ?_)
        refine J_sub [0, 1] rfl (gX6_estuary_L158 hK  (fun h203 => ?_) FU _)
        refine J_aload_n hK dX6_estuary_189 1 rfl ?_
        refine J_aload_n hK dX6_estuary_190 1 rfl ?_
        refine gF_X6_95 hK dX6_estuary_191 kd_278 ?_
        refine J_if_ne (tgt := 201) hK dX6_estuary_194 (by decide) ?_ ?_
        · refine J_iconst hK dX6_estuary_197 ci_1 ?_
          refine J_goto (len := 0) (tgt := 202) hK dX6_estuary_198 (by decide) ?_
          refine J_callVv (q := 278) (As := [.int (1 : Int32)]) (st := []) hK dX6_estuary_202 kB_X6_127 kV_X6_must kd_278 (by decide) rfl rfl (by decide) rfl rfl (Nat.le_of_ble_eq_true rfl) (fun _ _ hf => uX6_must  hf) (fun _ h204 => ?_)
          refine J_aload_n hK dX6_estuary_205 1 rfl ?_
          refine J_iconst hK dX6_estuary_206 ci_0 ?_
          refine pF_X6_79 hK dX6_estuary_207 kd_278 (fun h205 => ?_)
          refine J_aload_n hK dX6_estuary_210 1 rfl ?_
          refine J_callVi (q := 278) (As := []) (st := []) hK dX6_estuary_211 kB_X6_101 kV_X6_isWell kd_278 (by decide) rfl rfl (by decide) rfl rfl (Nat.le_of_ble_eq_true rfl) (fun _ _ hf => uX6_isWell  hf) (fun v207 h206 => ?_)
          refine J_if_ne (tgt := 225) hK dX6_estuary_214 (by decide) ?_ ?_
          · refine J_ldc hK dX6_estuary_217 kK_X6_134 ?_
            refine J_aload_n hK dX6_estuary_219 1 rfl ?_
            refine gF_X6_98 hK dX6_estuary_220 kd_278 ?_
            refine J_isub hK dX6_estuary_223 ?_
            exact J_iret hK dX6_estuary_224
          · refine J_aload_n hK dX6_estuary_225 1 rfl ?_
            refine rF_X6_28 (q2 := 285) hK dX6_estuary_226 kd_278 rfl ?_
            refine J_iconst hK dX6_estuary_229 ci_0 ?_
            refine J_aload_n hK dX6_estuary_230 1 rfl ?_
            refine rF_X6_25 (q2 := 284) hK dX6_estuary_231 kd_278 rfl ?_
            refine J_iconst hK dX6_estuary_234 ci_0 ?_
            refine J_callSv (As := [.ref (X.1 + 285), .int (0 : Int32), .ref (X.1 + 284), .int (0 : Int32)]) (st := []) hK dX6_estuary_235 kB_X6_135 kS_X6_copies (by decide) rfl rfl (Nat.le_of_ble_eq_true rfl) (fun _ _ hf => uX6_copies kd_285 kd_284 hf) (fun _ h208 => ?_)
            refine J_aload_n hK dX6_estuary_238 1 rfl ?_
            refine J_iconst hK dX6_estuary_239 ci_0 ?_
            refine pF_X6_139 hK dX6_estuary_240 kd_278 (fun h209 => ?_)
            refine J_aload_n hK dX6_estuary_243 1 rfl ?_
            refine rF_X6_25 (q2 := 284) hK dX6_estuary_244 kd_278 rfl ?_
            refine J_iconst hK dX6_estuary_247 ci_2 ?_
            refine J_iald hK dX6_estuary_248 kd_284 (fun _ => ?_)
            exact J_iret hK dX6_estuary_249
        · refine J_iconst hK dX6_estuary_201 ci_0 ?_
          refine J_callVv (q := 278) (As := [.int (0 : Int32)]) (st := []) hK dX6_estuary_202 kB_X6_127 kV_X6_must kd_278 (by decide) rfl rfl (by decide) rfl rfl (Nat.le_of_ble_eq_true rfl) (fun _ _ hf => uX6_must  hf) (fun _ h210 => ?_)
          refine J_aload_n hK dX6_estuary_205 1 rfl ?_
          refine J_iconst hK dX6_estuary_206 ci_0 ?_
          refine pF_X6_79 hK dX6_estuary_207 kd_278 (fun h211 => ?_)
          refine J_aload_n hK dX6_estuary_210 1 rfl ?_
          refine J_callVi (q := 278) (As := []) (st := []) hK dX6_estuary_211 kB_X6_101 kV_X6_isWell kd_278 (by decide) rfl rfl (by decide) rfl rfl (Nat.le_of_ble_eq_true rfl) (fun _ _ hf => uX6_isWell  hf) (fun v213 h212 => ?_)
          refine J_if_ne (tgt := 225) hK dX6_estuary_214 (by decide) ?_ ?_
          · refine J_ldc hK dX6_estuary_217 kK_X6_134 ?_
            refine J_aload_n hK dX6_estuary_219 1 rfl ?_
            refine gF_X6_98 hK dX6_estuary_220 kd_278 ?_
            refine J_isub hK dX6_estuary_223 ?_
            exact J_iret hK dX6_estuary_224
          · refine J_aload_n hK dX6_estuary_225 1 rfl ?_
            refine rF_X6_28 (q2 := 285) hK dX6_estuary_226 kd_278 rfl ?_
            refine J_iconst hK dX6_estuary_229 ci_0 ?_
            refine J_aload_n hK dX6_estuary_230 1 rfl ?_
            refine rF_X6_25 (q2 := 284) hK dX6_estuary_231 kd_278 rfl ?_
            refine J_iconst hK dX6_estuary_234 ci_0 ?_
            refine J_callSv (As := [.ref (X.1 + 285), .int (0 : Int32), .ref (X.1 + 284), .int (0 : Int32)]) (st := []) hK dX6_estuary_235 kB_X6_135 kS_X6_copies (by decide) rfl rfl (Nat.le_of_ble_eq_true rfl) (fun _ _ hf => uX6_copies kd_285 kd_284 hf) (fun _ h214 => ?_)
            refine J_aload_n hK dX6_estuary_238 1 rfl ?_
            refine J_iconst hK dX6_estuary_239 ci_0 ?_
            refine pF_X6_139 hK dX6_estuary_240 kd_278 (fun h215 => ?_)
            refine J_aload_n hK dX6_estuary_243 1 rfl ?_
            refine rF_X6_25 (q2 := 284) hK dX6_estuary_244 kd_278 rfl ?_
            refine J_iconst hK dX6_estuary_247 ci_2 ?_
            refine J_iald hK dX6_estuary_248 kd_284 (fun _ => ?_)
            exact J_iret hK dX6_estuary_249
