-- X4_append
theorem dX4_append_0 : DD cX4_append 0 (.aload_n 0) 1 1 := by decide +kernel
theorem dX4_append_1 : DD cX4_append 1 (.getfield 15) 3 4 := by decide +kernel
theorem dX4_append_4 : DD cX4_append 4 (.bipush 90) 2 6 := by decide +kernel
theorem dX4_append_6 : DD cX4_append 6 (.if_icmp .ge 23) 3 9 := by decide +kernel
theorem dX4_append_9 : DD cX4_append 9 (.aload_n 0) 1 10 := by decide +kernel
theorem dX4_append_10 : DD cX4_append 10 (.getfield 9) 3 13 := by decide +kernel
theorem dX4_append_13 : DD cX4_append 13 (.aload_n 0) 1 14 := by decide +kernel
theorem dX4_append_14 : DD cX4_append 14 (.getfield 15) 3 17 := by decide +kernel
theorem dX4_append_17 : DD cX4_append 17 (.iload_n 1) 1 18 := by decide +kernel
theorem dX4_append_18 : DD cX4_append 18 (.iastore) 1 19 := by decide +kernel
theorem dX4_append_19 : DD cX4_append 19 (.aload_n 0) 1 20 := by decide +kernel
theorem dX4_append_20 : DD cX4_append 20 (.dup) 1 21 := by decide +kernel
theorem dX4_append_21 : DD cX4_append 21 (.getfield 15) 3 24 := by decide +kernel
theorem dX4_append_24 : DD cX4_append 24 (.iconst 1) 1 25 := by decide +kernel
theorem dX4_append_25 : DD cX4_append 25 (.iadd) 1 26 := by decide +kernel
theorem dX4_append_26 : DD cX4_append 26 (.putfield 15) 3 29 := by decide +kernel
theorem dX4_append_29 : DD cX4_append 29 (.aload_n 0) 1 30 := by decide +kernel
theorem dX4_append_30 : DD cX4_append 30 (.getfield 15) 3 33 := by decide +kernel
theorem dX4_append_33 : DD cX4_append 33 (.ireturn) 1 34 := by decide +kernel
def fX4_append (a1 : Int32) (h : AH) : Option (Int32 × AH) := (if (h 18 1) < (90 : Int32) then (chk (inb (h 18 1) (ln 19)) (sto (hs h 19 (Int32.toNatClampNeg (h 18 1)) a1) fun h1 => (sto (hs h1 18 1 ((h1 18 1) + (1 : Int32))) fun h2 => (some ((h2 18 1), h2))))) else (some ((h 18 1), h)))
set_option maxHeartbeats 4000000 in
set_option maxRecDepth 4000 in
theorem uX4_append {l : Launch} {X : WX} {a1 : Int32} {h h' : AH} {v : Int32} (hf : fX4_append a1 h = some (v, h')) : Does l X 1 yX4_append cX4_append 2 (some .int) [.ref (X.1 + 18), .int a1] h (eI v) h' := by
  refine Does.of (enc := eI) (o := fX4_append a1 h) (lv := [(0, .ref (X.1 + 18)), (1, .int a1)]) (by decide) (Nat.le_of_ble_eq_true rfl) rfl hf (fun K hl hK => ?_)
  subst hl
  unfold fX4_append
  refine J_aload_n hK dX4_append_0 0 rfl ?_
  refine gF_X4_15 hK dX4_append_1 kd_18 ?_
  refine J_bipush hK dX4_append_4 cb_90 ?_
  refine J_icmp_ge (tgt := 29) hK dX4_append_6 (by decide) ?_ ?_
  · refine J_aload_n hK dX4_append_9 0 rfl ?_
    refine rF_X4_9 (q2 := 19) hK dX4_append_10 kd_18 rfl ?_
    refine J_aload_n hK dX4_append_13 0 rfl ?_
    refine gF_X4_15 hK dX4_append_14 kd_18 ?_
    refine J_iload_n hK dX4_append_17 1 rfl ?_
    refine J_iast hK dX4_append_18 kd_19 (fun h1 => ?_)
    refine J_aload_n hK dX4_append_19 0 rfl ?_
    refine J_dup hK dX4_append_20 rfl ?_
    refine gF_X4_15 hK dX4_append_21 kd_18 ?_
    refine J_iconst hK dX4_append_24 ci_1 ?_
    refine J_iadd hK dX4_append_25 ?_
    refine pF_X4_15 hK dX4_append_26 kd_18 (fun h2 => ?_)
    refine J_aload_n hK dX4_append_29 0 rfl ?_
    refine gF_X4_15 hK dX4_append_30 kd_18 ?_
    exact J_iret hK dX4_append_33
  · refine J_aload_n hK dX4_append_29 0 rfl ?_
    refine gF_X4_15 hK dX4_append_30 kd_18 ?_
    exact J_iret hK dX4_append_33
-- X4_byteAt
theorem dX4_byteAt_0 : DD cX4_byteAt 0 (.iload_n 1) 1 1 := by decide +kernel
theorem dX4_byteAt_1 : DD cX4_byteAt 1 (.ifCond .lt 20) 3 4 := by decide +kernel
theorem dX4_byteAt_4 : DD cX4_byteAt 4 (.iload_n 1) 1 5 := by decide +kernel
theorem dX4_byteAt_5 : DD cX4_byteAt 5 (.aload_n 0) 1 6 := by decide +kernel
theorem dX4_byteAt_6 : DD cX4_byteAt 6 (.getfield 15) 3 9 := by decide +kernel
theorem dX4_byteAt_9 : DD cX4_byteAt 9 (.if_icmp .ge 12) 3 12 := by decide +kernel
theorem dX4_byteAt_12 : DD cX4_byteAt 12 (.aload_n 0) 1 13 := by decide +kernel
theorem dX4_byteAt_13 : DD cX4_byteAt 13 (.getfield 9) 3 16 := by decide +kernel
theorem dX4_byteAt_16 : DD cX4_byteAt 16 (.iload_n 1) 1 17 := by decide +kernel
theorem dX4_byteAt_17 : DD cX4_byteAt 17 (.iaload) 1 18 := by decide +kernel
theorem dX4_byteAt_18 : DD cX4_byteAt 18 (.goto 4) 3 21 := by decide +kernel
theorem dX4_byteAt_21 : DD cX4_byteAt 21 (.iconst (-1)) 1 22 := by decide +kernel
theorem dX4_byteAt_22 : DD cX4_byteAt 22 (.ireturn) 1 23 := by decide +kernel
def fX4_byteAt (a1 : Int32) (h : AH) : Option (Int32 × AH) := (if a1 < 0 then (some ((-1 : Int32), h)) else (if a1 < (h 18 1) then (chk (inb a1 (ln 19)) (some ((h 19 (Int32.toNatClampNeg a1)), h))) else (some ((-1 : Int32), h))))
set_option maxHeartbeats 4000000 in
set_option maxRecDepth 4000 in
theorem uX4_byteAt {l : Launch} {X : WX} {a1 : Int32} {h h' : AH} {v : Int32} (hf : fX4_byteAt a1 h = some (v, h')) : Does l X 1 yX4_byteAt cX4_byteAt 2 (some .int) [.ref (X.1 + 18), .int a1] h (eI v) h' := by
  refine Does.of (enc := eI) (o := fX4_byteAt a1 h) (lv := [(0, .ref (X.1 + 18)), (1, .int a1)]) (by decide) (Nat.le_of_ble_eq_true rfl) rfl hf (fun K hl hK => ?_)
  subst hl
  unfold fX4_byteAt
  refine J_iload_n hK dX4_byteAt_0 1 rfl ?_
  refine J_if_lt (tgt := 21) hK dX4_byteAt_1 (by decide) ?_ ?_
  · refine J_iconst hK dX4_byteAt_21 ci_m1 ?_
    exact J_iret hK dX4_byteAt_22
  · refine J_iload_n hK dX4_byteAt_4 1 rfl ?_
    refine J_aload_n hK dX4_byteAt_5 0 rfl ?_
    refine gF_X4_15 hK dX4_byteAt_6 kd_18 ?_
    refine J_icmp_ge (tgt := 21) hK dX4_byteAt_9 (by decide) ?_ ?_
    · refine J_aload_n hK dX4_byteAt_12 0 rfl ?_
      refine rF_X4_9 (q2 := 19) hK dX4_byteAt_13 kd_18 rfl ?_
      refine J_iload_n hK dX4_byteAt_16 1 rfl ?_
      refine J_iald hK dX4_byteAt_17 kd_19 (fun _ => ?_)
      refine J_goto (len := 0) (tgt := 22) hK dX4_byteAt_18 (by decide) ?_
      exact J_iret hK dX4_byteAt_22
    · refine J_iconst hK dX4_byteAt_21 ci_m1 ?_
      exact J_iret hK dX4_byteAt_22
-- X4_faulty
theorem dX4_faulty_0 : DD cX4_faulty 0 (.aload_n 0) 1 1 := by decide +kernel
theorem dX4_faulty_1 : DD cX4_faulty 1 (.iload_n 1) 1 2 := by decide +kernel
theorem dX4_faulty_2 : DD cX4_faulty 2 (.putfield 106) 3 5 := by decide +kernel
theorem dX4_faulty_5 : DD cX4_faulty 5 (.iconst 0) 1 6 := by decide +kernel
theorem dX4_faulty_6 : DD cX4_faulty 6 (.ireturn) 1 7 := by decide +kernel
def fX4_faulty (a1 : Int32) (h : AH) : Option (Int32 × AH) := (sto (hs h 18 3 a1) fun h1 => (some ((0 : Int32), h1)))
set_option maxHeartbeats 4000000 in
set_option maxRecDepth 4000 in
theorem uX4_faulty {l : Launch} {X : WX} {a1 : Int32} {h h' : AH} {v : Int32} (hf : fX4_faulty a1 h = some (v, h')) : Does l X 1 yX4_faulty cX4_faulty 2 (some .boolean) [.ref (X.1 + 18), .int a1] h (eI v) h' := by
  refine Does.of (enc := eI) (o := fX4_faulty a1 h) (lv := [(0, .ref (X.1 + 18)), (1, .int a1)]) (by decide) (Nat.le_of_ble_eq_true rfl) rfl hf (fun K hl hK => ?_)
  subst hl
  unfold fX4_faulty
  refine J_aload_n hK dX4_faulty_0 0 rfl ?_
  refine J_iload_n hK dX4_faulty_1 1 rfl ?_
  refine pF_X4_106 hK dX4_faulty_2 kd_18 (fun h1 => ?_)
  refine J_iconst hK dX4_faulty_5 ci_0 ?_
  exact J_zret0 hK dX4_faulty_6
-- X4_isFigure
theorem dX4_isFigure_0 : DD cX4_isFigure 0 (.iload_n 0) 1 1 := by decide +kernel
theorem dX4_isFigure_1 : DD cX4_isFigure 1 (.bipush 48) 2 3 := by decide +kernel
theorem dX4_isFigure_3 : DD cX4_isFigure 3 (.if_icmp .lt 13) 3 6 := by decide +kernel
theorem dX4_isFigure_6 : DD cX4_isFigure 6 (.iload_n 0) 1 7 := by decide +kernel
theorem dX4_isFigure_7 : DD cX4_isFigure 7 (.bipush 57) 2 9 := by decide +kernel
theorem dX4_isFigure_9 : DD cX4_isFigure 9 (.if_icmp .gt 7) 3 12 := by decide +kernel
theorem dX4_isFigure_12 : DD cX4_isFigure 12 (.iconst 1) 1 13 := by decide +kernel
theorem dX4_isFigure_13 : DD cX4_isFigure 13 (.goto 4) 3 16 := by decide +kernel
theorem dX4_isFigure_16 : DD cX4_isFigure 16 (.iconst 0) 1 17 := by decide +kernel
theorem dX4_isFigure_17 : DD cX4_isFigure 17 (.ireturn) 1 18 := by decide +kernel
def fX4_isFigure (a0 : Int32) (h : AH) : Option (Int32 × AH) := (if a0 < (48 : Int32) then (some ((0 : Int32), h)) else (if (57 : Int32) < a0 then (some ((0 : Int32), h)) else (some ((1 : Int32), h))))
set_option maxHeartbeats 4000000 in
set_option maxRecDepth 4000 in
theorem uX4_isFigure {l : Launch} {X : WX} {a0 : Int32} {h h' : AH} {v : Int32} (hf : fX4_isFigure a0 h = some (v, h')) : Does l X 1 yX4_isFigure cX4_isFigure 1 (some .boolean) [.int a0] h (eI v) h' := by
  refine Does.of (enc := eI) (o := fX4_isFigure a0 h) (lv := [(0, .int a0)]) (by decide) (Nat.le_of_ble_eq_true rfl) rfl hf (fun K hl hK => ?_)
  subst hl
  unfold fX4_isFigure
  refine J_iload_n hK dX4_isFigure_0 0 rfl ?_
  refine J_bipush hK dX4_isFigure_1 cb_48 ?_
  refine J_icmp_lt (tgt := 16) hK dX4_isFigure_3 (by decide) ?_ ?_
  · refine J_iconst hK dX4_isFigure_16 ci_0 ?_
    exact J_zret0 hK dX4_isFigure_17
  · refine J_iload_n hK dX4_isFigure_6 0 rfl ?_
    refine J_bipush hK dX4_isFigure_7 cb_57 ?_
    refine J_icmp_gt (tgt := 16) hK dX4_isFigure_9 (by decide) ?_ ?_
    · refine J_iconst hK dX4_isFigure_16 ci_0 ?_
      exact J_zret0 hK dX4_isFigure_17
    · refine J_iconst hK dX4_isFigure_12 ci_1 ?_
      refine J_goto (len := 0) (tgt := 17) hK dX4_isFigure_13 (by decide) ?_
      exact J_zret1 hK dX4_isFigure_17
-- X4_here
theorem dX4_here_0 : DD cX4_here 0 (.aload_n 0) 1 1 := by decide +kernel
theorem dX4_here_1 : DD cX4_here 1 (.aload_n 0) 1 2 := by decide +kernel
theorem dX4_here_2 : DD cX4_here 2 (.getfield 19) 3 5 := by decide +kernel
theorem dX4_here_5 : DD cX4_here 5 (.invokevirtual 99) 3 8 := by decide +kernel
theorem dX4_here_8 : DD cX4_here 8 (.ireturn) 1 9 := by decide +kernel
def fX4_here (h : AH) : Option (Int32 × AH) := (bnd (fX4_byteAt (h 18 2) h) fun v2 h1 => (some (v2, h1)))
set_option maxHeartbeats 4000000 in
set_option maxRecDepth 4000 in
theorem uX4_here {l : Launch} {X : WX} {h h' : AH} {v : Int32} (hf : fX4_here  h = some (v, h')) : Does l X 2 yX4_here cX4_here 1 (some .int) [.ref (X.1 + 18)] h (eI v) h' := by
  refine Does.of (enc := eI) (o := fX4_here  h) (lv := [(0, .ref (X.1 + 18))]) (by decide) (Nat.le_of_ble_eq_true rfl) rfl hf (fun K hl hK => ?_)
  subst hl
  unfold fX4_here
  refine J_aload_n hK dX4_here_0 0 rfl ?_
  refine J_aload_n hK dX4_here_1 0 rfl ?_
  refine gF_X4_19 hK dX4_here_2 kd_18 ?_
  refine J_callVi (q := 18) (As := [.int (h 18 2)]) (st := []) hK dX4_here_5 kB_X4_99 kV_X4_byteAt kd_18 (by decide) rfl rfl (by decide) rfl rfl (Nat.le_of_ble_eq_true rfl) (fun _ _ hf => uX4_byteAt  hf) (fun v2 h1 => ?_)
  exact J_iret hK dX4_here_8
-- X4_readEnd
theorem dX4_readEnd_0 : DD cX4_readEnd 0 (.aload_n 0) 1 1 := by decide +kernel
theorem dX4_readEnd_1 : DD cX4_readEnd 1 (.getfield 19) 3 4 := by decide +kernel
theorem dX4_readEnd_4 : DD cX4_readEnd 4 (.aload_n 0) 1 5 := by decide +kernel
theorem dX4_readEnd_5 : DD cX4_readEnd 5 (.getfield 15) 3 8 := by decide +kernel
theorem dX4_readEnd_8 : DD cX4_readEnd 8 (.if_icmp .eq 11) 3 11 := by decide +kernel
theorem dX4_readEnd_11 : DD cX4_readEnd 11 (.aload_n 0) 1 12 := by decide +kernel
theorem dX4_readEnd_12 : DD cX4_readEnd 12 (.iconst 1) 1 13 := by decide +kernel
theorem dX4_readEnd_13 : DD cX4_readEnd 13 (.invokevirtual 62) 3 16 := by decide +kernel
theorem dX4_readEnd_16 : DD cX4_readEnd 16 (.ifCond .eq 7) 3 19 := by decide +kernel
theorem dX4_readEnd_19 : DD cX4_readEnd 19 (.iconst 1) 1 20 := by decide +kernel
theorem dX4_readEnd_20 : DD cX4_readEnd 20 (.goto 4) 3 23 := by decide +kernel
theorem dX4_readEnd_23 : DD cX4_readEnd 23 (.iconst 0) 1 24 := by decide +kernel
theorem dX4_readEnd_24 : DD cX4_readEnd 24 (.ireturn) 1 25 := by decide +kernel
def fX4_readEnd (h : AH) : Option (Int32 × AH) := (if (h 18 2) = (h 18 1) then (some ((1 : Int32), h)) else (bnd (fX4_faulty (1 : Int32) h) fun v2 h1 => (if v2 = 0 then (some ((0 : Int32), h1)) else (some ((1 : Int32), h1)))))
set_option maxHeartbeats 4000000 in
set_option maxRecDepth 4000 in
theorem uX4_readEnd {l : Launch} {X : WX} {h h' : AH} {v : Int32} (hf : fX4_readEnd  h = some (v, h')) : Does l X 2 yX4_readEnd cX4_readEnd 1 (some .boolean) [.ref (X.1 + 18)] h (eI v) h' := by
  refine Does.of (enc := eI) (o := fX4_readEnd  h) (lv := [(0, .ref (X.1 + 18))]) (by decide) (Nat.le_of_ble_eq_true rfl) rfl hf (fun K hl hK => ?_)
  subst hl
  unfold fX4_readEnd
  refine J_aload_n hK dX4_readEnd_0 0 rfl ?_
  refine gF_X4_19 hK dX4_readEnd_1 kd_18 ?_
  refine J_aload_n hK dX4_readEnd_4 0 rfl ?_
  refine gF_X4_15 hK dX4_readEnd_5 kd_18 ?_
  refine J_icmp_eq (tgt := 19) hK dX4_readEnd_8 (by decide) ?_ ?_
  · refine J_iconst hK dX4_readEnd_19 ci_1 ?_
    refine J_goto (len := 0) (tgt := 24) hK dX4_readEnd_20 (by decide) ?_
    exact J_zret1 hK dX4_readEnd_24
  · refine J_aload_n hK dX4_readEnd_11 0 rfl ?_
    refine J_iconst hK dX4_readEnd_12 ci_1 ?_
    refine J_callVi (q := 18) (As := [.int (1 : Int32)]) (st := []) hK dX4_readEnd_13 kB_X4_62 kV_X4_faulty kd_18 (by decide) rfl rfl (by decide) rfl rfl (Nat.le_of_ble_eq_true rfl) (fun _ _ hf => uX4_faulty  hf) (fun v2 h1 => ?_)
    refine J_if_eq (tgt := 23) hK dX4_readEnd_16 (by decide) ?_ ?_
    · refine J_iconst hK dX4_readEnd_23 ci_0 ?_
      exact J_zret0 hK dX4_readEnd_24
    · refine J_iconst hK dX4_readEnd_19 ci_1 ?_
      refine J_goto (len := 0) (tgt := 24) hK dX4_readEnd_20 (by decide) ?_
      exact J_zret1 hK dX4_readEnd_24
-- X4_readNumber
theorem dX4_readNumber_0 : DD cX4_readNumber 0 (.aload_n 0) 1 1 := by decide +kernel
theorem dX4_readNumber_1 : DD cX4_readNumber 1 (.getfield 19) 3 4 := by decide +kernel
theorem dX4_readNumber_4 : DD cX4_readNumber 4 (.istore_n 3) 1 5 := by decide +kernel
theorem dX4_readNumber_5 : DD cX4_readNumber 5 (.iconst 0) 1 6 := by decide +kernel
theorem dX4_readNumber_6 : DD cX4_readNumber 6 (.istore 4) 2 8 := by decide +kernel
theorem dX4_readNumber_8 : DD cX4_readNumber 8 (.iconst 0) 1 9 := by decide +kernel
theorem dX4_readNumber_9 : DD cX4_readNumber 9 (.istore 5) 2 11 := by decide +kernel
theorem dX4_readNumber_11 : DD cX4_readNumber 11 (.iload 4) 2 13 := by decide +kernel
theorem dX4_readNumber_13 : DD cX4_readNumber 13 (.iconst 3) 1 14 := by decide +kernel
theorem dX4_readNumber_14 : DD cX4_readNumber 14 (.if_icmp .ge 42) 3 17 := by decide +kernel
theorem dX4_readNumber_17 : DD cX4_readNumber 17 (.aload_n 0) 1 18 := by decide +kernel
theorem dX4_readNumber_18 : DD cX4_readNumber 18 (.iload_n 3) 1 19 := by decide +kernel
theorem dX4_readNumber_19 : DD cX4_readNumber 19 (.iload 4) 2 21 := by decide +kernel
theorem dX4_readNumber_21 : DD cX4_readNumber 21 (.iadd) 1 22 := by decide +kernel
theorem dX4_readNumber_22 : DD cX4_readNumber 22 (.invokevirtual 99) 3 25 := by decide +kernel
theorem dX4_readNumber_25 : DD cX4_readNumber 25 (.invokestatic 103) 3 28 := by decide +kernel
theorem dX4_readNumber_28 : DD cX4_readNumber 28 (.ifCond .eq 28) 3 31 := by decide +kernel
theorem dX4_readNumber_31 : DD cX4_readNumber 31 (.iload 5) 2 33 := by decide +kernel
theorem dX4_readNumber_33 : DD cX4_readNumber 33 (.bipush 10) 2 35 := by decide +kernel
theorem dX4_readNumber_35 : DD cX4_readNumber 35 (.imul) 1 36 := by decide +kernel
theorem dX4_readNumber_36 : DD cX4_readNumber 36 (.aload_n 0) 1 37 := by decide +kernel
theorem dX4_readNumber_37 : DD cX4_readNumber 37 (.iload_n 3) 1 38 := by decide +kernel
theorem dX4_readNumber_38 : DD cX4_readNumber 38 (.iload 4) 2 40 := by decide +kernel
theorem dX4_readNumber_40 : DD cX4_readNumber 40 (.iadd) 1 41 := by decide +kernel
theorem dX4_readNumber_41 : DD cX4_readNumber 41 (.invokevirtual 99) 3 44 := by decide +kernel
theorem dX4_readNumber_44 : DD cX4_readNumber 44 (.iadd) 1 45 := by decide +kernel
theorem dX4_readNumber_45 : DD cX4_readNumber 45 (.bipush 48) 2 47 := by decide +kernel
theorem dX4_readNumber_47 : DD cX4_readNumber 47 (.isub) 1 48 := by decide +kernel
theorem dX4_readNumber_48 : DD cX4_readNumber 48 (.istore 5) 2 50 := by decide +kernel
theorem dX4_readNumber_50 : DD cX4_readNumber 50 (.iinc 4 1) 3 53 := by decide +kernel
theorem dX4_readNumber_53 : DD cX4_readNumber 53 (.goto (-42)) 3 56 := by decide +kernel
theorem dX4_readNumber_56 : DD cX4_readNumber 56 (.iload 4) 2 58 := by decide +kernel
theorem dX4_readNumber_58 : DD cX4_readNumber 58 (.ifCond .eq 9) 3 61 := by decide +kernel
theorem dX4_readNumber_61 : DD cX4_readNumber 61 (.iload 4) 2 63 := by decide +kernel
theorem dX4_readNumber_63 : DD cX4_readNumber 63 (.iconst 3) 1 64 := by decide +kernel
theorem dX4_readNumber_64 : DD cX4_readNumber 64 (.if_icmp .ne 9) 3 67 := by decide +kernel
theorem dX4_readNumber_67 : DD cX4_readNumber 67 (.aload_n 0) 1 68 := by decide +kernel
theorem dX4_readNumber_68 : DD cX4_readNumber 68 (.iconst 1) 1 69 := by decide +kernel
theorem dX4_readNumber_69 : DD cX4_readNumber 69 (.invokevirtual 62) 3 72 := by decide +kernel
theorem dX4_readNumber_72 : DD cX4_readNumber 72 (.ireturn) 1 73 := by decide +kernel
theorem dX4_readNumber_73 : DD cX4_readNumber 73 (.iload 5) 2 75 := by decide +kernel
theorem dX4_readNumber_75 : DD cX4_readNumber 75 (.iload_n 1) 1 76 := by decide +kernel
theorem dX4_readNumber_76 : DD cX4_readNumber 76 (.if_icmp .lt 9) 3 79 := by decide +kernel
theorem dX4_readNumber_79 : DD cX4_readNumber 79 (.iload 5) 2 81 := by decide +kernel
theorem dX4_readNumber_81 : DD cX4_readNumber 81 (.iload_n 2) 1 82 := by decide +kernel
theorem dX4_readNumber_82 : DD cX4_readNumber 82 (.if_icmp .le 9) 3 85 := by decide +kernel
theorem dX4_readNumber_85 : DD cX4_readNumber 85 (.aload_n 0) 1 86 := by decide +kernel
theorem dX4_readNumber_86 : DD cX4_readNumber 86 (.iconst 2) 1 87 := by decide +kernel
theorem dX4_readNumber_87 : DD cX4_readNumber 87 (.invokevirtual 62) 3 90 := by decide +kernel
theorem dX4_readNumber_90 : DD cX4_readNumber 90 (.ireturn) 1 91 := by decide +kernel
theorem dX4_readNumber_91 : DD cX4_readNumber 91 (.aload_n 0) 1 92 := by decide +kernel
theorem dX4_readNumber_92 : DD cX4_readNumber 92 (.iload 5) 2 94 := by decide +kernel
theorem dX4_readNumber_94 : DD cX4_readNumber 94 (.putfield 49) 3 97 := by decide +kernel
theorem dX4_readNumber_97 : DD cX4_readNumber 97 (.aload_n 0) 1 98 := by decide +kernel
theorem dX4_readNumber_98 : DD cX4_readNumber 98 (.iload_n 3) 1 99 := by decide +kernel
theorem dX4_readNumber_99 : DD cX4_readNumber 99 (.iload 4) 2 101 := by decide +kernel
theorem dX4_readNumber_101 : DD cX4_readNumber 101 (.iadd) 1 102 := by decide +kernel
theorem dX4_readNumber_102 : DD cX4_readNumber 102 (.putfield 19) 3 105 := by decide +kernel
theorem dX4_readNumber_105 : DD cX4_readNumber 105 (.iconst 1) 1 106 := by decide +kernel
theorem dX4_readNumber_106 : DD cX4_readNumber 106 (.ireturn) 1 107 := by decide +kernel
def fX4_readNumber_L11 (p3 : Int32) (p1 : Int32) (p2 : Int32) : Nat → Int32 → Int32 → AH → (Int32 → Int32 → AH → Option (Int32 × AH)) → Option (Int32 × AH)
  | 0, _, _, _, _ => none
  | n + 1, x5, x4, h, k => (if x4 < (3 : Int32) then (bnd (fX4_byteAt (p3 + x4) h) fun v202 h201 => (bnd (fX4_isFigure v202 h201) fun v204 h203 => (if v204 = 0 then k x5 x4 h203 else (bnd (fX4_byteAt (p3 + x4) h203) fun v206 h205 => (vl (((x5 * (10 : Int32)) + v206) - (48 : Int32)) fun z207 => (vl (x4 + (1 : Int32)) fun z208 => fX4_readNumber_L11 p3 p1 p2 n z207 z208 h205 k)))))) else k x5 x4 h)
def fX4_readNumber (a1 : Int32) (a2 : Int32) (h : AH) : Option (Int32 × AH) := (vl (h 18 2) fun z1 => (fX4_readNumber_L11 z1 a1 a2 FU (0 : Int32) (0 : Int32) h fun z2 z3 h4 => (if z3 = 0 then (bnd (fX4_faulty (1 : Int32) h4) fun v6 h5 => (chk (v6 = 0 ∨ v6 = 1) (some (v6, h5)))) else (if z3 = (3 : Int32) then (bnd (fX4_faulty (1 : Int32) h4) fun v8 h7 => (chk (v8 = 0 ∨ v8 = 1) (some (v8, h7)))) else (if z2 < a1 then (bnd (fX4_faulty (2 : Int32) h4) fun v10 h9 => (chk (v10 = 0 ∨ v10 = 1) (some (v10, h9)))) else (if a2 < z2 then (bnd (fX4_faulty (2 : Int32) h4) fun v12 h11 => (chk (v12 = 0 ∨ v12 = 1) (some (v12, h11)))) else (sto (hs h4 18 4 z2) fun h13 => (sto (hs h13 18 2 (z1 + z3)) fun h14 => (some ((1 : Int32), h14))))))))))
set_option maxHeartbeats 4000000 in
theorem gX4_readNumber_L11 {K : MC} {X : WX} {p3 : Int32} {p1 : Int32} {p2 : Int32} (hK : Ok K X RX4 cX4_readNumber 6 (some .boolean) 2) {k : Int32 → Int32 → AH → Option (Int32 × AH)} (hk : ∀ (x5 : Int32) (x4 : Int32) (h : AH), J K X 6 (Zm K X) eI 56 [(5, .int x5), (4, .int x4), (3, .int p3), (0, .ref (X.1 + 18)), (1, .int p1), (2, .int p2)] [] h (k x5 x4 h)) : ∀ (n : Nat) (x5 : Int32) (x4 : Int32) (h : AH), J K X 6 (Zm K X) eI 11 [(5, .int x5), (4, .int x4), (3, .int p3), (0, .ref (X.1 + 18)), (1, .int p1), (2, .int p2)] [] h (fX4_readNumber_L11 p3 p1 p2 n x5 x4 h k) := by
  intro n
  induction n with
  | zero => exact fun _ _ _ => J_none
  | succ n ih =>
    intro x5 x4 h
    rw [fX4_readNumber_L11]
    refine J_iload hK dX4_readNumber_11 1 rfl ?_
    refine J_iconst hK dX4_readNumber_13 ci_3 ?_
    refine J_icmp_ge (tgt := 56) hK dX4_readNumber_14 (by decide) ?_ ?_
    · refine J_aload_n hK dX4_readNumber_17 3 rfl ?_
      refine J_iload_n hK dX4_readNumber_18 2 rfl ?_
      refine J_iload hK dX4_readNumber_19 1 rfl ?_
      refine J_iadd hK dX4_readNumber_21 ?_
      refine J_callVi (q := 18) (As := [.int (p3 + x4)]) (st := []) hK dX4_readNumber_22 kB_X4_99 kV_X4_byteAt kd_18 (by decide) rfl rfl (by decide) rfl rfl (Nat.le_of_ble_eq_true rfl) (fun _ _ hf => uX4_byteAt  hf) (fun v202 h201 => ?_)
      refine J_callSi (As := [.int v202]) (st := []) hK dX4_readNumber_25 kB_X4_103 kS_X4_isFigure (by decide) rfl rfl (Nat.le_of_ble_eq_true rfl) (fun _ _ hf => uX4_isFigure  hf) (fun v204 h203 => ?_)
      refine J_if_eq (tgt := 56) hK dX4_readNumber_28 (by decide) ?_ ?_
      · exact J_sub [0, 1, 2, 3, 4, 5] rfl (hk _ _ _)
      · refine J_iload hK dX4_readNumber_31 0 rfl ?_
        refine J_bipush hK dX4_readNumber_33 cb_10 ?_
        refine J_imul hK dX4_readNumber_35 ?_
        refine J_aload_n hK dX4_readNumber_36 3 rfl ?_
        refine J_iload_n hK dX4_readNumber_37 2 rfl ?_
        refine J_iload hK dX4_readNumber_38 1 rfl ?_
        refine J_iadd hK dX4_readNumber_40 ?_
        refine J_callVi (q := 18) (As := [.int (p3 + x4)]) (st := [.int (x5 * (10 : Int32))]) hK dX4_readNumber_41 kB_X4_99 kV_X4_byteAt kd_18 (by decide) rfl rfl (by decide) rfl rfl (Nat.le_of_ble_eq_true rfl) (fun _ _ hf => uX4_byteAt  hf) (fun v206 h205 => ?_)
        refine J_iadd hK dX4_readNumber_44 ?_
        refine J_bipush hK dX4_readNumber_45 cb_48 ?_
        refine J_isub hK dX4_readNumber_47 ?_
        refine J_istoreV (lw := [(4, .int x4), (3, .int p3), (0, .ref (X.1 + 18)), (1, .int p1), (2, .int p2)]) hK dX4_readNumber_48 (by decide) rfl (fun z207 => ?_)
        refine J_iinc (lw := [(5, .int z207), (3, .int p3), (0, .ref (X.1 + 18)), (1, .int p1), (2, .int p2)]) hK dX4_readNumber_50 1 rfl (by decide) ci_1 rfl (fun z208 => ?_)
        refine J_goto (len := 0) (tgt := 11) hK dX4_readNumber_53 (by decide) ?_
        exact J_sub [1, 0, 2, 3, 4, 5] rfl (ih _ _ _)
    · exact J_sub [0, 1, 2, 3, 4, 5] rfl (hk _ _ _)
set_option maxHeartbeats 4000000 in
set_option maxRecDepth 4000 in
theorem uX4_readNumber {l : Launch} {X : WX} {a1 : Int32} {a2 : Int32} {h h' : AH} {v : Int32} (hf : fX4_readNumber a1 a2 h = some (v, h')) : Does l X 2 yX4_readNumber cX4_readNumber 6 (some .boolean) [.ref (X.1 + 18), .int a1, .int a2] h (eI v) h' := by
  refine Does.of (enc := eI) (o := fX4_readNumber a1 a2 h) (lv := [(0, .ref (X.1 + 18)), (1, .int a1), (2, .int a2)]) (by decide) (Nat.le_of_ble_eq_true rfl) rfl hf (fun K hl hK => ?_)
  subst hl
  unfold fX4_readNumber
  refine J_aload_n hK dX4_readNumber_0 0 rfl ?_
  refine gF_X4_19 hK dX4_readNumber_1 kd_18 ?_
  refine J_istoreV_n (n := 3) (lw := [(0, .ref (X.1 + 18)), (1, .int a1), (2, .int a2)]) hK dX4_readNumber_4 rfl (by decide) rfl (fun z1 => ?_)
  refine J_iconst hK dX4_readNumber_5 ci_0 ?_
  refine J_istore (lw := [(3, .int z1), (0, .ref (X.1 + 18)), (1, .int a1), (2, .int a2)]) hK dX4_readNumber_6 (by decide) rfl ?_
  refine J_iconst hK dX4_readNumber_8 ci_0 ?_
  refine J_istore (lw := [(4, .int (0 : Int32)), (3, .int z1), (0, .ref (X.1 + 18)), (1, .int a1), (2, .int a2)]) hK dX4_readNumber_9 (by decide) rfl ?_
  refine J_sub [0, 1, 2, 3, 4, 5] rfl (gX4_readNumber_L11 hK  (fun z2 z3 h4 => ?_) FU _ _ _)
  refine J_iload hK dX4_readNumber_56 1 rfl ?_
  refine J_if_eq (tgt := 67) hK dX4_readNumber_58 (by decide) ?_ ?_
  · refine J_aload_n hK dX4_readNumber_67 3 rfl ?_
    refine J_iconst hK dX4_readNumber_68 ci_1 ?_
    refine J_callVi (q := 18) (As := [.int (1 : Int32)]) (st := []) hK dX4_readNumber_69 kB_X4_62 kV_X4_faulty kd_18 (by decide) rfl rfl (by decide) rfl rfl (Nat.le_of_ble_eq_true rfl) (fun _ _ hf => uX4_faulty  hf) (fun v6 h5 => ?_)
    exact J_zret hK dX4_readNumber_72
  · refine J_iload hK dX4_readNumber_61 1 rfl ?_
    refine J_iconst hK dX4_readNumber_63 ci_3 ?_
    refine J_icmp_ne (tgt := 73) hK dX4_readNumber_64 (by decide) ?_ ?_
    · refine J_aload_n hK dX4_readNumber_67 3 rfl ?_
      refine J_iconst hK dX4_readNumber_68 ci_1 ?_
      refine J_callVi (q := 18) (As := [.int (1 : Int32)]) (st := []) hK dX4_readNumber_69 kB_X4_62 kV_X4_faulty kd_18 (by decide) rfl rfl (by decide) rfl rfl (Nat.le_of_ble_eq_true rfl) (fun _ _ hf => uX4_faulty  hf) (fun v8 h7 => ?_)
      exact J_zret hK dX4_readNumber_72
    · refine J_iload hK dX4_readNumber_73 0 rfl ?_
      refine J_iload_n hK dX4_readNumber_75 4 rfl ?_
      refine J_icmp_lt (tgt := 85) hK dX4_readNumber_76 (by decide) ?_ ?_
      · refine J_aload_n hK dX4_readNumber_85 3 rfl ?_
        refine J_iconst hK dX4_readNumber_86 ci_2 ?_
        refine J_callVi (q := 18) (As := [.int (2 : Int32)]) (st := []) hK dX4_readNumber_87 kB_X4_62 kV_X4_faulty kd_18 (by decide) rfl rfl (by decide) rfl rfl (Nat.le_of_ble_eq_true rfl) (fun _ _ hf => uX4_faulty  hf) (fun v10 h9 => ?_)
        exact J_zret hK dX4_readNumber_90
      · refine J_iload hK dX4_readNumber_79 0 rfl ?_
        refine J_iload_n hK dX4_readNumber_81 5 rfl ?_
        refine J_icmp_le (tgt := 91) hK dX4_readNumber_82 (by decide) ?_ ?_
        · refine J_aload_n hK dX4_readNumber_85 3 rfl ?_
          refine J_iconst hK dX4_readNumber_86 ci_2 ?_
          refine J_callVi (q := 18) (As := [.int (2 : Int32)]) (st := []) hK dX4_readNumber_87 kB_X4_62 kV_X4_faulty kd_18 (by decide) rfl rfl (by decide) rfl rfl (Nat.le_of_ble_eq_true rfl) (fun _ _ hf => uX4_faulty  hf) (fun v12 h11 => ?_)
          exact J_zret hK dX4_readNumber_90
        · refine J_aload_n hK dX4_readNumber_91 3 rfl ?_
          refine J_iload hK dX4_readNumber_92 0 rfl ?_
          refine pF_X4_49 hK dX4_readNumber_94 kd_18 (fun h13 => ?_)
          refine J_aload_n hK dX4_readNumber_97 3 rfl ?_
          refine J_iload_n hK dX4_readNumber_98 2 rfl ?_
          refine J_iload hK dX4_readNumber_99 1 rfl ?_
          refine J_iadd hK dX4_readNumber_101 ?_
          refine pF_X4_19 hK dX4_readNumber_102 kd_18 (fun h14 => ?_)
          refine J_iconst hK dX4_readNumber_105 ci_1 ?_
          exact J_zret1 hK dX4_readNumber_106
-- X4_readSign
theorem dX4_readSign_0 : DD cX4_readSign 0 (.aload_n 0) 1 1 := by decide +kernel
theorem dX4_readSign_1 : DD cX4_readSign 1 (.invokevirtual 84) 3 4 := by decide +kernel
theorem dX4_readSign_4 : DD cX4_readSign 4 (.iload_n 1) 1 5 := by decide +kernel
theorem dX4_readSign_5 : DD cX4_readSign 5 (.if_icmp .eq 9) 3 8 := by decide +kernel
theorem dX4_readSign_8 : DD cX4_readSign 8 (.aload_n 0) 1 9 := by decide +kernel
theorem dX4_readSign_9 : DD cX4_readSign 9 (.iconst 1) 1 10 := by decide +kernel
theorem dX4_readSign_10 : DD cX4_readSign 10 (.invokevirtual 62) 3 13 := by decide +kernel
theorem dX4_readSign_13 : DD cX4_readSign 13 (.ireturn) 1 14 := by decide +kernel
theorem dX4_readSign_14 : DD cX4_readSign 14 (.aload_n 0) 1 15 := by decide +kernel
theorem dX4_readSign_15 : DD cX4_readSign 15 (.dup) 1 16 := by decide +kernel
theorem dX4_readSign_16 : DD cX4_readSign 16 (.getfield 19) 3 19 := by decide +kernel
theorem dX4_readSign_19 : DD cX4_readSign 19 (.iconst 1) 1 20 := by decide +kernel
theorem dX4_readSign_20 : DD cX4_readSign 20 (.iadd) 1 21 := by decide +kernel
theorem dX4_readSign_21 : DD cX4_readSign 21 (.putfield 19) 3 24 := by decide +kernel
theorem dX4_readSign_24 : DD cX4_readSign 24 (.iconst 1) 1 25 := by decide +kernel
theorem dX4_readSign_25 : DD cX4_readSign 25 (.ireturn) 1 26 := by decide +kernel
def fX4_readSign (a1 : Int32) (h : AH) : Option (Int32 × AH) := (bnd (fX4_here  h) fun v2 h1 => (if v2 = a1 then (sto (hs h1 18 2 ((h1 18 2) + (1 : Int32))) fun h3 => (some ((1 : Int32), h3))) else (bnd (fX4_faulty (1 : Int32) h1) fun v5 h4 => (chk (v5 = 0 ∨ v5 = 1) (some (v5, h4))))))
set_option maxHeartbeats 4000000 in
set_option maxRecDepth 4000 in
theorem uX4_readSign {l : Launch} {X : WX} {a1 : Int32} {h h' : AH} {v : Int32} (hf : fX4_readSign a1 h = some (v, h')) : Does l X 3 yX4_readSign cX4_readSign 2 (some .boolean) [.ref (X.1 + 18), .int a1] h (eI v) h' := by
  refine Does.of (enc := eI) (o := fX4_readSign a1 h) (lv := [(0, .ref (X.1 + 18)), (1, .int a1)]) (by decide) (Nat.le_of_ble_eq_true rfl) rfl hf (fun K hl hK => ?_)
  subst hl
  unfold fX4_readSign
  refine J_aload_n hK dX4_readSign_0 0 rfl ?_
  refine J_callVi (q := 18) (As := []) (st := []) hK dX4_readSign_1 kB_X4_84 kV_X4_here kd_18 (by decide) rfl rfl (by decide) rfl rfl (Nat.le_of_ble_eq_true rfl) (fun _ _ hf => uX4_here  hf) (fun v2 h1 => ?_)
  refine J_iload_n hK dX4_readSign_4 1 rfl ?_
  refine J_icmp_eq (tgt := 14) hK dX4_readSign_5 (by decide) ?_ ?_
  · refine J_aload_n hK dX4_readSign_14 0 rfl ?_
    refine J_dup hK dX4_readSign_15 rfl ?_
    refine gF_X4_19 hK dX4_readSign_16 kd_18 ?_
    refine J_iconst hK dX4_readSign_19 ci_1 ?_
    refine J_iadd hK dX4_readSign_20 ?_
    refine pF_X4_19 hK dX4_readSign_21 kd_18 (fun h3 => ?_)
    refine J_iconst hK dX4_readSign_24 ci_1 ?_
    exact J_zret1 hK dX4_readSign_25
  · refine J_aload_n hK dX4_readSign_8 0 rfl ?_
    refine J_iconst hK dX4_readSign_9 ci_1 ?_
    refine J_callVi (q := 18) (As := [.int (1 : Int32)]) (st := []) hK dX4_readSign_10 kB_X4_62 kV_X4_faulty kd_18 (by decide) rfl rfl (by decide) rfl rfl (Nat.le_of_ble_eq_true rfl) (fun _ _ hf => uX4_faulty  hf) (fun v5 h4 => ?_)
    exact J_zret hK dX4_readSign_13
-- X4_sortHere
theorem dX4_sortHere_0 : DD cX4_sortHere 0 (.aload_n 0) 1 1 := by decide +kernel
theorem dX4_sortHere_1 : DD cX4_sortHere 1 (.invokevirtual 84) 3 4 := by decide +kernel
theorem dX4_sortHere_4 : DD cX4_sortHere 4 (.lookupswitch 62 #[(97, 58), (98, 60), (108, 54), (112, 52), (115, 56)]) 52 56 := by decide +kernel
theorem dX4_sortHere_56 : DD cX4_sortHere 56 (.iconst 1) 1 57 := by decide +kernel
theorem dX4_sortHere_57 : DD cX4_sortHere 57 (.ireturn) 1 58 := by decide +kernel
theorem dX4_sortHere_58 : DD cX4_sortHere 58 (.iconst 2) 1 59 := by decide +kernel
theorem dX4_sortHere_59 : DD cX4_sortHere 59 (.ireturn) 1 60 := by decide +kernel
theorem dX4_sortHere_60 : DD cX4_sortHere 60 (.iconst 3) 1 61 := by decide +kernel
theorem dX4_sortHere_61 : DD cX4_sortHere 61 (.ireturn) 1 62 := by decide +kernel
theorem dX4_sortHere_62 : DD cX4_sortHere 62 (.iconst 4) 1 63 := by decide +kernel
theorem dX4_sortHere_63 : DD cX4_sortHere 63 (.ireturn) 1 64 := by decide +kernel
theorem dX4_sortHere_64 : DD cX4_sortHere 64 (.iconst 5) 1 65 := by decide +kernel
theorem dX4_sortHere_65 : DD cX4_sortHere 65 (.ireturn) 1 66 := by decide +kernel
theorem dX4_sortHere_66 : DD cX4_sortHere 66 (.iconst 0) 1 67 := by decide +kernel
theorem dX4_sortHere_67 : DD cX4_sortHere 67 (.ireturn) 1 68 := by decide +kernel
def fX4_sortHere (h : AH) : Option (Int32 × AH) := (bnd (fX4_here  h) fun v2 h1 => (if v2 = (97 : Int32) then (some ((4 : Int32), h1)) else (if v2 = (98 : Int32) then (some ((5 : Int32), h1)) else (if v2 = (108 : Int32) then (some ((2 : Int32), h1)) else (if v2 = (112 : Int32) then (some ((1 : Int32), h1)) else (if v2 = (115 : Int32) then (some ((3 : Int32), h1)) else (some ((0 : Int32), h1))))))))
set_option maxHeartbeats 4000000 in
set_option maxRecDepth 4000 in
theorem uX4_sortHere {l : Launch} {X : WX} {h h' : AH} {v : Int32} (hf : fX4_sortHere  h = some (v, h')) : Does l X 3 yX4_sortHere cX4_sortHere 1 (some .int) [.ref (X.1 + 18)] h (eI v) h' := by
  refine Does.of (enc := eI) (o := fX4_sortHere  h) (lv := [(0, .ref (X.1 + 18))]) (by decide) (Nat.le_of_ble_eq_true rfl) rfl hf (fun K hl hK => ?_)
  subst hl
  unfold fX4_sortHere
  refine J_aload_n hK dX4_sortHere_0 0 rfl ?_
  refine J_callVi (q := 18) (As := []) (st := []) hK dX4_sortHere_1 kB_X4_84 kV_X4_here kd_18 (by decide) rfl rfl (by decide) rfl rfl (Nat.le_of_ble_eq_true rfl) (fun _ _ hf => uX4_here  hf) (fun v2 h1 => ?_)
  refine J_split (c := v2 = (97 : Int32)) (fun e3 => ?_) (fun e3 => ?_)
  · refine J_lookup (off := 58) (tgt := 62) hK dX4_sortHere_4 (by decide) (by rw [e3]; decide) (by decide) ?_
    refine J_iconst hK dX4_sortHere_62 ci_4 ?_
    exact J_iret hK dX4_sortHere_63
  refine J_split (c := v2 = (98 : Int32)) (fun e4 => ?_) (fun e4 => ?_)
  · refine J_lookup (off := 60) (tgt := 64) hK dX4_sortHere_4 (by decide) (by rw [e4]; decide) (by decide) ?_
    refine J_iconst hK dX4_sortHere_64 ci_5 ?_
    exact J_iret hK dX4_sortHere_65
  refine J_split (c := v2 = (108 : Int32)) (fun e5 => ?_) (fun e5 => ?_)
  · refine J_lookup (off := 54) (tgt := 58) hK dX4_sortHere_4 (by decide) (by rw [e5]; decide) (by decide) ?_
    refine J_iconst hK dX4_sortHere_58 ci_2 ?_
    exact J_iret hK dX4_sortHere_59
  refine J_split (c := v2 = (112 : Int32)) (fun e6 => ?_) (fun e6 => ?_)
  · refine J_lookup (off := 52) (tgt := 56) hK dX4_sortHere_4 (by decide) (by rw [e6]; decide) (by decide) ?_
    refine J_iconst hK dX4_sortHere_56 ci_1 ?_
    exact J_iret hK dX4_sortHere_57
  refine J_split (c := v2 = (115 : Int32)) (fun e7 => ?_) (fun e7 => ?_)
  · refine J_lookup (off := 56) (tgt := 60) hK dX4_sortHere_4 (by decide) (by rw [e7]; decide) (by decide) ?_
    refine J_iconst hK dX4_sortHere_60 ci_3 ?_
    exact J_iret hK dX4_sortHere_61
  refine J_lookup (off := 62) (tgt := 66) hK dX4_sortHere_4 (by decide) (lk_out _ [97, 98, 108, 112, 115] (by decide) (nl1 e3 (nl1 e4 (nl1 e5 (nl1 e6 (nl1 e7 nl0)))))) (by decide) ?_
  refine J_iconst hK dX4_sortHere_66 ci_0 ?_
  exact J_iret hK dX4_sortHere_67
-- X4_readLaw
theorem dX4_readLaw_0 : DD cX4_readLaw 0 (.aload_n 0) 1 1 := by decide +kernel
theorem dX4_readLaw_1 : DD cX4_readLaw 1 (.bipush 116) 2 3 := by decide +kernel
theorem dX4_readLaw_3 : DD cX4_readLaw 3 (.invokevirtual 41) 3 6 := by decide +kernel
theorem dX4_readLaw_6 : DD cX4_readLaw 6 (.ifCond .eq 13) 3 9 := by decide +kernel
theorem dX4_readLaw_9 : DD cX4_readLaw 9 (.aload_n 0) 1 10 := by decide +kernel
theorem dX4_readLaw_10 : DD cX4_readLaw 10 (.iconst 1) 1 11 := by decide +kernel
theorem dX4_readLaw_11 : DD cX4_readLaw 11 (.bipush 60) 2 13 := by decide +kernel
theorem dX4_readLaw_13 : DD cX4_readLaw 13 (.invokevirtual 45) 3 16 := by decide +kernel
theorem dX4_readLaw_16 : DD cX4_readLaw 16 (.ifCond .ne 5) 3 19 := by decide +kernel
theorem dX4_readLaw_19 : DD cX4_readLaw 19 (.iconst 0) 1 20 := by decide +kernel
theorem dX4_readLaw_20 : DD cX4_readLaw 20 (.ireturn) 1 21 := by decide +kernel
theorem dX4_readLaw_21 : DD cX4_readLaw 21 (.aload_n 1) 1 22 := by decide +kernel
theorem dX4_readLaw_22 : DD cX4_readLaw 22 (.aload_n 0) 1 23 := by decide +kernel
theorem dX4_readLaw_23 : DD cX4_readLaw 23 (.getfield 49) 3 26 := by decide +kernel
theorem dX4_readLaw_26 : DD cX4_readLaw 26 (.putfield 52) 3 29 := by decide +kernel
theorem dX4_readLaw_29 : DD cX4_readLaw 29 (.aload_n 0) 1 30 := by decide +kernel
theorem dX4_readLaw_30 : DD cX4_readLaw 30 (.bipush 44) 2 32 := by decide +kernel
theorem dX4_readLaw_32 : DD cX4_readLaw 32 (.invokevirtual 41) 3 35 := by decide +kernel
theorem dX4_readLaw_35 : DD cX4_readLaw 35 (.ifCond .eq 13) 3 38 := by decide +kernel
theorem dX4_readLaw_38 : DD cX4_readLaw 38 (.aload_n 0) 1 39 := by decide +kernel
theorem dX4_readLaw_39 : DD cX4_readLaw 39 (.iconst 1) 1 40 := by decide +kernel
theorem dX4_readLaw_40 : DD cX4_readLaw 40 (.bipush 99) 2 42 := by decide +kernel
theorem dX4_readLaw_42 : DD cX4_readLaw 42 (.invokevirtual 45) 3 45 := by decide +kernel
theorem dX4_readLaw_45 : DD cX4_readLaw 45 (.ifCond .ne 5) 3 48 := by decide +kernel
theorem dX4_readLaw_48 : DD cX4_readLaw 48 (.iconst 0) 1 49 := by decide +kernel
theorem dX4_readLaw_49 : DD cX4_readLaw 49 (.ireturn) 1 50 := by decide +kernel
theorem dX4_readLaw_50 : DD cX4_readLaw 50 (.aload_n 1) 1 51 := by decide +kernel
theorem dX4_readLaw_51 : DD cX4_readLaw 51 (.aload_n 0) 1 52 := by decide +kernel
theorem dX4_readLaw_52 : DD cX4_readLaw 52 (.getfield 49) 3 55 := by decide +kernel
theorem dX4_readLaw_55 : DD cX4_readLaw 55 (.putfield 55) 3 58 := by decide +kernel
theorem dX4_readLaw_58 : DD cX4_readLaw 58 (.aload_n 0) 1 59 := by decide +kernel
theorem dX4_readLaw_59 : DD cX4_readLaw 59 (.bipush 59) 2 61 := by decide +kernel
theorem dX4_readLaw_61 : DD cX4_readLaw 61 (.invokevirtual 41) 3 64 := by decide +kernel
theorem dX4_readLaw_64 : DD cX4_readLaw 64 (.ireturn) 1 65 := by decide +kernel
def fX4_readLaw (a1 : Nat) (h : AH) : Option (Int32 × AH) := (bnd (fX4_readSign (116 : Int32) h) fun v2 h1 => (if v2 = 0 then (some ((0 : Int32), h1)) else (bnd (fX4_readNumber (1 : Int32) (60 : Int32) h1) fun v4 h3 => (if v4 = 0 then (some ((0 : Int32), h3)) else (sto (hs h3 a1 2 (h3 18 4)) fun h5 => (bnd (fX4_readSign (44 : Int32) h5) fun v7 h6 => (if v7 = 0 then (some ((0 : Int32), h6)) else (bnd (fX4_readNumber (1 : Int32) (99 : Int32) h6) fun v9 h8 => (if v9 = 0 then (some ((0 : Int32), h8)) else (sto (hs h8 a1 3 (h8 18 4)) fun h10 => (bnd (fX4_readSign (59 : Int32) h10) fun v12 h11 => (chk (v12 = 0 ∨ v12 = 1) (some (v12, h11))))))))))))))
set_option maxHeartbeats 4000000 in
set_option maxRecDepth 4000 in
theorem uX4_readLaw {l : Launch} {X : WX} {a1 : Nat} {h h' : AH} {v : Int32} (ka1 : kd a1 = 2) (hf : fX4_readLaw a1 h = some (v, h')) : Does l X 4 yX4_readLaw cX4_readLaw 2 (some .boolean) [.ref (X.1 + 18), .ref (X.1 + a1)] h (eI v) h' := by
  refine Does.of (enc := eI) (o := fX4_readLaw a1 h) (lv := [(0, .ref (X.1 + 18)), (1, .ref (X.1 + a1))]) (by decide) (Nat.le_of_ble_eq_true rfl) rfl hf (fun K hl hK => ?_)
  subst hl
  unfold fX4_readLaw
  refine J_aload_n hK dX4_readLaw_0 0 rfl ?_
  refine J_bipush hK dX4_readLaw_1 cb_116 ?_
  refine J_callVi (q := 18) (As := [.int (116 : Int32)]) (st := []) hK dX4_readLaw_3 kB_X4_41 kV_X4_readSign kd_18 (by decide) rfl rfl (by decide) rfl rfl (Nat.le_of_ble_eq_true rfl) (fun _ _ hf => uX4_readSign  hf) (fun v2 h1 => ?_)
  refine J_if_eq (tgt := 19) hK dX4_readLaw_6 (by decide) ?_ ?_
  · refine J_iconst hK dX4_readLaw_19 ci_0 ?_
    exact J_zret0 hK dX4_readLaw_20
  · refine J_aload_n hK dX4_readLaw_9 0 rfl ?_
    refine J_iconst hK dX4_readLaw_10 ci_1 ?_
    refine J_bipush hK dX4_readLaw_11 cb_60 ?_
    refine J_callVi (q := 18) (As := [.int (1 : Int32), .int (60 : Int32)]) (st := []) hK dX4_readLaw_13 kB_X4_45 kV_X4_readNumber kd_18 (by decide) rfl rfl (by decide) rfl rfl (Nat.le_of_ble_eq_true rfl) (fun _ _ hf => uX4_readNumber  hf) (fun v4 h3 => ?_)
    refine J_if_ne (tgt := 21) hK dX4_readLaw_16 (by decide) ?_ ?_
    · refine J_iconst hK dX4_readLaw_19 ci_0 ?_
      exact J_zret0 hK dX4_readLaw_20
    · refine J_aload_n hK dX4_readLaw_21 1 rfl ?_
      refine J_aload_n hK dX4_readLaw_22 0 rfl ?_
      refine gF_X4_49 hK dX4_readLaw_23 kd_18 ?_
      refine pF_X4_52 hK dX4_readLaw_26 ka1 (fun h5 => ?_)
      refine J_aload_n hK dX4_readLaw_29 0 rfl ?_
      refine J_bipush hK dX4_readLaw_30 cb_44 ?_
      refine J_callVi (q := 18) (As := [.int (44 : Int32)]) (st := []) hK dX4_readLaw_32 kB_X4_41 kV_X4_readSign kd_18 (by decide) rfl rfl (by decide) rfl rfl (Nat.le_of_ble_eq_true rfl) (fun _ _ hf => uX4_readSign  hf) (fun v7 h6 => ?_)
      refine J_if_eq (tgt := 48) hK dX4_readLaw_35 (by decide) ?_ ?_
      · refine J_iconst hK dX4_readLaw_48 ci_0 ?_
        exact J_zret0 hK dX4_readLaw_49
      · refine J_aload_n hK dX4_readLaw_38 0 rfl ?_
        refine J_iconst hK dX4_readLaw_39 ci_1 ?_
        refine J_bipush hK dX4_readLaw_40 cb_99 ?_
        refine J_callVi (q := 18) (As := [.int (1 : Int32), .int (99 : Int32)]) (st := []) hK dX4_readLaw_42 kB_X4_45 kV_X4_readNumber kd_18 (by decide) rfl rfl (by decide) rfl rfl (Nat.le_of_ble_eq_true rfl) (fun _ _ hf => uX4_readNumber  hf) (fun v9 h8 => ?_)
        refine J_if_ne (tgt := 50) hK dX4_readLaw_45 (by decide) ?_ ?_
        · refine J_iconst hK dX4_readLaw_48 ci_0 ?_
          exact J_zret0 hK dX4_readLaw_49
        · refine J_aload_n hK dX4_readLaw_50 1 rfl ?_
          refine J_aload_n hK dX4_readLaw_51 0 rfl ?_
          refine gF_X4_49 hK dX4_readLaw_52 kd_18 ?_
          refine pF_X4_55 hK dX4_readLaw_55 ka1 (fun h10 => ?_)
          refine J_aload_n hK dX4_readLaw_58 0 rfl ?_
          refine J_bipush hK dX4_readLaw_59 cb_59 ?_
          refine J_callVi (q := 18) (As := [.int (59 : Int32)]) (st := []) hK dX4_readLaw_61 kB_X4_41 kV_X4_readSign kd_18 (by decide) rfl rfl (by decide) rfl rfl (Nat.le_of_ble_eq_true rfl) (fun _ _ hf => uX4_readSign  hf) (fun v12 h11 => ?_)
          exact J_zret hK dX4_readLaw_64
-- X4_readPier
theorem dX4_readPier_0 : DD cX4_readPier 0 (.aload_n 0) 1 1 := by decide +kernel
theorem dX4_readPier_1 : DD cX4_readPier 1 (.dup) 1 2 := by decide +kernel
theorem dX4_readPier_2 : DD cX4_readPier 2 (.getfield 19) 3 5 := by decide +kernel
theorem dX4_readPier_5 : DD cX4_readPier 5 (.iconst 1) 1 6 := by decide +kernel
theorem dX4_readPier_6 : DD cX4_readPier 6 (.iadd) 1 7 := by decide +kernel
theorem dX4_readPier_7 : DD cX4_readPier 7 (.putfield 19) 3 10 := by decide +kernel
theorem dX4_readPier_10 : DD cX4_readPier 10 (.aload_n 0) 1 11 := by decide +kernel
theorem dX4_readPier_11 : DD cX4_readPier 11 (.iconst 0) 1 12 := by decide +kernel
theorem dX4_readPier_12 : DD cX4_readPier 12 (.bipush 98) 2 14 := by decide +kernel
theorem dX4_readPier_14 : DD cX4_readPier 14 (.invokevirtual 45) 3 17 := by decide +kernel
theorem dX4_readPier_17 : DD cX4_readPier 17 (.ifCond .ne 5) 3 20 := by decide +kernel
theorem dX4_readPier_20 : DD cX4_readPier 20 (.iconst 0) 1 21 := by decide +kernel
theorem dX4_readPier_21 : DD cX4_readPier 21 (.ireturn) 1 22 := by decide +kernel
theorem dX4_readPier_22 : DD cX4_readPier 22 (.aload_n 1) 1 23 := by decide +kernel
theorem dX4_readPier_23 : DD cX4_readPier 23 (.getfield 90) 3 26 := by decide +kernel
theorem dX4_readPier_26 : DD cX4_readPier 26 (.iload_n 2) 1 27 := by decide +kernel
theorem dX4_readPier_27 : DD cX4_readPier 27 (.aload_n 0) 1 28 := by decide +kernel
theorem dX4_readPier_28 : DD cX4_readPier 28 (.getfield 49) 3 31 := by decide +kernel
theorem dX4_readPier_31 : DD cX4_readPier 31 (.iastore) 1 32 := by decide +kernel
theorem dX4_readPier_32 : DD cX4_readPier 32 (.aload_n 0) 1 33 := by decide +kernel
theorem dX4_readPier_33 : DD cX4_readPier 33 (.bipush 44) 2 35 := by decide +kernel
theorem dX4_readPier_35 : DD cX4_readPier 35 (.invokevirtual 41) 3 38 := by decide +kernel
theorem dX4_readPier_38 : DD cX4_readPier 38 (.ifCond .eq 13) 3 41 := by decide +kernel
theorem dX4_readPier_41 : DD cX4_readPier 41 (.aload_n 0) 1 42 := by decide +kernel
theorem dX4_readPier_42 : DD cX4_readPier 42 (.iconst 1) 1 43 := by decide +kernel
theorem dX4_readPier_43 : DD cX4_readPier 43 (.bipush 20) 2 45 := by decide +kernel
theorem dX4_readPier_45 : DD cX4_readPier 45 (.invokevirtual 45) 3 48 := by decide +kernel
theorem dX4_readPier_48 : DD cX4_readPier 48 (.ifCond .ne 5) 3 51 := by decide +kernel
theorem dX4_readPier_51 : DD cX4_readPier 51 (.iconst 0) 1 52 := by decide +kernel
theorem dX4_readPier_52 : DD cX4_readPier 52 (.ireturn) 1 53 := by decide +kernel
theorem dX4_readPier_53 : DD cX4_readPier 53 (.aload_n 1) 1 54 := by decide +kernel
theorem dX4_readPier_54 : DD cX4_readPier 54 (.getfield 93) 3 57 := by decide +kernel
theorem dX4_readPier_57 : DD cX4_readPier 57 (.iload_n 2) 1 58 := by decide +kernel
theorem dX4_readPier_58 : DD cX4_readPier 58 (.aload_n 0) 1 59 := by decide +kernel
theorem dX4_readPier_59 : DD cX4_readPier 59 (.getfield 49) 3 62 := by decide +kernel
theorem dX4_readPier_62 : DD cX4_readPier 62 (.iastore) 1 63 := by decide +kernel
theorem dX4_readPier_63 : DD cX4_readPier 63 (.aload_n 1) 1 64 := by decide +kernel
theorem dX4_readPier_64 : DD cX4_readPier 64 (.iload_n 2) 1 65 := by decide +kernel
theorem dX4_readPier_65 : DD cX4_readPier 65 (.iconst 1) 1 66 := by decide +kernel
theorem dX4_readPier_66 : DD cX4_readPier 66 (.iadd) 1 67 := by decide +kernel
theorem dX4_readPier_67 : DD cX4_readPier 67 (.putfield 96) 3 70 := by decide +kernel
theorem dX4_readPier_70 : DD cX4_readPier 70 (.aload_n 0) 1 71 := by decide +kernel
theorem dX4_readPier_71 : DD cX4_readPier 71 (.bipush 59) 2 73 := by decide +kernel
theorem dX4_readPier_73 : DD cX4_readPier 73 (.invokevirtual 41) 3 76 := by decide +kernel
theorem dX4_readPier_76 : DD cX4_readPier 76 (.ireturn) 1 77 := by decide +kernel
def fX4_readPier (a1 : Nat) (a2 : Int32) (h : AH) : Option (Int32 × AH) := (sto (hs h 18 2 ((h 18 2) + (1 : Int32))) fun h1 => (bnd (fX4_readNumber (0 : Int32) (98 : Int32) h1) fun v3 h2 => (if v3 = 0 then (some ((0 : Int32), h2)) else (chk (inb a2 (ln (a1 + 5))) (sto (hs h2 (a1 + 5) (Int32.toNatClampNeg a2) (h2 18 4)) fun h4 => (bnd (fX4_readSign (44 : Int32) h4) fun v6 h5 => (if v6 = 0 then (some ((0 : Int32), h5)) else (bnd (fX4_readNumber (1 : Int32) (20 : Int32) h5) fun v8 h7 => (if v8 = 0 then (some ((0 : Int32), h7)) else (chk (inb a2 (ln (a1 + 6))) (sto (hs h7 (a1 + 6) (Int32.toNatClampNeg a2) (h7 18 4)) fun h9 => (sto (hs h9 a1 1 (a2 + (1 : Int32))) fun h10 => (bnd (fX4_readSign (59 : Int32) h10) fun v12 h11 => (chk (v12 = 0 ∨ v12 = 1) (some (v12, h11))))))))))))))))
set_option maxHeartbeats 4000000 in
set_option maxRecDepth 4000 in
theorem uX4_readPier {l : Launch} {X : WX} {a1 : Nat} {a2 : Int32} {h h' : AH} {v : Int32} (ka1 : kd a1 = 2) (hf : fX4_readPier a1 a2 h = some (v, h')) : Does l X 4 yX4_readPier cX4_readPier 3 (some .boolean) [.ref (X.1 + 18), .ref (X.1 + a1), .int a2] h (eI v) h' := by
  refine Does.of (enc := eI) (o := fX4_readPier a1 a2 h) (lv := [(0, .ref (X.1 + 18)), (1, .ref (X.1 + a1)), (2, .int a2)]) (by decide) (Nat.le_of_ble_eq_true rfl) rfl hf (fun K hl hK => ?_)
  subst hl
  unfold fX4_readPier
  refine J_aload_n hK dX4_readPier_0 0 rfl ?_
  refine J_dup hK dX4_readPier_1 rfl ?_
  refine gF_X4_19 hK dX4_readPier_2 kd_18 ?_
  refine J_iconst hK dX4_readPier_5 ci_1 ?_
  refine J_iadd hK dX4_readPier_6 ?_
  refine pF_X4_19 hK dX4_readPier_7 kd_18 (fun h1 => ?_)
  refine J_aload_n hK dX4_readPier_10 0 rfl ?_
  refine J_iconst hK dX4_readPier_11 ci_0 ?_
  refine J_bipush hK dX4_readPier_12 cb_98 ?_
  refine J_callVi (q := 18) (As := [.int (0 : Int32), .int (98 : Int32)]) (st := []) hK dX4_readPier_14 kB_X4_45 kV_X4_readNumber kd_18 (by decide) rfl rfl (by decide) rfl rfl (Nat.le_of_ble_eq_true rfl) (fun _ _ hf => uX4_readNumber  hf) (fun v3 h2 => ?_)
  refine J_if_ne (tgt := 22) hK dX4_readPier_17 (by decide) ?_ ?_
  · refine J_iconst hK dX4_readPier_20 ci_0 ?_
    exact J_zret0 hK dX4_readPier_21
  · refine J_aload_n hK dX4_readPier_22 1 rfl ?_
    refine rF_X4_90 (q2 := (a1 + 5)) hK dX4_readPier_23 ka1 rfl ?_
    refine J_iload_n hK dX4_readPier_26 2 rfl ?_
    refine J_aload_n hK dX4_readPier_27 0 rfl ?_
    refine gF_X4_49 hK dX4_readPier_28 kd_18 ?_
    refine J_iast hK dX4_readPier_31 (kdE_5 ka1) (fun h4 => ?_)
    refine J_aload_n hK dX4_readPier_32 0 rfl ?_
    refine J_bipush hK dX4_readPier_33 cb_44 ?_
    refine J_callVi (q := 18) (As := [.int (44 : Int32)]) (st := []) hK dX4_readPier_35 kB_X4_41 kV_X4_readSign kd_18 (by decide) rfl rfl (by decide) rfl rfl (Nat.le_of_ble_eq_true rfl) (fun _ _ hf => uX4_readSign  hf) (fun v6 h5 => ?_)
    refine J_if_eq (tgt := 51) hK dX4_readPier_38 (by decide) ?_ ?_
    · refine J_iconst hK dX4_readPier_51 ci_0 ?_
      exact J_zret0 hK dX4_readPier_52
    · refine J_aload_n hK dX4_readPier_41 0 rfl ?_
      refine J_iconst hK dX4_readPier_42 ci_1 ?_
      refine J_bipush hK dX4_readPier_43 cb_20 ?_
      refine J_callVi (q := 18) (As := [.int (1 : Int32), .int (20 : Int32)]) (st := []) hK dX4_readPier_45 kB_X4_45 kV_X4_readNumber kd_18 (by decide) rfl rfl (by decide) rfl rfl (Nat.le_of_ble_eq_true rfl) (fun _ _ hf => uX4_readNumber  hf) (fun v8 h7 => ?_)
      refine J_if_ne (tgt := 53) hK dX4_readPier_48 (by decide) ?_ ?_
      · refine J_iconst hK dX4_readPier_51 ci_0 ?_
        exact J_zret0 hK dX4_readPier_52
      · refine J_aload_n hK dX4_readPier_53 1 rfl ?_
        refine rF_X4_93 (q2 := (a1 + 6)) hK dX4_readPier_54 ka1 rfl ?_
        refine J_iload_n hK dX4_readPier_57 2 rfl ?_
        refine J_aload_n hK dX4_readPier_58 0 rfl ?_
        refine gF_X4_49 hK dX4_readPier_59 kd_18 ?_
        refine J_iast hK dX4_readPier_62 (kdE_6 ka1) (fun h9 => ?_)
        refine J_aload_n hK dX4_readPier_63 1 rfl ?_
        refine J_iload_n hK dX4_readPier_64 2 rfl ?_
        refine J_iconst hK dX4_readPier_65 ci_1 ?_
        refine J_iadd hK dX4_readPier_66 ?_
        refine pF_X4_96 hK dX4_readPier_67 ka1 (fun h10 => ?_)
        refine J_aload_n hK dX4_readPier_70 0 rfl ?_
        refine J_bipush hK dX4_readPier_71 cb_59 ?_
        refine J_callVi (q := 18) (As := [.int (59 : Int32)]) (st := []) hK dX4_readPier_73 kB_X4_41 kV_X4_readSign kd_18 (by decide) rfl rfl (by decide) rfl rfl (Nat.le_of_ble_eq_true rfl) (fun _ _ hf => uX4_readSign  hf) (fun v12 h11 => ?_)
        exact J_zret hK dX4_readPier_76
-- X4_readTug
theorem dX4_readTug_0 : DD cX4_readTug 0 (.aload_n 1) 1 1 := by decide +kernel
theorem dX4_readTug_1 : DD cX4_readTug 1 (.getfield 69) 3 4 := by decide +kernel
theorem dX4_readTug_4 : DD cX4_readTug 4 (.iload_n 2) 1 5 := by decide +kernel
theorem dX4_readTug_5 : DD cX4_readTug 5 (.aload_n 0) 1 6 := by decide +kernel
theorem dX4_readTug_6 : DD cX4_readTug 6 (.invokevirtual 58) 3 9 := by decide +kernel
theorem dX4_readTug_9 : DD cX4_readTug 9 (.iastore) 1 10 := by decide +kernel
theorem dX4_readTug_10 : DD cX4_readTug 10 (.aload_n 0) 1 11 := by decide +kernel
theorem dX4_readTug_11 : DD cX4_readTug 11 (.dup) 1 12 := by decide +kernel
theorem dX4_readTug_12 : DD cX4_readTug 12 (.getfield 19) 3 15 := by decide +kernel
theorem dX4_readTug_15 : DD cX4_readTug 15 (.iconst 1) 1 16 := by decide +kernel
theorem dX4_readTug_16 : DD cX4_readTug 16 (.iadd) 1 17 := by decide +kernel
theorem dX4_readTug_17 : DD cX4_readTug 17 (.putfield 19) 3 20 := by decide +kernel
theorem dX4_readTug_20 : DD cX4_readTug 20 (.aload_n 0) 1 21 := by decide +kernel
theorem dX4_readTug_21 : DD cX4_readTug 21 (.iconst 1) 1 22 := by decide +kernel
theorem dX4_readTug_22 : DD cX4_readTug 22 (.bipush 20) 2 24 := by decide +kernel
theorem dX4_readTug_24 : DD cX4_readTug 24 (.invokevirtual 45) 3 27 := by decide +kernel
theorem dX4_readTug_27 : DD cX4_readTug 27 (.ifCond .ne 5) 3 30 := by decide +kernel
theorem dX4_readTug_30 : DD cX4_readTug 30 (.iconst 0) 1 31 := by decide +kernel
theorem dX4_readTug_31 : DD cX4_readTug 31 (.ireturn) 1 32 := by decide +kernel
theorem dX4_readTug_32 : DD cX4_readTug 32 (.aload_n 1) 1 33 := by decide +kernel
theorem dX4_readTug_33 : DD cX4_readTug 33 (.getfield 72) 3 36 := by decide +kernel
theorem dX4_readTug_36 : DD cX4_readTug 36 (.iload_n 2) 1 37 := by decide +kernel
theorem dX4_readTug_37 : DD cX4_readTug 37 (.aload_n 0) 1 38 := by decide +kernel
theorem dX4_readTug_38 : DD cX4_readTug 38 (.getfield 49) 3 41 := by decide +kernel
theorem dX4_readTug_41 : DD cX4_readTug 41 (.iastore) 1 42 := by decide +kernel
theorem dX4_readTug_42 : DD cX4_readTug 42 (.aload_n 0) 1 43 := by decide +kernel
theorem dX4_readTug_43 : DD cX4_readTug 43 (.bipush 44) 2 45 := by decide +kernel
theorem dX4_readTug_45 : DD cX4_readTug 45 (.invokevirtual 41) 3 48 := by decide +kernel
theorem dX4_readTug_48 : DD cX4_readTug 48 (.ifCond .eq 13) 3 51 := by decide +kernel
theorem dX4_readTug_51 : DD cX4_readTug 51 (.aload_n 0) 1 52 := by decide +kernel
theorem dX4_readTug_52 : DD cX4_readTug 52 (.iconst 1) 1 53 := by decide +kernel
theorem dX4_readTug_53 : DD cX4_readTug 53 (.bipush 20) 2 55 := by decide +kernel
theorem dX4_readTug_55 : DD cX4_readTug 55 (.invokevirtual 45) 3 58 := by decide +kernel
theorem dX4_readTug_58 : DD cX4_readTug 58 (.ifCond .ne 5) 3 61 := by decide +kernel
theorem dX4_readTug_61 : DD cX4_readTug 61 (.iconst 0) 1 62 := by decide +kernel
theorem dX4_readTug_62 : DD cX4_readTug 62 (.ireturn) 1 63 := by decide +kernel
theorem dX4_readTug_63 : DD cX4_readTug 63 (.aload_n 1) 1 64 := by decide +kernel
theorem dX4_readTug_64 : DD cX4_readTug 64 (.getfield 75) 3 67 := by decide +kernel
theorem dX4_readTug_67 : DD cX4_readTug 67 (.iload_n 2) 1 68 := by decide +kernel
theorem dX4_readTug_68 : DD cX4_readTug 68 (.aload_n 0) 1 69 := by decide +kernel
theorem dX4_readTug_69 : DD cX4_readTug 69 (.getfield 49) 3 72 := by decide +kernel
theorem dX4_readTug_72 : DD cX4_readTug 72 (.iastore) 1 73 := by decide +kernel
theorem dX4_readTug_73 : DD cX4_readTug 73 (.aload_n 1) 1 74 := by decide +kernel
theorem dX4_readTug_74 : DD cX4_readTug 74 (.dup) 1 75 := by decide +kernel
theorem dX4_readTug_75 : DD cX4_readTug 75 (.getfield 78) 3 78 := by decide +kernel
theorem dX4_readTug_78 : DD cX4_readTug 78 (.iconst 1) 1 79 := by decide +kernel
theorem dX4_readTug_79 : DD cX4_readTug 79 (.iload_n 2) 1 80 := by decide +kernel
theorem dX4_readTug_80 : DD cX4_readTug 80 (.ishl) 1 81 := by decide +kernel
theorem dX4_readTug_81 : DD cX4_readTug 81 (.ior) 1 82 := by decide +kernel
theorem dX4_readTug_82 : DD cX4_readTug 82 (.putfield 78) 3 85 := by decide +kernel
theorem dX4_readTug_85 : DD cX4_readTug 85 (.aload_n 1) 1 86 := by decide +kernel
theorem dX4_readTug_86 : DD cX4_readTug 86 (.iload_n 2) 1 87 := by decide +kernel
theorem dX4_readTug_87 : DD cX4_readTug 87 (.iconst 1) 1 88 := by decide +kernel
theorem dX4_readTug_88 : DD cX4_readTug 88 (.iadd) 1 89 := by decide +kernel
theorem dX4_readTug_89 : DD cX4_readTug 89 (.putfield 81) 3 92 := by decide +kernel
theorem dX4_readTug_92 : DD cX4_readTug 92 (.aload_n 0) 1 93 := by decide +kernel
theorem dX4_readTug_93 : DD cX4_readTug 93 (.bipush 59) 2 95 := by decide +kernel
theorem dX4_readTug_95 : DD cX4_readTug 95 (.invokevirtual 41) 3 98 := by decide +kernel
theorem dX4_readTug_98 : DD cX4_readTug 98 (.ireturn) 1 99 := by decide +kernel
def fX4_readTug (a1 : Nat) (a2 : Int32) (h : AH) : Option (Int32 × AH) := (bnd (fX4_sortHere  h) fun v2 h1 => (chk (inb a2 (ln (a1 + 1))) (sto (hs h1 (a1 + 1) (Int32.toNatClampNeg a2) v2) fun h3 => (sto (hs h3 18 2 ((h3 18 2) + (1 : Int32))) fun h4 => (bnd (fX4_readNumber (1 : Int32) (20 : Int32) h4) fun v6 h5 => (if v6 = 0 then (some ((0 : Int32), h5)) else (chk (inb a2 (ln (a1 + 2))) (sto (hs h5 (a1 + 2) (Int32.toNatClampNeg a2) (h5 18 4)) fun h7 => (bnd (fX4_readSign (44 : Int32) h7) fun v9 h8 => (if v9 = 0 then (some ((0 : Int32), h8)) else (bnd (fX4_readNumber (1 : Int32) (20 : Int32) h8) fun v11 h10 => (if v11 = 0 then (some ((0 : Int32), h10)) else (chk (inb a2 (ln (a1 + 3))) (sto (hs h10 (a1 + 3) (Int32.toNatClampNeg a2) (h10 18 4)) fun h12 => (sto (hs h12 a1 5 ((h12 a1 5) ||| ((1 : Int32) <<< (a2 &&& 31)))) fun h13 => (sto (hs h13 a1 0 (a2 + (1 : Int32))) fun h14 => (bnd (fX4_readSign (59 : Int32) h14) fun v16 h15 => (chk (v16 = 0 ∨ v16 = 1) (some (v16, h15))))))))))))))))))))
set_option maxHeartbeats 4000000 in
set_option maxRecDepth 4000 in
theorem uX4_readTug {l : Launch} {X : WX} {a1 : Nat} {a2 : Int32} {h h' : AH} {v : Int32} (ka1 : kd a1 = 2) (hf : fX4_readTug a1 a2 h = some (v, h')) : Does l X 4 yX4_readTug cX4_readTug 3 (some .boolean) [.ref (X.1 + 18), .ref (X.1 + a1), .int a2] h (eI v) h' := by
  refine Does.of (enc := eI) (o := fX4_readTug a1 a2 h) (lv := [(0, .ref (X.1 + 18)), (1, .ref (X.1 + a1)), (2, .int a2)]) (by decide) (Nat.le_of_ble_eq_true rfl) rfl hf (fun K hl hK => ?_)
  subst hl
  unfold fX4_readTug
  refine J_aload_n hK dX4_readTug_0 1 rfl ?_
  refine rF_X4_69 (q2 := (a1 + 1)) hK dX4_readTug_1 ka1 rfl ?_
  refine J_iload_n hK dX4_readTug_4 2 rfl ?_
  refine J_aload_n hK dX4_readTug_5 0 rfl ?_
  refine J_callVi (q := 18) (As := []) (st := [.int a2, .ref (X.1 + (a1 + 1))]) hK dX4_readTug_6 kB_X4_58 kV_X4_sortHere kd_18 (by decide) rfl rfl (by decide) rfl rfl (Nat.le_of_ble_eq_true rfl) (fun _ _ hf => uX4_sortHere  hf) (fun v2 h1 => ?_)
  refine J_iast hK dX4_readTug_9 (kdE_1 ka1) (fun h3 => ?_)
  refine J_aload_n hK dX4_readTug_10 0 rfl ?_
  refine J_dup hK dX4_readTug_11 rfl ?_
  refine gF_X4_19 hK dX4_readTug_12 kd_18 ?_
  refine J_iconst hK dX4_readTug_15 ci_1 ?_
  refine J_iadd hK dX4_readTug_16 ?_
  refine pF_X4_19 hK dX4_readTug_17 kd_18 (fun h4 => ?_)
  refine J_aload_n hK dX4_readTug_20 0 rfl ?_
  refine J_iconst hK dX4_readTug_21 ci_1 ?_
  refine J_bipush hK dX4_readTug_22 cb_20 ?_
  refine J_callVi (q := 18) (As := [.int (1 : Int32), .int (20 : Int32)]) (st := []) hK dX4_readTug_24 kB_X4_45 kV_X4_readNumber kd_18 (by decide) rfl rfl (by decide) rfl rfl (Nat.le_of_ble_eq_true rfl) (fun _ _ hf => uX4_readNumber  hf) (fun v6 h5 => ?_)
  refine J_if_ne (tgt := 32) hK dX4_readTug_27 (by decide) ?_ ?_
  · refine J_iconst hK dX4_readTug_30 ci_0 ?_
    exact J_zret0 hK dX4_readTug_31
  · refine J_aload_n hK dX4_readTug_32 1 rfl ?_
    refine rF_X4_72 (q2 := (a1 + 2)) hK dX4_readTug_33 ka1 rfl ?_
    refine J_iload_n hK dX4_readTug_36 2 rfl ?_
    refine J_aload_n hK dX4_readTug_37 0 rfl ?_
    refine gF_X4_49 hK dX4_readTug_38 kd_18 ?_
    refine J_iast hK dX4_readTug_41 (kdE_2 ka1) (fun h7 => ?_)
    refine J_aload_n hK dX4_readTug_42 0 rfl ?_
    refine J_bipush hK dX4_readTug_43 cb_44 ?_
    refine J_callVi (q := 18) (As := [.int (44 : Int32)]) (st := []) hK dX4_readTug_45 kB_X4_41 kV_X4_readSign kd_18 (by decide) rfl rfl (by decide) rfl rfl (Nat.le_of_ble_eq_true rfl) (fun _ _ hf => uX4_readSign  hf) (fun v9 h8 => ?_)
    refine J_if_eq (tgt := 61) hK dX4_readTug_48 (by decide) ?_ ?_
    · refine J_iconst hK dX4_readTug_61 ci_0 ?_
      exact J_zret0 hK dX4_readTug_62
    · refine J_aload_n hK dX4_readTug_51 0 rfl ?_
      refine J_iconst hK dX4_readTug_52 ci_1 ?_
      refine J_bipush hK dX4_readTug_53 cb_20 ?_
      refine J_callVi (q := 18) (As := [.int (1 : Int32), .int (20 : Int32)]) (st := []) hK dX4_readTug_55 kB_X4_45 kV_X4_readNumber kd_18 (by decide) rfl rfl (by decide) rfl rfl (Nat.le_of_ble_eq_true rfl) (fun _ _ hf => uX4_readNumber  hf) (fun v11 h10 => ?_)
      refine J_if_ne (tgt := 63) hK dX4_readTug_58 (by decide) ?_ ?_
      · refine J_iconst hK dX4_readTug_61 ci_0 ?_
        exact J_zret0 hK dX4_readTug_62
      · refine J_aload_n hK dX4_readTug_63 1 rfl ?_
        refine rF_X4_75 (q2 := (a1 + 3)) hK dX4_readTug_64 ka1 rfl ?_
        refine J_iload_n hK dX4_readTug_67 2 rfl ?_
        refine J_aload_n hK dX4_readTug_68 0 rfl ?_
        refine gF_X4_49 hK dX4_readTug_69 kd_18 ?_
        refine J_iast hK dX4_readTug_72 (kdE_3 ka1) (fun h12 => ?_)
        refine J_aload_n hK dX4_readTug_73 1 rfl ?_
        refine J_dup hK dX4_readTug_74 rfl ?_
        refine gF_X4_78 hK dX4_readTug_75 ka1 ?_
        refine J_iconst hK dX4_readTug_78 ci_1 ?_
        refine J_iload_n hK dX4_readTug_79 2 rfl ?_
        refine J_ishl hK dX4_readTug_80 ?_
        refine J_ior hK dX4_readTug_81 ?_
        refine pF_X4_78 hK dX4_readTug_82 ka1 (fun h13 => ?_)
        refine J_aload_n hK dX4_readTug_85 1 rfl ?_
        refine J_iload_n hK dX4_readTug_86 2 rfl ?_
        refine J_iconst hK dX4_readTug_87 ci_1 ?_
        refine J_iadd hK dX4_readTug_88 ?_
        refine pF_X4_81 hK dX4_readTug_89 ka1 (fun h14 => ?_)
        refine J_aload_n hK dX4_readTug_92 0 rfl ?_
        refine J_bipush hK dX4_readTug_93 cb_59 ?_
        refine J_callVi (q := 18) (As := [.int (59 : Int32)]) (st := []) hK dX4_readTug_95 kB_X4_41 kV_X4_readSign kd_18 (by decide) rfl rfl (by decide) rfl rfl (Nat.le_of_ble_eq_true rfl) (fun _ _ hf => uX4_readSign  hf) (fun v16 h15 => ?_)
        exact J_zret hK dX4_readTug_98
-- X4_readPiers
theorem dX4_readPiers_0 : DD cX4_readPiers 0 (.iconst 0) 1 1 := by decide +kernel
theorem dX4_readPiers_1 : DD cX4_readPiers 1 (.istore_n 2) 1 2 := by decide +kernel
theorem dX4_readPiers_2 : DD cX4_readPiers 2 (.iload_n 2) 1 3 := by decide +kernel
theorem dX4_readPiers_3 : DD cX4_readPiers 3 (.iconst 4) 1 4 := by decide +kernel
theorem dX4_readPiers_4 : DD cX4_readPiers 4 (.if_icmp .gt 40) 3 7 := by decide +kernel
theorem dX4_readPiers_7 : DD cX4_readPiers 7 (.aload_n 0) 1 8 := by decide +kernel
theorem dX4_readPiers_8 : DD cX4_readPiers 8 (.invokevirtual 84) 3 11 := by decide +kernel
theorem dX4_readPiers_11 : DD cX4_readPiers 11 (.bipush 113) 2 13 := by decide +kernel
theorem dX4_readPiers_13 : DD cX4_readPiers 13 (.if_icmp .ne 31) 3 16 := by decide +kernel
theorem dX4_readPiers_16 : DD cX4_readPiers 16 (.iload_n 2) 1 17 := by decide +kernel
theorem dX4_readPiers_17 : DD cX4_readPiers 17 (.iconst 4) 1 18 := by decide +kernel
theorem dX4_readPiers_18 : DD cX4_readPiers 18 (.if_icmp .ne 9) 3 21 := by decide +kernel
theorem dX4_readPiers_21 : DD cX4_readPiers 21 (.aload_n 0) 1 22 := by decide +kernel
theorem dX4_readPiers_22 : DD cX4_readPiers 22 (.iconst 3) 1 23 := by decide +kernel
theorem dX4_readPiers_23 : DD cX4_readPiers 23 (.invokevirtual 62) 3 26 := by decide +kernel
theorem dX4_readPiers_26 : DD cX4_readPiers 26 (.ireturn) 1 27 := by decide +kernel
theorem dX4_readPiers_27 : DD cX4_readPiers 27 (.aload_n 0) 1 28 := by decide +kernel
theorem dX4_readPiers_28 : DD cX4_readPiers 28 (.aload_n 1) 1 29 := by decide +kernel
theorem dX4_readPiers_29 : DD cX4_readPiers 29 (.iload_n 2) 1 30 := by decide +kernel
theorem dX4_readPiers_30 : DD cX4_readPiers 30 (.invokevirtual 87) 3 33 := by decide +kernel
theorem dX4_readPiers_33 : DD cX4_readPiers 33 (.ifCond .ne 5) 3 36 := by decide +kernel
theorem dX4_readPiers_36 : DD cX4_readPiers 36 (.iconst 0) 1 37 := by decide +kernel
theorem dX4_readPiers_37 : DD cX4_readPiers 37 (.ireturn) 1 38 := by decide +kernel
theorem dX4_readPiers_38 : DD cX4_readPiers 38 (.iinc 2 1) 3 41 := by decide +kernel
theorem dX4_readPiers_41 : DD cX4_readPiers 41 (.goto (-39)) 3 44 := by decide +kernel
theorem dX4_readPiers_44 : DD cX4_readPiers 44 (.iconst 1) 1 45 := by decide +kernel
theorem dX4_readPiers_45 : DD cX4_readPiers 45 (.ireturn) 1 46 := by decide +kernel
def fX4_readPiers_L2 (p1 : Nat) : Nat → Int32 → AH → (Int32 → AH → Option (Int32 × AH)) → Option (Int32 × AH)
  | 0, _, _, _ => none
  | n + 1, x2, h, k => (if (4 : Int32) < x2 then k x2 h else (bnd (fX4_here  h) fun v202 h201 => (if v202 = (113 : Int32) then (if x2 = (4 : Int32) then (bnd (fX4_faulty (3 : Int32) h201) fun v204 h203 => (chk (v204 = 0 ∨ v204 = 1) (some (v204, h203)))) else (bnd (fX4_readPier p1 x2 h201) fun v206 h205 => (if v206 = 0 then (some ((0 : Int32), h205)) else (vl (x2 + (1 : Int32)) fun z207 => fX4_readPiers_L2 p1 n z207 h205 k)))) else k x2 h201)))
def fX4_readPiers (a1 : Nat) (h : AH) : Option (Int32 × AH) := (fX4_readPiers_L2 a1 FU (0 : Int32) h fun z1 h2 => (some ((1 : Int32), h2)))
set_option maxHeartbeats 4000000 in
theorem gX4_readPiers_L2 {K : MC} {X : WX} {p1 : Nat} (hK : Ok K X RX4 cX4_readPiers 3 (some .boolean) 5) (hp1 : kd p1 = 2) {k : Int32 → AH → Option (Int32 × AH)} (hk : ∀ (x2 : Int32) (h : AH), J K X 3 (Zm K X) eI 44 [(2, .int x2), (0, .ref (X.1 + 18)), (1, .ref (X.1 + p1))] [] h (k x2 h)) : ∀ (n : Nat) (x2 : Int32) (h : AH), J K X 3 (Zm K X) eI 2 [(2, .int x2), (0, .ref (X.1 + 18)), (1, .ref (X.1 + p1))] [] h (fX4_readPiers_L2 p1 n x2 h k) := by
  intro n
  induction n with
  | zero => exact fun _ _ => J_none
  | succ n ih =>
    intro x2 h
    rw [fX4_readPiers_L2]
    refine J_iload_n hK dX4_readPiers_2 0 rfl ?_
    refine J_iconst hK dX4_readPiers_3 ci_4 ?_
    refine J_icmp_gt (tgt := 44) hK dX4_readPiers_4 (by decide) ?_ ?_
    · exact J_sub [0, 1, 2] rfl (hk _ _)
    · refine J_aload_n hK dX4_readPiers_7 1 rfl ?_
      refine J_callVi (q := 18) (As := []) (st := []) hK dX4_readPiers_8 kB_X4_84 kV_X4_here kd_18 (by decide) rfl rfl (by decide) rfl rfl (Nat.le_of_ble_eq_true rfl) (fun _ _ hf => uX4_here  hf) (fun v202 h201 => ?_)
      refine J_bipush hK dX4_readPiers_11 cb_113 ?_
      refine J_icmp_ne (tgt := 44) hK dX4_readPiers_13 (by decide) ?_ ?_
      · refine J_iload_n hK dX4_readPiers_16 0 rfl ?_
        refine J_iconst hK dX4_readPiers_17 ci_4 ?_
        refine J_icmp_ne (tgt := 27) hK dX4_readPiers_18 (by decide) ?_ ?_
        · refine J_aload_n hK dX4_readPiers_21 1 rfl ?_
          refine J_iconst hK dX4_readPiers_22 ci_3 ?_
          refine J_callVi (q := 18) (As := [.int (3 : Int32)]) (st := []) hK dX4_readPiers_23 kB_X4_62 kV_X4_faulty kd_18 (by decide) rfl rfl (by decide) rfl rfl (Nat.le_of_ble_eq_true rfl) (fun _ _ hf => uX4_faulty  hf) (fun v204 h203 => ?_)
          exact J_zret hK dX4_readPiers_26
        · refine J_aload_n hK dX4_readPiers_27 1 rfl ?_
          refine J_aload_n hK dX4_readPiers_28 2 rfl ?_
          refine J_iload_n hK dX4_readPiers_29 0 rfl ?_
          refine J_callVi (q := 18) (As := [.ref (X.1 + p1), .int x2]) (st := []) hK dX4_readPiers_30 kB_X4_87 kV_X4_readPier kd_18 (by decide) rfl rfl (by decide) rfl rfl (Nat.le_of_ble_eq_true rfl) (fun _ _ hf => uX4_readPier hp1 hf) (fun v206 h205 => ?_)
          refine J_if_ne (tgt := 38) hK dX4_readPiers_33 (by decide) ?_ ?_
          · refine J_iconst hK dX4_readPiers_36 ci_0 ?_
            exact J_zret0 hK dX4_readPiers_37
          · refine J_iinc (lw := [(0, .ref (X.1 + 18)), (1, .ref (X.1 + p1))]) hK dX4_readPiers_38 0 rfl (by decide) ci_1 rfl (fun z207 => ?_)
            refine J_goto (len := 0) (tgt := 2) hK dX4_readPiers_41 (by decide) ?_
            exact J_sub [0, 1, 2] rfl (ih _ _)
      · exact J_sub [0, 1, 2] rfl (hk _ _)
set_option maxHeartbeats 4000000 in
set_option maxRecDepth 4000 in
theorem uX4_readPiers {l : Launch} {X : WX} {a1 : Nat} {h h' : AH} {v : Int32} (ka1 : kd a1 = 2) (hf : fX4_readPiers a1 h = some (v, h')) : Does l X 5 yX4_readPiers cX4_readPiers 3 (some .boolean) [.ref (X.1 + 18), .ref (X.1 + a1)] h (eI v) h' := by
  refine Does.of (enc := eI) (o := fX4_readPiers a1 h) (lv := [(0, .ref (X.1 + 18)), (1, .ref (X.1 + a1))]) (by decide) (Nat.le_of_ble_eq_true rfl) rfl hf (fun K hl hK => ?_)
  subst hl
  unfold fX4_readPiers
  refine J_iconst hK dX4_readPiers_0 ci_0 ?_
  refine J_istore_n (n := 2) (lw := [(0, .ref (X.1 + 18)), (1, .ref (X.1 + a1))]) hK dX4_readPiers_1 rfl (by decide) rfl ?_
  refine J_sub [0, 1, 2] rfl (gX4_readPiers_L2 hK ka1 (fun z1 h2 => ?_) FU _ _)
  refine J_iconst hK dX4_readPiers_44 ci_1 ?_
  exact J_zret1 hK dX4_readPiers_45
-- X4_readTugs
theorem dX4_readTugs_0 : DD cX4_readTugs 0 (.aload_n 0) 1 1 := by decide +kernel
theorem dX4_readTugs_1 : DD cX4_readTugs 1 (.invokevirtual 58) 3 4 := by decide +kernel
theorem dX4_readTugs_4 : DD cX4_readTugs 4 (.ifCond .ne 9) 3 7 := by decide +kernel
theorem dX4_readTugs_7 : DD cX4_readTugs 7 (.aload_n 0) 1 8 := by decide +kernel
theorem dX4_readTugs_8 : DD cX4_readTugs 8 (.iconst 1) 1 9 := by decide +kernel
theorem dX4_readTugs_9 : DD cX4_readTugs 9 (.invokevirtual 62) 3 12 := by decide +kernel
theorem dX4_readTugs_12 : DD cX4_readTugs 12 (.ireturn) 1 13 := by decide +kernel
theorem dX4_readTugs_13 : DD cX4_readTugs 13 (.iconst 0) 1 14 := by decide +kernel
theorem dX4_readTugs_14 : DD cX4_readTugs 14 (.istore_n 2) 1 15 := by decide +kernel
theorem dX4_readTugs_15 : DD cX4_readTugs 15 (.iload_n 2) 1 16 := by decide +kernel
theorem dX4_readTugs_16 : DD cX4_readTugs 16 (.bipush 6) 2 18 := by decide +kernel
theorem dX4_readTugs_18 : DD cX4_readTugs 18 (.if_icmp .gt 39) 3 21 := by decide +kernel
theorem dX4_readTugs_21 : DD cX4_readTugs 21 (.aload_n 0) 1 22 := by decide +kernel
theorem dX4_readTugs_22 : DD cX4_readTugs 22 (.invokevirtual 58) 3 25 := by decide +kernel
theorem dX4_readTugs_25 : DD cX4_readTugs 25 (.ifCond .eq 32) 3 28 := by decide +kernel
theorem dX4_readTugs_28 : DD cX4_readTugs 28 (.iload_n 2) 1 29 := by decide +kernel
theorem dX4_readTugs_29 : DD cX4_readTugs 29 (.bipush 6) 2 31 := by decide +kernel
theorem dX4_readTugs_31 : DD cX4_readTugs 31 (.if_icmp .ne 9) 3 34 := by decide +kernel
theorem dX4_readTugs_34 : DD cX4_readTugs 34 (.aload_n 0) 1 35 := by decide +kernel
theorem dX4_readTugs_35 : DD cX4_readTugs 35 (.iconst 3) 1 36 := by decide +kernel
theorem dX4_readTugs_36 : DD cX4_readTugs 36 (.invokevirtual 62) 3 39 := by decide +kernel
theorem dX4_readTugs_39 : DD cX4_readTugs 39 (.ireturn) 1 40 := by decide +kernel
theorem dX4_readTugs_40 : DD cX4_readTugs 40 (.aload_n 0) 1 41 := by decide +kernel
theorem dX4_readTugs_41 : DD cX4_readTugs 41 (.aload_n 1) 1 42 := by decide +kernel
theorem dX4_readTugs_42 : DD cX4_readTugs 42 (.iload_n 2) 1 43 := by decide +kernel
theorem dX4_readTugs_43 : DD cX4_readTugs 43 (.invokevirtual 65) 3 46 := by decide +kernel
theorem dX4_readTugs_46 : DD cX4_readTugs 46 (.ifCond .ne 5) 3 49 := by decide +kernel
theorem dX4_readTugs_49 : DD cX4_readTugs 49 (.iconst 0) 1 50 := by decide +kernel
theorem dX4_readTugs_50 : DD cX4_readTugs 50 (.ireturn) 1 51 := by decide +kernel
theorem dX4_readTugs_51 : DD cX4_readTugs 51 (.iinc 2 1) 3 54 := by decide +kernel
theorem dX4_readTugs_54 : DD cX4_readTugs 54 (.goto (-39)) 3 57 := by decide +kernel
theorem dX4_readTugs_57 : DD cX4_readTugs 57 (.iconst 1) 1 58 := by decide +kernel
theorem dX4_readTugs_58 : DD cX4_readTugs 58 (.ireturn) 1 59 := by decide +kernel
def fX4_readTugs_L15 (p1 : Nat) : Nat → Int32 → AH → (Int32 → AH → Option (Int32 × AH)) → Option (Int32 × AH)
  | 0, _, _, _ => none
  | n + 1, x2, h, k => (if (6 : Int32) < x2 then k x2 h else (bnd (fX4_sortHere  h) fun v202 h201 => (if v202 = 0 then k x2 h201 else (if x2 = (6 : Int32) then (bnd (fX4_faulty (3 : Int32) h201) fun v204 h203 => (chk (v204 = 0 ∨ v204 = 1) (some (v204, h203)))) else (bnd (fX4_readTug p1 x2 h201) fun v206 h205 => (if v206 = 0 then (some ((0 : Int32), h205)) else (vl (x2 + (1 : Int32)) fun z207 => fX4_readTugs_L15 p1 n z207 h205 k)))))))
def fX4_readTugs (a1 : Nat) (h : AH) : Option (Int32 × AH) := (bnd (fX4_sortHere  h) fun v2 h1 => (if v2 = 0 then (bnd (fX4_faulty (1 : Int32) h1) fun v4 h3 => (chk (v4 = 0 ∨ v4 = 1) (some (v4, h3)))) else (fX4_readTugs_L15 a1 FU (0 : Int32) h1 fun z5 h6 => (some ((1 : Int32), h6)))))
set_option maxHeartbeats 4000000 in
theorem gX4_readTugs_L15 {K : MC} {X : WX} {p1 : Nat} (hK : Ok K X RX4 cX4_readTugs 3 (some .boolean) 5) (hp1 : kd p1 = 2) {k : Int32 → AH → Option (Int32 × AH)} (hk : ∀ (x2 : Int32) (h : AH), J K X 3 (Zm K X) eI 57 [(2, .int x2), (0, .ref (X.1 + 18)), (1, .ref (X.1 + p1))] [] h (k x2 h)) : ∀ (n : Nat) (x2 : Int32) (h : AH), J K X 3 (Zm K X) eI 15 [(2, .int x2), (0, .ref (X.1 + 18)), (1, .ref (X.1 + p1))] [] h (fX4_readTugs_L15 p1 n x2 h k) := by
  intro n
  induction n with
  | zero => exact fun _ _ => J_none
  | succ n ih =>
    intro x2 h
    rw [fX4_readTugs_L15]
    refine J_iload_n hK dX4_readTugs_15 0 rfl ?_
    refine J_bipush hK dX4_readTugs_16 cb_6 ?_
    refine J_icmp_gt (tgt := 57) hK dX4_readTugs_18 (by decide) ?_ ?_
    · exact J_sub [0, 1, 2] rfl (hk _ _)
    · refine J_aload_n hK dX4_readTugs_21 1 rfl ?_
      refine J_callVi (q := 18) (As := []) (st := []) hK dX4_readTugs_22 kB_X4_58 kV_X4_sortHere kd_18 (by decide) rfl rfl (by decide) rfl rfl (Nat.le_of_ble_eq_true rfl) (fun _ _ hf => uX4_sortHere  hf) (fun v202 h201 => ?_)
      refine J_if_eq (tgt := 57) hK dX4_readTugs_25 (by decide) ?_ ?_
      · exact J_sub [0, 1, 2] rfl (hk _ _)
      · refine J_iload_n hK dX4_readTugs_28 0 rfl ?_
        refine J_bipush hK dX4_readTugs_29 cb_6 ?_
        refine J_icmp_ne (tgt := 40) hK dX4_readTugs_31 (by decide) ?_ ?_
        · refine J_aload_n hK dX4_readTugs_34 1 rfl ?_
          refine J_iconst hK dX4_readTugs_35 ci_3 ?_
          refine J_callVi (q := 18) (As := [.int (3 : Int32)]) (st := []) hK dX4_readTugs_36 kB_X4_62 kV_X4_faulty kd_18 (by decide) rfl rfl (by decide) rfl rfl (Nat.le_of_ble_eq_true rfl) (fun _ _ hf => uX4_faulty  hf) (fun v204 h203 => ?_)
          exact J_zret hK dX4_readTugs_39
        · refine J_aload_n hK dX4_readTugs_40 1 rfl ?_
          refine J_aload_n hK dX4_readTugs_41 2 rfl ?_
          refine J_iload_n hK dX4_readTugs_42 0 rfl ?_
          refine J_callVi (q := 18) (As := [.ref (X.1 + p1), .int x2]) (st := []) hK dX4_readTugs_43 kB_X4_65 kV_X4_readTug kd_18 (by decide) rfl rfl (by decide) rfl rfl (Nat.le_of_ble_eq_true rfl) (fun _ _ hf => uX4_readTug hp1 hf) (fun v206 h205 => ?_)
          refine J_if_ne (tgt := 51) hK dX4_readTugs_46 (by decide) ?_ ?_
          · refine J_iconst hK dX4_readTugs_49 ci_0 ?_
            exact J_zret0 hK dX4_readTugs_50
          · refine J_iinc (lw := [(0, .ref (X.1 + 18)), (1, .ref (X.1 + p1))]) hK dX4_readTugs_51 0 rfl (by decide) ci_1 rfl (fun z207 => ?_)
            refine J_goto (len := 0) (tgt := 15) hK dX4_readTugs_54 (by decide) ?_
            exact J_sub [0, 1, 2] rfl (ih _ _)
set_option maxHeartbeats 4000000 in
set_option maxRecDepth 4000 in
theorem uX4_readTugs {l : Launch} {X : WX} {a1 : Nat} {h h' : AH} {v : Int32} (ka1 : kd a1 = 2) (hf : fX4_readTugs a1 h = some (v, h')) : Does l X 5 yX4_readTugs cX4_readTugs 3 (some .boolean) [.ref (X.1 + 18), .ref (X.1 + a1)] h (eI v) h' := by
  refine Does.of (enc := eI) (o := fX4_readTugs a1 h) (lv := [(0, .ref (X.1 + 18)), (1, .ref (X.1 + a1))]) (by decide) (Nat.le_of_ble_eq_true rfl) rfl hf (fun K hl hK => ?_)
  subst hl
  unfold fX4_readTugs
  refine J_aload_n hK dX4_readTugs_0 0 rfl ?_
  refine J_callVi (q := 18) (As := []) (st := []) hK dX4_readTugs_1 kB_X4_58 kV_X4_sortHere kd_18 (by decide) rfl rfl (by decide) rfl rfl (Nat.le_of_ble_eq_true rfl) (fun _ _ hf => uX4_sortHere  hf) (fun v2 h1 => ?_)
  refine J_if_ne (tgt := 13) hK dX4_readTugs_4 (by decide) ?_ ?_
  · refine J_aload_n hK dX4_readTugs_7 0 rfl ?_
    refine J_iconst hK dX4_readTugs_8 ci_1 ?_
    refine J_callVi (q := 18) (As := [.int (1 : Int32)]) (st := []) hK dX4_readTugs_9 kB_X4_62 kV_X4_faulty kd_18 (by decide) rfl rfl (by decide) rfl rfl (Nat.le_of_ble_eq_true rfl) (fun _ _ hf => uX4_faulty  hf) (fun v4 h3 => ?_)
    exact J_zret hK dX4_readTugs_12
  · refine J_iconst hK dX4_readTugs_13 ci_0 ?_
    refine J_istore_n (n := 2) (lw := [(0, .ref (X.1 + 18)), (1, .ref (X.1 + a1))]) hK dX4_readTugs_14 rfl (by decide) rfl ?_
    refine J_sub [0, 1, 2] rfl (gX4_readTugs_L15 hK ka1 (fun z5 h6 => ?_) FU _ _)
    refine J_iconst hK dX4_readTugs_57 ci_1 ?_
    exact J_zret1 hK dX4_readTugs_58
-- X4_readInto
theorem dX4_readInto_0 : DD cX4_readInto 0 (.aload_n 0) 1 1 := by decide +kernel
theorem dX4_readInto_1 : DD cX4_readInto 1 (.iconst 0) 1 2 := by decide +kernel
theorem dX4_readInto_2 : DD cX4_readInto 2 (.putfield 19) 3 5 := by decide +kernel
theorem dX4_readInto_5 : DD cX4_readInto 5 (.aload_n 1) 1 6 := by decide +kernel
theorem dX4_readInto_6 : DD cX4_readInto 6 (.invokevirtual 22) 3 9 := by decide +kernel
theorem dX4_readInto_9 : DD cX4_readInto 9 (.aload_n 0) 1 10 := by decide +kernel
theorem dX4_readInto_10 : DD cX4_readInto 10 (.aload_n 1) 1 11 := by decide +kernel
theorem dX4_readInto_11 : DD cX4_readInto 11 (.invokevirtual 27) 3 14 := by decide +kernel
theorem dX4_readInto_14 : DD cX4_readInto 14 (.ifCond .eq 30) 3 17 := by decide +kernel
theorem dX4_readInto_17 : DD cX4_readInto 17 (.aload_n 0) 1 18 := by decide +kernel
theorem dX4_readInto_18 : DD cX4_readInto 18 (.aload_n 1) 1 19 := by decide +kernel
theorem dX4_readInto_19 : DD cX4_readInto 19 (.invokevirtual 31) 3 22 := by decide +kernel
theorem dX4_readInto_22 : DD cX4_readInto 22 (.ifCond .eq 22) 3 25 := by decide +kernel
theorem dX4_readInto_25 : DD cX4_readInto 25 (.aload_n 0) 1 26 := by decide +kernel
theorem dX4_readInto_26 : DD cX4_readInto 26 (.aload_n 1) 1 27 := by decide +kernel
theorem dX4_readInto_27 : DD cX4_readInto 27 (.invokevirtual 34) 3 30 := by decide +kernel
theorem dX4_readInto_30 : DD cX4_readInto 30 (.ifCond .eq 14) 3 33 := by decide +kernel
theorem dX4_readInto_33 : DD cX4_readInto 33 (.aload_n 0) 1 34 := by decide +kernel
theorem dX4_readInto_34 : DD cX4_readInto 34 (.invokevirtual 37) 3 37 := by decide +kernel
theorem dX4_readInto_37 : DD cX4_readInto 37 (.ifCond .eq 7) 3 40 := by decide +kernel
theorem dX4_readInto_40 : DD cX4_readInto 40 (.iconst 1) 1 41 := by decide +kernel
theorem dX4_readInto_41 : DD cX4_readInto 41 (.goto 4) 3 44 := by decide +kernel
theorem dX4_readInto_44 : DD cX4_readInto 44 (.iconst 0) 1 45 := by decide +kernel
theorem dX4_readInto_45 : DD cX4_readInto 45 (.istore_n 2) 1 46 := by decide +kernel
theorem dX4_readInto_46 : DD cX4_readInto 46 (.aload_n 0) 1 47 := by decide +kernel
theorem dX4_readInto_47 : DD cX4_readInto 47 (.iconst 0) 1 48 := by decide +kernel
theorem dX4_readInto_48 : DD cX4_readInto 48 (.putfield 15) 3 51 := by decide +kernel
theorem dX4_readInto_51 : DD cX4_readInto 51 (.iload_n 2) 1 52 := by decide +kernel
theorem dX4_readInto_52 : DD cX4_readInto 52 (.ireturn) 1 53 := by decide +kernel
def fX4_readInto (a1 : Nat) (h : AH) : Option (Int32 × AH) := (sto (hs h 18 2 (0 : Int32)) fun h1 => (bnd (fX2_empty a1 h1) fun _ h2 => (bnd (fX4_readLaw a1 h2) fun v4 h3 => (if v4 = 0 then (sto (hs h3 18 1 (0 : Int32)) fun h5 => (some ((0 : Int32), h5))) else (bnd (fX4_readTugs a1 h3) fun v7 h6 => (if v7 = 0 then (sto (hs h6 18 1 (0 : Int32)) fun h8 => (some ((0 : Int32), h8))) else (bnd (fX4_readPiers a1 h6) fun v10 h9 => (if v10 = 0 then (sto (hs h9 18 1 (0 : Int32)) fun h11 => (some ((0 : Int32), h11))) else (bnd (fX4_readEnd  h9) fun v13 h12 => (if v13 = 0 then (sto (hs h12 18 1 (0 : Int32)) fun h14 => (some ((0 : Int32), h14))) else (sto (hs h12 18 1 (0 : Int32)) fun h15 => (some ((1 : Int32), h15)))))))))))))
set_option maxHeartbeats 4000000 in
set_option maxRecDepth 4000 in
theorem uX4_readInto {l : Launch} {X : WX} {a1 : Nat} {h h' : AH} {v : Int32} (ka1 : kd a1 = 2) (hf : fX4_readInto a1 h = some (v, h')) : Does l X 6 yX4_readInto cX4_readInto 3 (some .boolean) [.ref (X.1 + 18), .ref (X.1 + a1)] h (eI v) h' := by
  refine Does.of (enc := eI) (o := fX4_readInto a1 h) (lv := [(0, .ref (X.1 + 18)), (1, .ref (X.1 + a1))]) (by decide) (Nat.le_of_ble_eq_true rfl) rfl hf (fun K hl hK => ?_)
  subst hl
  unfold fX4_readInto
  refine J_aload_n hK dX4_readInto_0 0 rfl ?_
  refine J_iconst hK dX4_readInto_1 ci_0 ?_
  refine pF_X4_19 hK dX4_readInto_2 kd_18 (fun h1 => ?_)
  refine J_aload_n hK dX4_readInto_5 1 rfl ?_
  refine J_callVv (q := a1) (As := []) (st := []) hK dX4_readInto_6 kB_X4_22 kV_X2_empty ka1 (by decide) rfl rfl (by decide) rfl rfl (Nat.le_of_ble_eq_true rfl) (fun _ _ hf => uX2_empty ka1 hf) (fun _ h2 => ?_)
  refine J_aload_n hK dX4_readInto_9 0 rfl ?_
  refine J_aload_n hK dX4_readInto_10 1 rfl ?_
  refine J_callVi (q := 18) (As := [.ref (X.1 + a1)]) (st := []) hK dX4_readInto_11 kB_X4_27 kV_X4_readLaw kd_18 (by decide) rfl rfl (by decide) rfl rfl (Nat.le_of_ble_eq_true rfl) (fun _ _ hf => uX4_readLaw ka1 hf) (fun v4 h3 => ?_)
  refine J_if_eq (tgt := 44) hK dX4_readInto_14 (by decide) ?_ ?_
  · refine J_iconst hK dX4_readInto_44 ci_0 ?_
    refine J_istore_n (n := 2) (lw := [(0, .ref (X.1 + 18)), (1, .ref (X.1 + a1))]) hK dX4_readInto_45 rfl (by decide) rfl ?_
    refine J_aload_n hK dX4_readInto_46 1 rfl ?_
    refine J_iconst hK dX4_readInto_47 ci_0 ?_
    refine pF_X4_15 hK dX4_readInto_48 kd_18 (fun h5 => ?_)
    refine J_iload_n hK dX4_readInto_51 0 rfl ?_
    exact J_zret0 hK dX4_readInto_52
  · refine J_aload_n hK dX4_readInto_17 0 rfl ?_
    refine J_aload_n hK dX4_readInto_18 1 rfl ?_
    refine J_callVi (q := 18) (As := [.ref (X.1 + a1)]) (st := []) hK dX4_readInto_19 kB_X4_31 kV_X4_readTugs kd_18 (by decide) rfl rfl (by decide) rfl rfl (Nat.le_of_ble_eq_true rfl) (fun _ _ hf => uX4_readTugs ka1 hf) (fun v7 h6 => ?_)
    refine J_if_eq (tgt := 44) hK dX4_readInto_22 (by decide) ?_ ?_
    · refine J_iconst hK dX4_readInto_44 ci_0 ?_
      refine J_istore_n (n := 2) (lw := [(0, .ref (X.1 + 18)), (1, .ref (X.1 + a1))]) hK dX4_readInto_45 rfl (by decide) rfl ?_
      refine J_aload_n hK dX4_readInto_46 1 rfl ?_
      refine J_iconst hK dX4_readInto_47 ci_0 ?_
      refine pF_X4_15 hK dX4_readInto_48 kd_18 (fun h8 => ?_)
      refine J_iload_n hK dX4_readInto_51 0 rfl ?_
      exact J_zret0 hK dX4_readInto_52
    · refine J_aload_n hK dX4_readInto_25 0 rfl ?_
      refine J_aload_n hK dX4_readInto_26 1 rfl ?_
      refine J_callVi (q := 18) (As := [.ref (X.1 + a1)]) (st := []) hK dX4_readInto_27 kB_X4_34 kV_X4_readPiers kd_18 (by decide) rfl rfl (by decide) rfl rfl (Nat.le_of_ble_eq_true rfl) (fun _ _ hf => uX4_readPiers ka1 hf) (fun v10 h9 => ?_)
      refine J_if_eq (tgt := 44) hK dX4_readInto_30 (by decide) ?_ ?_
      · refine J_iconst hK dX4_readInto_44 ci_0 ?_
        refine J_istore_n (n := 2) (lw := [(0, .ref (X.1 + 18)), (1, .ref (X.1 + a1))]) hK dX4_readInto_45 rfl (by decide) rfl ?_
        refine J_aload_n hK dX4_readInto_46 1 rfl ?_
        refine J_iconst hK dX4_readInto_47 ci_0 ?_
        refine pF_X4_15 hK dX4_readInto_48 kd_18 (fun h11 => ?_)
        refine J_iload_n hK dX4_readInto_51 0 rfl ?_
        exact J_zret0 hK dX4_readInto_52
      · refine J_aload_n hK dX4_readInto_33 0 rfl ?_
        refine J_callVi (q := 18) (As := []) (st := []) hK dX4_readInto_34 kB_X4_37 kV_X4_readEnd kd_18 (by decide) rfl rfl (by decide) rfl rfl (Nat.le_of_ble_eq_true rfl) (fun _ _ hf => uX4_readEnd  hf) (fun v13 h12 => ?_)
        refine J_if_eq (tgt := 44) hK dX4_readInto_37 (by decide) ?_ ?_
        · refine J_iconst hK dX4_readInto_44 ci_0 ?_
          refine J_istore_n (n := 2) (lw := [(0, .ref (X.1 + 18)), (1, .ref (X.1 + a1))]) hK dX4_readInto_45 rfl (by decide) rfl ?_
          refine J_aload_n hK dX4_readInto_46 1 rfl ?_
          refine J_iconst hK dX4_readInto_47 ci_0 ?_
          refine pF_X4_15 hK dX4_readInto_48 kd_18 (fun h14 => ?_)
          refine J_iload_n hK dX4_readInto_51 0 rfl ?_
          exact J_zret0 hK dX4_readInto_52
        · refine J_iconst hK dX4_readInto_40 ci_1 ?_
          refine J_goto (len := 0) (tgt := 45) hK dX4_readInto_41 (by decide) ?_
          refine J_istore_n (n := 2) (lw := [(0, .ref (X.1 + 18)), (1, .ref (X.1 + a1))]) hK dX4_readInto_45 rfl (by decide) rfl ?_
          refine J_aload_n hK dX4_readInto_46 1 rfl ?_
          refine J_iconst hK dX4_readInto_47 ci_0 ?_
          refine pF_X4_15 hK dX4_readInto_48 kd_18 (fun h15 => ?_)
          refine J_iload_n hK dX4_readInto_51 0 rfl ?_
          exact J_zret1 hK dX4_readInto_52
-- X1_leave
theorem dX1_leave_0 : DD cX1_leave 0 (.aload_n 0) 1 1 := by decide +kernel
theorem dX1_leave_1 : DD cX1_leave 1 (.getfield 15) 3 4 := by decide +kernel
theorem dX1_leave_4 : DD cX1_leave 4 (.bipush 16) 2 6 := by decide +kernel
theorem dX1_leave_6 : DD cX1_leave 6 (.if_icmp .ge 23) 3 9 := by decide +kernel
theorem dX1_leave_9 : DD cX1_leave 9 (.aload_n 0) 1 10 := by decide +kernel
theorem dX1_leave_10 : DD cX1_leave 10 (.getfield 9) 3 13 := by decide +kernel
theorem dX1_leave_13 : DD cX1_leave 13 (.aload_n 0) 1 14 := by decide +kernel
theorem dX1_leave_14 : DD cX1_leave 14 (.getfield 15) 3 17 := by decide +kernel
theorem dX1_leave_17 : DD cX1_leave 17 (.iload_n 1) 1 18 := by decide +kernel
theorem dX1_leave_18 : DD cX1_leave 18 (.iastore) 1 19 := by decide +kernel
theorem dX1_leave_19 : DD cX1_leave 19 (.aload_n 0) 1 20 := by decide +kernel
theorem dX1_leave_20 : DD cX1_leave 20 (.dup) 1 21 := by decide +kernel
theorem dX1_leave_21 : DD cX1_leave 21 (.getfield 15) 3 24 := by decide +kernel
theorem dX1_leave_24 : DD cX1_leave 24 (.iconst 1) 1 25 := by decide +kernel
theorem dX1_leave_25 : DD cX1_leave 25 (.iadd) 1 26 := by decide +kernel
theorem dX1_leave_26 : DD cX1_leave 26 (.putfield 15) 3 29 := by decide +kernel
theorem dX1_leave_29 : DD cX1_leave 29 (.return_) 1 30 := by decide +kernel
def fX1_leave (a1 : Int32) (h : AH) : Option (Unit × AH) := (if (h 276 1) < (16 : Int32) then (chk (inb (h 276 1) (ln 277)) (sto (hs h 277 (Int32.toNatClampNeg (h 276 1)) a1) fun h1 => (sto (hs h1 276 1 ((h1 276 1) + (1 : Int32))) fun h2 => (some ((), h2))))) else (some ((), h)))
set_option maxHeartbeats 4000000 in
set_option maxRecDepth 4000 in
theorem uX1_leave {l : Launch} {X : WX} {a1 : Int32} {h h' : AH} {v : Unit} (hf : fX1_leave a1 h = some (v, h')) : Does l X 1 yX1_leave cX1_leave 2 none [.ref (X.1 + 276), .int a1] h (eV v) h' := by
  refine Does.of (enc := eV) (o := fX1_leave a1 h) (lv := [(0, .ref (X.1 + 276)), (1, .int a1)]) (by decide) (Nat.le_of_ble_eq_true rfl) rfl hf (fun K hl hK => ?_)
  subst hl
  unfold fX1_leave
  refine J_aload_n hK dX1_leave_0 0 rfl ?_
  refine gF_X1_15 hK dX1_leave_1 kd_276 ?_
  refine J_bipush hK dX1_leave_4 cb_16 ?_
  refine J_icmp_ge (tgt := 29) hK dX1_leave_6 (by decide) ?_ ?_
  · refine J_aload_n hK dX1_leave_9 0 rfl ?_
    refine rF_X1_9 (q2 := 277) hK dX1_leave_10 kd_276 rfl ?_
    refine J_aload_n hK dX1_leave_13 0 rfl ?_
    refine gF_X1_15 hK dX1_leave_14 kd_276 ?_
    refine J_iload_n hK dX1_leave_17 1 rfl ?_
    refine J_iast hK dX1_leave_18 kd_277 (fun h1 => ?_)
    refine J_aload_n hK dX1_leave_19 0 rfl ?_
    refine J_dup hK dX1_leave_20 rfl ?_
    refine gF_X1_15 hK dX1_leave_21 kd_276 ?_
    refine J_iconst hK dX1_leave_24 ci_1 ?_
    refine J_iadd hK dX1_leave_25 ?_
    refine pF_X1_15 hK dX1_leave_26 kd_276 (fun h2 => ?_)
    exact J_vret hK dX1_leave_29
  · exact J_vret hK dX1_leave_29
-- X1_begin
theorem dX1_begin_0 : DD cX1_begin 0 (.aload_n 2) 1 1 := by decide +kernel
theorem dX1_begin_1 : DD cX1_begin 1 (.getfield 23) 3 4 := by decide +kernel
theorem dX1_begin_4 : DD cX1_begin 4 (.iload_n 3) 1 5 := by decide +kernel
theorem dX1_begin_5 : DD cX1_begin 5 (.iaload) 1 6 := by decide +kernel
theorem dX1_begin_6 : DD cX1_begin 6 (.istore 5) 2 8 := by decide +kernel
theorem dX1_begin_8 : DD cX1_begin 8 (.iload 5) 2 10 := by decide +kernel
theorem dX1_begin_10 : DD cX1_begin 10 (.ifCond .lt 9) 3 13 := by decide +kernel
theorem dX1_begin_13 : DD cX1_begin 13 (.iload 5) 2 15 := by decide +kernel
theorem dX1_begin_15 : DD cX1_begin 15 (.iconst 5) 1 16 := by decide +kernel
theorem dX1_begin_16 : DD cX1_begin 16 (.if_icmp .le 5) 3 19 := by decide +kernel
theorem dX1_begin_19 : DD cX1_begin 19 (.iconst 0) 1 20 := by decide +kernel
theorem dX1_begin_20 : DD cX1_begin 20 (.ireturn) 1 21 := by decide +kernel
theorem dX1_begin_21 : DD cX1_begin 21 (.aload_n 0) 1 22 := by decide +kernel
theorem dX1_begin_22 : DD cX1_begin 22 (.iload_n 1) 1 23 := by decide +kernel
theorem dX1_begin_23 : DD cX1_begin 23 (.ifCond .ne 12) 3 26 := by decide +kernel
theorem dX1_begin_26 : DD cX1_begin 26 (.getstatic 28) 3 29 := by decide +kernel
theorem dX1_begin_29 : DD cX1_begin 29 (.iload 5) 2 31 := by decide +kernel
theorem dX1_begin_31 : DD cX1_begin 31 (.iaload) 1 32 := by decide +kernel
theorem dX1_begin_32 : DD cX1_begin 32 (.goto 9) 3 35 := by decide +kernel
theorem dX1_begin_35 : DD cX1_begin 35 (.getstatic 31) 3 38 := by decide +kernel
theorem dX1_begin_38 : DD cX1_begin 38 (.iload 5) 2 40 := by decide +kernel
theorem dX1_begin_40 : DD cX1_begin 40 (.iaload) 1 41 := by decide +kernel
theorem dX1_begin_41 : DD cX1_begin 41 (.aload_n 2) 1 42 := by decide +kernel
theorem dX1_begin_42 : DD cX1_begin 42 (.iload_n 3) 1 43 := by decide +kernel
theorem dX1_begin_43 : DD cX1_begin 43 (.iload 4) 2 45 := by decide +kernel
theorem dX1_begin_45 : DD cX1_begin 45 (.invokevirtual 34) 3 48 := by decide +kernel
theorem dX1_begin_48 : DD cX1_begin 48 (.ireturn) 1 49 := by decide +kernel
def fX1_begin (rec : Int32 → Nat → Int32 → Int32 → AH → Option (Int32 × AH)) (a1 : Int32) (a2 : Nat) (a3 : Int32) (a4 : Int32) (h : AH) : Option (Int32 × AH) := (chk (inb a3 (ln (a2 + 1))) (vl (h (a2 + 1) (Int32.toNatClampNeg a3)) fun z1 => (if z1 < 0 then (some ((0 : Int32), h)) else (if (5 : Int32) < z1 then (some ((0 : Int32), h)) else (if a1 = 0 then (chk (inb z1 (stL 2).length) (bnd (rec (stV 2 (Int32.toNatClampNeg z1)) a2 a3 a4 h) fun v3 h2 => (some (v3, h2)))) else (chk (inb z1 (stL 3).length) (bnd (rec (stV 3 (Int32.toNatClampNeg z1)) a2 a3 a4 h) fun v5 h4 => (some (v5, h4)))))))))
set_option maxHeartbeats 4000000 in
set_option maxRecDepth 4000 in
theorem uX1_begin {l : Launch} {X : WX} {jj : Nat} {rec : Int32 → Nat → Int32 → Int32 → AH → Option (Int32 × AH)} (hrec : ∀ {a1 : Int32} {a2 : Nat} {a3 : Int32} {a4 : Int32} {h h' : AH} {v : Int32}, kd a2 = 2 → rec a1 a2 a3 a4 h = some (v, h') → Does l X jj yX1_body cX1_body 6 (some .int) [.ref (X.1 + 276), .int a1, .ref (X.1 + a2), .int a3, .int a4] h (eI v) h') {a1 : Int32} {a2 : Nat} {a3 : Int32} {a4 : Int32} {h h' : AH} {v : Int32} (ka2 : kd a2 = 2) (hf : fX1_begin rec a1 a2 a3 a4 h = some (v, h')) : Does l X (jj + 6) yX1_begin cX1_begin 6 (some .int) [.ref (X.1 + 276), .int a1, .ref (X.1 + a2), .int a3, .int a4] h (eI v) h' := by
  refine Does.of (enc := eI) (o := fX1_begin rec a1 a2 a3 a4 h) (lv := [(0, .ref (X.1 + 276)), (1, .int a1), (2, .ref (X.1 + a2)), (3, .int a3), (4, .int a4)]) (by decide) (Nat.le_of_ble_eq_true rfl) rfl hf (fun K hl hK => ?_)
  subst hl
  unfold fX1_begin
  refine J_aload_n hK dX1_begin_0 2 rfl ?_
  refine rF_X1_23 (q2 := (a2 + 1)) hK dX1_begin_1 ka2 rfl ?_
  refine J_iload_n hK dX1_begin_4 3 rfl ?_
  refine J_iald hK dX1_begin_5 (kdE_1 ka2) (fun _ => ?_)
  refine J_istoreV (lw := [(0, .ref (X.1 + 276)), (1, .int a1), (2, .ref (X.1 + a2)), (3, .int a3), (4, .int a4)]) hK dX1_begin_6 (by decide) rfl (fun z1 => ?_)
  refine J_iload hK dX1_begin_8 0 rfl ?_
  refine J_if_lt (tgt := 19) hK dX1_begin_10 (by decide) ?_ ?_
  · refine J_iconst hK dX1_begin_19 ci_0 ?_
    exact J_iret hK dX1_begin_20
  · refine J_iload hK dX1_begin_13 0 rfl ?_
    refine J_iconst hK dX1_begin_15 ci_5 ?_
    refine J_icmp_le (tgt := 21) hK dX1_begin_16 (by decide) ?_ ?_
    · refine J_iconst hK dX1_begin_19 ci_0 ?_
      exact J_iret hK dX1_begin_20
    · refine J_aload_n hK dX1_begin_21 1 rfl ?_
      refine J_iload_n hK dX1_begin_22 2 rfl ?_
      refine J_if_ne (tgt := 35) hK dX1_begin_23 (by decide) ?_ ?_
      · refine J_gets 2 (by decide) hK dX1_begin_26 kF_X1_28 ?_
        refine J_iload hK dX1_begin_29 0 rfl ?_
        refine J_sald 2 (by decide) hK dX1_begin_31 (fun _ => ?_)
        refine J_goto (len := 0) (tgt := 41) hK dX1_begin_32 (by decide) ?_
        refine J_aload_n hK dX1_begin_41 3 rfl ?_
        refine J_iload_n hK dX1_begin_42 4 rfl ?_
        refine J_iload hK dX1_begin_43 5 rfl ?_
        refine J_callVi (q := 276) (As := [.int (stV 2 (Int32.toNatClampNeg z1)), .ref (X.1 + a2), .int a3, .int a4]) (st := []) hK dX1_begin_45 kB_X1_34 kV_X1_body kd_276 (by decide) rfl rfl (by omega) rfl rfl (Nat.le_of_ble_eq_true rfl) (fun _ _ hf => hrec ka2 hf) (fun v3 h2 => ?_)
        exact J_iret hK dX1_begin_48
      · refine J_gets 3 (by decide) hK dX1_begin_35 kF_X1_31 ?_
        refine J_iload hK dX1_begin_38 0 rfl ?_
        refine J_sald 3 (by decide) hK dX1_begin_40 (fun _ => ?_)
        refine J_aload_n hK dX1_begin_41 3 rfl ?_
        refine J_iload_n hK dX1_begin_42 4 rfl ?_
        refine J_iload hK dX1_begin_43 5 rfl ?_
        refine J_callVi (q := 276) (As := [.int (stV 3 (Int32.toNatClampNeg z1)), .ref (X.1 + a2), .int a3, .int a4]) (st := []) hK dX1_begin_45 kB_X1_34 kV_X1_body kd_276 (by decide) rfl rfl (by omega) rfl rfl (Nat.le_of_ble_eq_true rfl) (fun _ _ hf => hrec ka2 hf) (fun v5 h4 => ?_)
        exact J_iret hK dX1_begin_48
-- X1_body
theorem dX1_body_0 : DD cX1_body 0 (.iload 4) 2 2 := by decide +kernel
theorem dX1_body_2 : DD cX1_body 2 (.bipush 16) 2 4 := by decide +kernel
theorem dX1_body_4 : DD cX1_body 4 (.if_icmp .le 5) 3 7 := by decide +kernel
theorem dX1_body_7 : DD cX1_body 7 (.iconst 0) 1 8 := by decide +kernel
theorem dX1_body_8 : DD cX1_body 8 (.ireturn) 1 9 := by decide +kernel
theorem dX1_body_9 : DD cX1_body 9 (.aload_n 0) 1 10 := by decide +kernel
theorem dX1_body_10 : DD cX1_body 10 (.iload_n 1) 1 11 := by decide +kernel
theorem dX1_body_11 : DD cX1_body 11 (.invokevirtual 37) 3 14 := by decide +kernel
theorem dX1_body_14 : DD cX1_body 14 (.iload 4) 2 16 := by decide +kernel
theorem dX1_body_16 : DD cX1_body 16 (.iconst 1) 1 17 := by decide +kernel
theorem dX1_body_17 : DD cX1_body 17 (.iadd) 1 18 := by decide +kernel
theorem dX1_body_18 : DD cX1_body 18 (.istore 5) 2 20 := by decide +kernel
theorem dX1_body_20 : DD cX1_body 20 (.iload_n 1) 1 21 := by decide +kernel
theorem dX1_body_21 : DD cX1_body 21 (.tableswitch 211 10 24 #[75, 82, 103, 115, 129, 211, 211, 211, 211, 211, 142, 144, 162, 177, 198]) 75 96 := by decide +kernel
theorem dX1_body_96 : DD cX1_body 96 (.aload_n 2) 1 97 := by decide +kernel
theorem dX1_body_97 : DD cX1_body 97 (.getfield 41) 3 100 := by decide +kernel
theorem dX1_body_100 : DD cX1_body 100 (.iload_n 3) 1 101 := by decide +kernel
theorem dX1_body_101 : DD cX1_body 101 (.iaload) 1 102 := by decide +kernel
theorem dX1_body_102 : DD cX1_body 102 (.ireturn) 1 103 := by decide +kernel
theorem dX1_body_103 : DD cX1_body 103 (.aload_n 0) 1 104 := by decide +kernel
theorem dX1_body_104 : DD cX1_body 104 (.bipush 10) 2 106 := by decide +kernel
theorem dX1_body_106 : DD cX1_body 106 (.aload_n 2) 1 107 := by decide +kernel
theorem dX1_body_107 : DD cX1_body 107 (.iload_n 3) 1 108 := by decide +kernel
theorem dX1_body_108 : DD cX1_body 108 (.iload 5) 2 110 := by decide +kernel
theorem dX1_body_110 : DD cX1_body 110 (.invokevirtual 34) 3 113 := by decide +kernel
theorem dX1_body_113 : DD cX1_body 113 (.aload_n 0) 1 114 := by decide +kernel
theorem dX1_body_114 : DD cX1_body 114 (.iconst 1) 1 115 := by decide +kernel
theorem dX1_body_115 : DD cX1_body 115 (.aload_n 2) 1 116 := by decide +kernel
theorem dX1_body_116 : DD cX1_body 116 (.iload_n 3) 1 117 := by decide +kernel
theorem dX1_body_117 : DD cX1_body 117 (.iload 5) 2 119 := by decide +kernel
theorem dX1_body_119 : DD cX1_body 119 (.invokevirtual 19) 3 122 := by decide +kernel
theorem dX1_body_122 : DD cX1_body 122 (.iadd) 1 123 := by decide +kernel
theorem dX1_body_123 : DD cX1_body 123 (.ireturn) 1 124 := by decide +kernel
theorem dX1_body_124 : DD cX1_body 124 (.aload_n 0) 1 125 := by decide +kernel
theorem dX1_body_125 : DD cX1_body 125 (.bipush 11) 2 127 := by decide +kernel
theorem dX1_body_127 : DD cX1_body 127 (.aload_n 2) 1 128 := by decide +kernel
theorem dX1_body_128 : DD cX1_body 128 (.iload_n 3) 1 129 := by decide +kernel
theorem dX1_body_129 : DD cX1_body 129 (.iload 5) 2 131 := by decide +kernel
theorem dX1_body_131 : DD cX1_body 131 (.invokevirtual 34) 3 134 := by decide +kernel
theorem dX1_body_134 : DD cX1_body 134 (.ineg) 1 135 := by decide +kernel
theorem dX1_body_135 : DD cX1_body 135 (.ireturn) 1 136 := by decide +kernel
theorem dX1_body_136 : DD cX1_body 136 (.aload_n 0) 1 137 := by decide +kernel
theorem dX1_body_137 : DD cX1_body 137 (.bipush 10) 2 139 := by decide +kernel
theorem dX1_body_139 : DD cX1_body 139 (.aload_n 2) 1 140 := by decide +kernel
theorem dX1_body_140 : DD cX1_body 140 (.iload_n 3) 1 141 := by decide +kernel
theorem dX1_body_141 : DD cX1_body 141 (.iload 5) 2 143 := by decide +kernel
theorem dX1_body_143 : DD cX1_body 143 (.invokevirtual 34) 3 146 := by decide +kernel
theorem dX1_body_146 : DD cX1_body 146 (.bipush 100) 2 148 := by decide +kernel
theorem dX1_body_148 : DD cX1_body 148 (.isub) 1 149 := by decide +kernel
theorem dX1_body_149 : DD cX1_body 149 (.ireturn) 1 150 := by decide +kernel
theorem dX1_body_150 : DD cX1_body 150 (.iconst 2) 1 151 := by decide +kernel
theorem dX1_body_151 : DD cX1_body 151 (.aload_n 0) 1 152 := by decide +kernel
theorem dX1_body_152 : DD cX1_body 152 (.bipush 13) 2 154 := by decide +kernel
theorem dX1_body_154 : DD cX1_body 154 (.aload_n 2) 1 155 := by decide +kernel
theorem dX1_body_155 : DD cX1_body 155 (.iload_n 3) 1 156 := by decide +kernel
theorem dX1_body_156 : DD cX1_body 156 (.iload 5) 2 158 := by decide +kernel
theorem dX1_body_158 : DD cX1_body 158 (.invokevirtual 34) 3 161 := by decide +kernel
theorem dX1_body_161 : DD cX1_body 161 (.imul) 1 162 := by decide +kernel
theorem dX1_body_162 : DD cX1_body 162 (.ireturn) 1 163 := by decide +kernel
theorem dX1_body_163 : DD cX1_body 163 (.iload_n 3) 1 164 := by decide +kernel
theorem dX1_body_164 : DD cX1_body 164 (.ireturn) 1 165 := by decide +kernel
theorem dX1_body_165 : DD cX1_body 165 (.aload_n 0) 1 166 := by decide +kernel
theorem dX1_body_166 : DD cX1_body 166 (.bipush 20) 2 168 := by decide +kernel
theorem dX1_body_168 : DD cX1_body 168 (.aload_n 2) 1 169 := by decide +kernel
theorem dX1_body_169 : DD cX1_body 169 (.iload_n 3) 1 170 := by decide +kernel
theorem dX1_body_170 : DD cX1_body 170 (.iload 5) 2 172 := by decide +kernel
theorem dX1_body_172 : DD cX1_body 172 (.invokevirtual 34) 3 175 := by decide +kernel
theorem dX1_body_175 : DD cX1_body 175 (.aload_n 2) 1 176 := by decide +kernel
theorem dX1_body_176 : DD cX1_body 176 (.getfield 44) 3 179 := by decide +kernel
theorem dX1_body_179 : DD cX1_body 179 (.iload_n 3) 1 180 := by decide +kernel
theorem dX1_body_180 : DD cX1_body 180 (.iaload) 1 181 := by decide +kernel
theorem dX1_body_181 : DD cX1_body 181 (.iadd) 1 182 := by decide +kernel
theorem dX1_body_182 : DD cX1_body 182 (.ireturn) 1 183 := by decide +kernel
theorem dX1_body_183 : DD cX1_body 183 (.aload_n 0) 1 184 := by decide +kernel
theorem dX1_body_184 : DD cX1_body 184 (.bipush 21) 2 186 := by decide +kernel
theorem dX1_body_186 : DD cX1_body 186 (.aload_n 2) 1 187 := by decide +kernel
theorem dX1_body_187 : DD cX1_body 187 (.iload_n 3) 1 188 := by decide +kernel
theorem dX1_body_188 : DD cX1_body 188 (.iload 5) 2 190 := by decide +kernel
theorem dX1_body_190 : DD cX1_body 190 (.invokevirtual 34) 3 193 := by decide +kernel
theorem dX1_body_193 : DD cX1_body 193 (.sipush 1000) 3 196 := by decide +kernel
theorem dX1_body_196 : DD cX1_body 196 (.isub) 1 197 := by decide +kernel
theorem dX1_body_197 : DD cX1_body 197 (.ireturn) 1 198 := by decide +kernel
theorem dX1_body_198 : DD cX1_body 198 (.aload_n 0) 1 199 := by decide +kernel
theorem dX1_body_199 : DD cX1_body 199 (.bipush 20) 2 201 := by decide +kernel
theorem dX1_body_201 : DD cX1_body 201 (.aload_n 2) 1 202 := by decide +kernel
theorem dX1_body_202 : DD cX1_body 202 (.iload_n 3) 1 203 := by decide +kernel
theorem dX1_body_203 : DD cX1_body 203 (.iload 5) 2 205 := by decide +kernel
theorem dX1_body_205 : DD cX1_body 205 (.invokevirtual 34) 3 208 := by decide +kernel
theorem dX1_body_208 : DD cX1_body 208 (.aload_n 0) 1 209 := by decide +kernel
theorem dX1_body_209 : DD cX1_body 209 (.iconst 0) 1 210 := by decide +kernel
theorem dX1_body_210 : DD cX1_body 210 (.aload_n 2) 1 211 := by decide +kernel
theorem dX1_body_211 : DD cX1_body 211 (.iload_n 3) 1 212 := by decide +kernel
theorem dX1_body_212 : DD cX1_body 212 (.iload 5) 2 214 := by decide +kernel
theorem dX1_body_214 : DD cX1_body 214 (.invokevirtual 19) 3 217 := by decide +kernel
theorem dX1_body_217 : DD cX1_body 217 (.isub) 1 218 := by decide +kernel
theorem dX1_body_218 : DD cX1_body 218 (.ireturn) 1 219 := by decide +kernel
theorem dX1_body_219 : DD cX1_body 219 (.iconst 2) 1 220 := by decide +kernel
theorem dX1_body_220 : DD cX1_body 220 (.aload_n 0) 1 221 := by decide +kernel
theorem dX1_body_221 : DD cX1_body 221 (.bipush 21) 2 223 := by decide +kernel
theorem dX1_body_223 : DD cX1_body 223 (.aload_n 2) 1 224 := by decide +kernel
theorem dX1_body_224 : DD cX1_body 224 (.iload_n 3) 1 225 := by decide +kernel
theorem dX1_body_225 : DD cX1_body 225 (.iload 5) 2 227 := by decide +kernel
theorem dX1_body_227 : DD cX1_body 227 (.invokevirtual 34) 3 230 := by decide +kernel
theorem dX1_body_230 : DD cX1_body 230 (.imul) 1 231 := by decide +kernel
theorem dX1_body_231 : DD cX1_body 231 (.ireturn) 1 232 := by decide +kernel
theorem dX1_body_232 : DD cX1_body 232 (.iconst 0) 1 233 := by decide +kernel
theorem dX1_body_233 : DD cX1_body 233 (.ireturn) 1 234 := by decide +kernel
def fX1_body : Nat → Int32 → Nat → Int32 → Int32 → AH → Option (Int32 × AH)
  | 0, _, _, _, _, _ => none
  | n + 1, a1, a2, a3, a4, h => (if (16 : Int32) < a4 then (some ((0 : Int32), h)) else (bnd (fX1_leave a1 h) fun _ h1 => (vl (a4 + (1 : Int32)) fun z2 => (if a1 = (10 : Int32) then (chk (inb a3 (ln (a2 + 2))) (some ((h1 (a2 + 2) (Int32.toNatClampNeg a3)), h1))) else (if a1 = (11 : Int32) then (bnd (fX1_body n (10 : Int32) a2 a3 z2 h1) fun v5 h4 => (bnd (fX1_begin (fX1_body n) (1 : Int32) a2 a3 z2 h4) fun v7 h6 => (some ((v5 + v7), h6)))) else (if a1 = (12 : Int32) then (bnd (fX1_body n (11 : Int32) a2 a3 z2 h1) fun v10 h9 => (some ((-v10), h9))) else (if a1 = (13 : Int32) then (bnd (fX1_body n (10 : Int32) a2 a3 z2 h1) fun v13 h12 => (some ((v13 - (100 : Int32)), h12))) else (if a1 = (14 : Int32) then (bnd (fX1_body n (13 : Int32) a2 a3 z2 h1) fun v16 h15 => (some (((2 : Int32) * v16), h15))) else (if a1 = (15 : Int32) then (some ((0 : Int32), h1)) else (if a1 = (16 : Int32) then (some ((0 : Int32), h1)) else (if a1 = (17 : Int32) then (some ((0 : Int32), h1)) else (if a1 = (18 : Int32) then (some ((0 : Int32), h1)) else (if a1 = (19 : Int32) then (some ((0 : Int32), h1)) else (if a1 = (20 : Int32) then (some (a3, h1)) else (if a1 = (21 : Int32) then (bnd (fX1_body n (20 : Int32) a2 a3 z2 h1) fun v25 h24 => (chk (inb a3 (ln (a2 + 4))) (some ((v25 + (h24 (a2 + 4) (Int32.toNatClampNeg a3))), h24)))) else (if a1 = (22 : Int32) then (bnd (fX1_body n (21 : Int32) a2 a3 z2 h1) fun v28 h27 => (some ((v28 - (1000 : Int32)), h27))) else (if a1 = (23 : Int32) then (bnd (fX1_body n (20 : Int32) a2 a3 z2 h1) fun v31 h30 => (bnd (fX1_begin (fX1_body n) (0 : Int32) a2 a3 z2 h30) fun v33 h32 => (some ((v31 - v33), h32)))) else (if a1 = (24 : Int32) then (bnd (fX1_body n (21 : Int32) a2 a3 z2 h1) fun v36 h35 => (some (((2 : Int32) * v36), h35))) else (some ((0 : Int32), h1))))))))))))))))))))
set_option maxHeartbeats 4000000 in
set_option maxRecDepth 4000 in
theorem uX1_body {l : Launch} {X : WX} {n : Nat} : ∀ {a1 : Int32} {a2 : Nat} {a3 : Int32} {a4 : Int32} {h h' : AH} {v : Int32}, kd a2 = 2 → fX1_body n a1 a2 a3 a4 h = some (v, h') → Does l X (12 * n + 6) yX1_body cX1_body 6 (some .int) [.ref (X.1 + 276), .int a1, .ref (X.1 + a2), .int a3, .int a4] h (eI v) h' := by
  induction n with
  | zero => exact fun _ hf => by cases hf
  | succ n ih =>
    intro a1 a2 a3 a4 h h' v ka2 hf
    refine Does.of (enc := eI) (o := fX1_body (n + 1) a1 a2 a3 a4 h) (lv := [(0, .ref (X.1 + 276)), (1, .int a1), (2, .ref (X.1 + a2)), (3, .int a3), (4, .int a4)]) (by decide) (Nat.le_of_ble_eq_true rfl) rfl hf (fun K hl hK => ?_)
    subst hl
    rw [fX1_body]
    refine J_iload hK dX1_body_0 4 rfl ?_
    refine J_bipush hK dX1_body_2 cb_16 ?_
    refine J_icmp_le (tgt := 9) hK dX1_body_4 (by decide) ?_ ?_
    · refine J_iconst hK dX1_body_7 ci_0 ?_
      exact J_iret hK dX1_body_8
    · refine J_aload_n hK dX1_body_9 0 rfl ?_
      refine J_iload_n hK dX1_body_10 1 rfl ?_
      refine J_callVv (q := 276) (As := [.int a1]) (st := []) hK dX1_body_11 kB_X1_37 kV_X1_leave kd_276 (by decide) rfl rfl (by omega) rfl rfl (Nat.le_of_ble_eq_true rfl) (fun _ _ hf => uX1_leave  hf) (fun _ h1 => ?_)
      refine J_iload hK dX1_body_14 4 rfl ?_
      refine J_iconst hK dX1_body_16 ci_1 ?_
      refine J_iadd hK dX1_body_17 ?_
      refine J_istoreV (lw := [(0, .ref (X.1 + 276)), (1, .int a1), (2, .ref (X.1 + a2)), (3, .int a3), (4, .int a4)]) hK dX1_body_18 (by decide) rfl (fun z2 => ?_)
      refine J_iload_n hK dX1_body_20 2 rfl ?_
      refine J_split (c := a1 = (10 : Int32)) (fun e3 => ?_) (fun e3 => ?_)
      · refine J_tableIn (v := 10) (off := 75) (tgt := 96) hK dX1_body_21 e3 (by decide) ?_
        refine J_aload_n hK dX1_body_96 3 rfl ?_
        refine rF_X1_41 (q2 := (a2 + 2)) hK dX1_body_97 ka2 rfl ?_
        refine J_iload_n hK dX1_body_100 4 rfl ?_
        refine J_iald hK dX1_body_101 (kdE_2 ka2) (fun _ => ?_)
        exact J_iret hK dX1_body_102
      refine J_split (c := a1 = (11 : Int32)) (fun e8 => ?_) (fun e8 => ?_)
      · refine J_tableIn (v := 11) (off := 82) (tgt := 103) hK dX1_body_21 e8 (by decide) ?_
        refine J_aload_n hK dX1_body_103 1 rfl ?_
        refine J_bipush hK dX1_body_104 cb_10 ?_
        refine J_aload_n hK dX1_body_106 3 rfl ?_
        refine J_iload_n hK dX1_body_107 4 rfl ?_
        refine J_iload hK dX1_body_108 0 rfl ?_
        refine J_callVi (q := 276) (As := [.int (10 : Int32), .ref (X.1 + a2), .int a3, .int z2]) (st := []) hK dX1_body_110 kB_X1_34 kV_X1_body kd_276 (by decide) rfl rfl (by omega) rfl rfl (Nat.le_of_ble_eq_true rfl) (fun _ _ hf => ih ka2 hf) (fun v5 h4 => ?_)
        refine J_aload_n hK dX1_body_113 1 rfl ?_
        refine J_iconst hK dX1_body_114 ci_1 ?_
        refine J_aload_n hK dX1_body_115 3 rfl ?_
        refine J_iload_n hK dX1_body_116 4 rfl ?_
        refine J_iload hK dX1_body_117 0 rfl ?_
        refine J_callVi (q := 276) (As := [.int (1 : Int32), .ref (X.1 + a2), .int a3, .int z2]) (st := [.int v5]) hK dX1_body_119 kB_X1_19 kV_X1_begin kd_276 (by decide) rfl rfl (by omega) rfl rfl (Nat.le_of_ble_eq_true rfl) (fun _ _ hf => uX1_begin @ih ka2 hf) (fun v7 h6 => ?_)
        refine J_iadd hK dX1_body_122 ?_
        exact J_iret hK dX1_body_123
      refine J_split (c := a1 = (12 : Int32)) (fun e11 => ?_) (fun e11 => ?_)
      · refine J_tableIn (v := 12) (off := 103) (tgt := 124) hK dX1_body_21 e11 (by decide) ?_
        refine J_aload_n hK dX1_body_124 1 rfl ?_
        refine J_bipush hK dX1_body_125 cb_11 ?_
        refine J_aload_n hK dX1_body_127 3 rfl ?_
        refine J_iload_n hK dX1_body_128 4 rfl ?_
        refine J_iload hK dX1_body_129 0 rfl ?_
        refine J_callVi (q := 276) (As := [.int (11 : Int32), .ref (X.1 + a2), .int a3, .int z2]) (st := []) hK dX1_body_131 kB_X1_34 kV_X1_body kd_276 (by decide) rfl rfl (by omega) rfl rfl (Nat.le_of_ble_eq_true rfl) (fun _ _ hf => ih ka2 hf) (fun v10 h9 => ?_)
        refine J_ineg hK dX1_body_134 ?_
        exact J_iret hK dX1_body_135
      refine J_split (c := a1 = (13 : Int32)) (fun e14 => ?_) (fun e14 => ?_)
      · refine J_tableIn (v := 13) (off := 115) (tgt := 136) hK dX1_body_21 e14 (by decide) ?_
        refine J_aload_n hK dX1_body_136 1 rfl ?_
        refine J_bipush hK dX1_body_137 cb_10 ?_
        refine J_aload_n hK dX1_body_139 3 rfl ?_
        refine J_iload_n hK dX1_body_140 4 rfl ?_
        refine J_iload hK dX1_body_141 0 rfl ?_
        refine J_callVi (q := 276) (As := [.int (10 : Int32), .ref (X.1 + a2), .int a3, .int z2]) (st := []) hK dX1_body_143 kB_X1_34 kV_X1_body kd_276 (by decide) rfl rfl (by omega) rfl rfl (Nat.le_of_ble_eq_true rfl) (fun _ _ hf => ih ka2 hf) (fun v13 h12 => ?_)
        refine J_bipush hK dX1_body_146 cb_100 ?_
        refine J_isub hK dX1_body_148 ?_
        exact J_iret hK dX1_body_149
      refine J_split (c := a1 = (14 : Int32)) (fun e17 => ?_) (fun e17 => ?_)
      · refine J_tableIn (v := 14) (off := 129) (tgt := 150) hK dX1_body_21 e17 (by decide) ?_
        refine J_iconst hK dX1_body_150 ci_2 ?_
        refine J_aload_n hK dX1_body_151 1 rfl ?_
        refine J_bipush hK dX1_body_152 cb_13 ?_
        refine J_aload_n hK dX1_body_154 3 rfl ?_
        refine J_iload_n hK dX1_body_155 4 rfl ?_
        refine J_iload hK dX1_body_156 0 rfl ?_
        refine J_callVi (q := 276) (As := [.int (13 : Int32), .ref (X.1 + a2), .int a3, .int z2]) (st := [.int (2 : Int32)]) hK dX1_body_158 kB_X1_34 kV_X1_body kd_276 (by decide) rfl rfl (by omega) rfl rfl (Nat.le_of_ble_eq_true rfl) (fun _ _ hf => ih ka2 hf) (fun v16 h15 => ?_)
        refine J_imul hK dX1_body_161 ?_
        exact J_iret hK dX1_body_162
      refine J_split (c := a1 = (15 : Int32)) (fun e18 => ?_) (fun e18 => ?_)
      · refine J_tableIn (v := 15) (off := 211) (tgt := 232) hK dX1_body_21 e18 (by decide) ?_
        refine J_iconst hK dX1_body_232 ci_0 ?_
        exact J_iret hK dX1_body_233
      refine J_split (c := a1 = (16 : Int32)) (fun e19 => ?_) (fun e19 => ?_)
      · refine J_tableIn (v := 16) (off := 211) (tgt := 232) hK dX1_body_21 e19 (by decide) ?_
        refine J_iconst hK dX1_body_232 ci_0 ?_
        exact J_iret hK dX1_body_233
      refine J_split (c := a1 = (17 : Int32)) (fun e20 => ?_) (fun e20 => ?_)
      · refine J_tableIn (v := 17) (off := 211) (tgt := 232) hK dX1_body_21 e20 (by decide) ?_
        refine J_iconst hK dX1_body_232 ci_0 ?_
        exact J_iret hK dX1_body_233
      refine J_split (c := a1 = (18 : Int32)) (fun e21 => ?_) (fun e21 => ?_)
      · refine J_tableIn (v := 18) (off := 211) (tgt := 232) hK dX1_body_21 e21 (by decide) ?_
        refine J_iconst hK dX1_body_232 ci_0 ?_
        exact J_iret hK dX1_body_233
      refine J_split (c := a1 = (19 : Int32)) (fun e22 => ?_) (fun e22 => ?_)
      · refine J_tableIn (v := 19) (off := 211) (tgt := 232) hK dX1_body_21 e22 (by decide) ?_
        refine J_iconst hK dX1_body_232 ci_0 ?_
        exact J_iret hK dX1_body_233
      refine J_split (c := a1 = (20 : Int32)) (fun e23 => ?_) (fun e23 => ?_)
      · refine J_tableIn (v := 20) (off := 142) (tgt := 163) hK dX1_body_21 e23 (by decide) ?_
        refine J_iload_n hK dX1_body_163 4 rfl ?_
        exact J_iret hK dX1_body_164
      refine J_split (c := a1 = (21 : Int32)) (fun e26 => ?_) (fun e26 => ?_)
      · refine J_tableIn (v := 21) (off := 144) (tgt := 165) hK dX1_body_21 e26 (by decide) ?_
        refine J_aload_n hK dX1_body_165 1 rfl ?_
        refine J_bipush hK dX1_body_166 cb_20 ?_
        refine J_aload_n hK dX1_body_168 3 rfl ?_
        refine J_iload_n hK dX1_body_169 4 rfl ?_
        refine J_iload hK dX1_body_170 0 rfl ?_
        refine J_callVi (q := 276) (As := [.int (20 : Int32), .ref (X.1 + a2), .int a3, .int z2]) (st := []) hK dX1_body_172 kB_X1_34 kV_X1_body kd_276 (by decide) rfl rfl (by omega) rfl rfl (Nat.le_of_ble_eq_true rfl) (fun _ _ hf => ih ka2 hf) (fun v25 h24 => ?_)
        refine J_aload_n hK dX1_body_175 3 rfl ?_
        refine rF_X1_44 (q2 := (a2 + 4)) hK dX1_body_176 ka2 rfl ?_
        refine J_iload_n hK dX1_body_179 4 rfl ?_
        refine J_iald hK dX1_body_180 (kdE_4 ka2) (fun _ => ?_)
        refine J_iadd hK dX1_body_181 ?_
        exact J_iret hK dX1_body_182
      refine J_split (c := a1 = (22 : Int32)) (fun e29 => ?_) (fun e29 => ?_)
      · refine J_tableIn (v := 22) (off := 162) (tgt := 183) hK dX1_body_21 e29 (by decide) ?_
        refine J_aload_n hK dX1_body_183 1 rfl ?_
        refine J_bipush hK dX1_body_184 cb_21 ?_
        refine J_aload_n hK dX1_body_186 3 rfl ?_
        refine J_iload_n hK dX1_body_187 4 rfl ?_
        refine J_iload hK dX1_body_188 0 rfl ?_
        refine J_callVi (q := 276) (As := [.int (21 : Int32), .ref (X.1 + a2), .int a3, .int z2]) (st := []) hK dX1_body_190 kB_X1_34 kV_X1_body kd_276 (by decide) rfl rfl (by omega) rfl rfl (Nat.le_of_ble_eq_true rfl) (fun _ _ hf => ih ka2 hf) (fun v28 h27 => ?_)
        refine J_sipush hK dX1_body_193 cs_1000 ?_
        refine J_isub hK dX1_body_196 ?_
        exact J_iret hK dX1_body_197
      refine J_split (c := a1 = (23 : Int32)) (fun e34 => ?_) (fun e34 => ?_)
      · refine J_tableIn (v := 23) (off := 177) (tgt := 198) hK dX1_body_21 e34 (by decide) ?_
        refine J_aload_n hK dX1_body_198 1 rfl ?_
        refine J_bipush hK dX1_body_199 cb_20 ?_
        refine J_aload_n hK dX1_body_201 3 rfl ?_
        refine J_iload_n hK dX1_body_202 4 rfl ?_
        refine J_iload hK dX1_body_203 0 rfl ?_
        refine J_callVi (q := 276) (As := [.int (20 : Int32), .ref (X.1 + a2), .int a3, .int z2]) (st := []) hK dX1_body_205 kB_X1_34 kV_X1_body kd_276 (by decide) rfl rfl (by omega) rfl rfl (Nat.le_of_ble_eq_true rfl) (fun _ _ hf => ih ka2 hf) (fun v31 h30 => ?_)
        refine J_aload_n hK dX1_body_208 1 rfl ?_
        refine J_iconst hK dX1_body_209 ci_0 ?_
        refine J_aload_n hK dX1_body_210 3 rfl ?_
        refine J_iload_n hK dX1_body_211 4 rfl ?_
        refine J_iload hK dX1_body_212 0 rfl ?_
        refine J_callVi (q := 276) (As := [.int (0 : Int32), .ref (X.1 + a2), .int a3, .int z2]) (st := [.int v31]) hK dX1_body_214 kB_X1_19 kV_X1_begin kd_276 (by decide) rfl rfl (by omega) rfl rfl (Nat.le_of_ble_eq_true rfl) (fun _ _ hf => uX1_begin @ih ka2 hf) (fun v33 h32 => ?_)
        refine J_isub hK dX1_body_217 ?_
        exact J_iret hK dX1_body_218
      refine J_split (c := a1 = (24 : Int32)) (fun e37 => ?_) (fun e37 => ?_)
      · refine J_tableIn (v := 24) (off := 198) (tgt := 219) hK dX1_body_21 e37 (by decide) ?_
        refine J_iconst hK dX1_body_219 ci_2 ?_
        refine J_aload_n hK dX1_body_220 1 rfl ?_
        refine J_bipush hK dX1_body_221 cb_21 ?_
        refine J_aload_n hK dX1_body_223 3 rfl ?_
        refine J_iload_n hK dX1_body_224 4 rfl ?_
        refine J_iload hK dX1_body_225 0 rfl ?_
        refine J_callVi (q := 276) (As := [.int (21 : Int32), .ref (X.1 + a2), .int a3, .int z2]) (st := [.int (2 : Int32)]) hK dX1_body_227 kB_X1_34 kV_X1_body kd_276 (by decide) rfl rfl (by omega) rfl rfl (Nat.le_of_ble_eq_true rfl) (fun _ _ hf => ih ka2 hf) (fun v36 h35 => ?_)
        refine J_imul hK dX1_body_230 ?_
        exact J_iret hK dX1_body_231
      refine J_tableOut (tgt := 232) hK dX1_body_21 (tbl_out [10, 11, 12, 13, 14, 15, 16, 17, 18, 19, 20, 21, 22, 23, 24] (by decide) (nl1 e3 (nl1 e8 (nl1 e11 (nl1 e14 (nl1 e17 (nl1 e18 (nl1 e19 (nl1 e20 (nl1 e21 (nl1 e22 (nl1 e23 (nl1 e26 (nl1 e29 (nl1 e34 (nl1 e37 nl0)))))))))))))))) (by decide) ?_
      refine J_iconst hK dX1_body_232 ci_0 ?_
      exact J_iret hK dX1_body_233
-- X1_answer
theorem dX1_answer_0 : DD cX1_answer 0 (.aload_n 0) 1 1 := by decide +kernel
theorem dX1_answer_1 : DD cX1_answer 1 (.iconst 0) 1 2 := by decide +kernel
theorem dX1_answer_2 : DD cX1_answer 2 (.putfield 15) 3 5 := by decide +kernel
theorem dX1_answer_5 : DD cX1_answer 5 (.aload_n 0) 1 6 := by decide +kernel
theorem dX1_answer_6 : DD cX1_answer 6 (.iload_n 3) 1 7 := by decide +kernel
theorem dX1_answer_7 : DD cX1_answer 7 (.aload_n 1) 1 8 := by decide +kernel
theorem dX1_answer_8 : DD cX1_answer 8 (.iload_n 2) 1 9 := by decide +kernel
theorem dX1_answer_9 : DD cX1_answer 9 (.iconst 0) 1 10 := by decide +kernel
theorem dX1_answer_10 : DD cX1_answer 10 (.invokevirtual 19) 3 13 := by decide +kernel
theorem dX1_answer_13 : DD cX1_answer 13 (.ireturn) 1 14 := by decide +kernel
def fX1_answer (a1 : Nat) (a2 : Int32) (a3 : Int32) (h : AH) : Option (Int32 × AH) := (sto (hs h 276 1 (0 : Int32)) fun h1 => (bnd (fX1_begin (fX1_body 8) a3 a1 a2 (0 : Int32) h1) fun v3 h2 => (some (v3, h2))))
set_option maxHeartbeats 4000000 in
set_option maxRecDepth 4000 in
theorem uX1_answer {l : Launch} {X : WX} {a1 : Nat} {a2 : Int32} {a3 : Int32} {h h' : AH} {v : Int32} (ka1 : kd a1 = 2) (hf : fX1_answer a1 a2 a3 h = some (v, h')) : Does l X 109 yX1_answer cX1_answer 4 (some .int) [.ref (X.1 + 276), .ref (X.1 + a1), .int a2, .int a3] h (eI v) h' := by
  refine Does.of (enc := eI) (o := fX1_answer a1 a2 a3 h) (lv := [(0, .ref (X.1 + 276)), (1, .ref (X.1 + a1)), (2, .int a2), (3, .int a3)]) (by decide) (Nat.le_of_ble_eq_true rfl) rfl hf (fun K hl hK => ?_)
  subst hl
  unfold fX1_answer
  refine J_aload_n hK dX1_answer_0 0 rfl ?_
  refine J_iconst hK dX1_answer_1 ci_0 ?_
  refine pF_X1_15 hK dX1_answer_2 kd_276 (fun h1 => ?_)
  refine J_aload_n hK dX1_answer_5 0 rfl ?_
  refine J_iload_n hK dX1_answer_6 3 rfl ?_
  refine J_aload_n hK dX1_answer_7 1 rfl ?_
  refine J_iload_n hK dX1_answer_8 2 rfl ?_
  refine J_iconst hK dX1_answer_9 ci_0 ?_
  refine J_callVi (q := 276) (As := [.int a3, .ref (X.1 + a1), .int a2, .int (0 : Int32)]) (st := []) hK dX1_answer_10 kB_X1_19 kV_X1_begin kd_276 (by decide) rfl rfl (by decide) rfl rfl (Nat.le_of_ble_eq_true rfl) (fun _ _ hf => uX1_begin (@uX1_body _ _ 8) ka1 hf) (fun v3 h2 => ?_)
  exact J_iret hK dX1_answer_13
