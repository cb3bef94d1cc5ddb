-- X5_commonDivisor
theorem dX5_commonDivisor_0 : DD cX5_commonDivisor 0 (.iload_n 0) 1 1 := by decide +kernel
theorem dX5_commonDivisor_1 : DD cX5_commonDivisor 1 (.istore_n 2) 1 2 := by decide +kernel
theorem dX5_commonDivisor_2 : DD cX5_commonDivisor 2 (.iload_n 1) 1 3 := by decide +kernel
theorem dX5_commonDivisor_3 : DD cX5_commonDivisor 3 (.istore_n 3) 1 4 := by decide +kernel
theorem dX5_commonDivisor_4 : DD cX5_commonDivisor 4 (.iconst 0) 1 5 := by decide +kernel
theorem dX5_commonDivisor_5 : DD cX5_commonDivisor 5 (.istore 4) 2 7 := by decide +kernel
theorem dX5_commonDivisor_7 : DD cX5_commonDivisor 7 (.iload 4) 2 9 := by decide +kernel
theorem dX5_commonDivisor_9 : DD cX5_commonDivisor 9 (.bipush 100) 2 11 := by decide +kernel
theorem dX5_commonDivisor_11 : DD cX5_commonDivisor 11 (.if_icmp .ge 23) 3 14 := by decide +kernel
theorem dX5_commonDivisor_14 : DD cX5_commonDivisor 14 (.iload_n 3) 1 15 := by decide +kernel
theorem dX5_commonDivisor_15 : DD cX5_commonDivisor 15 (.ifCond .eq 19) 3 18 := by decide +kernel
theorem dX5_commonDivisor_18 : DD cX5_commonDivisor 18 (.iload_n 2) 1 19 := by decide +kernel
theorem dX5_commonDivisor_19 : DD cX5_commonDivisor 19 (.iload_n 3) 1 20 := by decide +kernel
theorem dX5_commonDivisor_20 : DD cX5_commonDivisor 20 (.irem) 1 21 := by decide +kernel
theorem dX5_commonDivisor_21 : DD cX5_commonDivisor 21 (.istore 5) 2 23 := by decide +kernel
theorem dX5_commonDivisor_23 : DD cX5_commonDivisor 23 (.iload_n 3) 1 24 := by decide +kernel
theorem dX5_commonDivisor_24 : DD cX5_commonDivisor 24 (.istore_n 2) 1 25 := by decide +kernel
theorem dX5_commonDivisor_25 : DD cX5_commonDivisor 25 (.iload 5) 2 27 := by decide +kernel
theorem dX5_commonDivisor_27 : DD cX5_commonDivisor 27 (.istore_n 3) 1 28 := by decide +kernel
theorem dX5_commonDivisor_28 : DD cX5_commonDivisor 28 (.iinc 4 1) 3 31 := by decide +kernel
theorem dX5_commonDivisor_31 : DD cX5_commonDivisor 31 (.goto (-24)) 3 34 := by decide +kernel
theorem dX5_commonDivisor_34 : DD cX5_commonDivisor 34 (.iload_n 2) 1 35 := by decide +kernel
theorem dX5_commonDivisor_35 : DD cX5_commonDivisor 35 (.ireturn) 1 36 := by decide +kernel
def fX5_commonDivisor_L7 (p0 : Int32) (p1 : Int32) : Nat → Int32 → Int32 → Int32 → AH → (Int32 → Int32 → Int32 → AH → Option (Int32 × AH)) → Option (Int32 × AH)
  | 0, _, _, _, _, _ => none
  | n + 1, x4, x3, x2, h, k => (if x4 < (100 : Int32) then (if x3 = 0 then k x4 x3 x2 h else (chk (¬ x3 = 0) (vl (x2 - x2 / x3 * x3) fun z201 => (vl (x4 + (1 : Int32)) fun z202 => fX5_commonDivisor_L7 p0 p1 n z202 z201 x3 h k)))) else k x4 x3 x2 h)
def fX5_commonDivisor (a0 : Int32) (a1 : Int32) (h : AH) : Option (Int32 × AH) := (fX5_commonDivisor_L7 a0 a1 FU (0 : Int32) a1 a0 h fun z1 z2 z3 h4 => (some (z3, h4)))
set_option maxHeartbeats 4000000 in
theorem gX5_commonDivisor_L7 {K : MC} {X : WX} {p0 : Int32} {p1 : Int32} (hK : Ok K X RX5 cX5_commonDivisor 6 (some .int) 1) {k : Int32 → Int32 → Int32 → AH → Option (Int32 × AH)} (hk : ∀ (x4 : Int32) (x3 : Int32) (x2 : Int32) (h : AH), J K X 6 (Zm K X) eI 34 [(4, .int x4), (3, .int x3), (2, .int x2), (0, .int p0), (1, .int p1)] [] h (k x4 x3 x2 h)) : ∀ (n : Nat) (x4 : Int32) (x3 : Int32) (x2 : Int32) (h : AH), J K X 6 (Zm K X) eI 7 [(4, .int x4), (3, .int x3), (2, .int x2), (0, .int p0), (1, .int p1)] [] h (fX5_commonDivisor_L7 p0 p1 n x4 x3 x2 h k) := by
  intro n
  induction n with
  | zero => exact fun _ _ _ _ => J_none
  | succ n ih =>
    intro x4 x3 x2 h
    rw [fX5_commonDivisor_L7]
    refine J_iload hK dX5_commonDivisor_7 0 rfl ?_
    refine J_bipush hK dX5_commonDivisor_9 cb_100 ?_
    refine J_icmp_ge (tgt := 34) hK dX5_commonDivisor_11 (by decide) ?_ ?_
    · refine J_iload_n hK dX5_commonDivisor_14 1 rfl ?_
      refine J_if_eq (tgt := 34) hK dX5_commonDivisor_15 (by decide) ?_ ?_
      · exact J_sub [0, 1, 2, 3, 4] rfl (hk _ _ _ _)
      · refine J_iload_n hK dX5_commonDivisor_18 2 rfl ?_
        refine J_iload_n hK dX5_commonDivisor_19 1 rfl ?_
        refine J_irem hK dX5_commonDivisor_20 ?_
        refine J_istoreV (lw := [(4, .int x4), (3, .int x3), (2, .int x2), (0, .int p0), (1, .int p1)]) hK dX5_commonDivisor_21 (by decide) rfl (fun z201 => ?_)
        refine J_iload_n hK dX5_commonDivisor_23 2 rfl ?_
        refine J_istore_n (n := 2) (lw := [(5, .int z201), (4, .int x4), (3, .int x3), (0, .int p0), (1, .int p1)]) hK dX5_commonDivisor_24 rfl (by decide) rfl ?_
        refine J_iload hK dX5_commonDivisor_25 1 rfl ?_
        refine J_istore_n (n := 3) (lw := [(2, .int x3), (5, .int z201), (4, .int x4), (0, .int p0), (1, .int p1)]) hK dX5_commonDivisor_27 rfl (by decide) rfl ?_
        refine J_iinc (lw := [(3, .int z201), (2, .int x3), (5, .int z201), (0, .int p0), (1, .int p1)]) hK dX5_commonDivisor_28 3 rfl (by decide) ci_1 rfl (fun z202 => ?_)
        refine J_goto (len := 0) (tgt := 7) hK dX5_commonDivisor_31 (by decide) ?_
        exact J_sub [0, 1, 2, 4, 5] rfl (ih _ _ _ _)
    · exact J_sub [0, 1, 2, 3, 4] rfl (hk _ _ _ _)
set_option maxHeartbeats 4000000 in
set_option maxRecDepth 4000 in
theorem uX5_commonDivisor {l : Launch} {X : WX} {a0 : Int32} {a1 : Int32} {h h' : AH} {v : Int32} (hf : fX5_commonDivisor a0 a1 h = some (v, h')) : Does l X 1 yX5_commonDivisor cX5_commonDivisor 6 (some .int) [.int a0, .int a1] h (eI v) h' := by
  refine Does.of (enc := eI) (o := fX5_commonDivisor a0 a1 h) (lv := [(0, .int a0), (1, .int a1)]) (by decide) (Nat.le_of_ble_eq_true rfl) rfl hf (fun K hl hK => ?_)
  subst hl
  unfold fX5_commonDivisor
  refine J_iload_n hK dX5_commonDivisor_0 0 rfl ?_
  refine J_istore_n (n := 2) (lw := [(0, .int a0), (1, .int a1)]) hK dX5_commonDivisor_1 rfl (by decide) rfl ?_
  refine J_iload_n hK dX5_commonDivisor_2 2 rfl ?_
  refine J_istore_n (n := 3) (lw := [(2, .int a0), (0, .int a0), (1, .int a1)]) hK dX5_commonDivisor_3 rfl (by decide) rfl ?_
  refine J_iconst hK dX5_commonDivisor_4 ci_0 ?_
  refine J_istore (lw := [(3, .int a1), (2, .int a0), (0, .int a0), (1, .int a1)]) hK dX5_commonDivisor_5 (by decide) rfl ?_
  refine J_sub [0, 1, 2, 3, 4] rfl (gX5_commonDivisor_L7 hK  (fun z1 z2 z3 h4 => ?_) FU _ _ _ _)
  refine J_iload_n hK dX5_commonDivisor_34 2 rfl ?_
  exact J_iret hK dX5_commonDivisor_35
-- X5_fault
theorem dX5_fault_0 : DD cX5_fault 0 (.aload_n 0) 1 1 := by decide +kernel
theorem dX5_fault_1 : DD cX5_fault 1 (.getfield 19) 3 4 := by decide +kernel
theorem dX5_fault_4 : DD cX5_fault 4 (.getfield 121) 3 7 := by decide +kernel
theorem dX5_fault_7 : DD cX5_fault 7 (.ireturn) 1 8 := by decide +kernel
def fX5_fault (h : AH) : Option (Int32 × AH) := (some ((h 18 3), h))
set_option maxHeartbeats 4000000 in
set_option maxRecDepth 4000 in
theorem uX5_fault {l : Launch} {X : WX} {h h' : AH} {v : Int32} (hf : fX5_fault  h = some (v, h')) : Does l X 1 yX5_fault cX5_fault 1 (some .int) [.ref (X.1 + 0)] h (eI v) h' := by
  refine Does.of (enc := eI) (o := fX5_fault  h) (lv := [(0, .ref (X.1 + 0))]) (by decide) (Nat.le_of_ble_eq_true rfl) rfl hf (fun K hl hK => ?_)
  subst hl
  unfold fX5_fault
  refine J_aload_n hK dX5_fault_0 0 rfl ?_
  refine rF_X5_19 (q2 := 18) hK dX5_fault_1 kd_0 rfl ?_
  refine gF_X5_121 hK dX5_fault_4 kd_18 ?_
  exact J_iret hK dX5_fault_7
-- X5_found
theorem dX5_found_0 : DD cX5_found 0 (.aload_n 0) 1 1 := by decide +kernel
theorem dX5_found_1 : DD cX5_found 1 (.iload_n 1) 1 2 := by decide +kernel
theorem dX5_found_2 : DD cX5_found 2 (.putfield 279) 3 5 := by decide +kernel
theorem dX5_found_5 : DD cX5_found 5 (.ldc_w 282) 3 8 := by decide +kernel
theorem dX5_found_8 : DD cX5_found 8 (.iload_n 1) 1 9 := by decide +kernel
theorem dX5_found_9 : DD cX5_found 9 (.isub) 1 10 := by decide +kernel
theorem dX5_found_10 : DD cX5_found 10 (.ireturn) 1 11 := by decide +kernel
def fX5_found (a1 : Int32) (h : AH) : Option (Int32 × AH) := (sto (hs h 0 7 a1) fun h1 => (some (((-1000010 : Int32) - a1), h1)))
set_option maxHeartbeats 4000000 in
set_option maxRecDepth 4000 in
theorem uX5_found {l : Launch} {X : WX} {a1 : Int32} {h h' : AH} {v : Int32} (hf : fX5_found a1 h = some (v, h')) : Does l X 1 yX5_found cX5_found 2 (some .int) [.ref (X.1 + 0), .int a1] h (eI v) h' := by
  refine Does.of (enc := eI) (o := fX5_found a1 h) (lv := [(0, .ref (X.1 + 0)), (1, .int a1)]) (by decide) (Nat.le_of_ble_eq_true rfl) rfl hf (fun K hl hK => ?_)
  subst hl
  unfold fX5_found
  refine J_aload_n hK dX5_found_0 0 rfl ?_
  refine J_iload_n hK dX5_found_1 1 rfl ?_
  refine pF_X5_279 hK dX5_found_2 kd_0 (fun h1 => ?_)
  refine J_ldcw hK dX5_found_5 kK_X5_282 ?_
  refine J_iload_n hK dX5_found_8 1 rfl ?_
  refine J_isub hK dX5_found_9 ?_
  exact J_iret hK dX5_found_10
-- X5_isA
theorem dX5_isA_0 : DD cX5_isA 0 (.iload_n 0) 1 1 := by decide +kernel
theorem dX5_isA_1 : DD cX5_isA 1 (.istore_n 2) 1 2 := by decide +kernel
theorem dX5_isA_2 : DD cX5_isA 2 (.iconst 0) 1 3 := by decide +kernel
theorem dX5_isA_3 : DD cX5_isA 3 (.istore_n 3) 1 4 := by decide +kernel
theorem dX5_isA_4 : DD cX5_isA 4 (.iload_n 3) 1 5 := by decide +kernel
theorem dX5_isA_5 : DD cX5_isA 5 (.iconst 5) 1 6 := by decide +kernel
theorem dX5_isA_6 : DD cX5_isA 6 (.if_icmp .gt 31) 3 9 := by decide +kernel
theorem dX5_isA_9 : DD cX5_isA 9 (.iload_n 2) 1 10 := by decide +kernel
theorem dX5_isA_10 : DD cX5_isA 10 (.ifCond .lt 27) 3 13 := by decide +kernel
theorem dX5_isA_13 : DD cX5_isA 13 (.iload_n 2) 1 14 := by decide +kernel
theorem dX5_isA_14 : DD cX5_isA 14 (.iconst 5) 1 15 := by decide +kernel
theorem dX5_isA_15 : DD cX5_isA 15 (.if_icmp .gt 22) 3 18 := by decide +kernel
theorem dX5_isA_18 : DD cX5_isA 18 (.iload_n 2) 1 19 := by decide +kernel
theorem dX5_isA_19 : DD cX5_isA 19 (.iload_n 1) 1 20 := by decide +kernel
theorem dX5_isA_20 : DD cX5_isA 20 (.if_icmp .ne 5) 3 23 := by decide +kernel
theorem dX5_isA_23 : DD cX5_isA 23 (.iconst 1) 1 24 := by decide +kernel
theorem dX5_isA_24 : DD cX5_isA 24 (.ireturn) 1 25 := by decide +kernel
theorem dX5_isA_25 : DD cX5_isA 25 (.getstatic 291) 3 28 := by decide +kernel
theorem dX5_isA_28 : DD cX5_isA 28 (.iload_n 2) 1 29 := by decide +kernel
theorem dX5_isA_29 : DD cX5_isA 29 (.iaload) 1 30 := by decide +kernel
theorem dX5_isA_30 : DD cX5_isA 30 (.istore_n 2) 1 31 := by decide +kernel
theorem dX5_isA_31 : DD cX5_isA 31 (.iinc 3 1) 3 34 := by decide +kernel
theorem dX5_isA_34 : DD cX5_isA 34 (.goto (-30)) 3 37 := by decide +kernel
theorem dX5_isA_37 : DD cX5_isA 37 (.iconst 0) 1 38 := by decide +kernel
theorem dX5_isA_38 : DD cX5_isA 38 (.ireturn) 1 39 := by decide +kernel
def fX5_isA_L4 (p0 : Int32) (p1 : Int32) : Nat → Int32 → Int32 → AH → (Int32 → Int32 → AH → Option (Int32 × AH)) → Option (Int32 × AH)
  | 0, _, _, _, _ => none
  | n + 1, x3, x2, h, k => (if (5 : Int32) < x3 then k x3 x2 h else (if x2 < 0 then k x3 x2 h else (if (5 : Int32) < x2 then k x3 x2 h else (if x2 = p1 then (some ((1 : Int32), h)) else (chk (inb x2 (stL 1).length) (vl (stV 1 (Int32.toNatClampNeg x2)) fun z201 => (vl (x3 + (1 : Int32)) fun z202 => fX5_isA_L4 p0 p1 n z202 z201 h k)))))))
def fX5_isA (a0 : Int32) (a1 : Int32) (h : AH) : Option (Int32 × AH) := (fX5_isA_L4 a0 a1 FU (0 : Int32) a0 h fun z1 z2 h3 => (some ((0 : Int32), h3)))
set_option maxHeartbeats 4000000 in
theorem gX5_isA_L4 {K : MC} {X : WX} {p0 : Int32} {p1 : Int32} (hK : Ok K X RX5 cX5_isA 4 (some .boolean) 1) {k : Int32 → Int32 → AH → Option (Int32 × AH)} (hk : ∀ (x3 : Int32) (x2 : Int32) (h : AH), J K X 4 (Zm K X) eI 37 [(3, .int x3), (2, .int x2), (0, .int p0), (1, .int p1)] [] h (k x3 x2 h)) : ∀ (n : Nat) (x3 : Int32) (x2 : Int32) (h : AH), J K X 4 (Zm K X) eI 4 [(3, .int x3), (2, .int x2), (0, .int p0), (1, .int p1)] [] h (fX5_isA_L4 p0 p1 n x3 x2 h k) := by
  intro n
  induction n with
  | zero => exact fun _ _ _ => J_none
  | succ n ih =>
    intro x3 x2 h
    rw [fX5_isA_L4]
    refine J_iload_n hK dX5_isA_4 0 rfl ?_
    refine J_iconst hK dX5_isA_5 ci_5 ?_
    refine J_icmp_gt (tgt := 37) hK dX5_isA_6 (by decide) ?_ ?_
    · exact J_sub [0, 1, 2, 3] rfl (hk _ _ _)
    · refine J_iload_n hK dX5_isA_9 1 rfl ?_
      refine J_if_lt (tgt := 37) hK dX5_isA_10 (by decide) ?_ ?_
      · exact J_sub [0, 1, 2, 3] rfl (hk _ _ _)
      · refine J_iload_n hK dX5_isA_13 1 rfl ?_
        refine J_iconst hK dX5_isA_14 ci_5 ?_
        refine J_icmp_gt (tgt := 37) hK dX5_isA_15 (by decide) ?_ ?_
        · exact J_sub [0, 1, 2, 3] rfl (hk _ _ _)
        · refine J_iload_n hK dX5_isA_18 1 rfl ?_
          refine J_iload_n hK dX5_isA_19 3 rfl ?_
          refine J_icmp_ne (tgt := 25) hK dX5_isA_20 (by decide) ?_ ?_
          · refine J_iconst hK dX5_isA_23 ci_1 ?_
            exact J_zret1 hK dX5_isA_24
          · refine J_gets 1 (by decide) hK dX5_isA_25 kF_X5_291 ?_
            refine J_iload_n hK dX5_isA_28 1 rfl ?_
            refine J_sald 1 (by decide) hK dX5_isA_29 (fun _ => ?_)
            refine J_istoreV_n (n := 2) (lw := [(3, .int x3), (0, .int p0), (1, .int p1)]) hK dX5_isA_30 rfl (by decide) rfl (fun z201 => ?_)
            refine J_iinc (lw := [(2, .int z201), (0, .int p0), (1, .int p1)]) hK dX5_isA_31 1 rfl (by decide) ci_1 rfl (fun z202 => ?_)
            refine J_goto (len := 0) (tgt := 4) hK dX5_isA_34 (by decide) ?_
            exact J_sub [0, 1, 2, 3] rfl (ih _ _ _)
set_option maxHeartbeats 4000000 in
set_option maxRecDepth 4000 in
theorem uX5_isA {l : Launch} {X : WX} {a0 : Int32} {a1 : Int32} {h h' : AH} {v : Int32} (hf : fX5_isA a0 a1 h = some (v, h')) : Does l X 1 yX5_isA cX5_isA 4 (some .boolean) [.int a0, .int a1] h (eI v) h' := by
  refine Does.of (enc := eI) (o := fX5_isA a0 a1 h) (lv := [(0, .int a0), (1, .int a1)]) (by decide) (Nat.le_of_ble_eq_true rfl) rfl hf (fun K hl hK => ?_)
  subst hl
  unfold fX5_isA
  refine J_iload_n hK dX5_isA_0 0 rfl ?_
  refine J_istore_n (n := 2) (lw := [(0, .int a0), (1, .int a1)]) hK dX5_isA_1 rfl (by decide) rfl ?_
  refine J_iconst hK dX5_isA_2 ci_0 ?_
  refine J_istore_n (n := 3) (lw := [(2, .int a0), (0, .int a0), (1, .int a1)]) hK dX5_isA_3 rfl (by decide) rfl ?_
  refine J_sub [0, 1, 2, 3] rfl (gX5_isA_L4 hK  (fun z1 z2 h3 => ?_) FU _ _ _)
  refine J_iconst hK dX5_isA_37 ci_0 ?_
  exact J_zret0 hK dX5_isA_38
-- X5_noEstuary
theorem dX5_noEstuary_0 : DD cX5_noEstuary 0 (.aload_n 0) 1 1 := by decide +kernel
theorem dX5_noEstuary_1 : DD cX5_noEstuary 1 (.getfield 26) 3 4 := by decide +kernel
theorem dX5_noEstuary_4 : DD cX5_noEstuary 4 (.getfield 118) 3 7 := by decide +kernel
theorem dX5_noEstuary_7 : DD cX5_noEstuary 7 (.ifCond .ne 7) 3 10 := by decide +kernel
theorem dX5_noEstuary_10 : DD cX5_noEstuary 10 (.iconst 1) 1 11 := by decide +kernel
theorem dX5_noEstuary_11 : DD cX5_noEstuary 11 (.goto 4) 3 14 := by decide +kernel
theorem dX5_noEstuary_14 : DD cX5_noEstuary 14 (.iconst 0) 1 15 := by decide +kernel
theorem dX5_noEstuary_15 : DD cX5_noEstuary 15 (.ireturn) 1 16 := by decide +kernel
def fX5_noEstuary (h : AH) : Option (Int32 × AH) := (if (h 20 0) = 0 then (some ((1 : Int32), h)) else (some ((0 : Int32), h)))
set_option maxHeartbeats 4000000 in
set_option maxRecDepth 4000 in
theorem uX5_noEstuary {l : Launch} {X : WX} {h h' : AH} {v : Int32} (hf : fX5_noEstuary  h = some (v, h')) : Does l X 1 yX5_noEstuary cX5_noEstuary 1 (some .boolean) [.ref (X.1 + 0)] h (eI v) h' := by
  refine Does.of (enc := eI) (o := fX5_noEstuary  h) (lv := [(0, .ref (X.1 + 0))]) (by decide) (Nat.le_of_ble_eq_true rfl) rfl hf (fun K hl hK => ?_)
  subst hl
  unfold fX5_noEstuary
  refine J_aload_n hK dX5_noEstuary_0 0 rfl ?_
  refine rF_X5_26 (q2 := 20) hK dX5_noEstuary_1 kd_0 rfl ?_
  refine gF_X5_118 hK dX5_noEstuary_4 kd_20 ?_
  refine J_if_ne (tgt := 14) hK dX5_noEstuary_7 (by decide) ?_ ?_
  · refine J_iconst hK dX5_noEstuary_10 ci_1 ?_
    refine J_goto (len := 0) (tgt := 15) hK dX5_noEstuary_11 (by decide) ?_
    exact J_zret1 hK dX5_noEstuary_15
  · refine J_iconst hK dX5_noEstuary_14 ci_0 ?_
    exact J_zret0 hK dX5_noEstuary_15
-- X5_noHalf
theorem dX5_noHalf_0 : DD cX5_noHalf 0 (.iload_n 0) 1 1 := by decide +kernel
theorem dX5_noHalf_1 : DD cX5_noHalf 1 (.ifCond .lt 8) 3 4 := by decide +kernel
theorem dX5_noHalf_4 : DD cX5_noHalf 4 (.iload_n 0) 1 5 := by decide +kernel
theorem dX5_noHalf_5 : DD cX5_noHalf 5 (.iconst 1) 1 6 := by decide +kernel
theorem dX5_noHalf_6 : DD cX5_noHalf 6 (.if_icmp .le 7) 3 9 := by decide +kernel
theorem dX5_noHalf_9 : DD cX5_noHalf 9 (.iconst 1) 1 10 := by decide +kernel
theorem dX5_noHalf_10 : DD cX5_noHalf 10 (.goto 4) 3 13 := by decide +kernel
theorem dX5_noHalf_13 : DD cX5_noHalf 13 (.iconst 0) 1 14 := by decide +kernel
theorem dX5_noHalf_14 : DD cX5_noHalf 14 (.ireturn) 1 15 := by decide +kernel
def fX5_noHalf (a0 : Int32) (h : AH) : Option (Int32 × AH) := (if a0 < 0 then (some ((1 : Int32), h)) else (if (1 : Int32) < a0 then (some ((1 : Int32), h)) else (some ((0 : Int32), h))))
set_option maxHeartbeats 4000000 in
set_option maxRecDepth 4000 in
theorem uX5_noHalf {l : Launch} {X : WX} {a0 : Int32} {h h' : AH} {v : Int32} (hf : fX5_noHalf a0 h = some (v, h')) : Does l X 1 yX5_noHalf cX5_noHalf 1 (some .boolean) [.int a0] h (eI v) h' := by
  refine Does.of (enc := eI) (o := fX5_noHalf a0 h) (lv := [(0, .int a0)]) (by decide) (Nat.le_of_ble_eq_true rfl) rfl hf (fun K hl hK => ?_)
  subst hl
  unfold fX5_noHalf
  refine J_iload_n hK dX5_noHalf_0 0 rfl ?_
  refine J_if_lt (tgt := 9) hK dX5_noHalf_1 (by decide) ?_ ?_
  · refine J_iconst hK dX5_noHalf_9 ci_1 ?_
    refine J_goto (len := 0) (tgt := 14) hK dX5_noHalf_10 (by decide) ?_
    exact J_zret1 hK dX5_noHalf_14
  · refine J_iload_n hK dX5_noHalf_4 0 rfl ?_
    refine J_iconst hK dX5_noHalf_5 ci_1 ?_
    refine J_icmp_le (tgt := 13) hK dX5_noHalf_6 (by decide) ?_ ?_
    · refine J_iconst hK dX5_noHalf_9 ci_1 ?_
      refine J_goto (len := 0) (tgt := 14) hK dX5_noHalf_10 (by decide) ?_
      exact J_zret1 hK dX5_noHalf_14
    · refine J_iconst hK dX5_noHalf_13 ci_0 ?_
      exact J_zret0 hK dX5_noHalf_14
-- X5_noImage
theorem dX5_noImage_0 : DD cX5_noImage 0 (.iload_n 0) 1 1 := by decide +kernel
theorem dX5_noImage_1 : DD cX5_noImage 1 (.ifCond .lt 8) 3 4 := by decide +kernel
theorem dX5_noImage_4 : DD cX5_noImage 4 (.iload_n 0) 1 5 := by decide +kernel
theorem dX5_noImage_5 : DD cX5_noImage 5 (.iconst 2) 1 6 := by decide +kernel
theorem dX5_noImage_6 : DD cX5_noImage 6 (.if_icmp .lt 7) 3 9 := by decide +kernel
theorem dX5_noImage_9 : DD cX5_noImage 9 (.iconst 1) 1 10 := by decide +kernel
theorem dX5_noImage_10 : DD cX5_noImage 10 (.goto 4) 3 13 := by decide +kernel
theorem dX5_noImage_13 : DD cX5_noImage 13 (.iconst 0) 1 14 := by decide +kernel
theorem dX5_noImage_14 : DD cX5_noImage 14 (.ireturn) 1 15 := by decide +kernel
def fX5_noImage (a0 : Int32) (h : AH) : Option (Int32 × AH) := (if a0 < 0 then (some ((1 : Int32), h)) else (if a0 < (2 : Int32) then (some ((0 : Int32), h)) else (some ((1 : Int32), h))))
set_option maxHeartbeats 4000000 in
set_option maxRecDepth 4000 in
theorem uX5_noImage {l : Launch} {X : WX} {a0 : Int32} {h h' : AH} {v : Int32} (hf : fX5_noImage a0 h = some (v, h')) : Does l X 1 yX5_noImage cX5_noImage 1 (some .boolean) [.int a0] h (eI v) h' := by
  refine Does.of (enc := eI) (o := fX5_noImage a0 h) (lv := [(0, .int a0)]) (by decide) (Nat.le_of_ble_eq_true rfl) rfl hf (fun K hl hK => ?_)
  subst hl
  unfold fX5_noImage
  refine J_iload_n hK dX5_noImage_0 0 rfl ?_
  refine J_if_lt (tgt := 9) hK dX5_noImage_1 (by decide) ?_ ?_
  · refine J_iconst hK dX5_noImage_9 ci_1 ?_
    refine J_goto (len := 0) (tgt := 14) hK dX5_noImage_10 (by decide) ?_
    exact J_zret1 hK dX5_noImage_14
  · refine J_iload_n hK dX5_noImage_4 0 rfl ?_
    refine J_iconst hK dX5_noImage_5 ci_2 ?_
    refine J_icmp_lt (tgt := 13) hK dX5_noImage_6 (by decide) ?_ ?_
    · refine J_iconst hK dX5_noImage_13 ci_0 ?_
      exact J_zret0 hK dX5_noImage_14
    · refine J_iconst hK dX5_noImage_9 ci_1 ?_
      refine J_goto (len := 0) (tgt := 14) hK dX5_noImage_10 (by decide) ?_
      exact J_zret1 hK dX5_noImage_14
-- X5_noPier
theorem dX5_noPier_0 : DD cX5_noPier 0 (.iload_n 1) 1 1 := by decide +kernel
theorem dX5_noPier_1 : DD cX5_noPier 1 (.ifCond .lt 14) 3 4 := by decide +kernel
theorem dX5_noPier_4 : DD cX5_noPier 4 (.iload_n 1) 1 5 := by decide +kernel
theorem dX5_noPier_5 : DD cX5_noPier 5 (.aload_n 0) 1 6 := by decide +kernel
theorem dX5_noPier_6 : DD cX5_noPier 6 (.getfield 26) 3 9 := by decide +kernel
theorem dX5_noPier_9 : DD cX5_noPier 9 (.getfield 273) 3 12 := by decide +kernel
theorem dX5_noPier_12 : DD cX5_noPier 12 (.if_icmp .lt 7) 3 15 := by decide +kernel
theorem dX5_noPier_15 : DD cX5_noPier 15 (.iconst 1) 1 16 := by decide +kernel
theorem dX5_noPier_16 : DD cX5_noPier 16 (.goto 4) 3 19 := by decide +kernel
theorem dX5_noPier_19 : DD cX5_noPier 19 (.iconst 0) 1 20 := by decide +kernel
theorem dX5_noPier_20 : DD cX5_noPier 20 (.ireturn) 1 21 := by decide +kernel
def fX5_noPier (a1 : Int32) (h : AH) : Option (Int32 × AH) := (if a1 < 0 then (some ((1 : Int32), h)) else (if a1 < (h 20 1) then (some ((0 : Int32), h)) else (some ((1 : Int32), h))))
set_option maxHeartbeats 4000000 in
set_option maxRecDepth 4000 in
theorem uX5_noPier {l : Launch} {X : WX} {a1 : Int32} {h h' : AH} {v : Int32} (hf : fX5_noPier a1 h = some (v, h')) : Does l X 1 yX5_noPier cX5_noPier 2 (some .boolean) [.ref (X.1 + 0), .int a1] h (eI v) h' := by
  refine Does.of (enc := eI) (o := fX5_noPier a1 h) (lv := [(0, .ref (X.1 + 0)), (1, .int a1)]) (by decide) (Nat.le_of_ble_eq_true rfl) rfl hf (fun K hl hK => ?_)
  subst hl
  unfold fX5_noPier
  refine J_iload_n hK dX5_noPier_0 1 rfl ?_
  refine J_if_lt (tgt := 15) hK dX5_noPier_1 (by decide) ?_ ?_
  · refine J_iconst hK dX5_noPier_15 ci_1 ?_
    refine J_goto (len := 0) (tgt := 20) hK dX5_noPier_16 (by decide) ?_
    exact J_zret1 hK dX5_noPier_20
  · refine J_iload_n hK dX5_noPier_4 1 rfl ?_
    refine J_aload_n hK dX5_noPier_5 0 rfl ?_
    refine rF_X5_26 (q2 := 20) hK dX5_noPier_6 kd_0 rfl ?_
    refine gF_X5_273 hK dX5_noPier_9 kd_20 ?_
    refine J_icmp_lt (tgt := 19) hK dX5_noPier_12 (by decide) ?_ ?_
    · refine J_iconst hK dX5_noPier_19 ci_0 ?_
      exact J_zret0 hK dX5_noPier_20
    · refine J_iconst hK dX5_noPier_15 ci_1 ?_
      refine J_goto (len := 0) (tgt := 20) hK dX5_noPier_16 (by decide) ?_
      exact J_zret1 hK dX5_noPier_20
-- X5_noRow
theorem dX5_noRow_0 : DD cX5_noRow 0 (.iload_n 0) 1 1 := by decide +kernel
theorem dX5_noRow_1 : DD cX5_noRow 1 (.ifCond .lt 9) 3 4 := by decide +kernel
theorem dX5_noRow_4 : DD cX5_noRow 4 (.iload_n 0) 1 5 := by decide +kernel
theorem dX5_noRow_5 : DD cX5_noRow 5 (.bipush 8) 2 7 := by decide +kernel
theorem dX5_noRow_7 : DD cX5_noRow 7 (.if_icmp .lt 7) 3 10 := by decide +kernel
theorem dX5_noRow_10 : DD cX5_noRow 10 (.iconst 1) 1 11 := by decide +kernel
theorem dX5_noRow_11 : DD cX5_noRow 11 (.goto 4) 3 14 := by decide +kernel
theorem dX5_noRow_14 : DD cX5_noRow 14 (.iconst 0) 1 15 := by decide +kernel
theorem dX5_noRow_15 : DD cX5_noRow 15 (.ireturn) 1 16 := by decide +kernel
def fX5_noRow (a0 : Int32) (h : AH) : Option (Int32 × AH) := (if a0 < 0 then (some ((1 : Int32), h)) else (if a0 < (8 : Int32) then (some ((0 : Int32), h)) else (some ((1 : Int32), h))))
set_option maxHeartbeats 4000000 in
set_option maxRecDepth 4000 in
theorem uX5_noRow {l : Launch} {X : WX} {a0 : Int32} {h h' : AH} {v : Int32} (hf : fX5_noRow a0 h = some (v, h')) : Does l X 1 yX5_noRow cX5_noRow 1 (some .boolean) [.int a0] h (eI v) h' := by
  refine Does.of (enc := eI) (o := fX5_noRow a0 h) (lv := [(0, .int a0)]) (by decide) (Nat.le_of_ble_eq_true rfl) rfl hf (fun K hl hK => ?_)
  subst hl
  unfold fX5_noRow
  refine J_iload_n hK dX5_noRow_0 0 rfl ?_
  refine J_if_lt (tgt := 10) hK dX5_noRow_1 (by decide) ?_ ?_
  · refine J_iconst hK dX5_noRow_10 ci_1 ?_
    refine J_goto (len := 0) (tgt := 15) hK dX5_noRow_11 (by decide) ?_
    exact J_zret1 hK dX5_noRow_15
  · refine J_iload_n hK dX5_noRow_4 0 rfl ?_
    refine J_bipush hK dX5_noRow_5 cb_8 ?_
    refine J_icmp_lt (tgt := 14) hK dX5_noRow_7 (by decide) ?_ ?_
    · refine J_iconst hK dX5_noRow_14 ci_0 ?_
      exact J_zret0 hK dX5_noRow_15
    · refine J_iconst hK dX5_noRow_10 ci_1 ?_
      refine J_goto (len := 0) (tgt := 15) hK dX5_noRow_11 (by decide) ?_
      exact J_zret1 hK dX5_noRow_15
-- X5_noTug
theorem dX5_noTug_0 : DD cX5_noTug 0 (.iload_n 1) 1 1 := by decide +kernel
theorem dX5_noTug_1 : DD cX5_noTug 1 (.ifCond .lt 14) 3 4 := by decide +kernel
theorem dX5_noTug_4 : DD cX5_noTug 4 (.iload_n 1) 1 5 := by decide +kernel
theorem dX5_noTug_5 : DD cX5_noTug 5 (.aload_n 0) 1 6 := by decide +kernel
theorem dX5_noTug_6 : DD cX5_noTug 6 (.getfield 26) 3 9 := by decide +kernel
theorem dX5_noTug_9 : DD cX5_noTug 9 (.getfield 118) 3 12 := by decide +kernel
theorem dX5_noTug_12 : DD cX5_noTug 12 (.if_icmp .lt 7) 3 15 := by decide +kernel
theorem dX5_noTug_15 : DD cX5_noTug 15 (.iconst 1) 1 16 := by decide +kernel
theorem dX5_noTug_16 : DD cX5_noTug 16 (.goto 4) 3 19 := by decide +kernel
theorem dX5_noTug_19 : DD cX5_noTug 19 (.iconst 0) 1 20 := by decide +kernel
theorem dX5_noTug_20 : DD cX5_noTug 20 (.ireturn) 1 21 := by decide +kernel
def fX5_noTug (a1 : Int32) (h : AH) : Option (Int32 × AH) := (if a1 < 0 then (some ((1 : Int32), h)) else (if a1 < (h 20 0) then (some ((0 : Int32), h)) else (some ((1 : Int32), h))))
set_option maxHeartbeats 4000000 in
set_option maxRecDepth 4000 in
theorem uX5_noTug {l : Launch} {X : WX} {a1 : Int32} {h h' : AH} {v : Int32} (hf : fX5_noTug a1 h = some (v, h')) : Does l X 1 yX5_noTug cX5_noTug 2 (some .boolean) [.ref (X.1 + 0), .int a1] h (eI v) h' := by
  refine Does.of (enc := eI) (o := fX5_noTug a1 h) (lv := [(0, .ref (X.1 + 0)), (1, .int a1)]) (by decide) (Nat.le_of_ble_eq_true rfl) rfl hf (fun K hl hK => ?_)
  subst hl
  unfold fX5_noTug
  refine J_iload_n hK dX5_noTug_0 1 rfl ?_
  refine J_if_lt (tgt := 15) hK dX5_noTug_1 (by decide) ?_ ?_
  · refine J_iconst hK dX5_noTug_15 ci_1 ?_
    refine J_goto (len := 0) (tgt := 20) hK dX5_noTug_16 (by decide) ?_
    exact J_zret1 hK dX5_noTug_20
  · refine J_iload_n hK dX5_noTug_4 1 rfl ?_
    refine J_aload_n hK dX5_noTug_5 0 rfl ?_
    refine rF_X5_26 (q2 := 20) hK dX5_noTug_6 kd_0 rfl ?_
    refine gF_X5_118 hK dX5_noTug_9 kd_20 ?_
    refine J_icmp_lt (tgt := 19) hK dX5_noTug_12 (by decide) ?_ ?_
    · refine J_iconst hK dX5_noTug_19 ci_0 ?_
      exact J_zret0 hK dX5_noTug_20
    · refine J_iconst hK dX5_noTug_15 ci_1 ?_
      refine J_goto (len := 0) (tgt := 20) hK dX5_noTug_16 (by decide) ?_
      exact J_zret1 hK dX5_noTug_20
-- X5_status
theorem dX5_status_0 : DD cX5_status 0 (.aload_n 0) 1 1 := by decide +kernel
theorem dX5_status_1 : DD cX5_status 1 (.getfield 279) 3 4 := by decide +kernel
theorem dX5_status_4 : DD cX5_status 4 (.ireturn) 1 5 := by decide +kernel
def fX5_status (h : AH) : Option (Int32 × AH) := (some ((h 0 7), h))
set_option maxHeartbeats 4000000 in
set_option maxRecDepth 4000 in
theorem uX5_status {l : Launch} {X : WX} {h h' : AH} {v : Int32} (hf : fX5_status  h = some (v, h')) : Does l X 1 yX5_status cX5_status 1 (some .int) [.ref (X.1 + 0)] h (eI v) h' := by
  refine Does.of (enc := eI) (o := fX5_status  h) (lv := [(0, .ref (X.1 + 0))]) (by decide) (Nat.le_of_ble_eq_true rfl) rfl hf (fun K hl hK => ?_)
  subst hl
  unfold fX5_status
  refine J_aload_n hK dX5_status_0 0 rfl ?_
  refine gF_X5_279 hK dX5_status_1 kd_0 ?_
  exact J_iret hK dX5_status_4
-- X5_tenToThe
theorem dX5_tenToThe_0 : DD cX5_tenToThe 0 (.iconst 1) 1 1 := by decide +kernel
theorem dX5_tenToThe_1 : DD cX5_tenToThe 1 (.istore_n 1) 1 2 := by decide +kernel
theorem dX5_tenToThe_2 : DD cX5_tenToThe 2 (.iconst 0) 1 3 := by decide +kernel
theorem dX5_tenToThe_3 : DD cX5_tenToThe 3 (.istore_n 2) 1 4 := by decide +kernel
theorem dX5_tenToThe_4 : DD cX5_tenToThe 4 (.iload_n 2) 1 5 := by decide +kernel
theorem dX5_tenToThe_5 : DD cX5_tenToThe 5 (.iload_n 0) 1 6 := by decide +kernel
theorem dX5_tenToThe_6 : DD cX5_tenToThe 6 (.if_icmp .ge 14) 3 9 := by decide +kernel
theorem dX5_tenToThe_9 : DD cX5_tenToThe 9 (.iload_n 1) 1 10 := by decide +kernel
theorem dX5_tenToThe_10 : DD cX5_tenToThe 10 (.bipush 10) 2 12 := by decide +kernel
theorem dX5_tenToThe_12 : DD cX5_tenToThe 12 (.imul) 1 13 := by decide +kernel
theorem dX5_tenToThe_13 : DD cX5_tenToThe 13 (.istore_n 1) 1 14 := by decide +kernel
theorem dX5_tenToThe_14 : DD cX5_tenToThe 14 (.iinc 2 1) 3 17 := by decide +kernel
theorem dX5_tenToThe_17 : DD cX5_tenToThe 17 (.goto (-13)) 3 20 := by decide +kernel
theorem dX5_tenToThe_20 : DD cX5_tenToThe 20 (.iload_n 1) 1 21 := by decide +kernel
theorem dX5_tenToThe_21 : DD cX5_tenToThe 21 (.ireturn) 1 22 := by decide +kernel
def fX5_tenToThe_L4 (p0 : Int32) : Nat → Int32 → Int32 → AH → (Int32 → Int32 → AH → Option (Int32 × AH)) → Option (Int32 × AH)
  | 0, _, _, _, _ => none
  | n + 1, x2, x1, h, k => (if x2 < p0 then (vl (x1 * (10 : Int32)) fun z201 => (vl (x2 + (1 : Int32)) fun z202 => fX5_tenToThe_L4 p0 n z202 z201 h k)) else k x2 x1 h)
def fX5_tenToThe (a0 : Int32) (h : AH) : Option (Int32 × AH) := (fX5_tenToThe_L4 a0 FU (0 : Int32) (1 : Int32) h fun z1 z2 h3 => (some (z2, h3)))
set_option maxHeartbeats 4000000 in
theorem gX5_tenToThe_L4 {K : MC} {X : WX} {p0 : Int32} (hK : Ok K X RX5 cX5_tenToThe 3 (some .int) 1) {k : Int32 → Int32 → AH → Option (Int32 × AH)} (hk : ∀ (x2 : Int32) (x1 : Int32) (h : AH), J K X 3 (Zm K X) eI 20 [(2, .int x2), (1, .int x1), (0, .int p0)] [] h (k x2 x1 h)) : ∀ (n : Nat) (x2 : Int32) (x1 : Int32) (h : AH), J K X 3 (Zm K X) eI 4 [(2, .int x2), (1, .int x1), (0, .int p0)] [] h (fX5_tenToThe_L4 p0 n x2 x1 h k) := by
  intro n
  induction n with
  | zero => exact fun _ _ _ => J_none
  | succ n ih =>
    intro x2 x1 h
    rw [fX5_tenToThe_L4]
    refine J_iload_n hK dX5_tenToThe_4 0 rfl ?_
    refine J_iload_n hK dX5_tenToThe_5 2 rfl ?_
    refine J_icmp_ge (tgt := 20) hK dX5_tenToThe_6 (by decide) ?_ ?_
    · refine J_iload_n hK dX5_tenToThe_9 1 rfl ?_
      refine J_bipush hK dX5_tenToThe_10 cb_10 ?_
      refine J_imul hK dX5_tenToThe_12 ?_
      refine J_istoreV_n (n := 1) (lw := [(2, .int x2), (0, .int p0)]) hK dX5_tenToThe_13 rfl (by decide) rfl (fun z201 => ?_)
      refine J_iinc (lw := [(1, .int z201), (0, .int p0)]) hK dX5_tenToThe_14 1 rfl (by decide) ci_1 rfl (fun z202 => ?_)
      refine J_goto (len := 0) (tgt := 4) hK dX5_tenToThe_17 (by decide) ?_
      exact J_sub [0, 1, 2] rfl (ih _ _ _)
    · exact J_sub [0, 1, 2] rfl (hk _ _ _)
set_option maxHeartbeats 4000000 in
set_option maxRecDepth 4000 in
theorem uX5_tenToThe {l : Launch} {X : WX} {a0 : Int32} {h h' : AH} {v : Int32} (hf : fX5_tenToThe a0 h = some (v, h')) : Does l X 1 yX5_tenToThe cX5_tenToThe 3 (some .int) [.int a0] h (eI v) h' := by
  refine Does.of (enc := eI) (o := fX5_tenToThe a0 h) (lv := [(0, .int a0)]) (by decide) (Nat.le_of_ble_eq_true rfl) rfl hf (fun K hl hK => ?_)
  subst hl
  unfold fX5_tenToThe
  refine J_iconst hK dX5_tenToThe_0 ci_1 ?_
  refine J_istore_n (n := 1) (lw := [(0, .int a0)]) hK dX5_tenToThe_1 rfl (by decide) rfl ?_
  refine J_iconst hK dX5_tenToThe_2 ci_0 ?_
  refine J_istore_n (n := 2) (lw := [(1, .int (1 : Int32)), (0, .int a0)]) hK dX5_tenToThe_3 rfl (by decide) rfl ?_
  refine J_sub [0, 1, 2] rfl (gX5_tenToThe_L4 hK  (fun z1 z2 h3 => ?_) FU _ _ _)
  refine J_iload_n hK dX5_tenToThe_20 1 rfl ?_
  exact J_iret hK dX5_tenToThe_21
-- X5_trace
theorem dX5_trace_0 : DD cX5_trace 0 (.iload_n 1) 1 1 := by decide +kernel
theorem dX5_trace_1 : DD cX5_trace 1 (.ifCond .lt 14) 3 4 := by decide +kernel
theorem dX5_trace_4 : DD cX5_trace 4 (.iload_n 1) 1 5 := by decide +kernel
theorem dX5_trace_5 : DD cX5_trace 5 (.aload_n 0) 1 6 := by decide +kernel
theorem dX5_trace_6 : DD cX5_trace 6 (.getfield 47) 3 9 := by decide +kernel
theorem dX5_trace_9 : DD cX5_trace 9 (.getfield 266) 3 12 := by decide +kernel
theorem dX5_trace_12 : DD cX5_trace 12 (.if_icmp .lt 8) 3 15 := by decide +kernel
theorem dX5_trace_15 : DD cX5_trace 15 (.ldc 202) 2 17 := by decide +kernel
theorem dX5_trace_17 : DD cX5_trace 17 (.goto 12) 3 20 := by decide +kernel
theorem dX5_trace_20 : DD cX5_trace 20 (.aload_n 0) 1 21 := by decide +kernel
theorem dX5_trace_21 : DD cX5_trace 21 (.getfield 47) 3 24 := by decide +kernel
theorem dX5_trace_24 : DD cX5_trace 24 (.getfield 267) 3 27 := by decide +kernel
theorem dX5_trace_27 : DD cX5_trace 27 (.iload_n 1) 1 28 := by decide +kernel
theorem dX5_trace_28 : DD cX5_trace 28 (.iaload) 1 29 := by decide +kernel
theorem dX5_trace_29 : DD cX5_trace 29 (.ireturn) 1 30 := by decide +kernel
def fX5_trace (a1 : Int32) (h : AH) : Option (Int32 × AH) := (if a1 < 0 then (some ((-1000000 : Int32), h)) else (if a1 < (h 276 1) then (chk (inb a1 (ln 277)) (some ((h 277 (Int32.toNatClampNeg a1)), h))) else (some ((-1000000 : Int32), h))))
set_option maxHeartbeats 4000000 in
set_option maxRecDepth 4000 in
theorem uX5_trace {l : Launch} {X : WX} {a1 : Int32} {h h' : AH} {v : Int32} (hf : fX5_trace a1 h = some (v, h')) : Does l X 1 yX5_trace cX5_trace 2 (some .int) [.ref (X.1 + 0), .int a1] h (eI v) h' := by
  refine Does.of (enc := eI) (o := fX5_trace a1 h) (lv := [(0, .ref (X.1 + 0)), (1, .int a1)]) (by decide) (Nat.le_of_ble_eq_true rfl) rfl hf (fun K hl hK => ?_)
  subst hl
  unfold fX5_trace
  refine J_iload_n hK dX5_trace_0 1 rfl ?_
  refine J_if_lt (tgt := 15) hK dX5_trace_1 (by decide) ?_ ?_
  · refine J_ldc hK dX5_trace_15 kK_X5_202 ?_
    refine J_goto (len := 0) (tgt := 29) hK dX5_trace_17 (by decide) ?_
    exact J_iret hK dX5_trace_29
  · refine J_iload_n hK dX5_trace_4 1 rfl ?_
    refine J_aload_n hK dX5_trace_5 0 rfl ?_
    refine rF_X5_47 (q2 := 276) hK dX5_trace_6 kd_0 rfl ?_
    refine gF_X5_266 hK dX5_trace_9 kd_276 ?_
    refine J_icmp_lt (tgt := 20) hK dX5_trace_12 (by decide) ?_ ?_
    · refine J_aload_n hK dX5_trace_20 0 rfl ?_
      refine rF_X5_47 (q2 := 276) hK dX5_trace_21 kd_0 rfl ?_
      refine rF_X5_267 (q2 := 277) hK dX5_trace_24 kd_276 rfl ?_
      refine J_iload_n hK dX5_trace_27 1 rfl ?_
      refine J_iald hK dX5_trace_28 kd_277 (fun _ => ?_)
      exact J_iret hK dX5_trace_29
    · refine J_ldc hK dX5_trace_15 kK_X5_202 ?_
      refine J_goto (len := 0) (tgt := 29) hK dX5_trace_17 (by decide) ?_
      exact J_iret hK dX5_trace_29
-- X5_well
theorem dX5_well_0 : DD cX5_well 0 (.aload_n 0) 1 1 := by decide +kernel
theorem dX5_well_1 : DD cX5_well 1 (.iconst 0) 1 2 := by decide +kernel
theorem dX5_well_2 : DD cX5_well 2 (.putfield 279) 3 5 := by decide +kernel
theorem dX5_well_5 : DD cX5_well 5 (.iload_n 1) 1 6 := by decide +kernel
theorem dX5_well_6 : DD cX5_well 6 (.ireturn) 1 7 := by decide +kernel
def fX5_well (a1 : Int32) (h : AH) : Option (Int32 × AH) := (sto (hs h 0 7 (0 : Int32)) fun h1 => (some (a1, h1)))
set_option maxHeartbeats 4000000 in
set_option maxRecDepth 4000 in
theorem uX5_well {l : Launch} {X : WX} {a1 : Int32} {h h' : AH} {v : Int32} (hf : fX5_well a1 h = some (v, h')) : Does l X 1 yX5_well cX5_well 2 (some .int) [.ref (X.1 + 0), .int a1] h (eI v) h' := by
  refine Does.of (enc := eI) (o := fX5_well a1 h) (lv := [(0, .ref (X.1 + 0)), (1, .int a1)]) (by decide) (Nat.le_of_ble_eq_true rfl) rfl hf (fun K hl hK => ?_)
  subst hl
  unfold fX5_well
  refine J_aload_n hK dX5_well_0 0 rfl ?_
  refine J_iconst hK dX5_well_1 ci_0 ?_
  refine pF_X5_279 hK dX5_well_2 kd_0 (fun h1 => ?_)
  refine J_iload_n hK dX5_well_5 1 rfl ?_
  exact J_iret hK dX5_well_6
-- X5_as
theorem dX5_as_0 : DD cX5_as 0 (.aload_n 0) 1 1 := by decide +kernel
theorem dX5_as_1 : DD cX5_as 1 (.iload_n 1) 1 2 := by decide +kernel
theorem dX5_as_2 : DD cX5_as 2 (.invokevirtual 141) 3 5 := by decide +kernel
theorem dX5_as_5 : DD cX5_as 5 (.ifCond .ne 12) 3 8 := by decide +kernel
theorem dX5_as_8 : DD cX5_as 8 (.iload_n 2) 1 9 := by decide +kernel
theorem dX5_as_9 : DD cX5_as 9 (.ifCond .lt 8) 3 12 := by decide +kernel
theorem dX5_as_12 : DD cX5_as 12 (.iload_n 2) 1 13 := by decide +kernel
theorem dX5_as_13 : DD cX5_as 13 (.iconst 5) 1 14 := by decide +kernel
theorem dX5_as_14 : DD cX5_as 14 (.if_icmp .le 6) 3 17 := by decide +kernel
theorem dX5_as_17 : DD cX5_as 17 (.ldc 55) 2 19 := by decide +kernel
theorem dX5_as_19 : DD cX5_as 19 (.ireturn) 1 20 := by decide +kernel
theorem dX5_as_20 : DD cX5_as 20 (.aload_n 0) 1 21 := by decide +kernel
theorem dX5_as_21 : DD cX5_as 21 (.getfield 26) 3 24 := by decide +kernel
theorem dX5_as_24 : DD cX5_as 24 (.getfield 256) 3 27 := by decide +kernel
theorem dX5_as_27 : DD cX5_as 27 (.iload_n 1) 1 28 := by decide +kernel
theorem dX5_as_28 : DD cX5_as 28 (.iaload) 1 29 := by decide +kernel
theorem dX5_as_29 : DD cX5_as 29 (.iload_n 2) 1 30 := by decide +kernel
theorem dX5_as_30 : DD cX5_as 30 (.invokestatic 259) 3 33 := by decide +kernel
theorem dX5_as_33 : DD cX5_as 33 (.ifCond .eq 11) 3 36 := by decide +kernel
theorem dX5_as_36 : DD cX5_as 36 (.aload_n 0) 1 37 := by decide +kernel
theorem dX5_as_37 : DD cX5_as 37 (.iload_n 1) 1 38 := by decide +kernel
theorem dX5_as_38 : DD cX5_as 38 (.invokevirtual 64) 3 41 := by decide +kernel
theorem dX5_as_41 : DD cX5_as 41 (.goto 8) 3 44 := by decide +kernel
theorem dX5_as_44 : DD cX5_as 44 (.aload_n 0) 1 45 := by decide +kernel
theorem dX5_as_45 : DD cX5_as 45 (.iconst 3) 1 46 := by decide +kernel
theorem dX5_as_46 : DD cX5_as 46 (.invokevirtual 56) 3 49 := by decide +kernel
theorem dX5_as_49 : DD cX5_as 49 (.ireturn) 1 50 := by decide +kernel
def fX5_as (a1 : Int32) (a2 : Int32) (h : AH) : Option (Int32 × AH) := (bnd (fX5_noTug a1 h) fun v2 h1 => (if v2 = 0 then (if a2 < 0 then (some ((-1000001 : Int32), h1)) else (if (5 : Int32) < a2 then (some ((-1000001 : Int32), h1)) else (chk (inb a1 (ln 21)) (bnd (fX5_isA (h1 21 (Int32.toNatClampNeg a1)) a2 h1) fun v4 h3 => (if v4 = 0 then (bnd (fX5_found (3 : Int32) h3) fun v6 h5 => (some (v6, h5))) else (bnd (fX5_well a1 h3) fun v8 h7 => (some (v8, h7)))))))) else (some ((-1000001 : Int32), h1))))
set_option maxHeartbeats 4000000 in
set_option maxRecDepth 4000 in
theorem uX5_as {l : Launch} {X : WX} {a1 : Int32} {a2 : Int32} {h h' : AH} {v : Int32} (hf : fX5_as a1 a2 h = some (v, h')) : Does l X 2 yX5_as cX5_as 3 (some .int) [.ref (X.1 + 0), .int a1, .int a2] h (eI v) h' := by
  refine Does.of (enc := eI) (o := fX5_as a1 a2 h) (lv := [(0, .ref (X.1 + 0)), (1, .int a1), (2, .int a2)]) (by decide) (Nat.le_of_ble_eq_true rfl) rfl hf (fun K hl hK => ?_)
  subst hl
  unfold fX5_as
  refine J_aload_n hK dX5_as_0 0 rfl ?_
  refine J_iload_n hK dX5_as_1 1 rfl ?_
  refine J_callVi (q := 0) (As := [.int a1]) (st := []) hK dX5_as_2 kB_X5_141 kV_X5_noTug kd_0 (by decide) rfl rfl (by decide) rfl rfl (Nat.le_of_ble_eq_true rfl) (fun _ _ hf => uX5_noTug  hf) (fun v2 h1 => ?_)
  refine J_if_ne (tgt := 17) hK dX5_as_5 (by decide) ?_ ?_
  · refine J_iload_n hK dX5_as_8 2 rfl ?_
    refine J_if_lt (tgt := 17) hK dX5_as_9 (by decide) ?_ ?_
    · refine J_ldc hK dX5_as_17 kK_X5_55 ?_
      exact J_iret hK dX5_as_19
    · refine J_iload_n hK dX5_as_12 2 rfl ?_
      refine J_iconst hK dX5_as_13 ci_5 ?_
      refine J_icmp_le (tgt := 20) hK dX5_as_14 (by decide) ?_ ?_
      · refine J_ldc hK dX5_as_17 kK_X5_55 ?_
        exact J_iret hK dX5_as_19
      · refine J_aload_n hK dX5_as_20 0 rfl ?_
        refine rF_X5_26 (q2 := 20) hK dX5_as_21 kd_0 rfl ?_
        refine rF_X5_256 (q2 := 21) hK dX5_as_24 kd_20 rfl ?_
        refine J_iload_n hK dX5_as_27 1 rfl ?_
        refine J_iald hK dX5_as_28 kd_21 (fun _ => ?_)
        refine J_iload_n hK dX5_as_29 2 rfl ?_
        refine J_callSi (As := [.int (h1 21 (Int32.toNatClampNeg a1)), .int a2]) (st := []) hK dX5_as_30 kB_X5_259 kS_X5_isA (by decide) rfl rfl (Nat.le_of_ble_eq_true rfl) (fun _ _ hf => uX5_isA  hf) (fun v4 h3 => ?_)
        refine J_if_eq (tgt := 44) hK dX5_as_33 (by decide) ?_ ?_
        · refine J_aload_n hK dX5_as_44 0 rfl ?_
          refine J_iconst hK dX5_as_45 ci_3 ?_
          refine J_callVi (q := 0) (As := [.int (3 : Int32)]) (st := []) hK dX5_as_46 kB_X5_56 kV_X5_found kd_0 (by decide) rfl rfl (by decide) rfl rfl (Nat.le_of_ble_eq_true rfl) (fun _ _ hf => uX5_found  hf) (fun v6 h5 => ?_)
          exact J_iret hK dX5_as_49
        · refine J_aload_n hK dX5_as_36 0 rfl ?_
          refine J_iload_n hK dX5_as_37 1 rfl ?_
          refine J_callVi (q := 0) (As := [.int a1]) (st := []) hK dX5_as_38 kB_X5_64 kV_X5_well kd_0 (by decide) rfl rfl (by decide) rfl rfl (Nat.le_of_ble_eq_true rfl) (fun _ _ hf => uX5_well  hf) (fun v8 h7 => ?_)
          refine J_goto (len := 0) (tgt := 49) hK dX5_as_41 (by decide) ?_
          exact J_iret hK dX5_as_49
  · refine J_ldc hK dX5_as_17 kK_X5_55 ?_
    exact J_iret hK dX5_as_19
-- X5_copy
theorem dX5_copy_0 : DD cX5_copy 0 (.iload_n 1) 1 1 := by decide +kernel
theorem dX5_copy_1 : DD cX5_copy 1 (.invokestatic 51) 3 4 := by decide +kernel
theorem dX5_copy_4 : DD cX5_copy 4 (.ifCond .ne 10) 3 7 := by decide +kernel
theorem dX5_copy_7 : DD cX5_copy 7 (.iload_n 3) 1 8 := by decide +kernel
theorem dX5_copy_8 : DD cX5_copy 8 (.invokestatic 51) 3 11 := by decide +kernel
theorem dX5_copy_11 : DD cX5_copy 11 (.ifCond .eq 6) 3 14 := by decide +kernel
theorem dX5_copy_14 : DD cX5_copy 14 (.ldc 55) 2 16 := by decide +kernel
theorem dX5_copy_16 : DD cX5_copy 16 (.ireturn) 1 17 := by decide +kernel
theorem dX5_copy_17 : DD cX5_copy 17 (.aload_n 0) 1 18 := by decide +kernel
theorem dX5_copy_18 : DD cX5_copy 18 (.getfield 11) 3 21 := by decide +kernel
theorem dX5_copy_21 : DD cX5_copy 21 (.iload_n 1) 1 22 := by decide +kernel
theorem dX5_copy_22 : DD cX5_copy 22 (.aaload) 1 23 := by decide +kernel
theorem dX5_copy_23 : DD cX5_copy 23 (.astore 6) 2 25 := by decide +kernel
theorem dX5_copy_25 : DD cX5_copy 25 (.aload_n 0) 1 26 := by decide +kernel
theorem dX5_copy_26 : DD cX5_copy 26 (.getfield 11) 3 29 := by decide +kernel
theorem dX5_copy_29 : DD cX5_copy 29 (.iload_n 3) 1 30 := by decide +kernel
theorem dX5_copy_30 : DD cX5_copy 30 (.aaload) 1 31 := by decide +kernel
theorem dX5_copy_31 : DD cX5_copy 31 (.astore 7) 2 33 := by decide +kernel
theorem dX5_copy_33 : DD cX5_copy 33 (.aload 6) 2 35 := by decide +kernel
theorem dX5_copy_35 : DD cX5_copy 35 (.invokevirtual 67) 3 38 := by decide +kernel
theorem dX5_copy_38 : DD cX5_copy 38 (.ifCond .ne 11) 3 41 := by decide +kernel
theorem dX5_copy_41 : DD cX5_copy 41 (.aload 7) 2 43 := by decide +kernel
theorem dX5_copy_43 : DD cX5_copy 43 (.invokevirtual 67) 3 46 := by decide +kernel
theorem dX5_copy_46 : DD cX5_copy 46 (.ifCond .eq 9) 3 49 := by decide +kernel
theorem dX5_copy_49 : DD cX5_copy 49 (.aload_n 0) 1 50 := by decide +kernel
theorem dX5_copy_50 : DD cX5_copy 50 (.iconst 1) 1 51 := by decide +kernel
theorem dX5_copy_51 : DD cX5_copy 51 (.invokevirtual 56) 3 54 := by decide +kernel
theorem dX5_copy_54 : DD cX5_copy 54 (.ireturn) 1 55 := by decide +kernel
theorem dX5_copy_55 : DD cX5_copy 55 (.aload 6) 2 57 := by decide +kernel
theorem dX5_copy_57 : DD cX5_copy 57 (.getfield 82) 3 60 := by decide +kernel
theorem dX5_copy_60 : DD cX5_copy 60 (.aload 7) 2 62 := by decide +kernel
theorem dX5_copy_62 : DD cX5_copy 62 (.getfield 82) 3 65 := by decide +kernel
theorem dX5_copy_65 : DD cX5_copy 65 (.if_icmp .eq 9) 3 68 := by decide +kernel
theorem dX5_copy_68 : DD cX5_copy 68 (.aload_n 0) 1 69 := by decide +kernel
theorem dX5_copy_69 : DD cX5_copy 69 (.iconst 5) 1 70 := by decide +kernel
theorem dX5_copy_70 : DD cX5_copy 70 (.invokevirtual 56) 3 73 := by decide +kernel
theorem dX5_copy_73 : DD cX5_copy 73 (.ireturn) 1 74 := by decide +kernel
theorem dX5_copy_74 : DD cX5_copy 74 (.aload 6) 2 76 := by decide +kernel
theorem dX5_copy_76 : DD cX5_copy 76 (.iload_n 2) 1 77 := by decide +kernel
theorem dX5_copy_77 : DD cX5_copy 77 (.iload 5) 2 79 := by decide +kernel
theorem dX5_copy_79 : DD cX5_copy 79 (.invokevirtual 71) 3 82 := by decide +kernel
theorem dX5_copy_82 : DD cX5_copy 82 (.ifCond .eq 15) 3 85 := by decide +kernel
theorem dX5_copy_85 : DD cX5_copy 85 (.aload 7) 2 87 := by decide +kernel
theorem dX5_copy_87 : DD cX5_copy 87 (.iload 4) 2 89 := by decide +kernel
theorem dX5_copy_89 : DD cX5_copy 89 (.iload 5) 2 91 := by decide +kernel
theorem dX5_copy_91 : DD cX5_copy 91 (.invokevirtual 71) 3 94 := by decide +kernel
theorem dX5_copy_94 : DD cX5_copy 94 (.ifCond .ne 9) 3 97 := by decide +kernel
theorem dX5_copy_97 : DD cX5_copy 97 (.aload_n 0) 1 98 := by decide +kernel
theorem dX5_copy_98 : DD cX5_copy 98 (.iconst 2) 1 99 := by decide +kernel
theorem dX5_copy_99 : DD cX5_copy 99 (.invokevirtual 56) 3 102 := by decide +kernel
theorem dX5_copy_102 : DD cX5_copy 102 (.ireturn) 1 103 := by decide +kernel
theorem dX5_copy_103 : DD cX5_copy 103 (.aload 6) 2 105 := by decide +kernel
theorem dX5_copy_105 : DD cX5_copy 105 (.getfield 75) 3 108 := by decide +kernel
theorem dX5_copy_108 : DD cX5_copy 108 (.iload_n 2) 1 109 := by decide +kernel
theorem dX5_copy_109 : DD cX5_copy 109 (.aload 7) 2 111 := by decide +kernel
theorem dX5_copy_111 : DD cX5_copy 111 (.getfield 75) 3 114 := by decide +kernel
theorem dX5_copy_114 : DD cX5_copy 114 (.iload 4) 2 116 := by decide +kernel
theorem dX5_copy_116 : DD cX5_copy 116 (.iload 5) 2 118 := by decide +kernel
theorem dX5_copy_118 : DD cX5_copy 118 (.invokestatic 86) 3 121 := by decide +kernel
theorem dX5_copy_121 : DD cX5_copy 121 (.aload_n 0) 1 122 := by decide +kernel
theorem dX5_copy_122 : DD cX5_copy 122 (.iload 5) 2 124 := by decide +kernel
theorem dX5_copy_124 : DD cX5_copy 124 (.invokevirtual 64) 3 127 := by decide +kernel
theorem dX5_copy_127 : DD cX5_copy 127 (.ireturn) 1 128 := by decide +kernel
def fX5_copy (a1 : Int32) (a2 : Int32) (a3 : Int32) (a4 : Int32) (a5 : Int32) (h : AH) : Option (Int32 × AH) := (bnd (fX5_noRow a1 h) fun v2 h1 => (if v2 = 0 then (bnd (fX5_noRow a3 h1) fun v4 h3 => (if v4 = 0 then (chk (inb a1 (ln 1)) (chk (inb a3 (ln 1)) (bnd (fX3_missing (1 + 1 + 2 * Int32.toNatClampNeg a1) h3) fun v8 h7 => (if v8 = 0 then (bnd (fX3_missing (1 + 1 + 2 * Int32.toNatClampNeg a3) h7) fun v10 h9 => (if v10 = 0 then (if (h9 (1 + 1 + 2 * Int32.toNatClampNeg a1) 1) = (h9 (1 + 1 + 2 * Int32.toNatClampNeg a3) 1) then (bnd (fX3_hasRun (1 + 1 + 2 * Int32.toNatClampNeg a1) a2 a5 h9) fun v12 h11 => (if v12 = 0 then (bnd (fX5_found (2 : Int32) h11) fun v14 h13 => (some (v14, h13))) else (bnd (fX3_hasRun (1 + 1 + 2 * Int32.toNatClampNeg a3) a4 a5 h11) fun v16 h15 => (if v16 = 0 then (bnd (fX5_found (2 : Int32) h15) fun v18 h17 => (some (v18, h17))) else (chk (¬ a2 < 0 ∧ ¬ a4 < 0 ∧ ¬ a5 < 0 ∧ Int32.toNatClampNeg a2 + Int32.toNatClampNeg a5 ≤ ln ((1 + 1 + 2 * Int32.toNatClampNeg a1) + 1) ∧ Int32.toNatClampNeg a4 + Int32.toNatClampNeg a5 ≤ ln ((1 + 1 + 2 * Int32.toNatClampNeg a3) + 1)) (sto (hr h15 ((1 + 1 + 2 * Int32.toNatClampNeg a3) + 1) (va_cpy (h15 ((1 + 1 + 2 * Int32.toNatClampNeg a1) + 1)) (h15 ((1 + 1 + 2 * Int32.toNatClampNeg a3) + 1)) (Int32.toNatClampNeg a2) (Int32.toNatClampNeg a4) (Int32.toNatClampNeg a5))) fun h19 => (bnd (fX5_well a5 h19) fun v21 h20 => (some (v21, h20))))))))) else (bnd (fX5_found (5 : Int32) h9) fun v23 h22 => (some (v23, h22)))) else (bnd (fX5_found (1 : Int32) h9) fun v25 h24 => (some (v25, h24))))) else (bnd (fX5_found (1 : Int32) h7) fun v27 h26 => (some (v27, h26))))))) else (some ((-1000001 : Int32), h3)))) else (some ((-1000001 : Int32), h1))))
set_option maxHeartbeats 4000000 in
set_option maxRecDepth 4000 in
theorem uX5_copy {l : Launch} {X : WX} {a1 : Int32} {a2 : Int32} {a3 : Int32} {a4 : Int32} {a5 : Int32} {h h' : AH} {v : Int32} (hf : fX5_copy a1 a2 a3 a4 a5 h = some (v, h')) : Does l X 2 yX5_copy cX5_copy 8 (some .int) [.ref (X.1 + 0), .int a1, .int a2, .int a3, .int a4, .int a5] h (eI v) h' := by
  refine Does.of (enc := eI) (o := fX5_copy a1 a2 a3 a4 a5 h) (lv := [(0, .ref (X.1 + 0)), (1, .int a1), (2, .int a2), (3, .int a3), (4, .int a4), (5, .int a5)]) (by decide) (Nat.le_of_ble_eq_true rfl) rfl hf (fun K hl hK => ?_)
  subst hl
  unfold fX5_copy
  refine J_iload_n hK dX5_copy_0 1 rfl ?_
  refine J_callSi (As := [.int a1]) (st := []) hK dX5_copy_1 kB_X5_51 kS_X5_noRow (by decide) rfl rfl (Nat.le_of_ble_eq_true rfl) (fun _ _ hf => uX5_noRow  hf) (fun v2 h1 => ?_)
  refine J_if_ne (tgt := 14) hK dX5_copy_4 (by decide) ?_ ?_
  · refine J_iload_n hK dX5_copy_7 3 rfl ?_
    refine J_callSi (As := [.int a3]) (st := []) hK dX5_copy_8 kB_X5_51 kS_X5_noRow (by decide) rfl rfl (Nat.le_of_ble_eq_true rfl) (fun _ _ hf => uX5_noRow  hf) (fun v4 h3 => ?_)
    refine J_if_eq (tgt := 17) hK dX5_copy_11 (by decide) ?_ ?_
    · refine J_aload_n hK dX5_copy_17 0 rfl ?_
      refine rF_X5_11 (q2 := 1) hK dX5_copy_18 kd_0 rfl ?_
      refine J_iload_n hK dX5_copy_21 1 rfl ?_
      refine J_aaldR hK dX5_copy_22 kd_1 (fun q5 => ?_)
      refine J_astore (lw := [(0, .ref (X.1 + 0)), (1, .int a1), (2, .int a2), (3, .int a3), (4, .int a4), (5, .int a5)]) hK dX5_copy_23 (by decide) rfl ?_
      refine J_aload_n hK dX5_copy_25 1 rfl ?_
      refine rF_X5_11 (q2 := 1) hK dX5_copy_26 kd_0 rfl ?_
      refine J_iload_n hK dX5_copy_29 4 rfl ?_
      refine J_aaldR hK dX5_copy_30 kd_1 (fun q6 => ?_)
      refine J_astore (lw := [(6, .ref (X.1 + (1 + 1 + 2 * Int32.toNatClampNeg a1))), (0, .ref (X.1 + 0)), (1, .int a1), (2, .int a2), (3, .int a3), (4, .int a4), (5, .int a5)]) hK dX5_copy_31 (by decide) rfl ?_
      refine J_aload hK dX5_copy_33 1 rfl ?_
      refine J_callVi (q := (1 + 1 + 2 * Int32.toNatClampNeg a1)) (As := []) (st := []) hK dX5_copy_35 kB_X5_67 kV_X3_missing (kdA_1 q5) (by decide) rfl rfl (by decide) rfl rfl (Nat.le_of_ble_eq_true rfl) (fun _ _ hf => uX3_missing (kdA_1 q5) hf) (fun v8 h7 => ?_)
      refine J_if_ne (tgt := 49) hK dX5_copy_38 (by decide) ?_ ?_
      · refine J_aload hK dX5_copy_41 0 rfl ?_
        refine J_callVi (q := (1 + 1 + 2 * Int32.toNatClampNeg a3)) (As := []) (st := []) hK dX5_copy_43 kB_X5_67 kV_X3_missing (kdA_1 q6) (by decide) rfl rfl (by decide) rfl rfl (Nat.le_of_ble_eq_true rfl) (fun _ _ hf => uX3_missing (kdA_1 q6) hf) (fun v10 h9 => ?_)
        refine J_if_eq (tgt := 55) hK dX5_copy_46 (by decide) ?_ ?_
        · refine J_aload hK dX5_copy_55 1 rfl ?_
          refine gF_X5_82 hK dX5_copy_57 (kdA_1 q5) ?_
          refine J_aload hK dX5_copy_60 0 rfl ?_
          refine gF_X5_82 hK dX5_copy_62 (kdA_1 q6) ?_
          refine J_icmp_eq (tgt := 74) hK dX5_copy_65 (by decide) ?_ ?_
          · refine J_aload hK dX5_copy_74 1 rfl ?_
            refine J_iload_n hK dX5_copy_76 4 rfl ?_
            refine J_iload hK dX5_copy_77 7 rfl ?_
            refine J_callVi (q := (1 + 1 + 2 * Int32.toNatClampNeg a1)) (As := [.int a2, .int a5]) (st := []) hK dX5_copy_79 kB_X5_71 kV_X3_hasRun (kdA_1 q5) (by decide) rfl rfl (by decide) rfl rfl (Nat.le_of_ble_eq_true rfl) (fun _ _ hf => uX3_hasRun (kdA_1 q5) hf) (fun v12 h11 => ?_)
            refine J_if_eq (tgt := 97) hK dX5_copy_82 (by decide) ?_ ?_
            · refine J_aload_n hK dX5_copy_97 2 rfl ?_
              refine J_iconst hK dX5_copy_98 ci_2 ?_
              refine J_callVi (q := 0) (As := [.int (2 : Int32)]) (st := []) hK dX5_copy_99 kB_X5_56 kV_X5_found kd_0 (by decide) rfl rfl (by decide) rfl rfl (Nat.le_of_ble_eq_true rfl) (fun _ _ hf => uX5_found  hf) (fun v14 h13 => ?_)
              exact J_iret hK dX5_copy_102
            · refine J_aload hK dX5_copy_85 0 rfl ?_
              refine J_iload hK dX5_copy_87 6 rfl ?_
              refine J_iload hK dX5_copy_89 7 rfl ?_
              refine J_callVi (q := (1 + 1 + 2 * Int32.toNatClampNeg a3)) (As := [.int a4, .int a5]) (st := []) hK dX5_copy_91 kB_X5_71 kV_X3_hasRun (kdA_1 q6) (by decide) rfl rfl (by decide) rfl rfl (Nat.le_of_ble_eq_true rfl) (fun _ _ hf => uX3_hasRun (kdA_1 q6) hf) (fun v16 h15 => ?_)
              refine J_if_ne (tgt := 103) hK dX5_copy_94 (by decide) ?_ ?_
              · refine J_aload_n hK dX5_copy_97 2 rfl ?_
                refine J_iconst hK dX5_copy_98 ci_2 ?_
                refine J_callVi (q := 0) (As := [.int (2 : Int32)]) (st := []) hK dX5_copy_99 kB_X5_56 kV_X5_found kd_0 (by decide) rfl rfl (by decide) rfl rfl (Nat.le_of_ble_eq_true rfl) (fun _ _ hf => uX5_found  hf) (fun v18 h17 => ?_)
                exact J_iret hK dX5_copy_102
              · refine J_aload hK dX5_copy_103 1 rfl ?_
                refine rF_X5_75 (q2 := ((1 + 1 + 2 * Int32.toNatClampNeg a1) + 1)) hK dX5_copy_105 (kdA_1 q5) rfl ?_
                refine J_iload_n hK dX5_copy_108 4 rfl ?_
                refine J_aload hK dX5_copy_109 0 rfl ?_
                refine rF_X5_75 (q2 := ((1 + 1 + 2 * Int32.toNatClampNeg a3) + 1)) hK dX5_copy_111 (kdA_1 q6) rfl ?_
                refine J_iload hK dX5_copy_114 6 rfl ?_
                refine J_iload hK dX5_copy_116 7 rfl ?_
                refine J_acopy hK dX5_copy_118 (by decide) (kdR_1 (kdA_1 q5)) (kdR_1 (kdA_1 q6)) kA_X5_86 kA_nat kA_st kA_in (Nat.le_of_ble_eq_true rfl) (fun h19 => ?_)
                refine J_aload_n hK dX5_copy_121 2 rfl ?_
                refine J_iload hK dX5_copy_122 7 rfl ?_
                refine J_callVi (q := 0) (As := [.int a5]) (st := []) hK dX5_copy_124 kB_X5_64 kV_X5_well kd_0 (by decide) rfl rfl (by decide) rfl rfl (Nat.le_of_ble_eq_true rfl) (fun _ _ hf => uX5_well  hf) (fun v21 h20 => ?_)
                exact J_iret hK dX5_copy_127
          · refine J_aload_n hK dX5_copy_68 2 rfl ?_
            refine J_iconst hK dX5_copy_69 ci_5 ?_
            refine J_callVi (q := 0) (As := [.int (5 : Int32)]) (st := []) hK dX5_copy_70 kB_X5_56 kV_X5_found kd_0 (by decide) rfl rfl (by decide) rfl rfl (Nat.le_of_ble_eq_true rfl) (fun _ _ hf => uX5_found  hf) (fun v23 h22 => ?_)
            exact J_iret hK dX5_copy_73
        · refine J_aload_n hK dX5_copy_49 2 rfl ?_
          refine J_iconst hK dX5_copy_50 ci_1 ?_
          refine J_callVi (q := 0) (As := [.int (1 : Int32)]) (st := []) hK dX5_copy_51 kB_X5_56 kV_X5_found kd_0 (by decide) rfl rfl (by decide) rfl rfl (Nat.le_of_ble_eq_true rfl) (fun _ _ hf => uX5_found  hf) (fun v25 h24 => ?_)
          exact J_iret hK dX5_copy_54
      · refine J_aload_n hK dX5_copy_49 2 rfl ?_
        refine J_iconst hK dX5_copy_50 ci_1 ?_
        refine J_callVi (q := 0) (As := [.int (1 : Int32)]) (st := []) hK dX5_copy_51 kB_X5_56 kV_X5_found kd_0 (by decide) rfl rfl (by decide) rfl rfl (Nat.le_of_ble_eq_true rfl) (fun _ _ hf => uX5_found  hf) (fun v27 h26 => ?_)
        exact J_iret hK dX5_copy_54
    · refine J_ldc hK dX5_copy_14 kK_X5_55 ?_
      exact J_iret hK dX5_copy_16
  · refine J_ldc hK dX5_copy_14 kK_X5_55 ?_
    exact J_iret hK dX5_copy_16
-- X5_drop
theorem dX5_drop_0 : DD cX5_drop 0 (.iload_n 1) 1 1 := by decide +kernel
theorem dX5_drop_1 : DD cX5_drop 1 (.invokestatic 51) 3 4 := by decide +kernel
theorem dX5_drop_4 : DD cX5_drop 4 (.ifCond .eq 6) 3 7 := by decide +kernel
theorem dX5_drop_7 : DD cX5_drop 7 (.ldc 55) 2 9 := by decide +kernel
theorem dX5_drop_9 : DD cX5_drop 9 (.ireturn) 1 10 := by decide +kernel
theorem dX5_drop_10 : DD cX5_drop 10 (.aload_n 0) 1 11 := by decide +kernel
theorem dX5_drop_11 : DD cX5_drop 11 (.getfield 11) 3 14 := by decide +kernel
theorem dX5_drop_14 : DD cX5_drop 14 (.iload_n 1) 1 15 := by decide +kernel
theorem dX5_drop_15 : DD cX5_drop 15 (.aaload) 1 16 := by decide +kernel
theorem dX5_drop_16 : DD cX5_drop 16 (.invokevirtual 67) 3 19 := by decide +kernel
theorem dX5_drop_19 : DD cX5_drop 19 (.ifCond .eq 9) 3 22 := by decide +kernel
theorem dX5_drop_22 : DD cX5_drop 22 (.aload_n 0) 1 23 := by decide +kernel
theorem dX5_drop_23 : DD cX5_drop 23 (.iconst 1) 1 24 := by decide +kernel
theorem dX5_drop_24 : DD cX5_drop 24 (.invokevirtual 56) 3 27 := by decide +kernel
theorem dX5_drop_27 : DD cX5_drop 27 (.ireturn) 1 28 := by decide +kernel
theorem dX5_drop_28 : DD cX5_drop 28 (.aload_n 0) 1 29 := by decide +kernel
theorem dX5_drop_29 : DD cX5_drop 29 (.aload_n 0) 1 30 := by decide +kernel
theorem dX5_drop_30 : DD cX5_drop 30 (.getfield 11) 3 33 := by decide +kernel
theorem dX5_drop_33 : DD cX5_drop 33 (.iload_n 1) 1 34 := by decide +kernel
theorem dX5_drop_34 : DD cX5_drop 34 (.aaload) 1 35 := by decide +kernel
theorem dX5_drop_35 : DD cX5_drop 35 (.invokevirtual 92) 3 38 := by decide +kernel
theorem dX5_drop_38 : DD cX5_drop 38 (.invokevirtual 64) 3 41 := by decide +kernel
theorem dX5_drop_41 : DD cX5_drop 41 (.ireturn) 1 42 := by decide +kernel
def fX5_drop (a1 : Int32) (h : AH) : Option (Int32 × AH) := (bnd (fX5_noRow a1 h) fun v2 h1 => (if v2 = 0 then (chk (inb a1 (ln 1)) (bnd (fX3_missing (1 + 1 + 2 * Int32.toNatClampNeg a1) h1) fun v5 h4 => (if v5 = 0 then (chk (inb a1 (ln 1)) (bnd (fX3_end (1 + 1 + 2 * Int32.toNatClampNeg a1) h4) fun v8 h7 => (bnd (fX5_well v8 h7) fun v10 h9 => (some (v10, h9))))) else (bnd (fX5_found (1 : Int32) h4) fun v12 h11 => (some (v12, h11)))))) else (some ((-1000001 : Int32), h1))))
set_option maxHeartbeats 4000000 in
set_option maxRecDepth 4000 in
theorem uX5_drop {l : Launch} {X : WX} {a1 : Int32} {h h' : AH} {v : Int32} (hf : fX5_drop a1 h = some (v, h')) : Does l X 2 yX5_drop cX5_drop 2 (some .int) [.ref (X.1 + 0), .int a1] h (eI v) h' := by
  refine Does.of (enc := eI) (o := fX5_drop a1 h) (lv := [(0, .ref (X.1 + 0)), (1, .int a1)]) (by decide) (Nat.le_of_ble_eq_true rfl) rfl hf (fun K hl hK => ?_)
  subst hl
  unfold fX5_drop
  refine J_iload_n hK dX5_drop_0 1 rfl ?_
  refine J_callSi (As := [.int a1]) (st := []) hK dX5_drop_1 kB_X5_51 kS_X5_noRow (by decide) rfl rfl (Nat.le_of_ble_eq_true rfl) (fun _ _ hf => uX5_noRow  hf) (fun v2 h1 => ?_)
  refine J_if_eq (tgt := 10) hK dX5_drop_4 (by decide) ?_ ?_
  · refine J_aload_n hK dX5_drop_10 0 rfl ?_
    refine rF_X5_11 (q2 := 1) hK dX5_drop_11 kd_0 rfl ?_
    refine J_iload_n hK dX5_drop_14 1 rfl ?_
    refine J_aaldR hK dX5_drop_15 kd_1 (fun q3 => ?_)
    refine J_callVi (q := (1 + 1 + 2 * Int32.toNatClampNeg a1)) (As := []) (st := []) hK dX5_drop_16 kB_X5_67 kV_X3_missing (kdA_1 q3) (by decide) rfl rfl (by decide) rfl rfl (Nat.le_of_ble_eq_true rfl) (fun _ _ hf => uX3_missing (kdA_1 q3) hf) (fun v5 h4 => ?_)
    refine J_if_eq (tgt := 28) hK dX5_drop_19 (by decide) ?_ ?_
    · refine J_aload_n hK dX5_drop_28 0 rfl ?_
      refine J_aload_n hK dX5_drop_29 0 rfl ?_
      refine rF_X5_11 (q2 := 1) hK dX5_drop_30 kd_0 rfl ?_
      refine J_iload_n hK dX5_drop_33 1 rfl ?_
      refine J_aaldR hK dX5_drop_34 kd_1 (fun q6 => ?_)
      refine J_callVi (q := (1 + 1 + 2 * Int32.toNatClampNeg a1)) (As := []) (st := [.ref (X.1 + 0)]) hK dX5_drop_35 kB_X5_92 kV_X3_end (kdA_1 q6) (by decide) rfl rfl (by decide) rfl rfl (Nat.le_of_ble_eq_true rfl) (fun _ _ hf => uX3_end (kdA_1 q6) hf) (fun v8 h7 => ?_)
      refine J_callVi (q := 0) (As := [.int v8]) (st := []) hK dX5_drop_38 kB_X5_64 kV_X5_well kd_0 (by decide) rfl rfl (by decide) rfl rfl (Nat.le_of_ble_eq_true rfl) (fun _ _ hf => uX5_well  hf) (fun v10 h9 => ?_)
      exact J_iret hK dX5_drop_41
    · refine J_aload_n hK dX5_drop_22 0 rfl ?_
      refine J_iconst hK dX5_drop_23 ci_1 ?_
      refine J_callVi (q := 0) (As := [.int (1 : Int32)]) (st := []) hK dX5_drop_24 kB_X5_56 kV_X5_found kd_0 (by decide) rfl rfl (by decide) rfl rfl (Nat.le_of_ble_eq_true rfl) (fun _ _ hf => uX5_found  hf) (fun v12 h11 => ?_)
      exact J_iret hK dX5_drop_27
  · refine J_ldc hK dX5_drop_7 kK_X5_55 ?_
    exact J_iret hK dX5_drop_9
-- X5_feed
theorem dX5_feed_0 : DD cX5_feed 0 (.iload_n 1) 1 1 := by decide +kernel
theorem dX5_feed_1 : DD cX5_feed 1 (.ifCond .lt 10) 3 4 := by decide +kernel
theorem dX5_feed_4 : DD cX5_feed 4 (.iload_n 1) 1 5 := by decide +kernel
theorem dX5_feed_5 : DD cX5_feed 5 (.sipush 255) 3 8 := by decide +kernel
theorem dX5_feed_8 : DD cX5_feed 8 (.if_icmp .le 6) 3 11 := by decide +kernel
theorem dX5_feed_11 : DD cX5_feed 11 (.ldc 55) 2 13 := by decide +kernel
theorem dX5_feed_13 : DD cX5_feed 13 (.ireturn) 1 14 := by decide +kernel
theorem dX5_feed_14 : DD cX5_feed 14 (.aload_n 0) 1 15 := by decide +kernel
theorem dX5_feed_15 : DD cX5_feed 15 (.getfield 19) 3 18 := by decide +kernel
theorem dX5_feed_18 : DD cX5_feed 18 (.getfield 96) 3 21 := by decide +kernel
theorem dX5_feed_21 : DD cX5_feed 21 (.bipush 90) 2 23 := by decide +kernel
theorem dX5_feed_23 : DD cX5_feed 23 (.if_icmp .lt 6) 3 26 := by decide +kernel
theorem dX5_feed_26 : DD cX5_feed 26 (.ldc 99) 2 28 := by decide +kernel
theorem dX5_feed_28 : DD cX5_feed 28 (.ireturn) 1 29 := by decide +kernel
theorem dX5_feed_29 : DD cX5_feed 29 (.aload_n 0) 1 30 := by decide +kernel
theorem dX5_feed_30 : DD cX5_feed 30 (.getfield 19) 3 33 := by decide +kernel
theorem dX5_feed_33 : DD cX5_feed 33 (.iload_n 1) 1 34 := by decide +kernel
theorem dX5_feed_34 : DD cX5_feed 34 (.invokevirtual 100) 3 37 := by decide +kernel
theorem dX5_feed_37 : DD cX5_feed 37 (.ireturn) 1 38 := by decide +kernel
def fX5_feed (a1 : Int32) (h : AH) : Option (Int32 × AH) := (if a1 < 0 then (some ((-1000001 : Int32), h)) else (if (255 : Int32) < a1 then (some ((-1000001 : Int32), h)) else (if (h 18 1) < (90 : Int32) then (bnd (fX4_append a1 h) fun v2 h1 => (some (v2, h1))) else (some ((-1000003 : Int32), h)))))
set_option maxHeartbeats 4000000 in
set_option maxRecDepth 4000 in
theorem uX5_feed {l : Launch} {X : WX} {a1 : Int32} {h h' : AH} {v : Int32} (hf : fX5_feed a1 h = some (v, h')) : Does l X 2 yX5_feed cX5_feed 2 (some .int) [.ref (X.1 + 0), .int a1] h (eI v) h' := by
  refine Does.of (enc := eI) (o := fX5_feed a1 h) (lv := [(0, .ref (X.1 + 0)), (1, .int a1)]) (by decide) (Nat.le_of_ble_eq_true rfl) rfl hf (fun K hl hK => ?_)
  subst hl
  unfold fX5_feed
  refine J_iload_n hK dX5_feed_0 1 rfl ?_
  refine J_if_lt (tgt := 11) hK dX5_feed_1 (by decide) ?_ ?_
  · refine J_ldc hK dX5_feed_11 kK_X5_55 ?_
    exact J_iret hK dX5_feed_13
  · refine J_iload_n hK dX5_feed_4 1 rfl ?_
    refine J_sipush hK dX5_feed_5 cs_255 ?_
    refine J_icmp_le (tgt := 14) hK dX5_feed_8 (by decide) ?_ ?_
    · refine J_ldc hK dX5_feed_11 kK_X5_55 ?_
      exact J_iret hK dX5_feed_13
    · refine J_aload_n hK dX5_feed_14 0 rfl ?_
      refine rF_X5_19 (q2 := 18) hK dX5_feed_15 kd_0 rfl ?_
      refine gF_X5_96 hK dX5_feed_18 kd_18 ?_
      refine J_bipush hK dX5_feed_21 cb_90 ?_
      refine J_icmp_lt (tgt := 29) hK dX5_feed_23 (by decide) ?_ ?_
      · refine J_aload_n hK dX5_feed_29 0 rfl ?_
        refine rF_X5_19 (q2 := 18) hK dX5_feed_30 kd_0 rfl ?_
        refine J_iload_n hK dX5_feed_33 1 rfl ?_
        refine J_callVi (q := 18) (As := [.int a1]) (st := []) hK dX5_feed_34 kB_X5_100 kV_X4_append kd_18 (by decide) rfl rfl (by decide) rfl rfl (Nat.le_of_ble_eq_true rfl) (fun _ _ hf => uX4_append  hf) (fun v2 h1 => ?_)
        exact J_iret hK dX5_feed_37
      · refine J_ldc hK dX5_feed_26 kK_X5_99 ?_
        exact J_iret hK dX5_feed_28
-- X5_fewer
theorem dX5_fewer_0 : DD cX5_fewer 0 (.iload_n 1) 1 1 := by decide +kernel
theorem dX5_fewer_1 : DD cX5_fewer 1 (.ldc 202) 2 3 := by decide +kernel
theorem dX5_fewer_3 : DD cX5_fewer 3 (.if_icmp .eq 14) 3 6 := by decide +kernel
theorem dX5_fewer_6 : DD cX5_fewer 6 (.iload_n 0) 1 7 := by decide +kernel
theorem dX5_fewer_7 : DD cX5_fewer 7 (.invokestatic 248) 3 10 := by decide +kernel
theorem dX5_fewer_10 : DD cX5_fewer 10 (.iload_n 1) 1 11 := by decide +kernel
theorem dX5_fewer_11 : DD cX5_fewer 11 (.invokestatic 248) 3 14 := by decide +kernel
theorem dX5_fewer_14 : DD cX5_fewer 14 (.if_icmp .ge 7) 3 17 := by decide +kernel
theorem dX5_fewer_17 : DD cX5_fewer 17 (.iconst 1) 1 18 := by decide +kernel
theorem dX5_fewer_18 : DD cX5_fewer 18 (.goto 4) 3 21 := by decide +kernel
theorem dX5_fewer_21 : DD cX5_fewer 21 (.iconst 0) 1 22 := by decide +kernel
theorem dX5_fewer_22 : DD cX5_fewer 22 (.ireturn) 1 23 := by decide +kernel
def fX5_fewer (a0 : Int32) (a1 : Int32) (h : AH) : Option (Int32 × AH) := (if a1 = (-1000000 : Int32) then (some ((1 : Int32), h)) else (bnd (fJ6_bitCount_0f7a4 a0 h) fun v2 h1 => (bnd (fJ6_bitCount_0f7a4 a1 h1) fun v4 h3 => (if v2 < v4 then (some ((1 : Int32), h3)) else (some ((0 : Int32), h3))))))
set_option maxHeartbeats 4000000 in
set_option maxRecDepth 4000 in
theorem uX5_fewer {l : Launch} {X : WX} {a0 : Int32} {a1 : Int32} {h h' : AH} {v : Int32} (hf : fX5_fewer a0 a1 h = some (v, h')) : Does l X 2 yX5_fewer cX5_fewer 2 (some .boolean) [.int a0, .int a1] h (eI v) h' := by
  refine Does.of (enc := eI) (o := fX5_fewer a0 a1 h) (lv := [(0, .int a0), (1, .int a1)]) (by decide) (Nat.le_of_ble_eq_true rfl) rfl hf (fun K hl hK => ?_)
  subst hl
  unfold fX5_fewer
  refine J_iload_n hK dX5_fewer_0 1 rfl ?_
  refine J_ldc hK dX5_fewer_1 kK_X5_202 ?_
  refine J_icmp_eq (tgt := 17) hK dX5_fewer_3 (by decide) ?_ ?_
  · refine J_iconst hK dX5_fewer_17 ci_1 ?_
    refine J_goto (len := 0) (tgt := 22) hK dX5_fewer_18 (by decide) ?_
    exact J_zret1 hK dX5_fewer_22
  · refine J_iload_n hK dX5_fewer_6 0 rfl ?_
    refine J_callSi (As := [.int a0]) (st := []) hK dX5_fewer_7 kB_X5_248 kS_J6_bitCount_0f7a4 (by decide) rfl rfl (Nat.le_of_ble_eq_true rfl) (fun _ _ hf => uJ6_bitCount_0f7a4  hf) (fun v2 h1 => ?_)
    refine J_iload_n hK dX5_fewer_10 1 rfl ?_
    refine J_callSi (As := [.int a1]) (st := [.int v2]) hK dX5_fewer_11 kB_X5_248 kS_J6_bitCount_0f7a4 (by decide) rfl rfl (Nat.le_of_ble_eq_true rfl) (fun _ _ hf => uJ6_bitCount_0f7a4  hf) (fun v4 h3 => ?_)
    refine J_icmp_ge (tgt := 21) hK dX5_fewer_14 (by decide) ?_ ?_
    · refine J_iconst hK dX5_fewer_17 ci_1 ?_
      refine J_goto (len := 0) (tgt := 22) hK dX5_fewer_18 (by decide) ?_
      exact J_zret1 hK dX5_fewer_22
    · refine J_iconst hK dX5_fewer_21 ci_0 ?_
      exact J_zret0 hK dX5_fewer_22
-- X5_fromNow
theorem dX5_fromNow_0 : DD cX5_fromNow 0 (.aload_n 0) 1 1 := by decide +kernel
theorem dX5_fromNow_1 : DD cX5_fromNow 1 (.getfield 41) 3 4 := by decide +kernel
theorem dX5_fromNow_4 : DD cX5_fromNow 4 (.iconst 0) 1 5 := by decide +kernel
theorem dX5_fromNow_5 : DD cX5_fromNow 5 (.aaload) 1 6 := by decide +kernel
theorem dX5_fromNow_6 : DD cX5_fromNow 6 (.aload_n 0) 1 7 := by decide +kernel
theorem dX5_fromNow_7 : DD cX5_fromNow 7 (.getfield 26) 3 10 := by decide +kernel
theorem dX5_fromNow_10 : DD cX5_fromNow 10 (.invokevirtual 111) 3 13 := by decide +kernel
theorem dX5_fromNow_13 : DD cX5_fromNow 13 (.aload_n 0) 1 14 := by decide +kernel
theorem dX5_fromNow_14 : DD cX5_fromNow 14 (.getfield 41) 3 17 := by decide +kernel
theorem dX5_fromNow_17 : DD cX5_fromNow 17 (.iconst 0) 1 18 := by decide +kernel
theorem dX5_fromNow_18 : DD cX5_fromNow 18 (.aaload) 1 19 := by decide +kernel
theorem dX5_fromNow_19 : DD cX5_fromNow 19 (.areturn) 1 20 := by decide +kernel
def fX5_fromNow (h : AH) : Option (Nat × AH) := (chk (inb (0 : Int32) (ln 212)) (bnd (fX2_take (212 + 1 + 7 * Int32.toNatClampNeg (0 : Int32)) 20 h) fun _ h2 => (chk (inb (0 : Int32) (ln 212)) (some ((212 + 1 + 7 * Int32.toNatClampNeg (0 : Int32)), h2)))))
set_option maxHeartbeats 4000000 in
set_option maxRecDepth 4000 in
theorem uX5_fromNow {l : Launch} {X : WX} {h h' : AH} {v : Nat} (hf : fX5_fromNow  h = some (v, h')) : Does l X 2 yX5_fromNow cX5_fromNow 1 (some (.object "TugLines$Estuary")) [.ref (X.1 + 0)] h ((eR X) v) h' := by
  refine Does.of (enc := (eR X)) (o := fX5_fromNow  h) (lv := [(0, .ref (X.1 + 0))]) (by decide) (Nat.le_of_ble_eq_true rfl) rfl hf (fun K hl hK => ?_)
  subst hl
  unfold fX5_fromNow
  refine J_aload_n hK dX5_fromNow_0 0 rfl ?_
  refine rF_X5_41 (q2 := 212) hK dX5_fromNow_1 kd_0 rfl ?_
  refine J_iconst hK dX5_fromNow_4 ci_0 ?_
  refine J_aaldE hK dX5_fromNow_5 kd_212 (fun q1 => ?_)
  refine J_aload_n hK dX5_fromNow_6 0 rfl ?_
  refine rF_X5_26 (q2 := 20) hK dX5_fromNow_7 kd_0 rfl ?_
  refine J_callVv (q := (212 + 1 + 7 * Int32.toNatClampNeg (0 : Int32))) (As := [.ref (X.1 + 20)]) (st := []) hK dX5_fromNow_10 kB_X5_111 kV_X2_take (kdA_212 q1) (by decide) rfl rfl (by decide) rfl rfl (Nat.le_of_ble_eq_true rfl) (fun _ _ hf => uX2_take (kdA_212 q1) kd_20 hf) (fun _ h2 => ?_)
  refine J_aload_n hK dX5_fromNow_13 0 rfl ?_
  refine rF_X5_41 (q2 := 212) hK dX5_fromNow_14 kd_0 rfl ?_
  refine J_iconst hK dX5_fromNow_17 ci_0 ?_
  refine J_aaldE hK dX5_fromNow_18 kd_212 (fun q3 => ?_)
  exact J_aret hK dX5_fromNow_19
-- X5_image
theorem dX5_image_0 : DD cX5_image 0 (.iload_n 1) 1 1 := by decide +kernel
theorem dX5_image_1 : DD cX5_image 1 (.invokestatic 253) 3 4 := by decide +kernel
theorem dX5_image_4 : DD cX5_image 4 (.ifCond .eq 6) 3 7 := by decide +kernel
theorem dX5_image_7 : DD cX5_image 7 (.ldc 55) 2 9 := by decide +kernel
theorem dX5_image_9 : DD cX5_image 9 (.ireturn) 1 10 := by decide +kernel
theorem dX5_image_10 : DD cX5_image 10 (.aload_n 0) 1 11 := by decide +kernel
theorem dX5_image_11 : DD cX5_image 11 (.invokevirtual 124) 3 14 := by decide +kernel
theorem dX5_image_14 : DD cX5_image 14 (.ifCond .eq 6) 3 17 := by decide +kernel
theorem dX5_image_17 : DD cX5_image 17 (.ldc 127) 2 19 := by decide +kernel
theorem dX5_image_19 : DD cX5_image 19 (.ireturn) 1 20 := by decide +kernel
theorem dX5_image_20 : DD cX5_image 20 (.aload_n 0) 1 21 := by decide +kernel
theorem dX5_image_21 : DD cX5_image 21 (.getfield 37) 3 24 := by decide +kernel
theorem dX5_image_24 : DD cX5_image 24 (.iload_n 1) 1 25 := by decide +kernel
theorem dX5_image_25 : DD cX5_image 25 (.aaload) 1 26 := by decide +kernel
theorem dX5_image_26 : DD cX5_image 26 (.aload_n 0) 1 27 := by decide +kernel
theorem dX5_image_27 : DD cX5_image 27 (.getfield 26) 3 30 := by decide +kernel
theorem dX5_image_30 : DD cX5_image 30 (.invokevirtual 111) 3 33 := by decide +kernel
theorem dX5_image_33 : DD cX5_image 33 (.iconst 1) 1 34 := by decide +kernel
theorem dX5_image_34 : DD cX5_image 34 (.ireturn) 1 35 := by decide +kernel
def fX5_image (a1 : Int32) (h : AH) : Option (Int32 × AH) := (bnd (fX5_noImage a1 h) fun v2 h1 => (if v2 = 0 then (bnd (fX5_noEstuary  h1) fun v4 h3 => (if v4 = 0 then (chk (inb a1 (ln 197)) (bnd (fX2_take (197 + 1 + 7 * Int32.toNatClampNeg a1) 20 h3) fun _ h6 => (some ((1 : Int32), h6)))) else (some ((-1000002 : Int32), h3)))) else (some ((-1000001 : Int32), h1))))
set_option maxHeartbeats 4000000 in
set_option maxRecDepth 4000 in
theorem uX5_image {l : Launch} {X : WX} {a1 : Int32} {h h' : AH} {v : Int32} (hf : fX5_image a1 h = some (v, h')) : Does l X 2 yX5_image cX5_image 2 (some .int) [.ref (X.1 + 0), .int a1] h (eI v) h' := by
  refine Does.of (enc := eI) (o := fX5_image a1 h) (lv := [(0, .ref (X.1 + 0)), (1, .int a1)]) (by decide) (Nat.le_of_ble_eq_true rfl) rfl hf (fun K hl hK => ?_)
  subst hl
  unfold fX5_image
  refine J_iload_n hK dX5_image_0 1 rfl ?_
  refine J_callSi (As := [.int a1]) (st := []) hK dX5_image_1 kB_X5_253 kS_X5_noImage (by decide) rfl rfl (Nat.le_of_ble_eq_true rfl) (fun _ _ hf => uX5_noImage  hf) (fun v2 h1 => ?_)
  refine J_if_eq (tgt := 10) hK dX5_image_4 (by decide) ?_ ?_
  · refine J_aload_n hK dX5_image_10 0 rfl ?_
    refine J_callVi (q := 0) (As := []) (st := []) hK dX5_image_11 kB_X5_124 kV_X5_noEstuary kd_0 (by decide) rfl rfl (by decide) rfl rfl (Nat.le_of_ble_eq_true rfl) (fun _ _ hf => uX5_noEstuary  hf) (fun v4 h3 => ?_)
    refine J_if_eq (tgt := 20) hK dX5_image_14 (by decide) ?_ ?_
    · refine J_aload_n hK dX5_image_20 0 rfl ?_
      refine rF_X5_37 (q2 := 197) hK dX5_image_21 kd_0 rfl ?_
      refine J_iload_n hK dX5_image_24 1 rfl ?_
      refine J_aaldE hK dX5_image_25 kd_197 (fun q5 => ?_)
      refine J_aload_n hK dX5_image_26 0 rfl ?_
      refine rF_X5_26 (q2 := 20) hK dX5_image_27 kd_0 rfl ?_
      refine J_callVv (q := (197 + 1 + 7 * Int32.toNatClampNeg a1)) (As := [.ref (X.1 + 20)]) (st := []) hK dX5_image_30 kB_X5_111 kV_X2_take (kdA_197 q5) (by decide) rfl rfl (by decide) rfl rfl (Nat.le_of_ble_eq_true rfl) (fun _ _ hf => uX2_take (kdA_197 q5) kd_20 hf) (fun _ h6 => ?_)
      refine J_iconst hK dX5_image_33 ci_1 ?_
      exact J_iret hK dX5_image_34
    · refine J_ldc hK dX5_image_17 kK_X5_127 ?_
      exact J_iret hK dX5_image_19
  · refine J_ldc hK dX5_image_7 kK_X5_55 ?_
    exact J_iret hK dX5_image_9
-- X5_kind
theorem dX5_kind_0 : DD cX5_kind 0 (.aload_n 0) 1 1 := by decide +kernel
theorem dX5_kind_1 : DD cX5_kind 1 (.iload_n 1) 1 2 := by decide +kernel
theorem dX5_kind_2 : DD cX5_kind 2 (.invokevirtual 141) 3 5 := by decide +kernel
theorem dX5_kind_5 : DD cX5_kind 5 (.ifCond .eq 8) 3 8 := by decide +kernel
theorem dX5_kind_8 : DD cX5_kind 8 (.ldc 55) 2 10 := by decide +kernel
theorem dX5_kind_10 : DD cX5_kind 10 (.goto 12) 3 13 := by decide +kernel
theorem dX5_kind_13 : DD cX5_kind 13 (.aload_n 0) 1 14 := by decide +kernel
theorem dX5_kind_14 : DD cX5_kind 14 (.getfield 26) 3 17 := by decide +kernel
theorem dX5_kind_17 : DD cX5_kind 17 (.getfield 256) 3 20 := by decide +kernel
theorem dX5_kind_20 : DD cX5_kind 20 (.iload_n 1) 1 21 := by decide +kernel
theorem dX5_kind_21 : DD cX5_kind 21 (.iaload) 1 22 := by decide +kernel
theorem dX5_kind_22 : DD cX5_kind 22 (.ireturn) 1 23 := by decide +kernel
def fX5_kind (a1 : Int32) (h : AH) : Option (Int32 × AH) := (bnd (fX5_noTug a1 h) fun v2 h1 => (if v2 = 0 then (chk (inb a1 (ln 21)) (some ((h1 21 (Int32.toNatClampNeg a1)), h1))) else (some ((-1000001 : Int32), h1))))
set_option maxHeartbeats 4000000 in
set_option maxRecDepth 4000 in
theorem uX5_kind {l : Launch} {X : WX} {a1 : Int32} {h h' : AH} {v : Int32} (hf : fX5_kind a1 h = some (v, h')) : Does l X 2 yX5_kind cX5_kind 2 (some .int) [.ref (X.1 + 0), .int a1] h (eI v) h' := by
  refine Does.of (enc := eI) (o := fX5_kind a1 h) (lv := [(0, .ref (X.1 + 0)), (1, .int a1)]) (by decide) (Nat.le_of_ble_eq_true rfl) rfl hf (fun K hl hK => ?_)
  subst hl
  unfold fX5_kind
  refine J_aload_n hK dX5_kind_0 0 rfl ?_
  refine J_iload_n hK dX5_kind_1 1 rfl ?_
  refine J_callVi (q := 0) (As := [.int a1]) (st := []) hK dX5_kind_2 kB_X5_141 kV_X5_noTug kd_0 (by decide) rfl rfl (by decide) rfl rfl (Nat.le_of_ble_eq_true rfl) (fun _ _ hf => uX5_noTug  hf) (fun v2 h1 => ?_)
  refine J_if_eq (tgt := 13) hK dX5_kind_5 (by decide) ?_ ?_
  · refine J_aload_n hK dX5_kind_13 0 rfl ?_
    refine rF_X5_26 (q2 := 20) hK dX5_kind_14 kd_0 rfl ?_
    refine rF_X5_256 (q2 := 21) hK dX5_kind_17 kd_20 rfl ?_
    refine J_iload_n hK dX5_kind_20 1 rfl ?_
    refine J_iald hK dX5_kind_21 kd_21 (fun _ => ?_)
    exact J_iret hK dX5_kind_22
  · refine J_ldc hK dX5_kind_8 kK_X5_55 ?_
    refine J_goto (len := 0) (tgt := 22) hK dX5_kind_10 (by decide) ?_
    exact J_iret hK dX5_kind_22
-- X5_pier
theorem dX5_pier_0 : DD cX5_pier 0 (.aload_n 0) 1 1 := by decide +kernel
theorem dX5_pier_1 : DD cX5_pier 1 (.iload_n 1) 1 2 := by decide +kernel
theorem dX5_pier_2 : DD cX5_pier 2 (.invokevirtual 163) 3 5 := by decide +kernel
theorem dX5_pier_5 : DD cX5_pier 5 (.ifCond .eq 6) 3 8 := by decide +kernel
theorem dX5_pier_8 : DD cX5_pier 8 (.ldc 55) 2 10 := by decide +kernel
theorem dX5_pier_10 : DD cX5_pier 10 (.ireturn) 1 11 := by decide +kernel
theorem dX5_pier_11 : DD cX5_pier 11 (.iload_n 2) 1 12 := by decide +kernel
theorem dX5_pier_12 : DD cX5_pier 12 (.lookupswitch 48 #[(0, 28), (1, 38)]) 28 40 := by decide +kernel
theorem dX5_pier_40 : DD cX5_pier 40 (.aload_n 0) 1 41 := by decide +kernel
theorem dX5_pier_41 : DD cX5_pier 41 (.getfield 26) 3 44 := by decide +kernel
theorem dX5_pier_44 : DD cX5_pier 44 (.getfield 182) 3 47 := by decide +kernel
theorem dX5_pier_47 : DD cX5_pier 47 (.iload_n 1) 1 48 := by decide +kernel
theorem dX5_pier_48 : DD cX5_pier 48 (.iaload) 1 49 := by decide +kernel
theorem dX5_pier_49 : DD cX5_pier 49 (.ireturn) 1 50 := by decide +kernel
theorem dX5_pier_50 : DD cX5_pier 50 (.aload_n 0) 1 51 := by decide +kernel
theorem dX5_pier_51 : DD cX5_pier 51 (.getfield 26) 3 54 := by decide +kernel
theorem dX5_pier_54 : DD cX5_pier 54 (.getfield 166) 3 57 := by decide +kernel
theorem dX5_pier_57 : DD cX5_pier 57 (.iload_n 1) 1 58 := by decide +kernel
theorem dX5_pier_58 : DD cX5_pier 58 (.iaload) 1 59 := by decide +kernel
theorem dX5_pier_59 : DD cX5_pier 59 (.ireturn) 1 60 := by decide +kernel
theorem dX5_pier_60 : DD cX5_pier 60 (.ldc 55) 2 62 := by decide +kernel
theorem dX5_pier_62 : DD cX5_pier 62 (.ireturn) 1 63 := by decide +kernel
def fX5_pier (a1 : Int32) (a2 : Int32) (h : AH) : Option (Int32 × AH) := (bnd (fX5_noPier a1 h) fun v2 h1 => (if v2 = 0 then (if a2 = (0 : Int32) then (chk (inb a1 (ln 25)) (some ((h1 25 (Int32.toNatClampNeg a1)), h1))) else (if a2 = (1 : Int32) then (chk (inb a1 (ln 26)) (some ((h1 26 (Int32.toNatClampNeg a1)), h1))) else (some ((-1000001 : Int32), h1)))) else (some ((-1000001 : Int32), h1))))
set_option maxHeartbeats 4000000 in
set_option maxRecDepth 4000 in
theorem uX5_pier {l : Launch} {X : WX} {a1 : Int32} {a2 : Int32} {h h' : AH} {v : Int32} (hf : fX5_pier a1 a2 h = some (v, h')) : Does l X 2 yX5_pier cX5_pier 3 (some .int) [.ref (X.1 + 0), .int a1, .int a2] h (eI v) h' := by
  refine Does.of (enc := eI) (o := fX5_pier a1 a2 h) (lv := [(0, .ref (X.1 + 0)), (1, .int a1), (2, .int a2)]) (by decide) (Nat.le_of_ble_eq_true rfl) rfl hf (fun K hl hK => ?_)
  subst hl
  unfold fX5_pier
  refine J_aload_n hK dX5_pier_0 0 rfl ?_
  refine J_iload_n hK dX5_pier_1 1 rfl ?_
  refine J_callVi (q := 0) (As := [.int a1]) (st := []) hK dX5_pier_2 kB_X5_163 kV_X5_noPier kd_0 (by decide) rfl rfl (by decide) rfl rfl (Nat.le_of_ble_eq_true rfl) (fun _ _ hf => uX5_noPier  hf) (fun v2 h1 => ?_)
  refine J_if_eq (tgt := 11) hK dX5_pier_5 (by decide) ?_ ?_
  · refine J_iload_n hK dX5_pier_11 2 rfl ?_
    refine J_split (c := a2 = (0 : Int32)) (fun e3 => ?_) (fun e3 => ?_)
    · refine J_lookup (off := 28) (tgt := 40) hK dX5_pier_12 (by decide) (by rw [e3]; decide) (by decide) ?_
      refine J_aload_n hK dX5_pier_40 0 rfl ?_
      refine rF_X5_26 (q2 := 20) hK dX5_pier_41 kd_0 rfl ?_
      refine rF_X5_182 (q2 := 25) hK dX5_pier_44 kd_20 rfl ?_
      refine J_iload_n hK dX5_pier_47 1 rfl ?_
      refine J_iald hK dX5_pier_48 kd_25 (fun _ => ?_)
      exact J_iret hK dX5_pier_49
    refine J_split (c := a2 = (1 : Int32)) (fun e4 => ?_) (fun e4 => ?_)
    · refine J_lookup (off := 38) (tgt := 50) hK dX5_pier_12 (by decide) (by rw [e4]; decide) (by decide) ?_
      refine J_aload_n hK dX5_pier_50 0 rfl ?_
      refine rF_X5_26 (q2 := 20) hK dX5_pier_51 kd_0 rfl ?_
      refine rF_X5_166 (q2 := 26) hK dX5_pier_54 kd_20 rfl ?_
      refine J_iload_n hK dX5_pier_57 1 rfl ?_
      refine J_iald hK dX5_pier_58 kd_26 (fun _ => ?_)
      exact J_iret hK dX5_pier_59
    refine J_lookup (off := 48) (tgt := 60) hK dX5_pier_12 (by decide) (lk_out _ [0, 1] (by decide) (nl1 e3 (nl1 e4 nl0))) (by decide) ?_
    refine J_ldc hK dX5_pier_60 kK_X5_55 ?_
    exact J_iret hK dX5_pier_62
  · refine J_ldc hK dX5_pier_8 kK_X5_55 ?_
    exact J_iret hK dX5_pier_10
-- X5_restore
theorem dX5_restore_0 : DD cX5_restore 0 (.iload_n 1) 1 1 := by decide +kernel
theorem dX5_restore_1 : DD cX5_restore 1 (.invokestatic 253) 3 4 := by decide +kernel
theorem dX5_restore_4 : DD cX5_restore 4 (.ifCond .eq 6) 3 7 := by decide +kernel
theorem dX5_restore_7 : DD cX5_restore 7 (.ldc 55) 2 9 := by decide +kernel
theorem dX5_restore_9 : DD cX5_restore 9 (.ireturn) 1 10 := by decide +kernel
theorem dX5_restore_10 : DD cX5_restore 10 (.aload_n 0) 1 11 := by decide +kernel
theorem dX5_restore_11 : DD cX5_restore 11 (.getfield 37) 3 14 := by decide +kernel
theorem dX5_restore_14 : DD cX5_restore 14 (.iload_n 1) 1 15 := by decide +kernel
theorem dX5_restore_15 : DD cX5_restore 15 (.aaload) 1 16 := by decide +kernel
theorem dX5_restore_16 : DD cX5_restore 16 (.getfield 118) 3 19 := by decide +kernel
theorem dX5_restore_19 : DD cX5_restore 19 (.ifCond .ne 6) 3 22 := by decide +kernel
theorem dX5_restore_22 : DD cX5_restore 22 (.ldc 127) 2 24 := by decide +kernel
theorem dX5_restore_24 : DD cX5_restore 24 (.ireturn) 1 25 := by decide +kernel
theorem dX5_restore_25 : DD cX5_restore 25 (.aload_n 0) 1 26 := by decide +kernel
theorem dX5_restore_26 : DD cX5_restore 26 (.getfield 26) 3 29 := by decide +kernel
theorem dX5_restore_29 : DD cX5_restore 29 (.aload_n 0) 1 30 := by decide +kernel
theorem dX5_restore_30 : DD cX5_restore 30 (.getfield 37) 3 33 := by decide +kernel
theorem dX5_restore_33 : DD cX5_restore 33 (.iload_n 1) 1 34 := by decide +kernel
theorem dX5_restore_34 : DD cX5_restore 34 (.aaload) 1 35 := by decide +kernel
theorem dX5_restore_35 : DD cX5_restore 35 (.invokevirtual 111) 3 38 := by decide +kernel
theorem dX5_restore_38 : DD cX5_restore 38 (.aload_n 0) 1 39 := by decide +kernel
theorem dX5_restore_39 : DD cX5_restore 39 (.getfield 33) 3 42 := by decide +kernel
theorem dX5_restore_42 : DD cX5_restore 42 (.invokevirtual 115) 3 45 := by decide +kernel
theorem dX5_restore_45 : DD cX5_restore 45 (.iconst 1) 1 46 := by decide +kernel
theorem dX5_restore_46 : DD cX5_restore 46 (.ireturn) 1 47 := by decide +kernel
def fX5_restore (a1 : Int32) (h : AH) : Option (Int32 × AH) := (bnd (fX5_noImage a1 h) fun v2 h1 => (if v2 = 0 then (chk (inb a1 (ln 197)) (if (h1 (197 + 1 + 7 * Int32.toNatClampNeg a1) 0) = 0 then (some ((-1000002 : Int32), h1)) else (chk (inb a1 (ln 197)) (bnd (fX2_take 20 (197 + 1 + 7 * Int32.toNatClampNeg a1) h1) fun _ h5 => (bnd (fX0_forget  h5) fun _ h6 => (some ((1 : Int32), h6))))))) else (some ((-1000001 : Int32), h1))))
set_option maxHeartbeats 4000000 in
set_option maxRecDepth 4000 in
theorem uX5_restore {l : Launch} {X : WX} {a1 : Int32} {h h' : AH} {v : Int32} (hf : fX5_restore a1 h = some (v, h')) : Does l X 2 yX5_restore cX5_restore 2 (some .int) [.ref (X.1 + 0), .int a1] h (eI v) h' := by
  refine Does.of (enc := eI) (o := fX5_restore a1 h) (lv := [(0, .ref (X.1 + 0)), (1, .int a1)]) (by decide) (Nat.le_of_ble_eq_true rfl) rfl hf (fun K hl hK => ?_)
  subst hl
  unfold fX5_restore
  refine J_iload_n hK dX5_restore_0 1 rfl ?_
  refine J_callSi (As := [.int a1]) (st := []) hK dX5_restore_1 kB_X5_253 kS_X5_noImage (by decide) rfl rfl (Nat.le_of_ble_eq_true rfl) (fun _ _ hf => uX5_noImage  hf) (fun v2 h1 => ?_)
  refine J_if_eq (tgt := 10) hK dX5_restore_4 (by decide) ?_ ?_
  · refine J_aload_n hK dX5_restore_10 0 rfl ?_
    refine rF_X5_37 (q2 := 197) hK dX5_restore_11 kd_0 rfl ?_
    refine J_iload_n hK dX5_restore_14 1 rfl ?_
    refine J_aaldE hK dX5_restore_15 kd_197 (fun q3 => ?_)
    refine gF_X5_118 hK dX5_restore_16 (kdA_197 q3) ?_
    refine J_if_ne (tgt := 25) hK dX5_restore_19 (by decide) ?_ ?_
    · refine J_ldc hK dX5_restore_22 kK_X5_127 ?_
      exact J_iret hK dX5_restore_24
    · refine J_aload_n hK dX5_restore_25 0 rfl ?_
      refine rF_X5_26 (q2 := 20) hK dX5_restore_26 kd_0 rfl ?_
      refine J_aload_n hK dX5_restore_29 0 rfl ?_
      refine rF_X5_37 (q2 := 197) hK dX5_restore_30 kd_0 rfl ?_
      refine J_iload_n hK dX5_restore_33 1 rfl ?_
      refine J_aaldE hK dX5_restore_34 kd_197 (fun q4 => ?_)
      refine J_callVv (q := 20) (As := [.ref (X.1 + (197 + 1 + 7 * Int32.toNatClampNeg a1))]) (st := []) hK dX5_restore_35 kB_X5_111 kV_X2_take kd_20 (by decide) rfl rfl (by decide) rfl rfl (Nat.le_of_ble_eq_true rfl) (fun _ _ hf => uX2_take kd_20 (kdA_197 q4) hf) (fun _ h5 => ?_)
      refine J_aload_n hK dX5_restore_38 0 rfl ?_
      refine rF_X5_33 (q2 := 27) hK dX5_restore_39 kd_0 rfl ?_
      refine J_callVv (q := 27) (As := []) (st := []) hK dX5_restore_42 kB_X5_115 kV_X0_forget kd_27 (by decide) rfl rfl (by decide) rfl rfl (Nat.le_of_ble_eq_true rfl) (fun _ _ hf => uX0_forget  hf) (fun _ h6 => ?_)
      refine J_iconst hK dX5_restore_45 ci_1 ?_
      exact J_iret hK dX5_restore_46
  · refine J_ldc hK dX5_restore_7 kK_X5_55 ?_
    exact J_iret hK dX5_restore_9
-- X5_row
theorem dX5_row_0 : DD cX5_row 0 (.iload_n 1) 1 1 := by decide +kernel
theorem dX5_row_1 : DD cX5_row 1 (.invokestatic 51) 3 4 := by decide +kernel
theorem dX5_row_4 : DD cX5_row 4 (.ifCond .ne 18) 3 7 := by decide +kernel
theorem dX5_row_7 : DD cX5_row 7 (.iload_n 2) 1 8 := by decide +kernel
theorem dX5_row_8 : DD cX5_row 8 (.ifCond .lt 14) 3 11 := by decide +kernel
theorem dX5_row_11 : DD cX5_row 11 (.iload_n 2) 1 12 := by decide +kernel
theorem dX5_row_12 : DD cX5_row 12 (.iconst 2) 1 13 := by decide +kernel
theorem dX5_row_13 : DD cX5_row 13 (.if_icmp .gt 9) 3 16 := by decide +kernel
theorem dX5_row_16 : DD cX5_row 16 (.iload_n 3) 1 17 := by decide +kernel
theorem dX5_row_17 : DD cX5_row 17 (.bipush 40) 2 19 := by decide +kernel
theorem dX5_row_19 : DD cX5_row 19 (.if_icmp .le 6) 3 22 := by decide +kernel
theorem dX5_row_22 : DD cX5_row 22 (.ldc 55) 2 24 := by decide +kernel
theorem dX5_row_24 : DD cX5_row 24 (.ireturn) 1 25 := by decide +kernel
theorem dX5_row_25 : DD cX5_row 25 (.iload_n 3) 1 26 := by decide +kernel
theorem dX5_row_26 : DD cX5_row 26 (.ifCond .ge 9) 3 29 := by decide +kernel
theorem dX5_row_29 : DD cX5_row 29 (.aload_n 0) 1 30 := by decide +kernel
theorem dX5_row_30 : DD cX5_row 30 (.iconst 4) 1 31 := by decide +kernel
theorem dX5_row_31 : DD cX5_row 31 (.invokevirtual 56) 3 34 := by decide +kernel
theorem dX5_row_34 : DD cX5_row 34 (.ireturn) 1 35 := by decide +kernel
theorem dX5_row_35 : DD cX5_row 35 (.aload_n 0) 1 36 := by decide +kernel
theorem dX5_row_36 : DD cX5_row 36 (.getfield 11) 3 39 := by decide +kernel
theorem dX5_row_39 : DD cX5_row 39 (.iload_n 1) 1 40 := by decide +kernel
theorem dX5_row_40 : DD cX5_row 40 (.aaload) 1 41 := by decide +kernel
theorem dX5_row_41 : DD cX5_row 41 (.iload_n 2) 1 42 := by decide +kernel
theorem dX5_row_42 : DD cX5_row 42 (.iload_n 3) 1 43 := by decide +kernel
theorem dX5_row_43 : DD cX5_row 43 (.invokevirtual 60) 3 46 := by decide +kernel
theorem dX5_row_46 : DD cX5_row 46 (.aload_n 0) 1 47 := by decide +kernel
theorem dX5_row_47 : DD cX5_row 47 (.iload_n 3) 1 48 := by decide +kernel
theorem dX5_row_48 : DD cX5_row 48 (.invokevirtual 64) 3 51 := by decide +kernel
theorem dX5_row_51 : DD cX5_row 51 (.ireturn) 1 52 := by decide +kernel
def fX5_row (a1 : Int32) (a2 : Int32) (a3 : Int32) (h : AH) : Option (Int32 × AH) := (bnd (fX5_noRow a1 h) fun v2 h1 => (if v2 = 0 then (if a2 < 0 then (some ((-1000001 : Int32), h1)) else (if (2 : Int32) < a2 then (some ((-1000001 : Int32), h1)) else (if (40 : Int32) < a3 then (some ((-1000001 : Int32), h1)) else (if a3 < 0 then (bnd (fX5_found (4 : Int32) h1) fun v4 h3 => (some (v4, h3))) else (chk (inb a1 (ln 1)) (bnd (fX3_begin (1 + 1 + 2 * Int32.toNatClampNeg a1) a2 a3 h1) fun _ h6 => (bnd (fX5_well a3 h6) fun v8 h7 => (some (v8, h7))))))))) else (some ((-1000001 : Int32), h1))))
set_option maxHeartbeats 4000000 in
set_option maxRecDepth 4000 in
theorem uX5_row {l : Launch} {X : WX} {a1 : Int32} {a2 : Int32} {a3 : Int32} {h h' : AH} {v : Int32} (hf : fX5_row a1 a2 a3 h = some (v, h')) : Does l X 2 yX5_row cX5_row 4 (some .int) [.ref (X.1 + 0), .int a1, .int a2, .int a3] h (eI v) h' := by
  refine Does.of (enc := eI) (o := fX5_row a1 a2 a3 h) (lv := [(0, .ref (X.1 + 0)), (1, .int a1), (2, .int a2), (3, .int a3)]) (by decide) (Nat.le_of_ble_eq_true rfl) rfl hf (fun K hl hK => ?_)
  subst hl
  unfold fX5_row
  refine J_iload_n hK dX5_row_0 1 rfl ?_
  refine J_callSi (As := [.int a1]) (st := []) hK dX5_row_1 kB_X5_51 kS_X5_noRow (by decide) rfl rfl (Nat.le_of_ble_eq_true rfl) (fun _ _ hf => uX5_noRow  hf) (fun v2 h1 => ?_)
  refine J_if_ne (tgt := 22) hK dX5_row_4 (by decide) ?_ ?_
  · refine J_iload_n hK dX5_row_7 2 rfl ?_
    refine J_if_lt (tgt := 22) hK dX5_row_8 (by decide) ?_ ?_
    · refine J_ldc hK dX5_row_22 kK_X5_55 ?_
      exact J_iret hK dX5_row_24
    · refine J_iload_n hK dX5_row_11 2 rfl ?_
      refine J_iconst hK dX5_row_12 ci_2 ?_
      refine J_icmp_gt (tgt := 22) hK dX5_row_13 (by decide) ?_ ?_
      · refine J_ldc hK dX5_row_22 kK_X5_55 ?_
        exact J_iret hK dX5_row_24
      · refine J_iload_n hK dX5_row_16 3 rfl ?_
        refine J_bipush hK dX5_row_17 cb_40 ?_
        refine J_icmp_le (tgt := 25) hK dX5_row_19 (by decide) ?_ ?_
        · refine J_ldc hK dX5_row_22 kK_X5_55 ?_
          exact J_iret hK dX5_row_24
        · refine J_iload_n hK dX5_row_25 3 rfl ?_
          refine J_if_ge (tgt := 35) hK dX5_row_26 (by decide) ?_ ?_
          · refine J_aload_n hK dX5_row_29 0 rfl ?_
            refine J_iconst hK dX5_row_30 ci_4 ?_
            refine J_callVi (q := 0) (As := [.int (4 : Int32)]) (st := []) hK dX5_row_31 kB_X5_56 kV_X5_found kd_0 (by decide) rfl rfl (by decide) rfl rfl (Nat.le_of_ble_eq_true rfl) (fun _ _ hf => uX5_found  hf) (fun v4 h3 => ?_)
            exact J_iret hK dX5_row_34
          · refine J_aload_n hK dX5_row_35 0 rfl ?_
            refine rF_X5_11 (q2 := 1) hK dX5_row_36 kd_0 rfl ?_
            refine J_iload_n hK dX5_row_39 1 rfl ?_
            refine J_aaldR hK dX5_row_40 kd_1 (fun q5 => ?_)
            refine J_iload_n hK dX5_row_41 2 rfl ?_
            refine J_iload_n hK dX5_row_42 3 rfl ?_
            refine J_callVv (q := (1 + 1 + 2 * Int32.toNatClampNeg a1)) (As := [.int a2, .int a3]) (st := []) hK dX5_row_43 kB_X5_60 kV_X3_begin (kdA_1 q5) (by decide) rfl rfl (by decide) rfl rfl (Nat.le_of_ble_eq_true rfl) (fun _ _ hf => uX3_begin (kdA_1 q5) hf) (fun _ h6 => ?_)
            refine J_aload_n hK dX5_row_46 0 rfl ?_
            refine J_iload_n hK dX5_row_47 3 rfl ?_
            refine J_callVi (q := 0) (As := [.int a3]) (st := []) hK dX5_row_48 kB_X5_64 kV_X5_well kd_0 (by decide) rfl rfl (by decide) rfl rfl (Nat.le_of_ble_eq_true rfl) (fun _ _ hf => uX5_well  hf) (fun v8 h7 => ?_)
            exact J_iret hK dX5_row_51
  · refine J_ldc hK dX5_row_22 kK_X5_55 ?_
    exact J_iret hK dX5_row_24
-- X5_rowsThere
theorem dX5_rowsThere_0 : DD cX5_rowsThere 0 (.iconst 0) 1 1 := by decide +kernel
theorem dX5_rowsThere_1 : DD cX5_rowsThere 1 (.istore_n 1) 1 2 := by decide +kernel
theorem dX5_rowsThere_2 : DD cX5_rowsThere 2 (.iconst 0) 1 3 := by decide +kernel
theorem dX5_rowsThere_3 : DD cX5_rowsThere 3 (.istore_n 2) 1 4 := by decide +kernel
theorem dX5_rowsThere_4 : DD cX5_rowsThere 4 (.iload_n 2) 1 5 := by decide +kernel
theorem dX5_rowsThere_5 : DD cX5_rowsThere 5 (.bipush 8) 2 7 := by decide +kernel
theorem dX5_rowsThere_7 : DD cX5_rowsThere 7 (.if_icmp .ge 29) 3 10 := by decide +kernel
theorem dX5_rowsThere_10 : DD cX5_rowsThere 10 (.iload_n 1) 1 11 := by decide +kernel
theorem dX5_rowsThere_11 : DD cX5_rowsThere 11 (.aload_n 0) 1 12 := by decide +kernel
theorem dX5_rowsThere_12 : DD cX5_rowsThere 12 (.getfield 11) 3 15 := by decide +kernel
theorem dX5_rowsThere_15 : DD cX5_rowsThere 15 (.iload_n 2) 1 16 := by decide +kernel
theorem dX5_rowsThere_16 : DD cX5_rowsThere 16 (.aaload) 1 17 := by decide +kernel
theorem dX5_rowsThere_17 : DD cX5_rowsThere 17 (.invokevirtual 67) 3 20 := by decide +kernel
theorem dX5_rowsThere_20 : DD cX5_rowsThere 20 (.ifCond .eq 7) 3 23 := by decide +kernel
theorem dX5_rowsThere_23 : DD cX5_rowsThere 23 (.iconst 0) 1 24 := by decide +kernel
theorem dX5_rowsThere_24 : DD cX5_rowsThere 24 (.goto 4) 3 27 := by decide +kernel
theorem dX5_rowsThere_27 : DD cX5_rowsThere 27 (.iconst 1) 1 28 := by decide +kernel
theorem dX5_rowsThere_28 : DD cX5_rowsThere 28 (.iadd) 1 29 := by decide +kernel
theorem dX5_rowsThere_29 : DD cX5_rowsThere 29 (.istore_n 1) 1 30 := by decide +kernel
theorem dX5_rowsThere_30 : DD cX5_rowsThere 30 (.iinc 2 1) 3 33 := by decide +kernel
theorem dX5_rowsThere_33 : DD cX5_rowsThere 33 (.goto (-29)) 3 36 := by decide +kernel
theorem dX5_rowsThere_36 : DD cX5_rowsThere 36 (.iload_n 1) 1 37 := by decide +kernel
theorem dX5_rowsThere_37 : DD cX5_rowsThere 37 (.ireturn) 1 38 := by decide +kernel
def fX5_rowsThere_L4 : Nat → Int32 → Int32 → AH → (Int32 → Int32 → AH → Option (Int32 × AH)) → Option (Int32 × AH)
  | 0, _, _, _, _ => none
  | n + 1, x2, x1, h, k => (if x2 < (8 : Int32) then (chk (inb x2 (ln 1)) (bnd (fX3_missing (1 + 1 + 2 * Int32.toNatClampNeg x2) h) fun v203 h202 => (if v203 = 0 then (vl (x1 + (1 : Int32)) fun z204 => (vl (x2 + (1 : Int32)) fun z205 => fX5_rowsThere_L4 n z205 z204 h202 k)) else (vl (x1 + (0 : Int32)) fun z206 => (vl (x2 + (1 : Int32)) fun z207 => fX5_rowsThere_L4 n z207 z206 h202 k))))) else k x2 x1 h)
def fX5_rowsThere (h : AH) : Option (Int32 × AH) := (fX5_rowsThere_L4  FU (0 : Int32) (0 : Int32) h fun z1 z2 h3 => (some (z2, h3)))
set_option maxHeartbeats 4000000 in
theorem gX5_rowsThere_L4 {K : MC} {X : WX} (hK : Ok K X RX5 cX5_rowsThere 3 (some .int) 2) {k : Int32 → Int32 → AH → Option (Int32 × AH)} (hk : ∀ (x2 : Int32) (x1 : Int32) (h : AH), J K X 3 (Zm K X) eI 36 [(2, .int x2), (1, .int x1), (0, .ref (X.1 + 0))] [] h (k x2 x1 h)) : ∀ (n : Nat) (x2 : Int32) (x1 : Int32) (h : AH), J K X 3 (Zm K X) eI 4 [(2, .int x2), (1, .int x1), (0, .ref (X.1 + 0))] [] h (fX5_rowsThere_L4  n x2 x1 h k) := by
  intro n
  induction n with
  | zero => exact fun _ _ _ => J_none
  | succ n ih =>
    intro x2 x1 h
    rw [fX5_rowsThere_L4]
    refine J_iload_n hK dX5_rowsThere_4 0 rfl ?_
    refine J_bipush hK dX5_rowsThere_5 cb_8 ?_
    refine J_icmp_ge (tgt := 36) hK dX5_rowsThere_7 (by decide) ?_ ?_
    · refine J_iload_n hK dX5_rowsThere_10 1 rfl ?_
      refine J_aload_n hK dX5_rowsThere_11 2 rfl ?_
      refine rF_X5_11 (q2 := 1) hK dX5_rowsThere_12 kd_0 rfl ?_
      refine J_iload_n hK dX5_rowsThere_15 0 rfl ?_
      refine J_aaldR hK dX5_rowsThere_16 kd_1 (fun q201 => ?_)
      refine J_callVi (q := (1 + 1 + 2 * Int32.toNatClampNeg x2)) (As := []) (st := [.int x1]) hK dX5_rowsThere_17 kB_X5_67 kV_X3_missing (kdA_1 q201) (by decide) rfl rfl (by decide) rfl rfl (Nat.le_of_ble_eq_true rfl) (fun _ _ hf => uX3_missing (kdA_1 q201) hf) (fun v203 h202 => ?_)
      refine J_if_eq (tgt := 27) hK dX5_rowsThere_20 (by decide) ?_ ?_
      · refine J_iconst hK dX5_rowsThere_27 ci_1 ?_
        refine J_iadd hK dX5_rowsThere_28 ?_
        refine J_istoreV_n (n := 1) (lw := [(2, .int x2), (0, .ref (X.1 + 0))]) hK dX5_rowsThere_29 rfl (by decide) rfl (fun z204 => ?_)
        refine J_iinc (lw := [(1, .int z204), (0, .ref (X.1 + 0))]) hK dX5_rowsThere_30 1 rfl (by decide) ci_1 rfl (fun z205 => ?_)
        refine J_goto (len := 0) (tgt := 4) hK dX5_rowsThere_33 (by decide) ?_
        exact J_sub [0, 1, 2] rfl (ih _ _ _)
      · refine J_iconst hK dX5_rowsThere_23 ci_0 ?_
        refine J_goto (len := 0) (tgt := 28) hK dX5_rowsThere_24 (by decide) ?_
        refine J_iadd hK dX5_rowsThere_28 ?_
        refine J_istoreV_n (n := 1) (lw := [(2, .int x2), (0, .ref (X.1 + 0))]) hK dX5_rowsThere_29 rfl (by decide) rfl (fun z206 => ?_)
        refine J_iinc (lw := [(1, .int z206), (0, .ref (X.1 + 0))]) hK dX5_rowsThere_30 1 rfl (by decide) ci_1 rfl (fun z207 => ?_)
        refine J_goto (len := 0) (tgt := 4) hK dX5_rowsThere_33 (by decide) ?_
        exact J_sub [0, 1, 2] rfl (ih _ _ _)
    · exact J_sub [0, 1, 2] rfl (hk _ _ _)
set_option maxHeartbeats 4000000 in
set_option maxRecDepth 4000 in
theorem uX5_rowsThere {l : Launch} {X : WX} {h h' : AH} {v : Int32} (hf : fX5_rowsThere  h = some (v, h')) : Does l X 2 yX5_rowsThere cX5_rowsThere 3 (some .int) [.ref (X.1 + 0)] h (eI v) h' := by
  refine Does.of (enc := eI) (o := fX5_rowsThere  h) (lv := [(0, .ref (X.1 + 0))]) (by decide) (Nat.le_of_ble_eq_true rfl) rfl hf (fun K hl hK => ?_)
  subst hl
  unfold fX5_rowsThere
  refine J_iconst hK dX5_rowsThere_0 ci_0 ?_
  refine J_istore_n (n := 1) (lw := [(0, .ref (X.1 + 0))]) hK dX5_rowsThere_1 rfl (by decide) rfl ?_
  refine J_iconst hK dX5_rowsThere_2 ci_0 ?_
  refine J_istore_n (n := 2) (lw := [(1, .int (0 : Int32)), (0, .ref (X.1 + 0))]) hK dX5_rowsThere_3 rfl (by decide) rfl ?_
  refine J_sub [0, 1, 2] rfl (gX5_rowsThere_L4 hK  (fun z1 z2 h3 => ?_) FU _ _ _)
  refine J_iload_n hK dX5_rowsThere_36 1 rfl ?_
  exact J_iret hK dX5_rowsThere_37
-- X5_set
theorem dX5_set_0 : DD cX5_set 0 (.iload_n 1) 1 1 := by decide +kernel
theorem dX5_set_1 : DD cX5_set 1 (.invokestatic 51) 3 4 := by decide +kernel
theorem dX5_set_4 : DD cX5_set 4 (.ifCond .eq 6) 3 7 := by decide +kernel
theorem dX5_set_7 : DD cX5_set 7 (.ldc 55) 2 9 := by decide +kernel
theorem dX5_set_9 : DD cX5_set 9 (.ireturn) 1 10 := by decide +kernel
theorem dX5_set_10 : DD cX5_set 10 (.aload_n 0) 1 11 := by decide +kernel
theorem dX5_set_11 : DD cX5_set 11 (.getfield 11) 3 14 := by decide +kernel
theorem dX5_set_14 : DD cX5_set 14 (.iload_n 1) 1 15 := by decide +kernel
theorem dX5_set_15 : DD cX5_set 15 (.aaload) 1 16 := by decide +kernel
theorem dX5_set_16 : DD cX5_set 16 (.astore 4) 2 18 := by decide +kernel
theorem dX5_set_18 : DD cX5_set 18 (.aload 4) 2 20 := by decide +kernel
theorem dX5_set_20 : DD cX5_set 20 (.invokevirtual 67) 3 23 := by decide +kernel
theorem dX5_set_23 : DD cX5_set 23 (.ifCond .eq 9) 3 26 := by decide +kernel
theorem dX5_set_26 : DD cX5_set 26 (.aload_n 0) 1 27 := by decide +kernel
theorem dX5_set_27 : DD cX5_set 27 (.iconst 1) 1 28 := by decide +kernel
theorem dX5_set_28 : DD cX5_set 28 (.invokevirtual 56) 3 31 := by decide +kernel
theorem dX5_set_31 : DD cX5_set 31 (.ireturn) 1 32 := by decide +kernel
theorem dX5_set_32 : DD cX5_set 32 (.aload 4) 2 34 := by decide +kernel
theorem dX5_set_34 : DD cX5_set 34 (.iload_n 2) 1 35 := by decide +kernel
theorem dX5_set_35 : DD cX5_set 35 (.iconst 1) 1 36 := by decide +kernel
theorem dX5_set_36 : DD cX5_set 36 (.invokevirtual 71) 3 39 := by decide +kernel
theorem dX5_set_39 : DD cX5_set 39 (.ifCond .ne 9) 3 42 := by decide +kernel
theorem dX5_set_42 : DD cX5_set 42 (.aload_n 0) 1 43 := by decide +kernel
theorem dX5_set_43 : DD cX5_set 43 (.iconst 2) 1 44 := by decide +kernel
theorem dX5_set_44 : DD cX5_set 44 (.invokevirtual 56) 3 47 := by decide +kernel
theorem dX5_set_47 : DD cX5_set 47 (.ireturn) 1 48 := by decide +kernel
theorem dX5_set_48 : DD cX5_set 48 (.aload 4) 2 50 := by decide +kernel
theorem dX5_set_50 : DD cX5_set 50 (.getfield 75) 3 53 := by decide +kernel
theorem dX5_set_53 : DD cX5_set 53 (.iload_n 2) 1 54 := by decide +kernel
theorem dX5_set_54 : DD cX5_set 54 (.aload 4) 2 56 := by decide +kernel
theorem dX5_set_56 : DD cX5_set 56 (.iload_n 3) 1 57 := by decide +kernel
theorem dX5_set_57 : DD cX5_set 57 (.invokevirtual 79) 3 60 := by decide +kernel
theorem dX5_set_60 : DD cX5_set 60 (.iastore) 1 61 := by decide +kernel
theorem dX5_set_61 : DD cX5_set 61 (.aload_n 0) 1 62 := by decide +kernel
theorem dX5_set_62 : DD cX5_set 62 (.aload 4) 2 64 := by decide +kernel
theorem dX5_set_64 : DD cX5_set 64 (.getfield 75) 3 67 := by decide +kernel
theorem dX5_set_67 : DD cX5_set 67 (.iload_n 2) 1 68 := by decide +kernel
theorem dX5_set_68 : DD cX5_set 68 (.iaload) 1 69 := by decide +kernel
theorem dX5_set_69 : DD cX5_set 69 (.invokevirtual 64) 3 72 := by decide +kernel
theorem dX5_set_72 : DD cX5_set 72 (.ireturn) 1 73 := by decide +kernel
def fX5_set (a1 : Int32) (a2 : Int32) (a3 : Int32) (h : AH) : Option (Int32 × AH) := (bnd (fX5_noRow a1 h) fun v2 h1 => (if v2 = 0 then (chk (inb a1 (ln 1)) (bnd (fX3_missing (1 + 1 + 2 * Int32.toNatClampNeg a1) h1) fun v5 h4 => (if v5 = 0 then (bnd (fX3_hasRun (1 + 1 + 2 * Int32.toNatClampNeg a1) a2 (1 : Int32) h4) fun v7 h6 => (if v7 = 0 then (bnd (fX5_found (2 : Int32) h6) fun v9 h8 => (some (v9, h8))) else (bnd (fX3_narrowed (1 + 1 + 2 * Int32.toNatClampNeg a1) a3 h6) fun v11 h10 => (chk (inb a2 (ln ((1 + 1 + 2 * Int32.toNatClampNeg a1) + 1))) (sto (hs h10 ((1 + 1 + 2 * Int32.toNatClampNeg a1) + 1) (Int32.toNatClampNeg a2) v11) fun h12 => (chk (inb a2 (ln ((1 + 1 + 2 * Int32.toNatClampNeg a1) + 1))) (bnd (fX5_well (h12 ((1 + 1 + 2 * Int32.toNatClampNeg a1) + 1) (Int32.toNatClampNeg a2)) h12) fun v14 h13 => (some (v14, h13))))))))) else (bnd (fX5_found (1 : Int32) h4) fun v16 h15 => (some (v16, h15)))))) else (some ((-1000001 : Int32), h1))))
set_option maxHeartbeats 4000000 in
set_option maxRecDepth 4000 in
theorem uX5_set {l : Launch} {X : WX} {a1 : Int32} {a2 : Int32} {a3 : Int32} {h h' : AH} {v : Int32} (hf : fX5_set a1 a2 a3 h = some (v, h')) : Does l X 2 yX5_set cX5_set 5 (some .int) [.ref (X.1 + 0), .int a1, .int a2, .int a3] h (eI v) h' := by
  refine Does.of (enc := eI) (o := fX5_set a1 a2 a3 h) (lv := [(0, .ref (X.1 + 0)), (1, .int a1), (2, .int a2), (3, .int a3)]) (by decide) (Nat.le_of_ble_eq_true rfl) rfl hf (fun K hl hK => ?_)
  subst hl
  unfold fX5_set
  refine J_iload_n hK dX5_set_0 1 rfl ?_
  refine J_callSi (As := [.int a1]) (st := []) hK dX5_set_1 kB_X5_51 kS_X5_noRow (by decide) rfl rfl (Nat.le_of_ble_eq_true rfl) (fun _ _ hf => uX5_noRow  hf) (fun v2 h1 => ?_)
  refine J_if_eq (tgt := 10) hK dX5_set_4 (by decide) ?_ ?_
  · refine J_aload_n hK dX5_set_10 0 rfl ?_
    refine rF_X5_11 (q2 := 1) hK dX5_set_11 kd_0 rfl ?_
    refine J_iload_n hK dX5_set_14 1 rfl ?_
    refine J_aaldR hK dX5_set_15 kd_1 (fun q3 => ?_)
    refine J_astore (lw := [(0, .ref (X.1 + 0)), (1, .int a1), (2, .int a2), (3, .int a3)]) hK dX5_set_16 (by decide) rfl ?_
    refine J_aload hK dX5_set_18 0 rfl ?_
    refine J_callVi (q := (1 + 1 + 2 * Int32.toNatClampNeg a1)) (As := []) (st := []) hK dX5_set_20 kB_X5_67 kV_X3_missing (kdA_1 q3) (by decide) rfl rfl (by decide) rfl rfl (Nat.le_of_ble_eq_true rfl) (fun _ _ hf => uX3_missing (kdA_1 q3) hf) (fun v5 h4 => ?_)
    refine J_if_eq (tgt := 32) hK dX5_set_23 (by decide) ?_ ?_
    · refine J_aload hK dX5_set_32 0 rfl ?_
      refine J_iload_n hK dX5_set_34 3 rfl ?_
      refine J_iconst hK dX5_set_35 ci_1 ?_
      refine J_callVi (q := (1 + 1 + 2 * Int32.toNatClampNeg a1)) (As := [.int a2, .int (1 : Int32)]) (st := []) hK dX5_set_36 kB_X5_71 kV_X3_hasRun (kdA_1 q3) (by decide) rfl rfl (by decide) rfl rfl (Nat.le_of_ble_eq_true rfl) (fun _ _ hf => uX3_hasRun (kdA_1 q3) hf) (fun v7 h6 => ?_)
      refine J_if_ne (tgt := 48) hK dX5_set_39 (by decide) ?_ ?_
      · refine J_aload_n hK dX5_set_42 1 rfl ?_
        refine J_iconst hK dX5_set_43 ci_2 ?_
        refine J_callVi (q := 0) (As := [.int (2 : Int32)]) (st := []) hK dX5_set_44 kB_X5_56 kV_X5_found kd_0 (by decide) rfl rfl (by decide) rfl rfl (Nat.le_of_ble_eq_true rfl) (fun _ _ hf => uX5_found  hf) (fun v9 h8 => ?_)
        exact J_iret hK dX5_set_47
      · refine J_aload hK dX5_set_48 0 rfl ?_
        refine rF_X5_75 (q2 := ((1 + 1 + 2 * Int32.toNatClampNeg a1) + 1)) hK dX5_set_50 (kdA_1 q3) rfl ?_
        refine J_iload_n hK dX5_set_53 3 rfl ?_
        refine J_aload hK dX5_set_54 0 rfl ?_
        refine J_iload_n hK dX5_set_56 4 rfl ?_
        refine J_callVi (q := (1 + 1 + 2 * Int32.toNatClampNeg a1)) (As := [.int a3]) (st := [.int a2, .ref (X.1 + ((1 + 1 + 2 * Int32.toNatClampNeg a1) + 1))]) hK dX5_set_57 kB_X5_79 kV_X3_narrowed (kdA_1 q3) (by decide) rfl rfl (by decide) rfl rfl (Nat.le_of_ble_eq_true rfl) (fun _ _ hf => uX3_narrowed (kdA_1 q3) hf) (fun v11 h10 => ?_)
        refine J_iast hK dX5_set_60 (kdR_1 (kdA_1 q3)) (fun h12 => ?_)
        refine J_aload_n hK dX5_set_61 1 rfl ?_
        refine J_aload hK dX5_set_62 0 rfl ?_
        refine rF_X5_75 (q2 := ((1 + 1 + 2 * Int32.toNatClampNeg a1) + 1)) hK dX5_set_64 (kdA_1 q3) rfl ?_
        refine J_iload_n hK dX5_set_67 3 rfl ?_
        refine J_iald hK dX5_set_68 (kdR_1 (kdA_1 q3)) (fun _ => ?_)
        refine J_callVi (q := 0) (As := [.int (h12 ((1 + 1 + 2 * Int32.toNatClampNeg a1) + 1) (Int32.toNatClampNeg a2))]) (st := []) hK dX5_set_69 kB_X5_64 kV_X5_well kd_0 (by decide) rfl rfl (by decide) rfl rfl (Nat.le_of_ble_eq_true rfl) (fun _ _ hf => uX5_well  hf) (fun v14 h13 => ?_)
        exact J_iret hK dX5_set_72
    · refine J_aload_n hK dX5_set_26 1 rfl ?_
      refine J_iconst hK dX5_set_27 ci_1 ?_
      refine J_callVi (q := 0) (As := [.int (1 : Int32)]) (st := []) hK dX5_set_28 kB_X5_56 kV_X5_found kd_0 (by decide) rfl rfl (by decide) rfl rfl (Nat.le_of_ble_eq_true rfl) (fun _ _ hf => uX5_found  hf) (fun v16 h15 => ?_)
      exact J_iret hK dX5_set_31
  · refine J_ldc hK dX5_set_7 kK_X5_55 ?_
    exact J_iret hK dX5_set_9
-- X5_sizeOrSet
theorem dX5_sizeOrSet_0 : DD cX5_sizeOrSet 0 (.iload_n 0) 1 1 := by decide +kernel
theorem dX5_sizeOrSet_1 : DD cX5_sizeOrSet 1 (.ldc 202) 2 3 := by decide +kernel
theorem dX5_sizeOrSet_3 : DD cX5_sizeOrSet 3 (.if_icmp .eq 8) 3 6 := by decide +kernel
theorem dX5_sizeOrSet_6 : DD cX5_sizeOrSet 6 (.iload_n 1) 1 7 := by decide +kernel
theorem dX5_sizeOrSet_7 : DD cX5_sizeOrSet 7 (.iconst 1) 1 8 := by decide +kernel
theorem dX5_sizeOrSet_8 : DD cX5_sizeOrSet 8 (.if_icmp .ne 7) 3 11 := by decide +kernel
theorem dX5_sizeOrSet_11 : DD cX5_sizeOrSet 11 (.iload_n 0) 1 12 := by decide +kernel
theorem dX5_sizeOrSet_12 : DD cX5_sizeOrSet 12 (.goto 7) 3 15 := by decide +kernel
theorem dX5_sizeOrSet_15 : DD cX5_sizeOrSet 15 (.iload_n 0) 1 16 := by decide +kernel
theorem dX5_sizeOrSet_16 : DD cX5_sizeOrSet 16 (.invokestatic 248) 3 19 := by decide +kernel
theorem dX5_sizeOrSet_19 : DD cX5_sizeOrSet 19 (.ireturn) 1 20 := by decide +kernel
def fX5_sizeOrSet (a0 : Int32) (a1 : Int32) (h : AH) : Option (Int32 × AH) := (if a0 = (-1000000 : Int32) then (some (a0, h)) else (if a1 = (1 : Int32) then (some (a0, h)) else (bnd (fJ6_bitCount_0f7a4 a0 h) fun v2 h1 => (some (v2, h1)))))
set_option maxHeartbeats 4000000 in
set_option maxRecDepth 4000 in
theorem uX5_sizeOrSet {l : Launch} {X : WX} {a0 : Int32} {a1 : Int32} {h h' : AH} {v : Int32} (hf : fX5_sizeOrSet a0 a1 h = some (v, h')) : Does l X 2 yX5_sizeOrSet cX5_sizeOrSet 2 (some .int) [.int a0, .int a1] h (eI v) h' := by
  refine Does.of (enc := eI) (o := fX5_sizeOrSet a0 a1 h) (lv := [(0, .int a0), (1, .int a1)]) (by decide) (Nat.le_of_ble_eq_true rfl) rfl hf (fun K hl hK => ?_)
  subst hl
  unfold fX5_sizeOrSet
  refine J_iload_n hK dX5_sizeOrSet_0 0 rfl ?_
  refine J_ldc hK dX5_sizeOrSet_1 kK_X5_202 ?_
  refine J_icmp_eq (tgt := 11) hK dX5_sizeOrSet_3 (by decide) ?_ ?_
  · refine J_iload_n hK dX5_sizeOrSet_11 0 rfl ?_
    refine J_goto (len := 0) (tgt := 19) hK dX5_sizeOrSet_12 (by decide) ?_
    exact J_iret hK dX5_sizeOrSet_19
  · refine J_iload_n hK dX5_sizeOrSet_6 1 rfl ?_
    refine J_iconst hK dX5_sizeOrSet_7 ci_1 ?_
    refine J_icmp_ne (tgt := 15) hK dX5_sizeOrSet_8 (by decide) ?_ ?_
    · refine J_iload_n hK dX5_sizeOrSet_11 0 rfl ?_
      refine J_goto (len := 0) (tgt := 19) hK dX5_sizeOrSet_12 (by decide) ?_
      exact J_iret hK dX5_sizeOrSet_19
    · refine J_iload_n hK dX5_sizeOrSet_15 0 rfl ?_
      refine J_callSi (As := [.int a0]) (st := []) hK dX5_sizeOrSet_16 kB_X5_248 kS_J6_bitCount_0f7a4 (by decide) rfl rfl (Nat.le_of_ble_eq_true rfl) (fun _ _ hf => uJ6_bitCount_0f7a4  hf) (fun v2 h1 => ?_)
      exact J_iret hK dX5_sizeOrSet_19
-- X5_clear
theorem dX5_clear_0 : DD cX5_clear 0 (.aload_n 0) 1 1 := by decide +kernel
theorem dX5_clear_1 : DD cX5_clear 1 (.iload_n 1) 1 2 := by decide +kernel
theorem dX5_clear_2 : DD cX5_clear 2 (.invokevirtual 163) 3 5 := by decide +kernel
theorem dX5_clear_5 : DD cX5_clear 5 (.ifCond .eq 6) 3 8 := by decide +kernel
theorem dX5_clear_8 : DD cX5_clear 8 (.ldc 55) 2 10 := by decide +kernel
theorem dX5_clear_10 : DD cX5_clear 10 (.ireturn) 1 11 := by decide +kernel
theorem dX5_clear_11 : DD cX5_clear 11 (.aload_n 0) 1 12 := by decide +kernel
theorem dX5_clear_12 : DD cX5_clear 12 (.getfield 26) 3 15 := by decide +kernel
theorem dX5_clear_15 : DD cX5_clear 15 (.getfield 166) 3 18 := by decide +kernel
theorem dX5_clear_18 : DD cX5_clear 18 (.iload_n 1) 1 19 := by decide +kernel
theorem dX5_clear_19 : DD cX5_clear 19 (.iaload) 1 20 := by decide +kernel
theorem dX5_clear_20 : DD cX5_clear 20 (.istore_n 2) 1 21 := by decide +kernel
theorem dX5_clear_21 : DD cX5_clear 21 (.iload_n 2) 1 22 := by decide +kernel
theorem dX5_clear_22 : DD cX5_clear 22 (.ifCond .ne 6) 3 25 := by decide +kernel
theorem dX5_clear_25 : DD cX5_clear 25 (.ldc 127) 2 27 := by decide +kernel
theorem dX5_clear_27 : DD cX5_clear 27 (.ireturn) 1 28 := by decide +kernel
theorem dX5_clear_28 : DD cX5_clear 28 (.aload_n 0) 1 29 := by decide +kernel
theorem dX5_clear_29 : DD cX5_clear 29 (.getfield 33) 3 32 := by decide +kernel
theorem dX5_clear_32 : DD cX5_clear 32 (.aload_n 0) 1 33 := by decide +kernel
theorem dX5_clear_33 : DD cX5_clear 33 (.getfield 26) 3 36 := by decide +kernel
theorem dX5_clear_36 : DD cX5_clear 36 (.invokevirtual 131) 3 39 := by decide +kernel
theorem dX5_clear_39 : DD cX5_clear 39 (.aload_n 0) 1 40 := by decide +kernel
theorem dX5_clear_40 : DD cX5_clear 40 (.getfield 26) 3 43 := by decide +kernel
theorem dX5_clear_43 : DD cX5_clear 43 (.getfield 166) 3 46 := by decide +kernel
theorem dX5_clear_46 : DD cX5_clear 46 (.iload_n 1) 1 47 := by decide +kernel
theorem dX5_clear_47 : DD cX5_clear 47 (.iconst 0) 1 48 := by decide +kernel
theorem dX5_clear_48 : DD cX5_clear 48 (.iastore) 1 49 := by decide +kernel
theorem dX5_clear_49 : DD cX5_clear 49 (.iload_n 2) 1 50 := by decide +kernel
theorem dX5_clear_50 : DD cX5_clear 50 (.ireturn) 1 51 := by decide +kernel
def fX5_clear (a1 : Int32) (h : AH) : Option (Int32 × AH) := (bnd (fX5_noPier a1 h) fun v2 h1 => (if v2 = 0 then (chk (inb a1 (ln 26)) (vl (h1 26 (Int32.toNatClampNeg a1)) fun z3 => (if z3 = 0 then (some ((-1000002 : Int32), h1)) else (bnd (fX0_keep 20 h1) fun _ h4 => (chk (inb a1 (ln 26)) (sto (hs h4 26 (Int32.toNatClampNeg a1) (0 : Int32)) fun h5 => (some (z3, h5)))))))) else (some ((-1000001 : Int32), h1))))
set_option maxHeartbeats 4000000 in
set_option maxRecDepth 4000 in
theorem uX5_clear {l : Launch} {X : WX} {a1 : Int32} {h h' : AH} {v : Int32} (hf : fX5_clear a1 h = some (v, h')) : Does l X 3 yX5_clear cX5_clear 3 (some .int) [.ref (X.1 + 0), .int a1] h (eI v) h' := by
  refine Does.of (enc := eI) (o := fX5_clear a1 h) (lv := [(0, .ref (X.1 + 0)), (1, .int a1)]) (by decide) (Nat.le_of_ble_eq_true rfl) rfl hf (fun K hl hK => ?_)
  subst hl
  unfold fX5_clear
  refine J_aload_n hK dX5_clear_0 0 rfl ?_
  refine J_iload_n hK dX5_clear_1 1 rfl ?_
  refine J_callVi (q := 0) (As := [.int a1]) (st := []) hK dX5_clear_2 kB_X5_163 kV_X5_noPier kd_0 (by decide) rfl rfl (by decide) rfl rfl (Nat.le_of_ble_eq_true rfl) (fun _ _ hf => uX5_noPier  hf) (fun v2 h1 => ?_)
  refine J_if_eq (tgt := 11) hK dX5_clear_5 (by decide) ?_ ?_
  · refine J_aload_n hK dX5_clear_11 0 rfl ?_
    refine rF_X5_26 (q2 := 20) hK dX5_clear_12 kd_0 rfl ?_
    refine rF_X5_166 (q2 := 26) hK dX5_clear_15 kd_20 rfl ?_
    refine J_iload_n hK dX5_clear_18 1 rfl ?_
    refine J_iald hK dX5_clear_19 kd_26 (fun _ => ?_)
    refine J_istoreV_n (n := 2) (lw := [(0, .ref (X.1 + 0)), (1, .int a1)]) hK dX5_clear_20 rfl (by decide) rfl (fun z3 => ?_)
    refine J_iload_n hK dX5_clear_21 0 rfl ?_
    refine J_if_ne (tgt := 28) hK dX5_clear_22 (by decide) ?_ ?_
    · refine J_ldc hK dX5_clear_25 kK_X5_127 ?_
      exact J_iret hK dX5_clear_27
    · refine J_aload_n hK dX5_clear_28 1 rfl ?_
      refine rF_X5_33 (q2 := 27) hK dX5_clear_29 kd_0 rfl ?_
      refine J_aload_n hK dX5_clear_32 1 rfl ?_
      refine rF_X5_26 (q2 := 20) hK dX5_clear_33 kd_0 rfl ?_
      refine J_callVv (q := 27) (As := [.ref (X.1 + 20)]) (st := []) hK dX5_clear_36 kB_X5_131 kV_X0_keep kd_27 (by decide) rfl rfl (by decide) rfl rfl (Nat.le_of_ble_eq_true rfl) (fun _ _ hf => uX0_keep kd_20 hf) (fun _ h4 => ?_)
      refine J_aload_n hK dX5_clear_39 1 rfl ?_
      refine rF_X5_26 (q2 := 20) hK dX5_clear_40 kd_0 rfl ?_
      refine rF_X5_166 (q2 := 26) hK dX5_clear_43 kd_20 rfl ?_
      refine J_iload_n hK dX5_clear_46 2 rfl ?_
      refine J_iconst hK dX5_clear_47 ci_0 ?_
      refine J_iast hK dX5_clear_48 kd_26 (fun h5 => ?_)
      refine J_iload_n hK dX5_clear_49 0 rfl ?_
      exact J_iret hK dX5_clear_50
  · refine J_ldc hK dX5_clear_8 kK_X5_55 ?_
    exact J_iret hK dX5_clear_10
-- X5_count
theorem dX5_count_0 : DD cX5_count 0 (.iload_n 1) 1 1 := by decide +kernel
theorem dX5_count_1 : DD cX5_count 1 (.tableswitch 120 0 8 #[51, 56, 64, 72, 80, 88, 96, 104, 112]) 51 52 := by decide +kernel
theorem dX5_count_52 : DD cX5_count 52 (.aload_n 0) 1 53 := by decide +kernel
theorem dX5_count_53 : DD cX5_count 53 (.invokevirtual 270) 3 56 := by decide +kernel
theorem dX5_count_56 : DD cX5_count 56 (.ireturn) 1 57 := by decide +kernel
theorem dX5_count_57 : DD cX5_count 57 (.aload_n 0) 1 58 := by decide +kernel
theorem dX5_count_58 : DD cX5_count 58 (.getfield 26) 3 61 := by decide +kernel
theorem dX5_count_61 : DD cX5_count 61 (.getfield 118) 3 64 := by decide +kernel
theorem dX5_count_64 : DD cX5_count 64 (.ireturn) 1 65 := by decide +kernel
theorem dX5_count_65 : DD cX5_count 65 (.aload_n 0) 1 66 := by decide +kernel
theorem dX5_count_66 : DD cX5_count 66 (.getfield 26) 3 69 := by decide +kernel
theorem dX5_count_69 : DD cX5_count 69 (.getfield 273) 3 72 := by decide +kernel
theorem dX5_count_72 : DD cX5_count 72 (.ireturn) 1 73 := by decide +kernel
theorem dX5_count_73 : DD cX5_count 73 (.aload_n 0) 1 74 := by decide +kernel
theorem dX5_count_74 : DD cX5_count 74 (.getfield 26) 3 77 := by decide +kernel
theorem dX5_count_77 : DD cX5_count 77 (.getfield 128) 3 80 := by decide +kernel
theorem dX5_count_80 : DD cX5_count 80 (.ireturn) 1 81 := by decide +kernel
theorem dX5_count_81 : DD cX5_count 81 (.aload_n 0) 1 82 := by decide +kernel
theorem dX5_count_82 : DD cX5_count 82 (.getfield 26) 3 85 := by decide +kernel
theorem dX5_count_85 : DD cX5_count 85 (.getfield 276) 3 88 := by decide +kernel
theorem dX5_count_88 : DD cX5_count 88 (.ireturn) 1 89 := by decide +kernel
theorem dX5_count_89 : DD cX5_count 89 (.aload_n 0) 1 90 := by decide +kernel
theorem dX5_count_90 : DD cX5_count 90 (.getfield 26) 3 93 := by decide +kernel
theorem dX5_count_93 : DD cX5_count 93 (.getfield 138) 3 96 := by decide +kernel
theorem dX5_count_96 : DD cX5_count 96 (.ireturn) 1 97 := by decide +kernel
theorem dX5_count_97 : DD cX5_count 97 (.aload_n 0) 1 98 := by decide +kernel
theorem dX5_count_98 : DD cX5_count 98 (.getfield 26) 3 101 := by decide +kernel
theorem dX5_count_101 : DD cX5_count 101 (.getfield 154) 3 104 := by decide +kernel
theorem dX5_count_104 : DD cX5_count 104 (.ireturn) 1 105 := by decide +kernel
theorem dX5_count_105 : DD cX5_count 105 (.aload_n 0) 1 106 := by decide +kernel
theorem dX5_count_106 : DD cX5_count 106 (.getfield 33) 3 109 := by decide +kernel
theorem dX5_count_109 : DD cX5_count 109 (.getfield 169) 3 112 := by decide +kernel
theorem dX5_count_112 : DD cX5_count 112 (.ireturn) 1 113 := by decide +kernel
theorem dX5_count_113 : DD cX5_count 113 (.aload_n 0) 1 114 := by decide +kernel
theorem dX5_count_114 : DD cX5_count 114 (.getfield 19) 3 117 := by decide +kernel
theorem dX5_count_117 : DD cX5_count 117 (.getfield 96) 3 120 := by decide +kernel
theorem dX5_count_120 : DD cX5_count 120 (.ireturn) 1 121 := by decide +kernel
theorem dX5_count_121 : DD cX5_count 121 (.ldc 55) 2 123 := by decide +kernel
theorem dX5_count_123 : DD cX5_count 123 (.ireturn) 1 124 := by decide +kernel
def fX5_count (a1 : Int32) (h : AH) : Option (Int32 × AH) := (if a1 = (0 : Int32) then (bnd (fX5_rowsThere  h) fun v2 h1 => (some (v2, h1))) else (if a1 = (1 : Int32) then (some ((h 20 0), h)) else (if a1 = (2 : Int32) then (some ((h 20 1), h)) else (if a1 = (3 : Int32) then (some ((h 20 4), h)) else (if a1 = (4 : Int32) then (some ((h 20 2), h)) else (if a1 = (5 : Int32) then (some ((h 20 3), h)) else (if a1 = (6 : Int32) then (some ((h 20 5), h)) else (if a1 = (7 : Int32) then (some ((h 27 2), h)) else (if a1 = (8 : Int32) then (some ((h 18 1), h)) else (some ((-1000001 : Int32), h)))))))))))
set_option maxHeartbeats 4000000 in
set_option maxRecDepth 4000 in
theorem uX5_count {l : Launch} {X : WX} {a1 : Int32} {h h' : AH} {v : Int32} (hf : fX5_count a1 h = some (v, h')) : Does l X 3 yX5_count cX5_count 2 (some .int) [.ref (X.1 + 0), .int a1] h (eI v) h' := by
  refine Does.of (enc := eI) (o := fX5_count a1 h) (lv := [(0, .ref (X.1 + 0)), (1, .int a1)]) (by decide) (Nat.le_of_ble_eq_true rfl) rfl hf (fun K hl hK => ?_)
  subst hl
  unfold fX5_count
  refine J_iload_n hK dX5_count_0 1 rfl ?_
  refine J_split (c := a1 = (0 : Int32)) (fun e3 => ?_) (fun e3 => ?_)
  · refine J_tableIn (v := 0) (off := 51) (tgt := 52) hK dX5_count_1 e3 (by decide) ?_
    refine J_aload_n hK dX5_count_52 0 rfl ?_
    refine J_callVi (q := 0) (As := []) (st := []) hK dX5_count_53 kB_X5_270 kV_X5_rowsThere kd_0 (by decide) rfl rfl (by decide) rfl rfl (Nat.le_of_ble_eq_true rfl) (fun _ _ hf => uX5_rowsThere  hf) (fun v2 h1 => ?_)
    exact J_iret hK dX5_count_56
  refine J_split (c := a1 = (1 : Int32)) (fun e4 => ?_) (fun e4 => ?_)
  · refine J_tableIn (v := 1) (off := 56) (tgt := 57) hK dX5_count_1 e4 (by decide) ?_
    refine J_aload_n hK dX5_count_57 0 rfl ?_
    refine rF_X5_26 (q2 := 20) hK dX5_count_58 kd_0 rfl ?_
    refine gF_X5_118 hK dX5_count_61 kd_20 ?_
    exact J_iret hK dX5_count_64
  refine J_split (c := a1 = (2 : Int32)) (fun e5 => ?_) (fun e5 => ?_)
  · refine J_tableIn (v := 2) (off := 64) (tgt := 65) hK dX5_count_1 e5 (by decide) ?_
    refine J_aload_n hK dX5_count_65 0 rfl ?_
    refine rF_X5_26 (q2 := 20) hK dX5_count_66 kd_0 rfl ?_
    refine gF_X5_273 hK dX5_count_69 kd_20 ?_
    exact J_iret hK dX5_count_72
  refine J_split (c := a1 = (3 : Int32)) (fun e6 => ?_) (fun e6 => ?_)
  · refine J_tableIn (v := 3) (off := 72) (tgt := 73) hK dX5_count_1 e6 (by decide) ?_
    refine J_aload_n hK dX5_count_73 0 rfl ?_
    refine rF_X5_26 (q2 := 20) hK dX5_count_74 kd_0 rfl ?_
    refine gF_X5_128 hK dX5_count_77 kd_20 ?_
    exact J_iret hK dX5_count_80
  refine J_split (c := a1 = (4 : Int32)) (fun e7 => ?_) (fun e7 => ?_)
  · refine J_tableIn (v := 4) (off := 80) (tgt := 81) hK dX5_count_1 e7 (by decide) ?_
    refine J_aload_n hK dX5_count_81 0 rfl ?_
    refine rF_X5_26 (q2 := 20) hK dX5_count_82 kd_0 rfl ?_
    refine gF_X5_276 hK dX5_count_85 kd_20 ?_
    exact J_iret hK dX5_count_88
  refine J_split (c := a1 = (5 : Int32)) (fun e8 => ?_) (fun e8 => ?_)
  · refine J_tableIn (v := 5) (off := 88) (tgt := 89) hK dX5_count_1 e8 (by decide) ?_
    refine J_aload_n hK dX5_count_89 0 rfl ?_
    refine rF_X5_26 (q2 := 20) hK dX5_count_90 kd_0 rfl ?_
    refine gF_X5_138 hK dX5_count_93 kd_20 ?_
    exact J_iret hK dX5_count_96
  refine J_split (c := a1 = (6 : Int32)) (fun e9 => ?_) (fun e9 => ?_)
  · refine J_tableIn (v := 6) (off := 96) (tgt := 97) hK dX5_count_1 e9 (by decide) ?_
    refine J_aload_n hK dX5_count_97 0 rfl ?_
    refine rF_X5_26 (q2 := 20) hK dX5_count_98 kd_0 rfl ?_
    refine gF_X5_154 hK dX5_count_101 kd_20 ?_
    exact J_iret hK dX5_count_104
  refine J_split (c := a1 = (7 : Int32)) (fun e10 => ?_) (fun e10 => ?_)
  · refine J_tableIn (v := 7) (off := 104) (tgt := 105) hK dX5_count_1 e10 (by decide) ?_
    refine J_aload_n hK dX5_count_105 0 rfl ?_
    refine rF_X5_33 (q2 := 27) hK dX5_count_106 kd_0 rfl ?_
    refine gF_X5_169 hK dX5_count_109 kd_27 ?_
    exact J_iret hK dX5_count_112
  refine J_split (c := a1 = (8 : Int32)) (fun e11 => ?_) (fun e11 => ?_)
  · refine J_tableIn (v := 8) (off := 112) (tgt := 113) hK dX5_count_1 e11 (by decide) ?_
    refine J_aload_n hK dX5_count_113 0 rfl ?_
    refine rF_X5_19 (q2 := 18) hK dX5_count_114 kd_0 rfl ?_
    refine gF_X5_96 hK dX5_count_117 kd_18 ?_
    exact J_iret hK dX5_count_120
  refine J_tableOut (tgt := 121) hK dX5_count_1 (tbl_out [0, 1, 2, 3, 4, 5, 6, 7, 8] (by decide) (nl1 e3 (nl1 e4 (nl1 e5 (nl1 e6 (nl1 e7 (nl1 e8 (nl1 e9 (nl1 e10 (nl1 e11 nl0)))))))))) (by decide) ?_
  refine J_ldc hK dX5_count_121 kK_X5_55 ?_
  exact J_iret hK dX5_count_123
-- X5_loose
theorem dX5_loose_0 : DD cX5_loose 0 (.aload_n 0) 1 1 := by decide +kernel
theorem dX5_loose_1 : DD cX5_loose 1 (.iload_n 1) 1 2 := by decide +kernel
theorem dX5_loose_2 : DD cX5_loose 2 (.invokevirtual 141) 3 5 := by decide +kernel
theorem dX5_loose_5 : DD cX5_loose 5 (.ifCond .eq 6) 3 8 := by decide +kernel
theorem dX5_loose_8 : DD cX5_loose 8 (.ldc 55) 2 10 := by decide +kernel
theorem dX5_loose_10 : DD cX5_loose 10 (.ireturn) 1 11 := by decide +kernel
theorem dX5_loose_11 : DD cX5_loose 11 (.aload_n 0) 1 12 := by decide +kernel
theorem dX5_loose_12 : DD cX5_loose 12 (.getfield 26) 3 15 := by decide +kernel
theorem dX5_loose_15 : DD cX5_loose 15 (.iload_n 1) 1 16 := by decide +kernel
theorem dX5_loose_16 : DD cX5_loose 16 (.invokevirtual 144) 3 19 := by decide +kernel
theorem dX5_loose_19 : DD cX5_loose 19 (.ifCond .ne 6) 3 22 := by decide +kernel
theorem dX5_loose_22 : DD cX5_loose 22 (.ldc 127) 2 24 := by decide +kernel
theorem dX5_loose_24 : DD cX5_loose 24 (.ireturn) 1 25 := by decide +kernel
theorem dX5_loose_25 : DD cX5_loose 25 (.aload_n 0) 1 26 := by decide +kernel
theorem dX5_loose_26 : DD cX5_loose 26 (.getfield 33) 3 29 := by decide +kernel
theorem dX5_loose_29 : DD cX5_loose 29 (.aload_n 0) 1 30 := by decide +kernel
theorem dX5_loose_30 : DD cX5_loose 30 (.getfield 26) 3 33 := by decide +kernel
theorem dX5_loose_33 : DD cX5_loose 33 (.invokevirtual 131) 3 36 := by decide +kernel
theorem dX5_loose_36 : DD cX5_loose 36 (.aload_n 0) 1 37 := by decide +kernel
theorem dX5_loose_37 : DD cX5_loose 37 (.getfield 26) 3 40 := by decide +kernel
theorem dX5_loose_40 : DD cX5_loose 40 (.iload_n 1) 1 41 := by decide +kernel
theorem dX5_loose_41 : DD cX5_loose 41 (.invokevirtual 157) 3 44 := by decide +kernel
theorem dX5_loose_44 : DD cX5_loose 44 (.aload_n 0) 1 45 := by decide +kernel
theorem dX5_loose_45 : DD cX5_loose 45 (.getfield 26) 3 48 := by decide +kernel
theorem dX5_loose_48 : DD cX5_loose 48 (.getfield 154) 3 51 := by decide +kernel
theorem dX5_loose_51 : DD cX5_loose 51 (.ireturn) 1 52 := by decide +kernel
def fX5_loose (a1 : Int32) (h : AH) : Option (Int32 × AH) := (bnd (fX5_noTug a1 h) fun v2 h1 => (if v2 = 0 then (bnd (fX2_holds 20 a1 h1) fun v4 h3 => (if v4 = 0 then (some ((-1000002 : Int32), h3)) else (bnd (fX0_keep 20 h3) fun _ h5 => (bnd (fX2_letGo 20 a1 h5) fun _ h6 => (some ((h6 20 5), h6)))))) else (some ((-1000001 : Int32), h1))))
set_option maxHeartbeats 4000000 in
set_option maxRecDepth 4000 in
theorem uX5_loose {l : Launch} {X : WX} {a1 : Int32} {h h' : AH} {v : Int32} (hf : fX5_loose a1 h = some (v, h')) : Does l X 3 yX5_loose cX5_loose 2 (some .int) [.ref (X.1 + 0), .int a1] h (eI v) h' := by
  refine Does.of (enc := eI) (o := fX5_loose a1 h) (lv := [(0, .ref (X.1 + 0)), (1, .int a1)]) (by decide) (Nat.le_of_ble_eq_true rfl) rfl hf (fun K hl hK => ?_)
  subst hl
  unfold fX5_loose
  refine J_aload_n hK dX5_loose_0 0 rfl ?_
  refine J_iload_n hK dX5_loose_1 1 rfl ?_
  refine J_callVi (q := 0) (As := [.int a1]) (st := []) hK dX5_loose_2 kB_X5_141 kV_X5_noTug kd_0 (by decide) rfl rfl (by decide) rfl rfl (Nat.le_of_ble_eq_true rfl) (fun _ _ hf => uX5_noTug  hf) (fun v2 h1 => ?_)
  refine J_if_eq (tgt := 11) hK dX5_loose_5 (by decide) ?_ ?_
  · refine J_aload_n hK dX5_loose_11 0 rfl ?_
    refine rF_X5_26 (q2 := 20) hK dX5_loose_12 kd_0 rfl ?_
    refine J_iload_n hK dX5_loose_15 1 rfl ?_
    refine J_callVi (q := 20) (As := [.int a1]) (st := []) hK dX5_loose_16 kB_X5_144 kV_X2_holds kd_20 (by decide) rfl rfl (by decide) rfl rfl (Nat.le_of_ble_eq_true rfl) (fun _ _ hf => uX2_holds kd_20 hf) (fun v4 h3 => ?_)
    refine J_if_ne (tgt := 25) hK dX5_loose_19 (by decide) ?_ ?_
    · refine J_ldc hK dX5_loose_22 kK_X5_127 ?_
      exact J_iret hK dX5_loose_24
    · refine J_aload_n hK dX5_loose_25 0 rfl ?_
      refine rF_X5_33 (q2 := 27) hK dX5_loose_26 kd_0 rfl ?_
      refine J_aload_n hK dX5_loose_29 0 rfl ?_
      refine rF_X5_26 (q2 := 20) hK dX5_loose_30 kd_0 rfl ?_
      refine J_callVv (q := 27) (As := [.ref (X.1 + 20)]) (st := []) hK dX5_loose_33 kB_X5_131 kV_X0_keep kd_27 (by decide) rfl rfl (by decide) rfl rfl (Nat.le_of_ble_eq_true rfl) (fun _ _ hf => uX0_keep kd_20 hf) (fun _ h5 => ?_)
      refine J_aload_n hK dX5_loose_36 0 rfl ?_
      refine rF_X5_26 (q2 := 20) hK dX5_loose_37 kd_0 rfl ?_
      refine J_iload_n hK dX5_loose_40 1 rfl ?_
      refine J_callVv (q := 20) (As := [.int a1]) (st := []) hK dX5_loose_41 kB_X5_157 kV_X2_letGo kd_20 (by decide) rfl rfl (by decide) rfl rfl (Nat.le_of_ble_eq_true rfl) (fun _ _ hf => uX2_letGo kd_20 hf) (fun _ h6 => ?_)
      refine J_aload_n hK dX5_loose_44 0 rfl ?_
      refine rF_X5_26 (q2 := 20) hK dX5_loose_45 kd_0 rfl ?_
      refine gF_X5_154 hK dX5_loose_48 kd_20 ?_
      exact J_iret hK dX5_loose_51
  · refine J_ldc hK dX5_loose_8 kK_X5_55 ?_
    exact J_iret hK dX5_loose_10
-- X5_mend
theorem dX5_mend_0 : DD cX5_mend 0 (.aload_n 0) 1 1 := by decide +kernel
theorem dX5_mend_1 : DD cX5_mend 1 (.iload_n 1) 1 2 := by decide +kernel
theorem dX5_mend_2 : DD cX5_mend 2 (.invokevirtual 141) 3 5 := by decide +kernel
theorem dX5_mend_5 : DD cX5_mend 5 (.ifCond .eq 6) 3 8 := by decide +kernel
theorem dX5_mend_8 : DD cX5_mend 8 (.ldc 55) 2 10 := by decide +kernel
theorem dX5_mend_10 : DD cX5_mend 10 (.ireturn) 1 11 := by decide +kernel
theorem dX5_mend_11 : DD cX5_mend 11 (.aload_n 0) 1 12 := by decide +kernel
theorem dX5_mend_12 : DD cX5_mend 12 (.getfield 26) 3 15 := by decide +kernel
theorem dX5_mend_15 : DD cX5_mend 15 (.iload_n 1) 1 16 := by decide +kernel
theorem dX5_mend_16 : DD cX5_mend 16 (.invokevirtual 144) 3 19 := by decide +kernel
theorem dX5_mend_19 : DD cX5_mend 19 (.ifCond .eq 18) 3 22 := by decide +kernel
theorem dX5_mend_22 : DD cX5_mend 22 (.aload_n 0) 1 23 := by decide +kernel
theorem dX5_mend_23 : DD cX5_mend 23 (.getfield 26) 3 26 := by decide +kernel
theorem dX5_mend_26 : DD cX5_mend 26 (.getfield 147) 3 29 := by decide +kernel
theorem dX5_mend_29 : DD cX5_mend 29 (.iload_n 1) 1 30 := by decide +kernel
theorem dX5_mend_30 : DD cX5_mend 30 (.iaload) 1 31 := by decide +kernel
theorem dX5_mend_31 : DD cX5_mend 31 (.ifCond .ne 6) 3 34 := by decide +kernel
theorem dX5_mend_34 : DD cX5_mend 34 (.ldc 127) 2 36 := by decide +kernel
theorem dX5_mend_36 : DD cX5_mend 36 (.ireturn) 1 37 := by decide +kernel
theorem dX5_mend_37 : DD cX5_mend 37 (.aload_n 0) 1 38 := by decide +kernel
theorem dX5_mend_38 : DD cX5_mend 38 (.getfield 33) 3 41 := by decide +kernel
theorem dX5_mend_41 : DD cX5_mend 41 (.aload_n 0) 1 42 := by decide +kernel
theorem dX5_mend_42 : DD cX5_mend 42 (.getfield 26) 3 45 := by decide +kernel
theorem dX5_mend_45 : DD cX5_mend 45 (.invokevirtual 131) 3 48 := by decide +kernel
theorem dX5_mend_48 : DD cX5_mend 48 (.aload_n 0) 1 49 := by decide +kernel
theorem dX5_mend_49 : DD cX5_mend 49 (.getfield 26) 3 52 := by decide +kernel
theorem dX5_mend_52 : DD cX5_mend 52 (.iload_n 1) 1 53 := by decide +kernel
theorem dX5_mend_53 : DD cX5_mend 53 (.invokevirtual 150) 3 56 := by decide +kernel
theorem dX5_mend_56 : DD cX5_mend 56 (.aload_n 0) 1 57 := by decide +kernel
theorem dX5_mend_57 : DD cX5_mend 57 (.getfield 26) 3 60 := by decide +kernel
theorem dX5_mend_60 : DD cX5_mend 60 (.getfield 154) 3 63 := by decide +kernel
theorem dX5_mend_63 : DD cX5_mend 63 (.ireturn) 1 64 := by decide +kernel
def fX5_mend (a1 : Int32) (h : AH) : Option (Int32 × AH) := (bnd (fX5_noTug a1 h) fun v2 h1 => (if v2 = 0 then (bnd (fX2_holds 20 a1 h1) fun v4 h3 => (if v4 = 0 then (bnd (fX0_keep 20 h3) fun _ h5 => (bnd (fX2_mendRope 20 a1 h5) fun _ h6 => (some ((h6 20 5), h6)))) else (chk (inb a1 (ln 24)) (if (h3 24 (Int32.toNatClampNeg a1)) = 0 then (some ((-1000002 : Int32), h3)) else (bnd (fX0_keep 20 h3) fun _ h7 => (bnd (fX2_mendRope 20 a1 h7) fun _ h8 => (some ((h8 20 5), h8)))))))) else (some ((-1000001 : Int32), h1))))
set_option maxHeartbeats 4000000 in
set_option maxRecDepth 4000 in
theorem uX5_mend {l : Launch} {X : WX} {a1 : Int32} {h h' : AH} {v : Int32} (hf : fX5_mend a1 h = some (v, h')) : Does l X 3 yX5_mend cX5_mend 2 (some .int) [.ref (X.1 + 0), .int a1] h (eI v) h' := by
  refine Does.of (enc := eI) (o := fX5_mend a1 h) (lv := [(0, .ref (X.1 + 0)), (1, .int a1)]) (by decide) (Nat.le_of_ble_eq_true rfl) rfl hf (fun K hl hK => ?_)
  subst hl
  unfold fX5_mend
  refine J_aload_n hK dX5_mend_0 0 rfl ?_
  refine J_iload_n hK dX5_mend_1 1 rfl ?_
  refine J_callVi (q := 0) (As := [.int a1]) (st := []) hK dX5_mend_2 kB_X5_141 kV_X5_noTug kd_0 (by decide) rfl rfl (by decide) rfl rfl (Nat.le_of_ble_eq_true rfl) (fun _ _ hf => uX5_noTug  hf) (fun v2 h1 => ?_)
  refine J_if_eq (tgt := 11) hK dX5_mend_5 (by decide) ?_ ?_
  · refine J_aload_n hK dX5_mend_11 0 rfl ?_
    refine rF_X5_26 (q2 := 20) hK dX5_mend_12 kd_0 rfl ?_
    refine J_iload_n hK dX5_mend_15 1 rfl ?_
    refine J_callVi (q := 20) (As := [.int a1]) (st := []) hK dX5_mend_16 kB_X5_144 kV_X2_holds kd_20 (by decide) rfl rfl (by decide) rfl rfl (Nat.le_of_ble_eq_true rfl) (fun _ _ hf => uX2_holds kd_20 hf) (fun v4 h3 => ?_)
    refine J_if_eq (tgt := 37) hK dX5_mend_19 (by decide) ?_ ?_
    · refine J_aload_n hK dX5_mend_37 0 rfl ?_
      refine rF_X5_33 (q2 := 27) hK dX5_mend_38 kd_0 rfl ?_
      refine J_aload_n hK dX5_mend_41 0 rfl ?_
      refine rF_X5_26 (q2 := 20) hK dX5_mend_42 kd_0 rfl ?_
      refine J_callVv (q := 27) (As := [.ref (X.1 + 20)]) (st := []) hK dX5_mend_45 kB_X5_131 kV_X0_keep kd_27 (by decide) rfl rfl (by decide) rfl rfl (Nat.le_of_ble_eq_true rfl) (fun _ _ hf => uX0_keep kd_20 hf) (fun _ h5 => ?_)
      refine J_aload_n hK dX5_mend_48 0 rfl ?_
      refine rF_X5_26 (q2 := 20) hK dX5_mend_49 kd_0 rfl ?_
      refine J_iload_n hK dX5_mend_52 1 rfl ?_
      refine J_callVv (q := 20) (As := [.int a1]) (st := []) hK dX5_mend_53 kB_X5_150 kV_X2_mendRope kd_20 (by decide) rfl rfl (by decide) rfl rfl (Nat.le_of_ble_eq_true rfl) (fun _ _ hf => uX2_mendRope kd_20 hf) (fun _ h6 => ?_)
      refine J_aload_n hK dX5_mend_56 0 rfl ?_
      refine rF_X5_26 (q2 := 20) hK dX5_mend_57 kd_0 rfl ?_
      refine gF_X5_154 hK dX5_mend_60 kd_20 ?_
      exact J_iret hK dX5_mend_63
    · refine J_aload_n hK dX5_mend_22 0 rfl ?_
      refine rF_X5_26 (q2 := 20) hK dX5_mend_23 kd_0 rfl ?_
      refine rF_X5_147 (q2 := 24) hK dX5_mend_26 kd_20 rfl ?_
      refine J_iload_n hK dX5_mend_29 1 rfl ?_
      refine J_iald hK dX5_mend_30 kd_24 (fun _ => ?_)
      refine J_if_ne (tgt := 37) hK dX5_mend_31 (by decide) ?_ ?_
      · refine J_ldc hK dX5_mend_34 kK_X5_127 ?_
        exact J_iret hK dX5_mend_36
      · refine J_aload_n hK dX5_mend_37 0 rfl ?_
        refine rF_X5_33 (q2 := 27) hK dX5_mend_38 kd_0 rfl ?_
        refine J_aload_n hK dX5_mend_41 0 rfl ?_
        refine rF_X5_26 (q2 := 20) hK dX5_mend_42 kd_0 rfl ?_
        refine J_callVv (q := 27) (As := [.ref (X.1 + 20)]) (st := []) hK dX5_mend_45 kB_X5_131 kV_X0_keep kd_27 (by decide) rfl rfl (by decide) rfl rfl (Nat.le_of_ble_eq_true rfl) (fun _ _ hf => uX0_keep kd_20 hf) (fun _ h7 => ?_)
        refine J_aload_n hK dX5_mend_48 0 rfl ?_
        refine rF_X5_26 (q2 := 20) hK dX5_mend_49 kd_0 rfl ?_
        refine J_iload_n hK dX5_mend_52 1 rfl ?_
        refine J_callVv (q := 20) (As := [.int a1]) (st := []) hK dX5_mend_53 kB_X5_150 kV_X2_mendRope kd_20 (by decide) rfl rfl (by decide) rfl rfl (Nat.le_of_ble_eq_true rfl) (fun _ _ hf => uX2_mendRope kd_20 hf) (fun _ h8 => ?_)
        refine J_aload_n hK dX5_mend_56 0 rfl ?_
        refine rF_X5_26 (q2 := 20) hK dX5_mend_57 kd_0 rfl ?_
        refine gF_X5_154 hK dX5_mend_60 kd_20 ?_
        exact J_iret hK dX5_mend_63
  · refine J_ldc hK dX5_mend_8 kK_X5_55 ?_
    exact J_iret hK dX5_mend_10
-- X5_pull
theorem dX5_pull_0 : DD cX5_pull 0 (.aload_n 0) 1 1 := by decide +kernel
theorem dX5_pull_1 : DD cX5_pull 1 (.iload_n 1) 1 2 := by decide +kernel
theorem dX5_pull_2 : DD cX5_pull 2 (.invokevirtual 141) 3 5 := by decide +kernel
theorem dX5_pull_5 : DD cX5_pull 5 (.ifCond .ne 14) 3 8 := by decide +kernel
theorem dX5_pull_8 : DD cX5_pull 8 (.iload_n 2) 1 9 := by decide +kernel
theorem dX5_pull_9 : DD cX5_pull 9 (.iconst 1) 1 10 := by decide +kernel
theorem dX5_pull_10 : DD cX5_pull 10 (.if_icmp .lt 9) 3 13 := by decide +kernel
theorem dX5_pull_13 : DD cX5_pull 13 (.iload_n 2) 1 14 := by decide +kernel
theorem dX5_pull_14 : DD cX5_pull 14 (.bipush 20) 2 16 := by decide +kernel
theorem dX5_pull_16 : DD cX5_pull 16 (.if_icmp .le 6) 3 19 := by decide +kernel
theorem dX5_pull_19 : DD cX5_pull 19 (.ldc 55) 2 21 := by decide +kernel
theorem dX5_pull_21 : DD cX5_pull 21 (.ireturn) 1 22 := by decide +kernel
theorem dX5_pull_22 : DD cX5_pull 22 (.aload_n 0) 1 23 := by decide +kernel
theorem dX5_pull_23 : DD cX5_pull 23 (.getfield 26) 3 26 := by decide +kernel
theorem dX5_pull_26 : DD cX5_pull 26 (.getfield 160) 3 29 := by decide +kernel
theorem dX5_pull_29 : DD cX5_pull 29 (.iload_n 1) 1 30 := by decide +kernel
theorem dX5_pull_30 : DD cX5_pull 30 (.iaload) 1 31 := by decide +kernel
theorem dX5_pull_31 : DD cX5_pull 31 (.istore_n 3) 1 32 := by decide +kernel
theorem dX5_pull_32 : DD cX5_pull 32 (.aload_n 0) 1 33 := by decide +kernel
theorem dX5_pull_33 : DD cX5_pull 33 (.getfield 33) 3 36 := by decide +kernel
theorem dX5_pull_36 : DD cX5_pull 36 (.aload_n 0) 1 37 := by decide +kernel
theorem dX5_pull_37 : DD cX5_pull 37 (.getfield 26) 3 40 := by decide +kernel
theorem dX5_pull_40 : DD cX5_pull 40 (.invokevirtual 131) 3 43 := by decide +kernel
theorem dX5_pull_43 : DD cX5_pull 43 (.aload_n 0) 1 44 := by decide +kernel
theorem dX5_pull_44 : DD cX5_pull 44 (.getfield 26) 3 47 := by decide +kernel
theorem dX5_pull_47 : DD cX5_pull 47 (.getfield 160) 3 50 := by decide +kernel
theorem dX5_pull_50 : DD cX5_pull 50 (.iload_n 1) 1 51 := by decide +kernel
theorem dX5_pull_51 : DD cX5_pull 51 (.iload_n 2) 1 52 := by decide +kernel
theorem dX5_pull_52 : DD cX5_pull 52 (.iastore) 1 53 := by decide +kernel
theorem dX5_pull_53 : DD cX5_pull 53 (.iload_n 3) 1 54 := by decide +kernel
theorem dX5_pull_54 : DD cX5_pull 54 (.ireturn) 1 55 := by decide +kernel
def fX5_pull (a1 : Int32) (a2 : Int32) (h : AH) : Option (Int32 × AH) := (bnd (fX5_noTug a1 h) fun v2 h1 => (if v2 = 0 then (if a2 < (1 : Int32) then (some ((-1000001 : Int32), h1)) else (if (20 : Int32) < a2 then (some ((-1000001 : Int32), h1)) else (chk (inb a1 (ln 22)) (vl (h1 22 (Int32.toNatClampNeg a1)) fun z3 => (bnd (fX0_keep 20 h1) fun _ h4 => (chk (inb a1 (ln 22)) (sto (hs h4 22 (Int32.toNatClampNeg a1) a2) fun h5 => (some (z3, h5))))))))) else (some ((-1000001 : Int32), h1))))
set_option maxHeartbeats 4000000 in
set_option maxRecDepth 4000 in
theorem uX5_pull {l : Launch} {X : WX} {a1 : Int32} {a2 : Int32} {h h' : AH} {v : Int32} (hf : fX5_pull a1 a2 h = some (v, h')) : Does l X 3 yX5_pull cX5_pull 4 (some .int) [.ref (X.1 + 0), .int a1, .int a2] h (eI v) h' := by
  refine Does.of (enc := eI) (o := fX5_pull a1 a2 h) (lv := [(0, .ref (X.1 + 0)), (1, .int a1), (2, .int a2)]) (by decide) (Nat.le_of_ble_eq_true rfl) rfl hf (fun K hl hK => ?_)
  subst hl
  unfold fX5_pull
  refine J_aload_n hK dX5_pull_0 0 rfl ?_
  refine J_iload_n hK dX5_pull_1 1 rfl ?_
  refine J_callVi (q := 0) (As := [.int a1]) (st := []) hK dX5_pull_2 kB_X5_141 kV_X5_noTug kd_0 (by decide) rfl rfl (by decide) rfl rfl (Nat.le_of_ble_eq_true rfl) (fun _ _ hf => uX5_noTug  hf) (fun v2 h1 => ?_)
  refine J_if_ne (tgt := 19) hK dX5_pull_5 (by decide) ?_ ?_
  · refine J_iload_n hK dX5_pull_8 2 rfl ?_
    refine J_iconst hK dX5_pull_9 ci_1 ?_
    refine J_icmp_lt (tgt := 19) hK dX5_pull_10 (by decide) ?_ ?_
    · refine J_ldc hK dX5_pull_19 kK_X5_55 ?_
      exact J_iret hK dX5_pull_21
    · refine J_iload_n hK dX5_pull_13 2 rfl ?_
      refine J_bipush hK dX5_pull_14 cb_20 ?_
      refine J_icmp_le (tgt := 22) hK dX5_pull_16 (by decide) ?_ ?_
      · refine J_ldc hK dX5_pull_19 kK_X5_55 ?_
        exact J_iret hK dX5_pull_21
      · refine J_aload_n hK dX5_pull_22 0 rfl ?_
        refine rF_X5_26 (q2 := 20) hK dX5_pull_23 kd_0 rfl ?_
        refine rF_X5_160 (q2 := 22) hK dX5_pull_26 kd_20 rfl ?_
        refine J_iload_n hK dX5_pull_29 1 rfl ?_
        refine J_iald hK dX5_pull_30 kd_22 (fun _ => ?_)
        refine J_istoreV_n (n := 3) (lw := [(0, .ref (X.1 + 0)), (1, .int a1), (2, .int a2)]) hK dX5_pull_31 rfl (by decide) rfl (fun z3 => ?_)
        refine J_aload_n hK dX5_pull_32 1 rfl ?_
        refine rF_X5_33 (q2 := 27) hK dX5_pull_33 kd_0 rfl ?_
        refine J_aload_n hK dX5_pull_36 1 rfl ?_
        refine rF_X5_26 (q2 := 20) hK dX5_pull_37 kd_0 rfl ?_
        refine J_callVv (q := 27) (As := [.ref (X.1 + 20)]) (st := []) hK dX5_pull_40 kB_X5_131 kV_X0_keep kd_27 (by decide) rfl rfl (by decide) rfl rfl (Nat.le_of_ble_eq_true rfl) (fun _ _ hf => uX0_keep kd_20 hf) (fun _ h4 => ?_)
        refine J_aload_n hK dX5_pull_43 1 rfl ?_
        refine rF_X5_26 (q2 := 20) hK dX5_pull_44 kd_0 rfl ?_
        refine rF_X5_160 (q2 := 22) hK dX5_pull_47 kd_20 rfl ?_
        refine J_iload_n hK dX5_pull_50 2 rfl ?_
        refine J_iload_n hK dX5_pull_51 3 rfl ?_
        refine J_iast hK dX5_pull_52 kd_22 (fun h5 => ?_)
        refine J_iload_n hK dX5_pull_53 0 rfl ?_
        exact J_iret hK dX5_pull_54
  · refine J_ldc hK dX5_pull_19 kK_X5_55 ?_
    exact J_iret hK dX5_pull_21
-- X5_share
theorem dX5_share_0 : DD cX5_share 0 (.aload_n 0) 1 1 := by decide +kernel
theorem dX5_share_1 : DD cX5_share 1 (.iload_n 1) 1 2 := by decide +kernel
theorem dX5_share_2 : DD cX5_share 2 (.invokevirtual 141) 3 5 := by decide +kernel
theorem dX5_share_5 : DD cX5_share 5 (.ifCond .ne 14) 3 8 := by decide +kernel
theorem dX5_share_8 : DD cX5_share 8 (.iload_n 2) 1 9 := by decide +kernel
theorem dX5_share_9 : DD cX5_share 9 (.ifCond .lt 10) 3 12 := by decide +kernel
theorem dX5_share_12 : DD cX5_share 12 (.iload_n 2) 1 13 := by decide +kernel
theorem dX5_share_13 : DD cX5_share 13 (.sipush 999) 3 16 := by decide +kernel
theorem dX5_share_16 : DD cX5_share 16 (.if_icmp .le 6) 3 19 := by decide +kernel
theorem dX5_share_19 : DD cX5_share 19 (.ldc 55) 2 21 := by decide +kernel
theorem dX5_share_21 : DD cX5_share 21 (.ireturn) 1 22 := by decide +kernel
theorem dX5_share_22 : DD cX5_share 22 (.aload_n 0) 1 23 := by decide +kernel
theorem dX5_share_23 : DD cX5_share 23 (.getfield 26) 3 26 := by decide +kernel
theorem dX5_share_26 : DD cX5_share 26 (.invokevirtual 219) 3 29 := by decide +kernel
theorem dX5_share_29 : DD cX5_share 29 (.istore_n 3) 1 30 := by decide +kernel
theorem dX5_share_30 : DD cX5_share 30 (.aload_n 0) 1 31 := by decide +kernel
theorem dX5_share_31 : DD cX5_share 31 (.getfield 26) 3 34 := by decide +kernel
theorem dX5_share_34 : DD cX5_share 34 (.iload_n 1) 1 35 := by decide +kernel
theorem dX5_share_35 : DD cX5_share 35 (.invokevirtual 144) 3 38 := by decide +kernel
theorem dX5_share_38 : DD cX5_share 38 (.ifCond .eq 8) 3 41 := by decide +kernel
theorem dX5_share_41 : DD cX5_share 41 (.iload_n 3) 1 42 := by decide +kernel
theorem dX5_share_42 : DD cX5_share 42 (.iconst 1) 1 43 := by decide +kernel
theorem dX5_share_43 : DD cX5_share 43 (.if_icmp .ge 5) 3 46 := by decide +kernel
theorem dX5_share_46 : DD cX5_share 46 (.iconst 0) 1 47 := by decide +kernel
theorem dX5_share_47 : DD cX5_share 47 (.ireturn) 1 48 := by decide +kernel
theorem dX5_share_48 : DD cX5_share 48 (.iload_n 2) 1 49 := by decide +kernel
theorem dX5_share_49 : DD cX5_share 49 (.istore 4) 2 51 := by decide +kernel
theorem dX5_share_51 : DD cX5_share 51 (.iconst 0) 1 52 := by decide +kernel
theorem dX5_share_52 : DD cX5_share 52 (.istore 5) 2 54 := by decide +kernel
theorem dX5_share_54 : DD cX5_share 54 (.iconst 0) 1 55 := by decide +kernel
theorem dX5_share_55 : DD cX5_share 55 (.istore 6) 2 57 := by decide +kernel
theorem dX5_share_57 : DD cX5_share 57 (.iload 6) 2 59 := by decide +kernel
theorem dX5_share_59 : DD cX5_share 59 (.aload_n 0) 1 60 := by decide +kernel
theorem dX5_share_60 : DD cX5_share 60 (.getfield 26) 3 63 := by decide +kernel
theorem dX5_share_63 : DD cX5_share 63 (.getfield 118) 3 66 := by decide +kernel
theorem dX5_share_66 : DD cX5_share 66 (.if_icmp .ge 56) 3 69 := by decide +kernel
theorem dX5_share_69 : DD cX5_share 69 (.aload_n 0) 1 70 := by decide +kernel
theorem dX5_share_70 : DD cX5_share 70 (.getfield 26) 3 73 := by decide +kernel
theorem dX5_share_73 : DD cX5_share 73 (.iload 6) 2 75 := by decide +kernel
theorem dX5_share_75 : DD cX5_share 75 (.invokevirtual 144) 3 78 := by decide +kernel
theorem dX5_share_78 : DD cX5_share 78 (.ifCond .eq 38) 3 81 := by decide +kernel
theorem dX5_share_81 : DD cX5_share 81 (.iload 4) 2 83 := by decide +kernel
theorem dX5_share_83 : DD cX5_share 83 (.iload_n 2) 1 84 := by decide +kernel
theorem dX5_share_84 : DD cX5_share 84 (.aload_n 0) 1 85 := by decide +kernel
theorem dX5_share_85 : DD cX5_share 85 (.getfield 26) 3 88 := by decide +kernel
theorem dX5_share_88 : DD cX5_share 88 (.getfield 160) 3 91 := by decide +kernel
theorem dX5_share_91 : DD cX5_share 91 (.iload 6) 2 93 := by decide +kernel
theorem dX5_share_93 : DD cX5_share 93 (.iaload) 1 94 := by decide +kernel
theorem dX5_share_94 : DD cX5_share 94 (.imul) 1 95 := by decide +kernel
theorem dX5_share_95 : DD cX5_share 95 (.iload_n 3) 1 96 := by decide +kernel
theorem dX5_share_96 : DD cX5_share 96 (.idiv) 1 97 := by decide +kernel
theorem dX5_share_97 : DD cX5_share 97 (.isub) 1 98 := by decide +kernel
theorem dX5_share_98 : DD cX5_share 98 (.istore 4) 2 100 := by decide +kernel
theorem dX5_share_100 : DD cX5_share 100 (.iload 5) 2 102 := by decide +kernel
theorem dX5_share_102 : DD cX5_share 102 (.iload 6) 2 104 := by decide +kernel
theorem dX5_share_104 : DD cX5_share 104 (.iload_n 1) 1 105 := by decide +kernel
theorem dX5_share_105 : DD cX5_share 105 (.if_icmp .ge 7) 3 108 := by decide +kernel
theorem dX5_share_108 : DD cX5_share 108 (.iconst 1) 1 109 := by decide +kernel
theorem dX5_share_109 : DD cX5_share 109 (.goto 4) 3 112 := by decide +kernel
theorem dX5_share_112 : DD cX5_share 112 (.iconst 0) 1 113 := by decide +kernel
theorem dX5_share_113 : DD cX5_share 113 (.iadd) 1 114 := by decide +kernel
theorem dX5_share_114 : DD cX5_share 114 (.istore 5) 2 116 := by decide +kernel
theorem dX5_share_116 : DD cX5_share 116 (.iinc 6 1) 3 119 := by decide +kernel
theorem dX5_share_119 : DD cX5_share 119 (.goto (-62)) 3 122 := by decide +kernel
theorem dX5_share_122 : DD cX5_share 122 (.iload_n 2) 1 123 := by decide +kernel
theorem dX5_share_123 : DD cX5_share 123 (.aload_n 0) 1 124 := by decide +kernel
theorem dX5_share_124 : DD cX5_share 124 (.getfield 26) 3 127 := by decide +kernel
theorem dX5_share_127 : DD cX5_share 127 (.getfield 160) 3 130 := by decide +kernel
theorem dX5_share_130 : DD cX5_share 130 (.iload_n 1) 1 131 := by decide +kernel
theorem dX5_share_131 : DD cX5_share 131 (.iaload) 1 132 := by decide +kernel
theorem dX5_share_132 : DD cX5_share 132 (.imul) 1 133 := by decide +kernel
theorem dX5_share_133 : DD cX5_share 133 (.iload_n 3) 1 134 := by decide +kernel
theorem dX5_share_134 : DD cX5_share 134 (.idiv) 1 135 := by decide +kernel
theorem dX5_share_135 : DD cX5_share 135 (.iload 5) 2 137 := by decide +kernel
theorem dX5_share_137 : DD cX5_share 137 (.iload 4) 2 139 := by decide +kernel
theorem dX5_share_139 : DD cX5_share 139 (.if_icmp .ge 7) 3 142 := by decide +kernel
theorem dX5_share_142 : DD cX5_share 142 (.iconst 1) 1 143 := by decide +kernel
theorem dX5_share_143 : DD cX5_share 143 (.goto 4) 3 146 := by decide +kernel
theorem dX5_share_146 : DD cX5_share 146 (.iconst 0) 1 147 := by decide +kernel
theorem dX5_share_147 : DD cX5_share 147 (.iadd) 1 148 := by decide +kernel
theorem dX5_share_148 : DD cX5_share 148 (.ireturn) 1 149 := by decide +kernel
def fX5_share_L57 (p3 : Int32) (p1 : Int32) (p2 : Int32) : Nat → Int32 → Int32 → Int32 → AH → (Int32 → Int32 → Int32 → AH → Option (Int32 × AH)) → Option (Int32 × AH)
  | 0, _, _, _, _, _ => none
  | n + 1, x6, x5, x4, h, k => (if x6 < (h 20 0) then (bnd (fX2_holds 20 x6 h) fun v202 h201 => (if v202 = 0 then (vl (x6 + (1 : Int32)) fun z203 => fX5_share_L57 p3 p1 p2 n z203 x5 x4 h201 k) else (chk (inb x6 (ln 22)) (chk (¬ p3 = 0) (vl (x4 - ((p2 * (h201 22 (Int32.toNatClampNeg x6))) / p3)) fun z204 => (if x6 < p1 then (vl (x5 + (1 : Int32)) fun z205 => (vl (x6 + (1 : Int32)) fun z206 => fX5_share_L57 p3 p1 p2 n z206 z205 z204 h201 k)) else (vl (x5 + (0 : Int32)) fun z207 => (vl (x6 + (1 : Int32)) fun z208 => fX5_share_L57 p3 p1 p2 n z208 z207 z204 h201 k)))))))) else k x6 x5 x4 h)
def fX5_share (a1 : Int32) (a2 : Int32) (h : AH) : Option (Int32 × AH) := (bnd (fX5_noTug a1 h) fun v2 h1 => (if v2 = 0 then (if a2 < 0 then (some ((-1000001 : Int32), h1)) else (if (999 : Int32) < a2 then (some ((-1000001 : Int32), h1)) else (bnd (fX2_pullOfHolders 20 h1) fun v4 h3 => (bnd (fX2_holds 20 a1 h3) fun v6 h5 => (if v6 = 0 then (some ((0 : Int32), h5)) else (if v4 < (1 : Int32) then (some ((0 : Int32), h5)) else (fX5_share_L57 v4 a1 a2 FU (0 : Int32) (0 : Int32) a2 h5 fun z7 z8 z9 h10 => (chk (inb a1 (ln 22)) (chk (¬ v4 = 0) (if z8 < z9 then (some ((((a2 * (h10 22 (Int32.toNatClampNeg a1))) / v4) + (1 : Int32)), h10)) else (some ((((a2 * (h10 22 (Int32.toNatClampNeg a1))) / v4) + (0 : Int32)), h10)))))))))))) else (some ((-1000001 : Int32), h1))))
set_option maxHeartbeats 4000000 in
theorem gX5_share_L57 {K : MC} {X : WX} {p3 : Int32} {p1 : Int32} {p2 : Int32} (hK : Ok K X RX5 cX5_share 7 (some .int) 3) {k : Int32 → Int32 → Int32 → AH → Option (Int32 × AH)} (hk : ∀ (x6 : Int32) (x5 : Int32) (x4 : Int32) (h : AH), J K X 7 (Zm K X) eI 122 [(6, .int x6), (5, .int x5), (4, .int x4), (3, .int p3), (0, .ref (X.1 + 0)), (1, .int p1), (2, .int p2)] [] h (k x6 x5 x4 h)) : ∀ (n : Nat) (x6 : Int32) (x5 : Int32) (x4 : Int32) (h : AH), J K X 7 (Zm K X) eI 57 [(6, .int x6), (5, .int x5), (4, .int x4), (3, .int p3), (0, .ref (X.1 + 0)), (1, .int p1), (2, .int p2)] [] h (fX5_share_L57 p3 p1 p2 n x6 x5 x4 h k) := by
  intro n
  induction n with
  | zero => exact fun _ _ _ _ => J_none
  | succ n ih =>
    intro x6 x5 x4 h
    rw [fX5_share_L57]
    refine J_iload hK dX5_share_57 0 rfl ?_
    refine J_aload_n hK dX5_share_59 4 rfl ?_
    refine rF_X5_26 (q2 := 20) hK dX5_share_60 kd_0 rfl ?_
    refine gF_X5_118 hK dX5_share_63 kd_20 ?_
    refine J_icmp_ge (tgt := 122) hK dX5_share_66 (by decide) ?_ ?_
    · refine J_aload_n hK dX5_share_69 4 rfl ?_
      refine rF_X5_26 (q2 := 20) hK dX5_share_70 kd_0 rfl ?_
      refine J_iload hK dX5_share_73 0 rfl ?_
      refine J_callVi (q := 20) (As := [.int x6]) (st := []) hK dX5_share_75 kB_X5_144 kV_X2_holds kd_20 (by decide) rfl rfl (by decide) rfl rfl (Nat.le_of_ble_eq_true rfl) (fun _ _ hf => uX2_holds kd_20 hf) (fun v202 h201 => ?_)
      refine J_if_eq (tgt := 116) hK dX5_share_78 (by decide) ?_ ?_
      · refine J_iinc (lw := [(5, .int x5), (4, .int x4), (3, .int p3), (0, .ref (X.1 + 0)), (1, .int p1), (2, .int p2)]) hK dX5_share_116 0 rfl (by decide) ci_1 rfl (fun z203 => ?_)
        refine J_goto (len := 0) (tgt := 57) hK dX5_share_119 (by decide) ?_
        exact J_sub [0, 1, 2, 3, 4, 5, 6] rfl (ih _ _ _ _)
      · refine J_iload hK dX5_share_81 2 rfl ?_
        refine J_iload_n hK dX5_share_83 6 rfl ?_
        refine J_aload_n hK dX5_share_84 4 rfl ?_
        refine rF_X5_26 (q2 := 20) hK dX5_share_85 kd_0 rfl ?_
        refine rF_X5_160 (q2 := 22) hK dX5_share_88 kd_20 rfl ?_
        refine J_iload hK dX5_share_91 0 rfl ?_
        refine J_iald hK dX5_share_93 kd_22 (fun _ => ?_)
        refine J_imul hK dX5_share_94 ?_
        refine J_iload_n hK dX5_share_95 3 rfl ?_
        refine J_idiv hK dX5_share_96 ?_
        refine J_isub hK dX5_share_97 ?_
        refine J_istoreV (lw := [(6, .int x6), (5, .int x5), (3, .int p3), (0, .ref (X.1 + 0)), (1, .int p1), (2, .int p2)]) hK dX5_share_98 (by decide) rfl (fun z204 => ?_)
        refine J_iload hK dX5_share_100 2 rfl ?_
        refine J_iload hK dX5_share_102 1 rfl ?_
        refine J_iload_n hK dX5_share_104 5 rfl ?_
        refine J_icmp_ge (tgt := 112) hK dX5_share_105 (by decide) ?_ ?_
        · refine J_iconst hK dX5_share_108 ci_1 ?_
          refine J_goto (len := 0) (tgt := 113) hK dX5_share_109 (by decide) ?_
          refine J_iadd hK dX5_share_113 ?_
          refine J_istoreV (lw := [(4, .int z204), (6, .int x6), (3, .int p3), (0, .ref (X.1 + 0)), (1, .int p1), (2, .int p2)]) hK dX5_share_114 (by decide) rfl (fun z205 => ?_)
          refine J_iinc (lw := [(5, .int z205), (4, .int z204), (3, .int p3), (0, .ref (X.1 + 0)), (1, .int p1), (2, .int p2)]) hK dX5_share_116 2 rfl (by decide) ci_1 rfl (fun z206 => ?_)
          refine J_goto (len := 0) (tgt := 57) hK dX5_share_119 (by decide) ?_
          exact J_sub [0, 1, 2, 3, 4, 5, 6] rfl (ih _ _ _ _)
        · refine J_iconst hK dX5_share_112 ci_0 ?_
          refine J_iadd hK dX5_share_113 ?_
          refine J_istoreV (lw := [(4, .int z204), (6, .int x6), (3, .int p3), (0, .ref (X.1 + 0)), (1, .int p1), (2, .int p2)]) hK dX5_share_114 (by decide) rfl (fun z207 => ?_)
          refine J_iinc (lw := [(5, .int z207), (4, .int z204), (3, .int p3), (0, .ref (X.1 + 0)), (1, .int p1), (2, .int p2)]) hK dX5_share_116 2 rfl (by decide) ci_1 rfl (fun z208 => ?_)
          refine J_goto (len := 0) (tgt := 57) hK dX5_share_119 (by decide) ?_
          exact J_sub [0, 1, 2, 3, 4, 5, 6] rfl (ih _ _ _ _)
    · exact J_sub [0, 1, 2, 3, 4, 5, 6] rfl (hk _ _ _ _)
set_option maxHeartbeats 4000000 in
set_option maxRecDepth 4000 in
theorem uX5_share {l : Launch} {X : WX} {a1 : Int32} {a2 : Int32} {h h' : AH} {v : Int32} (hf : fX5_share a1 a2 h = some (v, h')) : Does l X 3 yX5_share cX5_share 7 (some .int) [.ref (X.1 + 0), .int a1, .int a2] h (eI v) h' := by
  refine Does.of (enc := eI) (o := fX5_share a1 a2 h) (lv := [(0, .ref (X.1 + 0)), (1, .int a1), (2, .int a2)]) (by decide) (Nat.le_of_ble_eq_true rfl) rfl hf (fun K hl hK => ?_)
  subst hl
  unfold fX5_share
  refine J_aload_n hK dX5_share_0 0 rfl ?_
  refine J_iload_n hK dX5_share_1 1 rfl ?_
  refine J_callVi (q := 0) (As := [.int a1]) (st := []) hK dX5_share_2 kB_X5_141 kV_X5_noTug kd_0 (by decide) rfl rfl (by decide) rfl rfl (Nat.le_of_ble_eq_true rfl) (fun _ _ hf => uX5_noTug  hf) (fun v2 h1 => ?_)
  refine J_if_ne (tgt := 19) hK dX5_share_5 (by decide) ?_ ?_
  · refine J_iload_n hK dX5_share_8 2 rfl ?_
    refine J_if_lt (tgt := 19) hK dX5_share_9 (by decide) ?_ ?_
    · refine J_ldc hK dX5_share_19 kK_X5_55 ?_
      exact J_iret hK dX5_share_21
    · refine J_iload_n hK dX5_share_12 2 rfl ?_
      refine J_sipush hK dX5_share_13 cs_999 ?_
      refine J_icmp_le (tgt := 22) hK dX5_share_16 (by decide) ?_ ?_
      · refine J_ldc hK dX5_share_19 kK_X5_55 ?_
        exact J_iret hK dX5_share_21
      · refine J_aload_n hK dX5_share_22 0 rfl ?_
        refine rF_X5_26 (q2 := 20) hK dX5_share_23 kd_0 rfl ?_
        refine J_callVi (q := 20) (As := []) (st := []) hK dX5_share_26 kB_X5_219 kV_X2_pullOfHolders kd_20 (by decide) rfl rfl (by decide) rfl rfl (Nat.le_of_ble_eq_true rfl) (fun _ _ hf => uX2_pullOfHolders kd_20 hf) (fun v4 h3 => ?_)
        refine J_istore_n (n := 3) (lw := [(0, .ref (X.1 + 0)), (1, .int a1), (2, .int a2)]) hK dX5_share_29 rfl (by decide) rfl ?_
        refine J_aload_n hK dX5_share_30 1 rfl ?_
        refine rF_X5_26 (q2 := 20) hK dX5_share_31 kd_0 rfl ?_
        refine J_iload_n hK dX5_share_34 2 rfl ?_
        refine J_callVi (q := 20) (As := [.int a1]) (st := []) hK dX5_share_35 kB_X5_144 kV_X2_holds kd_20 (by decide) rfl rfl (by decide) rfl rfl (Nat.le_of_ble_eq_true rfl) (fun _ _ hf => uX2_holds kd_20 hf) (fun v6 h5 => ?_)
        refine J_if_eq (tgt := 46) hK dX5_share_38 (by decide) ?_ ?_
        · refine J_iconst hK dX5_share_46 ci_0 ?_
          exact J_iret hK dX5_share_47
        · refine J_iload_n hK dX5_share_41 0 rfl ?_
          refine J_iconst hK dX5_share_42 ci_1 ?_
          refine J_icmp_ge (tgt := 48) hK dX5_share_43 (by decide) ?_ ?_
          · refine J_iconst hK dX5_share_46 ci_0 ?_
            exact J_iret hK dX5_share_47
          · refine J_iload_n hK dX5_share_48 3 rfl ?_
            refine J_istore (lw := [(3, .int v4), (0, .ref (X.1 + 0)), (1, .int a1), (2, .int a2)]) hK dX5_share_49 (by decide) rfl ?_
            refine J_iconst hK dX5_share_51 ci_0 ?_
            refine J_istore (lw := [(4, .int a2), (3, .int v4), (0, .ref (X.1 + 0)), (1, .int a1), (2, .int a2)]) hK dX5_share_52 (by decide) rfl ?_
            refine J_iconst hK dX5_share_54 ci_0 ?_
            refine J_istore (lw := [(5, .int (0 : Int32)), (4, .int a2), (3, .int v4), (0, .ref (X.1 + 0)), (1, .int a1), (2, .int a2)]) hK dX5_share_55 (by decide) rfl ?_
            refine J_sub [0, 1, 2, 3, 4, 5, 6] rfl (gX5_share_L57 hK  (fun z7 z8 z9 h10 => ?_) FU _ _ _ _)
            refine J_iload_n hK dX5_share_122 6 rfl ?_
            refine J_aload_n hK dX5_share_123 4 rfl ?_
            refine rF_X5_26 (q2 := 20) hK dX5_share_124 kd_0 rfl ?_
            refine rF_X5_160 (q2 := 22) hK dX5_share_127 kd_20 rfl ?_
            refine J_iload_n hK dX5_share_130 5 rfl ?_
            refine J_iald hK dX5_share_131 kd_22 (fun _ => ?_)
            refine J_imul hK dX5_share_132 ?_
            refine J_iload_n hK dX5_share_133 3 rfl ?_
            refine J_idiv hK dX5_share_134 ?_
            refine J_iload hK dX5_share_135 1 rfl ?_
            refine J_iload hK dX5_share_137 2 rfl ?_
            refine J_icmp_ge (tgt := 146) hK dX5_share_139 (by decide) ?_ ?_
            · refine J_iconst hK dX5_share_142 ci_1 ?_
              refine J_goto (len := 0) (tgt := 147) hK dX5_share_143 (by decide) ?_
              refine J_iadd hK dX5_share_147 ?_
              exact J_iret hK dX5_share_148
            · refine J_iconst hK dX5_share_146 ci_0 ?_
              refine J_iadd hK dX5_share_147 ?_
              exact J_iret hK dX5_share_148
  · refine J_ldc hK dX5_share_19 kK_X5_55 ?_
    exact J_iret hK dX5_share_21
-- X5_tug
theorem dX5_tug_0 : DD cX5_tug 0 (.aload_n 0) 1 1 := by decide +kernel
theorem dX5_tug_1 : DD cX5_tug 1 (.iload_n 1) 1 2 := by decide +kernel
theorem dX5_tug_2 : DD cX5_tug 2 (.invokevirtual 141) 3 5 := by decide +kernel
theorem dX5_tug_5 : DD cX5_tug 5 (.ifCond .eq 6) 3 8 := by decide +kernel
theorem dX5_tug_8 : DD cX5_tug 8 (.ldc 55) 2 10 := by decide +kernel
theorem dX5_tug_10 : DD cX5_tug 10 (.ireturn) 1 11 := by decide +kernel
theorem dX5_tug_11 : DD cX5_tug 11 (.iload_n 2) 1 12 := by decide +kernel
theorem dX5_tug_12 : DD cX5_tug 12 (.tableswitch 92 0 4 #[36, 46, 56, 66, 83]) 36 48 := by decide +kernel
theorem dX5_tug_48 : DD cX5_tug 48 (.aload_n 0) 1 49 := by decide +kernel
theorem dX5_tug_49 : DD cX5_tug 49 (.getfield 26) 3 52 := by decide +kernel
theorem dX5_tug_52 : DD cX5_tug 52 (.getfield 160) 3 55 := by decide +kernel
theorem dX5_tug_55 : DD cX5_tug 55 (.iload_n 1) 1 56 := by decide +kernel
theorem dX5_tug_56 : DD cX5_tug 56 (.iaload) 1 57 := by decide +kernel
theorem dX5_tug_57 : DD cX5_tug 57 (.ireturn) 1 58 := by decide +kernel
theorem dX5_tug_58 : DD cX5_tug 58 (.aload_n 0) 1 59 := by decide +kernel
theorem dX5_tug_59 : DD cX5_tug 59 (.getfield 26) 3 62 := by decide +kernel
theorem dX5_tug_62 : DD cX5_tug 62 (.getfield 176) 3 65 := by decide +kernel
theorem dX5_tug_65 : DD cX5_tug 65 (.iload_n 1) 1 66 := by decide +kernel
theorem dX5_tug_66 : DD cX5_tug 66 (.iaload) 1 67 := by decide +kernel
theorem dX5_tug_67 : DD cX5_tug 67 (.ireturn) 1 68 := by decide +kernel
theorem dX5_tug_68 : DD cX5_tug 68 (.aload_n 0) 1 69 := by decide +kernel
theorem dX5_tug_69 : DD cX5_tug 69 (.getfield 26) 3 72 := by decide +kernel
theorem dX5_tug_72 : DD cX5_tug 72 (.getfield 147) 3 75 := by decide +kernel
theorem dX5_tug_75 : DD cX5_tug 75 (.iload_n 1) 1 76 := by decide +kernel
theorem dX5_tug_76 : DD cX5_tug 76 (.iaload) 1 77 := by decide +kernel
theorem dX5_tug_77 : DD cX5_tug 77 (.ireturn) 1 78 := by decide +kernel
theorem dX5_tug_78 : DD cX5_tug 78 (.aload_n 0) 1 79 := by decide +kernel
theorem dX5_tug_79 : DD cX5_tug 79 (.getfield 26) 3 82 := by decide +kernel
theorem dX5_tug_82 : DD cX5_tug 82 (.iload_n 1) 1 83 := by decide +kernel
theorem dX5_tug_83 : DD cX5_tug 83 (.invokevirtual 144) 3 86 := by decide +kernel
theorem dX5_tug_86 : DD cX5_tug 86 (.ifCond .eq 7) 3 89 := by decide +kernel
theorem dX5_tug_89 : DD cX5_tug 89 (.iconst 1) 1 90 := by decide +kernel
theorem dX5_tug_90 : DD cX5_tug 90 (.goto 4) 3 93 := by decide +kernel
theorem dX5_tug_93 : DD cX5_tug 93 (.iconst 0) 1 94 := by decide +kernel
theorem dX5_tug_94 : DD cX5_tug 94 (.ireturn) 1 95 := by decide +kernel
theorem dX5_tug_95 : DD cX5_tug 95 (.aload_n 0) 1 96 := by decide +kernel
theorem dX5_tug_96 : DD cX5_tug 96 (.getfield 26) 3 99 := by decide +kernel
theorem dX5_tug_99 : DD cX5_tug 99 (.iload_n 1) 1 100 := by decide +kernel
theorem dX5_tug_100 : DD cX5_tug 100 (.invokevirtual 179) 3 103 := by decide +kernel
theorem dX5_tug_103 : DD cX5_tug 103 (.ireturn) 1 104 := by decide +kernel
theorem dX5_tug_104 : DD cX5_tug 104 (.ldc 55) 2 106 := by decide +kernel
theorem dX5_tug_106 : DD cX5_tug 106 (.ireturn) 1 107 := by decide +kernel
def fX5_tug (a1 : Int32) (a2 : Int32) (h : AH) : Option (Int32 × AH) := (bnd (fX5_noTug a1 h) fun v2 h1 => (if v2 = 0 then (if a2 = (0 : Int32) then (chk (inb a1 (ln 22)) (some ((h1 22 (Int32.toNatClampNeg a1)), h1))) else (if a2 = (1 : Int32) then (chk (inb a1 (ln 23)) (some ((h1 23 (Int32.toNatClampNeg a1)), h1))) else (if a2 = (2 : Int32) then (chk (inb a1 (ln 24)) (some ((h1 24 (Int32.toNatClampNeg a1)), h1))) else (if a2 = (3 : Int32) then (bnd (fX2_holds 20 a1 h1) fun v7 h6 => (if v7 = 0 then (some ((0 : Int32), h6)) else (some ((1 : Int32), h6)))) else (if a2 = (4 : Int32) then (bnd (fX2_drawOf 20 a1 h1) fun v10 h9 => (some (v10, h9))) else (some ((-1000001 : Int32), h1))))))) else (some ((-1000001 : Int32), h1))))
set_option maxHeartbeats 4000000 in
set_option maxRecDepth 4000 in
theorem uX5_tug {l : Launch} {X : WX} {a1 : Int32} {a2 : Int32} {h h' : AH} {v : Int32} (hf : fX5_tug a1 a2 h = some (v, h')) : Does l X 3 yX5_tug cX5_tug 3 (some .int) [.ref (X.1 + 0), .int a1, .int a2] h (eI v) h' := by
  refine Does.of (enc := eI) (o := fX5_tug a1 a2 h) (lv := [(0, .ref (X.1 + 0)), (1, .int a1), (2, .int a2)]) (by decide) (Nat.le_of_ble_eq_true rfl) rfl hf (fun K hl hK => ?_)
  subst hl
  unfold fX5_tug
  refine J_aload_n hK dX5_tug_0 0 rfl ?_
  refine J_iload_n hK dX5_tug_1 1 rfl ?_
  refine J_callVi (q := 0) (As := [.int a1]) (st := []) hK dX5_tug_2 kB_X5_141 kV_X5_noTug kd_0 (by decide) rfl rfl (by decide) rfl rfl (Nat.le_of_ble_eq_true rfl) (fun _ _ hf => uX5_noTug  hf) (fun v2 h1 => ?_)
  refine J_if_eq (tgt := 11) hK dX5_tug_5 (by decide) ?_ ?_
  · refine J_iload_n hK dX5_tug_11 2 rfl ?_
    refine J_split (c := a2 = (0 : Int32)) (fun e3 => ?_) (fun e3 => ?_)
    · refine J_tableIn (v := 0) (off := 36) (tgt := 48) hK dX5_tug_12 e3 (by decide) ?_
      refine J_aload_n hK dX5_tug_48 0 rfl ?_
      refine rF_X5_26 (q2 := 20) hK dX5_tug_49 kd_0 rfl ?_
      refine rF_X5_160 (q2 := 22) hK dX5_tug_52 kd_20 rfl ?_
      refine J_iload_n hK dX5_tug_55 1 rfl ?_
      refine J_iald hK dX5_tug_56 kd_22 (fun _ => ?_)
      exact J_iret hK dX5_tug_57
    refine J_split (c := a2 = (1 : Int32)) (fun e4 => ?_) (fun e4 => ?_)
    · refine J_tableIn (v := 1) (off := 46) (tgt := 58) hK dX5_tug_12 e4 (by decide) ?_
      refine J_aload_n hK dX5_tug_58 0 rfl ?_
      refine rF_X5_26 (q2 := 20) hK dX5_tug_59 kd_0 rfl ?_
      refine rF_X5_176 (q2 := 23) hK dX5_tug_62 kd_20 rfl ?_
      refine J_iload_n hK dX5_tug_65 1 rfl ?_
      refine J_iald hK dX5_tug_66 kd_23 (fun _ => ?_)
      exact J_iret hK dX5_tug_67
    refine J_split (c := a2 = (2 : Int32)) (fun e5 => ?_) (fun e5 => ?_)
    · refine J_tableIn (v := 2) (off := 56) (tgt := 68) hK dX5_tug_12 e5 (by decide) ?_
      refine J_aload_n hK dX5_tug_68 0 rfl ?_
      refine rF_X5_26 (q2 := 20) hK dX5_tug_69 kd_0 rfl ?_
      refine rF_X5_147 (q2 := 24) hK dX5_tug_72 kd_20 rfl ?_
      refine J_iload_n hK dX5_tug_75 1 rfl ?_
      refine J_iald hK dX5_tug_76 kd_24 (fun _ => ?_)
      exact J_iret hK dX5_tug_77
    refine J_split (c := a2 = (3 : Int32)) (fun e8 => ?_) (fun e8 => ?_)
    · refine J_tableIn (v := 3) (off := 66) (tgt := 78) hK dX5_tug_12 e8 (by decide) ?_
      refine J_aload_n hK dX5_tug_78 0 rfl ?_
      refine rF_X5_26 (q2 := 20) hK dX5_tug_79 kd_0 rfl ?_
      refine J_iload_n hK dX5_tug_82 1 rfl ?_
      refine J_callVi (q := 20) (As := [.int a1]) (st := []) hK dX5_tug_83 kB_X5_144 kV_X2_holds kd_20 (by decide) rfl rfl (by decide) rfl rfl (Nat.le_of_ble_eq_true rfl) (fun _ _ hf => uX2_holds kd_20 hf) (fun v7 h6 => ?_)
      refine J_if_eq (tgt := 93) hK dX5_tug_86 (by decide) ?_ ?_
      · refine J_iconst hK dX5_tug_93 ci_0 ?_
        exact J_iret hK dX5_tug_94
      · refine J_iconst hK dX5_tug_89 ci_1 ?_
        refine J_goto (len := 0) (tgt := 94) hK dX5_tug_90 (by decide) ?_
        exact J_iret hK dX5_tug_94
    refine J_split (c := a2 = (4 : Int32)) (fun e11 => ?_) (fun e11 => ?_)
    · refine J_tableIn (v := 4) (off := 83) (tgt := 95) hK dX5_tug_12 e11 (by decide) ?_
      refine J_aload_n hK dX5_tug_95 0 rfl ?_
      refine rF_X5_26 (q2 := 20) hK dX5_tug_96 kd_0 rfl ?_
      refine J_iload_n hK dX5_tug_99 1 rfl ?_
      refine J_callVi (q := 20) (As := [.int a1]) (st := []) hK dX5_tug_100 kB_X5_179 kV_X2_drawOf kd_20 (by decide) rfl rfl (by decide) rfl rfl (Nat.le_of_ble_eq_true rfl) (fun _ _ hf => uX2_drawOf kd_20 hf) (fun v10 h9 => ?_)
      exact J_iret hK dX5_tug_103
    refine J_tableOut (tgt := 104) hK dX5_tug_12 (tbl_out [0, 1, 2, 3, 4] (by decide) (nl1 e3 (nl1 e4 (nl1 e5 (nl1 e8 (nl1 e11 nl0)))))) (by decide) ?_
    refine J_ldc hK dX5_tug_104 kK_X5_55 ?_
    exact J_iret hK dX5_tug_106
  · refine J_ldc hK dX5_tug_8 kK_X5_55 ?_
    exact J_iret hK dX5_tug_10
-- X5_undo
theorem dX5_undo_0 : DD cX5_undo 0 (.aload_n 0) 1 1 := by decide +kernel
theorem dX5_undo_1 : DD cX5_undo 1 (.getfield 33) 3 4 := by decide +kernel
theorem dX5_undo_4 : DD cX5_undo 4 (.getfield 169) 3 7 := by decide +kernel
theorem dX5_undo_7 : DD cX5_undo 7 (.ifCond .ne 6) 3 10 := by decide +kernel
theorem dX5_undo_10 : DD cX5_undo 10 (.ldc 127) 2 12 := by decide +kernel
theorem dX5_undo_12 : DD cX5_undo 12 (.ireturn) 1 13 := by decide +kernel
theorem dX5_undo_13 : DD cX5_undo 13 (.aload_n 0) 1 14 := by decide +kernel
theorem dX5_undo_14 : DD cX5_undo 14 (.getfield 33) 3 17 := by decide +kernel
theorem dX5_undo_17 : DD cX5_undo 17 (.aload_n 0) 1 18 := by decide +kernel
theorem dX5_undo_18 : DD cX5_undo 18 (.getfield 26) 3 21 := by decide +kernel
theorem dX5_undo_21 : DD cX5_undo 21 (.invokevirtual 172) 3 24 := by decide +kernel
theorem dX5_undo_24 : DD cX5_undo 24 (.ireturn) 1 25 := by decide +kernel
def fX5_undo (h : AH) : Option (Int32 × AH) := (if (h 27 2) = 0 then (some ((-1000002 : Int32), h)) else (bnd (fX0_takeBack 20 h) fun v2 h1 => (some (v2, h1))))
set_option maxHeartbeats 4000000 in
set_option maxRecDepth 4000 in
theorem uX5_undo {l : Launch} {X : WX} {h h' : AH} {v : Int32} (hf : fX5_undo  h = some (v, h')) : Does l X 3 yX5_undo cX5_undo 1 (some .int) [.ref (X.1 + 0)] h (eI v) h' := by
  refine Does.of (enc := eI) (o := fX5_undo  h) (lv := [(0, .ref (X.1 + 0))]) (by decide) (Nat.le_of_ble_eq_true rfl) rfl hf (fun K hl hK => ?_)
  subst hl
  unfold fX5_undo
  refine J_aload_n hK dX5_undo_0 0 rfl ?_
  refine rF_X5_33 (q2 := 27) hK dX5_undo_1 kd_0 rfl ?_
  refine gF_X5_169 hK dX5_undo_4 kd_27 ?_
  refine J_if_ne (tgt := 13) hK dX5_undo_7 (by decide) ?_ ?_
  · refine J_ldc hK dX5_undo_10 kK_X5_127 ?_
    exact J_iret hK dX5_undo_12
  · refine J_aload_n hK dX5_undo_13 0 rfl ?_
    refine rF_X5_33 (q2 := 27) hK dX5_undo_14 kd_0 rfl ?_
    refine J_aload_n hK dX5_undo_17 0 rfl ?_
    refine rF_X5_26 (q2 := 20) hK dX5_undo_18 kd_0 rfl ?_
    refine J_callVi (q := 27) (As := [.ref (X.1 + 20)]) (st := []) hK dX5_undo_21 kB_X5_172 kV_X0_takeBack kd_27 (by decide) rfl rfl (by decide) rfl rfl (Nat.le_of_ble_eq_true rfl) (fun _ _ hf => uX0_takeBack kd_20 hf) (fun v2 h1 => ?_)
    exact J_iret hK dX5_undo_24
-- X5_drawn
theorem dX5_drawn_0 : DD cX5_drawn 0 (.aload_n 0) 1 1 := by decide +kernel
theorem dX5_drawn_1 : DD cX5_drawn 1 (.invokevirtual 124) 3 4 := by decide +kernel
theorem dX5_drawn_4 : DD cX5_drawn 4 (.ifCond .eq 6) 3 7 := by decide +kernel
theorem dX5_drawn_7 : DD cX5_drawn 7 (.ldc 127) 2 9 := by decide +kernel
theorem dX5_drawn_9 : DD cX5_drawn 9 (.ireturn) 1 10 := by decide +kernel
theorem dX5_drawn_10 : DD cX5_drawn 10 (.iload_n 1) 1 11 := by decide +kernel
theorem dX5_drawn_11 : DD cX5_drawn 11 (.ifCond .lt 27) 3 14 := by decide +kernel
theorem dX5_drawn_14 : DD cX5_drawn 14 (.iload_n 1) 1 15 := by decide +kernel
theorem dX5_drawn_15 : DD cX5_drawn 15 (.bipush 60) 2 17 := by decide +kernel
theorem dX5_drawn_17 : DD cX5_drawn 17 (.if_icmp .gt 21) 3 20 := by decide +kernel
theorem dX5_drawn_20 : DD cX5_drawn 20 (.iload_n 2) 1 21 := by decide +kernel
theorem dX5_drawn_21 : DD cX5_drawn 21 (.iconst 1) 1 22 := by decide +kernel
theorem dX5_drawn_22 : DD cX5_drawn 22 (.if_icmp .lt 16) 3 25 := by decide +kernel
theorem dX5_drawn_25 : DD cX5_drawn 25 (.iload_n 2) 1 26 := by decide +kernel
theorem dX5_drawn_26 : DD cX5_drawn 26 (.ldc 239) 2 28 := by decide +kernel
theorem dX5_drawn_28 : DD cX5_drawn 28 (.if_icmp .gt 10) 3 31 := by decide +kernel
theorem dX5_drawn_31 : DD cX5_drawn 31 (.iload_n 3) 1 32 := by decide +kernel
theorem dX5_drawn_32 : DD cX5_drawn 32 (.invokestatic 203) 3 35 := by decide +kernel
theorem dX5_drawn_35 : DD cX5_drawn 35 (.ifCond .eq 6) 3 38 := by decide +kernel
theorem dX5_drawn_38 : DD cX5_drawn 38 (.ldc 55) 2 40 := by decide +kernel
theorem dX5_drawn_40 : DD cX5_drawn 40 (.ireturn) 1 41 := by decide +kernel
theorem dX5_drawn_41 : DD cX5_drawn 41 (.aload_n 0) 1 42 := by decide +kernel
theorem dX5_drawn_42 : DD cX5_drawn 42 (.invokevirtual 185) 3 45 := by decide +kernel
theorem dX5_drawn_45 : DD cX5_drawn 45 (.astore 4) 2 47 := by decide +kernel
theorem dX5_drawn_47 : DD cX5_drawn 47 (.iload_n 2) 1 48 := by decide +kernel
theorem dX5_drawn_48 : DD cX5_drawn 48 (.i2l) 1 49 := by decide +kernel
theorem dX5_drawn_49 : DD cX5_drawn 49 (.lstore 5) 2 51 := by decide +kernel
theorem dX5_drawn_51 : DD cX5_drawn 51 (.iconst 0) 1 52 := by decide +kernel
theorem dX5_drawn_52 : DD cX5_drawn 52 (.istore 7) 2 54 := by decide +kernel
theorem dX5_drawn_54 : DD cX5_drawn 54 (.iconst 0) 1 55 := by decide +kernel
theorem dX5_drawn_55 : DD cX5_drawn 55 (.istore 8) 2 57 := by decide +kernel
theorem dX5_drawn_57 : DD cX5_drawn 57 (.iload 8) 2 59 := by decide +kernel
theorem dX5_drawn_59 : DD cX5_drawn 59 (.iload_n 1) 1 60 := by decide +kernel
theorem dX5_drawn_60 : DD cX5_drawn 60 (.if_icmp .ge 52) 3 63 := by decide +kernel
theorem dX5_drawn_63 : DD cX5_drawn 63 (.lload 5) 2 65 := by decide +kernel
theorem dX5_drawn_65 : DD cX5_drawn 65 (.ldc2_w 240) 3 68 := by decide +kernel
theorem dX5_drawn_68 : DD cX5_drawn 68 (.lmul) 1 69 := by decide +kernel
theorem dX5_drawn_69 : DD cX5_drawn 69 (.ldc2_w 242) 3 72 := by decide +kernel
theorem dX5_drawn_72 : DD cX5_drawn 72 (.lrem) 1 73 := by decide +kernel
theorem dX5_drawn_73 : DD cX5_drawn 73 (.lstore 5) 2 75 := by decide +kernel
theorem dX5_drawn_75 : DD cX5_drawn 75 (.aload 4) 2 77 := by decide +kernel
theorem dX5_drawn_77 : DD cX5_drawn 77 (.lload 5) 2 79 := by decide +kernel
theorem dX5_drawn_79 : DD cX5_drawn 79 (.invokevirtual 244) 3 82 := by decide +kernel
theorem dX5_drawn_82 : DD cX5_drawn 82 (.aload 4) 2 84 := by decide +kernel
theorem dX5_drawn_84 : DD cX5_drawn 84 (.iconst 0) 1 85 := by decide +kernel
theorem dX5_drawn_85 : DD cX5_drawn 85 (.invokevirtual 134) 3 88 := by decide +kernel
theorem dX5_drawn_88 : DD cX5_drawn 88 (.iload 7) 2 90 := by decide +kernel
theorem dX5_drawn_90 : DD cX5_drawn 90 (.aload 4) 2 92 := by decide +kernel
theorem dX5_drawn_92 : DD cX5_drawn 92 (.getfield 138) 3 95 := by decide +kernel
theorem dX5_drawn_95 : DD cX5_drawn 95 (.ifCond .ne 7) 3 98 := by decide +kernel
theorem dX5_drawn_98 : DD cX5_drawn 98 (.iconst 1) 1 99 := by decide +kernel
theorem dX5_drawn_99 : DD cX5_drawn 99 (.goto 4) 3 102 := by decide +kernel
theorem dX5_drawn_102 : DD cX5_drawn 102 (.iconst 0) 1 103 := by decide +kernel
theorem dX5_drawn_103 : DD cX5_drawn 103 (.iadd) 1 104 := by decide +kernel
theorem dX5_drawn_104 : DD cX5_drawn 104 (.istore 7) 2 106 := by decide +kernel
theorem dX5_drawn_106 : DD cX5_drawn 106 (.iinc 8 1) 3 109 := by decide +kernel
theorem dX5_drawn_109 : DD cX5_drawn 109 (.goto (-52)) 3 112 := by decide +kernel
theorem dX5_drawn_112 : DD cX5_drawn 112 (.iload_n 3) 1 113 := by decide +kernel
theorem dX5_drawn_113 : DD cX5_drawn 113 (.ifCond .ne 8) 3 116 := by decide +kernel
theorem dX5_drawn_116 : DD cX5_drawn 116 (.iload 7) 2 118 := by decide +kernel
theorem dX5_drawn_118 : DD cX5_drawn 118 (.goto 11) 3 121 := by decide +kernel
theorem dX5_drawn_121 : DD cX5_drawn 121 (.aload 4) 2 123 := by decide +kernel
theorem dX5_drawn_123 : DD cX5_drawn 123 (.getfield 154) 3 126 := by decide +kernel
theorem dX5_drawn_126 : DD cX5_drawn 126 (.invokestatic 248) 3 129 := by decide +kernel
theorem dX5_drawn_129 : DD cX5_drawn 129 (.ireturn) 1 130 := by decide +kernel
def fX5_drawn_L57 (p4 : Nat) (p1 : Int32) (p2 : Int32) (p3 : Int32) : Nat → Int32 → Int32 → Int64 → AH → (Int32 → Int32 → Int64 → AH → Option (Int32 × AH)) → Option (Int32 × AH)
  | 0, _, _, _, _, _ => none
  | n + 1, x8, x7, x5, h, k => (if x8 < p1 then (chk (¬ (2147483647 : Int64) = 0) (vl ((x5 * (16807 : Int64)) - (x5 * (16807 : Int64)) / (2147483647 : Int64) * (2147483647 : Int64)) fun z201 => (bnd (fX2_befall p4 z201 h) fun _ h202 => (bnd (fX2_passHour p4 (0 : Int32) h202) fun _ h203 => (if (h203 p4 3) = 0 then (vl (x7 + (1 : Int32)) fun z204 => (vl (x8 + (1 : Int32)) fun z205 => fX5_drawn_L57 p4 p1 p2 p3 n z205 z204 z201 h203 k)) else (vl (x7 + (0 : Int32)) fun z206 => (vl (x8 + (1 : Int32)) fun z207 => fX5_drawn_L57 p4 p1 p2 p3 n z207 z206 z201 h203 k))))))) else k x8 x7 x5 h)
def fX5_drawn (a1 : Int32) (a2 : Int32) (a3 : Int32) (h : AH) : Option (Int32 × AH) := (bnd (fX5_noEstuary  h) fun v2 h1 => (if v2 = 0 then (if a1 < 0 then (some ((-1000001 : Int32), h1)) else (if (60 : Int32) < a1 then (some ((-1000001 : Int32), h1)) else (if a2 < (1 : Int32) then (some ((-1000001 : Int32), h1)) else (if (999999 : Int32) < a2 then (some ((-1000001 : Int32), h1)) else (bnd (fX5_noHalf a3 h1) fun v4 h3 => (if v4 = 0 then (bnd (fX5_fromNow  h3) fun v6 h5 => chk (kd v6 = 2) (vl (Int32.toInt64 a2) fun z8 => (fX5_drawn_L57 v6 a1 a2 a3 FU (0 : Int32) (0 : Int32) z8 h5 fun z9 z10 z11 h12 => (if a3 = 0 then (some (z10, h12)) else (bnd (fJ6_bitCount_0f7a4 (h12 v6 5) h12) fun v14 h13 => (some (v14, h13))))))) else (some ((-1000001 : Int32), h3)))))))) else (some ((-1000002 : Int32), h1))))
set_option maxHeartbeats 4000000 in
theorem gX5_drawn_L57 {K : MC} {X : WX} {p4 : Nat} {p1 : Int32} {p2 : Int32} {p3 : Int32} (hK : Ok K X RX5 cX5_drawn 9 (some .int) 4) (hp4 : kd p4 = 2) {k : Int32 → Int32 → Int64 → AH → Option (Int32 × AH)} (hk : ∀ (x8 : Int32) (x7 : Int32) (x5 : Int64) (h : AH), J K X 9 (Zm K X) eI 112 [(8, .int x8), (7, .int x7), (5, .long x5), (4, .ref (X.1 + p4)), (0, .ref (X.1 + 0)), (1, .int p1), (2, .int p2), (3, .int p3)] [] h (k x8 x7 x5 h)) : ∀ (n : Nat) (x8 : Int32) (x7 : Int32) (x5 : Int64) (h : AH), J K X 9 (Zm K X) eI 57 [(8, .int x8), (7, .int x7), (5, .long x5), (4, .ref (X.1 + p4)), (0, .ref (X.1 + 0)), (1, .int p1), (2, .int p2), (3, .int p3)] [] h (fX5_drawn_L57 p4 p1 p2 p3 n x8 x7 x5 h k) := by
  intro n
  induction n with
  | zero => exact fun _ _ _ _ => J_none
  | succ n ih =>
    intro x8 x7 x5 h
    rw [fX5_drawn_L57]
    refine J_iload hK dX5_drawn_57 0 rfl ?_
    refine J_iload_n hK dX5_drawn_59 5 rfl ?_
    refine J_icmp_ge (tgt := 112) hK dX5_drawn_60 (by decide) ?_ ?_
    · refine J_lload hK dX5_drawn_63 2 rfl ?_
      refine J_ldc2 hK dX5_drawn_65 kK_X5_240 ?_
      refine J_lmul hK dX5_drawn_68 ?_
      refine J_ldc2 hK dX5_drawn_69 kK_X5_242 ?_
      refine J_lrem hK dX5_drawn_72 ?_
      refine J_lstoreV (lw := [(8, .int x8), (7, .int x7), (4, .ref (X.1 + p4)), (0, .ref (X.1 + 0)), (1, .int p1), (2, .int p2), (3, .int p3)]) hK dX5_drawn_73 (by decide) rfl (fun z201 => ?_)
      refine J_aload hK dX5_drawn_75 3 rfl ?_
      refine J_lload hK dX5_drawn_77 0 rfl ?_
      refine J_callVv (q := p4) (As := [.long z201]) (st := []) hK dX5_drawn_79 kB_X5_244 kV_X2_befall hp4 (by decide) rfl rfl (by decide) rfl rfl (Nat.le_of_ble_eq_true rfl) (fun _ _ hf => uX2_befall hp4 hf) (fun _ h202 => ?_)
      refine J_aload hK dX5_drawn_82 3 rfl ?_
      refine J_iconst hK dX5_drawn_84 ci_0 ?_
      refine J_callVv (q := p4) (As := [.int (0 : Int32)]) (st := []) hK dX5_drawn_85 kB_X5_134 kV_X2_passHour hp4 (by decide) rfl rfl (by decide) rfl rfl (Nat.le_of_ble_eq_true rfl) (fun _ _ hf => uX2_passHour hp4 hf) (fun _ h203 => ?_)
      refine J_iload hK dX5_drawn_88 2 rfl ?_
      refine J_aload hK dX5_drawn_90 3 rfl ?_
      refine gF_X5_138 hK dX5_drawn_92 hp4 ?_
      refine J_if_ne (tgt := 102) hK dX5_drawn_95 (by decide) ?_ ?_
      · refine J_iconst hK dX5_drawn_98 ci_1 ?_
        refine J_goto (len := 0) (tgt := 103) hK dX5_drawn_99 (by decide) ?_
        refine J_iadd hK dX5_drawn_103 ?_
        refine J_istoreV (lw := [(5, .long z201), (8, .int x8), (4, .ref (X.1 + p4)), (0, .ref (X.1 + 0)), (1, .int p1), (2, .int p2), (3, .int p3)]) hK dX5_drawn_104 (by decide) rfl (fun z204 => ?_)
        refine J_iinc (lw := [(7, .int z204), (5, .long z201), (4, .ref (X.1 + p4)), (0, .ref (X.1 + 0)), (1, .int p1), (2, .int p2), (3, .int p3)]) hK dX5_drawn_106 2 rfl (by decide) ci_1 rfl (fun z205 => ?_)
        refine J_goto (len := 0) (tgt := 57) hK dX5_drawn_109 (by decide) ?_
        exact J_sub [0, 1, 2, 3, 4, 5, 6, 7] rfl (ih _ _ _ _)
      · refine J_iconst hK dX5_drawn_102 ci_0 ?_
        refine J_iadd hK dX5_drawn_103 ?_
        refine J_istoreV (lw := [(5, .long z201), (8, .int x8), (4, .ref (X.1 + p4)), (0, .ref (X.1 + 0)), (1, .int p1), (2, .int p2), (3, .int p3)]) hK dX5_drawn_104 (by decide) rfl (fun z206 => ?_)
        refine J_iinc (lw := [(7, .int z206), (5, .long z201), (4, .ref (X.1 + p4)), (0, .ref (X.1 + 0)), (1, .int p1), (2, .int p2), (3, .int p3)]) hK dX5_drawn_106 2 rfl (by decide) ci_1 rfl (fun z207 => ?_)
        refine J_goto (len := 0) (tgt := 57) hK dX5_drawn_109 (by decide) ?_
        exact J_sub [0, 1, 2, 3, 4, 5, 6, 7] rfl (ih _ _ _ _)
    · exact J_sub [0, 1, 2, 3, 4, 5, 6, 7] rfl (hk _ _ _ _)
set_option maxHeartbeats 4000000 in
set_option maxRecDepth 4000 in
theorem uX5_drawn {l : Launch} {X : WX} {a1 : Int32} {a2 : Int32} {a3 : Int32} {h h' : AH} {v : Int32} (hf : fX5_drawn a1 a2 a3 h = some (v, h')) : Does l X 4 yX5_drawn cX5_drawn 9 (some .int) [.ref (X.1 + 0), .int a1, .int a2, .int a3] h (eI v) h' := by
  refine Does.of (enc := eI) (o := fX5_drawn a1 a2 a3 h) (lv := [(0, .ref (X.1 + 0)), (1, .int a1), (2, .int a2), (3, .int a3)]) (by decide) (Nat.le_of_ble_eq_true rfl) rfl hf (fun K hl hK => ?_)
  subst hl
  unfold fX5_drawn
  refine J_aload_n hK dX5_drawn_0 0 rfl ?_
  refine J_callVi (q := 0) (As := []) (st := []) hK dX5_drawn_1 kB_X5_124 kV_X5_noEstuary kd_0 (by decide) rfl rfl (by decide) rfl rfl (Nat.le_of_ble_eq_true rfl) (fun _ _ hf => uX5_noEstuary  hf) (fun v2 h1 => ?_)
  refine J_if_eq (tgt := 10) hK dX5_drawn_4 (by decide) ?_ ?_
  · refine J_iload_n hK dX5_drawn_10 1 rfl ?_
    refine J_if_lt (tgt := 38) hK dX5_drawn_11 (by decide) ?_ ?_
    · refine J_ldc hK dX5_drawn_38 kK_X5_55 ?_
      exact J_iret hK dX5_drawn_40
    · refine J_iload_n hK dX5_drawn_14 1 rfl ?_
      refine J_bipush hK dX5_drawn_15 cb_60 ?_
      refine J_icmp_gt (tgt := 38) hK dX5_drawn_17 (by decide) ?_ ?_
      · refine J_ldc hK dX5_drawn_38 kK_X5_55 ?_
        exact J_iret hK dX5_drawn_40
      · refine J_iload_n hK dX5_drawn_20 2 rfl ?_
        refine J_iconst hK dX5_drawn_21 ci_1 ?_
        refine J_icmp_lt (tgt := 38) hK dX5_drawn_22 (by decide) ?_ ?_
        · refine J_ldc hK dX5_drawn_38 kK_X5_55 ?_
          exact J_iret hK dX5_drawn_40
        · refine J_iload_n hK dX5_drawn_25 2 rfl ?_
          refine J_ldc hK dX5_drawn_26 kK_X5_239 ?_
          refine J_icmp_gt (tgt := 38) hK dX5_drawn_28 (by decide) ?_ ?_
          · refine J_ldc hK dX5_drawn_38 kK_X5_55 ?_
            exact J_iret hK dX5_drawn_40
          · refine J_iload_n hK dX5_drawn_31 3 rfl ?_
            refine J_callSi (As := [.int a3]) (st := []) hK dX5_drawn_32 kB_X5_203 kS_X5_noHalf (by decide) rfl rfl (Nat.le_of_ble_eq_true rfl) (fun _ _ hf => uX5_noHalf  hf) (fun v4 h3 => ?_)
            refine J_if_eq (tgt := 41) hK dX5_drawn_35 (by decide) ?_ ?_
            · refine J_aload_n hK dX5_drawn_41 0 rfl ?_
              refine J_callVr (q := 0) (As := []) (st := []) hK dX5_drawn_42 kB_X5_185 kV_X5_fromNow kd_0 (by decide) rfl rfl (by decide) rfl rfl (Nat.le_of_ble_eq_true rfl) (fun _ _ hf => uX5_fromNow  hf) (fun v6 h5 => ?_)
              refine J_chk (fun q7 => ?_)
              refine J_astore (lw := [(0, .ref (X.1 + 0)), (1, .int a1), (2, .int a2), (3, .int a3)]) hK dX5_drawn_45 (by decide) rfl ?_
              refine J_iload_n hK dX5_drawn_47 3 rfl ?_
              refine J_i2l hK dX5_drawn_48 ?_
              refine J_lstoreV (lw := [(4, .ref (X.1 + v6)), (0, .ref (X.1 + 0)), (1, .int a1), (2, .int a2), (3, .int a3)]) hK dX5_drawn_49 (by decide) rfl (fun z8 => ?_)
              refine J_iconst hK dX5_drawn_51 ci_0 ?_
              refine J_istore (lw := [(5, .long z8), (4, .ref (X.1 + v6)), (0, .ref (X.1 + 0)), (1, .int a1), (2, .int a2), (3, .int a3)]) hK dX5_drawn_52 (by decide) rfl ?_
              refine J_iconst hK dX5_drawn_54 ci_0 ?_
              refine J_istore (lw := [(7, .int (0 : Int32)), (5, .long z8), (4, .ref (X.1 + v6)), (0, .ref (X.1 + 0)), (1, .int a1), (2, .int a2), (3, .int a3)]) hK dX5_drawn_55 (by decide) rfl ?_
              refine J_sub [0, 1, 2, 3, 4, 5, 6, 7] rfl (gX5_drawn_L57 hK q7 (fun z9 z10 z11 h12 => ?_) FU _ _ _ _)
              refine J_iload_n hK dX5_drawn_112 7 rfl ?_
              refine J_if_ne (tgt := 121) hK dX5_drawn_113 (by decide) ?_ ?_
              · refine J_iload hK dX5_drawn_116 1 rfl ?_
                refine J_goto (len := 0) (tgt := 129) hK dX5_drawn_118 (by decide) ?_
                exact J_iret hK dX5_drawn_129
              · refine J_aload hK dX5_drawn_121 3 rfl ?_
                refine gF_X5_154 hK dX5_drawn_123 q7 ?_
                refine J_callSi (As := [.int (h12 v6 5)]) (st := []) hK dX5_drawn_126 kB_X5_248 kS_J6_bitCount_0f7a4 (by decide) rfl rfl (Nat.le_of_ble_eq_true rfl) (fun _ _ hf => uJ6_bitCount_0f7a4  hf) (fun v14 h13 => ?_)
                exact J_iret hK dX5_drawn_129
            · refine J_ldc hK dX5_drawn_38 kK_X5_55 ?_
              exact J_iret hK dX5_drawn_40
  · refine J_ldc hK dX5_drawn_7 kK_X5_127 ?_
    exact J_iret hK dX5_drawn_9
-- X5_hours
theorem dX5_hours_0 : DD cX5_hours 0 (.aload_n 0) 1 1 := by decide +kernel
theorem dX5_hours_1 : DD cX5_hours 1 (.invokevirtual 124) 3 4 := by decide +kernel
theorem dX5_hours_4 : DD cX5_hours 4 (.ifCond .eq 6) 3 7 := by decide +kernel
theorem dX5_hours_7 : DD cX5_hours 7 (.ldc 127) 2 9 := by decide +kernel
theorem dX5_hours_9 : DD cX5_hours 9 (.ireturn) 1 10 := by decide +kernel
theorem dX5_hours_10 : DD cX5_hours 10 (.iload_n 1) 1 11 := by decide +kernel
theorem dX5_hours_11 : DD cX5_hours 11 (.iconst 1) 1 12 := by decide +kernel
theorem dX5_hours_12 : DD cX5_hours 12 (.if_icmp .lt 9) 3 15 := by decide +kernel
theorem dX5_hours_15 : DD cX5_hours 15 (.iload_n 1) 1 16 := by decide +kernel
theorem dX5_hours_16 : DD cX5_hours 16 (.bipush 24) 2 18 := by decide +kernel
theorem dX5_hours_18 : DD cX5_hours 18 (.if_icmp .le 6) 3 21 := by decide +kernel
theorem dX5_hours_21 : DD cX5_hours 21 (.ldc 55) 2 23 := by decide +kernel
theorem dX5_hours_23 : DD cX5_hours 23 (.ireturn) 1 24 := by decide +kernel
theorem dX5_hours_24 : DD cX5_hours 24 (.aload_n 0) 1 25 := by decide +kernel
theorem dX5_hours_25 : DD cX5_hours 25 (.getfield 26) 3 28 := by decide +kernel
theorem dX5_hours_28 : DD cX5_hours 28 (.getfield 128) 3 31 := by decide +kernel
theorem dX5_hours_31 : DD cX5_hours 31 (.iload_n 1) 1 32 := by decide +kernel
theorem dX5_hours_32 : DD cX5_hours 32 (.iadd) 1 33 := by decide +kernel
theorem dX5_hours_33 : DD cX5_hours 33 (.sipush 9999) 3 36 := by decide +kernel
theorem dX5_hours_36 : DD cX5_hours 36 (.if_icmp .le 6) 3 39 := by decide +kernel
theorem dX5_hours_39 : DD cX5_hours 39 (.ldc 99) 2 41 := by decide +kernel
theorem dX5_hours_41 : DD cX5_hours 41 (.ireturn) 1 42 := by decide +kernel
theorem dX5_hours_42 : DD cX5_hours 42 (.iconst 0) 1 43 := by decide +kernel
theorem dX5_hours_43 : DD cX5_hours 43 (.istore_n 2) 1 44 := by decide +kernel
theorem dX5_hours_44 : DD cX5_hours 44 (.iload_n 2) 1 45 := by decide +kernel
theorem dX5_hours_45 : DD cX5_hours 45 (.iload_n 1) 1 46 := by decide +kernel
theorem dX5_hours_46 : DD cX5_hours 46 (.if_icmp .ge 28) 3 49 := by decide +kernel
theorem dX5_hours_49 : DD cX5_hours 49 (.aload_n 0) 1 50 := by decide +kernel
theorem dX5_hours_50 : DD cX5_hours 50 (.getfield 33) 3 53 := by decide +kernel
theorem dX5_hours_53 : DD cX5_hours 53 (.aload_n 0) 1 54 := by decide +kernel
theorem dX5_hours_54 : DD cX5_hours 54 (.getfield 26) 3 57 := by decide +kernel
theorem dX5_hours_57 : DD cX5_hours 57 (.invokevirtual 131) 3 60 := by decide +kernel
theorem dX5_hours_60 : DD cX5_hours 60 (.aload_n 0) 1 61 := by decide +kernel
theorem dX5_hours_61 : DD cX5_hours 61 (.getfield 26) 3 64 := by decide +kernel
theorem dX5_hours_64 : DD cX5_hours 64 (.iconst 0) 1 65 := by decide +kernel
theorem dX5_hours_65 : DD cX5_hours 65 (.invokevirtual 134) 3 68 := by decide +kernel
theorem dX5_hours_68 : DD cX5_hours 68 (.iinc 2 1) 3 71 := by decide +kernel
theorem dX5_hours_71 : DD cX5_hours 71 (.goto (-27)) 3 74 := by decide +kernel
theorem dX5_hours_74 : DD cX5_hours 74 (.aload_n 0) 1 75 := by decide +kernel
theorem dX5_hours_75 : DD cX5_hours 75 (.getfield 26) 3 78 := by decide +kernel
theorem dX5_hours_78 : DD cX5_hours 78 (.getfield 138) 3 81 := by decide +kernel
theorem dX5_hours_81 : DD cX5_hours 81 (.ireturn) 1 82 := by decide +kernel
def fX5_hours_L44 (p1 : Int32) : Nat → Int32 → AH → (Int32 → AH → Option (Int32 × AH)) → Option (Int32 × AH)
  | 0, _, _, _ => none
  | n + 1, x2, h, k => (if x2 < p1 then (bnd (fX0_keep 20 h) fun _ h201 => (bnd (fX2_passHour 20 (0 : Int32) h201) fun _ h202 => (vl (x2 + (1 : Int32)) fun z203 => fX5_hours_L44 p1 n z203 h202 k))) else k x2 h)
def fX5_hours (a1 : Int32) (h : AH) : Option (Int32 × AH) := (bnd (fX5_noEstuary  h) fun v2 h1 => (if v2 = 0 then (if a1 < (1 : Int32) then (some ((-1000001 : Int32), h1)) else (if (24 : Int32) < a1 then (some ((-1000001 : Int32), h1)) else (if (9999 : Int32) < ((h1 20 4) + a1) then (some ((-1000003 : Int32), h1)) else (fX5_hours_L44 a1 FU (0 : Int32) h1 fun z3 h4 => (some ((h4 20 3), h4)))))) else (some ((-1000002 : Int32), h1))))
set_option maxHeartbeats 4000000 in
theorem gX5_hours_L44 {K : MC} {X : WX} {p1 : Int32} (hK : Ok K X RX5 cX5_hours 3 (some .int) 4) {k : Int32 → AH → Option (Int32 × AH)} (hk : ∀ (x2 : Int32) (h : AH), J K X 3 (Zm K X) eI 74 [(2, .int x2), (0, .ref (X.1 + 0)), (1, .int p1)] [] h (k x2 h)) : ∀ (n : Nat) (x2 : Int32) (h : AH), J K X 3 (Zm K X) eI 44 [(2, .int x2), (0, .ref (X.1 + 0)), (1, .int p1)] [] h (fX5_hours_L44 p1 n x2 h k) := by
  intro n
  induction n with
  | zero => exact fun _ _ => J_none
  | succ n ih =>
    intro x2 h
    rw [fX5_hours_L44]
    refine J_iload_n hK dX5_hours_44 0 rfl ?_
    refine J_iload_n hK dX5_hours_45 2 rfl ?_
    refine J_icmp_ge (tgt := 74) hK dX5_hours_46 (by decide) ?_ ?_
    · refine J_aload_n hK dX5_hours_49 1 rfl ?_
      refine rF_X5_33 (q2 := 27) hK dX5_hours_50 kd_0 rfl ?_
      refine J_aload_n hK dX5_hours_53 1 rfl ?_
      refine rF_X5_26 (q2 := 20) hK dX5_hours_54 kd_0 rfl ?_
      refine J_callVv (q := 27) (As := [.ref (X.1 + 20)]) (st := []) hK dX5_hours_57 kB_X5_131 kV_X0_keep kd_27 (by decide) rfl rfl (by decide) rfl rfl (Nat.le_of_ble_eq_true rfl) (fun _ _ hf => uX0_keep kd_20 hf) (fun _ h201 => ?_)
      refine J_aload_n hK dX5_hours_60 1 rfl ?_
      refine rF_X5_26 (q2 := 20) hK dX5_hours_61 kd_0 rfl ?_
      refine J_iconst hK dX5_hours_64 ci_0 ?_
      refine J_callVv (q := 20) (As := [.int (0 : Int32)]) (st := []) hK dX5_hours_65 kB_X5_134 kV_X2_passHour kd_20 (by decide) rfl rfl (by decide) rfl rfl (Nat.le_of_ble_eq_true rfl) (fun _ _ hf => uX2_passHour kd_20 hf) (fun _ h202 => ?_)
      refine J_iinc (lw := [(0, .ref (X.1 + 0)), (1, .int p1)]) hK dX5_hours_68 0 rfl (by decide) ci_1 rfl (fun z203 => ?_)
      refine J_goto (len := 0) (tgt := 44) hK dX5_hours_71 (by decide) ?_
      exact J_sub [0, 1, 2] rfl (ih _ _)
    · exact J_sub [0, 1, 2] rfl (hk _ _)
set_option maxHeartbeats 4000000 in
set_option maxRecDepth 4000 in
theorem uX5_hours {l : Launch} {X : WX} {a1 : Int32} {h h' : AH} {v : Int32} (hf : fX5_hours a1 h = some (v, h')) : Does l X 4 yX5_hours cX5_hours 3 (some .int) [.ref (X.1 + 0), .int a1] h (eI v) h' := by
  refine Does.of (enc := eI) (o := fX5_hours a1 h) (lv := [(0, .ref (X.1 + 0)), (1, .int a1)]) (by decide) (Nat.le_of_ble_eq_true rfl) rfl hf (fun K hl hK => ?_)
  subst hl
  unfold fX5_hours
  refine J_aload_n hK dX5_hours_0 0 rfl ?_
  refine J_callVi (q := 0) (As := []) (st := []) hK dX5_hours_1 kB_X5_124 kV_X5_noEstuary kd_0 (by decide) rfl rfl (by decide) rfl rfl (Nat.le_of_ble_eq_true rfl) (fun _ _ hf => uX5_noEstuary  hf) (fun v2 h1 => ?_)
  refine J_if_eq (tgt := 10) hK dX5_hours_4 (by decide) ?_ ?_
  · refine J_iload_n hK dX5_hours_10 1 rfl ?_
    refine J_iconst hK dX5_hours_11 ci_1 ?_
    refine J_icmp_lt (tgt := 21) hK dX5_hours_12 (by decide) ?_ ?_
    · refine J_ldc hK dX5_hours_21 kK_X5_55 ?_
      exact J_iret hK dX5_hours_23
    · refine J_iload_n hK dX5_hours_15 1 rfl ?_
      refine J_bipush hK dX5_hours_16 cb_24 ?_
      refine J_icmp_le (tgt := 24) hK dX5_hours_18 (by decide) ?_ ?_
      · refine J_ldc hK dX5_hours_21 kK_X5_55 ?_
        exact J_iret hK dX5_hours_23
      · refine J_aload_n hK dX5_hours_24 0 rfl ?_
        refine rF_X5_26 (q2 := 20) hK dX5_hours_25 kd_0 rfl ?_
        refine gF_X5_128 hK dX5_hours_28 kd_20 ?_
        refine J_iload_n hK dX5_hours_31 1 rfl ?_
        refine J_iadd hK dX5_hours_32 ?_
        refine J_sipush hK dX5_hours_33 cs_9999 ?_
        refine J_icmp_le (tgt := 42) hK dX5_hours_36 (by decide) ?_ ?_
        · refine J_ldc hK dX5_hours_39 kK_X5_99 ?_
          exact J_iret hK dX5_hours_41
        · refine J_iconst hK dX5_hours_42 ci_0 ?_
          refine J_istore_n (n := 2) (lw := [(0, .ref (X.1 + 0)), (1, .int a1)]) hK dX5_hours_43 rfl (by decide) rfl ?_
          refine J_sub [0, 1, 2] rfl (gX5_hours_L44 hK  (fun z3 h4 => ?_) FU _ _)
          refine J_aload_n hK dX5_hours_74 1 rfl ?_
          refine rF_X5_26 (q2 := 20) hK dX5_hours_75 kd_0 rfl ?_
          refine gF_X5_138 hK dX5_hours_78 kd_20 ?_
          exact J_iret hK dX5_hours_81
  · refine J_ldc hK dX5_hours_7 kK_X5_127 ?_
    exact J_iret hK dX5_hours_9
-- X5_hoursUntilIn
theorem dX5_hoursUntilIn_0 : DD cX5_hoursUntilIn 0 (.iconst 0) 1 1 := by decide +kernel
theorem dX5_hoursUntilIn_1 : DD cX5_hoursUntilIn 1 (.istore_n 2) 1 2 := by decide +kernel
theorem dX5_hoursUntilIn_2 : DD cX5_hoursUntilIn 2 (.iload_n 2) 1 3 := by decide +kernel
theorem dX5_hoursUntilIn_3 : DD cX5_hoursUntilIn 3 (.iload_n 1) 1 4 := by decide +kernel
theorem dX5_hoursUntilIn_4 : DD cX5_hoursUntilIn 4 (.if_icmp .ge 23) 3 7 := by decide +kernel
theorem dX5_hoursUntilIn_7 : DD cX5_hoursUntilIn 7 (.aload_n 0) 1 8 := by decide +kernel
theorem dX5_hoursUntilIn_8 : DD cX5_hoursUntilIn 8 (.getfield 138) 3 11 := by decide +kernel
theorem dX5_hoursUntilIn_11 : DD cX5_hoursUntilIn 11 (.ifCond .ne 5) 3 14 := by decide +kernel
theorem dX5_hoursUntilIn_14 : DD cX5_hoursUntilIn 14 (.iload_n 2) 1 15 := by decide +kernel
theorem dX5_hoursUntilIn_15 : DD cX5_hoursUntilIn 15 (.ireturn) 1 16 := by decide +kernel
theorem dX5_hoursUntilIn_16 : DD cX5_hoursUntilIn 16 (.aload_n 0) 1 17 := by decide +kernel
theorem dX5_hoursUntilIn_17 : DD cX5_hoursUntilIn 17 (.iconst 0) 1 18 := by decide +kernel
theorem dX5_hoursUntilIn_18 : DD cX5_hoursUntilIn 18 (.invokevirtual 134) 3 21 := by decide +kernel
theorem dX5_hoursUntilIn_21 : DD cX5_hoursUntilIn 21 (.iinc 2 1) 3 24 := by decide +kernel
theorem dX5_hoursUntilIn_24 : DD cX5_hoursUntilIn 24 (.goto (-22)) 3 27 := by decide +kernel
theorem dX5_hoursUntilIn_27 : DD cX5_hoursUntilIn 27 (.aload_n 0) 1 28 := by decide +kernel
theorem dX5_hoursUntilIn_28 : DD cX5_hoursUntilIn 28 (.getfield 138) 3 31 := by decide +kernel
theorem dX5_hoursUntilIn_31 : DD cX5_hoursUntilIn 31 (.ifCond .ne 7) 3 34 := by decide +kernel
theorem dX5_hoursUntilIn_34 : DD cX5_hoursUntilIn 34 (.iload_n 1) 1 35 := by decide +kernel
theorem dX5_hoursUntilIn_35 : DD cX5_hoursUntilIn 35 (.goto 5) 3 38 := by decide +kernel
theorem dX5_hoursUntilIn_38 : DD cX5_hoursUntilIn 38 (.ldc 202) 2 40 := by decide +kernel
theorem dX5_hoursUntilIn_40 : DD cX5_hoursUntilIn 40 (.ireturn) 1 41 := by decide +kernel
def fX5_hoursUntilIn_L2 (p0 : Nat) (p1 : Int32) : Nat → Int32 → AH → (Int32 → AH → Option (Int32 × AH)) → Option (Int32 × AH)
  | 0, _, _, _ => none
  | n + 1, x2, h, k => (if x2 < p1 then (if (h p0 3) = 0 then (some (x2, h)) else (bnd (fX2_passHour p0 (0 : Int32) h) fun _ h201 => (vl (x2 + (1 : Int32)) fun z202 => fX5_hoursUntilIn_L2 p0 p1 n z202 h201 k))) else k x2 h)
def fX5_hoursUntilIn (a0 : Nat) (a1 : Int32) (h : AH) : Option (Int32 × AH) := (fX5_hoursUntilIn_L2 a0 a1 FU (0 : Int32) h fun z1 h2 => (if (h2 a0 3) = 0 then (some (a1, h2)) else (some ((-1000000 : Int32), h2))))
set_option maxHeartbeats 4000000 in
theorem gX5_hoursUntilIn_L2 {K : MC} {X : WX} {p0 : Nat} {p1 : Int32} (hK : Ok K X RX5 cX5_hoursUntilIn 3 (some .int) 4) (hp0 : kd p0 = 2) {k : Int32 → AH → Option (Int32 × AH)} (hk : ∀ (x2 : Int32) (h : AH), J K X 3 (Zm K X) eI 27 [(2, .int x2), (0, .ref (X.1 + p0)), (1, .int p1)] [] h (k x2 h)) : ∀ (n : Nat) (x2 : Int32) (h : AH), J K X 3 (Zm K X) eI 2 [(2, .int x2), (0, .ref (X.1 + p0)), (1, .int p1)] [] h (fX5_hoursUntilIn_L2 p0 p1 n x2 h k) := by
  intro n
  induction n with
  | zero => exact fun _ _ => J_none
  | succ n ih =>
    intro x2 h
    rw [fX5_hoursUntilIn_L2]
    refine J_iload_n hK dX5_hoursUntilIn_2 0 rfl ?_
    refine J_iload_n hK dX5_hoursUntilIn_3 2 rfl ?_
    refine J_icmp_ge (tgt := 27) hK dX5_hoursUntilIn_4 (by decide) ?_ ?_
    · refine J_aload_n hK dX5_hoursUntilIn_7 1 rfl ?_
      refine gF_X5_138 hK dX5_hoursUntilIn_8 hp0 ?_
      refine J_if_ne (tgt := 16) hK dX5_hoursUntilIn_11 (by decide) ?_ ?_
      · refine J_iload_n hK dX5_hoursUntilIn_14 0 rfl ?_
        exact J_iret hK dX5_hoursUntilIn_15
      · refine J_aload_n hK dX5_hoursUntilIn_16 1 rfl ?_
        refine J_iconst hK dX5_hoursUntilIn_17 ci_0 ?_
        refine J_callVv (q := p0) (As := [.int (0 : Int32)]) (st := []) hK dX5_hoursUntilIn_18 kB_X5_134 kV_X2_passHour hp0 (by decide) rfl rfl (by decide) rfl rfl (Nat.le_of_ble_eq_true rfl) (fun _ _ hf => uX2_passHour hp0 hf) (fun _ h201 => ?_)
        refine J_iinc (lw := [(0, .ref (X.1 + p0)), (1, .int p1)]) hK dX5_hoursUntilIn_21 0 rfl (by decide) ci_1 rfl (fun z202 => ?_)
        refine J_goto (len := 0) (tgt := 2) hK dX5_hoursUntilIn_24 (by decide) ?_
        exact J_sub [0, 1, 2] rfl (ih _ _)
    · exact J_sub [0, 1, 2] rfl (hk _ _)
set_option maxHeartbeats 4000000 in
set_option maxRecDepth 4000 in
theorem uX5_hoursUntilIn {l : Launch} {X : WX} {a0 : Nat} {a1 : Int32} {h h' : AH} {v : Int32} (ka0 : kd a0 = 2) (hf : fX5_hoursUntilIn a0 a1 h = some (v, h')) : Does l X 4 yX5_hoursUntilIn cX5_hoursUntilIn 3 (some .int) [.ref (X.1 + a0), .int a1] h (eI v) h' := by
  refine Does.of (enc := eI) (o := fX5_hoursUntilIn a0 a1 h) (lv := [(0, .ref (X.1 + a0)), (1, .int a1)]) (by decide) (Nat.le_of_ble_eq_true rfl) rfl hf (fun K hl hK => ?_)
  subst hl
  unfold fX5_hoursUntilIn
  refine J_iconst hK dX5_hoursUntilIn_0 ci_0 ?_
  refine J_istore_n (n := 2) (lw := [(0, .ref (X.1 + a0)), (1, .int a1)]) hK dX5_hoursUntilIn_1 rfl (by decide) rfl ?_
  refine J_sub [0, 1, 2] rfl (gX5_hoursUntilIn_L2 hK ka0 (fun z1 h2 => ?_) FU _ _)
  refine J_aload_n hK dX5_hoursUntilIn_27 1 rfl ?_
  refine gF_X5_138 hK dX5_hoursUntilIn_28 ka0 ?_
  refine J_if_ne (tgt := 38) hK dX5_hoursUntilIn_31 (by decide) ?_ ?_
  · refine J_iload_n hK dX5_hoursUntilIn_34 2 rfl ?_
    refine J_goto (len := 0) (tgt := 40) hK dX5_hoursUntilIn_35 (by decide) ?_
    exact J_iret hK dX5_hoursUntilIn_40
  · refine J_ldc hK dX5_hoursUntilIn_38 kK_X5_202 ?_
    exact J_iret hK dX5_hoursUntilIn_40
-- X5_isSoWith
theorem dX5_isSoWith_0 : DD cX5_isSoWith 0 (.aload_n 0) 1 1 := by decide +kernel
theorem dX5_isSoWith_1 : DD cX5_isSoWith 1 (.invokevirtual 185) 3 4 := by decide +kernel
theorem dX5_isSoWith_4 : DD cX5_isSoWith 4 (.astore 7) 2 6 := by decide +kernel
theorem dX5_isSoWith_6 : DD cX5_isSoWith 6 (.aload 7) 2 8 := by decide +kernel
theorem dX5_isSoWith_8 : DD cX5_isSoWith 8 (.iload_n 1) 1 9 := by decide +kernel
theorem dX5_isSoWith_9 : DD cX5_isSoWith 9 (.iload_n 2) 1 10 := by decide +kernel
theorem dX5_isSoWith_10 : DD cX5_isSoWith 10 (.iload_n 3) 1 11 := by decide +kernel
theorem dX5_isSoWith_11 : DD cX5_isSoWith 11 (.invokevirtual 283) 3 14 := by decide +kernel
theorem dX5_isSoWith_14 : DD cX5_isSoWith 14 (.iconst 0) 1 15 := by decide +kernel
theorem dX5_isSoWith_15 : DD cX5_isSoWith 15 (.istore 8) 2 17 := by decide +kernel
theorem dX5_isSoWith_17 : DD cX5_isSoWith 17 (.iload 8) 2 19 := by decide +kernel
theorem dX5_isSoWith_19 : DD cX5_isSoWith 19 (.iload 6) 2 21 := by decide +kernel
theorem dX5_isSoWith_21 : DD cX5_isSoWith 21 (.if_icmp .ge 36) 3 24 := by decide +kernel
theorem dX5_isSoWith_24 : DD cX5_isSoWith 24 (.aload 7) 2 26 := by decide +kernel
theorem dX5_isSoWith_26 : DD cX5_isSoWith 26 (.iconst 0) 1 27 := by decide +kernel
theorem dX5_isSoWith_27 : DD cX5_isSoWith 27 (.invokevirtual 134) 3 30 := by decide +kernel
theorem dX5_isSoWith_30 : DD cX5_isSoWith 30 (.aload 7) 2 32 := by decide +kernel
theorem dX5_isSoWith_32 : DD cX5_isSoWith 32 (.getfield 138) 3 35 := by decide +kernel
theorem dX5_isSoWith_35 : DD cX5_isSoWith 35 (.aload 4) 2 37 := by decide +kernel
theorem dX5_isSoWith_37 : DD cX5_isSoWith 37 (.getfield 75) 3 40 := by decide +kernel
theorem dX5_isSoWith_40 : DD cX5_isSoWith 40 (.iload 5) 2 42 := by decide +kernel
theorem dX5_isSoWith_42 : DD cX5_isSoWith 42 (.iload 8) 2 44 := by decide +kernel
theorem dX5_isSoWith_44 : DD cX5_isSoWith 44 (.iadd) 1 45 := by decide +kernel
theorem dX5_isSoWith_45 : DD cX5_isSoWith 45 (.iaload) 1 46 := by decide +kernel
theorem dX5_isSoWith_46 : DD cX5_isSoWith 46 (.if_icmp .eq 5) 3 49 := by decide +kernel
theorem dX5_isSoWith_49 : DD cX5_isSoWith 49 (.iconst 0) 1 50 := by decide +kernel
theorem dX5_isSoWith_50 : DD cX5_isSoWith 50 (.ireturn) 1 51 := by decide +kernel
theorem dX5_isSoWith_51 : DD cX5_isSoWith 51 (.iinc 8 1) 3 54 := by decide +kernel
theorem dX5_isSoWith_54 : DD cX5_isSoWith 54 (.goto (-37)) 3 57 := by decide +kernel
theorem dX5_isSoWith_57 : DD cX5_isSoWith 57 (.iconst 1) 1 58 := by decide +kernel
theorem dX5_isSoWith_58 : DD cX5_isSoWith 58 (.ireturn) 1 59 := by decide +kernel
def fX5_isSoWith_L17 (p7 : Nat) (p1 : Int32) (p2 : Int32) (p3 : Int32) (p4 : Nat) (p5 : Int32) (p6 : Int32) : Nat → Int32 → AH → (Int32 → AH → Option (Int32 × AH)) → Option (Int32 × AH)
  | 0, _, _, _ => none
  | n + 1, x8, h, k => (if x8 < p6 then (bnd (fX2_passHour p7 (0 : Int32) h) fun _ h201 => (chk (inb (p5 + x8) (ln (p4 + 1))) (if (h201 p7 3) = (h201 (p4 + 1) (Int32.toNatClampNeg (p5 + x8))) then (vl (x8 + (1 : Int32)) fun z202 => fX5_isSoWith_L17 p7 p1 p2 p3 p4 p5 p6 n z202 h201 k) else (some ((0 : Int32), h201))))) else k x8 h)
def fX5_isSoWith (a1 : Int32) (a2 : Int32) (a3 : Int32) (a4 : Nat) (a5 : Int32) (a6 : Int32) (h : AH) : Option (Int32 × AH) := (bnd (fX5_fromNow  h) fun v2 h1 => chk (kd v2 = 2) (bnd (fX2_suppose v2 a1 a2 a3 h1) fun _ h4 => (fX5_isSoWith_L17 v2 a1 a2 a3 a4 a5 a6 FU (0 : Int32) h4 fun z5 h6 => (some ((1 : Int32), h6)))))
set_option maxHeartbeats 4000000 in
theorem gX5_isSoWith_L17 {K : MC} {X : WX} {p7 : Nat} {p1 : Int32} {p2 : Int32} {p3 : Int32} {p4 : Nat} {p5 : Int32} {p6 : Int32} (hK : Ok K X RX5 cX5_isSoWith 9 (some .boolean) 4) (hp7 : kd p7 = 2) (hp4 : kd p4 = 3) {k : Int32 → AH → Option (Int32 × AH)} (hk : ∀ (x8 : Int32) (h : AH), J K X 9 (Zm K X) eI 57 [(8, .int x8), (7, .ref (X.1 + p7)), (0, .ref (X.1 + 0)), (1, .int p1), (2, .int p2), (3, .int p3), (4, .ref (X.1 + p4)), (5, .int p5), (6, .int p6)] [] h (k x8 h)) : ∀ (n : Nat) (x8 : Int32) (h : AH), J K X 9 (Zm K X) eI 17 [(8, .int x8), (7, .ref (X.1 + p7)), (0, .ref (X.1 + 0)), (1, .int p1), (2, .int p2), (3, .int p3), (4, .ref (X.1 + p4)), (5, .int p5), (6, .int p6)] [] h (fX5_isSoWith_L17 p7 p1 p2 p3 p4 p5 p6 n x8 h k) := by
  intro n
  induction n with
  | zero => exact fun _ _ => J_none
  | succ n ih =>
    intro x8 h
    rw [fX5_isSoWith_L17]
    refine J_iload hK dX5_isSoWith_17 0 rfl ?_
    refine J_iload hK dX5_isSoWith_19 8 rfl ?_
    refine J_icmp_ge (tgt := 57) hK dX5_isSoWith_21 (by decide) ?_ ?_
    · refine J_aload hK dX5_isSoWith_24 1 rfl ?_
      refine J_iconst hK dX5_isSoWith_26 ci_0 ?_
      refine J_callVv (q := p7) (As := [.int (0 : Int32)]) (st := []) hK dX5_isSoWith_27 kB_X5_134 kV_X2_passHour hp7 (by decide) rfl rfl (by decide) rfl rfl (Nat.le_of_ble_eq_true rfl) (fun _ _ hf => uX2_passHour hp7 hf) (fun _ h201 => ?_)
      refine J_aload hK dX5_isSoWith_30 1 rfl ?_
      refine gF_X5_138 hK dX5_isSoWith_32 hp7 ?_
      refine J_aload hK dX5_isSoWith_35 6 rfl ?_
      refine rF_X5_75 (q2 := (p4 + 1)) hK dX5_isSoWith_37 hp4 rfl ?_
      refine J_iload hK dX5_isSoWith_40 7 rfl ?_
      refine J_iload hK dX5_isSoWith_42 0 rfl ?_
      refine J_iadd hK dX5_isSoWith_44 ?_
      refine J_iald hK dX5_isSoWith_45 (kdR_1 hp4) (fun _ => ?_)
      refine J_icmp_eq (tgt := 51) hK dX5_isSoWith_46 (by decide) ?_ ?_
      · refine J_iinc (lw := [(7, .ref (X.1 + p7)), (0, .ref (X.1 + 0)), (1, .int p1), (2, .int p2), (3, .int p3), (4, .ref (X.1 + p4)), (5, .int p5), (6, .int p6)]) hK dX5_isSoWith_51 0 rfl (by decide) ci_1 rfl (fun z202 => ?_)
        refine J_goto (len := 0) (tgt := 17) hK dX5_isSoWith_54 (by decide) ?_
        exact J_sub [0, 1, 2, 3, 4, 5, 6, 7, 8] rfl (ih _ _)
      · refine J_iconst hK dX5_isSoWith_49 ci_0 ?_
        exact J_zret0 hK dX5_isSoWith_50
    · exact J_sub [0, 1, 2, 3, 4, 5, 6, 7, 8] rfl (hk _ _)
set_option maxHeartbeats 4000000 in
set_option maxRecDepth 4000 in
theorem uX5_isSoWith {l : Launch} {X : WX} {a1 : Int32} {a2 : Int32} {a3 : Int32} {a4 : Nat} {a5 : Int32} {a6 : Int32} {h h' : AH} {v : Int32} (ka4 : kd a4 = 3) (hf : fX5_isSoWith a1 a2 a3 a4 a5 a6 h = some (v, h')) : Does l X 4 yX5_isSoWith cX5_isSoWith 9 (some .boolean) [.ref (X.1 + 0), .int a1, .int a2, .int a3, .ref (X.1 + a4), .int a5, .int a6] h (eI v) h' := by
  refine Does.of (enc := eI) (o := fX5_isSoWith a1 a2 a3 a4 a5 a6 h) (lv := [(0, .ref (X.1 + 0)), (1, .int a1), (2, .int a2), (3, .int a3), (4, .ref (X.1 + a4)), (5, .int a5), (6, .int a6)]) (by decide) (Nat.le_of_ble_eq_true rfl) rfl hf (fun K hl hK => ?_)
  subst hl
  unfold fX5_isSoWith
  refine J_aload_n hK dX5_isSoWith_0 0 rfl ?_
  refine J_callVr (q := 0) (As := []) (st := []) hK dX5_isSoWith_1 kB_X5_185 kV_X5_fromNow kd_0 (by decide) rfl rfl (by decide) rfl rfl (Nat.le_of_ble_eq_true rfl) (fun _ _ hf => uX5_fromNow  hf) (fun v2 h1 => ?_)
  refine J_chk (fun q3 => ?_)
  refine J_astore (lw := [(0, .ref (X.1 + 0)), (1, .int a1), (2, .int a2), (3, .int a3), (4, .ref (X.1 + a4)), (5, .int a5), (6, .int a6)]) hK dX5_isSoWith_4 (by decide) rfl ?_
  refine J_aload hK dX5_isSoWith_6 0 rfl ?_
  refine J_iload_n hK dX5_isSoWith_8 2 rfl ?_
  refine J_iload_n hK dX5_isSoWith_9 3 rfl ?_
  refine J_iload_n hK dX5_isSoWith_10 4 rfl ?_
  refine J_callVv (q := v2) (As := [.int a1, .int a2, .int a3]) (st := []) hK dX5_isSoWith_11 kB_X5_283 kV_X2_suppose q3 (by decide) rfl rfl (by decide) rfl rfl (Nat.le_of_ble_eq_true rfl) (fun _ _ hf => uX2_suppose q3 hf) (fun _ h4 => ?_)
  refine J_iconst hK dX5_isSoWith_14 ci_0 ?_
  refine J_istore (lw := [(7, .ref (X.1 + v2)), (0, .ref (X.1 + 0)), (1, .int a1), (2, .int a2), (3, .int a3), (4, .ref (X.1 + a4)), (5, .int a5), (6, .int a6)]) hK dX5_isSoWith_15 (by decide) rfl ?_
  refine J_sub [0, 1, 2, 3, 4, 5, 6, 7, 8] rfl (gX5_isSoWith_L17 hK q3 ka4 (fun z5 h6 => ?_) FU _ _)
  refine J_iconst hK dX5_isSoWith_57 ci_1 ?_
  exact J_zret1 hK dX5_isSoWith_58
-- X5_later
theorem dX5_later_0 : DD cX5_later 0 (.aload_n 0) 1 1 := by decide +kernel
theorem dX5_later_1 : DD cX5_later 1 (.invokevirtual 124) 3 4 := by decide +kernel
theorem dX5_later_4 : DD cX5_later 4 (.ifCond .eq 6) 3 7 := by decide +kernel
theorem dX5_later_7 : DD cX5_later 7 (.ldc 127) 2 9 := by decide +kernel
theorem dX5_later_9 : DD cX5_later 9 (.ireturn) 1 10 := by decide +kernel
theorem dX5_later_10 : DD cX5_later 10 (.iload_n 1) 1 11 := by decide +kernel
theorem dX5_later_11 : DD cX5_later 11 (.ifCond .lt 18) 3 14 := by decide +kernel
theorem dX5_later_14 : DD cX5_later 14 (.iload_n 1) 1 15 := by decide +kernel
theorem dX5_later_15 : DD cX5_later 15 (.bipush 60) 2 17 := by decide +kernel
theorem dX5_later_17 : DD cX5_later 17 (.if_icmp .gt 12) 3 20 := by decide +kernel
theorem dX5_later_20 : DD cX5_later 20 (.iload_n 2) 1 21 := by decide +kernel
theorem dX5_later_21 : DD cX5_later 21 (.ifCond .lt 8) 3 24 := by decide +kernel
theorem dX5_later_24 : DD cX5_later 24 (.iload_n 2) 1 25 := by decide +kernel
theorem dX5_later_25 : DD cX5_later 25 (.iconst 3) 1 26 := by decide +kernel
theorem dX5_later_26 : DD cX5_later 26 (.if_icmp .le 6) 3 29 := by decide +kernel
theorem dX5_later_29 : DD cX5_later 29 (.ldc 55) 2 31 := by decide +kernel
theorem dX5_later_31 : DD cX5_later 31 (.ireturn) 1 32 := by decide +kernel
theorem dX5_later_32 : DD cX5_later 32 (.aload_n 0) 1 33 := by decide +kernel
theorem dX5_later_33 : DD cX5_later 33 (.invokevirtual 185) 3 36 := by decide +kernel
theorem dX5_later_36 : DD cX5_later 36 (.astore_n 3) 1 37 := by decide +kernel
theorem dX5_later_37 : DD cX5_later 37 (.iconst 0) 1 38 := by decide +kernel
theorem dX5_later_38 : DD cX5_later 38 (.istore 4) 2 40 := by decide +kernel
theorem dX5_later_40 : DD cX5_later 40 (.iload 4) 2 42 := by decide +kernel
theorem dX5_later_42 : DD cX5_later 42 (.iload_n 1) 1 43 := by decide +kernel
theorem dX5_later_43 : DD cX5_later 43 (.if_icmp .ge 14) 3 46 := by decide +kernel
theorem dX5_later_46 : DD cX5_later 46 (.aload_n 3) 1 47 := by decide +kernel
theorem dX5_later_47 : DD cX5_later 47 (.iconst 0) 1 48 := by decide +kernel
theorem dX5_later_48 : DD cX5_later 48 (.invokevirtual 134) 3 51 := by decide +kernel
theorem dX5_later_51 : DD cX5_later 51 (.iinc 4 1) 3 54 := by decide +kernel
theorem dX5_later_54 : DD cX5_later 54 (.goto (-14)) 3 57 := by decide +kernel
theorem dX5_later_57 : DD cX5_later 57 (.iload_n 2) 1 58 := by decide +kernel
theorem dX5_later_58 : DD cX5_later 58 (.tableswitch 45 0 2 #[26, 31, 40]) 26 84 := by decide +kernel
theorem dX5_later_84 : DD cX5_later 84 (.aload_n 3) 1 85 := by decide +kernel
theorem dX5_later_85 : DD cX5_later 85 (.getfield 138) 3 88 := by decide +kernel
theorem dX5_later_88 : DD cX5_later 88 (.ireturn) 1 89 := by decide +kernel
theorem dX5_later_89 : DD cX5_later 89 (.aload_n 3) 1 90 := by decide +kernel
theorem dX5_later_90 : DD cX5_later 90 (.aload_n 3) 1 91 := by decide +kernel
theorem dX5_later_91 : DD cX5_later 91 (.invokevirtual 189) 3 94 := by decide +kernel
theorem dX5_later_94 : DD cX5_later 94 (.invokevirtual 192) 3 97 := by decide +kernel
theorem dX5_later_97 : DD cX5_later 97 (.ireturn) 1 98 := by decide +kernel
theorem dX5_later_98 : DD cX5_later 98 (.aload_n 3) 1 99 := by decide +kernel
theorem dX5_later_99 : DD cX5_later 99 (.getfield 154) 3 102 := by decide +kernel
theorem dX5_later_102 : DD cX5_later 102 (.ireturn) 1 103 := by decide +kernel
theorem dX5_later_103 : DD cX5_later 103 (.aload_n 3) 1 104 := by decide +kernel
theorem dX5_later_104 : DD cX5_later 104 (.invokevirtual 195) 3 107 := by decide +kernel
theorem dX5_later_107 : DD cX5_later 107 (.ireturn) 1 108 := by decide +kernel
def fX5_later_L40 (p3 : Nat) (p1 : Int32) (p2 : Int32) : Nat → Int32 → AH → (Int32 → AH → Option (Int32 × AH)) → Option (Int32 × AH)
  | 0, _, _, _ => none
  | n + 1, x4, h, k => (if x4 < p1 then (bnd (fX2_passHour p3 (0 : Int32) h) fun _ h201 => (vl (x4 + (1 : Int32)) fun z202 => fX5_later_L40 p3 p1 p2 n z202 h201 k)) else k x4 h)
def fX5_later (a1 : Int32) (a2 : Int32) (h : AH) : Option (Int32 × AH) := (bnd (fX5_noEstuary  h) fun v2 h1 => (if v2 = 0 then (if a1 < 0 then (some ((-1000001 : Int32), h1)) else (if (60 : Int32) < a1 then (some ((-1000001 : Int32), h1)) else (if a2 < 0 then (some ((-1000001 : Int32), h1)) else (if (3 : Int32) < a2 then (some ((-1000001 : Int32), h1)) else (bnd (fX5_fromNow  h1) fun v4 h3 => chk (kd v4 = 2) (fX5_later_L40 v4 a1 a2 FU (0 : Int32) h3 fun z6 h7 => (if a2 = (0 : Int32) then (some ((h7 v4 3), h7)) else (if a2 = (1 : Int32) then (bnd (fX2_force v4 h7) fun v10 h9 => (bnd (fX2_speedBy v4 v10 h9) fun v12 h11 => (some (v12, h11)))) else (if a2 = (2 : Int32) then (some ((h7 v4 5), h7)) else (bnd (fX2_standing v4 h7) fun v16 h15 => (some (v16, h15)))))))))))) else (some ((-1000002 : Int32), h1))))
set_option maxHeartbeats 4000000 in
theorem gX5_later_L40 {K : MC} {X : WX} {p3 : Nat} {p1 : Int32} {p2 : Int32} (hK : Ok K X RX5 cX5_later 5 (some .int) 4) (hp3 : kd p3 = 2) {k : Int32 → AH → Option (Int32 × AH)} (hk : ∀ (x4 : Int32) (h : AH), J K X 5 (Zm K X) eI 57 [(4, .int x4), (3, .ref (X.1 + p3)), (0, .ref (X.1 + 0)), (1, .int p1), (2, .int p2)] [] h (k x4 h)) : ∀ (n : Nat) (x4 : Int32) (h : AH), J K X 5 (Zm K X) eI 40 [(4, .int x4), (3, .ref (X.1 + p3)), (0, .ref (X.1 + 0)), (1, .int p1), (2, .int p2)] [] h (fX5_later_L40 p3 p1 p2 n x4 h k) := by
  intro n
  induction n with
  | zero => exact fun _ _ => J_none
  | succ n ih =>
    intro x4 h
    rw [fX5_later_L40]
    refine J_iload hK dX5_later_40 0 rfl ?_
    refine J_iload_n hK dX5_later_42 3 rfl ?_
    refine J_icmp_ge (tgt := 57) hK dX5_later_43 (by decide) ?_ ?_
    · refine J_aload_n hK dX5_later_46 1 rfl ?_
      refine J_iconst hK dX5_later_47 ci_0 ?_
      refine J_callVv (q := p3) (As := [.int (0 : Int32)]) (st := []) hK dX5_later_48 kB_X5_134 kV_X2_passHour hp3 (by decide) rfl rfl (by decide) rfl rfl (Nat.le_of_ble_eq_true rfl) (fun _ _ hf => uX2_passHour hp3 hf) (fun _ h201 => ?_)
      refine J_iinc (lw := [(3, .ref (X.1 + p3)), (0, .ref (X.1 + 0)), (1, .int p1), (2, .int p2)]) hK dX5_later_51 0 rfl (by decide) ci_1 rfl (fun z202 => ?_)
      refine J_goto (len := 0) (tgt := 40) hK dX5_later_54 (by decide) ?_
      exact J_sub [0, 1, 2, 3, 4] rfl (ih _ _)
    · exact J_sub [0, 1, 2, 3, 4] rfl (hk _ _)
set_option maxHeartbeats 4000000 in
set_option maxRecDepth 4000 in
theorem uX5_later {l : Launch} {X : WX} {a1 : Int32} {a2 : Int32} {h h' : AH} {v : Int32} (hf : fX5_later a1 a2 h = some (v, h')) : Does l X 4 yX5_later cX5_later 5 (some .int) [.ref (X.1 + 0), .int a1, .int a2] h (eI v) h' := by
  refine Does.of (enc := eI) (o := fX5_later a1 a2 h) (lv := [(0, .ref (X.1 + 0)), (1, .int a1), (2, .int a2)]) (by decide) (Nat.le_of_ble_eq_true rfl) rfl hf (fun K hl hK => ?_)
  subst hl
  unfold fX5_later
  refine J_aload_n hK dX5_later_0 0 rfl ?_
  refine J_callVi (q := 0) (As := []) (st := []) hK dX5_later_1 kB_X5_124 kV_X5_noEstuary kd_0 (by decide) rfl rfl (by decide) rfl rfl (Nat.le_of_ble_eq_true rfl) (fun _ _ hf => uX5_noEstuary  hf) (fun v2 h1 => ?_)
  refine J_if_eq (tgt := 10) hK dX5_later_4 (by decide) ?_ ?_
  · refine J_iload_n hK dX5_later_10 1 rfl ?_
    refine J_if_lt (tgt := 29) hK dX5_later_11 (by decide) ?_ ?_
    · refine J_ldc hK dX5_later_29 kK_X5_55 ?_
      exact J_iret hK dX5_later_31
    · refine J_iload_n hK dX5_later_14 1 rfl ?_
      refine J_bipush hK dX5_later_15 cb_60 ?_
      refine J_icmp_gt (tgt := 29) hK dX5_later_17 (by decide) ?_ ?_
      · refine J_ldc hK dX5_later_29 kK_X5_55 ?_
        exact J_iret hK dX5_later_31
      · refine J_iload_n hK dX5_later_20 2 rfl ?_
        refine J_if_lt (tgt := 29) hK dX5_later_21 (by decide) ?_ ?_
        · refine J_ldc hK dX5_later_29 kK_X5_55 ?_
          exact J_iret hK dX5_later_31
        · refine J_iload_n hK dX5_later_24 2 rfl ?_
          refine J_iconst hK dX5_later_25 ci_3 ?_
          refine J_icmp_le (tgt := 32) hK dX5_later_26 (by decide) ?_ ?_
          · refine J_ldc hK dX5_later_29 kK_X5_55 ?_
            exact J_iret hK dX5_later_31
          · refine J_aload_n hK dX5_later_32 0 rfl ?_
            refine J_callVr (q := 0) (As := []) (st := []) hK dX5_later_33 kB_X5_185 kV_X5_fromNow kd_0 (by decide) rfl rfl (by decide) rfl rfl (Nat.le_of_ble_eq_true rfl) (fun _ _ hf => uX5_fromNow  hf) (fun v4 h3 => ?_)
            refine J_chk (fun q5 => ?_)
            refine J_astore_n (n := 3) (lw := [(0, .ref (X.1 + 0)), (1, .int a1), (2, .int a2)]) hK dX5_later_36 rfl (by decide) rfl ?_
            refine J_iconst hK dX5_later_37 ci_0 ?_
            refine J_istore (lw := [(3, .ref (X.1 + v4)), (0, .ref (X.1 + 0)), (1, .int a1), (2, .int a2)]) hK dX5_later_38 (by decide) rfl ?_
            refine J_sub [0, 1, 2, 3, 4] rfl (gX5_later_L40 hK q5 (fun z6 h7 => ?_) FU _ _)
            refine J_iload_n hK dX5_later_57 4 rfl ?_
            refine J_split (c := a2 = (0 : Int32)) (fun e8 => ?_) (fun e8 => ?_)
            · refine J_tableIn (v := 0) (off := 26) (tgt := 84) hK dX5_later_58 e8 (by decide) ?_
              refine J_aload_n hK dX5_later_84 1 rfl ?_
              refine gF_X5_138 hK dX5_later_85 q5 ?_
              exact J_iret hK dX5_later_88
            refine J_split (c := a2 = (1 : Int32)) (fun e13 => ?_) (fun e13 => ?_)
            · refine J_tableIn (v := 1) (off := 31) (tgt := 89) hK dX5_later_58 e13 (by decide) ?_
              refine J_aload_n hK dX5_later_89 1 rfl ?_
              refine J_aload_n hK dX5_later_90 1 rfl ?_
              refine J_callVi (q := v4) (As := []) (st := [.ref (X.1 + v4)]) hK dX5_later_91 kB_X5_189 kV_X2_force q5 (by decide) rfl rfl (by decide) rfl rfl (Nat.le_of_ble_eq_true rfl) (fun _ _ hf => uX2_force q5 hf) (fun v10 h9 => ?_)
              refine J_callVi (q := v4) (As := [.int v10]) (st := []) hK dX5_later_94 kB_X5_192 kV_X2_speedBy q5 (by decide) rfl rfl (by decide) rfl rfl (Nat.le_of_ble_eq_true rfl) (fun _ _ hf => uX2_speedBy q5 hf) (fun v12 h11 => ?_)
              exact J_iret hK dX5_later_97
            refine J_split (c := a2 = (2 : Int32)) (fun e14 => ?_) (fun e14 => ?_)
            · refine J_tableIn (v := 2) (off := 40) (tgt := 98) hK dX5_later_58 e14 (by decide) ?_
              refine J_aload_n hK dX5_later_98 1 rfl ?_
              refine gF_X5_154 hK dX5_later_99 q5 ?_
              exact J_iret hK dX5_later_102
            refine J_tableOut (tgt := 103) hK dX5_later_58 (tbl_out [0, 1, 2] (by decide) (nl1 e8 (nl1 e13 (nl1 e14 nl0)))) (by decide) ?_
            refine J_aload_n hK dX5_later_103 1 rfl ?_
            refine J_callVi (q := v4) (As := []) (st := []) hK dX5_later_104 kB_X5_195 kV_X2_standing q5 (by decide) rfl rfl (by decide) rfl rfl (Nat.le_of_ble_eq_true rfl) (fun _ _ hf => uX2_standing q5 hf) (fun v16 h15 => ?_)
            exact J_iret hK dX5_later_107
  · refine J_ldc hK dX5_later_7 kK_X5_127 ?_
    exact J_iret hK dX5_later_9
-- X5_parts
theorem dX5_parts_0 : DD cX5_parts 0 (.aload_n 0) 1 1 := by decide +kernel
theorem dX5_parts_1 : DD cX5_parts 1 (.iload_n 1) 1 2 := by decide +kernel
theorem dX5_parts_2 : DD cX5_parts 2 (.invokevirtual 141) 3 5 := by decide +kernel
theorem dX5_parts_5 : DD cX5_parts 5 (.ifCond .eq 6) 3 8 := by decide +kernel
theorem dX5_parts_8 : DD cX5_parts 8 (.ldc 55) 2 10 := by decide +kernel
theorem dX5_parts_10 : DD cX5_parts 10 (.ireturn) 1 11 := by decide +kernel
theorem dX5_parts_11 : DD cX5_parts 11 (.aload_n 0) 1 12 := by decide +kernel
theorem dX5_parts_12 : DD cX5_parts 12 (.invokevirtual 185) 3 15 := by decide +kernel
theorem dX5_parts_15 : DD cX5_parts 15 (.astore_n 2) 1 16 := by decide +kernel
theorem dX5_parts_16 : DD cX5_parts 16 (.iconst 0) 1 17 := by decide +kernel
theorem dX5_parts_17 : DD cX5_parts 17 (.istore_n 3) 1 18 := by decide +kernel
theorem dX5_parts_18 : DD cX5_parts 18 (.iload_n 3) 1 19 := by decide +kernel
theorem dX5_parts_19 : DD cX5_parts 19 (.bipush 60) 2 21 := by decide +kernel
theorem dX5_parts_21 : DD cX5_parts 21 (.if_icmp .gt 24) 3 24 := by decide +kernel
theorem dX5_parts_24 : DD cX5_parts 24 (.aload_n 2) 1 25 := by decide +kernel
theorem dX5_parts_25 : DD cX5_parts 25 (.iload_n 1) 1 26 := by decide +kernel
theorem dX5_parts_26 : DD cX5_parts 26 (.invokevirtual 144) 3 29 := by decide +kernel
theorem dX5_parts_29 : DD cX5_parts 29 (.ifCond .ne 5) 3 32 := by decide +kernel
theorem dX5_parts_32 : DD cX5_parts 32 (.iload_n 3) 1 33 := by decide +kernel
theorem dX5_parts_33 : DD cX5_parts 33 (.ireturn) 1 34 := by decide +kernel
theorem dX5_parts_34 : DD cX5_parts 34 (.aload_n 2) 1 35 := by decide +kernel
theorem dX5_parts_35 : DD cX5_parts 35 (.iconst 0) 1 36 := by decide +kernel
theorem dX5_parts_36 : DD cX5_parts 36 (.invokevirtual 134) 3 39 := by decide +kernel
theorem dX5_parts_39 : DD cX5_parts 39 (.iinc 3 1) 3 42 := by decide +kernel
theorem dX5_parts_42 : DD cX5_parts 42 (.goto (-24)) 3 45 := by decide +kernel
theorem dX5_parts_45 : DD cX5_parts 45 (.ldc 202) 2 47 := by decide +kernel
theorem dX5_parts_47 : DD cX5_parts 47 (.ireturn) 1 48 := by decide +kernel
def fX5_parts_L18 (p2 : Nat) (p1 : Int32) : Nat → Int32 → AH → (Int32 → AH → Option (Int32 × AH)) → Option (Int32 × AH)
  | 0, _, _, _ => none
  | n + 1, x3, h, k => (if (60 : Int32) < x3 then k x3 h else (bnd (fX2_holds p2 p1 h) fun v202 h201 => (if v202 = 0 then (some (x3, h201)) else (bnd (fX2_passHour p2 (0 : Int32) h201) fun _ h203 => (vl (x3 + (1 : Int32)) fun z204 => fX5_parts_L18 p2 p1 n z204 h203 k)))))
def fX5_parts (a1 : Int32) (h : AH) : Option (Int32 × AH) := (bnd (fX5_noTug a1 h) fun v2 h1 => (if v2 = 0 then (bnd (fX5_fromNow  h1) fun v4 h3 => chk (kd v4 = 2) (fX5_parts_L18 v4 a1 FU (0 : Int32) h3 fun z6 h7 => (some ((-1000000 : Int32), h7)))) else (some ((-1000001 : Int32), h1))))
set_option maxHeartbeats 4000000 in
theorem gX5_parts_L18 {K : MC} {X : WX} {p2 : Nat} {p1 : Int32} (hK : Ok K X RX5 cX5_parts 4 (some .int) 4) (hp2 : kd p2 = 2) {k : Int32 → AH → Option (Int32 × AH)} (hk : ∀ (x3 : Int32) (h : AH), J K X 4 (Zm K X) eI 45 [(3, .int x3), (2, .ref (X.1 + p2)), (0, .ref (X.1 + 0)), (1, .int p1)] [] h (k x3 h)) : ∀ (n : Nat) (x3 : Int32) (h : AH), J K X 4 (Zm K X) eI 18 [(3, .int x3), (2, .ref (X.1 + p2)), (0, .ref (X.1 + 0)), (1, .int p1)] [] h (fX5_parts_L18 p2 p1 n x3 h k) := by
  intro n
  induction n with
  | zero => exact fun _ _ => J_none
  | succ n ih =>
    intro x3 h
    rw [fX5_parts_L18]
    refine J_iload_n hK dX5_parts_18 0 rfl ?_
    refine J_bipush hK dX5_parts_19 cb_60 ?_
    refine J_icmp_gt (tgt := 45) hK dX5_parts_21 (by decide) ?_ ?_
    · exact J_sub [0, 1, 2, 3] rfl (hk _ _)
    · refine J_aload_n hK dX5_parts_24 1 rfl ?_
      refine J_iload_n hK dX5_parts_25 3 rfl ?_
      refine J_callVi (q := p2) (As := [.int p1]) (st := []) hK dX5_parts_26 kB_X5_144 kV_X2_holds hp2 (by decide) rfl rfl (by decide) rfl rfl (Nat.le_of_ble_eq_true rfl) (fun _ _ hf => uX2_holds hp2 hf) (fun v202 h201 => ?_)
      refine J_if_ne (tgt := 34) hK dX5_parts_29 (by decide) ?_ ?_
      · refine J_iload_n hK dX5_parts_32 0 rfl ?_
        exact J_iret hK dX5_parts_33
      · refine J_aload_n hK dX5_parts_34 1 rfl ?_
        refine J_iconst hK dX5_parts_35 ci_0 ?_
        refine J_callVv (q := p2) (As := [.int (0 : Int32)]) (st := []) hK dX5_parts_36 kB_X5_134 kV_X2_passHour hp2 (by decide) rfl rfl (by decide) rfl rfl (Nat.le_of_ble_eq_true rfl) (fun _ _ hf => uX2_passHour hp2 hf) (fun _ h203 => ?_)
        refine J_iinc (lw := [(2, .ref (X.1 + p2)), (0, .ref (X.1 + 0)), (1, .int p1)]) hK dX5_parts_39 0 rfl (by decide) ci_1 rfl (fun z204 => ?_)
        refine J_goto (len := 0) (tgt := 18) hK dX5_parts_42 (by decide) ?_
        exact J_sub [0, 1, 2, 3] rfl (ih _ _)
set_option maxHeartbeats 4000000 in
set_option maxRecDepth 4000 in
theorem uX5_parts {l : Launch} {X : WX} {a1 : Int32} {h h' : AH} {v : Int32} (hf : fX5_parts a1 h = some (v, h')) : Does l X 4 yX5_parts cX5_parts 4 (some .int) [.ref (X.1 + 0), .int a1] h (eI v) h' := by
  refine Does.of (enc := eI) (o := fX5_parts a1 h) (lv := [(0, .ref (X.1 + 0)), (1, .int a1)]) (by decide) (Nat.le_of_ble_eq_true rfl) rfl hf (fun K hl hK => ?_)
  subst hl
  unfold fX5_parts
  refine J_aload_n hK dX5_parts_0 0 rfl ?_
  refine J_iload_n hK dX5_parts_1 1 rfl ?_
  refine J_callVi (q := 0) (As := [.int a1]) (st := []) hK dX5_parts_2 kB_X5_141 kV_X5_noTug kd_0 (by decide) rfl rfl (by decide) rfl rfl (Nat.le_of_ble_eq_true rfl) (fun _ _ hf => uX5_noTug  hf) (fun v2 h1 => ?_)
  refine J_if_eq (tgt := 11) hK dX5_parts_5 (by decide) ?_ ?_
  · refine J_aload_n hK dX5_parts_11 0 rfl ?_
    refine J_callVr (q := 0) (As := []) (st := []) hK dX5_parts_12 kB_X5_185 kV_X5_fromNow kd_0 (by decide) rfl rfl (by decide) rfl rfl (Nat.le_of_ble_eq_true rfl) (fun _ _ hf => uX5_fromNow  hf) (fun v4 h3 => ?_)
    refine J_chk (fun q5 => ?_)
    refine J_astore_n (n := 2) (lw := [(0, .ref (X.1 + 0)), (1, .int a1)]) hK dX5_parts_15 rfl (by decide) rfl ?_
    refine J_iconst hK dX5_parts_16 ci_0 ?_
    refine J_istore_n (n := 3) (lw := [(2, .ref (X.1 + v4)), (0, .ref (X.1 + 0)), (1, .int a1)]) hK dX5_parts_17 rfl (by decide) rfl ?_
    refine J_sub [0, 1, 2, 3] rfl (gX5_parts_L18 hK q5 (fun z6 h7 => ?_) FU _ _)
    refine J_ldc hK dX5_parts_45 kK_X5_202 ?_
    exact J_iret hK dX5_parts_47
  · refine J_ldc hK dX5_parts_8 kK_X5_55 ?_
    exact J_iret hK dX5_parts_10
-- X5_arrives
theorem dX5_arrives_0 : DD cX5_arrives 0 (.aload_n 0) 1 1 := by decide +kernel
theorem dX5_arrives_1 : DD cX5_arrives 1 (.invokevirtual 124) 3 4 := by decide +kernel
theorem dX5_arrives_4 : DD cX5_arrives 4 (.ifCond .eq 6) 3 7 := by decide +kernel
theorem dX5_arrives_7 : DD cX5_arrives 7 (.ldc 127) 2 9 := by decide +kernel
theorem dX5_arrives_9 : DD cX5_arrives 9 (.ireturn) 1 10 := by decide +kernel
theorem dX5_arrives_10 : DD cX5_arrives 10 (.aload_n 0) 1 11 := by decide +kernel
theorem dX5_arrives_11 : DD cX5_arrives 11 (.invokevirtual 185) 3 14 := by decide +kernel
theorem dX5_arrives_14 : DD cX5_arrives 14 (.bipush 60) 2 16 := by decide +kernel
theorem dX5_arrives_16 : DD cX5_arrives 16 (.invokestatic 198) 3 19 := by decide +kernel
theorem dX5_arrives_19 : DD cX5_arrives 19 (.ireturn) 1 20 := by decide +kernel
def fX5_arrives (h : AH) : Option (Int32 × AH) := (bnd (fX5_noEstuary  h) fun v2 h1 => (if v2 = 0 then (bnd (fX5_fromNow  h1) fun v4 h3 => chk (kd v4 = 2) (bnd (fX5_hoursUntilIn v4 (60 : Int32) h3) fun v7 h6 => (some (v7, h6)))) else (some ((-1000002 : Int32), h1))))
set_option maxHeartbeats 4000000 in
set_option maxRecDepth 4000 in
theorem uX5_arrives {l : Launch} {X : WX} {h h' : AH} {v : Int32} (hf : fX5_arrives  h = some (v, h')) : Does l X 5 yX5_arrives cX5_arrives 1 (some .int) [.ref (X.1 + 0)] h (eI v) h' := by
  refine Does.of (enc := eI) (o := fX5_arrives  h) (lv := [(0, .ref (X.1 + 0))]) (by decide) (Nat.le_of_ble_eq_true rfl) rfl hf (fun K hl hK => ?_)
  subst hl
  unfold fX5_arrives
  refine J_aload_n hK dX5_arrives_0 0 rfl ?_
  refine J_callVi (q := 0) (As := []) (st := []) hK dX5_arrives_1 kB_X5_124 kV_X5_noEstuary kd_0 (by decide) rfl rfl (by decide) rfl rfl (Nat.le_of_ble_eq_true rfl) (fun _ _ hf => uX5_noEstuary  hf) (fun v2 h1 => ?_)
  refine J_if_eq (tgt := 10) hK dX5_arrives_4 (by decide) ?_ ?_
  · refine J_aload_n hK dX5_arrives_10 0 rfl ?_
    refine J_callVr (q := 0) (As := []) (st := []) hK dX5_arrives_11 kB_X5_185 kV_X5_fromNow kd_0 (by decide) rfl rfl (by decide) rfl rfl (Nat.le_of_ble_eq_true rfl) (fun _ _ hf => uX5_fromNow  hf) (fun v4 h3 => ?_)
    refine J_chk (fun q5 => ?_)
    refine J_bipush hK dX5_arrives_14 cb_60 ?_
    refine J_callSi (As := [.ref (X.1 + v4), .int (60 : Int32)]) (st := []) hK dX5_arrives_16 kB_X5_198 kS_X5_hoursUntilIn (by decide) rfl rfl (Nat.le_of_ble_eq_true rfl) (fun _ _ hf => uX5_hoursUntilIn q5 hf) (fun v7 h6 => ?_)
    exact J_iret hK dX5_arrives_19
  · refine J_ldc hK dX5_arrives_7 kK_X5_127 ?_
    exact J_iret hK dX5_arrives_9
-- X5_fits
theorem dX5_fits_0 : DD cX5_fits 0 (.aload_n 0) 1 1 := by decide +kernel
theorem dX5_fits_1 : DD cX5_fits 1 (.iload_n 1) 1 2 := by decide +kernel
theorem dX5_fits_2 : DD cX5_fits 2 (.invokevirtual 141) 3 5 := by decide +kernel
theorem dX5_fits_5 : DD cX5_fits 5 (.ifCond .ne 37) 3 8 := by decide +kernel
theorem dX5_fits_8 : DD cX5_fits 8 (.iload_n 2) 1 9 := by decide +kernel
theorem dX5_fits_9 : DD cX5_fits 9 (.invokestatic 51) 3 12 := by decide +kernel
theorem dX5_fits_12 : DD cX5_fits 12 (.ifCond .ne 30) 3 15 := by decide +kernel
theorem dX5_fits_15 : DD cX5_fits 15 (.iload 4) 2 17 := by decide +kernel
theorem dX5_fits_17 : DD cX5_fits 17 (.iconst 1) 1 18 := by decide +kernel
theorem dX5_fits_18 : DD cX5_fits 18 (.if_icmp .lt 24) 3 21 := by decide +kernel
theorem dX5_fits_21 : DD cX5_fits 21 (.iload 4) 2 23 := by decide +kernel
theorem dX5_fits_23 : DD cX5_fits 23 (.bipush 12) 2 25 := by decide +kernel
theorem dX5_fits_25 : DD cX5_fits 25 (.if_icmp .gt 17) 3 28 := by decide +kernel
theorem dX5_fits_28 : DD cX5_fits 28 (.iload 5) 2 30 := by decide +kernel
theorem dX5_fits_30 : DD cX5_fits 30 (.ifCond .lt 12) 3 33 := by decide +kernel
theorem dX5_fits_33 : DD cX5_fits 33 (.iload 5) 2 35 := by decide +kernel
theorem dX5_fits_35 : DD cX5_fits 35 (.getstatic 222) 3 38 := by decide +kernel
theorem dX5_fits_38 : DD cX5_fits 38 (.arraylength) 1 39 := by decide +kernel
theorem dX5_fits_39 : DD cX5_fits 39 (.if_icmp .lt 6) 3 42 := by decide +kernel
theorem dX5_fits_42 : DD cX5_fits 42 (.ldc 55) 2 44 := by decide +kernel
theorem dX5_fits_44 : DD cX5_fits 44 (.ireturn) 1 45 := by decide +kernel
theorem dX5_fits_45 : DD cX5_fits 45 (.aload_n 0) 1 46 := by decide +kernel
theorem dX5_fits_46 : DD cX5_fits 46 (.getfield 11) 3 49 := by decide +kernel
theorem dX5_fits_49 : DD cX5_fits 49 (.iload_n 2) 1 50 := by decide +kernel
theorem dX5_fits_50 : DD cX5_fits 50 (.aaload) 1 51 := by decide +kernel
theorem dX5_fits_51 : DD cX5_fits 51 (.astore 6) 2 53 := by decide +kernel
theorem dX5_fits_53 : DD cX5_fits 53 (.aload 6) 2 55 := by decide +kernel
theorem dX5_fits_55 : DD cX5_fits 55 (.invokevirtual 67) 3 58 := by decide +kernel
theorem dX5_fits_58 : DD cX5_fits 58 (.ifCond .eq 9) 3 61 := by decide +kernel
theorem dX5_fits_61 : DD cX5_fits 61 (.aload_n 0) 1 62 := by decide +kernel
theorem dX5_fits_62 : DD cX5_fits 62 (.iconst 1) 1 63 := by decide +kernel
theorem dX5_fits_63 : DD cX5_fits 63 (.invokevirtual 56) 3 66 := by decide +kernel
theorem dX5_fits_66 : DD cX5_fits 66 (.ireturn) 1 67 := by decide +kernel
theorem dX5_fits_67 : DD cX5_fits 67 (.aload 6) 2 69 := by decide +kernel
theorem dX5_fits_69 : DD cX5_fits 69 (.iload_n 3) 1 70 := by decide +kernel
theorem dX5_fits_70 : DD cX5_fits 70 (.iload 4) 2 72 := by decide +kernel
theorem dX5_fits_72 : DD cX5_fits 72 (.invokevirtual 71) 3 75 := by decide +kernel
theorem dX5_fits_75 : DD cX5_fits 75 (.ifCond .ne 9) 3 78 := by decide +kernel
theorem dX5_fits_78 : DD cX5_fits 78 (.aload_n 0) 1 79 := by decide +kernel
theorem dX5_fits_79 : DD cX5_fits 79 (.iconst 2) 1 80 := by decide +kernel
theorem dX5_fits_80 : DD cX5_fits 80 (.invokevirtual 56) 3 83 := by decide +kernel
theorem dX5_fits_83 : DD cX5_fits 83 (.ireturn) 1 84 := by decide +kernel
theorem dX5_fits_84 : DD cX5_fits 84 (.iconst 0) 1 85 := by decide +kernel
theorem dX5_fits_85 : DD cX5_fits 85 (.istore 7) 2 87 := by decide +kernel
theorem dX5_fits_87 : DD cX5_fits 87 (.iconst 0) 1 88 := by decide +kernel
theorem dX5_fits_88 : DD cX5_fits 88 (.istore 8) 2 90 := by decide +kernel
theorem dX5_fits_90 : DD cX5_fits 90 (.ldc 202) 2 92 := by decide +kernel
theorem dX5_fits_92 : DD cX5_fits 92 (.istore 9) 2 94 := by decide +kernel
theorem dX5_fits_94 : DD cX5_fits 94 (.iconst 1) 1 95 := by decide +kernel
theorem dX5_fits_95 : DD cX5_fits 95 (.istore 10) 2 97 := by decide +kernel
theorem dX5_fits_97 : DD cX5_fits 97 (.iload 10) 2 99 := by decide +kernel
theorem dX5_fits_99 : DD cX5_fits 99 (.getstatic 222) 3 102 := by decide +kernel
theorem dX5_fits_102 : DD cX5_fits 102 (.iload 5) 2 104 := by decide +kernel
theorem dX5_fits_104 : DD cX5_fits 104 (.iaload) 1 105 := by decide +kernel
theorem dX5_fits_105 : DD cX5_fits 105 (.if_icmp .gt 65) 3 108 := by decide +kernel
theorem dX5_fits_108 : DD cX5_fits 108 (.aload_n 0) 1 109 := by decide +kernel
theorem dX5_fits_109 : DD cX5_fits 109 (.iload_n 1) 1 110 := by decide +kernel
theorem dX5_fits_110 : DD cX5_fits 110 (.iload 5) 2 112 := by decide +kernel
theorem dX5_fits_112 : DD cX5_fits 112 (.iload 10) 2 114 := by decide +kernel
theorem dX5_fits_114 : DD cX5_fits 114 (.aload 6) 2 116 := by decide +kernel
theorem dX5_fits_116 : DD cX5_fits 116 (.iload_n 3) 1 117 := by decide +kernel
theorem dX5_fits_117 : DD cX5_fits 117 (.iload 4) 2 119 := by decide +kernel
theorem dX5_fits_119 : DD cX5_fits 119 (.invokevirtual 225) 3 122 := by decide +kernel
theorem dX5_fits_122 : DD cX5_fits 122 (.ifCond .eq 42) 3 125 := by decide +kernel
theorem dX5_fits_125 : DD cX5_fits 125 (.iload 7) 2 127 := by decide +kernel
theorem dX5_fits_127 : DD cX5_fits 127 (.iload 10) 2 129 := by decide +kernel
theorem dX5_fits_129 : DD cX5_fits 129 (.bipush 31) 2 131 := by decide +kernel
theorem dX5_fits_131 : DD cX5_fits 131 (.if_icmp .ge 10) 3 134 := by decide +kernel
theorem dX5_fits_134 : DD cX5_fits 134 (.iconst 1) 1 135 := by decide +kernel
theorem dX5_fits_135 : DD cX5_fits 135 (.iload 10) 2 137 := by decide +kernel
theorem dX5_fits_137 : DD cX5_fits 137 (.ishl) 1 138 := by decide +kernel
theorem dX5_fits_138 : DD cX5_fits 138 (.goto 4) 3 141 := by decide +kernel
theorem dX5_fits_141 : DD cX5_fits 141 (.iconst 0) 1 142 := by decide +kernel
theorem dX5_fits_142 : DD cX5_fits 142 (.ior) 1 143 := by decide +kernel
theorem dX5_fits_143 : DD cX5_fits 143 (.istore 7) 2 145 := by decide +kernel
theorem dX5_fits_145 : DD cX5_fits 145 (.iinc 8 1) 3 148 := by decide +kernel
theorem dX5_fits_148 : DD cX5_fits 148 (.iload 9) 2 150 := by decide +kernel
theorem dX5_fits_150 : DD cX5_fits 150 (.ldc 202) 2 152 := by decide +kernel
theorem dX5_fits_152 : DD cX5_fits 152 (.if_icmp .ne 8) 3 155 := by decide +kernel
theorem dX5_fits_155 : DD cX5_fits 155 (.iload 10) 2 157 := by decide +kernel
theorem dX5_fits_157 : DD cX5_fits 157 (.goto 5) 3 160 := by decide +kernel
theorem dX5_fits_160 : DD cX5_fits 160 (.iload 9) 2 162 := by decide +kernel
theorem dX5_fits_162 : DD cX5_fits 162 (.istore 9) 2 164 := by decide +kernel
theorem dX5_fits_164 : DD cX5_fits 164 (.iinc 10 1) 3 167 := by decide +kernel
theorem dX5_fits_167 : DD cX5_fits 167 (.goto (-70)) 3 170 := by decide +kernel
theorem dX5_fits_170 : DD cX5_fits 170 (.aload_n 0) 1 171 := by decide +kernel
theorem dX5_fits_171 : DD cX5_fits 171 (.iload 5) 2 173 := by decide +kernel
theorem dX5_fits_173 : DD cX5_fits 173 (.iconst 3) 1 174 := by decide +kernel
theorem dX5_fits_174 : DD cX5_fits 174 (.if_icmp .ne 8) 3 177 := by decide +kernel
theorem dX5_fits_177 : DD cX5_fits 177 (.iload 8) 2 179 := by decide +kernel
theorem dX5_fits_179 : DD cX5_fits 179 (.goto 16) 3 182 := by decide +kernel
theorem dX5_fits_182 : DD cX5_fits 182 (.iload 5) 2 184 := by decide +kernel
theorem dX5_fits_184 : DD cX5_fits 184 (.iconst 4) 1 185 := by decide +kernel
theorem dX5_fits_185 : DD cX5_fits 185 (.if_icmp .ne 8) 3 188 := by decide +kernel
theorem dX5_fits_188 : DD cX5_fits 188 (.iload 9) 2 190 := by decide +kernel
theorem dX5_fits_190 : DD cX5_fits 190 (.goto 5) 3 193 := by decide +kernel
theorem dX5_fits_193 : DD cX5_fits 193 (.iload 7) 2 195 := by decide +kernel
theorem dX5_fits_195 : DD cX5_fits 195 (.invokevirtual 64) 3 198 := by decide +kernel
theorem dX5_fits_198 : DD cX5_fits 198 (.ireturn) 1 199 := by decide +kernel
def fX5_fits_L97 (p6 : Nat) (p1 : Int32) (p2 : Int32) (p3 : Int32) (p4 : Int32) (p5 : Int32) : Nat → Int32 → Int32 → Int32 → Int32 → AH → (Int32 → Int32 → Int32 → Int32 → AH → Option (Int32 × AH)) → Option (Int32 × AH)
  | 0, _, _, _, _, _, _ => none
  | n + 1, x10, x9, x8, x7, h, k => (chk (inb p5 (stL 0).length) (if (stV 0 (Int32.toNatClampNeg p5)) < x10 then k x10 x9 x8 x7 h else (bnd (fX5_isSoWith p1 p5 x10 p6 p3 p4 h) fun v202 h201 => (if v202 = 0 then (vl (x10 + (1 : Int32)) fun z203 => fX5_fits_L97 p6 p1 p2 p3 p4 p5 n z203 x9 x8 x7 h201 k) else (if x10 < (31 : Int32) then (vl (x7 ||| ((1 : Int32) <<< (x10 &&& 31))) fun z204 => (vl (x8 + (1 : Int32)) fun z205 => (if x9 = (-1000000 : Int32) then (vl (x10 + (1 : Int32)) fun z206 => fX5_fits_L97 p6 p1 p2 p3 p4 p5 n z206 x10 z205 z204 h201 k) else (vl (x10 + (1 : Int32)) fun z207 => fX5_fits_L97 p6 p1 p2 p3 p4 p5 n z207 x9 z205 z204 h201 k)))) else (vl (x7 ||| (0 : Int32)) fun z208 => (vl (x8 + (1 : Int32)) fun z209 => (if x9 = (-1000000 : Int32) then (vl (x10 + (1 : Int32)) fun z210 => fX5_fits_L97 p6 p1 p2 p3 p4 p5 n z210 x10 z209 z208 h201 k) else (vl (x10 + (1 : Int32)) fun z211 => fX5_fits_L97 p6 p1 p2 p3 p4 p5 n z211 x9 z209 z208 h201 k)))))))))
def fX5_fits (a1 : Int32) (a2 : Int32) (a3 : Int32) (a4 : Int32) (a5 : Int32) (h : AH) : Option (Int32 × AH) := (bnd (fX5_noTug a1 h) fun v2 h1 => (if v2 = 0 then (bnd (fX5_noRow a2 h1) fun v4 h3 => (if v4 = 0 then (if a4 < (1 : Int32) then (some ((-1000001 : Int32), h3)) else (if (12 : Int32) < a4 then (some ((-1000001 : Int32), h3)) else (if a5 < 0 then (some ((-1000001 : Int32), h3)) else (if a5 < (5 : Int32) then (chk (inb a2 (ln 1)) (bnd (fX3_missing (1 + 1 + 2 * Int32.toNatClampNeg a2) h3) fun v7 h6 => (if v7 = 0 then (bnd (fX3_hasRun (1 + 1 + 2 * Int32.toNatClampNeg a2) a3 a4 h6) fun v9 h8 => (if v9 = 0 then (bnd (fX5_found (2 : Int32) h8) fun v11 h10 => (some (v11, h10))) else (fX5_fits_L97 (1 + 1 + 2 * Int32.toNatClampNeg a2) a1 a2 a3 a4 a5 FU (1 : Int32) (-1000000 : Int32) (0 : Int32) (0 : Int32) h8 fun z12 z13 z14 z15 h16 => (if a5 = (3 : Int32) then (bnd (fX5_well z14 h16) fun v18 h17 => (some (v18, h17))) else (if a5 = (4 : Int32) then (bnd (fX5_well z13 h16) fun v20 h19 => (some (v20, h19))) else (bnd (fX5_well z15 h16) fun v22 h21 => (some (v22, h21)))))))) else (bnd (fX5_found (1 : Int32) h6) fun v24 h23 => (some (v24, h23)))))) else (some ((-1000001 : Int32), h3)))))) else (some ((-1000001 : Int32), h3)))) else (some ((-1000001 : Int32), h1))))
set_option maxHeartbeats 4000000 in
theorem gX5_fits_L97 {K : MC} {X : WX} {p6 : Nat} {p1 : Int32} {p2 : Int32} {p3 : Int32} {p4 : Int32} {p5 : Int32} (hK : Ok K X RX5 cX5_fits 11 (some .int) 5) (hp6 : kd p6 = 3) {k : Int32 → Int32 → Int32 → Int32 → AH → Option (Int32 × AH)} (hk : ∀ (x10 : Int32) (x9 : Int32) (x8 : Int32) (x7 : Int32) (h : AH), J K X 11 (Zm K X) eI 170 [(10, .int x10), (9, .int x9), (8, .int x8), (7, .int x7), (6, .ref (X.1 + p6)), (0, .ref (X.1 + 0)), (1, .int p1), (2, .int p2), (3, .int p3), (4, .int p4), (5, .int p5)] [] h (k x10 x9 x8 x7 h)) : ∀ (n : Nat) (x10 : Int32) (x9 : Int32) (x8 : Int32) (x7 : Int32) (h : AH), J K X 11 (Zm K X) eI 97 [(10, .int x10), (9, .int x9), (8, .int x8), (7, .int x7), (6, .ref (X.1 + p6)), (0, .ref (X.1 + 0)), (1, .int p1), (2, .int p2), (3, .int p3), (4, .int p4), (5, .int p5)] [] h (fX5_fits_L97 p6 p1 p2 p3 p4 p5 n x10 x9 x8 x7 h k) := by
  intro n
  induction n with
  | zero => exact fun _ _ _ _ _ => J_none
  | succ n ih =>
    intro x10 x9 x8 x7 h
    rw [fX5_fits_L97]
    refine J_iload hK dX5_fits_97 0 rfl ?_
    refine J_gets 0 (by decide) hK dX5_fits_99 kF_X5_222 ?_
    refine J_iload hK dX5_fits_102 10 rfl ?_
    refine J_sald 0 (by decide) hK dX5_fits_104 (fun _ => ?_)
    refine J_icmp_gt (tgt := 170) hK dX5_fits_105 (by decide) ?_ ?_
    · exact J_sub [0, 1, 2, 3, 4, 5, 6, 7, 8, 9, 10] rfl (hk _ _ _ _ _)
    · refine J_aload_n hK dX5_fits_108 5 rfl ?_
      refine J_iload_n hK dX5_fits_109 6 rfl ?_
      refine J_iload hK dX5_fits_110 10 rfl ?_
      refine J_iload hK dX5_fits_112 0 rfl ?_
      refine J_aload hK dX5_fits_114 4 rfl ?_
      refine J_iload_n hK dX5_fits_116 8 rfl ?_
      refine J_iload hK dX5_fits_117 9 rfl ?_
      refine J_callVi (q := 0) (As := [.int p1, .int p5, .int x10, .ref (X.1 + p6), .int p3, .int p4]) (st := []) hK dX5_fits_119 kB_X5_225 kV_X5_isSoWith kd_0 (by decide) rfl rfl (by decide) rfl rfl (Nat.le_of_ble_eq_true rfl) (fun _ _ hf => uX5_isSoWith hp6 hf) (fun v202 h201 => ?_)
      refine J_if_eq (tgt := 164) hK dX5_fits_122 (by decide) ?_ ?_
      · refine J_iinc (lw := [(9, .int x9), (8, .int x8), (7, .int x7), (6, .ref (X.1 + p6)), (0, .ref (X.1 + 0)), (1, .int p1), (2, .int p2), (3, .int p3), (4, .int p4), (5, .int p5)]) hK dX5_fits_164 0 rfl (by decide) ci_1 rfl (fun z203 => ?_)
        refine J_goto (len := 0) (tgt := 97) hK dX5_fits_167 (by decide) ?_
        exact J_sub [0, 1, 2, 3, 4, 5, 6, 7, 8, 9, 10] rfl (ih _ _ _ _ _)
      · refine J_iload hK dX5_fits_125 3 rfl ?_
        refine J_iload hK dX5_fits_127 0 rfl ?_
        refine J_bipush hK dX5_fits_129 cb_31 ?_
        refine J_icmp_ge (tgt := 141) hK dX5_fits_131 (by decide) ?_ ?_
        · refine J_iconst hK dX5_fits_134 ci_1 ?_
          refine J_iload hK dX5_fits_135 0 rfl ?_
          refine J_ishl hK dX5_fits_137 ?_
          refine J_goto (len := 0) (tgt := 142) hK dX5_fits_138 (by decide) ?_
          refine J_ior hK dX5_fits_142 ?_
          refine J_istoreV (lw := [(10, .int x10), (9, .int x9), (8, .int x8), (6, .ref (X.1 + p6)), (0, .ref (X.1 + 0)), (1, .int p1), (2, .int p2), (3, .int p3), (4, .int p4), (5, .int p5)]) hK dX5_fits_143 (by decide) rfl (fun z204 => ?_)
          refine J_iinc (lw := [(7, .int z204), (10, .int x10), (9, .int x9), (6, .ref (X.1 + p6)), (0, .ref (X.1 + 0)), (1, .int p1), (2, .int p2), (3, .int p3), (4, .int p4), (5, .int p5)]) hK dX5_fits_145 3 rfl (by decide) ci_1 rfl (fun z205 => ?_)
          refine J_iload hK dX5_fits_148 3 rfl ?_
          refine J_ldc hK dX5_fits_150 kK_X5_202 ?_
          refine J_icmp_ne (tgt := 160) hK dX5_fits_152 (by decide) ?_ ?_
          · refine J_iload hK dX5_fits_155 2 rfl ?_
            refine J_goto (len := 0) (tgt := 162) hK dX5_fits_157 (by decide) ?_
            refine J_istore (lw := [(8, .int z205), (7, .int z204), (10, .int x10), (6, .ref (X.1 + p6)), (0, .ref (X.1 + 0)), (1, .int p1), (2, .int p2), (3, .int p3), (4, .int p4), (5, .int p5)]) hK dX5_fits_162 (by decide) rfl ?_
            refine J_iinc (lw := [(9, .int x10), (8, .int z205), (7, .int z204), (6, .ref (X.1 + p6)), (0, .ref (X.1 + 0)), (1, .int p1), (2, .int p2), (3, .int p3), (4, .int p4), (5, .int p5)]) hK dX5_fits_164 3 rfl (by decide) ci_1 rfl (fun z206 => ?_)
            refine J_goto (len := 0) (tgt := 97) hK dX5_fits_167 (by decide) ?_
            exact J_sub [0, 1, 2, 3, 4, 5, 6, 7, 8, 9, 10] rfl (ih _ _ _ _ _)
          · refine J_iload hK dX5_fits_160 3 rfl ?_
            refine J_istore (lw := [(8, .int z205), (7, .int z204), (10, .int x10), (6, .ref (X.1 + p6)), (0, .ref (X.1 + 0)), (1, .int p1), (2, .int p2), (3, .int p3), (4, .int p4), (5, .int p5)]) hK dX5_fits_162 (by decide) rfl ?_
            refine J_iinc (lw := [(9, .int x9), (8, .int z205), (7, .int z204), (6, .ref (X.1 + p6)), (0, .ref (X.1 + 0)), (1, .int p1), (2, .int p2), (3, .int p3), (4, .int p4), (5, .int p5)]) hK dX5_fits_164 3 rfl (by decide) ci_1 rfl (fun z207 => ?_)
            refine J_goto (len := 0) (tgt := 97) hK dX5_fits_167 (by decide) ?_
            exact J_sub [0, 1, 2, 3, 4, 5, 6, 7, 8, 9, 10] rfl (ih _ _ _ _ _)
        · refine J_iconst hK dX5_fits_141 ci_0 ?_
          refine J_ior hK dX5_fits_142 ?_
          refine J_istoreV (lw := [(10, .int x10), (9, .int x9), (8, .int x8), (6, .ref (X.1 + p6)), (0, .ref (X.1 + 0)), (1, .int p1), (2, .int p2), (3, .int p3), (4, .int p4), (5, .int p5)]) hK dX5_fits_143 (by decide) rfl (fun z208 => ?_)
          refine J_iinc (lw := [(7, .int z208), (10, .int x10), (9, .int x9), (6, .ref (X.1 + p6)), (0, .ref (X.1 + 0)), (1, .int p1), (2, .int p2), (3, .int p3), (4, .int p4), (5, .int p5)]) hK dX5_fits_145 3 rfl (by decide) ci_1 rfl (fun z209 => ?_)
          refine J_iload hK dX5_fits_148 3 rfl ?_
          refine J_ldc hK dX5_fits_150 kK_X5_202 ?_
          refine J_icmp_ne (tgt := 160) hK dX5_fits_152 (by decide) ?_ ?_
          · refine J_iload hK dX5_fits_155 2 rfl ?_
            refine J_goto (len := 0) (tgt := 162) hK dX5_fits_157 (by decide) ?_
            refine J_istore (lw := [(8, .int z209), (7, .int z208), (10, .int x10), (6, .ref (X.1 + p6)), (0, .ref (X.1 + 0)), (1, .int p1), (2, .int p2), (3, .int p3), (4, .int p4), (5, .int p5)]) hK dX5_fits_162 (by decide) rfl ?_
            refine J_iinc (lw := [(9, .int x10), (8, .int z209), (7, .int z208), (6, .ref (X.1 + p6)), (0, .ref (X.1 + 0)), (1, .int p1), (2, .int p2), (3, .int p3), (4, .int p4), (5, .int p5)]) hK dX5_fits_164 3 rfl (by decide) ci_1 rfl (fun z210 => ?_)
            refine J_goto (len := 0) (tgt := 97) hK dX5_fits_167 (by decide) ?_
            exact J_sub [0, 1, 2, 3, 4, 5, 6, 7, 8, 9, 10] rfl (ih _ _ _ _ _)
          · refine J_iload hK dX5_fits_160 3 rfl ?_
            refine J_istore (lw := [(8, .int z209), (7, .int z208), (10, .int x10), (6, .ref (X.1 + p6)), (0, .ref (X.1 + 0)), (1, .int p1), (2, .int p2), (3, .int p3), (4, .int p4), (5, .int p5)]) hK dX5_fits_162 (by decide) rfl ?_
            refine J_iinc (lw := [(9, .int x9), (8, .int z209), (7, .int z208), (6, .ref (X.1 + p6)), (0, .ref (X.1 + 0)), (1, .int p1), (2, .int p2), (3, .int p3), (4, .int p4), (5, .int p5)]) hK dX5_fits_164 3 rfl (by decide) ci_1 rfl (fun z211 => ?_)
            refine J_goto (len := 0) (tgt := 97) hK dX5_fits_167 (by decide) ?_
            exact J_sub [0, 1, 2, 3, 4, 5, 6, 7, 8, 9, 10] rfl (ih _ _ _ _ _)
set_option maxHeartbeats 4000000 in
set_option maxRecDepth 4000 in
theorem uX5_fits {l : Launch} {X : WX} {a1 : Int32} {a2 : Int32} {a3 : Int32} {a4 : Int32} {a5 : Int32} {h h' : AH} {v : Int32} (hf : fX5_fits a1 a2 a3 a4 a5 h = some (v, h')) : Does l X 5 yX5_fits cX5_fits 11 (some .int) [.ref (X.1 + 0), .int a1, .int a2, .int a3, .int a4, .int a5] h (eI v) h' := by
  refine Does.of (enc := eI) (o := fX5_fits a1 a2 a3 a4 a5 h) (lv := [(0, .ref (X.1 + 0)), (1, .int a1), (2, .int a2), (3, .int a3), (4, .int a4), (5, .int a5)]) (by decide) (Nat.le_of_ble_eq_true rfl) rfl hf (fun K hl hK => ?_)
  subst hl
  unfold fX5_fits
  refine J_aload_n hK dX5_fits_0 0 rfl ?_
  refine J_iload_n hK dX5_fits_1 1 rfl ?_
  refine J_callVi (q := 0) (As := [.int a1]) (st := []) hK dX5_fits_2 kB_X5_141 kV_X5_noTug kd_0 (by decide) rfl rfl (by decide) rfl rfl (Nat.le_of_ble_eq_true rfl) (fun _ _ hf => uX5_noTug  hf) (fun v2 h1 => ?_)
  refine J_if_ne (tgt := 42) hK dX5_fits_5 (by decide) ?_ ?_
  · refine J_iload_n hK dX5_fits_8 2 rfl ?_
    refine J_callSi (As := [.int a2]) (st := []) hK dX5_fits_9 kB_X5_51 kS_X5_noRow (by decide) rfl rfl (Nat.le_of_ble_eq_true rfl) (fun _ _ hf => uX5_noRow  hf) (fun v4 h3 => ?_)
    refine J_if_ne (tgt := 42) hK dX5_fits_12 (by decide) ?_ ?_
    · refine J_iload hK dX5_fits_15 4 rfl ?_
      refine J_iconst hK dX5_fits_17 ci_1 ?_
      refine J_icmp_lt (tgt := 42) hK dX5_fits_18 (by decide) ?_ ?_
      · refine J_ldc hK dX5_fits_42 kK_X5_55 ?_
        exact J_iret hK dX5_fits_44
      · refine J_iload hK dX5_fits_21 4 rfl ?_
        refine J_bipush hK dX5_fits_23 cb_12 ?_
        refine J_icmp_gt (tgt := 42) hK dX5_fits_25 (by decide) ?_ ?_
        · refine J_ldc hK dX5_fits_42 kK_X5_55 ?_
          exact J_iret hK dX5_fits_44
        · refine J_iload hK dX5_fits_28 5 rfl ?_
          refine J_if_lt (tgt := 42) hK dX5_fits_30 (by decide) ?_ ?_
          · refine J_ldc hK dX5_fits_42 kK_X5_55 ?_
            exact J_iret hK dX5_fits_44
          · refine J_iload hK dX5_fits_33 5 rfl ?_
            refine J_gets 0 (by decide) hK dX5_fits_35 kF_X5_222 ?_
            refine J_slen (v := 5) 0 (by decide) hK dX5_fits_38 (by decide) ?_
            refine J_icmp_lt (tgt := 45) hK dX5_fits_39 (by decide) ?_ ?_
            · refine J_aload_n hK dX5_fits_45 0 rfl ?_
              refine rF_X5_11 (q2 := 1) hK dX5_fits_46 kd_0 rfl ?_
              refine J_iload_n hK dX5_fits_49 2 rfl ?_
              refine J_aaldR hK dX5_fits_50 kd_1 (fun q5 => ?_)
              refine J_astore (lw := [(0, .ref (X.1 + 0)), (1, .int a1), (2, .int a2), (3, .int a3), (4, .int a4), (5, .int a5)]) hK dX5_fits_51 (by decide) rfl ?_
              refine J_aload hK dX5_fits_53 0 rfl ?_
              refine J_callVi (q := (1 + 1 + 2 * Int32.toNatClampNeg a2)) (As := []) (st := []) hK dX5_fits_55 kB_X5_67 kV_X3_missing (kdA_1 q5) (by decide) rfl rfl (by decide) rfl rfl (Nat.le_of_ble_eq_true rfl) (fun _ _ hf => uX3_missing (kdA_1 q5) hf) (fun v7 h6 => ?_)
              refine J_if_eq (tgt := 67) hK dX5_fits_58 (by decide) ?_ ?_
              · refine J_aload hK dX5_fits_67 0 rfl ?_
                refine J_iload_n hK dX5_fits_69 4 rfl ?_
                refine J_iload hK dX5_fits_70 5 rfl ?_
                refine J_callVi (q := (1 + 1 + 2 * Int32.toNatClampNeg a2)) (As := [.int a3, .int a4]) (st := []) hK dX5_fits_72 kB_X5_71 kV_X3_hasRun (kdA_1 q5) (by decide) rfl rfl (by decide) rfl rfl (Nat.le_of_ble_eq_true rfl) (fun _ _ hf => uX3_hasRun (kdA_1 q5) hf) (fun v9 h8 => ?_)
                refine J_if_ne (tgt := 84) hK dX5_fits_75 (by decide) ?_ ?_
                · refine J_aload_n hK dX5_fits_78 1 rfl ?_
                  refine J_iconst hK dX5_fits_79 ci_2 ?_
                  refine J_callVi (q := 0) (As := [.int (2 : Int32)]) (st := []) hK dX5_fits_80 kB_X5_56 kV_X5_found kd_0 (by decide) rfl rfl (by decide) rfl rfl (Nat.le_of_ble_eq_true rfl) (fun _ _ hf => uX5_found  hf) (fun v11 h10 => ?_)
                  exact J_iret hK dX5_fits_83
                · refine J_iconst hK dX5_fits_84 ci_0 ?_
                  refine J_istore (lw := [(6, .ref (X.1 + (1 + 1 + 2 * Int32.toNatClampNeg a2))), (0, .ref (X.1 + 0)), (1, .int a1), (2, .int a2), (3, .int a3), (4, .int a4), (5, .int a5)]) hK dX5_fits_85 (by decide) rfl ?_
                  refine J_iconst hK dX5_fits_87 ci_0 ?_
                  refine J_istore (lw := [(7, .int (0 : Int32)), (6, .ref (X.1 + (1 + 1 + 2 * Int32.toNatClampNeg a2))), (0, .ref (X.1 + 0)), (1, .int a1), (2, .int a2), (3, .int a3), (4, .int a4), (5, .int a5)]) hK dX5_fits_88 (by decide) rfl ?_
                  refine J_ldc hK dX5_fits_90 kK_X5_202 ?_
                  refine J_istore (lw := [(8, .int (0 : Int32)), (7, .int (0 : Int32)), (6, .ref (X.1 + (1 + 1 + 2 * Int32.toNatClampNeg a2))), (0, .ref (X.1 + 0)), (1, .int a1), (2, .int a2), (3, .int a3), (4, .int a4), (5, .int a5)]) hK dX5_fits_92 (by decide) rfl ?_
                  refine J_iconst hK dX5_fits_94 ci_1 ?_
                  refine J_istore (lw := [(9, .int (-1000000 : Int32)), (8, .int (0 : Int32)), (7, .int (0 : Int32)), (6, .ref (X.1 + (1 + 1 + 2 * Int32.toNatClampNeg a2))), (0, .ref (X.1 + 0)), (1, .int a1), (2, .int a2), (3, .int a3), (4, .int a4), (5, .int a5)]) hK dX5_fits_95 (by decide) rfl ?_
                  refine J_sub [0, 1, 2, 3, 4, 5, 6, 7, 8, 9, 10] rfl (gX5_fits_L97 hK (kdA_1 q5) (fun z12 z13 z14 z15 h16 => ?_) FU _ _ _ _ _)
                  refine J_aload_n hK dX5_fits_170 5 rfl ?_
                  refine J_iload hK dX5_fits_171 10 rfl ?_
                  refine J_iconst hK dX5_fits_173 ci_3 ?_
                  refine J_icmp_ne (tgt := 182) hK dX5_fits_174 (by decide) ?_ ?_
                  · refine J_iload hK dX5_fits_177 2 rfl ?_
                    refine J_goto (len := 0) (tgt := 195) hK dX5_fits_179 (by decide) ?_
                    refine J_callVi (q := 0) (As := [.int z14]) (st := []) hK dX5_fits_195 kB_X5_64 kV_X5_well kd_0 (by decide) rfl rfl (by decide) rfl rfl (Nat.le_of_ble_eq_true rfl) (fun _ _ hf => uX5_well  hf) (fun v18 h17 => ?_)
                    exact J_iret hK dX5_fits_198
                  · refine J_iload hK dX5_fits_182 10 rfl ?_
                    refine J_iconst hK dX5_fits_184 ci_4 ?_
                    refine J_icmp_ne (tgt := 193) hK dX5_fits_185 (by decide) ?_ ?_
                    · refine J_iload hK dX5_fits_188 1 rfl ?_
                      refine J_goto (len := 0) (tgt := 195) hK dX5_fits_190 (by decide) ?_
                      refine J_callVi (q := 0) (As := [.int z13]) (st := []) hK dX5_fits_195 kB_X5_64 kV_X5_well kd_0 (by decide) rfl rfl (by decide) rfl rfl (Nat.le_of_ble_eq_true rfl) (fun _ _ hf => uX5_well  hf) (fun v20 h19 => ?_)
                      exact J_iret hK dX5_fits_198
                    · refine J_iload hK dX5_fits_193 3 rfl ?_
                      refine J_callVi (q := 0) (As := [.int z15]) (st := []) hK dX5_fits_195 kB_X5_64 kV_X5_well kd_0 (by decide) rfl rfl (by decide) rfl rfl (Nat.le_of_ble_eq_true rfl) (fun _ _ hf => uX5_well  hf) (fun v22 h21 => ?_)
                      exact J_iret hK dX5_fits_198
              · refine J_aload_n hK dX5_fits_61 1 rfl ?_
                refine J_iconst hK dX5_fits_62 ci_1 ?_
                refine J_callVi (q := 0) (As := [.int (1 : Int32)]) (st := []) hK dX5_fits_63 kB_X5_56 kV_X5_found kd_0 (by decide) rfl rfl (by decide) rfl rfl (Nat.le_of_ble_eq_true rfl) (fun _ _ hf => uX5_found  hf) (fun v24 h23 => ?_)
                exact J_iret hK dX5_fits_66
            · refine J_ldc hK dX5_fits_42 kK_X5_55 ?_
              exact J_iret hK dX5_fits_44
    · refine J_ldc hK dX5_fits_42 kK_X5_55 ?_
      exact J_iret hK dX5_fits_44
  · refine J_ldc hK dX5_fits_42 kK_X5_55 ?_
    exact J_iret hK dX5_fits_44
-- X5_inByCleared
theorem dX5_inByCleared_0 : DD cX5_inByCleared 0 (.aload_n 0) 1 1 := by decide +kernel
theorem dX5_inByCleared_1 : DD cX5_inByCleared 1 (.invokevirtual 185) 3 4 := by decide +kernel
theorem dX5_inByCleared_4 : DD cX5_inByCleared 4 (.astore_n 3) 1 5 := by decide +kernel
theorem dX5_inByCleared_5 : DD cX5_inByCleared 5 (.iconst 0) 1 6 := by decide +kernel
theorem dX5_inByCleared_6 : DD cX5_inByCleared 6 (.istore 4) 2 8 := by decide +kernel
theorem dX5_inByCleared_8 : DD cX5_inByCleared 8 (.iload 4) 2 10 := by decide +kernel
theorem dX5_inByCleared_10 : DD cX5_inByCleared 10 (.aload_n 3) 1 11 := by decide +kernel
theorem dX5_inByCleared_11 : DD cX5_inByCleared 11 (.getfield 273) 3 14 := by decide +kernel
theorem dX5_inByCleared_14 : DD cX5_inByCleared 14 (.if_icmp .ge 27) 3 17 := by decide +kernel
theorem dX5_inByCleared_17 : DD cX5_inByCleared 17 (.iload_n 1) 1 18 := by decide +kernel
theorem dX5_inByCleared_18 : DD cX5_inByCleared 18 (.iload 4) 2 20 := by decide +kernel
theorem dX5_inByCleared_20 : DD cX5_inByCleared 20 (.ishr) 1 21 := by decide +kernel
theorem dX5_inByCleared_21 : DD cX5_inByCleared 21 (.iconst 1) 1 22 := by decide +kernel
theorem dX5_inByCleared_22 : DD cX5_inByCleared 22 (.iand) 1 23 := by decide +kernel
theorem dX5_inByCleared_23 : DD cX5_inByCleared 23 (.iconst 1) 1 24 := by decide +kernel
theorem dX5_inByCleared_24 : DD cX5_inByCleared 24 (.if_icmp .ne 11) 3 27 := by decide +kernel
theorem dX5_inByCleared_27 : DD cX5_inByCleared 27 (.aload_n 3) 1 28 := by decide +kernel
theorem dX5_inByCleared_28 : DD cX5_inByCleared 28 (.getfield 166) 3 31 := by decide +kernel
theorem dX5_inByCleared_31 : DD cX5_inByCleared 31 (.iload 4) 2 33 := by decide +kernel
theorem dX5_inByCleared_33 : DD cX5_inByCleared 33 (.iconst 0) 1 34 := by decide +kernel
theorem dX5_inByCleared_34 : DD cX5_inByCleared 34 (.iastore) 1 35 := by decide +kernel
theorem dX5_inByCleared_35 : DD cX5_inByCleared 35 (.iinc 4 1) 3 38 := by decide +kernel
theorem dX5_inByCleared_38 : DD cX5_inByCleared 38 (.goto (-30)) 3 41 := by decide +kernel
theorem dX5_inByCleared_41 : DD cX5_inByCleared 41 (.aload_n 3) 1 42 := by decide +kernel
theorem dX5_inByCleared_42 : DD cX5_inByCleared 42 (.iload_n 2) 1 43 := by decide +kernel
theorem dX5_inByCleared_43 : DD cX5_inByCleared 43 (.invokestatic 198) 3 46 := by decide +kernel
theorem dX5_inByCleared_46 : DD cX5_inByCleared 46 (.ldc 202) 2 48 := by decide +kernel
theorem dX5_inByCleared_48 : DD cX5_inByCleared 48 (.if_icmp .eq 7) 3 51 := by decide +kernel
theorem dX5_inByCleared_51 : DD cX5_inByCleared 51 (.iconst 1) 1 52 := by decide +kernel
theorem dX5_inByCleared_52 : DD cX5_inByCleared 52 (.goto 4) 3 55 := by decide +kernel
theorem dX5_inByCleared_55 : DD cX5_inByCleared 55 (.iconst 0) 1 56 := by decide +kernel
theorem dX5_inByCleared_56 : DD cX5_inByCleared 56 (.ireturn) 1 57 := by decide +kernel
def fX5_inByCleared_L8 (p3 : Nat) (p1 : Int32) (p2 : Int32) : Nat → Int32 → AH → (Int32 → AH → Option (Int32 × AH)) → Option (Int32 × AH)
  | 0, _, _, _ => none
  | n + 1, x4, h, k => (if x4 < (h p3 1) then (if ((p1 >>> (x4 &&& 31)) &&& (1 : Int32)) = (1 : Int32) then (chk (inb x4 (ln (p3 + 6))) (sto (hs h (p3 + 6) (Int32.toNatClampNeg x4) (0 : Int32)) fun h201 => (vl (x4 + (1 : Int32)) fun z202 => fX5_inByCleared_L8 p3 p1 p2 n z202 h201 k))) else (vl (x4 + (1 : Int32)) fun z203 => fX5_inByCleared_L8 p3 p1 p2 n z203 h k)) else k x4 h)
def fX5_inByCleared (a1 : Int32) (a2 : Int32) (h : AH) : Option (Int32 × AH) := (bnd (fX5_fromNow  h) fun v2 h1 => chk (kd v2 = 2) (fX5_inByCleared_L8 v2 a1 a2 FU (0 : Int32) h1 fun z4 h5 => (bnd (fX5_hoursUntilIn v2 a2 h5) fun v7 h6 => (if v7 = (-1000000 : Int32) then (some ((0 : Int32), h6)) else (some ((1 : Int32), h6))))))
set_option maxHeartbeats 4000000 in
theorem gX5_inByCleared_L8 {K : MC} {X : WX} {p3 : Nat} {p1 : Int32} {p2 : Int32} (hK : Ok K X RX5 cX5_inByCleared 5 (some .boolean) 5) (hp3 : kd p3 = 2) {k : Int32 → AH → Option (Int32 × AH)} (hk : ∀ (x4 : Int32) (h : AH), J K X 5 (Zm K X) eI 41 [(4, .int x4), (3, .ref (X.1 + p3)), (0, .ref (X.1 + 0)), (1, .int p1), (2, .int p2)] [] h (k x4 h)) : ∀ (n : Nat) (x4 : Int32) (h : AH), J K X 5 (Zm K X) eI 8 [(4, .int x4), (3, .ref (X.1 + p3)), (0, .ref (X.1 + 0)), (1, .int p1), (2, .int p2)] [] h (fX5_inByCleared_L8 p3 p1 p2 n x4 h k) := by
  intro n
  induction n with
  | zero => exact fun _ _ => J_none
  | succ n ih =>
    intro x4 h
    rw [fX5_inByCleared_L8]
    refine J_iload hK dX5_inByCleared_8 0 rfl ?_
    refine J_aload_n hK dX5_inByCleared_10 1 rfl ?_
    refine gF_X5_273 hK dX5_inByCleared_11 hp3 ?_
    refine J_icmp_ge (tgt := 41) hK dX5_inByCleared_14 (by decide) ?_ ?_
    · refine J_iload_n hK dX5_inByCleared_17 3 rfl ?_
      refine J_iload hK dX5_inByCleared_18 0 rfl ?_
      refine J_ishr hK dX5_inByCleared_20 ?_
      refine J_iconst hK dX5_inByCleared_21 ci_1 ?_
      refine J_iand hK dX5_inByCleared_22 ?_
      refine J_iconst hK dX5_inByCleared_23 ci_1 ?_
      refine J_icmp_ne (tgt := 35) hK dX5_inByCleared_24 (by decide) ?_ ?_
      · refine J_aload_n hK dX5_inByCleared_27 1 rfl ?_
        refine rF_X5_166 (q2 := (p3 + 6)) hK dX5_inByCleared_28 hp3 rfl ?_
        refine J_iload hK dX5_inByCleared_31 0 rfl ?_
        refine J_iconst hK dX5_inByCleared_33 ci_0 ?_
        refine J_iast hK dX5_inByCleared_34 (kdE_6 hp3) (fun h201 => ?_)
        refine J_iinc (lw := [(3, .ref (X.1 + p3)), (0, .ref (X.1 + 0)), (1, .int p1), (2, .int p2)]) hK dX5_inByCleared_35 0 rfl (by decide) ci_1 rfl (fun z202 => ?_)
        refine J_goto (len := 0) (tgt := 8) hK dX5_inByCleared_38 (by decide) ?_
        exact J_sub [0, 1, 2, 3, 4] rfl (ih _ _)
      · refine J_iinc (lw := [(3, .ref (X.1 + p3)), (0, .ref (X.1 + 0)), (1, .int p1), (2, .int p2)]) hK dX5_inByCleared_35 0 rfl (by decide) ci_1 rfl (fun z203 => ?_)
        refine J_goto (len := 0) (tgt := 8) hK dX5_inByCleared_38 (by decide) ?_
        exact J_sub [0, 1, 2, 3, 4] rfl (ih _ _)
    · exact J_sub [0, 1, 2, 3, 4] rfl (hk _ _)
set_option maxHeartbeats 4000000 in
set_option maxRecDepth 4000 in
theorem uX5_inByCleared {l : Launch} {X : WX} {a1 : Int32} {a2 : Int32} {h h' : AH} {v : Int32} (hf : fX5_inByCleared a1 a2 h = some (v, h')) : Does l X 5 yX5_inByCleared cX5_inByCleared 5 (some .boolean) [.ref (X.1 + 0), .int a1, .int a2] h (eI v) h' := by
  refine Does.of (enc := eI) (o := fX5_inByCleared a1 a2 h) (lv := [(0, .ref (X.1 + 0)), (1, .int a1), (2, .int a2)]) (by decide) (Nat.le_of_ble_eq_true rfl) rfl hf (fun K hl hK => ?_)
  subst hl
  unfold fX5_inByCleared
  refine J_aload_n hK dX5_inByCleared_0 0 rfl ?_
  refine J_callVr (q := 0) (As := []) (st := []) hK dX5_inByCleared_1 kB_X5_185 kV_X5_fromNow kd_0 (by decide) rfl rfl (by decide) rfl rfl (Nat.le_of_ble_eq_true rfl) (fun _ _ hf => uX5_fromNow  hf) (fun v2 h1 => ?_)
  refine J_chk (fun q3 => ?_)
  refine J_astore_n (n := 3) (lw := [(0, .ref (X.1 + 0)), (1, .int a1), (2, .int a2)]) hK dX5_inByCleared_4 rfl (by decide) rfl ?_
  refine J_iconst hK dX5_inByCleared_5 ci_0 ?_
  refine J_istore (lw := [(3, .ref (X.1 + v2)), (0, .ref (X.1 + 0)), (1, .int a1), (2, .int a2)]) hK dX5_inByCleared_6 (by decide) rfl ?_
  refine J_sub [0, 1, 2, 3, 4] rfl (gX5_inByCleared_L8 hK q3 (fun z4 h5 => ?_) FU _ _)
  refine J_aload_n hK dX5_inByCleared_41 1 rfl ?_
  refine J_iload_n hK dX5_inByCleared_42 4 rfl ?_
  refine J_callSi (As := [.ref (X.1 + v2), .int a2]) (st := []) hK dX5_inByCleared_43 kB_X5_198 kS_X5_hoursUntilIn (by decide) rfl rfl (Nat.le_of_ble_eq_true rfl) (fun _ _ hf => uX5_hoursUntilIn q3 hf) (fun v7 h6 => ?_)
  refine J_ldc hK dX5_inByCleared_46 kK_X5_202 ?_
  refine J_icmp_eq (tgt := 55) hK dX5_inByCleared_48 (by decide) ?_ ?_
  · refine J_iconst hK dX5_inByCleared_55 ci_0 ?_
    exact J_zret0 hK dX5_inByCleared_56
  · refine J_iconst hK dX5_inByCleared_51 ci_1 ?_
    refine J_goto (len := 0) (tgt := 56) hK dX5_inByCleared_52 (by decide) ?_
    exact J_zret1 hK dX5_inByCleared_56
-- X5_inByCrew
theorem dX5_inByCrew_0 : DD cX5_inByCrew 0 (.aload_n 0) 1 1 := by decide +kernel
theorem dX5_inByCrew_1 : DD cX5_inByCrew 1 (.invokevirtual 185) 3 4 := by decide +kernel
theorem dX5_inByCrew_4 : DD cX5_inByCrew 4 (.astore_n 3) 1 5 := by decide +kernel
theorem dX5_inByCrew_5 : DD cX5_inByCrew 5 (.iconst 0) 1 6 := by decide +kernel
theorem dX5_inByCrew_6 : DD cX5_inByCrew 6 (.istore 4) 2 8 := by decide +kernel
theorem dX5_inByCrew_8 : DD cX5_inByCrew 8 (.iload 4) 2 10 := by decide +kernel
theorem dX5_inByCrew_10 : DD cX5_inByCrew 10 (.aload_n 3) 1 11 := by decide +kernel
theorem dX5_inByCrew_11 : DD cX5_inByCrew 11 (.getfield 118) 3 14 := by decide +kernel
theorem dX5_inByCrew_14 : DD cX5_inByCrew 14 (.if_icmp .ge 24) 3 17 := by decide +kernel
theorem dX5_inByCrew_17 : DD cX5_inByCrew 17 (.iload_n 1) 1 18 := by decide +kernel
theorem dX5_inByCrew_18 : DD cX5_inByCrew 18 (.iload 4) 2 20 := by decide +kernel
theorem dX5_inByCrew_20 : DD cX5_inByCrew 20 (.ishr) 1 21 := by decide +kernel
theorem dX5_inByCrew_21 : DD cX5_inByCrew 21 (.iconst 1) 1 22 := by decide +kernel
theorem dX5_inByCrew_22 : DD cX5_inByCrew 22 (.iand) 1 23 := by decide +kernel
theorem dX5_inByCrew_23 : DD cX5_inByCrew 23 (.ifCond .ne 9) 3 26 := by decide +kernel
theorem dX5_inByCrew_26 : DD cX5_inByCrew 26 (.aload_n 3) 1 27 := by decide +kernel
theorem dX5_inByCrew_27 : DD cX5_inByCrew 27 (.iload 4) 2 29 := by decide +kernel
theorem dX5_inByCrew_29 : DD cX5_inByCrew 29 (.invokevirtual 157) 3 32 := by decide +kernel
theorem dX5_inByCrew_32 : DD cX5_inByCrew 32 (.iinc 4 1) 3 35 := by decide +kernel
theorem dX5_inByCrew_35 : DD cX5_inByCrew 35 (.goto (-27)) 3 38 := by decide +kernel
theorem dX5_inByCrew_38 : DD cX5_inByCrew 38 (.aload_n 3) 1 39 := by decide +kernel
theorem dX5_inByCrew_39 : DD cX5_inByCrew 39 (.iload_n 2) 1 40 := by decide +kernel
theorem dX5_inByCrew_40 : DD cX5_inByCrew 40 (.invokestatic 198) 3 43 := by decide +kernel
theorem dX5_inByCrew_43 : DD cX5_inByCrew 43 (.ldc 202) 2 45 := by decide +kernel
theorem dX5_inByCrew_45 : DD cX5_inByCrew 45 (.if_icmp .eq 7) 3 48 := by decide +kernel
theorem dX5_inByCrew_48 : DD cX5_inByCrew 48 (.iconst 1) 1 49 := by decide +kernel
theorem dX5_inByCrew_49 : DD cX5_inByCrew 49 (.goto 4) 3 52 := by decide +kernel
theorem dX5_inByCrew_52 : DD cX5_inByCrew 52 (.iconst 0) 1 53 := by decide +kernel
theorem dX5_inByCrew_53 : DD cX5_inByCrew 53 (.ireturn) 1 54 := by decide +kernel
def fX5_inByCrew_L8 (p3 : Nat) (p1 : Int32) (p2 : Int32) : Nat → Int32 → AH → (Int32 → AH → Option (Int32 × AH)) → Option (Int32 × AH)
  | 0, _, _, _ => none
  | n + 1, x4, h, k => (if x4 < (h p3 0) then (if ((p1 >>> (x4 &&& 31)) &&& (1 : Int32)) = 0 then (bnd (fX2_letGo p3 x4 h) fun _ h201 => (vl (x4 + (1 : Int32)) fun z202 => fX5_inByCrew_L8 p3 p1 p2 n z202 h201 k)) else (vl (x4 + (1 : Int32)) fun z203 => fX5_inByCrew_L8 p3 p1 p2 n z203 h k)) else k x4 h)
def fX5_inByCrew (a1 : Int32) (a2 : Int32) (h : AH) : Option (Int32 × AH) := (bnd (fX5_fromNow  h) fun v2 h1 => chk (kd v2 = 2) (fX5_inByCrew_L8 v2 a1 a2 FU (0 : Int32) h1 fun z4 h5 => (bnd (fX5_hoursUntilIn v2 a2 h5) fun v7 h6 => (if v7 = (-1000000 : Int32) then (some ((0 : Int32), h6)) else (some ((1 : Int32), h6))))))
set_option maxHeartbeats 4000000 in
theorem gX5_inByCrew_L8 {K : MC} {X : WX} {p3 : Nat} {p1 : Int32} {p2 : Int32} (hK : Ok K X RX5 cX5_inByCrew 5 (some .boolean) 5) (hp3 : kd p3 = 2) {k : Int32 → AH → Option (Int32 × AH)} (hk : ∀ (x4 : Int32) (h : AH), J K X 5 (Zm K X) eI 38 [(4, .int x4), (3, .ref (X.1 + p3)), (0, .ref (X.1 + 0)), (1, .int p1), (2, .int p2)] [] h (k x4 h)) : ∀ (n : Nat) (x4 : Int32) (h : AH), J K X 5 (Zm K X) eI 8 [(4, .int x4), (3, .ref (X.1 + p3)), (0, .ref (X.1 + 0)), (1, .int p1), (2, .int p2)] [] h (fX5_inByCrew_L8 p3 p1 p2 n x4 h k) := by
  intro n
  induction n with
  | zero => exact fun _ _ => J_none
  | succ n ih =>
    intro x4 h
    rw [fX5_inByCrew_L8]
    refine J_iload hK dX5_inByCrew_8 0 rfl ?_
    refine J_aload_n hK dX5_inByCrew_10 1 rfl ?_
    refine gF_X5_118 hK dX5_inByCrew_11 hp3 ?_
    refine J_icmp_ge (tgt := 38) hK dX5_inByCrew_14 (by decide) ?_ ?_
    · refine J_iload_n hK dX5_inByCrew_17 3 rfl ?_
      refine J_iload hK dX5_inByCrew_18 0 rfl ?_
      refine J_ishr hK dX5_inByCrew_20 ?_
      refine J_iconst hK dX5_inByCrew_21 ci_1 ?_
      refine J_iand hK dX5_inByCrew_22 ?_
      refine J_if_ne (tgt := 32) hK dX5_inByCrew_23 (by decide) ?_ ?_
      · refine J_aload_n hK dX5_inByCrew_26 1 rfl ?_
        refine J_iload hK dX5_inByCrew_27 0 rfl ?_
        refine J_callVv (q := p3) (As := [.int x4]) (st := []) hK dX5_inByCrew_29 kB_X5_157 kV_X2_letGo hp3 (by decide) rfl rfl (by decide) rfl rfl (Nat.le_of_ble_eq_true rfl) (fun _ _ hf => uX2_letGo hp3 hf) (fun _ h201 => ?_)
        refine J_iinc (lw := [(3, .ref (X.1 + p3)), (0, .ref (X.1 + 0)), (1, .int p1), (2, .int p2)]) hK dX5_inByCrew_32 0 rfl (by decide) ci_1 rfl (fun z202 => ?_)
        refine J_goto (len := 0) (tgt := 8) hK dX5_inByCrew_35 (by decide) ?_
        exact J_sub [0, 1, 2, 3, 4] rfl (ih _ _)
      · refine J_iinc (lw := [(3, .ref (X.1 + p3)), (0, .ref (X.1 + 0)), (1, .int p1), (2, .int p2)]) hK dX5_inByCrew_32 0 rfl (by decide) ci_1 rfl (fun z203 => ?_)
        refine J_goto (len := 0) (tgt := 8) hK dX5_inByCrew_35 (by decide) ?_
        exact J_sub [0, 1, 2, 3, 4] rfl (ih _ _)
    · exact J_sub [0, 1, 2, 3, 4] rfl (hk _ _)
set_option maxHeartbeats 4000000 in
set_option maxRecDepth 4000 in
theorem uX5_inByCrew {l : Launch} {X : WX} {a1 : Int32} {a2 : Int32} {h h' : AH} {v : Int32} (hf : fX5_inByCrew a1 a2 h = some (v, h')) : Does l X 5 yX5_inByCrew cX5_inByCrew 5 (some .boolean) [.ref (X.1 + 0), .int a1, .int a2] h (eI v) h' := by
  refine Does.of (enc := eI) (o := fX5_inByCrew a1 a2 h) (lv := [(0, .ref (X.1 + 0)), (1, .int a1), (2, .int a2)]) (by decide) (Nat.le_of_ble_eq_true rfl) rfl hf (fun K hl hK => ?_)
  subst hl
  unfold fX5_inByCrew
  refine J_aload_n hK dX5_inByCrew_0 0 rfl ?_
  refine J_callVr (q := 0) (As := []) (st := []) hK dX5_inByCrew_1 kB_X5_185 kV_X5_fromNow kd_0 (by decide) rfl rfl (by decide) rfl rfl (Nat.le_of_ble_eq_true rfl) (fun _ _ hf => uX5_fromNow  hf) (fun v2 h1 => ?_)
  refine J_chk (fun q3 => ?_)
  refine J_astore_n (n := 3) (lw := [(0, .ref (X.1 + 0)), (1, .int a1), (2, .int a2)]) hK dX5_inByCrew_4 rfl (by decide) rfl ?_
  refine J_iconst hK dX5_inByCrew_5 ci_0 ?_
  refine J_istore (lw := [(3, .ref (X.1 + v2)), (0, .ref (X.1 + 0)), (1, .int a1), (2, .int a2)]) hK dX5_inByCrew_6 (by decide) rfl ?_
  refine J_sub [0, 1, 2, 3, 4] rfl (gX5_inByCrew_L8 hK q3 (fun z4 h5 => ?_) FU _ _)
  refine J_aload_n hK dX5_inByCrew_38 1 rfl ?_
  refine J_iload_n hK dX5_inByCrew_39 4 rfl ?_
  refine J_callSi (As := [.ref (X.1 + v2), .int a2]) (st := []) hK dX5_inByCrew_40 kB_X5_198 kS_X5_hoursUntilIn (by decide) rfl rfl (Nat.le_of_ble_eq_true rfl) (fun _ _ hf => uX5_hoursUntilIn q3 hf) (fun v7 h6 => ?_)
  refine J_ldc hK dX5_inByCrew_43 kK_X5_202 ?_
  refine J_icmp_eq (tgt := 52) hK dX5_inByCrew_45 (by decide) ?_ ?_
  · refine J_iconst hK dX5_inByCrew_52 ci_0 ?_
    exact J_zret0 hK dX5_inByCrew_53
  · refine J_iconst hK dX5_inByCrew_48 ci_1 ?_
    refine J_goto (len := 0) (tgt := 53) hK dX5_inByCrew_49 (by decide) ?_
    exact J_zret1 hK dX5_inByCrew_53
-- X5_least
theorem dX5_least_0 : DD cX5_least 0 (.aload_n 0) 1 1 := by decide +kernel
theorem dX5_least_1 : DD cX5_least 1 (.iload_n 1) 1 2 := by decide +kernel
theorem dX5_least_2 : DD cX5_least 2 (.invokevirtual 141) 3 5 := by decide +kernel
theorem dX5_least_5 : DD cX5_least 5 (.ifCond .ne 14) 3 8 := by decide +kernel
theorem dX5_least_8 : DD cX5_least 8 (.iload_n 2) 1 9 := by decide +kernel
theorem dX5_least_9 : DD cX5_least 9 (.iconst 1) 1 10 := by decide +kernel
theorem dX5_least_10 : DD cX5_least 10 (.if_icmp .lt 9) 3 13 := by decide +kernel
theorem dX5_least_13 : DD cX5_least 13 (.iload_n 2) 1 14 := by decide +kernel
theorem dX5_least_14 : DD cX5_least 14 (.bipush 30) 2 16 := by decide +kernel
theorem dX5_least_16 : DD cX5_least 16 (.if_icmp .le 6) 3 19 := by decide +kernel
theorem dX5_least_19 : DD cX5_least 19 (.ldc 55) 2 21 := by decide +kernel
theorem dX5_least_21 : DD cX5_least 21 (.ireturn) 1 22 := by decide +kernel
theorem dX5_least_22 : DD cX5_least 22 (.iconst 1) 1 23 := by decide +kernel
theorem dX5_least_23 : DD cX5_least 23 (.istore_n 3) 1 24 := by decide +kernel
theorem dX5_least_24 : DD cX5_least 24 (.iload_n 3) 1 25 := by decide +kernel
theorem dX5_least_25 : DD cX5_least 25 (.bipush 20) 2 27 := by decide +kernel
theorem dX5_least_27 : DD cX5_least 27 (.if_icmp .gt 36) 3 30 := by decide +kernel
theorem dX5_least_30 : DD cX5_least 30 (.aload_n 0) 1 31 := by decide +kernel
theorem dX5_least_31 : DD cX5_least 31 (.invokevirtual 185) 3 34 := by decide +kernel
theorem dX5_least_34 : DD cX5_least 34 (.astore 4) 2 36 := by decide +kernel
theorem dX5_least_36 : DD cX5_least 36 (.aload 4) 2 38 := by decide +kernel
theorem dX5_least_38 : DD cX5_least 38 (.getfield 160) 3 41 := by decide +kernel
theorem dX5_least_41 : DD cX5_least 41 (.iload_n 1) 1 42 := by decide +kernel
theorem dX5_least_42 : DD cX5_least 42 (.iload_n 3) 1 43 := by decide +kernel
theorem dX5_least_43 : DD cX5_least 43 (.iastore) 1 44 := by decide +kernel
theorem dX5_least_44 : DD cX5_least 44 (.aload 4) 2 46 := by decide +kernel
theorem dX5_least_46 : DD cX5_least 46 (.iload_n 2) 1 47 := by decide +kernel
theorem dX5_least_47 : DD cX5_least 47 (.invokestatic 198) 3 50 := by decide +kernel
theorem dX5_least_50 : DD cX5_least 50 (.ldc 202) 2 52 := by decide +kernel
theorem dX5_least_52 : DD cX5_least 52 (.if_icmp .eq 5) 3 55 := by decide +kernel
theorem dX5_least_55 : DD cX5_least 55 (.iload_n 3) 1 56 := by decide +kernel
theorem dX5_least_56 : DD cX5_least 56 (.ireturn) 1 57 := by decide +kernel
theorem dX5_least_57 : DD cX5_least 57 (.iinc 3 1) 3 60 := by decide +kernel
theorem dX5_least_60 : DD cX5_least 60 (.goto (-36)) 3 63 := by decide +kernel
theorem dX5_least_63 : DD cX5_least 63 (.ldc 202) 2 65 := by decide +kernel
theorem dX5_least_65 : DD cX5_least 65 (.ireturn) 1 66 := by decide +kernel
def fX5_least_L24 (p1 : Int32) (p2 : Int32) : Nat → Int32 → AH → (Int32 → AH → Option (Int32 × AH)) → Option (Int32 × AH)
  | 0, _, _, _ => none
  | n + 1, x3, h, k => (if (20 : Int32) < x3 then k x3 h else (bnd (fX5_fromNow  h) fun v202 h201 => chk (kd v202 = 2) (chk (inb p1 (ln (v202 + 2))) (sto (hs h201 (v202 + 2) (Int32.toNatClampNeg p1) x3) fun h204 => (bnd (fX5_hoursUntilIn v202 p2 h204) fun v206 h205 => (if v206 = (-1000000 : Int32) then (vl (x3 + (1 : Int32)) fun z207 => fX5_least_L24 p1 p2 n z207 h205 k) else (some (x3, h205))))))))
def fX5_least (a1 : Int32) (a2 : Int32) (h : AH) : Option (Int32 × AH) := (bnd (fX5_noTug a1 h) fun v2 h1 => (if v2 = 0 then (if a2 < (1 : Int32) then (some ((-1000001 : Int32), h1)) else (if (30 : Int32) < a2 then (some ((-1000001 : Int32), h1)) else (fX5_least_L24 a1 a2 FU (1 : Int32) h1 fun z3 h4 => (some ((-1000000 : Int32), h4))))) else (some ((-1000001 : Int32), h1))))
set_option maxHeartbeats 4000000 in
theorem gX5_least_L24 {K : MC} {X : WX} {p1 : Int32} {p2 : Int32} (hK : Ok K X RX5 cX5_least 5 (some .int) 5) {k : Int32 → AH → Option (Int32 × AH)} (hk : ∀ (x3 : Int32) (h : AH), J K X 5 (Zm K X) eI 63 [(3, .int x3), (0, .ref (X.1 + 0)), (1, .int p1), (2, .int p2)] [] h (k x3 h)) : ∀ (n : Nat) (x3 : Int32) (h : AH), J K X 5 (Zm K X) eI 24 [(3, .int x3), (0, .ref (X.1 + 0)), (1, .int p1), (2, .int p2)] [] h (fX5_least_L24 p1 p2 n x3 h k) := by
  intro n
  induction n with
  | zero => exact fun _ _ => J_none
  | succ n ih =>
    intro x3 h
    rw [fX5_least_L24]
    refine J_iload_n hK dX5_least_24 0 rfl ?_
    refine J_bipush hK dX5_least_25 cb_20 ?_
    refine J_icmp_gt (tgt := 63) hK dX5_least_27 (by decide) ?_ ?_
    · exact J_sub [0, 1, 2, 3] rfl (hk _ _)
    · refine J_aload_n hK dX5_least_30 1 rfl ?_
      refine J_callVr (q := 0) (As := []) (st := []) hK dX5_least_31 kB_X5_185 kV_X5_fromNow kd_0 (by decide) rfl rfl (by decide) rfl rfl (Nat.le_of_ble_eq_true rfl) (fun _ _ hf => uX5_fromNow  hf) (fun v202 h201 => ?_)
      refine J_chk (fun q203 => ?_)
      refine J_astore (lw := [(3, .int x3), (0, .ref (X.1 + 0)), (1, .int p1), (2, .int p2)]) hK dX5_least_34 (by decide) rfl ?_
      refine J_aload hK dX5_least_36 0 rfl ?_
      refine rF_X5_160 (q2 := (v202 + 2)) hK dX5_least_38 q203 rfl ?_
      refine J_iload_n hK dX5_least_41 3 rfl ?_
      refine J_iload_n hK dX5_least_42 1 rfl ?_
      refine J_iast hK dX5_least_43 (kdE_2 q203) (fun h204 => ?_)
      refine J_aload hK dX5_least_44 0 rfl ?_
      refine J_iload_n hK dX5_least_46 4 rfl ?_
      refine J_callSi (As := [.ref (X.1 + v202), .int p2]) (st := []) hK dX5_least_47 kB_X5_198 kS_X5_hoursUntilIn (by decide) rfl rfl (Nat.le_of_ble_eq_true rfl) (fun _ _ hf => uX5_hoursUntilIn q203 hf) (fun v206 h205 => ?_)
      refine J_ldc hK dX5_least_50 kK_X5_202 ?_
      refine J_icmp_eq (tgt := 57) hK dX5_least_52 (by decide) ?_ ?_
      · refine J_iinc (lw := [(4, .ref (X.1 + v202)), (0, .ref (X.1 + 0)), (1, .int p1), (2, .int p2)]) hK dX5_least_57 1 rfl (by decide) ci_1 rfl (fun z207 => ?_)
        refine J_goto (len := 0) (tgt := 24) hK dX5_least_60 (by decide) ?_
        exact J_sub [0, 2, 3, 4] rfl (ih _ _)
      · refine J_iload_n hK dX5_least_55 1 rfl ?_
        exact J_iret hK dX5_least_56
set_option maxHeartbeats 4000000 in
set_option maxRecDepth 4000 in
theorem uX5_least {l : Launch} {X : WX} {a1 : Int32} {a2 : Int32} {h h' : AH} {v : Int32} (hf : fX5_least a1 a2 h = some (v, h')) : Does l X 5 yX5_least cX5_least 5 (some .int) [.ref (X.1 + 0), .int a1, .int a2] h (eI v) h' := by
  refine Does.of (enc := eI) (o := fX5_least a1 a2 h) (lv := [(0, .ref (X.1 + 0)), (1, .int a1), (2, .int a2)]) (by decide) (Nat.le_of_ble_eq_true rfl) rfl hf (fun K hl hK => ?_)
  subst hl
  unfold fX5_least
  refine J_aload_n hK dX5_least_0 0 rfl ?_
  refine J_iload_n hK dX5_least_1 1 rfl ?_
  refine J_callVi (q := 0) (As := [.int a1]) (st := []) hK dX5_least_2 kB_X5_141 kV_X5_noTug kd_0 (by decide) rfl rfl (by decide) rfl rfl (Nat.le_of_ble_eq_true rfl) (fun _ _ hf => uX5_noTug  hf) (fun v2 h1 => ?_)
  refine J_if_ne (tgt := 19) hK dX5_least_5 (by decide) ?_ ?_
  · refine J_iload_n hK dX5_least_8 2 rfl ?_
    refine J_iconst hK dX5_least_9 ci_1 ?_
    refine J_icmp_lt (tgt := 19) hK dX5_least_10 (by decide) ?_ ?_
    · refine J_ldc hK dX5_least_19 kK_X5_55 ?_
      exact J_iret hK dX5_least_21
    · refine J_iload_n hK dX5_least_13 2 rfl ?_
      refine J_bipush hK dX5_least_14 cb_30 ?_
      refine J_icmp_le (tgt := 22) hK dX5_least_16 (by decide) ?_ ?_
      · refine J_ldc hK dX5_least_19 kK_X5_55 ?_
        exact J_iret hK dX5_least_21
      · refine J_iconst hK dX5_least_22 ci_1 ?_
        refine J_istore_n (n := 3) (lw := [(0, .ref (X.1 + 0)), (1, .int a1), (2, .int a2)]) hK dX5_least_23 rfl (by decide) rfl ?_
        refine J_sub [0, 1, 2, 3] rfl (gX5_least_L24 hK  (fun z3 h4 => ?_) FU _ _)
        refine J_ldc hK dX5_least_63 kK_X5_202 ?_
        exact J_iret hK dX5_least_65
  · refine J_ldc hK dX5_least_19 kK_X5_55 ?_
    exact J_iret hK dX5_least_21
-- X5_cleared
theorem dX5_cleared_0 : DD cX5_cleared 0 (.aload_n 0) 1 1 := by decide +kernel
theorem dX5_cleared_1 : DD cX5_cleared 1 (.invokevirtual 124) 3 4 := by decide +kernel
theorem dX5_cleared_4 : DD cX5_cleared 4 (.ifCond .eq 6) 3 7 := by decide +kernel
theorem dX5_cleared_7 : DD cX5_cleared 7 (.ldc 127) 2 9 := by decide +kernel
theorem dX5_cleared_9 : DD cX5_cleared 9 (.ireturn) 1 10 := by decide +kernel
theorem dX5_cleared_10 : DD cX5_cleared 10 (.iload_n 1) 1 11 := by decide +kernel
theorem dX5_cleared_11 : DD cX5_cleared 11 (.iconst 1) 1 12 := by decide +kernel
theorem dX5_cleared_12 : DD cX5_cleared 12 (.if_icmp .lt 16) 3 15 := by decide +kernel
theorem dX5_cleared_15 : DD cX5_cleared 15 (.iload_n 1) 1 16 := by decide +kernel
theorem dX5_cleared_16 : DD cX5_cleared 16 (.bipush 30) 2 18 := by decide +kernel
theorem dX5_cleared_18 : DD cX5_cleared 18 (.if_icmp .gt 10) 3 21 := by decide +kernel
theorem dX5_cleared_21 : DD cX5_cleared 21 (.iload_n 2) 1 22 := by decide +kernel
theorem dX5_cleared_22 : DD cX5_cleared 22 (.invokestatic 203) 3 25 := by decide +kernel
theorem dX5_cleared_25 : DD cX5_cleared 25 (.ifCond .eq 6) 3 28 := by decide +kernel
theorem dX5_cleared_28 : DD cX5_cleared 28 (.ldc 55) 2 30 := by decide +kernel
theorem dX5_cleared_30 : DD cX5_cleared 30 (.ireturn) 1 31 := by decide +kernel
theorem dX5_cleared_31 : DD cX5_cleared 31 (.aload_n 0) 1 32 := by decide +kernel
theorem dX5_cleared_32 : DD cX5_cleared 32 (.getfield 26) 3 35 := by decide +kernel
theorem dX5_cleared_35 : DD cX5_cleared 35 (.invokevirtual 195) 3 38 := by decide +kernel
theorem dX5_cleared_38 : DD cX5_cleared 38 (.istore_n 3) 1 39 := by decide +kernel
theorem dX5_cleared_39 : DD cX5_cleared 39 (.ldc 202) 2 41 := by decide +kernel
theorem dX5_cleared_41 : DD cX5_cleared 41 (.istore 4) 2 43 := by decide +kernel
theorem dX5_cleared_43 : DD cX5_cleared 43 (.iconst 0) 1 44 := by decide +kernel
theorem dX5_cleared_44 : DD cX5_cleared 44 (.istore 5) 2 46 := by decide +kernel
theorem dX5_cleared_46 : DD cX5_cleared 46 (.iload 5) 2 48 := by decide +kernel
theorem dX5_cleared_48 : DD cX5_cleared 48 (.bipush 16) 2 50 := by decide +kernel
theorem dX5_cleared_50 : DD cX5_cleared 50 (.if_icmp .ge 42) 3 53 := by decide +kernel
theorem dX5_cleared_53 : DD cX5_cleared 53 (.iload 5) 2 55 := by decide +kernel
theorem dX5_cleared_55 : DD cX5_cleared 55 (.iload_n 3) 1 56 := by decide +kernel
theorem dX5_cleared_56 : DD cX5_cleared 56 (.iconst (-1)) 1 57 := by decide +kernel
theorem dX5_cleared_57 : DD cX5_cleared 57 (.ixor) 1 58 := by decide +kernel
theorem dX5_cleared_58 : DD cX5_cleared 58 (.iand) 1 59 := by decide +kernel
theorem dX5_cleared_59 : DD cX5_cleared 59 (.ifCond .ne 27) 3 62 := by decide +kernel
theorem dX5_cleared_62 : DD cX5_cleared 62 (.iload 5) 2 64 := by decide +kernel
theorem dX5_cleared_64 : DD cX5_cleared 64 (.iload 4) 2 66 := by decide +kernel
theorem dX5_cleared_66 : DD cX5_cleared 66 (.invokestatic 206) 3 69 := by decide +kernel
theorem dX5_cleared_69 : DD cX5_cleared 69 (.ifCond .eq 17) 3 72 := by decide +kernel
theorem dX5_cleared_72 : DD cX5_cleared 72 (.aload_n 0) 1 73 := by decide +kernel
theorem dX5_cleared_73 : DD cX5_cleared 73 (.iload 5) 2 75 := by decide +kernel
theorem dX5_cleared_75 : DD cX5_cleared 75 (.iload_n 1) 1 76 := by decide +kernel
theorem dX5_cleared_76 : DD cX5_cleared 76 (.invokevirtual 216) 3 79 := by decide +kernel
theorem dX5_cleared_79 : DD cX5_cleared 79 (.ifCond .eq 7) 3 82 := by decide +kernel
theorem dX5_cleared_82 : DD cX5_cleared 82 (.iload 5) 2 84 := by decide +kernel
theorem dX5_cleared_84 : DD cX5_cleared 84 (.istore 4) 2 86 := by decide +kernel
theorem dX5_cleared_86 : DD cX5_cleared 86 (.iinc 5 1) 3 89 := by decide +kernel
theorem dX5_cleared_89 : DD cX5_cleared 89 (.goto (-43)) 3 92 := by decide +kernel
theorem dX5_cleared_92 : DD cX5_cleared 92 (.iload 4) 2 94 := by decide +kernel
theorem dX5_cleared_94 : DD cX5_cleared 94 (.iload_n 2) 1 95 := by decide +kernel
theorem dX5_cleared_95 : DD cX5_cleared 95 (.invokestatic 212) 3 98 := by decide +kernel
theorem dX5_cleared_98 : DD cX5_cleared 98 (.ireturn) 1 99 := by decide +kernel
def fX5_cleared_L46 (p3 : Int32) (p1 : Int32) (p2 : Int32) : Nat → Int32 → Int32 → AH → (Int32 → Int32 → AH → Option (Int32 × AH)) → Option (Int32 × AH)
  | 0, _, _, _, _ => none
  | n + 1, x5, x4, h, k => (if x5 < (16 : Int32) then (if (x5 &&& (p3 ^^^ (-1 : Int32))) = 0 then (bnd (fX5_fewer x5 x4 h) fun v202 h201 => (if v202 = 0 then (vl (x5 + (1 : Int32)) fun z203 => fX5_cleared_L46 p3 p1 p2 n z203 x4 h201 k) else (bnd (fX5_inByCleared x5 p1 h201) fun v205 h204 => (if v205 = 0 then (vl (x5 + (1 : Int32)) fun z206 => fX5_cleared_L46 p3 p1 p2 n z206 x4 h204 k) else (vl (x5 + (1 : Int32)) fun z207 => fX5_cleared_L46 p3 p1 p2 n z207 x5 h204 k))))) else (vl (x5 + (1 : Int32)) fun z208 => fX5_cleared_L46 p3 p1 p2 n z208 x4 h k)) else k x5 x4 h)
def fX5_cleared (a1 : Int32) (a2 : Int32) (h : AH) : Option (Int32 × AH) := (bnd (fX5_noEstuary  h) fun v2 h1 => (if v2 = 0 then (if a1 < (1 : Int32) then (some ((-1000001 : Int32), h1)) else (if (30 : Int32) < a1 then (some ((-1000001 : Int32), h1)) else (bnd (fX5_noHalf a2 h1) fun v4 h3 => (if v4 = 0 then (bnd (fX2_standing 20 h3) fun v6 h5 => (fX5_cleared_L46 v6 a1 a2 FU (0 : Int32) (-1000000 : Int32) h5 fun z7 z8 h9 => (bnd (fX5_sizeOrSet z8 a2 h9) fun v11 h10 => (some (v11, h10))))) else (some ((-1000001 : Int32), h3)))))) else (some ((-1000002 : Int32), h1))))
set_option maxHeartbeats 4000000 in
theorem gX5_cleared_L46 {K : MC} {X : WX} {p3 : Int32} {p1 : Int32} {p2 : Int32} (hK : Ok K X RX5 cX5_cleared 6 (some .int) 6) {k : Int32 → Int32 → AH → Option (Int32 × AH)} (hk : ∀ (x5 : Int32) (x4 : Int32) (h : AH), J K X 6 (Zm K X) eI 92 [(5, .int x5), (4, .int x4), (3, .int p3), (0, .ref (X.1 + 0)), (1, .int p1), (2, .int p2)] [] h (k x5 x4 h)) : ∀ (n : Nat) (x5 : Int32) (x4 : Int32) (h : AH), J K X 6 (Zm K X) eI 46 [(5, .int x5), (4, .int x4), (3, .int p3), (0, .ref (X.1 + 0)), (1, .int p1), (2, .int p2)] [] h (fX5_cleared_L46 p3 p1 p2 n x5 x4 h k) := by
  intro n
  induction n with
  | zero => exact fun _ _ _ => J_none
  | succ n ih =>
    intro x5 x4 h
    rw [fX5_cleared_L46]
    refine J_iload hK dX5_cleared_46 0 rfl ?_
    refine J_bipush hK dX5_cleared_48 cb_16 ?_
    refine J_icmp_ge (tgt := 92) hK dX5_cleared_50 (by decide) ?_ ?_
    · refine J_iload hK dX5_cleared_53 0 rfl ?_
      refine J_iload_n hK dX5_cleared_55 2 rfl ?_
      refine J_iconst hK dX5_cleared_56 ci_m1 ?_
      refine J_ixor hK dX5_cleared_57 ?_
      refine J_iand hK dX5_cleared_58 ?_
      refine J_if_ne (tgt := 86) hK dX5_cleared_59 (by decide) ?_ ?_
      · refine J_iload hK dX5_cleared_62 0 rfl ?_
        refine J_iload hK dX5_cleared_64 1 rfl ?_
        refine J_callSi (As := [.int x5, .int x4]) (st := []) hK dX5_cleared_66 kB_X5_206 kS_X5_fewer (by decide) rfl rfl (Nat.le_of_ble_eq_true rfl) (fun _ _ hf => uX5_fewer  hf) (fun v202 h201 => ?_)
        refine J_if_eq (tgt := 86) hK dX5_cleared_69 (by decide) ?_ ?_
        · refine J_iinc (lw := [(4, .int x4), (3, .int p3), (0, .ref (X.1 + 0)), (1, .int p1), (2, .int p2)]) hK dX5_cleared_86 0 rfl (by decide) ci_1 rfl (fun z203 => ?_)
          refine J_goto (len := 0) (tgt := 46) hK dX5_cleared_89 (by decide) ?_
          exact J_sub [0, 1, 2, 3, 4, 5] rfl (ih _ _ _)
        · refine J_aload_n hK dX5_cleared_72 3 rfl ?_
          refine J_iload hK dX5_cleared_73 0 rfl ?_
          refine J_iload_n hK dX5_cleared_75 4 rfl ?_
          refine J_callVi (q := 0) (As := [.int x5, .int p1]) (st := []) hK dX5_cleared_76 kB_X5_216 kV_X5_inByCleared kd_0 (by decide) rfl rfl (by decide) rfl rfl (Nat.le_of_ble_eq_true rfl) (fun _ _ hf => uX5_inByCleared  hf) (fun v205 h204 => ?_)
          refine J_if_eq (tgt := 86) hK dX5_cleared_79 (by decide) ?_ ?_
          · refine J_iinc (lw := [(4, .int x4), (3, .int p3), (0, .ref (X.1 + 0)), (1, .int p1), (2, .int p2)]) hK dX5_cleared_86 0 rfl (by decide) ci_1 rfl (fun z206 => ?_)
            refine J_goto (len := 0) (tgt := 46) hK dX5_cleared_89 (by decide) ?_
            exact J_sub [0, 1, 2, 3, 4, 5] rfl (ih _ _ _)
          · refine J_iload hK dX5_cleared_82 0 rfl ?_
            refine J_istore (lw := [(5, .int x5), (3, .int p3), (0, .ref (X.1 + 0)), (1, .int p1), (2, .int p2)]) hK dX5_cleared_84 (by decide) rfl ?_
            refine J_iinc (lw := [(4, .int x5), (3, .int p3), (0, .ref (X.1 + 0)), (1, .int p1), (2, .int p2)]) hK dX5_cleared_86 1 rfl (by decide) ci_1 rfl (fun z207 => ?_)
            refine J_goto (len := 0) (tgt := 46) hK dX5_cleared_89 (by decide) ?_
            exact J_sub [0, 1, 2, 3, 4, 5] rfl (ih _ _ _)
      · refine J_iinc (lw := [(4, .int x4), (3, .int p3), (0, .ref (X.1 + 0)), (1, .int p1), (2, .int p2)]) hK dX5_cleared_86 0 rfl (by decide) ci_1 rfl (fun z208 => ?_)
        refine J_goto (len := 0) (tgt := 46) hK dX5_cleared_89 (by decide) ?_
        exact J_sub [0, 1, 2, 3, 4, 5] rfl (ih _ _ _)
    · exact J_sub [0, 1, 2, 3, 4, 5] rfl (hk _ _ _)
set_option maxHeartbeats 4000000 in
set_option maxRecDepth 4000 in
theorem uX5_cleared {l : Launch} {X : WX} {a1 : Int32} {a2 : Int32} {h h' : AH} {v : Int32} (hf : fX5_cleared a1 a2 h = some (v, h')) : Does l X 6 yX5_cleared cX5_cleared 6 (some .int) [.ref (X.1 + 0), .int a1, .int a2] h (eI v) h' := by
  refine Does.of (enc := eI) (o := fX5_cleared a1 a2 h) (lv := [(0, .ref (X.1 + 0)), (1, .int a1), (2, .int a2)]) (by decide) (Nat.le_of_ble_eq_true rfl) rfl hf (fun K hl hK => ?_)
  subst hl
  unfold fX5_cleared
  refine J_aload_n hK dX5_cleared_0 0 rfl ?_
  refine J_callVi (q := 0) (As := []) (st := []) hK dX5_cleared_1 kB_X5_124 kV_X5_noEstuary kd_0 (by decide) rfl rfl (by decide) rfl rfl (Nat.le_of_ble_eq_true rfl) (fun _ _ hf => uX5_noEstuary  hf) (fun v2 h1 => ?_)
  refine J_if_eq (tgt := 10) hK dX5_cleared_4 (by decide) ?_ ?_
  · refine J_iload_n hK dX5_cleared_10 1 rfl ?_
    refine J_iconst hK dX5_cleared_11 ci_1 ?_
    refine J_icmp_lt (tgt := 28) hK dX5_cleared_12 (by decide) ?_ ?_
    · refine J_ldc hK dX5_cleared_28 kK_X5_55 ?_
      exact J_iret hK dX5_cleared_30
    · refine J_iload_n hK dX5_cleared_15 1 rfl ?_
      refine J_bipush hK dX5_cleared_16 cb_30 ?_
      refine J_icmp_gt (tgt := 28) hK dX5_cleared_18 (by decide) ?_ ?_
      · refine J_ldc hK dX5_cleared_28 kK_X5_55 ?_
        exact J_iret hK dX5_cleared_30
      · refine J_iload_n hK dX5_cleared_21 2 rfl ?_
        refine J_callSi (As := [.int a2]) (st := []) hK dX5_cleared_22 kB_X5_203 kS_X5_noHalf (by decide) rfl rfl (Nat.le_of_ble_eq_true rfl) (fun _ _ hf => uX5_noHalf  hf) (fun v4 h3 => ?_)
        refine J_if_eq (tgt := 31) hK dX5_cleared_25 (by decide) ?_ ?_
        · refine J_aload_n hK dX5_cleared_31 0 rfl ?_
          refine rF_X5_26 (q2 := 20) hK dX5_cleared_32 kd_0 rfl ?_
          refine J_callVi (q := 20) (As := []) (st := []) hK dX5_cleared_35 kB_X5_195 kV_X2_standing kd_20 (by decide) rfl rfl (by decide) rfl rfl (Nat.le_of_ble_eq_true rfl) (fun _ _ hf => uX2_standing kd_20 hf) (fun v6 h5 => ?_)
          refine J_istore_n (n := 3) (lw := [(0, .ref (X.1 + 0)), (1, .int a1), (2, .int a2)]) hK dX5_cleared_38 rfl (by decide) rfl ?_
          refine J_ldc hK dX5_cleared_39 kK_X5_202 ?_
          refine J_istore (lw := [(3, .int v6), (0, .ref (X.1 + 0)), (1, .int a1), (2, .int a2)]) hK dX5_cleared_41 (by decide) rfl ?_
          refine J_iconst hK dX5_cleared_43 ci_0 ?_
          refine J_istore (lw := [(4, .int (-1000000 : Int32)), (3, .int v6), (0, .ref (X.1 + 0)), (1, .int a1), (2, .int a2)]) hK dX5_cleared_44 (by decide) rfl ?_
          refine J_sub [0, 1, 2, 3, 4, 5] rfl (gX5_cleared_L46 hK  (fun z7 z8 h9 => ?_) FU _ _ _)
          refine J_iload hK dX5_cleared_92 1 rfl ?_
          refine J_iload_n hK dX5_cleared_94 5 rfl ?_
          refine J_callSi (As := [.int z8, .int a2]) (st := []) hK dX5_cleared_95 kB_X5_212 kS_X5_sizeOrSet (by decide) rfl rfl (Nat.le_of_ble_eq_true rfl) (fun _ _ hf => uX5_sizeOrSet  hf) (fun v11 h10 => ?_)
          exact J_iret hK dX5_cleared_98
        · refine J_ldc hK dX5_cleared_28 kK_X5_55 ?_
          exact J_iret hK dX5_cleared_30
  · refine J_ldc hK dX5_cleared_7 kK_X5_127 ?_
    exact J_iret hK dX5_cleared_9
-- X5_crew
theorem dX5_crew_0 : DD cX5_crew 0 (.aload_n 0) 1 1 := by decide +kernel
theorem dX5_crew_1 : DD cX5_crew 1 (.invokevirtual 124) 3 4 := by decide +kernel
theorem dX5_crew_4 : DD cX5_crew 4 (.ifCond .eq 6) 3 7 := by decide +kernel
theorem dX5_crew_7 : DD cX5_crew 7 (.ldc 127) 2 9 := by decide +kernel
theorem dX5_crew_9 : DD cX5_crew 9 (.ireturn) 1 10 := by decide +kernel
theorem dX5_crew_10 : DD cX5_crew 10 (.iload_n 1) 1 11 := by decide +kernel
theorem dX5_crew_11 : DD cX5_crew 11 (.iconst 1) 1 12 := by decide +kernel
theorem dX5_crew_12 : DD cX5_crew 12 (.if_icmp .lt 16) 3 15 := by decide +kernel
theorem dX5_crew_15 : DD cX5_crew 15 (.iload_n 1) 1 16 := by decide +kernel
theorem dX5_crew_16 : DD cX5_crew 16 (.bipush 30) 2 18 := by decide +kernel
theorem dX5_crew_18 : DD cX5_crew 18 (.if_icmp .gt 10) 3 21 := by decide +kernel
theorem dX5_crew_21 : DD cX5_crew 21 (.iload_n 2) 1 22 := by decide +kernel
theorem dX5_crew_22 : DD cX5_crew 22 (.invokestatic 203) 3 25 := by decide +kernel
theorem dX5_crew_25 : DD cX5_crew 25 (.ifCond .eq 6) 3 28 := by decide +kernel
theorem dX5_crew_28 : DD cX5_crew 28 (.ldc 55) 2 30 := by decide +kernel
theorem dX5_crew_30 : DD cX5_crew 30 (.ireturn) 1 31 := by decide +kernel
theorem dX5_crew_31 : DD cX5_crew 31 (.ldc 202) 2 33 := by decide +kernel
theorem dX5_crew_33 : DD cX5_crew 33 (.istore_n 3) 1 34 := by decide +kernel
theorem dX5_crew_34 : DD cX5_crew 34 (.iconst 0) 1 35 := by decide +kernel
theorem dX5_crew_35 : DD cX5_crew 35 (.istore 4) 2 37 := by decide +kernel
theorem dX5_crew_37 : DD cX5_crew 37 (.iload 4) 2 39 := by decide +kernel
theorem dX5_crew_39 : DD cX5_crew 39 (.bipush 64) 2 41 := by decide +kernel
theorem dX5_crew_41 : DD cX5_crew 41 (.if_icmp .ge 46) 3 44 := by decide +kernel
theorem dX5_crew_44 : DD cX5_crew 44 (.iload 4) 2 46 := by decide +kernel
theorem dX5_crew_46 : DD cX5_crew 46 (.aload_n 0) 1 47 := by decide +kernel
theorem dX5_crew_47 : DD cX5_crew 47 (.getfield 26) 3 50 := by decide +kernel
theorem dX5_crew_50 : DD cX5_crew 50 (.getfield 154) 3 53 := by decide +kernel
theorem dX5_crew_53 : DD cX5_crew 53 (.iconst (-1)) 1 54 := by decide +kernel
theorem dX5_crew_54 : DD cX5_crew 54 (.ixor) 1 55 := by decide +kernel
theorem dX5_crew_55 : DD cX5_crew 55 (.iand) 1 56 := by decide +kernel
theorem dX5_crew_56 : DD cX5_crew 56 (.ifCond .ne 25) 3 59 := by decide +kernel
theorem dX5_crew_59 : DD cX5_crew 59 (.iload 4) 2 61 := by decide +kernel
theorem dX5_crew_61 : DD cX5_crew 61 (.iload_n 3) 1 62 := by decide +kernel
theorem dX5_crew_62 : DD cX5_crew 62 (.invokestatic 206) 3 65 := by decide +kernel
theorem dX5_crew_65 : DD cX5_crew 65 (.ifCond .eq 16) 3 68 := by decide +kernel
theorem dX5_crew_68 : DD cX5_crew 68 (.aload_n 0) 1 69 := by decide +kernel
theorem dX5_crew_69 : DD cX5_crew 69 (.iload 4) 2 71 := by decide +kernel
theorem dX5_crew_71 : DD cX5_crew 71 (.iload_n 1) 1 72 := by decide +kernel
theorem dX5_crew_72 : DD cX5_crew 72 (.invokevirtual 209) 3 75 := by decide +kernel
theorem dX5_crew_75 : DD cX5_crew 75 (.ifCond .eq 6) 3 78 := by decide +kernel
theorem dX5_crew_78 : DD cX5_crew 78 (.iload 4) 2 80 := by decide +kernel
theorem dX5_crew_80 : DD cX5_crew 80 (.istore_n 3) 1 81 := by decide +kernel
theorem dX5_crew_81 : DD cX5_crew 81 (.iinc 4 1) 3 84 := by decide +kernel
theorem dX5_crew_84 : DD cX5_crew 84 (.goto (-47)) 3 87 := by decide +kernel
theorem dX5_crew_87 : DD cX5_crew 87 (.iload_n 3) 1 88 := by decide +kernel
theorem dX5_crew_88 : DD cX5_crew 88 (.iload_n 2) 1 89 := by decide +kernel
theorem dX5_crew_89 : DD cX5_crew 89 (.invokestatic 212) 3 92 := by decide +kernel
theorem dX5_crew_92 : DD cX5_crew 92 (.ireturn) 1 93 := by decide +kernel
def fX5_crew_L37 (p1 : Int32) (p2 : Int32) : Nat → Int32 → Int32 → AH → (Int32 → Int32 → AH → Option (Int32 × AH)) → Option (Int32 × AH)
  | 0, _, _, _, _ => none
  | n + 1, x4, x3, h, k => (if x4 < (64 : Int32) then (if (x4 &&& ((h 20 5) ^^^ (-1 : Int32))) = 0 then (bnd (fX5_fewer x4 x3 h) fun v202 h201 => (if v202 = 0 then (vl (x4 + (1 : Int32)) fun z203 => fX5_crew_L37 p1 p2 n z203 x3 h201 k) else (bnd (fX5_inByCrew x4 p1 h201) fun v205 h204 => (if v205 = 0 then (vl (x4 + (1 : Int32)) fun z206 => fX5_crew_L37 p1 p2 n z206 x3 h204 k) else (vl (x4 + (1 : Int32)) fun z207 => fX5_crew_L37 p1 p2 n z207 x4 h204 k))))) else (vl (x4 + (1 : Int32)) fun z208 => fX5_crew_L37 p1 p2 n z208 x3 h k)) else k x4 x3 h)
def fX5_crew (a1 : Int32) (a2 : Int32) (h : AH) : Option (Int32 × AH) := (bnd (fX5_noEstuary  h) fun v2 h1 => (if v2 = 0 then (if a1 < (1 : Int32) then (some ((-1000001 : Int32), h1)) else (if (30 : Int32) < a1 then (some ((-1000001 : Int32), h1)) else (bnd (fX5_noHalf a2 h1) fun v4 h3 => (if v4 = 0 then (fX5_crew_L37 a1 a2 FU (0 : Int32) (-1000000 : Int32) h3 fun z5 z6 h7 => (bnd (fX5_sizeOrSet z6 a2 h7) fun v9 h8 => (some (v9, h8)))) else (some ((-1000001 : Int32), h3)))))) else (some ((-1000002 : Int32), h1))))
set_option maxHeartbeats 4000000 in
theorem gX5_crew_L37 {K : MC} {X : WX} {p1 : Int32} {p2 : Int32} (hK : Ok K X RX5 cX5_crew 5 (some .int) 6) {k : Int32 → Int32 → AH → Option (Int32 × AH)} (hk : ∀ (x4 : Int32) (x3 : Int32) (h : AH), J K X 5 (Zm K X) eI 87 [(4, .int x4), (3, .int x3), (0, .ref (X.1 + 0)), (1, .int p1), (2, .int p2)] [] h (k x4 x3 h)) : ∀ (n : Nat) (x4 : Int32) (x3 : Int32) (h : AH), J K X 5 (Zm K X) eI 37 [(4, .int x4), (3, .int x3), (0, .ref (X.1 + 0)), (1, .int p1), (2, .int p2)] [] h (fX5_crew_L37 p1 p2 n x4 x3 h k) := by
  intro n
  induction n with
  | zero => exact fun _ _ _ => J_none
  | succ n ih =>
    intro x4 x3 h
    rw [fX5_crew_L37]
    refine J_iload hK dX5_crew_37 0 rfl ?_
    refine J_bipush hK dX5_crew_39 cb_64 ?_
    refine J_icmp_ge (tgt := 87) hK dX5_crew_41 (by decide) ?_ ?_
    · refine J_iload hK dX5_crew_44 0 rfl ?_
      refine J_aload_n hK dX5_crew_46 2 rfl ?_
      refine rF_X5_26 (q2 := 20) hK dX5_crew_47 kd_0 rfl ?_
      refine gF_X5_154 hK dX5_crew_50 kd_20 ?_
      refine J_iconst hK dX5_crew_53 ci_m1 ?_
      refine J_ixor hK dX5_crew_54 ?_
      refine J_iand hK dX5_crew_55 ?_
      refine J_if_ne (tgt := 81) hK dX5_crew_56 (by decide) ?_ ?_
      · refine J_iload hK dX5_crew_59 0 rfl ?_
        refine J_iload_n hK dX5_crew_61 1 rfl ?_
        refine J_callSi (As := [.int x4, .int x3]) (st := []) hK dX5_crew_62 kB_X5_206 kS_X5_fewer (by decide) rfl rfl (Nat.le_of_ble_eq_true rfl) (fun _ _ hf => uX5_fewer  hf) (fun v202 h201 => ?_)
        refine J_if_eq (tgt := 81) hK dX5_crew_65 (by decide) ?_ ?_
        · refine J_iinc (lw := [(3, .int x3), (0, .ref (X.1 + 0)), (1, .int p1), (2, .int p2)]) hK dX5_crew_81 0 rfl (by decide) ci_1 rfl (fun z203 => ?_)
          refine J_goto (len := 0) (tgt := 37) hK dX5_crew_84 (by decide) ?_
          exact J_sub [0, 1, 2, 3, 4] rfl (ih _ _ _)
        · refine J_aload_n hK dX5_crew_68 2 rfl ?_
          refine J_iload hK dX5_crew_69 0 rfl ?_
          refine J_iload_n hK dX5_crew_71 3 rfl ?_
          refine J_callVi (q := 0) (As := [.int x4, .int p1]) (st := []) hK dX5_crew_72 kB_X5_209 kV_X5_inByCrew kd_0 (by decide) rfl rfl (by decide) rfl rfl (Nat.le_of_ble_eq_true rfl) (fun _ _ hf => uX5_inByCrew  hf) (fun v205 h204 => ?_)
          refine J_if_eq (tgt := 81) hK dX5_crew_75 (by decide) ?_ ?_
          · refine J_iinc (lw := [(3, .int x3), (0, .ref (X.1 + 0)), (1, .int p1), (2, .int p2)]) hK dX5_crew_81 0 rfl (by decide) ci_1 rfl (fun z206 => ?_)
            refine J_goto (len := 0) (tgt := 37) hK dX5_crew_84 (by decide) ?_
            exact J_sub [0, 1, 2, 3, 4] rfl (ih _ _ _)
          · refine J_iload hK dX5_crew_78 0 rfl ?_
            refine J_istore_n (n := 3) (lw := [(4, .int x4), (0, .ref (X.1 + 0)), (1, .int p1), (2, .int p2)]) hK dX5_crew_80 rfl (by decide) rfl ?_
            refine J_iinc (lw := [(3, .int x4), (0, .ref (X.1 + 0)), (1, .int p1), (2, .int p2)]) hK dX5_crew_81 1 rfl (by decide) ci_1 rfl (fun z207 => ?_)
            refine J_goto (len := 0) (tgt := 37) hK dX5_crew_84 (by decide) ?_
            exact J_sub [0, 1, 2, 3, 4] rfl (ih _ _ _)
      · refine J_iinc (lw := [(3, .int x3), (0, .ref (X.1 + 0)), (1, .int p1), (2, .int p2)]) hK dX5_crew_81 0 rfl (by decide) ci_1 rfl (fun z208 => ?_)
        refine J_goto (len := 0) (tgt := 37) hK dX5_crew_84 (by decide) ?_
        exact J_sub [0, 1, 2, 3, 4] rfl (ih _ _ _)
    · exact J_sub [0, 1, 2, 3, 4] rfl (hk _ _ _)
set_option maxHeartbeats 4000000 in
set_option maxRecDepth 4000 in
theorem uX5_crew {l : Launch} {X : WX} {a1 : Int32} {a2 : Int32} {h h' : AH} {v : Int32} (hf : fX5_crew a1 a2 h = some (v, h')) : Does l X 6 yX5_crew cX5_crew 5 (some .int) [.ref (X.1 + 0), .int a1, .int a2] h (eI v) h' := by
  refine Does.of (enc := eI) (o := fX5_crew a1 a2 h) (lv := [(0, .ref (X.1 + 0)), (1, .int a1), (2, .int a2)]) (by decide) (Nat.le_of_ble_eq_true rfl) rfl hf (fun K hl hK => ?_)
  subst hl
  unfold fX5_crew
  refine J_aload_n hK dX5_crew_0 0 rfl ?_
  refine J_callVi (q := 0) (As := []) (st := []) hK dX5_crew_1 kB_X5_124 kV_X5_noEstuary kd_0 (by decide) rfl rfl (by decide) rfl rfl (Nat.le_of_ble_eq_true rfl) (fun _ _ hf => uX5_noEstuary  hf) (fun v2 h1 => ?_)
  refine J_if_eq (tgt := 10) hK dX5_crew_4 (by decide) ?_ ?_
  · refine J_iload_n hK dX5_crew_10 1 rfl ?_
    refine J_iconst hK dX5_crew_11 ci_1 ?_
    refine J_icmp_lt (tgt := 28) hK dX5_crew_12 (by decide) ?_ ?_
    · refine J_ldc hK dX5_crew_28 kK_X5_55 ?_
      exact J_iret hK dX5_crew_30
    · refine J_iload_n hK dX5_crew_15 1 rfl ?_
      refine J_bipush hK dX5_crew_16 cb_30 ?_
      refine J_icmp_gt (tgt := 28) hK dX5_crew_18 (by decide) ?_ ?_
      · refine J_ldc hK dX5_crew_28 kK_X5_55 ?_
        exact J_iret hK dX5_crew_30
      · refine J_iload_n hK dX5_crew_21 2 rfl ?_
        refine J_callSi (As := [.int a2]) (st := []) hK dX5_crew_22 kB_X5_203 kS_X5_noHalf (by decide) rfl rfl (Nat.le_of_ble_eq_true rfl) (fun _ _ hf => uX5_noHalf  hf) (fun v4 h3 => ?_)
        refine J_if_eq (tgt := 31) hK dX5_crew_25 (by decide) ?_ ?_
        · refine J_ldc hK dX5_crew_31 kK_X5_202 ?_
          refine J_istore_n (n := 3) (lw := [(0, .ref (X.1 + 0)), (1, .int a1), (2, .int a2)]) hK dX5_crew_33 rfl (by decide) rfl ?_
          refine J_iconst hK dX5_crew_34 ci_0 ?_
          refine J_istore (lw := [(3, .int (-1000000 : Int32)), (0, .ref (X.1 + 0)), (1, .int a1), (2, .int a2)]) hK dX5_crew_35 (by decide) rfl ?_
          refine J_sub [0, 1, 2, 3, 4] rfl (gX5_crew_L37 hK  (fun z5 z6 h7 => ?_) FU _ _ _)
          refine J_iload_n hK dX5_crew_87 1 rfl ?_
          refine J_iload_n hK dX5_crew_88 4 rfl ?_
          refine J_callSi (As := [.int z6, .int a2]) (st := []) hK dX5_crew_89 kB_X5_212 kS_X5_sizeOrSet (by decide) rfl rfl (Nat.le_of_ble_eq_true rfl) (fun _ _ hf => uX5_sizeOrSet  hf) (fun v9 h8 => ?_)
          exact J_iret hK dX5_crew_92
        · refine J_ldc hK dX5_crew_28 kK_X5_55 ?_
          exact J_iret hK dX5_crew_30
  · refine J_ldc hK dX5_crew_7 kK_X5_127 ?_
    exact J_iret hK dX5_crew_9
-- X5_estuary
theorem dX5_estuary_0 : DD cX5_estuary 0 (.aload_n 0) 1 1 := by decide +kernel
theorem dX5_estuary_1 : DD cX5_estuary 1 (.getfield 41) 3 4 := by decide +kernel
theorem dX5_estuary_4 : DD cX5_estuary 4 (.iconst 0) 1 5 := by decide +kernel
theorem dX5_estuary_5 : DD cX5_estuary 5 (.aaload) 1 6 := by decide +kernel
theorem dX5_estuary_6 : DD cX5_estuary 6 (.astore_n 1) 1 7 := by decide +kernel
theorem dX5_estuary_7 : DD cX5_estuary 7 (.aload_n 0) 1 8 := by decide +kernel
theorem dX5_estuary_8 : DD cX5_estuary 8 (.getfield 19) 3 11 := by decide +kernel
theorem dX5_estuary_11 : DD cX5_estuary 11 (.aload_n 1) 1 12 := by decide +kernel
theorem dX5_estuary_12 : DD cX5_estuary 12 (.invokevirtual 103) 3 15 := by decide +kernel
theorem dX5_estuary_15 : DD cX5_estuary 15 (.ifCond .ne 14) 3 18 := by decide +kernel
theorem dX5_estuary_18 : DD cX5_estuary 18 (.ldc 107) 2 20 := by decide +kernel
theorem dX5_estuary_20 : DD cX5_estuary 20 (.aload_n 0) 1 21 := by decide +kernel
theorem dX5_estuary_21 : DD cX5_estuary 21 (.getfield 19) 3 24 := by decide +kernel
theorem dX5_estuary_24 : DD cX5_estuary 24 (.getfield 108) 3 27 := by decide +kernel
theorem dX5_estuary_27 : DD cX5_estuary 27 (.isub) 1 28 := by decide +kernel
theorem dX5_estuary_28 : DD cX5_estuary 28 (.ireturn) 1 29 := by decide +kernel
theorem dX5_estuary_29 : DD cX5_estuary 29 (.aload_n 0) 1 30 := by decide +kernel
theorem dX5_estuary_30 : DD cX5_estuary 30 (.getfield 26) 3 33 := by decide +kernel
theorem dX5_estuary_33 : DD cX5_estuary 33 (.aload_n 1) 1 34 := by decide +kernel
theorem dX5_estuary_34 : DD cX5_estuary 34 (.invokevirtual 111) 3 37 := by decide +kernel
theorem dX5_estuary_37 : DD cX5_estuary 37 (.aload_n 0) 1 38 := by decide +kernel
theorem dX5_estuary_38 : DD cX5_estuary 38 (.getfield 33) 3 41 := by decide +kernel
theorem dX5_estuary_41 : DD cX5_estuary 41 (.invokevirtual 115) 3 44 := by decide +kernel
theorem dX5_estuary_44 : DD cX5_estuary 44 (.aload_n 0) 1 45 := by decide +kernel
theorem dX5_estuary_45 : DD cX5_estuary 45 (.getfield 26) 3 48 := by decide +kernel
theorem dX5_estuary_48 : DD cX5_estuary 48 (.getfield 118) 3 51 := by decide +kernel
theorem dX5_estuary_51 : DD cX5_estuary 51 (.ireturn) 1 52 := by decide +kernel
def fX5_estuary (h : AH) : Option (Int32 × AH) := (chk (inb (0 : Int32) (ln 212)) (bnd (fX4_readInto (212 + 1 + 7 * Int32.toNatClampNeg (0 : Int32)) h) fun v3 h2 => (if v3 = 0 then (some (((-1000100 : Int32) - (h2 18 2)), h2)) else (bnd (fX2_take 20 (212 + 1 + 7 * Int32.toNatClampNeg (0 : Int32)) h2) fun _ h4 => (bnd (fX0_forget  h4) fun _ h5 => (some ((h5 20 0), h5)))))))
set_option maxHeartbeats 4000000 in
set_option maxRecDepth 4000 in
theorem uX5_estuary {l : Launch} {X : WX} {h h' : AH} {v : Int32} (hf : fX5_estuary  h = some (v, h')) : Does l X 7 yX5_estuary cX5_estuary 2 (some .int) [.ref (X.1 + 0)] h (eI v) h' := by
  refine Does.of (enc := eI) (o := fX5_estuary  h) (lv := [(0, .ref (X.1 + 0))]) (by decide) (Nat.le_of_ble_eq_true rfl) rfl hf (fun K hl hK => ?_)
  subst hl
  unfold fX5_estuary
  refine J_aload_n hK dX5_estuary_0 0 rfl ?_
  refine rF_X5_41 (q2 := 212) hK dX5_estuary_1 kd_0 rfl ?_
  refine J_iconst hK dX5_estuary_4 ci_0 ?_
  refine J_aaldE hK dX5_estuary_5 kd_212 (fun q1 => ?_)
  refine J_astore_n (n := 1) (lw := [(0, .ref (X.1 + 0))]) hK dX5_estuary_6 rfl (by decide) rfl ?_
  refine J_aload_n hK dX5_estuary_7 1 rfl ?_
  refine rF_X5_19 (q2 := 18) hK dX5_estuary_8 kd_0 rfl ?_
  refine J_aload_n hK dX5_estuary_11 0 rfl ?_
  refine J_callVi (q := 18) (As := [.ref (X.1 + (212 + 1 + 7 * Int32.toNatClampNeg (0 : Int32)))]) (st := []) hK dX5_estuary_12 kB_X5_103 kV_X4_readInto kd_18 (by decide) rfl rfl (by decide) rfl rfl (Nat.le_of_ble_eq_true rfl) (fun _ _ hf => uX4_readInto (kdA_212 q1) hf) (fun v3 h2 => ?_)
  refine J_if_ne (tgt := 29) hK dX5_estuary_15 (by decide) ?_ ?_
  · refine J_ldc hK dX5_estuary_18 kK_X5_107 ?_
    refine J_aload_n hK dX5_estuary_20 1 rfl ?_
    refine rF_X5_19 (q2 := 18) hK dX5_estuary_21 kd_0 rfl ?_
    refine gF_X5_108 hK dX5_estuary_24 kd_18 ?_
    refine J_isub hK dX5_estuary_27 ?_
    exact J_iret hK dX5_estuary_28
  · refine J_aload_n hK dX5_estuary_29 1 rfl ?_
    refine rF_X5_26 (q2 := 20) hK dX5_estuary_30 kd_0 rfl ?_
    refine J_aload_n hK dX5_estuary_33 0 rfl ?_
    refine J_callVv (q := 20) (As := [.ref (X.1 + (212 + 1 + 7 * Int32.toNatClampNeg (0 : Int32)))]) (st := []) hK dX5_estuary_34 kB_X5_111 kV_X2_take kd_20 (by decide) rfl rfl (by decide) rfl rfl (Nat.le_of_ble_eq_true rfl) (fun _ _ hf => uX2_take kd_20 (kdA_212 q1) hf) (fun _ h4 => ?_)
    refine J_aload_n hK dX5_estuary_37 1 rfl ?_
    refine rF_X5_33 (q2 := 27) hK dX5_estuary_38 kd_0 rfl ?_
    refine J_callVv (q := 27) (As := []) (st := []) hK dX5_estuary_41 kB_X5_115 kV_X0_forget kd_27 (by decide) rfl rfl (by decide) rfl rfl (Nat.le_of_ble_eq_true rfl) (fun _ _ hf => uX0_forget  hf) (fun _ h5 => ?_)
    refine J_aload_n hK dX5_estuary_44 1 rfl ?_
    refine rF_X5_26 (q2 := 20) hK dX5_estuary_45 kd_0 rfl ?_
    refine gF_X5_118 hK dX5_estuary_48 kd_20 ?_
    exact J_iret hK dX5_estuary_51
-- X5_ask
theorem dX5_ask_0 : DD cX5_ask 0 (.aload_n 0) 1 1 := by decide +kernel
theorem dX5_ask_1 : DD cX5_ask 1 (.iload_n 1) 1 2 := by decide +kernel
theorem dX5_ask_2 : DD cX5_ask 2 (.invokevirtual 141) 3 5 := by decide +kernel
theorem dX5_ask_5 : DD cX5_ask 5 (.ifCond .ne 10) 3 8 := by decide +kernel
theorem dX5_ask_8 : DD cX5_ask 8 (.iload_n 2) 1 9 := by decide +kernel
theorem dX5_ask_9 : DD cX5_ask 9 (.invokestatic 203) 3 12 := by decide +kernel
theorem dX5_ask_12 : DD cX5_ask 12 (.ifCond .eq 6) 3 15 := by decide +kernel
theorem dX5_ask_15 : DD cX5_ask 15 (.ldc 55) 2 17 := by decide +kernel
theorem dX5_ask_17 : DD cX5_ask 17 (.ireturn) 1 18 := by decide +kernel
theorem dX5_ask_18 : DD cX5_ask 18 (.aload_n 0) 1 19 := by decide +kernel
theorem dX5_ask_19 : DD cX5_ask 19 (.getfield 47) 3 22 := by decide +kernel
theorem dX5_ask_22 : DD cX5_ask 22 (.aload_n 0) 1 23 := by decide +kernel
theorem dX5_ask_23 : DD cX5_ask 23 (.getfield 26) 3 26 := by decide +kernel
theorem dX5_ask_26 : DD cX5_ask 26 (.iload_n 1) 1 27 := by decide +kernel
theorem dX5_ask_27 : DD cX5_ask 27 (.iload_n 2) 1 28 := by decide +kernel
theorem dX5_ask_28 : DD cX5_ask 28 (.invokevirtual 262) 3 31 := by decide +kernel
theorem dX5_ask_31 : DD cX5_ask 31 (.ireturn) 1 32 := by decide +kernel
def fX5_ask (a1 : Int32) (a2 : Int32) (h : AH) : Option (Int32 × AH) := (bnd (fX5_noTug a1 h) fun v2 h1 => (if v2 = 0 then (bnd (fX5_noHalf a2 h1) fun v4 h3 => (if v4 = 0 then (bnd (fX1_answer 20 a1 a2 h3) fun v6 h5 => (some (v6, h5))) else (some ((-1000001 : Int32), h3)))) else (some ((-1000001 : Int32), h1))))
set_option maxHeartbeats 4000000 in
set_option maxRecDepth 4000 in
theorem uX5_ask {l : Launch} {X : WX} {a1 : Int32} {a2 : Int32} {h h' : AH} {v : Int32} (hf : fX5_ask a1 a2 h = some (v, h')) : Does l X 110 yX5_ask cX5_ask 3 (some .int) [.ref (X.1 + 0), .int a1, .int a2] h (eI v) h' := by
  refine Does.of (enc := eI) (o := fX5_ask a1 a2 h) (lv := [(0, .ref (X.1 + 0)), (1, .int a1), (2, .int a2)]) (by decide) (Nat.le_of_ble_eq_true rfl) rfl hf (fun K hl hK => ?_)
  subst hl
  unfold fX5_ask
  refine J_aload_n hK dX5_ask_0 0 rfl ?_
  refine J_iload_n hK dX5_ask_1 1 rfl ?_
  refine J_callVi (q := 0) (As := [.int a1]) (st := []) hK dX5_ask_2 kB_X5_141 kV_X5_noTug kd_0 (by decide) rfl rfl (by decide) rfl rfl (Nat.le_of_ble_eq_true rfl) (fun _ _ hf => uX5_noTug  hf) (fun v2 h1 => ?_)
  refine J_if_ne (tgt := 15) hK dX5_ask_5 (by decide) ?_ ?_
  · refine J_iload_n hK dX5_ask_8 2 rfl ?_
    refine J_callSi (As := [.int a2]) (st := []) hK dX5_ask_9 kB_X5_203 kS_X5_noHalf (by decide) rfl rfl (Nat.le_of_ble_eq_true rfl) (fun _ _ hf => uX5_noHalf  hf) (fun v4 h3 => ?_)
    refine J_if_eq (tgt := 18) hK dX5_ask_12 (by decide) ?_ ?_
    · refine J_aload_n hK dX5_ask_18 0 rfl ?_
      refine rF_X5_47 (q2 := 276) hK dX5_ask_19 kd_0 rfl ?_
      refine J_aload_n hK dX5_ask_22 0 rfl ?_
      refine rF_X5_26 (q2 := 20) hK dX5_ask_23 kd_0 rfl ?_
      refine J_iload_n hK dX5_ask_26 1 rfl ?_
      refine J_iload_n hK dX5_ask_27 2 rfl ?_
      refine J_callVi (q := 276) (As := [.ref (X.1 + 20), .int a1, .int a2]) (st := []) hK dX5_ask_28 kB_X5_262 kV_X1_answer kd_276 (by decide) rfl rfl (by decide) rfl rfl (Nat.le_of_ble_eq_true rfl) (fun _ _ hf => uX1_answer kd_20 hf) (fun v6 h5 => ?_)
      exact J_iret hK dX5_ask_31
    · refine J_ldc hK dX5_ask_15 kK_X5_55 ?_
      exact J_iret hK dX5_ask_17
  · refine J_ldc hK dX5_ask_15 kK_X5_55 ?_
    exact J_iret hK dX5_ask_17
-- X5_waysInBehind
theorem dX5_waysInBehind_0 : DD cX5_waysInBehind 0 (.iload_n 1) 1 1 := by decide +kernel
theorem dX5_waysInBehind_1 : DD cX5_waysInBehind 1 (.iconst 1) 1 2 := by decide +kernel
theorem dX5_waysInBehind_2 : DD cX5_waysInBehind 2 (.iadd) 1 3 := by decide +kernel
theorem dX5_waysInBehind_3 : DD cX5_waysInBehind 3 (.aload_n 0) 1 4 := by decide +kernel
theorem dX5_waysInBehind_4 : DD cX5_waysInBehind 4 (.getfield 41) 3 7 := by decide +kernel
theorem dX5_waysInBehind_7 : DD cX5_waysInBehind 7 (.arraylength) 1 8 := by decide +kernel
theorem dX5_waysInBehind_8 : DD cX5_waysInBehind 8 (.if_icmp .lt 5) 3 11 := by decide +kernel
theorem dX5_waysInBehind_11 : DD cX5_waysInBehind 11 (.iconst 0) 1 12 := by decide +kernel
theorem dX5_waysInBehind_12 : DD cX5_waysInBehind 12 (.ireturn) 1 13 := by decide +kernel
theorem dX5_waysInBehind_13 : DD cX5_waysInBehind 13 (.aload_n 0) 1 14 := by decide +kernel
theorem dX5_waysInBehind_14 : DD cX5_waysInBehind 14 (.getfield 41) 3 17 := by decide +kernel
theorem dX5_waysInBehind_17 : DD cX5_waysInBehind 17 (.iload_n 1) 1 18 := by decide +kernel
theorem dX5_waysInBehind_18 : DD cX5_waysInBehind 18 (.iconst 1) 1 19 := by decide +kernel
theorem dX5_waysInBehind_19 : DD cX5_waysInBehind 19 (.iadd) 1 20 := by decide +kernel
theorem dX5_waysInBehind_20 : DD cX5_waysInBehind 20 (.aaload) 1 21 := by decide +kernel
theorem dX5_waysInBehind_21 : DD cX5_waysInBehind 21 (.astore 5) 2 23 := by decide +kernel
theorem dX5_waysInBehind_23 : DD cX5_waysInBehind 23 (.aload 5) 2 25 := by decide +kernel
theorem dX5_waysInBehind_25 : DD cX5_waysInBehind 25 (.aload_n 0) 1 26 := by decide +kernel
theorem dX5_waysInBehind_26 : DD cX5_waysInBehind 26 (.getfield 41) 3 29 := by decide +kernel
theorem dX5_waysInBehind_29 : DD cX5_waysInBehind 29 (.iload_n 1) 1 30 := by decide +kernel
theorem dX5_waysInBehind_30 : DD cX5_waysInBehind 30 (.aaload) 1 31 := by decide +kernel
theorem dX5_waysInBehind_31 : DD cX5_waysInBehind 31 (.invokevirtual 111) 3 34 := by decide +kernel
theorem dX5_waysInBehind_34 : DD cX5_waysInBehind 34 (.aload 5) 2 36 := by decide +kernel
theorem dX5_waysInBehind_36 : DD cX5_waysInBehind 36 (.iload 4) 2 38 := by decide +kernel
theorem dX5_waysInBehind_38 : DD cX5_waysInBehind 38 (.invokevirtual 134) 3 41 := by decide +kernel
theorem dX5_waysInBehind_41 : DD cX5_waysInBehind 41 (.aload_n 0) 1 42 := by decide +kernel
theorem dX5_waysInBehind_42 : DD cX5_waysInBehind 42 (.iload_n 1) 1 43 := by decide +kernel
theorem dX5_waysInBehind_43 : DD cX5_waysInBehind 43 (.iconst 1) 1 44 := by decide +kernel
theorem dX5_waysInBehind_44 : DD cX5_waysInBehind 44 (.iadd) 1 45 := by decide +kernel
theorem dX5_waysInBehind_45 : DD cX5_waysInBehind 45 (.iload_n 2) 1 46 := by decide +kernel
theorem dX5_waysInBehind_46 : DD cX5_waysInBehind 46 (.iload_n 3) 1 47 := by decide +kernel
theorem dX5_waysInBehind_47 : DD cX5_waysInBehind 47 (.invokevirtual 229) 3 50 := by decide +kernel
theorem dX5_waysInBehind_50 : DD cX5_waysInBehind 50 (.ireturn) 1 51 := by decide +kernel
def fX5_waysInBehind (rec : Int32 → Int32 → Int32 → AH → Option (Int32 × AH)) (a1 : Int32) (a2 : Int32) (a3 : Int32) (a4 : Int32) (h : AH) : Option (Int32 × AH) := (if (a1 + (1 : Int32)) < (9 : Int32) then (chk (inb (a1 + (1 : Int32)) (ln 212)) (chk (inb a1 (ln 212)) (bnd (fX2_take (212 + 1 + 7 * Int32.toNatClampNeg (a1 + (1 : Int32))) (212 + 1 + 7 * Int32.toNatClampNeg a1) h) fun _ h3 => (bnd (fX2_passHour (212 + 1 + 7 * Int32.toNatClampNeg (a1 + (1 : Int32))) a4 h3) fun _ h4 => (bnd (rec (a1 + (1 : Int32)) a2 a3 h4) fun v6 h5 => (some (v6, h5))))))) else (some ((0 : Int32), h)))
set_option maxHeartbeats 4000000 in
set_option maxRecDepth 4000 in
theorem uX5_waysInBehind {l : Launch} {X : WX} {jj : Nat} {rec : Int32 → Int32 → Int32 → AH → Option (Int32 × AH)} (hrec : ∀ {a1 : Int32} {a2 : Int32} {a3 : Int32} {h h' : AH} {v : Int32}, rec a1 a2 a3 h = some (v, h') → Does l X jj yX5_waysIn cX5_waysIn 6 (some .int) [.ref (X.1 + 0), .int a1, .int a2, .int a3] h (eI v) h') {a1 : Int32} {a2 : Int32} {a3 : Int32} {a4 : Int32} {h h' : AH} {v : Int32} (hf : fX5_waysInBehind rec a1 a2 a3 a4 h = some (v, h')) : Does l X (jj + 6) yX5_waysInBehind cX5_waysInBehind 6 (some .int) [.ref (X.1 + 0), .int a1, .int a2, .int a3, .int a4] h (eI v) h' := by
  refine Does.of (enc := eI) (o := fX5_waysInBehind rec a1 a2 a3 a4 h) (lv := [(0, .ref (X.1 + 0)), (1, .int a1), (2, .int a2), (3, .int a3), (4, .int a4)]) (by decide) (Nat.le_of_ble_eq_true rfl) rfl hf (fun K hl hK => ?_)
  subst hl
  unfold fX5_waysInBehind
  refine J_iload_n hK dX5_waysInBehind_0 1 rfl ?_
  refine J_iconst hK dX5_waysInBehind_1 ci_1 ?_
  refine J_iadd hK dX5_waysInBehind_2 ?_
  refine J_aload_n hK dX5_waysInBehind_3 0 rfl ?_
  refine rF_X5_41 (q2 := 212) hK dX5_waysInBehind_4 kd_0 rfl ?_
  refine J_alenE (v := 9) hK dX5_waysInBehind_7 kd_212 (by decide) ?_
  refine J_icmp_lt (tgt := 13) hK dX5_waysInBehind_8 (by decide) ?_ ?_
  · refine J_aload_n hK dX5_waysInBehind_13 0 rfl ?_
    refine rF_X5_41 (q2 := 212) hK dX5_waysInBehind_14 kd_0 rfl ?_
    refine J_iload_n hK dX5_waysInBehind_17 1 rfl ?_
    refine J_iconst hK dX5_waysInBehind_18 ci_1 ?_
    refine J_iadd hK dX5_waysInBehind_19 ?_
    refine J_aaldE hK dX5_waysInBehind_20 kd_212 (fun q1 => ?_)
    refine J_astore (lw := [(0, .ref (X.1 + 0)), (1, .int a1), (2, .int a2), (3, .int a3), (4, .int a4)]) hK dX5_waysInBehind_21 (by decide) rfl ?_
    refine J_aload hK dX5_waysInBehind_23 0 rfl ?_
    refine J_aload_n hK dX5_waysInBehind_25 1 rfl ?_
    refine rF_X5_41 (q2 := 212) hK dX5_waysInBehind_26 kd_0 rfl ?_
    refine J_iload_n hK dX5_waysInBehind_29 2 rfl ?_
    refine J_aaldE hK dX5_waysInBehind_30 kd_212 (fun q2 => ?_)
    refine J_callVv (q := (212 + 1 + 7 * Int32.toNatClampNeg (a1 + (1 : Int32)))) (As := [.ref (X.1 + (212 + 1 + 7 * Int32.toNatClampNeg a1))]) (st := []) hK dX5_waysInBehind_31 kB_X5_111 kV_X2_take (kdA_212 q1) (by decide) rfl rfl (by omega) rfl rfl (Nat.le_of_ble_eq_true rfl) (fun _ _ hf => uX2_take (kdA_212 q1) (kdA_212 q2) hf) (fun _ h3 => ?_)
    refine J_aload hK dX5_waysInBehind_34 0 rfl ?_
    refine J_iload hK dX5_waysInBehind_36 5 rfl ?_
    refine J_callVv (q := (212 + 1 + 7 * Int32.toNatClampNeg (a1 + (1 : Int32)))) (As := [.int a4]) (st := []) hK dX5_waysInBehind_38 kB_X5_134 kV_X2_passHour (kdA_212 q1) (by decide) rfl rfl (by omega) rfl rfl (Nat.le_of_ble_eq_true rfl) (fun _ _ hf => uX2_passHour (kdA_212 q1) hf) (fun _ h4 => ?_)
    refine J_aload_n hK dX5_waysInBehind_41 1 rfl ?_
    refine J_iload_n hK dX5_waysInBehind_42 2 rfl ?_
    refine J_iconst hK dX5_waysInBehind_43 ci_1 ?_
    refine J_iadd hK dX5_waysInBehind_44 ?_
    refine J_iload_n hK dX5_waysInBehind_45 3 rfl ?_
    refine J_iload_n hK dX5_waysInBehind_46 4 rfl ?_
    refine J_callVi (q := 0) (As := [.int (a1 + (1 : Int32)), .int a2, .int a3]) (st := []) hK dX5_waysInBehind_47 kB_X5_229 kV_X5_waysIn kd_0 (by decide) rfl rfl (by omega) rfl rfl (Nat.le_of_ble_eq_true rfl) (fun _ _ hf => hrec  hf) (fun v6 h5 => ?_)
    exact J_iret hK dX5_waysInBehind_50
  · refine J_iconst hK dX5_waysInBehind_11 ci_0 ?_
    exact J_iret hK dX5_waysInBehind_12
-- X5_waysIn
theorem dX5_waysIn_0 : DD cX5_waysIn 0 (.aload_n 0) 1 1 := by decide +kernel
theorem dX5_waysIn_1 : DD cX5_waysIn 1 (.getfield 41) 3 4 := by decide +kernel
theorem dX5_waysIn_4 : DD cX5_waysIn 4 (.iload_n 1) 1 5 := by decide +kernel
theorem dX5_waysIn_5 : DD cX5_waysIn 5 (.aaload) 1 6 := by decide +kernel
theorem dX5_waysIn_6 : DD cX5_waysIn 6 (.getfield 138) 3 9 := by decide +kernel
theorem dX5_waysIn_9 : DD cX5_waysIn 9 (.ifCond .ne 10) 3 12 := by decide +kernel
theorem dX5_waysIn_12 : DD cX5_waysIn 12 (.iload_n 2) 1 13 := by decide +kernel
theorem dX5_waysIn_13 : DD cX5_waysIn 13 (.iload_n 1) 1 14 := by decide +kernel
theorem dX5_waysIn_14 : DD cX5_waysIn 14 (.isub) 1 15 := by decide +kernel
theorem dX5_waysIn_15 : DD cX5_waysIn 15 (.invokestatic 233) 3 18 := by decide +kernel
theorem dX5_waysIn_18 : DD cX5_waysIn 18 (.ireturn) 1 19 := by decide +kernel
theorem dX5_waysIn_19 : DD cX5_waysIn 19 (.iload_n 1) 1 20 := by decide +kernel
theorem dX5_waysIn_20 : DD cX5_waysIn 20 (.iload_n 2) 1 21 := by decide +kernel
theorem dX5_waysIn_21 : DD cX5_waysIn 21 (.if_icmp .lt 5) 3 24 := by decide +kernel
theorem dX5_waysIn_24 : DD cX5_waysIn 24 (.iconst 0) 1 25 := by decide +kernel
theorem dX5_waysIn_25 : DD cX5_waysIn 25 (.ireturn) 1 26 := by decide +kernel
theorem dX5_waysIn_26 : DD cX5_waysIn 26 (.iload_n 3) 1 27 := by decide +kernel
theorem dX5_waysIn_27 : DD cX5_waysIn 27 (.ifCond .ne 7) 3 30 := by decide +kernel
theorem dX5_waysIn_30 : DD cX5_waysIn 30 (.iconst 0) 1 31 := by decide +kernel
theorem dX5_waysIn_31 : DD cX5_waysIn 31 (.goto 13) 3 34 := by decide +kernel
theorem dX5_waysIn_34 : DD cX5_waysIn 34 (.iload_n 3) 1 35 := by decide +kernel
theorem dX5_waysIn_35 : DD cX5_waysIn 35 (.aload_n 0) 1 36 := by decide +kernel
theorem dX5_waysIn_36 : DD cX5_waysIn 36 (.iload_n 1) 1 37 := by decide +kernel
theorem dX5_waysIn_37 : DD cX5_waysIn 37 (.iload_n 2) 1 38 := by decide +kernel
theorem dX5_waysIn_38 : DD cX5_waysIn 38 (.iload_n 3) 1 39 := by decide +kernel
theorem dX5_waysIn_39 : DD cX5_waysIn 39 (.iconst 1) 1 40 := by decide +kernel
theorem dX5_waysIn_40 : DD cX5_waysIn 40 (.invokevirtual 287) 3 43 := by decide +kernel
theorem dX5_waysIn_43 : DD cX5_waysIn 43 (.imul) 1 44 := by decide +kernel
theorem dX5_waysIn_44 : DD cX5_waysIn 44 (.istore 4) 2 46 := by decide +kernel
theorem dX5_waysIn_46 : DD cX5_waysIn 46 (.iload_n 3) 1 47 := by decide +kernel
theorem dX5_waysIn_47 : DD cX5_waysIn 47 (.bipush 10) 2 49 := by decide +kernel
theorem dX5_waysIn_49 : DD cX5_waysIn 49 (.if_icmp .ne 7) 3 52 := by decide +kernel
theorem dX5_waysIn_52 : DD cX5_waysIn 52 (.iconst 0) 1 53 := by decide +kernel
theorem dX5_waysIn_53 : DD cX5_waysIn 53 (.goto 16) 3 56 := by decide +kernel
theorem dX5_waysIn_56 : DD cX5_waysIn 56 (.bipush 10) 2 58 := by decide +kernel
theorem dX5_waysIn_58 : DD cX5_waysIn 58 (.iload_n 3) 1 59 := by decide +kernel
theorem dX5_waysIn_59 : DD cX5_waysIn 59 (.isub) 1 60 := by decide +kernel
theorem dX5_waysIn_60 : DD cX5_waysIn 60 (.aload_n 0) 1 61 := by decide +kernel
theorem dX5_waysIn_61 : DD cX5_waysIn 61 (.iload_n 1) 1 62 := by decide +kernel
theorem dX5_waysIn_62 : DD cX5_waysIn 62 (.iload_n 2) 1 63 := by decide +kernel
theorem dX5_waysIn_63 : DD cX5_waysIn 63 (.iload_n 3) 1 64 := by decide +kernel
theorem dX5_waysIn_64 : DD cX5_waysIn 64 (.iconst 0) 1 65 := by decide +kernel
theorem dX5_waysIn_65 : DD cX5_waysIn 65 (.invokevirtual 287) 3 68 := by decide +kernel
theorem dX5_waysIn_68 : DD cX5_waysIn 68 (.imul) 1 69 := by decide +kernel
theorem dX5_waysIn_69 : DD cX5_waysIn 69 (.istore 5) 2 71 := by decide +kernel
theorem dX5_waysIn_71 : DD cX5_waysIn 71 (.iload 4) 2 73 := by decide +kernel
theorem dX5_waysIn_73 : DD cX5_waysIn 73 (.iload 5) 2 75 := by decide +kernel
theorem dX5_waysIn_75 : DD cX5_waysIn 75 (.iadd) 1 76 := by decide +kernel
theorem dX5_waysIn_76 : DD cX5_waysIn 76 (.ireturn) 1 77 := by decide +kernel
def fX5_waysIn : Nat → Int32 → Int32 → Int32 → AH → Option (Int32 × AH)
  | 0, _, _, _, _ => none
  | n + 1, a1, a2, a3, h => (chk (inb a1 (ln 212)) (if (h (212 + 1 + 7 * Int32.toNatClampNeg a1) 3) = 0 then (bnd (fX5_tenToThe (a2 - a1) h) fun v3 h2 => (some (v3, h2))) else (if a1 < a2 then (if a3 = 0 then (if a3 = (10 : Int32) then (some (((0 : Int32) + (0 : Int32)), h)) else (bnd (fX5_waysInBehind (fX5_waysIn n) a1 a2 a3 (0 : Int32) h) fun v5 h4 => (vl (((10 : Int32) - a3) * v5) fun z6 => (some (((0 : Int32) + z6), h4))))) else (bnd (fX5_waysInBehind (fX5_waysIn n) a1 a2 a3 (1 : Int32) h) fun v8 h7 => (vl (a3 * v8) fun z9 => (if a3 = (10 : Int32) then (some ((z9 + (0 : Int32)), h7)) else (bnd (fX5_waysInBehind (fX5_waysIn n) a1 a2 a3 (0 : Int32) h7) fun v11 h10 => (vl (((10 : Int32) - a3) * v11) fun z12 => (some ((z9 + z12), h10)))))))) else (some ((0 : Int32), h)))))
set_option maxHeartbeats 4000000 in
set_option maxRecDepth 4000 in
theorem uX5_waysIn {l : Launch} {X : WX} {n : Nat} : ∀ {a1 : Int32} {a2 : Int32} {a3 : Int32} {h h' : AH} {v : Int32}, fX5_waysIn n a1 a2 a3 h = some (v, h') → Does l X (12 * n + 6) yX5_waysIn cX5_waysIn 6 (some .int) [.ref (X.1 + 0), .int a1, .int a2, .int a3] h (eI v) h' := by
  induction n with
  | zero => exact fun hf => by cases hf
  | succ n ih =>
    intro a1 a2 a3 h h' v hf
    refine Does.of (enc := eI) (o := fX5_waysIn (n + 1) a1 a2 a3 h) (lv := [(0, .ref (X.1 + 0)), (1, .int a1), (2, .int a2), (3, .int a3)]) (by decide) (Nat.le_of_ble_eq_true rfl) rfl hf (fun K hl hK => ?_)
    subst hl
    rw [fX5_waysIn]
    refine J_aload_n hK dX5_waysIn_0 0 rfl ?_
    refine rF_X5_41 (q2 := 212) hK dX5_waysIn_1 kd_0 rfl ?_
    refine J_iload_n hK dX5_waysIn_4 1 rfl ?_
    refine J_aaldE hK dX5_waysIn_5 kd_212 (fun q1 => ?_)
    refine gF_X5_138 hK dX5_waysIn_6 (kdA_212 q1) ?_
    refine J_if_ne (tgt := 19) hK dX5_waysIn_9 (by decide) ?_ ?_
    · refine J_iload_n hK dX5_waysIn_12 2 rfl ?_
      refine J_iload_n hK dX5_waysIn_13 1 rfl ?_
      refine J_isub hK dX5_waysIn_14 ?_
      refine J_callSi (As := [.int (a2 - a1)]) (st := []) hK dX5_waysIn_15 kB_X5_233 kS_X5_tenToThe (by omega) rfl rfl (Nat.le_of_ble_eq_true rfl) (fun _ _ hf => uX5_tenToThe  hf) (fun v3 h2 => ?_)
      exact J_iret hK dX5_waysIn_18
    · refine J_iload_n hK dX5_waysIn_19 1 rfl ?_
      refine J_iload_n hK dX5_waysIn_20 2 rfl ?_
      refine J_icmp_lt (tgt := 26) hK dX5_waysIn_21 (by decide) ?_ ?_
      · refine J_iload_n hK dX5_waysIn_26 3 rfl ?_
        refine J_if_ne (tgt := 34) hK dX5_waysIn_27 (by decide) ?_ ?_
        · refine J_iconst hK dX5_waysIn_30 ci_0 ?_
          refine J_goto (len := 0) (tgt := 44) hK dX5_waysIn_31 (by decide) ?_
          refine J_istore (lw := [(0, .ref (X.1 + 0)), (1, .int a1), (2, .int a2), (3, .int a3)]) hK dX5_waysIn_44 (by decide) rfl ?_
          refine J_iload_n hK dX5_waysIn_46 4 rfl ?_
          refine J_bipush hK dX5_waysIn_47 cb_10 ?_
          refine J_icmp_ne (tgt := 56) hK dX5_waysIn_49 (by decide) ?_ ?_
          · refine J_iconst hK dX5_waysIn_52 ci_0 ?_
            refine J_goto (len := 0) (tgt := 69) hK dX5_waysIn_53 (by decide) ?_
            refine J_istore (lw := [(4, .int (0 : Int32)), (0, .ref (X.1 + 0)), (1, .int a1), (2, .int a2), (3, .int a3)]) hK dX5_waysIn_69 (by decide) rfl ?_
            refine J_iload hK dX5_waysIn_71 1 rfl ?_
            refine J_iload hK dX5_waysIn_73 0 rfl ?_
            refine J_iadd hK dX5_waysIn_75 ?_
            exact J_iret hK dX5_waysIn_76
          · refine J_bipush hK dX5_waysIn_56 cb_10 ?_
            refine J_iload_n hK dX5_waysIn_58 4 rfl ?_
            refine J_isub hK dX5_waysIn_59 ?_
            refine J_aload_n hK dX5_waysIn_60 1 rfl ?_
            refine J_iload_n hK dX5_waysIn_61 2 rfl ?_
            refine J_iload_n hK dX5_waysIn_62 3 rfl ?_
            refine J_iload_n hK dX5_waysIn_63 4 rfl ?_
            refine J_iconst hK dX5_waysIn_64 ci_0 ?_
            refine J_callVi (q := 0) (As := [.int a1, .int a2, .int a3, .int (0 : Int32)]) (st := [.int ((10 : Int32) - a3)]) hK dX5_waysIn_65 kB_X5_287 kV_X5_waysInBehind kd_0 (by decide) rfl rfl (by omega) rfl rfl (Nat.le_of_ble_eq_true rfl) (fun _ _ hf => uX5_waysInBehind @ih  hf) (fun v5 h4 => ?_)
            refine J_imul hK dX5_waysIn_68 ?_
            refine J_istoreV (lw := [(4, .int (0 : Int32)), (0, .ref (X.1 + 0)), (1, .int a1), (2, .int a2), (3, .int a3)]) hK dX5_waysIn_69 (by decide) rfl (fun z6 => ?_)
            refine J_iload hK dX5_waysIn_71 1 rfl ?_
            refine J_iload hK dX5_waysIn_73 0 rfl ?_
            refine J_iadd hK dX5_waysIn_75 ?_
            exact J_iret hK dX5_waysIn_76
        · refine J_iload_n hK dX5_waysIn_34 3 rfl ?_
          refine J_aload_n hK dX5_waysIn_35 0 rfl ?_
          refine J_iload_n hK dX5_waysIn_36 1 rfl ?_
          refine J_iload_n hK dX5_waysIn_37 2 rfl ?_
          refine J_iload_n hK dX5_waysIn_38 3 rfl ?_
          refine J_iconst hK dX5_waysIn_39 ci_1 ?_
          refine J_callVi (q := 0) (As := [.int a1, .int a2, .int a3, .int (1 : Int32)]) (st := [.int a3]) hK dX5_waysIn_40 kB_X5_287 kV_X5_waysInBehind kd_0 (by decide) rfl rfl (by omega) rfl rfl (Nat.le_of_ble_eq_true rfl) (fun _ _ hf => uX5_waysInBehind @ih  hf) (fun v8 h7 => ?_)
          refine J_imul hK dX5_waysIn_43 ?_
          refine J_istoreV (lw := [(0, .ref (X.1 + 0)), (1, .int a1), (2, .int a2), (3, .int a3)]) hK dX5_waysIn_44 (by decide) rfl (fun z9 => ?_)
          refine J_iload_n hK dX5_waysIn_46 4 rfl ?_
          refine J_bipush hK dX5_waysIn_47 cb_10 ?_
          refine J_icmp_ne (tgt := 56) hK dX5_waysIn_49 (by decide) ?_ ?_
          · refine J_iconst hK dX5_waysIn_52 ci_0 ?_
            refine J_goto (len := 0) (tgt := 69) hK dX5_waysIn_53 (by decide) ?_
            refine J_istore (lw := [(4, .int z9), (0, .ref (X.1 + 0)), (1, .int a1), (2, .int a2), (3, .int a3)]) hK dX5_waysIn_69 (by decide) rfl ?_
            refine J_iload hK dX5_waysIn_71 1 rfl ?_
            refine J_iload hK dX5_waysIn_73 0 rfl ?_
            refine J_iadd hK dX5_waysIn_75 ?_
            exact J_iret hK dX5_waysIn_76
          · refine J_bipush hK dX5_waysIn_56 cb_10 ?_
            refine J_iload_n hK dX5_waysIn_58 4 rfl ?_
            refine J_isub hK dX5_waysIn_59 ?_
            refine J_aload_n hK dX5_waysIn_60 1 rfl ?_
            refine J_iload_n hK dX5_waysIn_61 2 rfl ?_
            refine J_iload_n hK dX5_waysIn_62 3 rfl ?_
            refine J_iload_n hK dX5_waysIn_63 4 rfl ?_
            refine J_iconst hK dX5_waysIn_64 ci_0 ?_
            refine J_callVi (q := 0) (As := [.int a1, .int a2, .int a3, .int (0 : Int32)]) (st := [.int ((10 : Int32) - a3)]) hK dX5_waysIn_65 kB_X5_287 kV_X5_waysInBehind kd_0 (by decide) rfl rfl (by omega) rfl rfl (Nat.le_of_ble_eq_true rfl) (fun _ _ hf => uX5_waysInBehind @ih  hf) (fun v11 h10 => ?_)
            refine J_imul hK dX5_waysIn_68 ?_
            refine J_istoreV (lw := [(4, .int z9), (0, .ref (X.1 + 0)), (1, .int a1), (2, .int a2), (3, .int a3)]) hK dX5_waysIn_69 (by decide) rfl (fun z12 => ?_)
            refine J_iload hK dX5_waysIn_71 1 rfl ?_
            refine J_iload hK dX5_waysIn_73 0 rfl ?_
            refine J_iadd hK dX5_waysIn_75 ?_
            exact J_iret hK dX5_waysIn_76
      · refine J_iconst hK dX5_waysIn_24 ci_0 ?_
        exact J_iret hK dX5_waysIn_25
-- X5_chance
theorem dX5_chance_0 : DD cX5_chance 0 (.aload_n 0) 1 1 := by decide +kernel
theorem dX5_chance_1 : DD cX5_chance 1 (.invokevirtual 124) 3 4 := by decide +kernel
theorem dX5_chance_4 : DD cX5_chance 4 (.ifCond .eq 6) 3 7 := by decide +kernel
theorem dX5_chance_7 : DD cX5_chance 7 (.ldc 127) 2 9 := by decide +kernel
theorem dX5_chance_9 : DD cX5_chance 9 (.ireturn) 1 10 := by decide +kernel
theorem dX5_chance_10 : DD cX5_chance 10 (.iload_n 1) 1 11 := by decide +kernel
theorem dX5_chance_11 : DD cX5_chance 11 (.ifCond .lt 26) 3 14 := by decide +kernel
theorem dX5_chance_14 : DD cX5_chance 14 (.iload_n 1) 1 15 := by decide +kernel
theorem dX5_chance_15 : DD cX5_chance 15 (.bipush 8) 2 17 := by decide +kernel
theorem dX5_chance_17 : DD cX5_chance 17 (.if_icmp .gt 20) 3 20 := by decide +kernel
theorem dX5_chance_20 : DD cX5_chance 20 (.iload_n 2) 1 21 := by decide +kernel
theorem dX5_chance_21 : DD cX5_chance 21 (.ifCond .lt 16) 3 24 := by decide +kernel
theorem dX5_chance_24 : DD cX5_chance 24 (.iload_n 2) 1 25 := by decide +kernel
theorem dX5_chance_25 : DD cX5_chance 25 (.bipush 10) 2 27 := by decide +kernel
theorem dX5_chance_27 : DD cX5_chance 27 (.if_icmp .gt 10) 3 30 := by decide +kernel
theorem dX5_chance_30 : DD cX5_chance 30 (.iload_n 3) 1 31 := by decide +kernel
theorem dX5_chance_31 : DD cX5_chance 31 (.invokestatic 203) 3 34 := by decide +kernel
theorem dX5_chance_34 : DD cX5_chance 34 (.ifCond .eq 6) 3 37 := by decide +kernel
theorem dX5_chance_37 : DD cX5_chance 37 (.ldc 55) 2 39 := by decide +kernel
theorem dX5_chance_39 : DD cX5_chance 39 (.ireturn) 1 40 := by decide +kernel
theorem dX5_chance_40 : DD cX5_chance 40 (.aload_n 0) 1 41 := by decide +kernel
theorem dX5_chance_41 : DD cX5_chance 41 (.invokevirtual 185) 3 44 := by decide +kernel
theorem dX5_chance_44 : DD cX5_chance 44 (.pop) 1 45 := by decide +kernel
theorem dX5_chance_45 : DD cX5_chance 45 (.aload_n 0) 1 46 := by decide +kernel
theorem dX5_chance_46 : DD cX5_chance 46 (.iconst 0) 1 47 := by decide +kernel
theorem dX5_chance_47 : DD cX5_chance 47 (.iload_n 1) 1 48 := by decide +kernel
theorem dX5_chance_48 : DD cX5_chance 48 (.iload_n 2) 1 49 := by decide +kernel
theorem dX5_chance_49 : DD cX5_chance 49 (.invokevirtual 229) 3 52 := by decide +kernel
theorem dX5_chance_52 : DD cX5_chance 52 (.istore 4) 2 54 := by decide +kernel
theorem dX5_chance_54 : DD cX5_chance 54 (.iload_n 1) 1 55 := by decide +kernel
theorem dX5_chance_55 : DD cX5_chance 55 (.invokestatic 233) 3 58 := by decide +kernel
theorem dX5_chance_58 : DD cX5_chance 58 (.istore 5) 2 60 := by decide +kernel
theorem dX5_chance_60 : DD cX5_chance 60 (.iload 4) 2 62 := by decide +kernel
theorem dX5_chance_62 : DD cX5_chance 62 (.iload 5) 2 64 := by decide +kernel
theorem dX5_chance_64 : DD cX5_chance 64 (.invokestatic 236) 3 67 := by decide +kernel
theorem dX5_chance_67 : DD cX5_chance 67 (.istore 6) 2 69 := by decide +kernel
theorem dX5_chance_69 : DD cX5_chance 69 (.iload 6) 2 71 := by decide +kernel
theorem dX5_chance_71 : DD cX5_chance 71 (.iconst 1) 1 72 := by decide +kernel
theorem dX5_chance_72 : DD cX5_chance 72 (.if_icmp .ge 6) 3 75 := by decide +kernel
theorem dX5_chance_75 : DD cX5_chance 75 (.ldc 202) 2 77 := by decide +kernel
theorem dX5_chance_77 : DD cX5_chance 77 (.ireturn) 1 78 := by decide +kernel
theorem dX5_chance_78 : DD cX5_chance 78 (.iload_n 3) 1 79 := by decide +kernel
theorem dX5_chance_79 : DD cX5_chance 79 (.ifCond .ne 8) 3 82 := by decide +kernel
theorem dX5_chance_82 : DD cX5_chance 82 (.iload 4) 2 84 := by decide +kernel
theorem dX5_chance_84 : DD cX5_chance 84 (.goto 5) 3 87 := by decide +kernel
theorem dX5_chance_87 : DD cX5_chance 87 (.iload 5) 2 89 := by decide +kernel
theorem dX5_chance_89 : DD cX5_chance 89 (.iload 6) 2 91 := by decide +kernel
theorem dX5_chance_91 : DD cX5_chance 91 (.idiv) 1 92 := by decide +kernel
theorem dX5_chance_92 : DD cX5_chance 92 (.ireturn) 1 93 := by decide +kernel
def fX5_chance (a1 : Int32) (a2 : Int32) (a3 : Int32) (h : AH) : Option (Int32 × AH) := (bnd (fX5_noEstuary  h) fun v2 h1 => (if v2 = 0 then (if a1 < 0 then (some ((-1000001 : Int32), h1)) else (if (8 : Int32) < a1 then (some ((-1000001 : Int32), h1)) else (if a2 < 0 then (some ((-1000001 : Int32), h1)) else (if (10 : Int32) < a2 then (some ((-1000001 : Int32), h1)) else (bnd (fX5_noHalf a3 h1) fun v4 h3 => (if v4 = 0 then (bnd (fX5_fromNow  h3) fun v6 h5 => chk (kd v6 = 2) (bnd (fX5_waysIn 10 (0 : Int32) a1 a2 h5) fun v9 h8 => (bnd (fX5_tenToThe a1 h8) fun v11 h10 => (bnd (fX5_commonDivisor v9 v11 h10) fun v13 h12 => (if v13 < (1 : Int32) then (some ((-1000000 : Int32), h12)) else (if a3 = 0 then (chk (¬ v13 = 0) (some ((v9 / v13), h12))) else (chk (¬ v13 = 0) (some ((v11 / v13), h12))))))))) else (some ((-1000001 : Int32), h3)))))))) else (some ((-1000002 : Int32), h1))))
set_option maxHeartbeats 4000000 in
set_option maxRecDepth 4000 in
theorem uX5_chance {l : Launch} {X : WX} {a1 : Int32} {a2 : Int32} {a3 : Int32} {h h' : AH} {v : Int32} (hf : fX5_chance a1 a2 a3 h = some (v, h')) : Does l X 127 yX5_chance cX5_chance 7 (some .int) [.ref (X.1 + 0), .int a1, .int a2, .int a3] h (eI v) h' := by
  refine Does.of (enc := eI) (o := fX5_chance a1 a2 a3 h) (lv := [(0, .ref (X.1 + 0)), (1, .int a1), (2, .int a2), (3, .int a3)]) (by decide) (Nat.le_of_ble_eq_true rfl) rfl hf (fun K hl hK => ?_)
  subst hl
  unfold fX5_chance
  refine J_aload_n hK dX5_chance_0 0 rfl ?_
  refine J_callVi (q := 0) (As := []) (st := []) hK dX5_chance_1 kB_X5_124 kV_X5_noEstuary kd_0 (by decide) rfl rfl (by decide) rfl rfl (Nat.le_of_ble_eq_true rfl) (fun _ _ hf => uX5_noEstuary  hf) (fun v2 h1 => ?_)
  refine J_if_eq (tgt := 10) hK dX5_chance_4 (by decide) ?_ ?_
  · refine J_iload_n hK dX5_chance_10 1 rfl ?_
    refine J_if_lt (tgt := 37) hK dX5_chance_11 (by decide) ?_ ?_
    · refine J_ldc hK dX5_chance_37 kK_X5_55 ?_
      exact J_iret hK dX5_chance_39
    · refine J_iload_n hK dX5_chance_14 1 rfl ?_
      refine J_bipush hK dX5_chance_15 cb_8 ?_
      refine J_icmp_gt (tgt := 37) hK dX5_chance_17 (by decide) ?_ ?_
      · refine J_ldc hK dX5_chance_37 kK_X5_55 ?_
        exact J_iret hK dX5_chance_39
      · refine J_iload_n hK dX5_chance_20 2 rfl ?_
        refine J_if_lt (tgt := 37) hK dX5_chance_21 (by decide) ?_ ?_
        · refine J_ldc hK dX5_chance_37 kK_X5_55 ?_
          exact J_iret hK dX5_chance_39
        · refine J_iload_n hK dX5_chance_24 2 rfl ?_
          refine J_bipush hK dX5_chance_25 cb_10 ?_
          refine J_icmp_gt (tgt := 37) hK dX5_chance_27 (by decide) ?_ ?_
          · refine J_ldc hK dX5_chance_37 kK_X5_55 ?_
            exact J_iret hK dX5_chance_39
          · refine J_iload_n hK dX5_chance_30 3 rfl ?_
            refine J_callSi (As := [.int a3]) (st := []) hK dX5_chance_31 kB_X5_203 kS_X5_noHalf (by decide) rfl rfl (Nat.le_of_ble_eq_true rfl) (fun _ _ hf => uX5_noHalf  hf) (fun v4 h3 => ?_)
            refine J_if_eq (tgt := 40) hK dX5_chance_34 (by decide) ?_ ?_
            · refine J_aload_n hK dX5_chance_40 0 rfl ?_
              refine J_callVr (q := 0) (As := []) (st := []) hK dX5_chance_41 kB_X5_185 kV_X5_fromNow kd_0 (by decide) rfl rfl (by decide) rfl rfl (Nat.le_of_ble_eq_true rfl) (fun _ _ hf => uX5_fromNow  hf) (fun v6 h5 => ?_)
              refine J_chk (fun q7 => ?_)
              refine J_pop hK dX5_chance_44 rfl ?_
              refine J_aload_n hK dX5_chance_45 0 rfl ?_
              refine J_iconst hK dX5_chance_46 ci_0 ?_
              refine J_iload_n hK dX5_chance_47 1 rfl ?_
              refine J_iload_n hK dX5_chance_48 2 rfl ?_
              refine J_callVi (q := 0) (As := [.int (0 : Int32), .int a1, .int a2]) (st := []) hK dX5_chance_49 kB_X5_229 kV_X5_waysIn kd_0 (by decide) rfl rfl (by decide) rfl rfl (Nat.le_of_ble_eq_true rfl) (fun _ _ hf => uX5_waysIn (n := 10)  hf) (fun v9 h8 => ?_)
              refine J_istore (lw := [(0, .ref (X.1 + 0)), (1, .int a1), (2, .int a2), (3, .int a3)]) hK dX5_chance_52 (by decide) rfl ?_
              refine J_iload_n hK dX5_chance_54 2 rfl ?_
              refine J_callSi (As := [.int a1]) (st := []) hK dX5_chance_55 kB_X5_233 kS_X5_tenToThe (by decide) rfl rfl (Nat.le_of_ble_eq_true rfl) (fun _ _ hf => uX5_tenToThe  hf) (fun v11 h10 => ?_)
              refine J_istore (lw := [(4, .int v9), (0, .ref (X.1 + 0)), (1, .int a1), (2, .int a2), (3, .int a3)]) hK dX5_chance_58 (by decide) rfl ?_
              refine J_iload hK dX5_chance_60 1 rfl ?_
              refine J_iload hK dX5_chance_62 0 rfl ?_
              refine J_callSi (As := [.int v9, .int v11]) (st := []) hK dX5_chance_64 kB_X5_236 kS_X5_commonDivisor (by decide) rfl rfl (Nat.le_of_ble_eq_true rfl) (fun _ _ hf => uX5_commonDivisor  hf) (fun v13 h12 => ?_)
              refine J_istore (lw := [(5, .int v11), (4, .int v9), (0, .ref (X.1 + 0)), (1, .int a1), (2, .int a2), (3, .int a3)]) hK dX5_chance_67 (by decide) rfl ?_
              refine J_iload hK dX5_chance_69 0 rfl ?_
              refine J_iconst hK dX5_chance_71 ci_1 ?_
              refine J_icmp_ge (tgt := 78) hK dX5_chance_72 (by decide) ?_ ?_
              · refine J_ldc hK dX5_chance_75 kK_X5_202 ?_
                exact J_iret hK dX5_chance_77
              · refine J_iload_n hK dX5_chance_78 6 rfl ?_
                refine J_if_ne (tgt := 87) hK dX5_chance_79 (by decide) ?_ ?_
                · refine J_iload hK dX5_chance_82 2 rfl ?_
                  refine J_goto (len := 0) (tgt := 89) hK dX5_chance_84 (by decide) ?_
                  refine J_iload hK dX5_chance_89 0 rfl ?_
                  refine J_idiv hK dX5_chance_91 ?_
                  exact J_iret hK dX5_chance_92
                · refine J_iload hK dX5_chance_87 1 rfl ?_
                  refine J_iload hK dX5_chance_89 0 rfl ?_
                  refine J_idiv hK dX5_chance_91 ?_
                  exact J_iret hK dX5_chance_92
            · refine J_ldc hK dX5_chance_37 kK_X5_55 ?_
              exact J_iret hK dX5_chance_39
  · refine J_ldc hK dX5_chance_7 kK_X5_127 ?_
    exact J_iret hK dX5_chance_9
