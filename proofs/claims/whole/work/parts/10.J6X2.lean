-- J6_bitCount_0f7a4
theorem dJ6_bitCount_0f7a4_0 : DD cJ6_bitCount_0f7a4 0 (.iload_n 0) 1 1 := by decide +kernel
theorem dJ6_bitCount_0f7a4_1 : DD cJ6_bitCount_0f7a4 1 (.iload_n 0) 1 2 := by decide +kernel
theorem dJ6_bitCount_0f7a4_2 : DD cJ6_bitCount_0f7a4 2 (.iconst 1) 1 3 := by decide +kernel
theorem dJ6_bitCount_0f7a4_3 : DD cJ6_bitCount_0f7a4 3 (.iushr) 1 4 := by decide +kernel
theorem dJ6_bitCount_0f7a4_4 : DD cJ6_bitCount_0f7a4 4 (.ldc_w 265) 3 7 := by decide +kernel
theorem dJ6_bitCount_0f7a4_7 : DD cJ6_bitCount_0f7a4 7 (.iand) 1 8 := by decide +kernel
theorem dJ6_bitCount_0f7a4_8 : DD cJ6_bitCount_0f7a4 8 (.isub) 1 9 := by decide +kernel
theorem dJ6_bitCount_0f7a4_9 : DD cJ6_bitCount_0f7a4 9 (.istore_n 0) 1 10 := by decide +kernel
theorem dJ6_bitCount_0f7a4_10 : DD cJ6_bitCount_0f7a4 10 (.iload_n 0) 1 11 := by decide +kernel
theorem dJ6_bitCount_0f7a4_11 : DD cJ6_bitCount_0f7a4 11 (.ldc_w 266) 3 14 := by decide +kernel
theorem dJ6_bitCount_0f7a4_14 : DD cJ6_bitCount_0f7a4 14 (.iand) 1 15 := by decide +kernel
theorem dJ6_bitCount_0f7a4_15 : DD cJ6_bitCount_0f7a4 15 (.iload_n 0) 1 16 := by decide +kernel
theorem dJ6_bitCount_0f7a4_16 : DD cJ6_bitCount_0f7a4 16 (.iconst 2) 1 17 := by decide +kernel
theorem dJ6_bitCount_0f7a4_17 : DD cJ6_bitCount_0f7a4 17 (.iushr) 1 18 := by decide +kernel
theorem dJ6_bitCount_0f7a4_18 : DD cJ6_bitCount_0f7a4 18 (.ldc_w 266) 3 21 := by decide +kernel
theorem dJ6_bitCount_0f7a4_21 : DD cJ6_bitCount_0f7a4 21 (.iand) 1 22 := by decide +kernel
theorem dJ6_bitCount_0f7a4_22 : DD cJ6_bitCount_0f7a4 22 (.iadd) 1 23 := by decide +kernel
theorem dJ6_bitCount_0f7a4_23 : DD cJ6_bitCount_0f7a4 23 (.istore_n 0) 1 24 := by decide +kernel
theorem dJ6_bitCount_0f7a4_24 : DD cJ6_bitCount_0f7a4 24 (.iload_n 0) 1 25 := by decide +kernel
theorem dJ6_bitCount_0f7a4_25 : DD cJ6_bitCount_0f7a4 25 (.iload_n 0) 1 26 := by decide +kernel
theorem dJ6_bitCount_0f7a4_26 : DD cJ6_bitCount_0f7a4 26 (.iconst 4) 1 27 := by decide +kernel
theorem dJ6_bitCount_0f7a4_27 : DD cJ6_bitCount_0f7a4 27 (.iushr) 1 28 := by decide +kernel
theorem dJ6_bitCount_0f7a4_28 : DD cJ6_bitCount_0f7a4 28 (.iadd) 1 29 := by decide +kernel
theorem dJ6_bitCount_0f7a4_29 : DD cJ6_bitCount_0f7a4 29 (.ldc_w 267) 3 32 := by decide +kernel
theorem dJ6_bitCount_0f7a4_32 : DD cJ6_bitCount_0f7a4 32 (.iand) 1 33 := by decide +kernel
theorem dJ6_bitCount_0f7a4_33 : DD cJ6_bitCount_0f7a4 33 (.istore_n 0) 1 34 := by decide +kernel
theorem dJ6_bitCount_0f7a4_34 : DD cJ6_bitCount_0f7a4 34 (.iload_n 0) 1 35 := by decide +kernel
theorem dJ6_bitCount_0f7a4_35 : DD cJ6_bitCount_0f7a4 35 (.iload_n 0) 1 36 := by decide +kernel
theorem dJ6_bitCount_0f7a4_36 : DD cJ6_bitCount_0f7a4 36 (.bipush 8) 2 38 := by decide +kernel
theorem dJ6_bitCount_0f7a4_38 : DD cJ6_bitCount_0f7a4 38 (.iushr) 1 39 := by decide +kernel
theorem dJ6_bitCount_0f7a4_39 : DD cJ6_bitCount_0f7a4 39 (.iadd) 1 40 := by decide +kernel
theorem dJ6_bitCount_0f7a4_40 : DD cJ6_bitCount_0f7a4 40 (.istore_n 0) 1 41 := by decide +kernel
theorem dJ6_bitCount_0f7a4_41 : DD cJ6_bitCount_0f7a4 41 (.iload_n 0) 1 42 := by decide +kernel
theorem dJ6_bitCount_0f7a4_42 : DD cJ6_bitCount_0f7a4 42 (.iload_n 0) 1 43 := by decide +kernel
theorem dJ6_bitCount_0f7a4_43 : DD cJ6_bitCount_0f7a4 43 (.bipush 16) 2 45 := by decide +kernel
theorem dJ6_bitCount_0f7a4_45 : DD cJ6_bitCount_0f7a4 45 (.iushr) 1 46 := by decide +kernel
theorem dJ6_bitCount_0f7a4_46 : DD cJ6_bitCount_0f7a4 46 (.iadd) 1 47 := by decide +kernel
theorem dJ6_bitCount_0f7a4_47 : DD cJ6_bitCount_0f7a4 47 (.istore_n 0) 1 48 := by decide +kernel
theorem dJ6_bitCount_0f7a4_48 : DD cJ6_bitCount_0f7a4 48 (.iload_n 0) 1 49 := by decide +kernel
theorem dJ6_bitCount_0f7a4_49 : DD cJ6_bitCount_0f7a4 49 (.bipush 63) 2 51 := by decide +kernel
theorem dJ6_bitCount_0f7a4_51 : DD cJ6_bitCount_0f7a4 51 (.iand) 1 52 := by decide +kernel
theorem dJ6_bitCount_0f7a4_52 : DD cJ6_bitCount_0f7a4 52 (.ireturn) 1 53 := by decide +kernel
def fJ6_bitCount_0f7a4 (a0 : Int32) (h : AH) : Option (Int32 × AH) := (vl (a0 - ((Int32.toUInt32 a0 >>> (Int32.toUInt32 (1 : Int32) &&& Int32.toUInt32 31)).toInt32 &&& (1431655765 : Int32))) fun z1 => (vl ((z1 &&& (858993459 : Int32)) + ((Int32.toUInt32 z1 >>> (Int32.toUInt32 (2 : Int32) &&& Int32.toUInt32 31)).toInt32 &&& (858993459 : Int32))) fun z2 => (vl ((z2 + (Int32.toUInt32 z2 >>> (Int32.toUInt32 (4 : Int32) &&& Int32.toUInt32 31)).toInt32) &&& (252645135 : Int32)) fun z3 => (vl (z3 + (Int32.toUInt32 z3 >>> (Int32.toUInt32 (8 : Int32) &&& Int32.toUInt32 31)).toInt32) fun z4 => (vl (z4 + (Int32.toUInt32 z4 >>> (Int32.toUInt32 (16 : Int32) &&& Int32.toUInt32 31)).toInt32) fun z5 => (some ((z5 &&& (63 : Int32)), h)))))))
set_option maxHeartbeats 4000000 in
set_option maxRecDepth 4000 in
theorem uJ6_bitCount_0f7a4 {l : Launch} {X : WX} {a0 : Int32} {h h' : AH} {v : Int32} (hf : fJ6_bitCount_0f7a4 a0 h = some (v, h')) : Does l X 1 yJ6_bitCount_0f7a4 cJ6_bitCount_0f7a4 1 (some .int) [.int a0] h (eI v) h' := by
  refine Does.of (enc := eI) (o := fJ6_bitCount_0f7a4 a0 h) (lv := [(0, .int a0)]) (by decide) (Nat.le_of_ble_eq_true rfl) rfl hf (fun K hl hK => ?_)
  subst hl
  unfold fJ6_bitCount_0f7a4
  refine J_iload_n hK dJ6_bitCount_0f7a4_0 0 rfl ?_
  refine J_iload_n hK dJ6_bitCount_0f7a4_1 0 rfl ?_
  refine J_iconst hK dJ6_bitCount_0f7a4_2 ci_1 ?_
  refine J_iushr hK dJ6_bitCount_0f7a4_3 ?_
  refine J_ldcw hK dJ6_bitCount_0f7a4_4 kK_J6_265 ?_
  refine J_iand hK dJ6_bitCount_0f7a4_7 ?_
  refine J_isub hK dJ6_bitCount_0f7a4_8 ?_
  refine J_istoreV_n (n := 0) (lw := []) hK dJ6_bitCount_0f7a4_9 rfl (by decide) rfl (fun z1 => ?_)
  refine J_iload_n hK dJ6_bitCount_0f7a4_10 0 rfl ?_
  refine J_ldcw hK dJ6_bitCount_0f7a4_11 kK_J6_266 ?_
  refine J_iand hK dJ6_bitCount_0f7a4_14 ?_
  refine J_iload_n hK dJ6_bitCount_0f7a4_15 0 rfl ?_
  refine J_iconst hK dJ6_bitCount_0f7a4_16 ci_2 ?_
  refine J_iushr hK dJ6_bitCount_0f7a4_17 ?_
  refine J_ldcw hK dJ6_bitCount_0f7a4_18 kK_J6_266 ?_
  refine J_iand hK dJ6_bitCount_0f7a4_21 ?_
  refine J_iadd hK dJ6_bitCount_0f7a4_22 ?_
  refine J_istoreV_n (n := 0) (lw := []) hK dJ6_bitCount_0f7a4_23 rfl (by decide) rfl (fun z2 => ?_)
  refine J_iload_n hK dJ6_bitCount_0f7a4_24 0 rfl ?_
  refine J_iload_n hK dJ6_bitCount_0f7a4_25 0 rfl ?_
  refine J_iconst hK dJ6_bitCount_0f7a4_26 ci_4 ?_
  refine J_iushr hK dJ6_bitCount_0f7a4_27 ?_
  refine J_iadd hK dJ6_bitCount_0f7a4_28 ?_
  refine J_ldcw hK dJ6_bitCount_0f7a4_29 kK_J6_267 ?_
  refine J_iand hK dJ6_bitCount_0f7a4_32 ?_
  refine J_istoreV_n (n := 0) (lw := []) hK dJ6_bitCount_0f7a4_33 rfl (by decide) rfl (fun z3 => ?_)
  refine J_iload_n hK dJ6_bitCount_0f7a4_34 0 rfl ?_
  refine J_iload_n hK dJ6_bitCount_0f7a4_35 0 rfl ?_
  refine J_bipush hK dJ6_bitCount_0f7a4_36 cb_8 ?_
  refine J_iushr hK dJ6_bitCount_0f7a4_38 ?_
  refine J_iadd hK dJ6_bitCount_0f7a4_39 ?_
  refine J_istoreV_n (n := 0) (lw := []) hK dJ6_bitCount_0f7a4_40 rfl (by decide) rfl (fun z4 => ?_)
  refine J_iload_n hK dJ6_bitCount_0f7a4_41 0 rfl ?_
  refine J_iload_n hK dJ6_bitCount_0f7a4_42 0 rfl ?_
  refine J_bipush hK dJ6_bitCount_0f7a4_43 cb_16 ?_
  refine J_iushr hK dJ6_bitCount_0f7a4_45 ?_
  refine J_iadd hK dJ6_bitCount_0f7a4_46 ?_
  refine J_istoreV_n (n := 0) (lw := []) hK dJ6_bitCount_0f7a4_47 rfl (by decide) rfl (fun z5 => ?_)
  refine J_iload_n hK dJ6_bitCount_0f7a4_48 0 rfl ?_
  refine J_bipush hK dJ6_bitCount_0f7a4_49 cb_63 ?_
  refine J_iand hK dJ6_bitCount_0f7a4_51 ?_
  exact J_iret hK dJ6_bitCount_0f7a4_52
-- X2_empty
theorem dX2_empty_0 : DD cX2_empty 0 (.aload_n 0) 1 1 := by decide +kernel
theorem dX2_empty_1 : DD cX2_empty 1 (.iconst 0) 1 2 := by decide +kernel
theorem dX2_empty_2 : DD cX2_empty 2 (.putfield 30) 3 5 := by decide +kernel
theorem dX2_empty_5 : DD cX2_empty 5 (.aload_n 0) 1 6 := by decide +kernel
theorem dX2_empty_6 : DD cX2_empty 6 (.iconst 0) 1 7 := by decide +kernel
theorem dX2_empty_7 : DD cX2_empty 7 (.putfield 34) 3 10 := by decide +kernel
theorem dX2_empty_10 : DD cX2_empty 10 (.aload_n 0) 1 11 := by decide +kernel
theorem dX2_empty_11 : DD cX2_empty 11 (.iconst 0) 1 12 := by decide +kernel
theorem dX2_empty_12 : DD cX2_empty 12 (.putfield 37) 3 15 := by decide +kernel
theorem dX2_empty_15 : DD cX2_empty 15 (.aload_n 0) 1 16 := by decide +kernel
theorem dX2_empty_16 : DD cX2_empty 16 (.iconst 0) 1 17 := by decide +kernel
theorem dX2_empty_17 : DD cX2_empty 17 (.putfield 40) 3 20 := by decide +kernel
theorem dX2_empty_20 : DD cX2_empty 20 (.aload_n 0) 1 21 := by decide +kernel
theorem dX2_empty_21 : DD cX2_empty 21 (.iconst 0) 1 22 := by decide +kernel
theorem dX2_empty_22 : DD cX2_empty 22 (.putfield 43) 3 25 := by decide +kernel
theorem dX2_empty_25 : DD cX2_empty 25 (.aload_n 0) 1 26 := by decide +kernel
theorem dX2_empty_26 : DD cX2_empty 26 (.iconst 0) 1 27 := by decide +kernel
theorem dX2_empty_27 : DD cX2_empty 27 (.putfield 46) 3 30 := by decide +kernel
theorem dX2_empty_30 : DD cX2_empty 30 (.iconst 0) 1 31 := by decide +kernel
theorem dX2_empty_31 : DD cX2_empty 31 (.istore_n 1) 1 32 := by decide +kernel
theorem dX2_empty_32 : DD cX2_empty 32 (.iload_n 1) 1 33 := by decide +kernel
theorem dX2_empty_33 : DD cX2_empty 33 (.bipush 6) 2 35 := by decide +kernel
theorem dX2_empty_35 : DD cX2_empty 35 (.if_icmp .ge 16) 3 38 := by decide +kernel
theorem dX2_empty_38 : DD cX2_empty 38 (.aload_n 0) 1 39 := by decide +kernel
theorem dX2_empty_39 : DD cX2_empty 39 (.getfield 21) 3 42 := by decide +kernel
theorem dX2_empty_42 : DD cX2_empty 42 (.iload_n 1) 1 43 := by decide +kernel
theorem dX2_empty_43 : DD cX2_empty 43 (.iconst 0) 1 44 := by decide +kernel
theorem dX2_empty_44 : DD cX2_empty 44 (.iastore) 1 45 := by decide +kernel
theorem dX2_empty_45 : DD cX2_empty 45 (.iinc 1 1) 3 48 := by decide +kernel
theorem dX2_empty_48 : DD cX2_empty 48 (.goto (-16)) 3 51 := by decide +kernel
theorem dX2_empty_51 : DD cX2_empty 51 (.return_) 1 52 := by decide +kernel
def fX2_empty_L32 (p0 : Nat) : Nat → Int32 → AH → (Int32 → AH → Option (Unit × AH)) → Option (Unit × AH)
  | 0, _, _, _ => none
  | n + 1, x1, h, k => (if x1 < (6 : Int32) then (chk (inb x1 (ln (p0 + 4))) (sto (hs h (p0 + 4) (Int32.toNatClampNeg x1) (0 : Int32)) fun h201 => (vl (x1 + (1 : Int32)) fun z202 => fX2_empty_L32 p0 n z202 h201 k))) else k x1 h)
def fX2_empty (r : Nat) (h : AH) : Option (Unit × AH) := (sto (hs h r 0 (0 : Int32)) fun h1 => (sto (hs h1 r 1 (0 : Int32)) fun h2 => (sto (hs h2 r 2 (0 : Int32)) fun h3 => (sto (hs h3 r 3 (0 : Int32)) fun h4 => (sto (hs h4 r 4 (0 : Int32)) fun h5 => (sto (hs h5 r 5 (0 : Int32)) fun h6 => (fX2_empty_L32 r FU (0 : Int32) h6 fun z7 h8 => (some ((), h8)))))))))
set_option maxHeartbeats 4000000 in
theorem gX2_empty_L32 {K : MC} {X : WX} {p0 : Nat} (hK : Ok K X RX2 cX2_empty 2 none 1) (hp0 : kd p0 = 2) {k : Int32 → AH → Option (Unit × AH)} (hk : ∀ (x1 : Int32) (h : AH), J K X 2 (Zm K X) eV 51 [(1, .int x1), (0, .ref (X.1 + p0))] [] h (k x1 h)) : ∀ (n : Nat) (x1 : Int32) (h : AH), J K X 2 (Zm K X) eV 32 [(1, .int x1), (0, .ref (X.1 + p0))] [] h (fX2_empty_L32 p0 n x1 h k) := by
  intro n
  induction n with
  | zero => exact fun _ _ => J_none
  | succ n ih =>
    intro x1 h
    rw [fX2_empty_L32]
    refine J_iload_n hK dX2_empty_32 0 rfl ?_
    refine J_bipush hK dX2_empty_33 cb_6 ?_
    refine J_icmp_ge (tgt := 51) hK dX2_empty_35 (by decide) ?_ ?_
    · refine J_aload_n hK dX2_empty_38 1 rfl ?_
      refine rF_X2_21 (q2 := (p0 + 4)) hK dX2_empty_39 hp0 rfl ?_
      refine J_iload_n hK dX2_empty_42 0 rfl ?_
      refine J_iconst hK dX2_empty_43 ci_0 ?_
      refine J_iast hK dX2_empty_44 (kdE_4 hp0) (fun h201 => ?_)
      refine J_iinc (lw := [(0, .ref (X.1 + p0))]) hK dX2_empty_45 0 rfl (by decide) ci_1 rfl (fun z202 => ?_)
      refine J_goto (len := 0) (tgt := 32) hK dX2_empty_48 (by decide) ?_
      exact J_sub [0, 1] rfl (ih _ _)
    · exact J_sub [0, 1] rfl (hk _ _)
set_option maxHeartbeats 4000000 in
set_option maxRecDepth 4000 in
theorem uX2_empty {l : Launch} {X : WX} {r : Nat} {h h' : AH} {v : Unit} (kr : kd r = 2) (hf : fX2_empty r h = some (v, h')) : Does l X 1 yX2_empty cX2_empty 2 none [.ref (X.1 + r)] h (eV v) h' := by
  refine Does.of (enc := eV) (o := fX2_empty r h) (lv := [(0, .ref (X.1 + r))]) (by decide) (Nat.le_of_ble_eq_true rfl) rfl hf (fun K hl hK => ?_)
  subst hl
  unfold fX2_empty
  refine J_aload_n hK dX2_empty_0 0 rfl ?_
  refine J_iconst hK dX2_empty_1 ci_0 ?_
  refine pF_X2_30 hK dX2_empty_2 kr (fun h1 => ?_)
  refine J_aload_n hK dX2_empty_5 0 rfl ?_
  refine J_iconst hK dX2_empty_6 ci_0 ?_
  refine pF_X2_34 hK dX2_empty_7 kr (fun h2 => ?_)
  refine J_aload_n hK dX2_empty_10 0 rfl ?_
  refine J_iconst hK dX2_empty_11 ci_0 ?_
  refine pF_X2_37 hK dX2_empty_12 kr (fun h3 => ?_)
  refine J_aload_n hK dX2_empty_15 0 rfl ?_
  refine J_iconst hK dX2_empty_16 ci_0 ?_
  refine pF_X2_40 hK dX2_empty_17 kr (fun h4 => ?_)
  refine J_aload_n hK dX2_empty_20 0 rfl ?_
  refine J_iconst hK dX2_empty_21 ci_0 ?_
  refine pF_X2_43 hK dX2_empty_22 kr (fun h5 => ?_)
  refine J_aload_n hK dX2_empty_25 0 rfl ?_
  refine J_iconst hK dX2_empty_26 ci_0 ?_
  refine pF_X2_46 hK dX2_empty_27 kr (fun h6 => ?_)
  refine J_iconst hK dX2_empty_30 ci_0 ?_
  refine J_istore_n (n := 1) (lw := [(0, .ref (X.1 + r))]) hK dX2_empty_31 rfl (by decide) rfl ?_
  refine J_sub [0, 1] rfl (gX2_empty_L32 hK kr (fun z7 h8 => ?_) FU _ _)
  exact J_vret hK dX2_empty_51
-- X2_holds
theorem dX2_holds_0 : DD cX2_holds 0 (.aload_n 0) 1 1 := by decide +kernel
theorem dX2_holds_1 : DD cX2_holds 1 (.getfield 46) 3 4 := by decide +kernel
theorem dX2_holds_4 : DD cX2_holds 4 (.iload_n 1) 1 5 := by decide +kernel
theorem dX2_holds_5 : DD cX2_holds 5 (.ishr) 1 6 := by decide +kernel
theorem dX2_holds_6 : DD cX2_holds 6 (.iconst 1) 1 7 := by decide +kernel
theorem dX2_holds_7 : DD cX2_holds 7 (.iand) 1 8 := by decide +kernel
theorem dX2_holds_8 : DD cX2_holds 8 (.iconst 1) 1 9 := by decide +kernel
theorem dX2_holds_9 : DD cX2_holds 9 (.if_icmp .ne 7) 3 12 := by decide +kernel
theorem dX2_holds_12 : DD cX2_holds 12 (.iconst 1) 1 13 := by decide +kernel
theorem dX2_holds_13 : DD cX2_holds 13 (.goto 4) 3 16 := by decide +kernel
theorem dX2_holds_16 : DD cX2_holds 16 (.iconst 0) 1 17 := by decide +kernel
theorem dX2_holds_17 : DD cX2_holds 17 (.ireturn) 1 18 := by decide +kernel
def fX2_holds (r : Nat) (a1 : Int32) (h : AH) : Option (Int32 × AH) := (if (((h r 5) >>> (a1 &&& 31)) &&& (1 : Int32)) = (1 : Int32) then (some ((1 : Int32), h)) else (some ((0 : Int32), h)))
set_option maxHeartbeats 4000000 in
set_option maxRecDepth 4000 in
theorem uX2_holds {l : Launch} {X : WX} {r : Nat} {a1 : Int32} {h h' : AH} {v : Int32} (kr : kd r = 2) (hf : fX2_holds r a1 h = some (v, h')) : Does l X 1 yX2_holds cX2_holds 2 (some .boolean) [.ref (X.1 + r), .int a1] h (eI v) h' := by
  refine Does.of (enc := eI) (o := fX2_holds r a1 h) (lv := [(0, .ref (X.1 + r)), (1, .int a1)]) (by decide) (Nat.le_of_ble_eq_true rfl) rfl hf (fun K hl hK => ?_)
  subst hl
  unfold fX2_holds
  refine J_aload_n hK dX2_holds_0 0 rfl ?_
  refine gF_X2_46 hK dX2_holds_1 kr ?_
  refine J_iload_n hK dX2_holds_4 1 rfl ?_
  refine J_ishr hK dX2_holds_5 ?_
  refine J_iconst hK dX2_holds_6 ci_1 ?_
  refine J_iand hK dX2_holds_7 ?_
  refine J_iconst hK dX2_holds_8 ci_1 ?_
  refine J_icmp_ne (tgt := 16) hK dX2_holds_9 (by decide) ?_ ?_
  · refine J_iconst hK dX2_holds_12 ci_1 ?_
    refine J_goto (len := 0) (tgt := 17) hK dX2_holds_13 (by decide) ?_
    exact J_zret1 hK dX2_holds_17
  · refine J_iconst hK dX2_holds_16 ci_0 ?_
    exact J_zret0 hK dX2_holds_17
-- X2_letGo
theorem dX2_letGo_0 : DD cX2_letGo 0 (.aload_n 0) 1 1 := by decide +kernel
theorem dX2_letGo_1 : DD cX2_letGo 1 (.dup) 1 2 := by decide +kernel
theorem dX2_letGo_2 : DD cX2_letGo 2 (.getfield 46) 3 5 := by decide +kernel
theorem dX2_letGo_5 : DD cX2_letGo 5 (.iconst 1) 1 6 := by decide +kernel
theorem dX2_letGo_6 : DD cX2_letGo 6 (.iload_n 1) 1 7 := by decide +kernel
theorem dX2_letGo_7 : DD cX2_letGo 7 (.ishl) 1 8 := by decide +kernel
theorem dX2_letGo_8 : DD cX2_letGo 8 (.iconst (-1)) 1 9 := by decide +kernel
theorem dX2_letGo_9 : DD cX2_letGo 9 (.ixor) 1 10 := by decide +kernel
theorem dX2_letGo_10 : DD cX2_letGo 10 (.iand) 1 11 := by decide +kernel
theorem dX2_letGo_11 : DD cX2_letGo 11 (.putfield 46) 3 14 := by decide +kernel
theorem dX2_letGo_14 : DD cX2_letGo 14 (.aload_n 0) 1 15 := by decide +kernel
theorem dX2_letGo_15 : DD cX2_letGo 15 (.getfield 21) 3 18 := by decide +kernel
theorem dX2_letGo_18 : DD cX2_letGo 18 (.iload_n 1) 1 19 := by decide +kernel
theorem dX2_letGo_19 : DD cX2_letGo 19 (.iconst 0) 1 20 := by decide +kernel
theorem dX2_letGo_20 : DD cX2_letGo 20 (.iastore) 1 21 := by decide +kernel
theorem dX2_letGo_21 : DD cX2_letGo 21 (.return_) 1 22 := by decide +kernel
def fX2_letGo (r : Nat) (a1 : Int32) (h : AH) : Option (Unit × AH) := (sto (hs h r 5 ((h r 5) &&& (((1 : Int32) <<< (a1 &&& 31)) ^^^ (-1 : Int32)))) fun h1 => (chk (inb a1 (ln (r + 4))) (sto (hs h1 (r + 4) (Int32.toNatClampNeg a1) (0 : Int32)) fun h2 => (some ((), h2)))))
set_option maxHeartbeats 4000000 in
set_option maxRecDepth 4000 in
theorem uX2_letGo {l : Launch} {X : WX} {r : Nat} {a1 : Int32} {h h' : AH} {v : Unit} (kr : kd r = 2) (hf : fX2_letGo r a1 h = some (v, h')) : Does l X 1 yX2_letGo cX2_letGo 2 none [.ref (X.1 + r), .int a1] h (eV v) h' := by
  refine Does.of (enc := eV) (o := fX2_letGo r a1 h) (lv := [(0, .ref (X.1 + r)), (1, .int a1)]) (by decide) (Nat.le_of_ble_eq_true rfl) rfl hf (fun K hl hK => ?_)
  subst hl
  unfold fX2_letGo
  refine J_aload_n hK dX2_letGo_0 0 rfl ?_
  refine J_dup hK dX2_letGo_1 rfl ?_
  refine gF_X2_46 hK dX2_letGo_2 kr ?_
  refine J_iconst hK dX2_letGo_5 ci_1 ?_
  refine J_iload_n hK dX2_letGo_6 1 rfl ?_
  refine J_ishl hK dX2_letGo_7 ?_
  refine J_iconst hK dX2_letGo_8 ci_m1 ?_
  refine J_ixor hK dX2_letGo_9 ?_
  refine J_iand hK dX2_letGo_10 ?_
  refine pF_X2_46 hK dX2_letGo_11 kr (fun h1 => ?_)
  refine J_aload_n hK dX2_letGo_14 0 rfl ?_
  refine rF_X2_21 (q2 := (r + 4)) hK dX2_letGo_15 kr rfl ?_
  refine J_iload_n hK dX2_letGo_18 1 rfl ?_
  refine J_iconst hK dX2_letGo_19 ci_0 ?_
  refine J_iast hK dX2_letGo_20 (kdE_4 kr) (fun h2 => ?_)
  exact J_vret hK dX2_letGo_21
-- X2_mendRope
theorem dX2_mendRope_0 : DD cX2_mendRope 0 (.aload_n 0) 1 1 := by decide +kernel
theorem dX2_mendRope_1 : DD cX2_mendRope 1 (.dup) 1 2 := by decide +kernel
theorem dX2_mendRope_2 : DD cX2_mendRope 2 (.getfield 46) 3 5 := by decide +kernel
theorem dX2_mendRope_5 : DD cX2_mendRope 5 (.iconst 1) 1 6 := by decide +kernel
theorem dX2_mendRope_6 : DD cX2_mendRope 6 (.iload_n 1) 1 7 := by decide +kernel
theorem dX2_mendRope_7 : DD cX2_mendRope 7 (.ishl) 1 8 := by decide +kernel
theorem dX2_mendRope_8 : DD cX2_mendRope 8 (.ior) 1 9 := by decide +kernel
theorem dX2_mendRope_9 : DD cX2_mendRope 9 (.putfield 46) 3 12 := by decide +kernel
theorem dX2_mendRope_12 : DD cX2_mendRope 12 (.aload_n 0) 1 13 := by decide +kernel
theorem dX2_mendRope_13 : DD cX2_mendRope 13 (.getfield 21) 3 16 := by decide +kernel
theorem dX2_mendRope_16 : DD cX2_mendRope 16 (.iload_n 1) 1 17 := by decide +kernel
theorem dX2_mendRope_17 : DD cX2_mendRope 17 (.iconst 0) 1 18 := by decide +kernel
theorem dX2_mendRope_18 : DD cX2_mendRope 18 (.iastore) 1 19 := by decide +kernel
theorem dX2_mendRope_19 : DD cX2_mendRope 19 (.return_) 1 20 := by decide +kernel
def fX2_mendRope (r : Nat) (a1 : Int32) (h : AH) : Option (Unit × AH) := (sto (hs h r 5 ((h r 5) ||| ((1 : Int32) <<< (a1 &&& 31)))) fun h1 => (chk (inb a1 (ln (r + 4))) (sto (hs h1 (r + 4) (Int32.toNatClampNeg a1) (0 : Int32)) fun h2 => (some ((), h2)))))
set_option maxHeartbeats 4000000 in
set_option maxRecDepth 4000 in
theorem uX2_mendRope {l : Launch} {X : WX} {r : Nat} {a1 : Int32} {h h' : AH} {v : Unit} (kr : kd r = 2) (hf : fX2_mendRope r a1 h = some (v, h')) : Does l X 1 yX2_mendRope cX2_mendRope 2 none [.ref (X.1 + r), .int a1] h (eV v) h' := by
  refine Does.of (enc := eV) (o := fX2_mendRope r a1 h) (lv := [(0, .ref (X.1 + r)), (1, .int a1)]) (by decide) (Nat.le_of_ble_eq_true rfl) rfl hf (fun K hl hK => ?_)
  subst hl
  unfold fX2_mendRope
  refine J_aload_n hK dX2_mendRope_0 0 rfl ?_
  refine J_dup hK dX2_mendRope_1 rfl ?_
  refine gF_X2_46 hK dX2_mendRope_2 kr ?_
  refine J_iconst hK dX2_mendRope_5 ci_1 ?_
  refine J_iload_n hK dX2_mendRope_6 1 rfl ?_
  refine J_ishl hK dX2_mendRope_7 ?_
  refine J_ior hK dX2_mendRope_8 ?_
  refine pF_X2_46 hK dX2_mendRope_9 kr (fun h1 => ?_)
  refine J_aload_n hK dX2_mendRope_12 0 rfl ?_
  refine rF_X2_21 (q2 := (r + 4)) hK dX2_mendRope_13 kr rfl ?_
  refine J_iload_n hK dX2_mendRope_16 1 rfl ?_
  refine J_iconst hK dX2_mendRope_17 ci_0 ?_
  refine J_iast hK dX2_mendRope_18 (kdE_4 kr) (fun h2 => ?_)
  exact J_vret hK dX2_mendRope_19
-- X2_pierOnTheWay
theorem dX2_pierOnTheWay_0 : DD cX2_pierOnTheWay 0 (.iconst (-1)) 1 1 := by decide +kernel
theorem dX2_pierOnTheWay_1 : DD cX2_pierOnTheWay 1 (.istore_n 2) 1 2 := by decide +kernel
theorem dX2_pierOnTheWay_2 : DD cX2_pierOnTheWay 2 (.iconst 0) 1 3 := by decide +kernel
theorem dX2_pierOnTheWay_3 : DD cX2_pierOnTheWay 3 (.istore_n 3) 1 4 := by decide +kernel
theorem dX2_pierOnTheWay_4 : DD cX2_pierOnTheWay 4 (.iload_n 3) 1 5 := by decide +kernel
theorem dX2_pierOnTheWay_5 : DD cX2_pierOnTheWay 5 (.aload_n 0) 1 6 := by decide +kernel
theorem dX2_pierOnTheWay_6 : DD cX2_pierOnTheWay 6 (.getfield 34) 3 9 := by decide +kernel
theorem dX2_pierOnTheWay_9 : DD cX2_pierOnTheWay 9 (.if_icmp .ge 79) 3 12 := by decide +kernel
theorem dX2_pierOnTheWay_12 : DD cX2_pierOnTheWay 12 (.aload_n 0) 1 13 := by decide +kernel
theorem dX2_pierOnTheWay_13 : DD cX2_pierOnTheWay 13 (.getfield 27) 3 16 := by decide +kernel
theorem dX2_pierOnTheWay_16 : DD cX2_pierOnTheWay 16 (.iload_n 3) 1 17 := by decide +kernel
theorem dX2_pierOnTheWay_17 : DD cX2_pierOnTheWay 17 (.iaload) 1 18 := by decide +kernel
theorem dX2_pierOnTheWay_18 : DD cX2_pierOnTheWay 18 (.ifCond .le 35) 3 21 := by decide +kernel
theorem dX2_pierOnTheWay_21 : DD cX2_pierOnTheWay 21 (.aload_n 0) 1 22 := by decide +kernel
theorem dX2_pierOnTheWay_22 : DD cX2_pierOnTheWay 22 (.getfield 24) 3 25 := by decide +kernel
theorem dX2_pierOnTheWay_25 : DD cX2_pierOnTheWay 25 (.iload_n 3) 1 26 := by decide +kernel
theorem dX2_pierOnTheWay_26 : DD cX2_pierOnTheWay 26 (.iaload) 1 27 := by decide +kernel
theorem dX2_pierOnTheWay_27 : DD cX2_pierOnTheWay 27 (.aload_n 0) 1 28 := by decide +kernel
theorem dX2_pierOnTheWay_28 : DD cX2_pierOnTheWay 28 (.getfield 40) 3 31 := by decide +kernel
theorem dX2_pierOnTheWay_31 : DD cX2_pierOnTheWay 31 (.if_icmp .ge 22) 3 34 := by decide +kernel
theorem dX2_pierOnTheWay_34 : DD cX2_pierOnTheWay 34 (.aload_n 0) 1 35 := by decide +kernel
theorem dX2_pierOnTheWay_35 : DD cX2_pierOnTheWay 35 (.getfield 24) 3 38 := by decide +kernel
theorem dX2_pierOnTheWay_38 : DD cX2_pierOnTheWay 38 (.iload_n 3) 1 39 := by decide +kernel
theorem dX2_pierOnTheWay_39 : DD cX2_pierOnTheWay 39 (.iaload) 1 40 := by decide +kernel
theorem dX2_pierOnTheWay_40 : DD cX2_pierOnTheWay 40 (.aload_n 0) 1 41 := by decide +kernel
theorem dX2_pierOnTheWay_41 : DD cX2_pierOnTheWay 41 (.getfield 40) 3 44 := by decide +kernel
theorem dX2_pierOnTheWay_44 : DD cX2_pierOnTheWay 44 (.iload_n 1) 1 45 := by decide +kernel
theorem dX2_pierOnTheWay_45 : DD cX2_pierOnTheWay 45 (.isub) 1 46 := by decide +kernel
theorem dX2_pierOnTheWay_46 : DD cX2_pierOnTheWay 46 (.if_icmp .lt 7) 3 49 := by decide +kernel
theorem dX2_pierOnTheWay_49 : DD cX2_pierOnTheWay 49 (.iconst 1) 1 50 := by decide +kernel
theorem dX2_pierOnTheWay_50 : DD cX2_pierOnTheWay 50 (.goto 4) 3 53 := by decide +kernel
theorem dX2_pierOnTheWay_53 : DD cX2_pierOnTheWay 53 (.iconst 0) 1 54 := by decide +kernel
theorem dX2_pierOnTheWay_54 : DD cX2_pierOnTheWay 54 (.istore 4) 2 56 := by decide +kernel
theorem dX2_pierOnTheWay_56 : DD cX2_pierOnTheWay 56 (.iload 4) 2 58 := by decide +kernel
theorem dX2_pierOnTheWay_58 : DD cX2_pierOnTheWay 58 (.ifCond .eq 24) 3 61 := by decide +kernel
theorem dX2_pierOnTheWay_61 : DD cX2_pierOnTheWay 61 (.iload_n 2) 1 62 := by decide +kernel
theorem dX2_pierOnTheWay_62 : DD cX2_pierOnTheWay 62 (.ifCond .lt 18) 3 65 := by decide +kernel
theorem dX2_pierOnTheWay_65 : DD cX2_pierOnTheWay 65 (.aload_n 0) 1 66 := by decide +kernel
theorem dX2_pierOnTheWay_66 : DD cX2_pierOnTheWay 66 (.getfield 24) 3 69 := by decide +kernel
theorem dX2_pierOnTheWay_69 : DD cX2_pierOnTheWay 69 (.iload_n 3) 1 70 := by decide +kernel
theorem dX2_pierOnTheWay_70 : DD cX2_pierOnTheWay 70 (.iaload) 1 71 := by decide +kernel
theorem dX2_pierOnTheWay_71 : DD cX2_pierOnTheWay 71 (.aload_n 0) 1 72 := by decide +kernel
theorem dX2_pierOnTheWay_72 : DD cX2_pierOnTheWay 72 (.getfield 24) 3 75 := by decide +kernel
theorem dX2_pierOnTheWay_75 : DD cX2_pierOnTheWay 75 (.iload_n 2) 1 76 := by decide +kernel
theorem dX2_pierOnTheWay_76 : DD cX2_pierOnTheWay 76 (.iaload) 1 77 := by decide +kernel
theorem dX2_pierOnTheWay_77 : DD cX2_pierOnTheWay 77 (.if_icmp .le 5) 3 80 := by decide +kernel
theorem dX2_pierOnTheWay_80 : DD cX2_pierOnTheWay 80 (.iload_n 3) 1 81 := by decide +kernel
theorem dX2_pierOnTheWay_81 : DD cX2_pierOnTheWay 81 (.istore_n 2) 1 82 := by decide +kernel
theorem dX2_pierOnTheWay_82 : DD cX2_pierOnTheWay 82 (.iinc 3 1) 3 85 := by decide +kernel
theorem dX2_pierOnTheWay_85 : DD cX2_pierOnTheWay 85 (.goto (-81)) 3 88 := by decide +kernel
theorem dX2_pierOnTheWay_88 : DD cX2_pierOnTheWay 88 (.iload_n 2) 1 89 := by decide +kernel
theorem dX2_pierOnTheWay_89 : DD cX2_pierOnTheWay 89 (.ireturn) 1 90 := by decide +kernel
def fX2_pierOnTheWay_L4 (p0 : Nat) (p1 : Int32) : Nat → Int32 → Int32 → AH → (Int32 → Int32 → AH → Option (Int32 × AH)) → Option (Int32 × AH)
  | 0, _, _, _, _ => none
  | n + 1, x3, x2, h, k => (if x3 < (h p0 1) then (chk (inb x3 (ln (p0 + 6))) (if 0 < (h (p0 + 6) (Int32.toNatClampNeg x3)) then (chk (inb x3 (ln (p0 + 5))) (if (h (p0 + 5) (Int32.toNatClampNeg x3)) < (h p0 3) then (chk (inb x3 (ln (p0 + 5))) (if (h (p0 + 5) (Int32.toNatClampNeg x3)) < ((h p0 3) - p1) then (if (0 : Int32) = 0 then (vl (x3 + (1 : Int32)) fun z201 => fX2_pierOnTheWay_L4 p0 p1 n z201 x2 h k) else none) else (if (1 : Int32) = 0 then none else (if x2 < 0 then (vl (x3 + (1 : Int32)) fun z202 => fX2_pierOnTheWay_L4 p0 p1 n z202 x3 h k) else (chk (inb x3 (ln (p0 + 5))) (chk (inb x2 (ln (p0 + 5))) (if (h (p0 + 5) (Int32.toNatClampNeg x2)) < (h (p0 + 5) (Int32.toNatClampNeg x3)) then (vl (x3 + (1 : Int32)) fun z203 => fX2_pierOnTheWay_L4 p0 p1 n z203 x3 h k) else (vl (x3 + (1 : Int32)) fun z204 => fX2_pierOnTheWay_L4 p0 p1 n z204 x2 h k)))))))) else (if (0 : Int32) = 0 then (vl (x3 + (1 : Int32)) fun z205 => fX2_pierOnTheWay_L4 p0 p1 n z205 x2 h k) else none))) else (if (0 : Int32) = 0 then (vl (x3 + (1 : Int32)) fun z206 => fX2_pierOnTheWay_L4 p0 p1 n z206 x2 h k) else none))) else k x3 x2 h)
def fX2_pierOnTheWay (r : Nat) (a1 : Int32) (h : AH) : Option (Int32 × AH) := (fX2_pierOnTheWay_L4 r a1 FU (0 : Int32) (-1 : Int32) h fun z1 z2 h3 => (some (z2, h3)))
set_option maxHeartbeats 4000000 in
theorem gX2_pierOnTheWay_L4 {K : MC} {X : WX} {p0 : Nat} {p1 : Int32} (hK : Ok K X RX2 cX2_pierOnTheWay 5 (some .int) 1) (hp0 : kd p0 = 2) {k : Int32 → Int32 → AH → Option (Int32 × AH)} (hk : ∀ (x3 : Int32) (x2 : Int32) (h : AH), J K X 5 (Zm K X) eI 88 [(3, .int x3), (2, .int x2), (0, .ref (X.1 + p0)), (1, .int p1)] [] h (k x3 x2 h)) : ∀ (n : Nat) (x3 : Int32) (x2 : Int32) (h : AH), J K X 5 (Zm K X) eI 4 [(3, .int x3), (2, .int x2), (0, .ref (X.1 + p0)), (1, .int p1)] [] h (fX2_pierOnTheWay_L4 p0 p1 n x3 x2 h k) := by
  intro n
  induction n with
  | zero => exact fun _ _ _ => J_none
  | succ n ih =>
    intro x3 x2 h
    rw [fX2_pierOnTheWay_L4]
    refine J_iload_n hK dX2_pierOnTheWay_4 0 rfl ?_
    refine J_aload_n hK dX2_pierOnTheWay_5 2 rfl ?_
    refine gF_X2_34 hK dX2_pierOnTheWay_6 hp0 ?_
    refine J_icmp_ge (tgt := 88) hK dX2_pierOnTheWay_9 (by decide) ?_ ?_
    · refine J_aload_n hK dX2_pierOnTheWay_12 2 rfl ?_
      refine rF_X2_27 (q2 := (p0 + 6)) hK dX2_pierOnTheWay_13 hp0 rfl ?_
      refine J_iload_n hK dX2_pierOnTheWay_16 0 rfl ?_
      refine J_iald hK dX2_pierOnTheWay_17 (kdE_6 hp0) (fun _ => ?_)
      refine J_if_le (tgt := 53) hK dX2_pierOnTheWay_18 (by decide) ?_ ?_
      · refine J_aload_n hK dX2_pierOnTheWay_21 2 rfl ?_
        refine rF_X2_24 (q2 := (p0 + 5)) hK dX2_pierOnTheWay_22 hp0 rfl ?_
        refine J_iload_n hK dX2_pierOnTheWay_25 0 rfl ?_
        refine J_iald hK dX2_pierOnTheWay_26 (kdE_5 hp0) (fun _ => ?_)
        refine J_aload_n hK dX2_pierOnTheWay_27 2 rfl ?_
        refine gF_X2_40 hK dX2_pierOnTheWay_28 hp0 ?_
        refine J_icmp_ge (tgt := 53) hK dX2_pierOnTheWay_31 (by decide) ?_ ?_
        · refine J_aload_n hK dX2_pierOnTheWay_34 2 rfl ?_
          refine rF_X2_24 (q2 := (p0 + 5)) hK dX2_pierOnTheWay_35 hp0 rfl ?_
          refine J_iload_n hK dX2_pierOnTheWay_38 0 rfl ?_
          refine J_iald hK dX2_pierOnTheWay_39 (kdE_5 hp0) (fun _ => ?_)
          refine J_aload_n hK dX2_pierOnTheWay_40 2 rfl ?_
          refine gF_X2_40 hK dX2_pierOnTheWay_41 hp0 ?_
          refine J_iload_n hK dX2_pierOnTheWay_44 3 rfl ?_
          refine J_isub hK dX2_pierOnTheWay_45 ?_
          refine J_icmp_lt (tgt := 53) hK dX2_pierOnTheWay_46 (by decide) ?_ ?_
          · refine J_iconst hK dX2_pierOnTheWay_53 ci_0 ?_
            refine J_istore (lw := [(3, .int x3), (2, .int x2), (0, .ref (X.1 + p0)), (1, .int p1)]) hK dX2_pierOnTheWay_54 (by decide) rfl ?_
            refine J_iload hK dX2_pierOnTheWay_56 0 rfl ?_
            refine J_if_eq (tgt := 82) hK dX2_pierOnTheWay_58 (by decide) ?_ ?_
            · refine J_iinc (lw := [(4, .int (0 : Int32)), (2, .int x2), (0, .ref (X.1 + p0)), (1, .int p1)]) hK dX2_pierOnTheWay_82 1 rfl (by decide) ci_1 rfl (fun z201 => ?_)
              refine J_goto (len := 0) (tgt := 4) hK dX2_pierOnTheWay_85 (by decide) ?_
              exact J_sub [0, 2, 3, 4] rfl (ih _ _ _)
            · exact J_none
          · refine J_iconst hK dX2_pierOnTheWay_49 ci_1 ?_
            refine J_goto (len := 0) (tgt := 54) hK dX2_pierOnTheWay_50 (by decide) ?_
            refine J_istore (lw := [(3, .int x3), (2, .int x2), (0, .ref (X.1 + p0)), (1, .int p1)]) hK dX2_pierOnTheWay_54 (by decide) rfl ?_
            refine J_iload hK dX2_pierOnTheWay_56 0 rfl ?_
            refine J_if_eq (tgt := 82) hK dX2_pierOnTheWay_58 (by decide) ?_ ?_
            · exact J_none
            · refine J_iload_n hK dX2_pierOnTheWay_61 2 rfl ?_
              refine J_if_lt (tgt := 80) hK dX2_pierOnTheWay_62 (by decide) ?_ ?_
              · refine J_iload_n hK dX2_pierOnTheWay_80 1 rfl ?_
                refine J_istore_n (n := 2) (lw := [(4, .int (1 : Int32)), (3, .int x3), (0, .ref (X.1 + p0)), (1, .int p1)]) hK dX2_pierOnTheWay_81 rfl (by decide) rfl ?_
                refine J_iinc (lw := [(2, .int x3), (4, .int (1 : Int32)), (0, .ref (X.1 + p0)), (1, .int p1)]) hK dX2_pierOnTheWay_82 2 rfl (by decide) ci_1 rfl (fun z202 => ?_)
                refine J_goto (len := 0) (tgt := 4) hK dX2_pierOnTheWay_85 (by decide) ?_
                exact J_sub [0, 1, 3, 4] rfl (ih _ _ _)
              · refine J_aload_n hK dX2_pierOnTheWay_65 3 rfl ?_
                refine rF_X2_24 (q2 := (p0 + 5)) hK dX2_pierOnTheWay_66 hp0 rfl ?_
                refine J_iload_n hK dX2_pierOnTheWay_69 1 rfl ?_
                refine J_iald hK dX2_pierOnTheWay_70 (kdE_5 hp0) (fun _ => ?_)
                refine J_aload_n hK dX2_pierOnTheWay_71 3 rfl ?_
                refine rF_X2_24 (q2 := (p0 + 5)) hK dX2_pierOnTheWay_72 hp0 rfl ?_
                refine J_iload_n hK dX2_pierOnTheWay_75 2 rfl ?_
                refine J_iald hK dX2_pierOnTheWay_76 (kdE_5 hp0) (fun _ => ?_)
                refine J_icmp_le (tgt := 82) hK dX2_pierOnTheWay_77 (by decide) ?_ ?_
                · refine J_iload_n hK dX2_pierOnTheWay_80 1 rfl ?_
                  refine J_istore_n (n := 2) (lw := [(4, .int (1 : Int32)), (3, .int x3), (0, .ref (X.1 + p0)), (1, .int p1)]) hK dX2_pierOnTheWay_81 rfl (by decide) rfl ?_
                  refine J_iinc (lw := [(2, .int x3), (4, .int (1 : Int32)), (0, .ref (X.1 + p0)), (1, .int p1)]) hK dX2_pierOnTheWay_82 2 rfl (by decide) ci_1 rfl (fun z203 => ?_)
                  refine J_goto (len := 0) (tgt := 4) hK dX2_pierOnTheWay_85 (by decide) ?_
                  exact J_sub [0, 1, 3, 4] rfl (ih _ _ _)
                · refine J_iinc (lw := [(4, .int (1 : Int32)), (2, .int x2), (0, .ref (X.1 + p0)), (1, .int p1)]) hK dX2_pierOnTheWay_82 1 rfl (by decide) ci_1 rfl (fun z204 => ?_)
                  refine J_goto (len := 0) (tgt := 4) hK dX2_pierOnTheWay_85 (by decide) ?_
                  exact J_sub [0, 2, 3, 4] rfl (ih _ _ _)
        · refine J_iconst hK dX2_pierOnTheWay_53 ci_0 ?_
          refine J_istore (lw := [(3, .int x3), (2, .int x2), (0, .ref (X.1 + p0)), (1, .int p1)]) hK dX2_pierOnTheWay_54 (by decide) rfl ?_
          refine J_iload hK dX2_pierOnTheWay_56 0 rfl ?_
          refine J_if_eq (tgt := 82) hK dX2_pierOnTheWay_58 (by decide) ?_ ?_
          · refine J_iinc (lw := [(4, .int (0 : Int32)), (2, .int x2), (0, .ref (X.1 + p0)), (1, .int p1)]) hK dX2_pierOnTheWay_82 1 rfl (by decide) ci_1 rfl (fun z205 => ?_)
            refine J_goto (len := 0) (tgt := 4) hK dX2_pierOnTheWay_85 (by decide) ?_
            exact J_sub [0, 2, 3, 4] rfl (ih _ _ _)
          · exact J_none
      · refine J_iconst hK dX2_pierOnTheWay_53 ci_0 ?_
        refine J_istore (lw := [(3, .int x3), (2, .int x2), (0, .ref (X.1 + p0)), (1, .int p1)]) hK dX2_pierOnTheWay_54 (by decide) rfl ?_
        refine J_iload hK dX2_pierOnTheWay_56 0 rfl ?_
        refine J_if_eq (tgt := 82) hK dX2_pierOnTheWay_58 (by decide) ?_ ?_
        · refine J_iinc (lw := [(4, .int (0 : Int32)), (2, .int x2), (0, .ref (X.1 + p0)), (1, .int p1)]) hK dX2_pierOnTheWay_82 1 rfl (by decide) ci_1 rfl (fun z206 => ?_)
          refine J_goto (len := 0) (tgt := 4) hK dX2_pierOnTheWay_85 (by decide) ?_
          exact J_sub [0, 2, 3, 4] rfl (ih _ _ _)
        · exact J_none
    · exact J_sub [0, 1, 2, 3] rfl (hk _ _ _)
set_option maxHeartbeats 4000000 in
set_option maxRecDepth 4000 in
theorem uX2_pierOnTheWay {l : Launch} {X : WX} {r : Nat} {a1 : Int32} {h h' : AH} {v : Int32} (kr : kd r = 2) (hf : fX2_pierOnTheWay r a1 h = some (v, h')) : Does l X 1 yX2_pierOnTheWay cX2_pierOnTheWay 5 (some .int) [.ref (X.1 + r), .int a1] h (eI v) h' := by
  refine Does.of (enc := eI) (o := fX2_pierOnTheWay r a1 h) (lv := [(0, .ref (X.1 + r)), (1, .int a1)]) (by decide) (Nat.le_of_ble_eq_true rfl) rfl hf (fun K hl hK => ?_)
  subst hl
  unfold fX2_pierOnTheWay
  refine J_iconst hK dX2_pierOnTheWay_0 ci_m1 ?_
  refine J_istore_n (n := 2) (lw := [(0, .ref (X.1 + r)), (1, .int a1)]) hK dX2_pierOnTheWay_1 rfl (by decide) rfl ?_
  refine J_iconst hK dX2_pierOnTheWay_2 ci_0 ?_
  refine J_istore_n (n := 3) (lw := [(2, .int (-1 : Int32)), (0, .ref (X.1 + r)), (1, .int a1)]) hK dX2_pierOnTheWay_3 rfl (by decide) rfl ?_
  refine J_sub [0, 1, 2, 3] rfl (gX2_pierOnTheWay_L4 hK kr (fun z1 z2 h3 => ?_) FU _ _ _)
  refine J_iload_n hK dX2_pierOnTheWay_88 1 rfl ?_
  exact J_iret hK dX2_pierOnTheWay_89
-- X2_ropeIsThrough
theorem dX2_ropeIsThrough_0 : DD cX2_ropeIsThrough 0 (.aload_n 0) 1 1 := by decide +kernel
theorem dX2_ropeIsThrough_1 : DD cX2_ropeIsThrough 1 (.getfield 21) 3 4 := by decide +kernel
theorem dX2_ropeIsThrough_4 : DD cX2_ropeIsThrough 4 (.iload_n 1) 1 5 := by decide +kernel
theorem dX2_ropeIsThrough_5 : DD cX2_ropeIsThrough 5 (.iaload) 1 6 := by decide +kernel
theorem dX2_ropeIsThrough_6 : DD cX2_ropeIsThrough 6 (.aload_n 0) 1 7 := by decide +kernel
theorem dX2_ropeIsThrough_7 : DD cX2_ropeIsThrough 7 (.getfield 9) 3 10 := by decide +kernel
theorem dX2_ropeIsThrough_10 : DD cX2_ropeIsThrough 10 (.iload_n 1) 1 11 := by decide +kernel
theorem dX2_ropeIsThrough_11 : DD cX2_ropeIsThrough 11 (.iaload) 1 12 := by decide +kernel
theorem dX2_ropeIsThrough_12 : DD cX2_ropeIsThrough 12 (.iconst 3) 1 13 := by decide +kernel
theorem dX2_ropeIsThrough_13 : DD cX2_ropeIsThrough 13 (.if_icmp .ne 8) 3 16 := by decide +kernel
theorem dX2_ropeIsThrough_16 : DD cX2_ropeIsThrough 16 (.bipush 6) 2 18 := by decide +kernel
theorem dX2_ropeIsThrough_18 : DD cX2_ropeIsThrough 18 (.goto 4) 3 21 := by decide +kernel
theorem dX2_ropeIsThrough_21 : DD cX2_ropeIsThrough 21 (.iconst 3) 1 22 := by decide +kernel
theorem dX2_ropeIsThrough_22 : DD cX2_ropeIsThrough 22 (.if_icmp .lt 7) 3 25 := by decide +kernel
theorem dX2_ropeIsThrough_25 : DD cX2_ropeIsThrough 25 (.iconst 1) 1 26 := by decide +kernel
theorem dX2_ropeIsThrough_26 : DD cX2_ropeIsThrough 26 (.goto 4) 3 29 := by decide +kernel
theorem dX2_ropeIsThrough_29 : DD cX2_ropeIsThrough 29 (.iconst 0) 1 30 := by decide +kernel
theorem dX2_ropeIsThrough_30 : DD cX2_ropeIsThrough 30 (.ireturn) 1 31 := by decide +kernel
def fX2_ropeIsThrough (r : Nat) (a1 : Int32) (h : AH) : Option (Int32 × AH) := (chk (inb a1 (ln (r + 4))) (chk (inb a1 (ln (r + 1))) (if (h (r + 1) (Int32.toNatClampNeg a1)) = (3 : Int32) then (if (h (r + 4) (Int32.toNatClampNeg a1)) < (6 : Int32) then (some ((0 : Int32), h)) else (some ((1 : Int32), h))) else (if (h (r + 4) (Int32.toNatClampNeg a1)) < (3 : Int32) then (some ((0 : Int32), h)) else (some ((1 : Int32), h))))))
set_option maxHeartbeats 4000000 in
set_option maxRecDepth 4000 in
theorem uX2_ropeIsThrough {l : Launch} {X : WX} {r : Nat} {a1 : Int32} {h h' : AH} {v : Int32} (kr : kd r = 2) (hf : fX2_ropeIsThrough r a1 h = some (v, h')) : Does l X 1 yX2_ropeIsThrough cX2_ropeIsThrough 2 (some .boolean) [.ref (X.1 + r), .int a1] h (eI v) h' := by
  refine Does.of (enc := eI) (o := fX2_ropeIsThrough r a1 h) (lv := [(0, .ref (X.1 + r)), (1, .int a1)]) (by decide) (Nat.le_of_ble_eq_true rfl) rfl hf (fun K hl hK => ?_)
  subst hl
  unfold fX2_ropeIsThrough
  refine J_aload_n hK dX2_ropeIsThrough_0 0 rfl ?_
  refine rF_X2_21 (q2 := (r + 4)) hK dX2_ropeIsThrough_1 kr rfl ?_
  refine J_iload_n hK dX2_ropeIsThrough_4 1 rfl ?_
  refine J_iald hK dX2_ropeIsThrough_5 (kdE_4 kr) (fun _ => ?_)
  refine J_aload_n hK dX2_ropeIsThrough_6 0 rfl ?_
  refine rF_X2_9 (q2 := (r + 1)) hK dX2_ropeIsThrough_7 kr rfl ?_
  refine J_iload_n hK dX2_ropeIsThrough_10 1 rfl ?_
  refine J_iald hK dX2_ropeIsThrough_11 (kdE_1 kr) (fun _ => ?_)
  refine J_iconst hK dX2_ropeIsThrough_12 ci_3 ?_
  refine J_icmp_ne (tgt := 21) hK dX2_ropeIsThrough_13 (by decide) ?_ ?_
  · refine J_bipush hK dX2_ropeIsThrough_16 cb_6 ?_
    refine J_goto (len := 0) (tgt := 22) hK dX2_ropeIsThrough_18 (by decide) ?_
    refine J_icmp_lt (tgt := 29) hK dX2_ropeIsThrough_22 (by decide) ?_ ?_
    · refine J_iconst hK dX2_ropeIsThrough_29 ci_0 ?_
      exact J_zret0 hK dX2_ropeIsThrough_30
    · refine J_iconst hK dX2_ropeIsThrough_25 ci_1 ?_
      refine J_goto (len := 0) (tgt := 30) hK dX2_ropeIsThrough_26 (by decide) ?_
      exact J_zret1 hK dX2_ropeIsThrough_30
  · refine J_iconst hK dX2_ropeIsThrough_21 ci_3 ?_
    refine J_icmp_lt (tgt := 29) hK dX2_ropeIsThrough_22 (by decide) ?_ ?_
    · refine J_iconst hK dX2_ropeIsThrough_29 ci_0 ?_
      exact J_zret0 hK dX2_ropeIsThrough_30
    · refine J_iconst hK dX2_ropeIsThrough_25 ci_1 ?_
      refine J_goto (len := 0) (tgt := 30) hK dX2_ropeIsThrough_26 (by decide) ?_
      exact J_zret1 hK dX2_ropeIsThrough_30
-- X2_speedBy
theorem dX2_speedBy_0 : DD cX2_speedBy 0 (.aload_n 0) 1 1 := by decide +kernel
theorem dX2_speedBy_1 : DD cX2_speedBy 1 (.getfield 40) 3 4 := by decide +kernel
theorem dX2_speedBy_4 : DD cX2_speedBy 4 (.ifCond .eq 11) 3 7 := by decide +kernel
theorem dX2_speedBy_7 : DD cX2_speedBy 7 (.aload_n 0) 1 8 := by decide +kernel
theorem dX2_speedBy_8 : DD cX2_speedBy 8 (.getfield 37) 3 11 := by decide +kernel
theorem dX2_speedBy_11 : DD cX2_speedBy 11 (.iconst 1) 1 12 := by decide +kernel
theorem dX2_speedBy_12 : DD cX2_speedBy 12 (.if_icmp .ge 5) 3 15 := by decide +kernel
theorem dX2_speedBy_15 : DD cX2_speedBy 15 (.iconst 0) 1 16 := by decide +kernel
theorem dX2_speedBy_16 : DD cX2_speedBy 16 (.ireturn) 1 17 := by decide +kernel
theorem dX2_speedBy_17 : DD cX2_speedBy 17 (.bipush 9) 2 19 := by decide +kernel
theorem dX2_speedBy_19 : DD cX2_speedBy 19 (.iconst 4) 1 20 := by decide +kernel
theorem dX2_speedBy_20 : DD cX2_speedBy 20 (.iload_n 1) 1 21 := by decide +kernel
theorem dX2_speedBy_21 : DD cX2_speedBy 21 (.imul) 1 22 := by decide +kernel
theorem dX2_speedBy_22 : DD cX2_speedBy 22 (.aload_n 0) 1 23 := by decide +kernel
theorem dX2_speedBy_23 : DD cX2_speedBy 23 (.getfield 37) 3 26 := by decide +kernel
theorem dX2_speedBy_26 : DD cX2_speedBy 26 (.idiv) 1 27 := by decide +kernel
theorem dX2_speedBy_27 : DD cX2_speedBy 27 (.invokestatic 59) 3 30 := by decide +kernel
theorem dX2_speedBy_30 : DD cX2_speedBy 30 (.ireturn) 1 31 := by decide +kernel
def fX2_speedBy (r : Nat) (a1 : Int32) (h : AH) : Option (Int32 × AH) := (if (h r 3) = 0 then (some ((0 : Int32), h)) else (if (h r 2) < (1 : Int32) then (some ((0 : Int32), h)) else (chk (¬ (h r 2) = 0) (some ((if (((4 : Int32) * a1) / (h r 2)) < (9 : Int32) then (((4 : Int32) * a1) / (h r 2)) else (9 : Int32)), h)))))
set_option maxHeartbeats 4000000 in
set_option maxRecDepth 4000 in
theorem uX2_speedBy {l : Launch} {X : WX} {r : Nat} {a1 : Int32} {h h' : AH} {v : Int32} (kr : kd r = 2) (hf : fX2_speedBy r a1 h = some (v, h')) : Does l X 1 yX2_speedBy cX2_speedBy 2 (some .int) [.ref (X.1 + r), .int a1] h (eI v) h' := by
  refine Does.of (enc := eI) (o := fX2_speedBy r a1 h) (lv := [(0, .ref (X.1 + r)), (1, .int a1)]) (by decide) (Nat.le_of_ble_eq_true rfl) rfl hf (fun K hl hK => ?_)
  subst hl
  unfold fX2_speedBy
  refine J_aload_n hK dX2_speedBy_0 0 rfl ?_
  refine gF_X2_40 hK dX2_speedBy_1 kr ?_
  refine J_if_eq (tgt := 15) hK dX2_speedBy_4 (by decide) ?_ ?_
  · refine J_iconst hK dX2_speedBy_15 ci_0 ?_
    exact J_iret hK dX2_speedBy_16
  · refine J_aload_n hK dX2_speedBy_7 0 rfl ?_
    refine gF_X2_37 hK dX2_speedBy_8 kr ?_
    refine J_iconst hK dX2_speedBy_11 ci_1 ?_
    refine J_icmp_ge (tgt := 17) hK dX2_speedBy_12 (by decide) ?_ ?_
    · refine J_iconst hK dX2_speedBy_15 ci_0 ?_
      exact J_iret hK dX2_speedBy_16
    · refine J_bipush hK dX2_speedBy_17 cb_9 ?_
      refine J_iconst hK dX2_speedBy_19 ci_4 ?_
      refine J_iload_n hK dX2_speedBy_20 1 rfl ?_
      refine J_imul hK dX2_speedBy_21 ?_
      refine J_aload_n hK dX2_speedBy_22 0 rfl ?_
      refine gF_X2_37 hK dX2_speedBy_23 kr ?_
      refine J_idiv hK dX2_speedBy_26 ?_
      refine J_min hK dX2_speedBy_27 (by decide) kA_X2_59 kA_smin kA_im kA_cmin (Nat.le_of_ble_eq_true rfl) ?_
      exact J_iret hK dX2_speedBy_30
-- X2_standing
theorem dX2_standing_0 : DD cX2_standing 0 (.iconst 0) 1 1 := by decide +kernel
theorem dX2_standing_1 : DD cX2_standing 1 (.istore_n 1) 1 2 := by decide +kernel
theorem dX2_standing_2 : DD cX2_standing 2 (.iconst 0) 1 3 := by decide +kernel
theorem dX2_standing_3 : DD cX2_standing 3 (.istore_n 2) 1 4 := by decide +kernel
theorem dX2_standing_4 : DD cX2_standing 4 (.iload_n 2) 1 5 := by decide +kernel
theorem dX2_standing_5 : DD cX2_standing 5 (.aload_n 0) 1 6 := by decide +kernel
theorem dX2_standing_6 : DD cX2_standing 6 (.getfield 34) 3 9 := by decide +kernel
theorem dX2_standing_9 : DD cX2_standing 9 (.if_icmp .ge 28) 3 12 := by decide +kernel
theorem dX2_standing_12 : DD cX2_standing 12 (.iload_n 1) 1 13 := by decide +kernel
theorem dX2_standing_13 : DD cX2_standing 13 (.aload_n 0) 1 14 := by decide +kernel
theorem dX2_standing_14 : DD cX2_standing 14 (.getfield 27) 3 17 := by decide +kernel
theorem dX2_standing_17 : DD cX2_standing 17 (.iload_n 2) 1 18 := by decide +kernel
theorem dX2_standing_18 : DD cX2_standing 18 (.iaload) 1 19 := by decide +kernel
theorem dX2_standing_19 : DD cX2_standing 19 (.ifCond .le 9) 3 22 := by decide +kernel
theorem dX2_standing_22 : DD cX2_standing 22 (.iconst 1) 1 23 := by decide +kernel
theorem dX2_standing_23 : DD cX2_standing 23 (.iload_n 2) 1 24 := by decide +kernel
theorem dX2_standing_24 : DD cX2_standing 24 (.ishl) 1 25 := by decide +kernel
theorem dX2_standing_25 : DD cX2_standing 25 (.goto 4) 3 28 := by decide +kernel
theorem dX2_standing_28 : DD cX2_standing 28 (.iconst 0) 1 29 := by decide +kernel
theorem dX2_standing_29 : DD cX2_standing 29 (.ior) 1 30 := by decide +kernel
theorem dX2_standing_30 : DD cX2_standing 30 (.istore_n 1) 1 31 := by decide +kernel
theorem dX2_standing_31 : DD cX2_standing 31 (.iinc 2 1) 3 34 := by decide +kernel
theorem dX2_standing_34 : DD cX2_standing 34 (.goto (-30)) 3 37 := by decide +kernel
theorem dX2_standing_37 : DD cX2_standing 37 (.iload_n 1) 1 38 := by decide +kernel
theorem dX2_standing_38 : DD cX2_standing 38 (.ireturn) 1 39 := by decide +kernel
def fX2_standing_L4 (p0 : Nat) : Nat → Int32 → Int32 → AH → (Int32 → Int32 → AH → Option (Int32 × AH)) → Option (Int32 × AH)
  | 0, _, _, _, _ => none
  | n + 1, x2, x1, h, k => (if x2 < (h p0 1) then (chk (inb x2 (ln (p0 + 6))) (if 0 < (h (p0 + 6) (Int32.toNatClampNeg x2)) then (vl (x1 ||| ((1 : Int32) <<< (x2 &&& 31))) fun z201 => (vl (x2 + (1 : Int32)) fun z202 => fX2_standing_L4 p0 n z202 z201 h k)) else (vl (x1 ||| (0 : Int32)) fun z203 => (vl (x2 + (1 : Int32)) fun z204 => fX2_standing_L4 p0 n z204 z203 h k)))) else k x2 x1 h)
def fX2_standing (r : Nat) (h : AH) : Option (Int32 × AH) := (fX2_standing_L4 r FU (0 : Int32) (0 : Int32) h fun z1 z2 h3 => (some (z2, h3)))
set_option maxHeartbeats 4000000 in
theorem gX2_standing_L4 {K : MC} {X : WX} {p0 : Nat} (hK : Ok K X RX2 cX2_standing 3 (some .int) 1) (hp0 : kd p0 = 2) {k : Int32 → Int32 → AH → Option (Int32 × AH)} (hk : ∀ (x2 : Int32) (x1 : Int32) (h : AH), J K X 3 (Zm K X) eI 37 [(2, .int x2), (1, .int x1), (0, .ref (X.1 + p0))] [] h (k x2 x1 h)) : ∀ (n : Nat) (x2 : Int32) (x1 : Int32) (h : AH), J K X 3 (Zm K X) eI 4 [(2, .int x2), (1, .int x1), (0, .ref (X.1 + p0))] [] h (fX2_standing_L4 p0 n x2 x1 h k) := by
  intro n
  induction n with
  | zero => exact fun _ _ _ => J_none
  | succ n ih =>
    intro x2 x1 h
    rw [fX2_standing_L4]
    refine J_iload_n hK dX2_standing_4 0 rfl ?_
    refine J_aload_n hK dX2_standing_5 2 rfl ?_
    refine gF_X2_34 hK dX2_standing_6 hp0 ?_
    refine J_icmp_ge (tgt := 37) hK dX2_standing_9 (by decide) ?_ ?_
    · refine J_iload_n hK dX2_standing_12 1 rfl ?_
      refine J_aload_n hK dX2_standing_13 2 rfl ?_
      refine rF_X2_27 (q2 := (p0 + 6)) hK dX2_standing_14 hp0 rfl ?_
      refine J_iload_n hK dX2_standing_17 0 rfl ?_
      refine J_iald hK dX2_standing_18 (kdE_6 hp0) (fun _ => ?_)
      refine J_if_le (tgt := 28) hK dX2_standing_19 (by decide) ?_ ?_
      · refine J_iconst hK dX2_standing_22 ci_1 ?_
        refine J_iload_n hK dX2_standing_23 0 rfl ?_
        refine J_ishl hK dX2_standing_24 ?_
        refine J_goto (len := 0) (tgt := 29) hK dX2_standing_25 (by decide) ?_
        refine J_ior hK dX2_standing_29 ?_
        refine J_istoreV_n (n := 1) (lw := [(2, .int x2), (0, .ref (X.1 + p0))]) hK dX2_standing_30 rfl (by decide) rfl (fun z201 => ?_)
        refine J_iinc (lw := [(1, .int z201), (0, .ref (X.1 + p0))]) hK dX2_standing_31 1 rfl (by decide) ci_1 rfl (fun z202 => ?_)
        refine J_goto (len := 0) (tgt := 4) hK dX2_standing_34 (by decide) ?_
        exact J_sub [0, 1, 2] rfl (ih _ _ _)
      · refine J_iconst hK dX2_standing_28 ci_0 ?_
        refine J_ior hK dX2_standing_29 ?_
        refine J_istoreV_n (n := 1) (lw := [(2, .int x2), (0, .ref (X.1 + p0))]) hK dX2_standing_30 rfl (by decide) rfl (fun z203 => ?_)
        refine J_iinc (lw := [(1, .int z203), (0, .ref (X.1 + p0))]) hK dX2_standing_31 1 rfl (by decide) ci_1 rfl (fun z204 => ?_)
        refine J_goto (len := 0) (tgt := 4) hK dX2_standing_34 (by decide) ?_
        exact J_sub [0, 1, 2] rfl (ih _ _ _)
    · exact J_sub [0, 1, 2] rfl (hk _ _ _)
set_option maxHeartbeats 4000000 in
set_option maxRecDepth 4000 in
theorem uX2_standing {l : Launch} {X : WX} {r : Nat} {h h' : AH} {v : Int32} (kr : kd r = 2) (hf : fX2_standing r h = some (v, h')) : Does l X 1 yX2_standing cX2_standing 3 (some .int) [.ref (X.1 + r)] h (eI v) h' := by
  refine Does.of (enc := eI) (o := fX2_standing r h) (lv := [(0, .ref (X.1 + r))]) (by decide) (Nat.le_of_ble_eq_true rfl) rfl hf (fun K hl hK => ?_)
  subst hl
  unfold fX2_standing
  refine J_iconst hK dX2_standing_0 ci_0 ?_
  refine J_istore_n (n := 1) (lw := [(0, .ref (X.1 + r))]) hK dX2_standing_1 rfl (by decide) rfl ?_
  refine J_iconst hK dX2_standing_2 ci_0 ?_
  refine J_istore_n (n := 2) (lw := [(1, .int (0 : Int32)), (0, .ref (X.1 + r))]) hK dX2_standing_3 rfl (by decide) rfl ?_
  refine J_sub [0, 1, 2] rfl (gX2_standing_L4 hK kr (fun z1 z2 h3 => ?_) FU _ _ _)
  refine J_iload_n hK dX2_standing_37 1 rfl ?_
  exact J_iret hK dX2_standing_38
-- X2_suppose
theorem dX2_suppose_0 : DD cX2_suppose 0 (.iload_n 2) 1 1 := by decide +kernel
theorem dX2_suppose_1 : DD cX2_suppose 1 (.tableswitch 57 0 2 #[27, 37, 47]) 27 28 := by decide +kernel
theorem dX2_suppose_28 : DD cX2_suppose 28 (.aload_n 0) 1 29 := by decide +kernel
theorem dX2_suppose_29 : DD cX2_suppose 29 (.getfield 9) 3 32 := by decide +kernel
theorem dX2_suppose_32 : DD cX2_suppose 32 (.iload_n 1) 1 33 := by decide +kernel
theorem dX2_suppose_33 : DD cX2_suppose 33 (.iload_n 3) 1 34 := by decide +kernel
theorem dX2_suppose_34 : DD cX2_suppose 34 (.iastore) 1 35 := by decide +kernel
theorem dX2_suppose_35 : DD cX2_suppose 35 (.goto 28) 3 38 := by decide +kernel
theorem dX2_suppose_38 : DD cX2_suppose 38 (.aload_n 0) 1 39 := by decide +kernel
theorem dX2_suppose_39 : DD cX2_suppose 39 (.getfield 15) 3 42 := by decide +kernel
theorem dX2_suppose_42 : DD cX2_suppose 42 (.iload_n 1) 1 43 := by decide +kernel
theorem dX2_suppose_43 : DD cX2_suppose 43 (.iload_n 3) 1 44 := by decide +kernel
theorem dX2_suppose_44 : DD cX2_suppose 44 (.iastore) 1 45 := by decide +kernel
theorem dX2_suppose_45 : DD cX2_suppose 45 (.goto 18) 3 48 := by decide +kernel
theorem dX2_suppose_48 : DD cX2_suppose 48 (.aload_n 0) 1 49 := by decide +kernel
theorem dX2_suppose_49 : DD cX2_suppose 49 (.getfield 18) 3 52 := by decide +kernel
theorem dX2_suppose_52 : DD cX2_suppose 52 (.iload_n 1) 1 53 := by decide +kernel
theorem dX2_suppose_53 : DD cX2_suppose 53 (.iload_n 3) 1 54 := by decide +kernel
theorem dX2_suppose_54 : DD cX2_suppose 54 (.iastore) 1 55 := by decide +kernel
theorem dX2_suppose_55 : DD cX2_suppose 55 (.goto 8) 3 58 := by decide +kernel
theorem dX2_suppose_58 : DD cX2_suppose 58 (.aload_n 0) 1 59 := by decide +kernel
theorem dX2_suppose_59 : DD cX2_suppose 59 (.iload_n 3) 1 60 := by decide +kernel
theorem dX2_suppose_60 : DD cX2_suppose 60 (.putfield 37) 3 63 := by decide +kernel
theorem dX2_suppose_63 : DD cX2_suppose 63 (.return_) 1 64 := by decide +kernel
def fX2_suppose (r : Nat) (a1 : Int32) (a2 : Int32) (a3 : Int32) (h : AH) : Option (Unit × AH) := (if a2 = (0 : Int32) then (chk (inb a1 (ln (r + 1))) (sto (hs h (r + 1) (Int32.toNatClampNeg a1) a3) fun h1 => (some ((), h1)))) else (if a2 = (1 : Int32) then (chk (inb a1 (ln (r + 2))) (sto (hs h (r + 2) (Int32.toNatClampNeg a1) a3) fun h3 => (some ((), h3)))) else (if a2 = (2 : Int32) then (chk (inb a1 (ln (r + 3))) (sto (hs h (r + 3) (Int32.toNatClampNeg a1) a3) fun h5 => (some ((), h5)))) else (sto (hs h r 2 a3) fun h7 => (some ((), h7))))))
set_option maxHeartbeats 4000000 in
set_option maxRecDepth 4000 in
theorem uX2_suppose {l : Launch} {X : WX} {r : Nat} {a1 : Int32} {a2 : Int32} {a3 : Int32} {h h' : AH} {v : Unit} (kr : kd r = 2) (hf : fX2_suppose r a1 a2 a3 h = some (v, h')) : Does l X 1 yX2_suppose cX2_suppose 4 none [.ref (X.1 + r), .int a1, .int a2, .int a3] h (eV v) h' := by
  refine Does.of (enc := eV) (o := fX2_suppose r a1 a2 a3 h) (lv := [(0, .ref (X.1 + r)), (1, .int a1), (2, .int a2), (3, .int a3)]) (by decide) (Nat.le_of_ble_eq_true rfl) rfl hf (fun K hl hK => ?_)
  subst hl
  unfold fX2_suppose
  refine J_iload_n hK dX2_suppose_0 2 rfl ?_
  refine J_split (c := a2 = (0 : Int32)) (fun e2 => ?_) (fun e2 => ?_)
  · refine J_tableIn (v := 0) (off := 27) (tgt := 28) hK dX2_suppose_1 e2 (by decide) ?_
    refine J_aload_n hK dX2_suppose_28 0 rfl ?_
    refine rF_X2_9 (q2 := (r + 1)) hK dX2_suppose_29 kr rfl ?_
    refine J_iload_n hK dX2_suppose_32 1 rfl ?_
    refine J_iload_n hK dX2_suppose_33 3 rfl ?_
    refine J_iast hK dX2_suppose_34 (kdE_1 kr) (fun h1 => ?_)
    refine J_goto (len := 0) (tgt := 63) hK dX2_suppose_35 (by decide) ?_
    exact J_vret hK dX2_suppose_63
  refine J_split (c := a2 = (1 : Int32)) (fun e4 => ?_) (fun e4 => ?_)
  · refine J_tableIn (v := 1) (off := 37) (tgt := 38) hK dX2_suppose_1 e4 (by decide) ?_
    refine J_aload_n hK dX2_suppose_38 0 rfl ?_
    refine rF_X2_15 (q2 := (r + 2)) hK dX2_suppose_39 kr rfl ?_
    refine J_iload_n hK dX2_suppose_42 1 rfl ?_
    refine J_iload_n hK dX2_suppose_43 3 rfl ?_
    refine J_iast hK dX2_suppose_44 (kdE_2 kr) (fun h3 => ?_)
    refine J_goto (len := 0) (tgt := 63) hK dX2_suppose_45 (by decide) ?_
    exact J_vret hK dX2_suppose_63
  refine J_split (c := a2 = (2 : Int32)) (fun e6 => ?_) (fun e6 => ?_)
  · refine J_tableIn (v := 2) (off := 47) (tgt := 48) hK dX2_suppose_1 e6 (by decide) ?_
    refine J_aload_n hK dX2_suppose_48 0 rfl ?_
    refine rF_X2_18 (q2 := (r + 3)) hK dX2_suppose_49 kr rfl ?_
    refine J_iload_n hK dX2_suppose_52 1 rfl ?_
    refine J_iload_n hK dX2_suppose_53 3 rfl ?_
    refine J_iast hK dX2_suppose_54 (kdE_3 kr) (fun h5 => ?_)
    refine J_goto (len := 0) (tgt := 63) hK dX2_suppose_55 (by decide) ?_
    exact J_vret hK dX2_suppose_63
  refine J_tableOut (tgt := 58) hK dX2_suppose_1 (tbl_out [0, 1, 2] (by decide) (nl1 e2 (nl1 e4 (nl1 e6 nl0)))) (by decide) ?_
  refine J_aload_n hK dX2_suppose_58 0 rfl ?_
  refine J_iload_n hK dX2_suppose_59 3 rfl ?_
  refine pF_X2_37 hK dX2_suppose_60 kr (fun h7 => ?_)
  exact J_vret hK dX2_suppose_63
-- X2_take
theorem dX2_take_0 : DD cX2_take 0 (.aload_n 0) 1 1 := by decide +kernel
theorem dX2_take_1 : DD cX2_take 1 (.aload_n 1) 1 2 := by decide +kernel
theorem dX2_take_2 : DD cX2_take 2 (.getfield 30) 3 5 := by decide +kernel
theorem dX2_take_5 : DD cX2_take 5 (.putfield 30) 3 8 := by decide +kernel
theorem dX2_take_8 : DD cX2_take 8 (.aload_n 0) 1 9 := by decide +kernel
theorem dX2_take_9 : DD cX2_take 9 (.aload_n 1) 1 10 := by decide +kernel
theorem dX2_take_10 : DD cX2_take 10 (.getfield 34) 3 13 := by decide +kernel
theorem dX2_take_13 : DD cX2_take 13 (.putfield 34) 3 16 := by decide +kernel
theorem dX2_take_16 : DD cX2_take 16 (.aload_n 0) 1 17 := by decide +kernel
theorem dX2_take_17 : DD cX2_take 17 (.aload_n 1) 1 18 := by decide +kernel
theorem dX2_take_18 : DD cX2_take 18 (.getfield 37) 3 21 := by decide +kernel
theorem dX2_take_21 : DD cX2_take 21 (.putfield 37) 3 24 := by decide +kernel
theorem dX2_take_24 : DD cX2_take 24 (.aload_n 0) 1 25 := by decide +kernel
theorem dX2_take_25 : DD cX2_take 25 (.aload_n 1) 1 26 := by decide +kernel
theorem dX2_take_26 : DD cX2_take 26 (.getfield 40) 3 29 := by decide +kernel
theorem dX2_take_29 : DD cX2_take 29 (.putfield 40) 3 32 := by decide +kernel
theorem dX2_take_32 : DD cX2_take 32 (.aload_n 0) 1 33 := by decide +kernel
theorem dX2_take_33 : DD cX2_take 33 (.aload_n 1) 1 34 := by decide +kernel
theorem dX2_take_34 : DD cX2_take 34 (.getfield 43) 3 37 := by decide +kernel
theorem dX2_take_37 : DD cX2_take 37 (.putfield 43) 3 40 := by decide +kernel
theorem dX2_take_40 : DD cX2_take 40 (.aload_n 0) 1 41 := by decide +kernel
theorem dX2_take_41 : DD cX2_take 41 (.aload_n 1) 1 42 := by decide +kernel
theorem dX2_take_42 : DD cX2_take 42 (.getfield 46) 3 45 := by decide +kernel
theorem dX2_take_45 : DD cX2_take 45 (.putfield 46) 3 48 := by decide +kernel
theorem dX2_take_48 : DD cX2_take 48 (.aload_n 1) 1 49 := by decide +kernel
theorem dX2_take_49 : DD cX2_take 49 (.getfield 9) 3 52 := by decide +kernel
theorem dX2_take_52 : DD cX2_take 52 (.iconst 0) 1 53 := by decide +kernel
theorem dX2_take_53 : DD cX2_take 53 (.aload_n 0) 1 54 := by decide +kernel
theorem dX2_take_54 : DD cX2_take 54 (.getfield 9) 3 57 := by decide +kernel
theorem dX2_take_57 : DD cX2_take 57 (.iconst 0) 1 58 := by decide +kernel
theorem dX2_take_58 : DD cX2_take 58 (.bipush 6) 2 60 := by decide +kernel
theorem dX2_take_60 : DD cX2_take 60 (.invokestatic 49) 3 63 := by decide +kernel
theorem dX2_take_63 : DD cX2_take 63 (.aload_n 1) 1 64 := by decide +kernel
theorem dX2_take_64 : DD cX2_take 64 (.getfield 15) 3 67 := by decide +kernel
theorem dX2_take_67 : DD cX2_take 67 (.iconst 0) 1 68 := by decide +kernel
theorem dX2_take_68 : DD cX2_take 68 (.aload_n 0) 1 69 := by decide +kernel
theorem dX2_take_69 : DD cX2_take 69 (.getfield 15) 3 72 := by decide +kernel
theorem dX2_take_72 : DD cX2_take 72 (.iconst 0) 1 73 := by decide +kernel
theorem dX2_take_73 : DD cX2_take 73 (.bipush 6) 2 75 := by decide +kernel
theorem dX2_take_75 : DD cX2_take 75 (.invokestatic 49) 3 78 := by decide +kernel
theorem dX2_take_78 : DD cX2_take 78 (.aload_n 1) 1 79 := by decide +kernel
theorem dX2_take_79 : DD cX2_take 79 (.getfield 18) 3 82 := by decide +kernel
theorem dX2_take_82 : DD cX2_take 82 (.iconst 0) 1 83 := by decide +kernel
theorem dX2_take_83 : DD cX2_take 83 (.aload_n 0) 1 84 := by decide +kernel
theorem dX2_take_84 : DD cX2_take 84 (.getfield 18) 3 87 := by decide +kernel
theorem dX2_take_87 : DD cX2_take 87 (.iconst 0) 1 88 := by decide +kernel
theorem dX2_take_88 : DD cX2_take 88 (.bipush 6) 2 90 := by decide +kernel
theorem dX2_take_90 : DD cX2_take 90 (.invokestatic 49) 3 93 := by decide +kernel
theorem dX2_take_93 : DD cX2_take 93 (.aload_n 1) 1 94 := by decide +kernel
theorem dX2_take_94 : DD cX2_take 94 (.getfield 21) 3 97 := by decide +kernel
theorem dX2_take_97 : DD cX2_take 97 (.iconst 0) 1 98 := by decide +kernel
theorem dX2_take_98 : DD cX2_take 98 (.aload_n 0) 1 99 := by decide +kernel
theorem dX2_take_99 : DD cX2_take 99 (.getfield 21) 3 102 := by decide +kernel
theorem dX2_take_102 : DD cX2_take 102 (.iconst 0) 1 103 := by decide +kernel
theorem dX2_take_103 : DD cX2_take 103 (.bipush 6) 2 105 := by decide +kernel
theorem dX2_take_105 : DD cX2_take 105 (.invokestatic 49) 3 108 := by decide +kernel
theorem dX2_take_108 : DD cX2_take 108 (.aload_n 1) 1 109 := by decide +kernel
theorem dX2_take_109 : DD cX2_take 109 (.getfield 24) 3 112 := by decide +kernel
theorem dX2_take_112 : DD cX2_take 112 (.iconst 0) 1 113 := by decide +kernel
theorem dX2_take_113 : DD cX2_take 113 (.aload_n 0) 1 114 := by decide +kernel
theorem dX2_take_114 : DD cX2_take 114 (.getfield 24) 3 117 := by decide +kernel
theorem dX2_take_117 : DD cX2_take 117 (.iconst 0) 1 118 := by decide +kernel
theorem dX2_take_118 : DD cX2_take 118 (.iconst 4) 1 119 := by decide +kernel
theorem dX2_take_119 : DD cX2_take 119 (.invokestatic 49) 3 122 := by decide +kernel
theorem dX2_take_122 : DD cX2_take 122 (.aload_n 1) 1 123 := by decide +kernel
theorem dX2_take_123 : DD cX2_take 123 (.getfield 27) 3 126 := by decide +kernel
theorem dX2_take_126 : DD cX2_take 126 (.iconst 0) 1 127 := by decide +kernel
theorem dX2_take_127 : DD cX2_take 127 (.aload_n 0) 1 128 := by decide +kernel
theorem dX2_take_128 : DD cX2_take 128 (.getfield 27) 3 131 := by decide +kernel
theorem dX2_take_131 : DD cX2_take 131 (.iconst 0) 1 132 := by decide +kernel
theorem dX2_take_132 : DD cX2_take 132 (.iconst 4) 1 133 := by decide +kernel
theorem dX2_take_133 : DD cX2_take 133 (.invokestatic 49) 3 136 := by decide +kernel
theorem dX2_take_136 : DD cX2_take 136 (.return_) 1 137 := by decide +kernel
def fX2_take (r : Nat) (a1 : Nat) (h : AH) : Option (Unit × AH) := (sto (hs h r 0 (h a1 0)) fun h1 => (sto (hs h1 r 1 (h1 a1 1)) fun h2 => (sto (hs h2 r 2 (h2 a1 2)) fun h3 => (sto (hs h3 r 3 (h3 a1 3)) fun h4 => (sto (hs h4 r 4 (h4 a1 4)) fun h5 => (sto (hs h5 r 5 (h5 a1 5)) fun h6 => (chk (¬ (0 : Int32) < 0 ∧ ¬ (0 : Int32) < 0 ∧ ¬ (6 : Int32) < 0 ∧ Int32.toNatClampNeg (0 : Int32) + Int32.toNatClampNeg (6 : Int32) ≤ ln (a1 + 1) ∧ Int32.toNatClampNeg (0 : Int32) + Int32.toNatClampNeg (6 : Int32) ≤ ln (r + 1)) (sto (hr h6 (r + 1) (va_cpy (h6 (a1 + 1)) (h6 (r + 1)) (Int32.toNatClampNeg (0 : Int32)) (Int32.toNatClampNeg (0 : Int32)) (Int32.toNatClampNeg (6 : Int32)))) fun h7 => (chk (¬ (0 : Int32) < 0 ∧ ¬ (0 : Int32) < 0 ∧ ¬ (6 : Int32) < 0 ∧ Int32.toNatClampNeg (0 : Int32) + Int32.toNatClampNeg (6 : Int32) ≤ ln (a1 + 2) ∧ Int32.toNatClampNeg (0 : Int32) + Int32.toNatClampNeg (6 : Int32) ≤ ln (r + 2)) (sto (hr h7 (r + 2) (va_cpy (h7 (a1 + 2)) (h7 (r + 2)) (Int32.toNatClampNeg (0 : Int32)) (Int32.toNatClampNeg (0 : Int32)) (Int32.toNatClampNeg (6 : Int32)))) fun h8 => (chk (¬ (0 : Int32) < 0 ∧ ¬ (0 : Int32) < 0 ∧ ¬ (6 : Int32) < 0 ∧ Int32.toNatClampNeg (0 : Int32) + Int32.toNatClampNeg (6 : Int32) ≤ ln (a1 + 3) ∧ Int32.toNatClampNeg (0 : Int32) + Int32.toNatClampNeg (6 : Int32) ≤ ln (r + 3)) (sto (hr h8 (r + 3) (va_cpy (h8 (a1 + 3)) (h8 (r + 3)) (Int32.toNatClampNeg (0 : Int32)) (Int32.toNatClampNeg (0 : Int32)) (Int32.toNatClampNeg (6 : Int32)))) fun h9 => (chk (¬ (0 : Int32) < 0 ∧ ¬ (0 : Int32) < 0 ∧ ¬ (6 : Int32) < 0 ∧ Int32.toNatClampNeg (0 : Int32) + Int32.toNatClampNeg (6 : Int32) ≤ ln (a1 + 4) ∧ Int32.toNatClampNeg (0 : Int32) + Int32.toNatClampNeg (6 : Int32) ≤ ln (r + 4)) (sto (hr h9 (r + 4) (va_cpy (h9 (a1 + 4)) (h9 (r + 4)) (Int32.toNatClampNeg (0 : Int32)) (Int32.toNatClampNeg (0 : Int32)) (Int32.toNatClampNeg (6 : Int32)))) fun h10 => (chk (¬ (0 : Int32) < 0 ∧ ¬ (0 : Int32) < 0 ∧ ¬ (4 : Int32) < 0 ∧ Int32.toNatClampNeg (0 : Int32) + Int32.toNatClampNeg (4 : Int32) ≤ ln (a1 + 5) ∧ Int32.toNatClampNeg (0 : Int32) + Int32.toNatClampNeg (4 : Int32) ≤ ln (r + 5)) (sto (hr h10 (r + 5) (va_cpy (h10 (a1 + 5)) (h10 (r + 5)) (Int32.toNatClampNeg (0 : Int32)) (Int32.toNatClampNeg (0 : Int32)) (Int32.toNatClampNeg (4 : Int32)))) fun h11 => (chk (¬ (0 : Int32) < 0 ∧ ¬ (0 : Int32) < 0 ∧ ¬ (4 : Int32) < 0 ∧ Int32.toNatClampNeg (0 : Int32) + Int32.toNatClampNeg (4 : Int32) ≤ ln (a1 + 6) ∧ Int32.toNatClampNeg (0 : Int32) + Int32.toNatClampNeg (4 : Int32) ≤ ln (r + 6)) (sto (hr h11 (r + 6) (va_cpy (h11 (a1 + 6)) (h11 (r + 6)) (Int32.toNatClampNeg (0 : Int32)) (Int32.toNatClampNeg (0 : Int32)) (Int32.toNatClampNeg (4 : Int32)))) fun h12 => (some ((), h12))))))))))))))))))))
set_option maxHeartbeats 4000000 in
set_option maxRecDepth 4000 in
theorem uX2_take {l : Launch} {X : WX} {r : Nat} {a1 : Nat} {h h' : AH} {v : Unit} (kr : kd r = 2) (ka1 : kd a1 = 2) (hf : fX2_take r a1 h = some (v, h')) : Does l X 1 yX2_take cX2_take 2 none [.ref (X.1 + r), .ref (X.1 + a1)] h (eV v) h' := by
  refine Does.of (enc := eV) (o := fX2_take r a1 h) (lv := [(0, .ref (X.1 + r)), (1, .ref (X.1 + a1))]) (by decide) (Nat.le_of_ble_eq_true rfl) rfl hf (fun K hl hK => ?_)
  subst hl
  unfold fX2_take
  refine J_aload_n hK dX2_take_0 0 rfl ?_
  refine J_aload_n hK dX2_take_1 1 rfl ?_
  refine gF_X2_30 hK dX2_take_2 ka1 ?_
  refine pF_X2_30 hK dX2_take_5 kr (fun h1 => ?_)
  refine J_aload_n hK dX2_take_8 0 rfl ?_
  refine J_aload_n hK dX2_take_9 1 rfl ?_
  refine gF_X2_34 hK dX2_take_10 ka1 ?_
  refine pF_X2_34 hK dX2_take_13 kr (fun h2 => ?_)
  refine J_aload_n hK dX2_take_16 0 rfl ?_
  refine J_aload_n hK dX2_take_17 1 rfl ?_
  refine gF_X2_37 hK dX2_take_18 ka1 ?_
  refine pF_X2_37 hK dX2_take_21 kr (fun h3 => ?_)
  refine J_aload_n hK dX2_take_24 0 rfl ?_
  refine J_aload_n hK dX2_take_25 1 rfl ?_
  refine gF_X2_40 hK dX2_take_26 ka1 ?_
  refine pF_X2_40 hK dX2_take_29 kr (fun h4 => ?_)
  refine J_aload_n hK dX2_take_32 0 rfl ?_
  refine J_aload_n hK dX2_take_33 1 rfl ?_
  refine gF_X2_43 hK dX2_take_34 ka1 ?_
  refine pF_X2_43 hK dX2_take_37 kr (fun h5 => ?_)
  refine J_aload_n hK dX2_take_40 0 rfl ?_
  refine J_aload_n hK dX2_take_41 1 rfl ?_
  refine gF_X2_46 hK dX2_take_42 ka1 ?_
  refine pF_X2_46 hK dX2_take_45 kr (fun h6 => ?_)
  refine J_aload_n hK dX2_take_48 1 rfl ?_
  refine rF_X2_9 (q2 := (a1 + 1)) hK dX2_take_49 ka1 rfl ?_
  refine J_iconst hK dX2_take_52 ci_0 ?_
  refine J_aload_n hK dX2_take_53 0 rfl ?_
  refine rF_X2_9 (q2 := (r + 1)) hK dX2_take_54 kr rfl ?_
  refine J_iconst hK dX2_take_57 ci_0 ?_
  refine J_bipush hK dX2_take_58 cb_6 ?_
  refine J_acopy hK dX2_take_60 (by decide) (kdE_1 ka1) (kdE_1 kr) kA_X2_49 kA_nat kA_st kA_in (Nat.le_of_ble_eq_true rfl) (fun h7 => ?_)
  refine J_aload_n hK dX2_take_63 1 rfl ?_
  refine rF_X2_15 (q2 := (a1 + 2)) hK dX2_take_64 ka1 rfl ?_
  refine J_iconst hK dX2_take_67 ci_0 ?_
  refine J_aload_n hK dX2_take_68 0 rfl ?_
  refine rF_X2_15 (q2 := (r + 2)) hK dX2_take_69 kr rfl ?_
  refine J_iconst hK dX2_take_72 ci_0 ?_
  refine J_bipush hK dX2_take_73 cb_6 ?_
  refine J_acopy hK dX2_take_75 (by decide) (kdE_2 ka1) (kdE_2 kr) kA_X2_49 kA_nat kA_st kA_in (Nat.le_of_ble_eq_true rfl) (fun h8 => ?_)
  refine J_aload_n hK dX2_take_78 1 rfl ?_
  refine rF_X2_18 (q2 := (a1 + 3)) hK dX2_take_79 ka1 rfl ?_
  refine J_iconst hK dX2_take_82 ci_0 ?_
  refine J_aload_n hK dX2_take_83 0 rfl ?_
  refine rF_X2_18 (q2 := (r + 3)) hK dX2_take_84 kr rfl ?_
  refine J_iconst hK dX2_take_87 ci_0 ?_
  refine J_bipush hK dX2_take_88 cb_6 ?_
  refine J_acopy hK dX2_take_90 (by decide) (kdE_3 ka1) (kdE_3 kr) kA_X2_49 kA_nat kA_st kA_in (Nat.le_of_ble_eq_true rfl) (fun h9 => ?_)
  refine J_aload_n hK dX2_take_93 1 rfl ?_
  refine rF_X2_21 (q2 := (a1 + 4)) hK dX2_take_94 ka1 rfl ?_
  refine J_iconst hK dX2_take_97 ci_0 ?_
  refine J_aload_n hK dX2_take_98 0 rfl ?_
  refine rF_X2_21 (q2 := (r + 4)) hK dX2_take_99 kr rfl ?_
  refine J_iconst hK dX2_take_102 ci_0 ?_
  refine J_bipush hK dX2_take_103 cb_6 ?_
  refine J_acopy hK dX2_take_105 (by decide) (kdE_4 ka1) (kdE_4 kr) kA_X2_49 kA_nat kA_st kA_in (Nat.le_of_ble_eq_true rfl) (fun h10 => ?_)
  refine J_aload_n hK dX2_take_108 1 rfl ?_
  refine rF_X2_24 (q2 := (a1 + 5)) hK dX2_take_109 ka1 rfl ?_
  refine J_iconst hK dX2_take_112 ci_0 ?_
  refine J_aload_n hK dX2_take_113 0 rfl ?_
  refine rF_X2_24 (q2 := (r + 5)) hK dX2_take_114 kr rfl ?_
  refine J_iconst hK dX2_take_117 ci_0 ?_
  refine J_iconst hK dX2_take_118 ci_4 ?_
  refine J_acopy hK dX2_take_119 (by decide) (kdE_5 ka1) (kdE_5 kr) kA_X2_49 kA_nat kA_st kA_in (Nat.le_of_ble_eq_true rfl) (fun h11 => ?_)
  refine J_aload_n hK dX2_take_122 1 rfl ?_
  refine rF_X2_27 (q2 := (a1 + 6)) hK dX2_take_123 ka1 rfl ?_
  refine J_iconst hK dX2_take_126 ci_0 ?_
  refine J_aload_n hK dX2_take_127 0 rfl ?_
  refine rF_X2_27 (q2 := (r + 6)) hK dX2_take_128 kr rfl ?_
  refine J_iconst hK dX2_take_131 ci_0 ?_
  refine J_iconst hK dX2_take_132 ci_4 ?_
  refine J_acopy hK dX2_take_133 (by decide) (kdE_6 ka1) (kdE_6 kr) kA_X2_49 kA_nat kA_st kA_in (Nat.le_of_ble_eq_true rfl) (fun h12 => ?_)
  exact J_vret hK dX2_take_136
-- X2_befall
theorem dX2_befall_0 : DD cX2_befall 0 (.aload_n 0) 1 1 := by decide +kernel
theorem dX2_befall_1 : DD cX2_befall 1 (.getfield 30) 3 4 := by decide +kernel
theorem dX2_befall_4 : DD cX2_befall 4 (.iconst 1) 1 5 := by decide +kernel
theorem dX2_befall_5 : DD cX2_befall 5 (.if_icmp .ge 4) 3 8 := by decide +kernel
theorem dX2_befall_8 : DD cX2_befall 8 (.return_) 1 9 := by decide +kernel
theorem dX2_befall_9 : DD cX2_befall 9 (.lload_n 1) 1 10 := by decide +kernel
theorem dX2_befall_10 : DD cX2_befall 10 (.aload_n 0) 1 11 := by decide +kernel
theorem dX2_befall_11 : DD cX2_befall 11 (.getfield 30) 3 14 := by decide +kernel
theorem dX2_befall_14 : DD cX2_befall 14 (.i2l) 1 15 := by decide +kernel
theorem dX2_befall_15 : DD cX2_befall 15 (.lrem) 1 16 := by decide +kernel
theorem dX2_befall_16 : DD cX2_befall 16 (.l2i) 1 17 := by decide +kernel
theorem dX2_befall_17 : DD cX2_befall 17 (.istore_n 3) 1 18 := by decide +kernel
theorem dX2_befall_18 : DD cX2_befall 18 (.aload_n 0) 1 19 := by decide +kernel
theorem dX2_befall_19 : DD cX2_befall 19 (.iload_n 3) 1 20 := by decide +kernel
theorem dX2_befall_20 : DD cX2_befall 20 (.invokevirtual 55) 3 23 := by decide +kernel
theorem dX2_befall_23 : DD cX2_befall 23 (.ifCond .ne 11) 3 26 := by decide +kernel
theorem dX2_befall_26 : DD cX2_befall 26 (.aload_n 0) 1 27 := by decide +kernel
theorem dX2_befall_27 : DD cX2_befall 27 (.iload_n 3) 1 28 := by decide +kernel
theorem dX2_befall_28 : DD cX2_befall 28 (.invokevirtual 91) 3 31 := by decide +kernel
theorem dX2_befall_31 : DD cX2_befall 31 (.goto 18) 3 34 := by decide +kernel
theorem dX2_befall_34 : DD cX2_befall 34 (.lload_n 1) 1 35 := by decide +kernel
theorem dX2_befall_35 : DD cX2_befall 35 (.ldc2_w 94) 3 38 := by decide +kernel
theorem dX2_befall_38 : DD cX2_befall 38 (.lrem) 1 39 := by decide +kernel
theorem dX2_befall_39 : DD cX2_befall 39 (.lconst 0) 1 40 := by decide +kernel
theorem dX2_befall_40 : DD cX2_befall 40 (.lcmp) 1 41 := by decide +kernel
theorem dX2_befall_41 : DD cX2_befall 41 (.ifCond .ne 8) 3 44 := by decide +kernel
theorem dX2_befall_44 : DD cX2_befall 44 (.aload_n 0) 1 45 := by decide +kernel
theorem dX2_befall_45 : DD cX2_befall 45 (.iload_n 3) 1 46 := by decide +kernel
theorem dX2_befall_46 : DD cX2_befall 46 (.invokevirtual 72) 3 49 := by decide +kernel
theorem dX2_befall_49 : DD cX2_befall 49 (.aload_n 0) 1 50 := by decide +kernel
theorem dX2_befall_50 : DD cX2_befall 50 (.getfield 40) 3 53 := by decide +kernel
theorem dX2_befall_53 : DD cX2_befall 53 (.ifCond .ne 15) 3 56 := by decide +kernel
theorem dX2_befall_56 : DD cX2_befall 56 (.aload_n 0) 1 57 := by decide +kernel
theorem dX2_befall_57 : DD cX2_befall 57 (.lload_n 1) 1 58 := by decide +kernel
theorem dX2_befall_58 : DD cX2_befall 58 (.ldc2_w 96) 3 61 := by decide +kernel
theorem dX2_befall_61 : DD cX2_befall 61 (.lrem) 1 62 := by decide +kernel
theorem dX2_befall_62 : DD cX2_befall 62 (.l2i) 1 63 := by decide +kernel
theorem dX2_befall_63 : DD cX2_befall 63 (.iconst 1) 1 64 := by decide +kernel
theorem dX2_befall_64 : DD cX2_befall 64 (.iadd) 1 65 := by decide +kernel
theorem dX2_befall_65 : DD cX2_befall 65 (.putfield 40) 3 68 := by decide +kernel
theorem dX2_befall_68 : DD cX2_befall 68 (.return_) 1 69 := by decide +kernel
def fX2_befall (r : Nat) (a1 : Int64) (h : AH) : Option (Unit × AH) := (if (h r 0) < (1 : Int32) then (some ((), h)) else (chk (¬ (Int32.toInt64 (h r 0)) = 0) (vl (Int64.toInt32 (a1 - a1 / (Int32.toInt64 (h r 0)) * (Int32.toInt64 (h r 0)))) fun z1 => (bnd (fX2_holds r z1 h) fun v3 h2 => (if v3 = 0 then (bnd (fX2_mendRope r z1 h2) fun _ h4 => (if (h4 r 3) = 0 then (chk (¬ (99 : Int64) = 0) (sto (hs h4 r 3 ((Int64.toInt32 (a1 - a1 / (99 : Int64) * (99 : Int64))) + (1 : Int32))) fun h5 => (some ((), h5)))) else (some ((), h4)))) else (chk (¬ (5 : Int64) = 0) (if (lg_cmp (a1 - a1 / (5 : Int64) * (5 : Int64)) (0 : Int64)) = 0 then (bnd (fX2_letGo r z1 h2) fun _ h6 => (if (h6 r 3) = 0 then (chk (¬ (99 : Int64) = 0) (sto (hs h6 r 3 ((Int64.toInt32 (a1 - a1 / (99 : Int64) * (99 : Int64))) + (1 : Int32))) fun h7 => (some ((), h7)))) else (some ((), h6)))) else (if (h2 r 3) = 0 then (chk (¬ (99 : Int64) = 0) (sto (hs h2 r 3 ((Int64.toInt32 (a1 - a1 / (99 : Int64) * (99 : Int64))) + (1 : Int32))) fun h8 => (some ((), h8)))) else (some ((), h2))))))))))
set_option maxHeartbeats 4000000 in
set_option maxRecDepth 4000 in
theorem uX2_befall {l : Launch} {X : WX} {r : Nat} {a1 : Int64} {h h' : AH} {v : Unit} (kr : kd r = 2) (hf : fX2_befall r a1 h = some (v, h')) : Does l X 2 yX2_befall cX2_befall 4 none [.ref (X.1 + r), .long a1] h (eV v) h' := by
  refine Does.of (enc := eV) (o := fX2_befall r a1 h) (lv := [(0, .ref (X.1 + r)), (1, .long a1)]) (by decide) (Nat.le_of_ble_eq_true rfl) rfl hf (fun K hl hK => ?_)
  subst hl
  unfold fX2_befall
  refine J_aload_n hK dX2_befall_0 0 rfl ?_
  refine gF_X2_30 hK dX2_befall_1 kr ?_
  refine J_iconst hK dX2_befall_4 ci_1 ?_
  refine J_icmp_ge (tgt := 9) hK dX2_befall_5 (by decide) ?_ ?_
  · exact J_vret hK dX2_befall_8
  · refine J_lload_n hK dX2_befall_9 1 rfl ?_
    refine J_aload_n hK dX2_befall_10 0 rfl ?_
    refine gF_X2_30 hK dX2_befall_11 kr ?_
    refine J_i2l hK dX2_befall_14 ?_
    refine J_lrem hK dX2_befall_15 ?_
    refine J_l2i hK dX2_befall_16 ?_
    refine J_istoreV_n (n := 3) (lw := [(0, .ref (X.1 + r)), (1, .long a1)]) hK dX2_befall_17 rfl (by decide) rfl (fun z1 => ?_)
    refine J_aload_n hK dX2_befall_18 1 rfl ?_
    refine J_iload_n hK dX2_befall_19 0 rfl ?_
    refine J_callVi (q := r) (As := [.int z1]) (st := []) hK dX2_befall_20 kB_X2_55 kV_X2_holds kr (by decide) rfl rfl (by decide) rfl rfl (Nat.le_of_ble_eq_true rfl) (fun _ _ hf => uX2_holds kr hf) (fun v3 h2 => ?_)
    refine J_if_ne (tgt := 34) hK dX2_befall_23 (by decide) ?_ ?_
    · refine J_aload_n hK dX2_befall_26 1 rfl ?_
      refine J_iload_n hK dX2_befall_27 0 rfl ?_
      refine J_callVv (q := r) (As := [.int z1]) (st := []) hK dX2_befall_28 kB_X2_91 kV_X2_mendRope kr (by decide) rfl rfl (by decide) rfl rfl (Nat.le_of_ble_eq_true rfl) (fun _ _ hf => uX2_mendRope kr hf) (fun _ h4 => ?_)
      refine J_goto (len := 0) (tgt := 49) hK dX2_befall_31 (by decide) ?_
      refine J_aload_n hK dX2_befall_49 1 rfl ?_
      refine gF_X2_40 hK dX2_befall_50 kr ?_
      refine J_if_ne (tgt := 68) hK dX2_befall_53 (by decide) ?_ ?_
      · refine J_aload_n hK dX2_befall_56 1 rfl ?_
        refine J_lload_n hK dX2_befall_57 2 rfl ?_
        refine J_ldc2 hK dX2_befall_58 kK_X2_96 ?_
        refine J_lrem hK dX2_befall_61 ?_
        refine J_l2i hK dX2_befall_62 ?_
        refine J_iconst hK dX2_befall_63 ci_1 ?_
        refine J_iadd hK dX2_befall_64 ?_
        refine pF_X2_40 hK dX2_befall_65 kr (fun h5 => ?_)
        exact J_vret hK dX2_befall_68
      · exact J_vret hK dX2_befall_68
    · refine J_lload_n hK dX2_befall_34 2 rfl ?_
      refine J_ldc2 hK dX2_befall_35 kK_X2_94 ?_
      refine J_lrem hK dX2_befall_38 ?_
      refine J_lconst (v := 0) hK dX2_befall_39 rfl ?_
      refine J_lcmp hK dX2_befall_40 ?_
      refine J_if_ne (tgt := 49) hK dX2_befall_41 (by decide) ?_ ?_
      · refine J_aload_n hK dX2_befall_44 1 rfl ?_
        refine J_iload_n hK dX2_befall_45 0 rfl ?_
        refine J_callVv (q := r) (As := [.int z1]) (st := []) hK dX2_befall_46 kB_X2_72 kV_X2_letGo kr (by decide) rfl rfl (by decide) rfl rfl (Nat.le_of_ble_eq_true rfl) (fun _ _ hf => uX2_letGo kr hf) (fun _ h6 => ?_)
        refine J_aload_n hK dX2_befall_49 1 rfl ?_
        refine gF_X2_40 hK dX2_befall_50 kr ?_
        refine J_if_ne (tgt := 68) hK dX2_befall_53 (by decide) ?_ ?_
        · refine J_aload_n hK dX2_befall_56 1 rfl ?_
          refine J_lload_n hK dX2_befall_57 2 rfl ?_
          refine J_ldc2 hK dX2_befall_58 kK_X2_96 ?_
          refine J_lrem hK dX2_befall_61 ?_
          refine J_l2i hK dX2_befall_62 ?_
          refine J_iconst hK dX2_befall_63 ci_1 ?_
          refine J_iadd hK dX2_befall_64 ?_
          refine pF_X2_40 hK dX2_befall_65 kr (fun h7 => ?_)
          exact J_vret hK dX2_befall_68
        · exact J_vret hK dX2_befall_68
      · refine J_aload_n hK dX2_befall_49 1 rfl ?_
        refine gF_X2_40 hK dX2_befall_50 kr ?_
        refine J_if_ne (tgt := 68) hK dX2_befall_53 (by decide) ?_ ?_
        · refine J_aload_n hK dX2_befall_56 1 rfl ?_
          refine J_lload_n hK dX2_befall_57 2 rfl ?_
          refine J_ldc2 hK dX2_befall_58 kK_X2_96 ?_
          refine J_lrem hK dX2_befall_61 ?_
          refine J_l2i hK dX2_befall_62 ?_
          refine J_iconst hK dX2_befall_63 ci_1 ?_
          refine J_iadd hK dX2_befall_64 ?_
          refine pF_X2_40 hK dX2_befall_65 kr (fun h8 => ?_)
          exact J_vret hK dX2_befall_68
        · exact J_vret hK dX2_befall_68
-- X2_comeNearer
theorem dX2_comeNearer_0 : DD cX2_comeNearer 0 (.aload_n 0) 1 1 := by decide +kernel
theorem dX2_comeNearer_1 : DD cX2_comeNearer 1 (.iload_n 1) 1 2 := by decide +kernel
theorem dX2_comeNearer_2 : DD cX2_comeNearer 2 (.invokevirtual 85) 3 5 := by decide +kernel
theorem dX2_comeNearer_5 : DD cX2_comeNearer 5 (.istore_n 2) 1 6 := by decide +kernel
theorem dX2_comeNearer_6 : DD cX2_comeNearer 6 (.iload_n 2) 1 7 := by decide +kernel
theorem dX2_comeNearer_7 : DD cX2_comeNearer 7 (.ifCond .ge 18) 3 10 := by decide +kernel
theorem dX2_comeNearer_10 : DD cX2_comeNearer 10 (.aload_n 0) 1 11 := by decide +kernel
theorem dX2_comeNearer_11 : DD cX2_comeNearer 11 (.iconst 0) 1 12 := by decide +kernel
theorem dX2_comeNearer_12 : DD cX2_comeNearer 12 (.aload_n 0) 1 13 := by decide +kernel
theorem dX2_comeNearer_13 : DD cX2_comeNearer 13 (.getfield 40) 3 16 := by decide +kernel
theorem dX2_comeNearer_16 : DD cX2_comeNearer 16 (.iload_n 1) 1 17 := by decide +kernel
theorem dX2_comeNearer_17 : DD cX2_comeNearer 17 (.isub) 1 18 := by decide +kernel
theorem dX2_comeNearer_18 : DD cX2_comeNearer 18 (.invokestatic 88) 3 21 := by decide +kernel
theorem dX2_comeNearer_21 : DD cX2_comeNearer 21 (.putfield 40) 3 24 := by decide +kernel
theorem dX2_comeNearer_24 : DD cX2_comeNearer 24 (.return_) 1 25 := by decide +kernel
theorem dX2_comeNearer_25 : DD cX2_comeNearer 25 (.aload_n 0) 1 26 := by decide +kernel
theorem dX2_comeNearer_26 : DD cX2_comeNearer 26 (.getfield 24) 3 29 := by decide +kernel
theorem dX2_comeNearer_29 : DD cX2_comeNearer 29 (.iload_n 2) 1 30 := by decide +kernel
theorem dX2_comeNearer_30 : DD cX2_comeNearer 30 (.iaload) 1 31 := by decide +kernel
theorem dX2_comeNearer_31 : DD cX2_comeNearer 31 (.iconst 1) 1 32 := by decide +kernel
theorem dX2_comeNearer_32 : DD cX2_comeNearer 32 (.iadd) 1 33 := by decide +kernel
theorem dX2_comeNearer_33 : DD cX2_comeNearer 33 (.istore_n 3) 1 34 := by decide +kernel
theorem dX2_comeNearer_34 : DD cX2_comeNearer 34 (.iload_n 1) 1 35 := by decide +kernel
theorem dX2_comeNearer_35 : DD cX2_comeNearer 35 (.aload_n 0) 1 36 := by decide +kernel
theorem dX2_comeNearer_36 : DD cX2_comeNearer 36 (.getfield 40) 3 39 := by decide +kernel
theorem dX2_comeNearer_39 : DD cX2_comeNearer 39 (.iload_n 3) 1 40 := by decide +kernel
theorem dX2_comeNearer_40 : DD cX2_comeNearer 40 (.isub) 1 41 := by decide +kernel
theorem dX2_comeNearer_41 : DD cX2_comeNearer 41 (.isub) 1 42 := by decide +kernel
theorem dX2_comeNearer_42 : DD cX2_comeNearer 42 (.istore 4) 2 44 := by decide +kernel
theorem dX2_comeNearer_44 : DD cX2_comeNearer 44 (.aload_n 0) 1 45 := by decide +kernel
theorem dX2_comeNearer_45 : DD cX2_comeNearer 45 (.getfield 27) 3 48 := by decide +kernel
theorem dX2_comeNearer_48 : DD cX2_comeNearer 48 (.iload_n 2) 1 49 := by decide +kernel
theorem dX2_comeNearer_49 : DD cX2_comeNearer 49 (.iconst 0) 1 50 := by decide +kernel
theorem dX2_comeNearer_50 : DD cX2_comeNearer 50 (.aload_n 0) 1 51 := by decide +kernel
theorem dX2_comeNearer_51 : DD cX2_comeNearer 51 (.getfield 27) 3 54 := by decide +kernel
theorem dX2_comeNearer_54 : DD cX2_comeNearer 54 (.iload_n 2) 1 55 := by decide +kernel
theorem dX2_comeNearer_55 : DD cX2_comeNearer 55 (.iaload) 1 56 := by decide +kernel
theorem dX2_comeNearer_56 : DD cX2_comeNearer 56 (.iload 4) 2 58 := by decide +kernel
theorem dX2_comeNearer_58 : DD cX2_comeNearer 58 (.isub) 1 59 := by decide +kernel
theorem dX2_comeNearer_59 : DD cX2_comeNearer 59 (.invokestatic 88) 3 62 := by decide +kernel
theorem dX2_comeNearer_62 : DD cX2_comeNearer 62 (.iastore) 1 63 := by decide +kernel
theorem dX2_comeNearer_63 : DD cX2_comeNearer 63 (.aload_n 0) 1 64 := by decide +kernel
theorem dX2_comeNearer_64 : DD cX2_comeNearer 64 (.iload_n 3) 1 65 := by decide +kernel
theorem dX2_comeNearer_65 : DD cX2_comeNearer 65 (.putfield 40) 3 68 := by decide +kernel
theorem dX2_comeNearer_68 : DD cX2_comeNearer 68 (.return_) 1 69 := by decide +kernel
def fX2_comeNearer (r : Nat) (a1 : Int32) (h : AH) : Option (Unit × AH) := (bnd (fX2_pierOnTheWay r a1 h) fun v2 h1 => (if v2 < 0 then (sto (hs h1 r 3 (if (0 : Int32) < ((h1 r 3) - a1) then ((h1 r 3) - a1) else (0 : Int32))) fun h3 => (some ((), h3))) else (chk (inb v2 (ln (r + 5))) (vl ((h1 (r + 5) (Int32.toNatClampNeg v2)) + (1 : Int32)) fun z4 => (vl (a1 - ((h1 r 3) - z4)) fun z5 => (chk (inb v2 (ln (r + 6))) (chk (inb v2 (ln (r + 6))) (sto (hs h1 (r + 6) (Int32.toNatClampNeg v2) (if (0 : Int32) < ((h1 (r + 6) (Int32.toNatClampNeg v2)) - z5) then ((h1 (r + 6) (Int32.toNatClampNeg v2)) - z5) else (0 : Int32))) fun h6 => (sto (hs h6 r 3 z4) fun h7 => (some ((), h7)))))))))))
set_option maxHeartbeats 4000000 in
set_option maxRecDepth 4000 in
theorem uX2_comeNearer {l : Launch} {X : WX} {r : Nat} {a1 : Int32} {h h' : AH} {v : Unit} (kr : kd r = 2) (hf : fX2_comeNearer r a1 h = some (v, h')) : Does l X 2 yX2_comeNearer cX2_comeNearer 5 none [.ref (X.1 + r), .int a1] h (eV v) h' := by
  refine Does.of (enc := eV) (o := fX2_comeNearer r a1 h) (lv := [(0, .ref (X.1 + r)), (1, .int a1)]) (by decide) (Nat.le_of_ble_eq_true rfl) rfl hf (fun K hl hK => ?_)
  subst hl
  unfold fX2_comeNearer
  refine J_aload_n hK dX2_comeNearer_0 0 rfl ?_
  refine J_iload_n hK dX2_comeNearer_1 1 rfl ?_
  refine J_callVi (q := r) (As := [.int a1]) (st := []) hK dX2_comeNearer_2 kB_X2_85 kV_X2_pierOnTheWay kr (by decide) rfl rfl (by decide) rfl rfl (Nat.le_of_ble_eq_true rfl) (fun _ _ hf => uX2_pierOnTheWay kr hf) (fun v2 h1 => ?_)
  refine J_istore_n (n := 2) (lw := [(0, .ref (X.1 + r)), (1, .int a1)]) hK dX2_comeNearer_5 rfl (by decide) rfl ?_
  refine J_iload_n hK dX2_comeNearer_6 0 rfl ?_
  refine J_if_ge (tgt := 25) hK dX2_comeNearer_7 (by decide) ?_ ?_
  · refine J_aload_n hK dX2_comeNearer_10 1 rfl ?_
    refine J_iconst hK dX2_comeNearer_11 ci_0 ?_
    refine J_aload_n hK dX2_comeNearer_12 1 rfl ?_
    refine gF_X2_40 hK dX2_comeNearer_13 kr ?_
    refine J_iload_n hK dX2_comeNearer_16 2 rfl ?_
    refine J_isub hK dX2_comeNearer_17 ?_
    refine J_max hK dX2_comeNearer_18 (by decide) kA_X2_88 kA_smax kA_im kA_cmax (Nat.le_of_ble_eq_true rfl) ?_
    refine pF_X2_40 hK dX2_comeNearer_21 kr (fun h3 => ?_)
    exact J_vret hK dX2_comeNearer_24
  · refine J_aload_n hK dX2_comeNearer_25 1 rfl ?_
    refine rF_X2_24 (q2 := (r + 5)) hK dX2_comeNearer_26 kr rfl ?_
    refine J_iload_n hK dX2_comeNearer_29 0 rfl ?_
    refine J_iald hK dX2_comeNearer_30 (kdE_5 kr) (fun _ => ?_)
    refine J_iconst hK dX2_comeNearer_31 ci_1 ?_
    refine J_iadd hK dX2_comeNearer_32 ?_
    refine J_istoreV_n (n := 3) (lw := [(2, .int v2), (0, .ref (X.1 + r)), (1, .int a1)]) hK dX2_comeNearer_33 rfl (by decide) rfl (fun z4 => ?_)
    refine J_iload_n hK dX2_comeNearer_34 3 rfl ?_
    refine J_aload_n hK dX2_comeNearer_35 2 rfl ?_
    refine gF_X2_40 hK dX2_comeNearer_36 kr ?_
    refine J_iload_n hK dX2_comeNearer_39 0 rfl ?_
    refine J_isub hK dX2_comeNearer_40 ?_
    refine J_isub hK dX2_comeNearer_41 ?_
    refine J_istoreV (lw := [(3, .int z4), (2, .int v2), (0, .ref (X.1 + r)), (1, .int a1)]) hK dX2_comeNearer_42 (by decide) rfl (fun z5 => ?_)
    refine J_aload_n hK dX2_comeNearer_44 3 rfl ?_
    refine rF_X2_27 (q2 := (r + 6)) hK dX2_comeNearer_45 kr rfl ?_
    refine J_iload_n hK dX2_comeNearer_48 2 rfl ?_
    refine J_iconst hK dX2_comeNearer_49 ci_0 ?_
    refine J_aload_n hK dX2_comeNearer_50 3 rfl ?_
    refine rF_X2_27 (q2 := (r + 6)) hK dX2_comeNearer_51 kr rfl ?_
    refine J_iload_n hK dX2_comeNearer_54 2 rfl ?_
    refine J_iald hK dX2_comeNearer_55 (kdE_6 kr) (fun _ => ?_)
    refine J_iload hK dX2_comeNearer_56 0 rfl ?_
    refine J_isub hK dX2_comeNearer_58 ?_
    refine J_max hK dX2_comeNearer_59 (by decide) kA_X2_88 kA_smax kA_im kA_cmax (Nat.le_of_ble_eq_true rfl) ?_
    refine J_iast hK dX2_comeNearer_62 (kdE_6 kr) (fun h6 => ?_)
    refine J_aload_n hK dX2_comeNearer_63 3 rfl ?_
    refine J_iload_n hK dX2_comeNearer_64 1 rfl ?_
    refine pF_X2_40 hK dX2_comeNearer_65 kr (fun h7 => ?_)
    exact J_vret hK dX2_comeNearer_68
-- X2_drawOf
theorem dX2_drawOf_0 : DD cX2_drawOf 0 (.aload_n 0) 1 1 := by decide +kernel
theorem dX2_drawOf_1 : DD cX2_drawOf 1 (.iload_n 1) 1 2 := by decide +kernel
theorem dX2_drawOf_2 : DD cX2_drawOf 2 (.invokevirtual 55) 3 5 := by decide +kernel
theorem dX2_drawOf_5 : DD cX2_drawOf 5 (.ifCond .ne 5) 3 8 := by decide +kernel
theorem dX2_drawOf_8 : DD cX2_drawOf 8 (.iconst 0) 1 9 := by decide +kernel
theorem dX2_drawOf_9 : DD cX2_drawOf 9 (.ireturn) 1 10 := by decide +kernel
theorem dX2_drawOf_10 : DD cX2_drawOf 10 (.aload_n 0) 1 11 := by decide +kernel
theorem dX2_drawOf_11 : DD cX2_drawOf 11 (.getfield 9) 3 14 := by decide +kernel
theorem dX2_drawOf_14 : DD cX2_drawOf 14 (.iload_n 1) 1 15 := by decide +kernel
theorem dX2_drawOf_15 : DD cX2_drawOf 15 (.iaload) 1 16 := by decide +kernel
theorem dX2_drawOf_16 : DD cX2_drawOf 16 (.tableswitch 98 2 5 #[32, 60, 78, 78]) 32 48 := by decide +kernel
theorem dX2_drawOf_48 : DD cX2_drawOf 48 (.aload_n 0) 1 49 := by decide +kernel
theorem dX2_drawOf_49 : DD cX2_drawOf 49 (.getfield 43) 3 52 := by decide +kernel
theorem dX2_drawOf_52 : DD cX2_drawOf 52 (.iconst 2) 1 53 := by decide +kernel
theorem dX2_drawOf_53 : DD cX2_drawOf 53 (.irem) 1 54 := by decide +kernel
theorem dX2_drawOf_54 : DD cX2_drawOf 54 (.iconst 1) 1 55 := by decide +kernel
theorem dX2_drawOf_55 : DD cX2_drawOf 55 (.if_icmp .ne 14) 3 58 := by decide +kernel
theorem dX2_drawOf_58 : DD cX2_drawOf 58 (.aload_n 0) 1 59 := by decide +kernel
theorem dX2_drawOf_59 : DD cX2_drawOf 59 (.getfield 15) 3 62 := by decide +kernel
theorem dX2_drawOf_62 : DD cX2_drawOf 62 (.iload_n 1) 1 63 := by decide +kernel
theorem dX2_drawOf_63 : DD cX2_drawOf 63 (.iaload) 1 64 := by decide +kernel
theorem dX2_drawOf_64 : DD cX2_drawOf 64 (.iconst 2) 1 65 := by decide +kernel
theorem dX2_drawOf_65 : DD cX2_drawOf 65 (.idiv) 1 66 := by decide +kernel
theorem dX2_drawOf_66 : DD cX2_drawOf 66 (.goto 9) 3 69 := by decide +kernel
theorem dX2_drawOf_69 : DD cX2_drawOf 69 (.aload_n 0) 1 70 := by decide +kernel
theorem dX2_drawOf_70 : DD cX2_drawOf 70 (.getfield 15) 3 73 := by decide +kernel
theorem dX2_drawOf_73 : DD cX2_drawOf 73 (.iload_n 1) 1 74 := by decide +kernel
theorem dX2_drawOf_74 : DD cX2_drawOf 74 (.iaload) 1 75 := by decide +kernel
theorem dX2_drawOf_75 : DD cX2_drawOf 75 (.ireturn) 1 76 := by decide +kernel
theorem dX2_drawOf_76 : DD cX2_drawOf 76 (.aload_n 0) 1 77 := by decide +kernel
theorem dX2_drawOf_77 : DD cX2_drawOf 77 (.getfield 15) 3 80 := by decide +kernel
theorem dX2_drawOf_80 : DD cX2_drawOf 80 (.iload_n 1) 1 81 := by decide +kernel
theorem dX2_drawOf_81 : DD cX2_drawOf 81 (.iaload) 1 82 := by decide +kernel
theorem dX2_drawOf_82 : DD cX2_drawOf 82 (.iconst 5) 1 83 := by decide +kernel
theorem dX2_drawOf_83 : DD cX2_drawOf 83 (.aload_n 0) 1 84 := by decide +kernel
theorem dX2_drawOf_84 : DD cX2_drawOf 84 (.getfield 43) 3 87 := by decide +kernel
theorem dX2_drawOf_87 : DD cX2_drawOf 87 (.iconst 4) 1 88 := by decide +kernel
theorem dX2_drawOf_88 : DD cX2_drawOf 88 (.idiv) 1 89 := by decide +kernel
theorem dX2_drawOf_89 : DD cX2_drawOf 89 (.invokestatic 59) 3 92 := by decide +kernel
theorem dX2_drawOf_92 : DD cX2_drawOf 92 (.iadd) 1 93 := by decide +kernel
theorem dX2_drawOf_93 : DD cX2_drawOf 93 (.ireturn) 1 94 := by decide +kernel
theorem dX2_drawOf_94 : DD cX2_drawOf 94 (.aload_n 0) 1 95 := by decide +kernel
theorem dX2_drawOf_95 : DD cX2_drawOf 95 (.getfield 43) 3 98 := by decide +kernel
theorem dX2_drawOf_98 : DD cX2_drawOf 98 (.iconst 3) 1 99 := by decide +kernel
theorem dX2_drawOf_99 : DD cX2_drawOf 99 (.irem) 1 100 := by decide +kernel
theorem dX2_drawOf_100 : DD cX2_drawOf 100 (.ifCond .ne 7) 3 103 := by decide +kernel
theorem dX2_drawOf_103 : DD cX2_drawOf 103 (.iconst 0) 1 104 := by decide +kernel
theorem dX2_drawOf_104 : DD cX2_drawOf 104 (.goto 9) 3 107 := by decide +kernel
theorem dX2_drawOf_107 : DD cX2_drawOf 107 (.aload_n 0) 1 108 := by decide +kernel
theorem dX2_drawOf_108 : DD cX2_drawOf 108 (.getfield 15) 3 111 := by decide +kernel
theorem dX2_drawOf_111 : DD cX2_drawOf 111 (.iload_n 1) 1 112 := by decide +kernel
theorem dX2_drawOf_112 : DD cX2_drawOf 112 (.iaload) 1 113 := by decide +kernel
theorem dX2_drawOf_113 : DD cX2_drawOf 113 (.ireturn) 1 114 := by decide +kernel
theorem dX2_drawOf_114 : DD cX2_drawOf 114 (.aload_n 0) 1 115 := by decide +kernel
theorem dX2_drawOf_115 : DD cX2_drawOf 115 (.getfield 15) 3 118 := by decide +kernel
theorem dX2_drawOf_118 : DD cX2_drawOf 118 (.iload_n 1) 1 119 := by decide +kernel
theorem dX2_drawOf_119 : DD cX2_drawOf 119 (.iaload) 1 120 := by decide +kernel
theorem dX2_drawOf_120 : DD cX2_drawOf 120 (.ireturn) 1 121 := by decide +kernel
def fX2_drawOf (r : Nat) (a1 : Int32) (h : AH) : Option (Int32 × AH) := (bnd (fX2_holds r a1 h) fun v2 h1 => (if v2 = 0 then (some ((0 : Int32), h1)) else (chk (inb a1 (ln (r + 1))) (if (h1 (r + 1) (Int32.toNatClampNeg a1)) = (2 : Int32) then (chk (¬ (2 : Int32) = 0) (if ((h1 r 4) - (h1 r 4) / (2 : Int32) * (2 : Int32)) = (1 : Int32) then (chk (inb a1 (ln (r + 2))) (chk (¬ (2 : Int32) = 0) (some (((h1 (r + 2) (Int32.toNatClampNeg a1)) / (2 : Int32)), h1)))) else (chk (inb a1 (ln (r + 2))) (some ((h1 (r + 2) (Int32.toNatClampNeg a1)), h1))))) else (if (h1 (r + 1) (Int32.toNatClampNeg a1)) = (3 : Int32) then (chk (inb a1 (ln (r + 2))) (chk (¬ (4 : Int32) = 0) (some (((h1 (r + 2) (Int32.toNatClampNeg a1)) + (if ((h1 r 4) / (4 : Int32)) < (5 : Int32) then ((h1 r 4) / (4 : Int32)) else (5 : Int32))), h1)))) else (if (h1 (r + 1) (Int32.toNatClampNeg a1)) = (4 : Int32) then (chk (¬ (3 : Int32) = 0) (if ((h1 r 4) - (h1 r 4) / (3 : Int32) * (3 : Int32)) = 0 then (some ((0 : Int32), h1)) else (chk (inb a1 (ln (r + 2))) (some ((h1 (r + 2) (Int32.toNatClampNeg a1)), h1))))) else (if (h1 (r + 1) (Int32.toNatClampNeg a1)) = (5 : Int32) then (chk (¬ (3 : Int32) = 0) (if ((h1 r 4) - (h1 r 4) / (3 : Int32) * (3 : Int32)) = 0 then (some ((0 : Int32), h1)) else (chk (inb a1 (ln (r + 2))) (some ((h1 (r + 2) (Int32.toNatClampNeg a1)), h1))))) else (chk (inb a1 (ln (r + 2))) (some ((h1 (r + 2) (Int32.toNatClampNeg a1)), h1))))))))))
set_option maxHeartbeats 4000000 in
set_option maxRecDepth 4000 in
theorem uX2_drawOf {l : Launch} {X : WX} {r : Nat} {a1 : Int32} {h h' : AH} {v : Int32} (kr : kd r = 2) (hf : fX2_drawOf r a1 h = some (v, h')) : Does l X 2 yX2_drawOf cX2_drawOf 2 (some .int) [.ref (X.1 + r), .int a1] h (eI v) h' := by
  refine Does.of (enc := eI) (o := fX2_drawOf r a1 h) (lv := [(0, .ref (X.1 + r)), (1, .int a1)]) (by decide) (Nat.le_of_ble_eq_true rfl) rfl hf (fun K hl hK => ?_)
  subst hl
  unfold fX2_drawOf
  refine J_aload_n hK dX2_drawOf_0 0 rfl ?_
  refine J_iload_n hK dX2_drawOf_1 1 rfl ?_
  refine J_callVi (q := r) (As := [.int a1]) (st := []) hK dX2_drawOf_2 kB_X2_55 kV_X2_holds kr (by decide) rfl rfl (by decide) rfl rfl (Nat.le_of_ble_eq_true rfl) (fun _ _ hf => uX2_holds kr hf) (fun v2 h1 => ?_)
  refine J_if_ne (tgt := 10) hK dX2_drawOf_5 (by decide) ?_ ?_
  · refine J_iconst hK dX2_drawOf_8 ci_0 ?_
    exact J_iret hK dX2_drawOf_9
  · refine J_aload_n hK dX2_drawOf_10 0 rfl ?_
    refine rF_X2_9 (q2 := (r + 1)) hK dX2_drawOf_11 kr rfl ?_
    refine J_iload_n hK dX2_drawOf_14 1 rfl ?_
    refine J_iald hK dX2_drawOf_15 (kdE_1 kr) (fun _ => ?_)
    refine J_split (c := (h1 (r + 1) (Int32.toNatClampNeg a1)) = (2 : Int32)) (fun e3 => ?_) (fun e3 => ?_)
    · refine J_tableIn (v := 2) (off := 32) (tgt := 48) hK dX2_drawOf_16 e3 (by decide) ?_
      refine J_aload_n hK dX2_drawOf_48 0 rfl ?_
      refine gF_X2_43 hK dX2_drawOf_49 kr ?_
      refine J_iconst hK dX2_drawOf_52 ci_2 ?_
      refine J_irem hK dX2_drawOf_53 ?_
      refine J_iconst hK dX2_drawOf_54 ci_1 ?_
      refine J_icmp_ne (tgt := 69) hK dX2_drawOf_55 (by decide) ?_ ?_
      · refine J_aload_n hK dX2_drawOf_58 0 rfl ?_
        refine rF_X2_15 (q2 := (r + 2)) hK dX2_drawOf_59 kr rfl ?_
        refine J_iload_n hK dX2_drawOf_62 1 rfl ?_
        refine J_iald hK dX2_drawOf_63 (kdE_2 kr) (fun _ => ?_)
        refine J_iconst hK dX2_drawOf_64 ci_2 ?_
        refine J_idiv hK dX2_drawOf_65 ?_
        refine J_goto (len := 0) (tgt := 75) hK dX2_drawOf_66 (by decide) ?_
        exact J_iret hK dX2_drawOf_75
      · refine J_aload_n hK dX2_drawOf_69 0 rfl ?_
        refine rF_X2_15 (q2 := (r + 2)) hK dX2_drawOf_70 kr rfl ?_
        refine J_iload_n hK dX2_drawOf_73 1 rfl ?_
        refine J_iald hK dX2_drawOf_74 (kdE_2 kr) (fun _ => ?_)
        exact J_iret hK dX2_drawOf_75
    refine J_split (c := (h1 (r + 1) (Int32.toNatClampNeg a1)) = (3 : Int32)) (fun e4 => ?_) (fun e4 => ?_)
    · refine J_tableIn (v := 3) (off := 60) (tgt := 76) hK dX2_drawOf_16 e4 (by decide) ?_
      refine J_aload_n hK dX2_drawOf_76 0 rfl ?_
      refine rF_X2_15 (q2 := (r + 2)) hK dX2_drawOf_77 kr rfl ?_
      refine J_iload_n hK dX2_drawOf_80 1 rfl ?_
      refine J_iald hK dX2_drawOf_81 (kdE_2 kr) (fun _ => ?_)
      refine J_iconst hK dX2_drawOf_82 ci_5 ?_
      refine J_aload_n hK dX2_drawOf_83 0 rfl ?_
      refine gF_X2_43 hK dX2_drawOf_84 kr ?_
      refine J_iconst hK dX2_drawOf_87 ci_4 ?_
      refine J_idiv hK dX2_drawOf_88 ?_
      refine J_min hK dX2_drawOf_89 (by decide) kA_X2_59 kA_smin kA_im kA_cmin (Nat.le_of_ble_eq_true rfl) ?_
      refine J_iadd hK dX2_drawOf_92 ?_
      exact J_iret hK dX2_drawOf_93
    refine J_split (c := (h1 (r + 1) (Int32.toNatClampNeg a1)) = (4 : Int32)) (fun e5 => ?_) (fun e5 => ?_)
    · refine J_tableIn (v := 4) (off := 78) (tgt := 94) hK dX2_drawOf_16 e5 (by decide) ?_
      refine J_aload_n hK dX2_drawOf_94 0 rfl ?_
      refine gF_X2_43 hK dX2_drawOf_95 kr ?_
      refine J_iconst hK dX2_drawOf_98 ci_3 ?_
      refine J_irem hK dX2_drawOf_99 ?_
      refine J_if_ne (tgt := 107) hK dX2_drawOf_100 (by decide) ?_ ?_
      · refine J_iconst hK dX2_drawOf_103 ci_0 ?_
        refine J_goto (len := 0) (tgt := 113) hK dX2_drawOf_104 (by decide) ?_
        exact J_iret hK dX2_drawOf_113
      · refine J_aload_n hK dX2_drawOf_107 0 rfl ?_
        refine rF_X2_15 (q2 := (r + 2)) hK dX2_drawOf_108 kr rfl ?_
        refine J_iload_n hK dX2_drawOf_111 1 rfl ?_
        refine J_iald hK dX2_drawOf_112 (kdE_2 kr) (fun _ => ?_)
        exact J_iret hK dX2_drawOf_113
    refine J_split (c := (h1 (r + 1) (Int32.toNatClampNeg a1)) = (5 : Int32)) (fun e6 => ?_) (fun e6 => ?_)
    · refine J_tableIn (v := 5) (off := 78) (tgt := 94) hK dX2_drawOf_16 e6 (by decide) ?_
      refine J_aload_n hK dX2_drawOf_94 0 rfl ?_
      refine gF_X2_43 hK dX2_drawOf_95 kr ?_
      refine J_iconst hK dX2_drawOf_98 ci_3 ?_
      refine J_irem hK dX2_drawOf_99 ?_
      refine J_if_ne (tgt := 107) hK dX2_drawOf_100 (by decide) ?_ ?_
      · refine J_iconst hK dX2_drawOf_103 ci_0 ?_
        refine J_goto (len := 0) (tgt := 113) hK dX2_drawOf_104 (by decide) ?_
        exact J_iret hK dX2_drawOf_113
      · refine J_aload_n hK dX2_drawOf_107 0 rfl ?_
        refine rF_X2_15 (q2 := (r + 2)) hK dX2_drawOf_108 kr rfl ?_
        refine J_iload_n hK dX2_drawOf_111 1 rfl ?_
        refine J_iald hK dX2_drawOf_112 (kdE_2 kr) (fun _ => ?_)
        exact J_iret hK dX2_drawOf_113
    refine J_tableOut (tgt := 114) hK dX2_drawOf_16 (tbl_out [2, 3, 4, 5] (by decide) (nl1 e3 (nl1 e4 (nl1 e5 (nl1 e6 nl0))))) (by decide) ?_
    refine J_aload_n hK dX2_drawOf_114 0 rfl ?_
    refine rF_X2_15 (q2 := (r + 2)) hK dX2_drawOf_115 kr rfl ?_
    refine J_iload_n hK dX2_drawOf_118 1 rfl ?_
    refine J_iald hK dX2_drawOf_119 (kdE_2 kr) (fun _ => ?_)
    exact J_iret hK dX2_drawOf_120
-- X2_partBoys
theorem dX2_partBoys_0 : DD cX2_partBoys 0 (.iconst 0) 1 1 := by decide +kernel
theorem dX2_partBoys_1 : DD cX2_partBoys 1 (.istore_n 1) 1 2 := by decide +kernel
theorem dX2_partBoys_2 : DD cX2_partBoys 2 (.iload_n 1) 1 3 := by decide +kernel
theorem dX2_partBoys_3 : DD cX2_partBoys 3 (.aload_n 0) 1 4 := by decide +kernel
theorem dX2_partBoys_4 : DD cX2_partBoys 4 (.getfield 30) 3 7 := by decide +kernel
theorem dX2_partBoys_7 : DD cX2_partBoys 7 (.if_icmp .ge 24) 3 10 := by decide +kernel
theorem dX2_partBoys_10 : DD cX2_partBoys 10 (.aload_n 0) 1 11 := by decide +kernel
theorem dX2_partBoys_11 : DD cX2_partBoys 11 (.getfield 9) 3 14 := by decide +kernel
theorem dX2_partBoys_14 : DD cX2_partBoys 14 (.iload_n 1) 1 15 := by decide +kernel
theorem dX2_partBoys_15 : DD cX2_partBoys 15 (.iaload) 1 16 := by decide +kernel
theorem dX2_partBoys_16 : DD cX2_partBoys 16 (.iconst 5) 1 17 := by decide +kernel
theorem dX2_partBoys_17 : DD cX2_partBoys 17 (.if_icmp .ne 8) 3 20 := by decide +kernel
theorem dX2_partBoys_20 : DD cX2_partBoys 20 (.aload_n 0) 1 21 := by decide +kernel
theorem dX2_partBoys_21 : DD cX2_partBoys 21 (.iload_n 1) 1 22 := by decide +kernel
theorem dX2_partBoys_22 : DD cX2_partBoys 22 (.invokevirtual 72) 3 25 := by decide +kernel
theorem dX2_partBoys_25 : DD cX2_partBoys 25 (.iinc 1 1) 3 28 := by decide +kernel
theorem dX2_partBoys_28 : DD cX2_partBoys 28 (.goto (-26)) 3 31 := by decide +kernel
theorem dX2_partBoys_31 : DD cX2_partBoys 31 (.return_) 1 32 := by decide +kernel
def fX2_partBoys_L2 (p0 : Nat) : Nat → Int32 → AH → (Int32 → AH → Option (Unit × AH)) → Option (Unit × AH)
  | 0, _, _, _ => none
  | n + 1, x1, h, k => (if x1 < (h p0 0) then (chk (inb x1 (ln (p0 + 1))) (if (h (p0 + 1) (Int32.toNatClampNeg x1)) = (5 : Int32) then (bnd (fX2_letGo p0 x1 h) fun _ h201 => (vl (x1 + (1 : Int32)) fun z202 => fX2_partBoys_L2 p0 n z202 h201 k)) else (vl (x1 + (1 : Int32)) fun z203 => fX2_partBoys_L2 p0 n z203 h k))) else k x1 h)
def fX2_partBoys (r : Nat) (h : AH) : Option (Unit × AH) := (fX2_partBoys_L2 r FU (0 : Int32) h fun z1 h2 => (some ((), h2)))
set_option maxHeartbeats 4000000 in
theorem gX2_partBoys_L2 {K : MC} {X : WX} {p0 : Nat} (hK : Ok K X RX2 cX2_partBoys 2 none 2) (hp0 : kd p0 = 2) {k : Int32 → AH → Option (Unit × AH)} (hk : ∀ (x1 : Int32) (h : AH), J K X 2 (Zm K X) eV 31 [(1, .int x1), (0, .ref (X.1 + p0))] [] h (k x1 h)) : ∀ (n : Nat) (x1 : Int32) (h : AH), J K X 2 (Zm K X) eV 2 [(1, .int x1), (0, .ref (X.1 + p0))] [] h (fX2_partBoys_L2 p0 n x1 h k) := by
  intro n
  induction n with
  | zero => exact fun _ _ => J_none
  | succ n ih =>
    intro x1 h
    rw [fX2_partBoys_L2]
    refine J_iload_n hK dX2_partBoys_2 0 rfl ?_
    refine J_aload_n hK dX2_partBoys_3 1 rfl ?_
    refine gF_X2_30 hK dX2_partBoys_4 hp0 ?_
    refine J_icmp_ge (tgt := 31) hK dX2_partBoys_7 (by decide) ?_ ?_
    · refine J_aload_n hK dX2_partBoys_10 1 rfl ?_
      refine rF_X2_9 (q2 := (p0 + 1)) hK dX2_partBoys_11 hp0 rfl ?_
      refine J_iload_n hK dX2_partBoys_14 0 rfl ?_
      refine J_iald hK dX2_partBoys_15 (kdE_1 hp0) (fun _ => ?_)
      refine J_iconst hK dX2_partBoys_16 ci_5 ?_
      refine J_icmp_ne (tgt := 25) hK dX2_partBoys_17 (by decide) ?_ ?_
      · refine J_aload_n hK dX2_partBoys_20 1 rfl ?_
        refine J_iload_n hK dX2_partBoys_21 0 rfl ?_
        refine J_callVv (q := p0) (As := [.int x1]) (st := []) hK dX2_partBoys_22 kB_X2_72 kV_X2_letGo hp0 (by decide) rfl rfl (by decide) rfl rfl (Nat.le_of_ble_eq_true rfl) (fun _ _ hf => uX2_letGo hp0 hf) (fun _ h201 => ?_)
        refine J_iinc (lw := [(0, .ref (X.1 + p0))]) hK dX2_partBoys_25 0 rfl (by decide) ci_1 rfl (fun z202 => ?_)
        refine J_goto (len := 0) (tgt := 2) hK dX2_partBoys_28 (by decide) ?_
        exact J_sub [0, 1] rfl (ih _ _)
      · refine J_iinc (lw := [(0, .ref (X.1 + p0))]) hK dX2_partBoys_25 0 rfl (by decide) ci_1 rfl (fun z203 => ?_)
        refine J_goto (len := 0) (tgt := 2) hK dX2_partBoys_28 (by decide) ?_
        exact J_sub [0, 1] rfl (ih _ _)
    · exact J_sub [0, 1] rfl (hk _ _)
set_option maxHeartbeats 4000000 in
set_option maxRecDepth 4000 in
theorem uX2_partBoys {l : Launch} {X : WX} {r : Nat} {h h' : AH} {v : Unit} (kr : kd r = 2) (hf : fX2_partBoys r h = some (v, h')) : Does l X 2 yX2_partBoys cX2_partBoys 2 none [.ref (X.1 + r)] h (eV v) h' := by
  refine Does.of (enc := eV) (o := fX2_partBoys r h) (lv := [(0, .ref (X.1 + r))]) (by decide) (Nat.le_of_ble_eq_true rfl) rfl hf (fun K hl hK => ?_)
  subst hl
  unfold fX2_partBoys
  refine J_iconst hK dX2_partBoys_0 ci_0 ?_
  refine J_istore_n (n := 1) (lw := [(0, .ref (X.1 + r))]) hK dX2_partBoys_1 rfl (by decide) rfl ?_
  refine J_sub [0, 1] rfl (gX2_partBoys_L2 hK kr (fun z1 h2 => ?_) FU _ _)
  exact J_vret hK dX2_partBoys_31
-- X2_pullOfHolders
theorem dX2_pullOfHolders_0 : DD cX2_pullOfHolders 0 (.iconst 0) 1 1 := by decide +kernel
theorem dX2_pullOfHolders_1 : DD cX2_pullOfHolders 1 (.istore_n 1) 1 2 := by decide +kernel
theorem dX2_pullOfHolders_2 : DD cX2_pullOfHolders 2 (.iconst 0) 1 3 := by decide +kernel
theorem dX2_pullOfHolders_3 : DD cX2_pullOfHolders 3 (.istore_n 2) 1 4 := by decide +kernel
theorem dX2_pullOfHolders_4 : DD cX2_pullOfHolders 4 (.iload_n 2) 1 5 := by decide +kernel
theorem dX2_pullOfHolders_5 : DD cX2_pullOfHolders 5 (.aload_n 0) 1 6 := by decide +kernel
theorem dX2_pullOfHolders_6 : DD cX2_pullOfHolders 6 (.getfield 30) 3 9 := by decide +kernel
theorem dX2_pullOfHolders_9 : DD cX2_pullOfHolders 9 (.if_icmp .ge 30) 3 12 := by decide +kernel
theorem dX2_pullOfHolders_12 : DD cX2_pullOfHolders 12 (.iload_n 1) 1 13 := by decide +kernel
theorem dX2_pullOfHolders_13 : DD cX2_pullOfHolders 13 (.aload_n 0) 1 14 := by decide +kernel
theorem dX2_pullOfHolders_14 : DD cX2_pullOfHolders 14 (.iload_n 2) 1 15 := by decide +kernel
theorem dX2_pullOfHolders_15 : DD cX2_pullOfHolders 15 (.invokevirtual 55) 3 18 := by decide +kernel
theorem dX2_pullOfHolders_18 : DD cX2_pullOfHolders 18 (.ifCond .eq 12) 3 21 := by decide +kernel
theorem dX2_pullOfHolders_21 : DD cX2_pullOfHolders 21 (.aload_n 0) 1 22 := by decide +kernel
theorem dX2_pullOfHolders_22 : DD cX2_pullOfHolders 22 (.getfield 15) 3 25 := by decide +kernel
theorem dX2_pullOfHolders_25 : DD cX2_pullOfHolders 25 (.iload_n 2) 1 26 := by decide +kernel
theorem dX2_pullOfHolders_26 : DD cX2_pullOfHolders 26 (.iaload) 1 27 := by decide +kernel
theorem dX2_pullOfHolders_27 : DD cX2_pullOfHolders 27 (.goto 4) 3 30 := by decide +kernel
theorem dX2_pullOfHolders_30 : DD cX2_pullOfHolders 30 (.iconst 0) 1 31 := by decide +kernel
theorem dX2_pullOfHolders_31 : DD cX2_pullOfHolders 31 (.iadd) 1 32 := by decide +kernel
theorem dX2_pullOfHolders_32 : DD cX2_pullOfHolders 32 (.istore_n 1) 1 33 := by decide +kernel
theorem dX2_pullOfHolders_33 : DD cX2_pullOfHolders 33 (.iinc 2 1) 3 36 := by decide +kernel
theorem dX2_pullOfHolders_36 : DD cX2_pullOfHolders 36 (.goto (-32)) 3 39 := by decide +kernel
theorem dX2_pullOfHolders_39 : DD cX2_pullOfHolders 39 (.iload_n 1) 1 40 := by decide +kernel
theorem dX2_pullOfHolders_40 : DD cX2_pullOfHolders 40 (.ireturn) 1 41 := by decide +kernel
def fX2_pullOfHolders_L4 (p0 : Nat) : Nat → Int32 → Int32 → AH → (Int32 → Int32 → AH → Option (Int32 × AH)) → Option (Int32 × AH)
  | 0, _, _, _, _ => none
  | n + 1, x2, x1, h, k => (if x2 < (h p0 0) then (bnd (fX2_holds p0 x2 h) fun v202 h201 => (if v202 = 0 then (vl (x1 + (0 : Int32)) fun z203 => (vl (x2 + (1 : Int32)) fun z204 => fX2_pullOfHolders_L4 p0 n z204 z203 h201 k)) else (chk (inb x2 (ln (p0 + 2))) (vl (x1 + (h201 (p0 + 2) (Int32.toNatClampNeg x2))) fun z205 => (vl (x2 + (1 : Int32)) fun z206 => fX2_pullOfHolders_L4 p0 n z206 z205 h201 k))))) else k x2 x1 h)
def fX2_pullOfHolders (r : Nat) (h : AH) : Option (Int32 × AH) := (fX2_pullOfHolders_L4 r FU (0 : Int32) (0 : Int32) h fun z1 z2 h3 => (some (z2, h3)))
set_option maxHeartbeats 4000000 in
theorem gX2_pullOfHolders_L4 {K : MC} {X : WX} {p0 : Nat} (hK : Ok K X RX2 cX2_pullOfHolders 3 (some .int) 2) (hp0 : kd p0 = 2) {k : Int32 → Int32 → AH → Option (Int32 × AH)} (hk : ∀ (x2 : Int32) (x1 : Int32) (h : AH), J K X 3 (Zm K X) eI 39 [(2, .int x2), (1, .int x1), (0, .ref (X.1 + p0))] [] h (k x2 x1 h)) : ∀ (n : Nat) (x2 : Int32) (x1 : Int32) (h : AH), J K X 3 (Zm K X) eI 4 [(2, .int x2), (1, .int x1), (0, .ref (X.1 + p0))] [] h (fX2_pullOfHolders_L4 p0 n x2 x1 h k) := by
  intro n
  induction n with
  | zero => exact fun _ _ _ => J_none
  | succ n ih =>
    intro x2 x1 h
    rw [fX2_pullOfHolders_L4]
    refine J_iload_n hK dX2_pullOfHolders_4 0 rfl ?_
    refine J_aload_n hK dX2_pullOfHolders_5 2 rfl ?_
    refine gF_X2_30 hK dX2_pullOfHolders_6 hp0 ?_
    refine J_icmp_ge (tgt := 39) hK dX2_pullOfHolders_9 (by decide) ?_ ?_
    · refine J_iload_n hK dX2_pullOfHolders_12 1 rfl ?_
      refine J_aload_n hK dX2_pullOfHolders_13 2 rfl ?_
      refine J_iload_n hK dX2_pullOfHolders_14 0 rfl ?_
      refine J_callVi (q := p0) (As := [.int x2]) (st := [.int x1]) hK dX2_pullOfHolders_15 kB_X2_55 kV_X2_holds hp0 (by decide) rfl rfl (by decide) rfl rfl (Nat.le_of_ble_eq_true rfl) (fun _ _ hf => uX2_holds hp0 hf) (fun v202 h201 => ?_)
      refine J_if_eq (tgt := 30) hK dX2_pullOfHolders_18 (by decide) ?_ ?_
      · refine J_iconst hK dX2_pullOfHolders_30 ci_0 ?_
        refine J_iadd hK dX2_pullOfHolders_31 ?_
        refine J_istoreV_n (n := 1) (lw := [(2, .int x2), (0, .ref (X.1 + p0))]) hK dX2_pullOfHolders_32 rfl (by decide) rfl (fun z203 => ?_)
        refine J_iinc (lw := [(1, .int z203), (0, .ref (X.1 + p0))]) hK dX2_pullOfHolders_33 1 rfl (by decide) ci_1 rfl (fun z204 => ?_)
        refine J_goto (len := 0) (tgt := 4) hK dX2_pullOfHolders_36 (by decide) ?_
        exact J_sub [0, 1, 2] rfl (ih _ _ _)
      · refine J_aload_n hK dX2_pullOfHolders_21 2 rfl ?_
        refine rF_X2_15 (q2 := (p0 + 2)) hK dX2_pullOfHolders_22 hp0 rfl ?_
        refine J_iload_n hK dX2_pullOfHolders_25 0 rfl ?_
        refine J_iald hK dX2_pullOfHolders_26 (kdE_2 hp0) (fun _ => ?_)
        refine J_goto (len := 0) (tgt := 31) hK dX2_pullOfHolders_27 (by decide) ?_
        refine J_iadd hK dX2_pullOfHolders_31 ?_
        refine J_istoreV_n (n := 1) (lw := [(2, .int x2), (0, .ref (X.1 + p0))]) hK dX2_pullOfHolders_32 rfl (by decide) rfl (fun z205 => ?_)
        refine J_iinc (lw := [(1, .int z205), (0, .ref (X.1 + p0))]) hK dX2_pullOfHolders_33 1 rfl (by decide) ci_1 rfl (fun z206 => ?_)
        refine J_goto (len := 0) (tgt := 4) hK dX2_pullOfHolders_36 (by decide) ?_
        exact J_sub [0, 1, 2] rfl (ih _ _ _)
    · exact J_sub [0, 1, 2] rfl (hk _ _ _)
set_option maxHeartbeats 4000000 in
set_option maxRecDepth 4000 in
theorem uX2_pullOfHolders {l : Launch} {X : WX} {r : Nat} {h h' : AH} {v : Int32} (kr : kd r = 2) (hf : fX2_pullOfHolders r h = some (v, h')) : Does l X 2 yX2_pullOfHolders cX2_pullOfHolders 3 (some .int) [.ref (X.1 + r)] h (eI v) h' := by
  refine Does.of (enc := eI) (o := fX2_pullOfHolders r h) (lv := [(0, .ref (X.1 + r))]) (by decide) (Nat.le_of_ble_eq_true rfl) rfl hf (fun K hl hK => ?_)
  subst hl
  unfold fX2_pullOfHolders
  refine J_iconst hK dX2_pullOfHolders_0 ci_0 ?_
  refine J_istore_n (n := 1) (lw := [(0, .ref (X.1 + r))]) hK dX2_pullOfHolders_1 rfl (by decide) rfl ?_
  refine J_iconst hK dX2_pullOfHolders_2 ci_0 ?_
  refine J_istore_n (n := 2) (lw := [(1, .int (0 : Int32)), (0, .ref (X.1 + r))]) hK dX2_pullOfHolders_3 rfl (by decide) rfl ?_
  refine J_sub [0, 1, 2] rfl (gX2_pullOfHolders_L4 hK kr (fun z1 z2 h3 => ?_) FU _ _ _)
  refine J_iload_n hK dX2_pullOfHolders_39 1 rfl ?_
  exact J_iret hK dX2_pullOfHolders_40
-- X2_force
theorem dX2_force_0 : DD cX2_force 0 (.iconst 0) 1 1 := by decide +kernel
theorem dX2_force_1 : DD cX2_force 1 (.istore_n 1) 1 2 := by decide +kernel
theorem dX2_force_2 : DD cX2_force 2 (.iconst 0) 1 3 := by decide +kernel
theorem dX2_force_3 : DD cX2_force 3 (.istore_n 2) 1 4 := by decide +kernel
theorem dX2_force_4 : DD cX2_force 4 (.iload_n 2) 1 5 := by decide +kernel
theorem dX2_force_5 : DD cX2_force 5 (.aload_n 0) 1 6 := by decide +kernel
theorem dX2_force_6 : DD cX2_force 6 (.getfield 30) 3 9 := by decide +kernel
theorem dX2_force_9 : DD cX2_force 9 (.if_icmp .ge 17) 3 12 := by decide +kernel
theorem dX2_force_12 : DD cX2_force 12 (.iload_n 1) 1 13 := by decide +kernel
theorem dX2_force_13 : DD cX2_force 13 (.aload_n 0) 1 14 := by decide +kernel
theorem dX2_force_14 : DD cX2_force 14 (.iload_n 2) 1 15 := by decide +kernel
theorem dX2_force_15 : DD cX2_force 15 (.invokevirtual 65) 3 18 := by decide +kernel
theorem dX2_force_18 : DD cX2_force 18 (.iadd) 1 19 := by decide +kernel
theorem dX2_force_19 : DD cX2_force 19 (.istore_n 1) 1 20 := by decide +kernel
theorem dX2_force_20 : DD cX2_force 20 (.iinc 2 1) 3 23 := by decide +kernel
theorem dX2_force_23 : DD cX2_force 23 (.goto (-19)) 3 26 := by decide +kernel
theorem dX2_force_26 : DD cX2_force 26 (.iload_n 1) 1 27 := by decide +kernel
theorem dX2_force_27 : DD cX2_force 27 (.ireturn) 1 28 := by decide +kernel
def fX2_force_L4 (p0 : Nat) : Nat → Int32 → Int32 → AH → (Int32 → Int32 → AH → Option (Int32 × AH)) → Option (Int32 × AH)
  | 0, _, _, _, _ => none
  | n + 1, x2, x1, h, k => (if x2 < (h p0 0) then (bnd (fX2_drawOf p0 x2 h) fun v202 h201 => (vl (x1 + v202) fun z203 => (vl (x2 + (1 : Int32)) fun z204 => fX2_force_L4 p0 n z204 z203 h201 k))) else k x2 x1 h)
def fX2_force (r : Nat) (h : AH) : Option (Int32 × AH) := (fX2_force_L4 r FU (0 : Int32) (0 : Int32) h fun z1 z2 h3 => (some (z2, h3)))
set_option maxHeartbeats 4000000 in
theorem gX2_force_L4 {K : MC} {X : WX} {p0 : Nat} (hK : Ok K X RX2 cX2_force 3 (some .int) 3) (hp0 : kd p0 = 2) {k : Int32 → Int32 → AH → Option (Int32 × AH)} (hk : ∀ (x2 : Int32) (x1 : Int32) (h : AH), J K X 3 (Zm K X) eI 26 [(2, .int x2), (1, .int x1), (0, .ref (X.1 + p0))] [] h (k x2 x1 h)) : ∀ (n : Nat) (x2 : Int32) (x1 : Int32) (h : AH), J K X 3 (Zm K X) eI 4 [(2, .int x2), (1, .int x1), (0, .ref (X.1 + p0))] [] h (fX2_force_L4 p0 n x2 x1 h k) := by
  intro n
  induction n with
  | zero => exact fun _ _ _ => J_none
  | succ n ih =>
    intro x2 x1 h
    rw [fX2_force_L4]
    refine J_iload_n hK dX2_force_4 0 rfl ?_
    refine J_aload_n hK dX2_force_5 2 rfl ?_
    refine gF_X2_30 hK dX2_force_6 hp0 ?_
    refine J_icmp_ge (tgt := 26) hK dX2_force_9 (by decide) ?_ ?_
    · refine J_iload_n hK dX2_force_12 1 rfl ?_
      refine J_aload_n hK dX2_force_13 2 rfl ?_
      refine J_iload_n hK dX2_force_14 0 rfl ?_
      refine J_callVi (q := p0) (As := [.int x2]) (st := [.int x1]) hK dX2_force_15 kB_X2_65 kV_X2_drawOf hp0 (by decide) rfl rfl (by decide) rfl rfl (Nat.le_of_ble_eq_true rfl) (fun _ _ hf => uX2_drawOf hp0 hf) (fun v202 h201 => ?_)
      refine J_iadd hK dX2_force_18 ?_
      refine J_istoreV_n (n := 1) (lw := [(2, .int x2), (0, .ref (X.1 + p0))]) hK dX2_force_19 rfl (by decide) rfl (fun z203 => ?_)
      refine J_iinc (lw := [(1, .int z203), (0, .ref (X.1 + p0))]) hK dX2_force_20 1 rfl (by decide) ci_1 rfl (fun z204 => ?_)
      refine J_goto (len := 0) (tgt := 4) hK dX2_force_23 (by decide) ?_
      exact J_sub [0, 1, 2] rfl (ih _ _ _)
    · exact J_sub [0, 1, 2] rfl (hk _ _ _)
set_option maxHeartbeats 4000000 in
set_option maxRecDepth 4000 in
theorem uX2_force {l : Launch} {X : WX} {r : Nat} {h h' : AH} {v : Int32} (kr : kd r = 2) (hf : fX2_force r h = some (v, h')) : Does l X 3 yX2_force cX2_force 3 (some .int) [.ref (X.1 + r)] h (eI v) h' := by
  refine Does.of (enc := eI) (o := fX2_force r h) (lv := [(0, .ref (X.1 + r))]) (by decide) (Nat.le_of_ble_eq_true rfl) rfl hf (fun K hl hK => ?_)
  subst hl
  unfold fX2_force
  refine J_iconst hK dX2_force_0 ci_0 ?_
  refine J_istore_n (n := 1) (lw := [(0, .ref (X.1 + r))]) hK dX2_force_1 rfl (by decide) rfl ?_
  refine J_iconst hK dX2_force_2 ci_0 ?_
  refine J_istore_n (n := 2) (lw := [(1, .int (0 : Int32)), (0, .ref (X.1 + r))]) hK dX2_force_3 rfl (by decide) rfl ?_
  refine J_sub [0, 1, 2] rfl (gX2_force_L4 hK kr (fun z1 z2 h3 => ?_) FU _ _ _)
  refine J_iload_n hK dX2_force_26 1 rfl ?_
  exact J_iret hK dX2_force_27
-- X2_passHour
theorem dX2_passHour_0 : DD cX2_passHour 0 (.iconst 0) 1 1 := by decide +kernel
theorem dX2_passHour_1 : DD cX2_passHour 1 (.istore_n 2) 1 2 := by decide +kernel
theorem dX2_passHour_2 : DD cX2_passHour 2 (.iconst 0) 1 3 := by decide +kernel
theorem dX2_passHour_3 : DD cX2_passHour 3 (.istore_n 3) 1 4 := by decide +kernel
theorem dX2_passHour_4 : DD cX2_passHour 4 (.iload_n 3) 1 5 := by decide +kernel
theorem dX2_passHour_5 : DD cX2_passHour 5 (.aload_n 0) 1 6 := by decide +kernel
theorem dX2_passHour_6 : DD cX2_passHour 6 (.getfield 30) 3 9 := by decide +kernel
theorem dX2_passHour_9 : DD cX2_passHour 9 (.if_icmp .ge 55) 3 12 := by decide +kernel
theorem dX2_passHour_12 : DD cX2_passHour 12 (.aload_n 0) 1 13 := by decide +kernel
theorem dX2_passHour_13 : DD cX2_passHour 13 (.iload_n 3) 1 14 := by decide +kernel
theorem dX2_passHour_14 : DD cX2_passHour 14 (.invokevirtual 65) 3 17 := by decide +kernel
theorem dX2_passHour_17 : DD cX2_passHour 17 (.istore 4) 2 19 := by decide +kernel
theorem dX2_passHour_19 : DD cX2_passHour 19 (.iload_n 2) 1 20 := by decide +kernel
theorem dX2_passHour_20 : DD cX2_passHour 20 (.iload 4) 2 22 := by decide +kernel
theorem dX2_passHour_22 : DD cX2_passHour 22 (.iadd) 1 23 := by decide +kernel
theorem dX2_passHour_23 : DD cX2_passHour 23 (.istore_n 2) 1 24 := by decide +kernel
theorem dX2_passHour_24 : DD cX2_passHour 24 (.iload 4) 2 26 := by decide +kernel
theorem dX2_passHour_26 : DD cX2_passHour 26 (.aload_n 0) 1 27 := by decide +kernel
theorem dX2_passHour_27 : DD cX2_passHour 27 (.getfield 18) 3 30 := by decide +kernel
theorem dX2_passHour_30 : DD cX2_passHour 30 (.iload_n 3) 1 31 := by decide +kernel
theorem dX2_passHour_31 : DD cX2_passHour 31 (.iaload) 1 32 := by decide +kernel
theorem dX2_passHour_32 : DD cX2_passHour 32 (.if_icmp .le 13) 3 35 := by decide +kernel
theorem dX2_passHour_35 : DD cX2_passHour 35 (.aload_n 0) 1 36 := by decide +kernel
theorem dX2_passHour_36 : DD cX2_passHour 36 (.getfield 21) 3 39 := by decide +kernel
theorem dX2_passHour_39 : DD cX2_passHour 39 (.iload_n 3) 1 40 := by decide +kernel
theorem dX2_passHour_40 : DD cX2_passHour 40 (.dup2) 1 41 := by decide +kernel
theorem dX2_passHour_41 : DD cX2_passHour 41 (.iaload) 1 42 := by decide +kernel
theorem dX2_passHour_42 : DD cX2_passHour 42 (.iconst 1) 1 43 := by decide +kernel
theorem dX2_passHour_43 : DD cX2_passHour 43 (.iadd) 1 44 := by decide +kernel
theorem dX2_passHour_44 : DD cX2_passHour 44 (.iastore) 1 45 := by decide +kernel
theorem dX2_passHour_45 : DD cX2_passHour 45 (.aload_n 0) 1 46 := by decide +kernel
theorem dX2_passHour_46 : DD cX2_passHour 46 (.iload_n 3) 1 47 := by decide +kernel
theorem dX2_passHour_47 : DD cX2_passHour 47 (.invokevirtual 69) 3 50 := by decide +kernel
theorem dX2_passHour_50 : DD cX2_passHour 50 (.ifCond .eq 8) 3 53 := by decide +kernel
theorem dX2_passHour_53 : DD cX2_passHour 53 (.aload_n 0) 1 54 := by decide +kernel
theorem dX2_passHour_54 : DD cX2_passHour 54 (.iload_n 3) 1 55 := by decide +kernel
theorem dX2_passHour_55 : DD cX2_passHour 55 (.invokevirtual 72) 3 58 := by decide +kernel
theorem dX2_passHour_58 : DD cX2_passHour 58 (.iinc 3 1) 3 61 := by decide +kernel
theorem dX2_passHour_61 : DD cX2_passHour 61 (.goto (-57)) 3 64 := by decide +kernel
theorem dX2_passHour_64 : DD cX2_passHour 64 (.aload_n 0) 1 65 := by decide +kernel
theorem dX2_passHour_65 : DD cX2_passHour 65 (.iload_n 1) 1 66 := by decide +kernel
theorem dX2_passHour_66 : DD cX2_passHour 66 (.ifCond .eq 9) 3 69 := by decide +kernel
theorem dX2_passHour_69 : DD cX2_passHour 69 (.iload_n 2) 1 70 := by decide +kernel
theorem dX2_passHour_70 : DD cX2_passHour 70 (.iconst 2) 1 71 := by decide +kernel
theorem dX2_passHour_71 : DD cX2_passHour 71 (.idiv) 1 72 := by decide +kernel
theorem dX2_passHour_72 : DD cX2_passHour 72 (.goto 4) 3 75 := by decide +kernel
theorem dX2_passHour_75 : DD cX2_passHour 75 (.iload_n 2) 1 76 := by decide +kernel
theorem dX2_passHour_76 : DD cX2_passHour 76 (.invokevirtual 76) 3 79 := by decide +kernel
theorem dX2_passHour_79 : DD cX2_passHour 79 (.istore_n 3) 1 80 := by decide +kernel
theorem dX2_passHour_80 : DD cX2_passHour 80 (.iload_n 3) 1 81 := by decide +kernel
theorem dX2_passHour_81 : DD cX2_passHour 81 (.iconst 5) 1 82 := by decide +kernel
theorem dX2_passHour_82 : DD cX2_passHour 82 (.if_icmp .lt 7) 3 85 := by decide +kernel
theorem dX2_passHour_85 : DD cX2_passHour 85 (.aload_n 0) 1 86 := by decide +kernel
theorem dX2_passHour_86 : DD cX2_passHour 86 (.invokevirtual 79) 3 89 := by decide +kernel
theorem dX2_passHour_89 : DD cX2_passHour 89 (.iload_n 3) 1 90 := by decide +kernel
theorem dX2_passHour_90 : DD cX2_passHour 90 (.ifCond .le 8) 3 93 := by decide +kernel
theorem dX2_passHour_93 : DD cX2_passHour 93 (.aload_n 0) 1 94 := by decide +kernel
theorem dX2_passHour_94 : DD cX2_passHour 94 (.iload_n 3) 1 95 := by decide +kernel
theorem dX2_passHour_95 : DD cX2_passHour 95 (.invokevirtual 82) 3 98 := by decide +kernel
theorem dX2_passHour_98 : DD cX2_passHour 98 (.aload_n 0) 1 99 := by decide +kernel
theorem dX2_passHour_99 : DD cX2_passHour 99 (.dup) 1 100 := by decide +kernel
theorem dX2_passHour_100 : DD cX2_passHour 100 (.getfield 43) 3 103 := by decide +kernel
theorem dX2_passHour_103 : DD cX2_passHour 103 (.iconst 1) 1 104 := by decide +kernel
theorem dX2_passHour_104 : DD cX2_passHour 104 (.iadd) 1 105 := by decide +kernel
theorem dX2_passHour_105 : DD cX2_passHour 105 (.putfield 43) 3 108 := by decide +kernel
theorem dX2_passHour_108 : DD cX2_passHour 108 (.return_) 1 109 := by decide +kernel
def fX2_passHour_L4 (p0 : Nat) (p1 : Int32) : Nat → Int32 → Int32 → AH → (Int32 → Int32 → AH → Option (Unit × AH)) → Option (Unit × AH)
  | 0, _, _, _, _ => none
  | n + 1, x3, x2, h, k => (if x3 < (h p0 0) then (bnd (fX2_drawOf p0 x3 h) fun v202 h201 => (vl (x2 + v202) fun z203 => (chk (inb x3 (ln (p0 + 3))) (if (h201 (p0 + 3) (Int32.toNatClampNeg x3)) < v202 then (chk (inb x3 (ln (p0 + 4))) (chk (inb x3 (ln (p0 + 4))) (sto (hs h201 (p0 + 4) (Int32.toNatClampNeg x3) ((h201 (p0 + 4) (Int32.toNatClampNeg x3)) + (1 : Int32))) fun h204 => (bnd (fX2_ropeIsThrough p0 x3 h204) fun v206 h205 => (if v206 = 0 then (vl (x3 + (1 : Int32)) fun z207 => fX2_passHour_L4 p0 p1 n z207 z203 h205 k) else (bnd (fX2_letGo p0 x3 h205) fun _ h208 => (vl (x3 + (1 : Int32)) fun z209 => fX2_passHour_L4 p0 p1 n z209 z203 h208 k))))))) else (bnd (fX2_ropeIsThrough p0 x3 h201) fun v211 h210 => (if v211 = 0 then (vl (x3 + (1 : Int32)) fun z212 => fX2_passHour_L4 p0 p1 n z212 z203 h210 k) else (bnd (fX2_letGo p0 x3 h210) fun _ h213 => (vl (x3 + (1 : Int32)) fun z214 => fX2_passHour_L4 p0 p1 n z214 z203 h213 k)))))))) else k x3 x2 h)
def fX2_passHour (r : Nat) (a1 : Int32) (h : AH) : Option (Unit × AH) := (fX2_passHour_L4 r a1 FU (0 : Int32) (0 : Int32) h fun z1 z2 h3 => (if a1 = 0 then (bnd (fX2_speedBy r z2 h3) fun v5 h4 => (if v5 < (5 : Int32) then (if 0 < v5 then (bnd (fX2_comeNearer r v5 h4) fun _ h6 => (sto (hs h6 r 4 ((h6 r 4) + (1 : Int32))) fun h7 => (some ((), h7)))) else (sto (hs h4 r 4 ((h4 r 4) + (1 : Int32))) fun h8 => (some ((), h8)))) else (bnd (fX2_partBoys r h4) fun _ h9 => (if 0 < v5 then (bnd (fX2_comeNearer r v5 h9) fun _ h10 => (sto (hs h10 r 4 ((h10 r 4) + (1 : Int32))) fun h11 => (some ((), h11)))) else (sto (hs h9 r 4 ((h9 r 4) + (1 : Int32))) fun h12 => (some ((), h12))))))) else (chk (¬ (2 : Int32) = 0) (bnd (fX2_speedBy r (z2 / (2 : Int32)) h3) fun v14 h13 => (if v14 < (5 : Int32) then (if 0 < v14 then (bnd (fX2_comeNearer r v14 h13) fun _ h15 => (sto (hs h15 r 4 ((h15 r 4) + (1 : Int32))) fun h16 => (some ((), h16)))) else (sto (hs h13 r 4 ((h13 r 4) + (1 : Int32))) fun h17 => (some ((), h17)))) else (bnd (fX2_partBoys r h13) fun _ h18 => (if 0 < v14 then (bnd (fX2_comeNearer r v14 h18) fun _ h19 => (sto (hs h19 r 4 ((h19 r 4) + (1 : Int32))) fun h20 => (some ((), h20)))) else (sto (hs h18 r 4 ((h18 r 4) + (1 : Int32))) fun h21 => (some ((), h21))))))))))
set_option maxHeartbeats 4000000 in
theorem gX2_passHour_L4 {K : MC} {X : WX} {p0 : Nat} {p1 : Int32} (hK : Ok K X RX2 cX2_passHour 5 none 3) (hp0 : kd p0 = 2) {k : Int32 → Int32 → AH → Option (Unit × AH)} (hk : ∀ (x3 : Int32) (x2 : Int32) (h : AH), J K X 5 (Zm K X) eV 64 [(3, .int x3), (2, .int x2), (0, .ref (X.1 + p0)), (1, .int p1)] [] h (k x3 x2 h)) : ∀ (n : Nat) (x3 : Int32) (x2 : Int32) (h : AH), J K X 5 (Zm K X) eV 4 [(3, .int x3), (2, .int x2), (0, .ref (X.1 + p0)), (1, .int p1)] [] h (fX2_passHour_L4 p0 p1 n x3 x2 h k) := by
  intro n
  induction n with
  | zero => exact fun _ _ _ => J_none
  | succ n ih =>
    intro x3 x2 h
    rw [fX2_passHour_L4]
    refine J_iload_n hK dX2_passHour_4 0 rfl ?_
    refine J_aload_n hK dX2_passHour_5 2 rfl ?_
    refine gF_X2_30 hK dX2_passHour_6 hp0 ?_
    refine J_icmp_ge (tgt := 64) hK dX2_passHour_9 (by decide) ?_ ?_
    · refine J_aload_n hK dX2_passHour_12 2 rfl ?_
      refine J_iload_n hK dX2_passHour_13 0 rfl ?_
      refine J_callVi (q := p0) (As := [.int x3]) (st := []) hK dX2_passHour_14 kB_X2_65 kV_X2_drawOf hp0 (by decide) rfl rfl (by decide) rfl rfl (Nat.le_of_ble_eq_true rfl) (fun _ _ hf => uX2_drawOf hp0 hf) (fun v202 h201 => ?_)
      refine J_istore (lw := [(3, .int x3), (2, .int x2), (0, .ref (X.1 + p0)), (1, .int p1)]) hK dX2_passHour_17 (by decide) rfl ?_
      refine J_iload_n hK dX2_passHour_19 2 rfl ?_
      refine J_iload hK dX2_passHour_20 0 rfl ?_
      refine J_iadd hK dX2_passHour_22 ?_
      refine J_istoreV_n (n := 2) (lw := [(4, .int v202), (3, .int x3), (0, .ref (X.1 + p0)), (1, .int p1)]) hK dX2_passHour_23 rfl (by decide) rfl (fun z203 => ?_)
      refine J_iload hK dX2_passHour_24 1 rfl ?_
      refine J_aload_n hK dX2_passHour_26 3 rfl ?_
      refine rF_X2_18 (q2 := (p0 + 3)) hK dX2_passHour_27 hp0 rfl ?_
      refine J_iload_n hK dX2_passHour_30 2 rfl ?_
      refine J_iald hK dX2_passHour_31 (kdE_3 hp0) (fun _ => ?_)
      refine J_icmp_le (tgt := 45) hK dX2_passHour_32 (by decide) ?_ ?_
      · refine J_aload_n hK dX2_passHour_35 3 rfl ?_
        refine rF_X2_21 (q2 := (p0 + 4)) hK dX2_passHour_36 hp0 rfl ?_
        refine J_iload_n hK dX2_passHour_39 2 rfl ?_
        refine J_dup2 hK dX2_passHour_40 rfl rfl ?_
        refine J_iald hK dX2_passHour_41 (kdE_4 hp0) (fun _ => ?_)
        refine J_iconst hK dX2_passHour_42 ci_1 ?_
        refine J_iadd hK dX2_passHour_43 ?_
        refine J_iast hK dX2_passHour_44 (kdE_4 hp0) (fun h204 => ?_)
        refine J_aload_n hK dX2_passHour_45 3 rfl ?_
        refine J_iload_n hK dX2_passHour_46 2 rfl ?_
        refine J_callVi (q := p0) (As := [.int x3]) (st := []) hK dX2_passHour_47 kB_X2_69 kV_X2_ropeIsThrough hp0 (by decide) rfl rfl (by decide) rfl rfl (Nat.le_of_ble_eq_true rfl) (fun _ _ hf => uX2_ropeIsThrough hp0 hf) (fun v206 h205 => ?_)
        refine J_if_eq (tgt := 58) hK dX2_passHour_50 (by decide) ?_ ?_
        · refine J_iinc (lw := [(2, .int z203), (4, .int v202), (0, .ref (X.1 + p0)), (1, .int p1)]) hK dX2_passHour_58 2 rfl (by decide) ci_1 rfl (fun z207 => ?_)
          refine J_goto (len := 0) (tgt := 4) hK dX2_passHour_61 (by decide) ?_
          exact J_sub [0, 1, 3, 4] rfl (ih _ _ _)
        · refine J_aload_n hK dX2_passHour_53 3 rfl ?_
          refine J_iload_n hK dX2_passHour_54 2 rfl ?_
          refine J_callVv (q := p0) (As := [.int x3]) (st := []) hK dX2_passHour_55 kB_X2_72 kV_X2_letGo hp0 (by decide) rfl rfl (by decide) rfl rfl (Nat.le_of_ble_eq_true rfl) (fun _ _ hf => uX2_letGo hp0 hf) (fun _ h208 => ?_)
          refine J_iinc (lw := [(2, .int z203), (4, .int v202), (0, .ref (X.1 + p0)), (1, .int p1)]) hK dX2_passHour_58 2 rfl (by decide) ci_1 rfl (fun z209 => ?_)
          refine J_goto (len := 0) (tgt := 4) hK dX2_passHour_61 (by decide) ?_
          exact J_sub [0, 1, 3, 4] rfl (ih _ _ _)
      · refine J_aload_n hK dX2_passHour_45 3 rfl ?_
        refine J_iload_n hK dX2_passHour_46 2 rfl ?_
        refine J_callVi (q := p0) (As := [.int x3]) (st := []) hK dX2_passHour_47 kB_X2_69 kV_X2_ropeIsThrough hp0 (by decide) rfl rfl (by decide) rfl rfl (Nat.le_of_ble_eq_true rfl) (fun _ _ hf => uX2_ropeIsThrough hp0 hf) (fun v211 h210 => ?_)
        refine J_if_eq (tgt := 58) hK dX2_passHour_50 (by decide) ?_ ?_
        · refine J_iinc (lw := [(2, .int z203), (4, .int v202), (0, .ref (X.1 + p0)), (1, .int p1)]) hK dX2_passHour_58 2 rfl (by decide) ci_1 rfl (fun z212 => ?_)
          refine J_goto (len := 0) (tgt := 4) hK dX2_passHour_61 (by decide) ?_
          exact J_sub [0, 1, 3, 4] rfl (ih _ _ _)
        · refine J_aload_n hK dX2_passHour_53 3 rfl ?_
          refine J_iload_n hK dX2_passHour_54 2 rfl ?_
          refine J_callVv (q := p0) (As := [.int x3]) (st := []) hK dX2_passHour_55 kB_X2_72 kV_X2_letGo hp0 (by decide) rfl rfl (by decide) rfl rfl (Nat.le_of_ble_eq_true rfl) (fun _ _ hf => uX2_letGo hp0 hf) (fun _ h213 => ?_)
          refine J_iinc (lw := [(2, .int z203), (4, .int v202), (0, .ref (X.1 + p0)), (1, .int p1)]) hK dX2_passHour_58 2 rfl (by decide) ci_1 rfl (fun z214 => ?_)
          refine J_goto (len := 0) (tgt := 4) hK dX2_passHour_61 (by decide) ?_
          exact J_sub [0, 1, 3, 4] rfl (ih _ _ _)
    · exact J_sub [0, 1, 2, 3] rfl (hk _ _ _)
set_option maxHeartbeats 4000000 in
set_option maxRecDepth 4000 in
theorem uX2_passHour {l : Launch} {X : WX} {r : Nat} {a1 : Int32} {h h' : AH} {v : Unit} (kr : kd r = 2) (hf : fX2_passHour r a1 h = some (v, h')) : Does l X 3 yX2_passHour cX2_passHour 5 none [.ref (X.1 + r), .int a1] h (eV v) h' := by
  refine Does.of (enc := eV) (o := fX2_passHour r a1 h) (lv := [(0, .ref (X.1 + r)), (1, .int a1)]) (by decide) (Nat.le_of_ble_eq_true rfl) rfl hf (fun K hl hK => ?_)
  subst hl
  unfold fX2_passHour
  refine J_iconst hK dX2_passHour_0 ci_0 ?_
  refine J_istore_n (n := 2) (lw := [(0, .ref (X.1 + r)), (1, .int a1)]) hK dX2_passHour_1 rfl (by decide) rfl ?_
  refine J_iconst hK dX2_passHour_2 ci_0 ?_
  refine J_istore_n (n := 3) (lw := [(2, .int (0 : Int32)), (0, .ref (X.1 + r)), (1, .int a1)]) hK dX2_passHour_3 rfl (by decide) rfl ?_
  refine J_sub [0, 1, 2, 3] rfl (gX2_passHour_L4 hK kr (fun z1 z2 h3 => ?_) FU _ _ _)
  refine J_aload_n hK dX2_passHour_64 2 rfl ?_
  refine J_iload_n hK dX2_passHour_65 3 rfl ?_
  refine J_if_eq (tgt := 75) hK dX2_passHour_66 (by decide) ?_ ?_
  · refine J_iload_n hK dX2_passHour_75 1 rfl ?_
    refine J_callVi (q := r) (As := [.int z2]) (st := []) hK dX2_passHour_76 kB_X2_76 kV_X2_speedBy kr (by decide) rfl rfl (by decide) rfl rfl (Nat.le_of_ble_eq_true rfl) (fun _ _ hf => uX2_speedBy kr hf) (fun v5 h4 => ?_)
    refine J_istore_n (n := 3) (lw := [(2, .int z2), (0, .ref (X.1 + r)), (1, .int a1)]) hK dX2_passHour_79 rfl (by decide) rfl ?_
    refine J_iload_n hK dX2_passHour_80 0 rfl ?_
    refine J_iconst hK dX2_passHour_81 ci_5 ?_
    refine J_icmp_lt (tgt := 89) hK dX2_passHour_82 (by decide) ?_ ?_
    · refine J_iload_n hK dX2_passHour_89 0 rfl ?_
      refine J_if_le (tgt := 98) hK dX2_passHour_90 (by decide) ?_ ?_
      · refine J_aload_n hK dX2_passHour_93 2 rfl ?_
        refine J_iload_n hK dX2_passHour_94 0 rfl ?_
        refine J_callVv (q := r) (As := [.int v5]) (st := []) hK dX2_passHour_95 kB_X2_82 kV_X2_comeNearer kr (by decide) rfl rfl (by decide) rfl rfl (Nat.le_of_ble_eq_true rfl) (fun _ _ hf => uX2_comeNearer kr hf) (fun _ h6 => ?_)
        refine J_aload_n hK dX2_passHour_98 2 rfl ?_
        refine J_dup hK dX2_passHour_99 rfl ?_
        refine gF_X2_43 hK dX2_passHour_100 kr ?_
        refine J_iconst hK dX2_passHour_103 ci_1 ?_
        refine J_iadd hK dX2_passHour_104 ?_
        refine pF_X2_43 hK dX2_passHour_105 kr (fun h7 => ?_)
        exact J_vret hK dX2_passHour_108
      · refine J_aload_n hK dX2_passHour_98 2 rfl ?_
        refine J_dup hK dX2_passHour_99 rfl ?_
        refine gF_X2_43 hK dX2_passHour_100 kr ?_
        refine J_iconst hK dX2_passHour_103 ci_1 ?_
        refine J_iadd hK dX2_passHour_104 ?_
        refine pF_X2_43 hK dX2_passHour_105 kr (fun h8 => ?_)
        exact J_vret hK dX2_passHour_108
    · refine J_aload_n hK dX2_passHour_85 2 rfl ?_
      refine J_callVv (q := r) (As := []) (st := []) hK dX2_passHour_86 kB_X2_79 kV_X2_partBoys kr (by decide) rfl rfl (by decide) rfl rfl (Nat.le_of_ble_eq_true rfl) (fun _ _ hf => uX2_partBoys kr hf) (fun _ h9 => ?_)
      refine J_iload_n hK dX2_passHour_89 0 rfl ?_
      refine J_if_le (tgt := 98) hK dX2_passHour_90 (by decide) ?_ ?_
      · refine J_aload_n hK dX2_passHour_93 2 rfl ?_
        refine J_iload_n hK dX2_passHour_94 0 rfl ?_
        refine J_callVv (q := r) (As := [.int v5]) (st := []) hK dX2_passHour_95 kB_X2_82 kV_X2_comeNearer kr (by decide) rfl rfl (by decide) rfl rfl (Nat.le_of_ble_eq_true rfl) (fun _ _ hf => uX2_comeNearer kr hf) (fun _ h10 => ?_)
        refine J_aload_n hK dX2_passHour_98 2 rfl ?_
        refine J_dup hK dX2_passHour_99 rfl ?_
        refine gF_X2_43 hK dX2_passHour_100 kr ?_
        refine J_iconst hK dX2_passHour_103 ci_1 ?_
        refine J_iadd hK dX2_passHour_104 ?_
        refine pF_X2_43 hK dX2_passHour_105 kr (fun h11 => ?_)
        exact J_vret hK dX2_passHour_108
      · refine J_aload_n hK dX2_passHour_98 2 rfl ?_
        refine J_dup hK dX2_passHour_99 rfl ?_
        refine gF_X2_43 hK dX2_passHour_100 kr ?_
        refine J_iconst hK dX2_passHour_103 ci_1 ?_
        refine J_iadd hK dX2_passHour_104 ?_
        refine pF_X2_43 hK dX2_passHour_105 kr (fun h12 => ?_)
        exact J_vret hK dX2_passHour_108
  · refine J_iload_n hK dX2_passHour_69 1 rfl ?_
    refine J_iconst hK dX2_passHour_70 ci_2 ?_
    refine J_idiv hK dX2_passHour_71 ?_
    refine J_goto (len := 0) (tgt := 76) hK dX2_passHour_72 (by decide) ?_
    refine J_callVi (q := r) (As := [.int (z2 / (2 : Int32))]) (st := []) hK dX2_passHour_76 kB_X2_76 kV_X2_speedBy kr (by decide) rfl rfl (by decide) rfl rfl (Nat.le_of_ble_eq_true rfl) (fun _ _ hf => uX2_speedBy kr hf) (fun v14 h13 => ?_)
    refine J_istore_n (n := 3) (lw := [(2, .int z2), (0, .ref (X.1 + r)), (1, .int a1)]) hK dX2_passHour_79 rfl (by decide) rfl ?_
    refine J_iload_n hK dX2_passHour_80 0 rfl ?_
    refine J_iconst hK dX2_passHour_81 ci_5 ?_
    refine J_icmp_lt (tgt := 89) hK dX2_passHour_82 (by decide) ?_ ?_
    · refine J_iload_n hK dX2_passHour_89 0 rfl ?_
      refine J_if_le (tgt := 98) hK dX2_passHour_90 (by decide) ?_ ?_
      · refine J_aload_n hK dX2_passHour_93 2 rfl ?_
        refine J_iload_n hK dX2_passHour_94 0 rfl ?_
        refine J_callVv (q := r) (As := [.int v14]) (st := []) hK dX2_passHour_95 kB_X2_82 kV_X2_comeNearer kr (by decide) rfl rfl (by decide) rfl rfl (Nat.le_of_ble_eq_true rfl) (fun _ _ hf => uX2_comeNearer kr hf) (fun _ h15 => ?_)
        refine J_aload_n hK dX2_passHour_98 2 rfl ?_
        refine J_dup hK dX2_passHour_99 rfl ?_
        refine gF_X2_43 hK dX2_passHour_100 kr ?_
        refine J_iconst hK dX2_passHour_103 ci_1 ?_
        refine J_iadd hK dX2_passHour_104 ?_
        refine pF_X2_43 hK dX2_passHour_105 kr (fun h16 => ?_)
        exact J_vret hK dX2_passHour_108
      · refine J_aload_n hK dX2_passHour_98 2 rfl ?_
        refine J_dup hK dX2_passHour_99 rfl ?_
        refine gF_X2_43 hK dX2_passHour_100 kr ?_
        refine J_iconst hK dX2_passHour_103 ci_1 ?_
        refine J_iadd hK dX2_passHour_104 ?_
        refine pF_X2_43 hK dX2_passHour_105 kr (fun h17 => ?_)
        exact J_vret hK dX2_passHour_108
    · refine J_aload_n hK dX2_passHour_85 2 rfl ?_
      refine J_callVv (q := r) (As := []) (st := []) hK dX2_passHour_86 kB_X2_79 kV_X2_partBoys kr (by decide) rfl rfl (by decide) rfl rfl (Nat.le_of_ble_eq_true rfl) (fun _ _ hf => uX2_partBoys kr hf) (fun _ h18 => ?_)
      refine J_iload_n hK dX2_passHour_89 0 rfl ?_
      refine J_if_le (tgt := 98) hK dX2_passHour_90 (by decide) ?_ ?_
      · refine J_aload_n hK dX2_passHour_93 2 rfl ?_
        refine J_iload_n hK dX2_passHour_94 0 rfl ?_
        refine J_callVv (q := r) (As := [.int v14]) (st := []) hK dX2_passHour_95 kB_X2_82 kV_X2_comeNearer kr (by decide) rfl rfl (by decide) rfl rfl (Nat.le_of_ble_eq_true rfl) (fun _ _ hf => uX2_comeNearer kr hf) (fun _ h19 => ?_)
        refine J_aload_n hK dX2_passHour_98 2 rfl ?_
        refine J_dup hK dX2_passHour_99 rfl ?_
        refine gF_X2_43 hK dX2_passHour_100 kr ?_
        refine J_iconst hK dX2_passHour_103 ci_1 ?_
        refine J_iadd hK dX2_passHour_104 ?_
        refine pF_X2_43 hK dX2_passHour_105 kr (fun h20 => ?_)
        exact J_vret hK dX2_passHour_108
      · refine J_aload_n hK dX2_passHour_98 2 rfl ?_
        refine J_dup hK dX2_passHour_99 rfl ?_
        refine gF_X2_43 hK dX2_passHour_100 kr ?_
        refine J_iconst hK dX2_passHour_103 ci_1 ?_
        refine J_iadd hK dX2_passHour_104 ?_
        refine pF_X2_43 hK dX2_passHour_105 kr (fun h21 => ?_)
        exact J_vret hK dX2_passHour_108
