-- X0_forget
theorem dX0_forget_0 : DD cX0_forget 0 (.aload_n 0) 1 1 := by decide +kernel
theorem dX0_forget_1 : DD cX0_forget 1 (.iconst 0) 1 2 := by decide +kernel
theorem dX0_forget_2 : DD cX0_forget 2 (.putfield 18) 3 5 := by decide +kernel
theorem dX0_forget_5 : DD cX0_forget 5 (.aload_n 0) 1 6 := by decide +kernel
theorem dX0_forget_6 : DD cX0_forget 6 (.iconst 0) 1 7 := by decide +kernel
theorem dX0_forget_7 : DD cX0_forget 7 (.putfield 22) 3 10 := by decide +kernel
theorem dX0_forget_10 : DD cX0_forget 10 (.return_) 1 11 := by decide +kernel
def fX0_forget (h : AH) : Option (Unit × AH) := (sto (hs h 27 1 (0 : Int32)) fun h1 => (sto (hs h1 27 2 (0 : Int32)) fun h2 => (some ((), h2))))
set_option maxHeartbeats 4000000 in
set_option maxRecDepth 4000 in
theorem uX0_forget {l : Launch} {X : WX} {h h' : AH} {v : Unit} (hf : fX0_forget  h = some (v, h')) : Does l X 1 yX0_forget cX0_forget 1 none [.ref (X.1 + 27)] h (eV v) h' := by
  refine Does.of (enc := eV) (o := fX0_forget  h) (lv := [(0, .ref (X.1 + 27))]) (by decide) (Nat.le_of_ble_eq_true rfl) rfl hf (fun K hl hK => ?_)
  subst hl
  unfold fX0_forget
  refine J_aload_n hK dX0_forget_0 0 rfl ?_
  refine J_iconst hK dX0_forget_1 ci_0 ?_
  refine pF_X0_18 hK dX0_forget_2 kd_27 (fun h1 => ?_)
  refine J_aload_n hK dX0_forget_5 0 rfl ?_
  refine J_iconst hK dX0_forget_6 ci_0 ?_
  refine pF_X0_22 hK dX0_forget_7 kd_27 (fun h2 => ?_)
  exact J_vret hK dX0_forget_10
-- X0_keep
theorem dX0_keep_0 : DD cX0_keep 0 (.aload_n 0) 1 1 := by decide +kernel
theorem dX0_keep_1 : DD cX0_keep 1 (.getfield 11) 3 4 := by decide +kernel
theorem dX0_keep_4 : DD cX0_keep 4 (.aload_n 0) 1 5 := by decide +kernel
theorem dX0_keep_5 : DD cX0_keep 5 (.getfield 18) 3 8 := by decide +kernel
theorem dX0_keep_8 : DD cX0_keep 8 (.aload_n 0) 1 9 := by decide +kernel
theorem dX0_keep_9 : DD cX0_keep 9 (.getfield 22) 3 12 := by decide +kernel
theorem dX0_keep_12 : DD cX0_keep 12 (.iadd) 1 13 := by decide +kernel
theorem dX0_keep_13 : DD cX0_keep 13 (.bipush 24) 2 15 := by decide +kernel
theorem dX0_keep_15 : DD cX0_keep 15 (.irem) 1 16 := by decide +kernel
theorem dX0_keep_16 : DD cX0_keep 16 (.aaload) 1 17 := by decide +kernel
theorem dX0_keep_17 : DD cX0_keep 17 (.aload_n 1) 1 18 := by decide +kernel
theorem dX0_keep_18 : DD cX0_keep 18 (.invokevirtual 25) 3 21 := by decide +kernel
theorem dX0_keep_21 : DD cX0_keep 21 (.aload_n 0) 1 22 := by decide +kernel
theorem dX0_keep_22 : DD cX0_keep 22 (.getfield 22) 3 25 := by decide +kernel
theorem dX0_keep_25 : DD cX0_keep 25 (.bipush 24) 2 27 := by decide +kernel
theorem dX0_keep_27 : DD cX0_keep 27 (.if_icmp .ge 16) 3 30 := by decide +kernel
theorem dX0_keep_30 : DD cX0_keep 30 (.aload_n 0) 1 31 := by decide +kernel
theorem dX0_keep_31 : DD cX0_keep 31 (.dup) 1 32 := by decide +kernel
theorem dX0_keep_32 : DD cX0_keep 32 (.getfield 22) 3 35 := by decide +kernel
theorem dX0_keep_35 : DD cX0_keep 35 (.iconst 1) 1 36 := by decide +kernel
theorem dX0_keep_36 : DD cX0_keep 36 (.iadd) 1 37 := by decide +kernel
theorem dX0_keep_37 : DD cX0_keep 37 (.putfield 22) 3 40 := by decide +kernel
theorem dX0_keep_40 : DD cX0_keep 40 (.goto 16) 3 43 := by decide +kernel
theorem dX0_keep_43 : DD cX0_keep 43 (.aload_n 0) 1 44 := by decide +kernel
theorem dX0_keep_44 : DD cX0_keep 44 (.aload_n 0) 1 45 := by decide +kernel
theorem dX0_keep_45 : DD cX0_keep 45 (.getfield 18) 3 48 := by decide +kernel
theorem dX0_keep_48 : DD cX0_keep 48 (.iconst 1) 1 49 := by decide +kernel
theorem dX0_keep_49 : DD cX0_keep 49 (.iadd) 1 50 := by decide +kernel
theorem dX0_keep_50 : DD cX0_keep 50 (.bipush 24) 2 52 := by decide +kernel
theorem dX0_keep_52 : DD cX0_keep 52 (.irem) 1 53 := by decide +kernel
theorem dX0_keep_53 : DD cX0_keep 53 (.putfield 18) 3 56 := by decide +kernel
theorem dX0_keep_56 : DD cX0_keep 56 (.return_) 1 57 := by decide +kernel
def fX0_keep (a1 : Nat) (h : AH) : Option (Unit × AH) := (chk (¬ (24 : Int32) = 0) (chk (inb (((h 27 1) + (h 27 2)) - ((h 27 1) + (h 27 2)) / (24 : Int32) * (24 : Int32)) (ln 28)) (bnd (fX2_take (28 + 1 + 7 * Int32.toNatClampNeg (((h 27 1) + (h 27 2)) - ((h 27 1) + (h 27 2)) / (24 : Int32) * (24 : Int32))) a1 h) fun _ h2 => (if (h2 27 2) < (24 : Int32) then (sto (hs h2 27 2 ((h2 27 2) + (1 : Int32))) fun h3 => (some ((), h3))) else (chk (¬ (24 : Int32) = 0) (sto (hs h2 27 1 (((h2 27 1) + (1 : Int32)) - ((h2 27 1) + (1 : Int32)) / (24 : Int32) * (24 : Int32))) fun h4 => (some ((), h4))))))))
set_option maxHeartbeats 4000000 in
set_option maxRecDepth 4000 in
theorem uX0_keep {l : Launch} {X : WX} {a1 : Nat} {h h' : AH} {v : Unit} (ka1 : kd a1 = 2) (hf : fX0_keep a1 h = some (v, h')) : Does l X 2 yX0_keep cX0_keep 2 none [.ref (X.1 + 27), .ref (X.1 + a1)] h (eV v) h' := by
  refine Does.of (enc := eV) (o := fX0_keep a1 h) (lv := [(0, .ref (X.1 + 27)), (1, .ref (X.1 + a1))]) (by decide) (Nat.le_of_ble_eq_true rfl) rfl hf (fun K hl hK => ?_)
  subst hl
  unfold fX0_keep
  refine J_aload_n hK dX0_keep_0 0 rfl ?_
  refine rF_X0_11 (q2 := 28) hK dX0_keep_1 kd_27 rfl ?_
  refine J_aload_n hK dX0_keep_4 0 rfl ?_
  refine gF_X0_18 hK dX0_keep_5 kd_27 ?_
  refine J_aload_n hK dX0_keep_8 0 rfl ?_
  refine gF_X0_22 hK dX0_keep_9 kd_27 ?_
  refine J_iadd hK dX0_keep_12 ?_
  refine J_bipush hK dX0_keep_13 cb_24 ?_
  refine J_irem hK dX0_keep_15 ?_
  refine J_aaldE hK dX0_keep_16 kd_28 (fun q1 => ?_)
  refine J_aload_n hK dX0_keep_17 1 rfl ?_
  refine J_callVv (q := (28 + 1 + 7 * Int32.toNatClampNeg (((h 27 1) + (h 27 2)) - ((h 27 1) + (h 27 2)) / (24 : Int32) * (24 : Int32)))) (As := [.ref (X.1 + a1)]) (st := []) hK dX0_keep_18 kB_X0_25 kV_X2_take (kdA_28 q1) (by decide) rfl rfl (by decide) rfl rfl (Nat.le_of_ble_eq_true rfl) (fun _ _ hf => uX2_take (kdA_28 q1) ka1 hf) (fun _ h2 => ?_)
  refine J_aload_n hK dX0_keep_21 0 rfl ?_
  refine gF_X0_22 hK dX0_keep_22 kd_27 ?_
  refine J_bipush hK dX0_keep_25 cb_24 ?_
  refine J_icmp_ge (tgt := 43) hK dX0_keep_27 (by decide) ?_ ?_
  · refine J_aload_n hK dX0_keep_30 0 rfl ?_
    refine J_dup hK dX0_keep_31 rfl ?_
    refine gF_X0_22 hK dX0_keep_32 kd_27 ?_
    refine J_iconst hK dX0_keep_35 ci_1 ?_
    refine J_iadd hK dX0_keep_36 ?_
    refine pF_X0_22 hK dX0_keep_37 kd_27 (fun h3 => ?_)
    refine J_goto (len := 0) (tgt := 56) hK dX0_keep_40 (by decide) ?_
    exact J_vret hK dX0_keep_56
  · refine J_aload_n hK dX0_keep_43 0 rfl ?_
    refine J_aload_n hK dX0_keep_44 0 rfl ?_
    refine gF_X0_18 hK dX0_keep_45 kd_27 ?_
    refine J_iconst hK dX0_keep_48 ci_1 ?_
    refine J_iadd hK dX0_keep_49 ?_
    refine J_bipush hK dX0_keep_50 cb_24 ?_
    refine J_irem hK dX0_keep_52 ?_
    refine pF_X0_18 hK dX0_keep_53 kd_27 (fun h4 => ?_)
    exact J_vret hK dX0_keep_56
-- X0_takeBack
theorem dX0_takeBack_0 : DD cX0_takeBack 0 (.aload_n 0) 1 1 := by decide +kernel
theorem dX0_takeBack_1 : DD cX0_takeBack 1 (.getfield 22) 3 4 := by decide +kernel
theorem dX0_takeBack_4 : DD cX0_takeBack 4 (.ifCond .le 34) 3 7 := by decide +kernel
theorem dX0_takeBack_7 : DD cX0_takeBack 7 (.aload_n 0) 1 8 := by decide +kernel
theorem dX0_takeBack_8 : DD cX0_takeBack 8 (.dup) 1 9 := by decide +kernel
theorem dX0_takeBack_9 : DD cX0_takeBack 9 (.getfield 22) 3 12 := by decide +kernel
theorem dX0_takeBack_12 : DD cX0_takeBack 12 (.iconst 1) 1 13 := by decide +kernel
theorem dX0_takeBack_13 : DD cX0_takeBack 13 (.isub) 1 14 := by decide +kernel
theorem dX0_takeBack_14 : DD cX0_takeBack 14 (.putfield 22) 3 17 := by decide +kernel
theorem dX0_takeBack_17 : DD cX0_takeBack 17 (.aload_n 1) 1 18 := by decide +kernel
theorem dX0_takeBack_18 : DD cX0_takeBack 18 (.aload_n 0) 1 19 := by decide +kernel
theorem dX0_takeBack_19 : DD cX0_takeBack 19 (.getfield 11) 3 22 := by decide +kernel
theorem dX0_takeBack_22 : DD cX0_takeBack 22 (.aload_n 0) 1 23 := by decide +kernel
theorem dX0_takeBack_23 : DD cX0_takeBack 23 (.getfield 18) 3 26 := by decide +kernel
theorem dX0_takeBack_26 : DD cX0_takeBack 26 (.aload_n 0) 1 27 := by decide +kernel
theorem dX0_takeBack_27 : DD cX0_takeBack 27 (.getfield 22) 3 30 := by decide +kernel
theorem dX0_takeBack_30 : DD cX0_takeBack 30 (.iadd) 1 31 := by decide +kernel
theorem dX0_takeBack_31 : DD cX0_takeBack 31 (.bipush 24) 2 33 := by decide +kernel
theorem dX0_takeBack_33 : DD cX0_takeBack 33 (.irem) 1 34 := by decide +kernel
theorem dX0_takeBack_34 : DD cX0_takeBack 34 (.aaload) 1 35 := by decide +kernel
theorem dX0_takeBack_35 : DD cX0_takeBack 35 (.invokevirtual 25) 3 38 := by decide +kernel
theorem dX0_takeBack_38 : DD cX0_takeBack 38 (.aload_n 0) 1 39 := by decide +kernel
theorem dX0_takeBack_39 : DD cX0_takeBack 39 (.getfield 22) 3 42 := by decide +kernel
theorem dX0_takeBack_42 : DD cX0_takeBack 42 (.ireturn) 1 43 := by decide +kernel
def fX0_takeBack (a1 : Nat) (h : AH) : Option (Int32 × AH) := (if 0 < (h 27 2) then (sto (hs h 27 2 ((h 27 2) - (1 : Int32))) fun h1 => (chk (¬ (24 : Int32) = 0) (chk (inb (((h1 27 1) + (h1 27 2)) - ((h1 27 1) + (h1 27 2)) / (24 : Int32) * (24 : Int32)) (ln 28)) (bnd (fX2_take a1 (28 + 1 + 7 * Int32.toNatClampNeg (((h1 27 1) + (h1 27 2)) - ((h1 27 1) + (h1 27 2)) / (24 : Int32) * (24 : Int32))) h1) fun _ h3 => (some ((h3 27 2), h3)))))) else (some ((h 27 2), h)))
set_option maxHeartbeats 4000000 in
set_option maxRecDepth 4000 in
theorem uX0_takeBack {l : Launch} {X : WX} {a1 : Nat} {h h' : AH} {v : Int32} (ka1 : kd a1 = 2) (hf : fX0_takeBack a1 h = some (v, h')) : Does l X 2 yX0_takeBack cX0_takeBack 2 (some .int) [.ref (X.1 + 27), .ref (X.1 + a1)] h (eI v) h' := by
  refine Does.of (enc := eI) (o := fX0_takeBack a1 h) (lv := [(0, .ref (X.1 + 27)), (1, .ref (X.1 + a1))]) (by decide) (Nat.le_of_ble_eq_true rfl) rfl hf (fun K hl hK => ?_)
  subst hl
  unfold fX0_takeBack
  refine J_aload_n hK dX0_takeBack_0 0 rfl ?_
  refine gF_X0_22 hK dX0_takeBack_1 kd_27 ?_
  refine J_if_le (tgt := 38) hK dX0_takeBack_4 (by decide) ?_ ?_
  · refine J_aload_n hK dX0_takeBack_7 0 rfl ?_
    refine J_dup hK dX0_takeBack_8 rfl ?_
    refine gF_X0_22 hK dX0_takeBack_9 kd_27 ?_
    refine J_iconst hK dX0_takeBack_12 ci_1 ?_
    refine J_isub hK dX0_takeBack_13 ?_
    refine pF_X0_22 hK dX0_takeBack_14 kd_27 (fun h1 => ?_)
    refine J_aload_n hK dX0_takeBack_17 1 rfl ?_
    refine J_aload_n hK dX0_takeBack_18 0 rfl ?_
    refine rF_X0_11 (q2 := 28) hK dX0_takeBack_19 kd_27 rfl ?_
    refine J_aload_n hK dX0_takeBack_22 0 rfl ?_
    refine gF_X0_18 hK dX0_takeBack_23 kd_27 ?_
    refine J_aload_n hK dX0_takeBack_26 0 rfl ?_
    refine gF_X0_22 hK dX0_takeBack_27 kd_27 ?_
    refine J_iadd hK dX0_takeBack_30 ?_
    refine J_bipush hK dX0_takeBack_31 cb_24 ?_
    refine J_irem hK dX0_takeBack_33 ?_
    refine J_aaldE hK dX0_takeBack_34 kd_28 (fun q2 => ?_)
    refine J_callVv (q := a1) (As := [.ref (X.1 + (28 + 1 + 7 * Int32.toNatClampNeg (((h1 27 1) + (h1 27 2)) - ((h1 27 1) + (h1 27 2)) / (24 : Int32) * (24 : Int32))))]) (st := []) hK dX0_takeBack_35 kB_X0_25 kV_X2_take ka1 (by decide) rfl rfl (by decide) rfl rfl (Nat.le_of_ble_eq_true rfl) (fun _ _ hf => uX2_take ka1 (kdA_28 q2) hf) (fun _ h3 => ?_)
    refine J_aload_n hK dX0_takeBack_38 0 rfl ?_
    refine gF_X0_22 hK dX0_takeBack_39 kd_27 ?_
    exact J_iret hK dX0_takeBack_42
  · refine J_aload_n hK dX0_takeBack_38 0 rfl ?_
    refine gF_X0_22 hK dX0_takeBack_39 kd_27 ?_
    exact J_iret hK dX0_takeBack_42
-- X3_begin
theorem dX3_begin_0 : DD cX3_begin 0 (.aload_n 0) 1 1 := by decide +kernel
theorem dX3_begin_1 : DD cX3_begin 1 (.iload_n 1) 1 2 := by decide +kernel
theorem dX3_begin_2 : DD cX3_begin 2 (.putfield 15) 3 5 := by decide +kernel
theorem dX3_begin_5 : DD cX3_begin 5 (.aload_n 0) 1 6 := by decide +kernel
theorem dX3_begin_6 : DD cX3_begin 6 (.iload_n 2) 1 7 := by decide +kernel
theorem dX3_begin_7 : DD cX3_begin 7 (.putfield 19) 3 10 := by decide +kernel
theorem dX3_begin_10 : DD cX3_begin 10 (.iconst 0) 1 11 := by decide +kernel
theorem dX3_begin_11 : DD cX3_begin 11 (.istore_n 3) 1 12 := by decide +kernel
theorem dX3_begin_12 : DD cX3_begin 12 (.iload_n 3) 1 13 := by decide +kernel
theorem dX3_begin_13 : DD cX3_begin 13 (.iload_n 2) 1 14 := by decide +kernel
theorem dX3_begin_14 : DD cX3_begin 14 (.if_icmp .ge 22) 3 17 := by decide +kernel
theorem dX3_begin_17 : DD cX3_begin 17 (.iload_n 3) 1 18 := by decide +kernel
theorem dX3_begin_18 : DD cX3_begin 18 (.bipush 40) 2 20 := by decide +kernel
theorem dX3_begin_20 : DD cX3_begin 20 (.if_icmp .ge 16) 3 23 := by decide +kernel
theorem dX3_begin_23 : DD cX3_begin 23 (.aload_n 0) 1 24 := by decide +kernel
theorem dX3_begin_24 : DD cX3_begin 24 (.getfield 9) 3 27 := by decide +kernel
theorem dX3_begin_27 : DD cX3_begin 27 (.iload_n 3) 1 28 := by decide +kernel
theorem dX3_begin_28 : DD cX3_begin 28 (.iconst 0) 1 29 := by decide +kernel
theorem dX3_begin_29 : DD cX3_begin 29 (.iastore) 1 30 := by decide +kernel
theorem dX3_begin_30 : DD cX3_begin 30 (.iinc 3 1) 3 33 := by decide +kernel
theorem dX3_begin_33 : DD cX3_begin 33 (.goto (-21)) 3 36 := by decide +kernel
theorem dX3_begin_36 : DD cX3_begin 36 (.return_) 1 37 := by decide +kernel
def fX3_begin_L12 (p0 : Nat) (p1 : Int32) (p2 : Int32) : Nat → Int32 → AH → (Int32 → AH → Option (Unit × AH)) → Option (Unit × AH)
  | 0, _, _, _ => none
  | n + 1, x3, h, k => (if x3 < p2 then (if x3 < (40 : Int32) then (chk (inb x3 (ln (p0 + 1))) (sto (hs h (p0 + 1) (Int32.toNatClampNeg x3) (0 : Int32)) fun h201 => (vl (x3 + (1 : Int32)) fun z202 => fX3_begin_L12 p0 p1 p2 n z202 h201 k))) else k x3 h) else k x3 h)
def fX3_begin (r : Nat) (a1 : Int32) (a2 : Int32) (h : AH) : Option (Unit × AH) := (sto (hs h r 1 a1) fun h1 => (sto (hs h1 r 2 a2) fun h2 => (fX3_begin_L12 r a1 a2 FU (0 : Int32) h2 fun z3 h4 => (some ((), h4)))))
set_option maxHeartbeats 4000000 in
theorem gX3_begin_L12 {K : MC} {X : WX} {p0 : Nat} {p1 : Int32} {p2 : Int32} (hK : Ok K X RX3 cX3_begin 4 none 1) (hp0 : kd p0 = 3) {k : Int32 → AH → Option (Unit × AH)} (hk : ∀ (x3 : Int32) (h : AH), J K X 4 (Zm K X) eV 36 [(3, .int x3), (0, .ref (X.1 + p0)), (1, .int p1), (2, .int p2)] [] h (k x3 h)) : ∀ (n : Nat) (x3 : Int32) (h : AH), J K X 4 (Zm K X) eV 12 [(3, .int x3), (0, .ref (X.1 + p0)), (1, .int p1), (2, .int p2)] [] h (fX3_begin_L12 p0 p1 p2 n x3 h k) := by
  intro n
  induction n with
  | zero => exact fun _ _ => J_none
  | succ n ih =>
    intro x3 h
    rw [fX3_begin_L12]
    refine J_iload_n hK dX3_begin_12 0 rfl ?_
    refine J_iload_n hK dX3_begin_13 3 rfl ?_
    refine J_icmp_ge (tgt := 36) hK dX3_begin_14 (by decide) ?_ ?_
    · refine J_iload_n hK dX3_begin_17 0 rfl ?_
      refine J_bipush hK dX3_begin_18 cb_40 ?_
      refine J_icmp_ge (tgt := 36) hK dX3_begin_20 (by decide) ?_ ?_
      · refine J_aload_n hK dX3_begin_23 1 rfl ?_
        refine rF_X3_9 (q2 := (p0 + 1)) hK dX3_begin_24 hp0 rfl ?_
        refine J_iload_n hK dX3_begin_27 0 rfl ?_
        refine J_iconst hK dX3_begin_28 ci_0 ?_
        refine J_iast hK dX3_begin_29 (kdR_1 hp0) (fun h201 => ?_)
        refine J_iinc (lw := [(0, .ref (X.1 + p0)), (1, .int p1), (2, .int p2)]) hK dX3_begin_30 0 rfl (by decide) ci_1 rfl (fun z202 => ?_)
        refine J_goto (len := 0) (tgt := 12) hK dX3_begin_33 (by decide) ?_
        exact J_sub [0, 1, 2, 3] rfl (ih _ _)
      · exact J_sub [0, 1, 2, 3] rfl (hk _ _)
    · exact J_sub [0, 1, 2, 3] rfl (hk _ _)
set_option maxHeartbeats 4000000 in
set_option maxRecDepth 4000 in
theorem uX3_begin {l : Launch} {X : WX} {r : Nat} {a1 : Int32} {a2 : Int32} {h h' : AH} {v : Unit} (kr : kd r = 3) (hf : fX3_begin r a1 a2 h = some (v, h')) : Does l X 1 yX3_begin cX3_begin 4 none [.ref (X.1 + r), .int a1, .int a2] h (eV v) h' := by
  refine Does.of (enc := eV) (o := fX3_begin r a1 a2 h) (lv := [(0, .ref (X.1 + r)), (1, .int a1), (2, .int a2)]) (by decide) (Nat.le_of_ble_eq_true rfl) rfl hf (fun K hl hK => ?_)
  subst hl
  unfold fX3_begin
  refine J_aload_n hK dX3_begin_0 0 rfl ?_
  refine J_iload_n hK dX3_begin_1 1 rfl ?_
  refine pF_X3_15 hK dX3_begin_2 kr (fun h1 => ?_)
  refine J_aload_n hK dX3_begin_5 0 rfl ?_
  refine J_iload_n hK dX3_begin_6 2 rfl ?_
  refine pF_X3_19 hK dX3_begin_7 kr (fun h2 => ?_)
  refine J_iconst hK dX3_begin_10 ci_0 ?_
  refine J_istore_n (n := 3) (lw := [(0, .ref (X.1 + r)), (1, .int a1), (2, .int a2)]) hK dX3_begin_11 rfl (by decide) rfl ?_
  refine J_sub [0, 1, 2, 3] rfl (gX3_begin_L12 hK kr (fun z3 h4 => ?_) FU _ _)
  exact J_vret hK dX3_begin_36
-- X3_end
theorem dX3_end_0 : DD cX3_end 0 (.aload_n 0) 1 1 := by decide +kernel
theorem dX3_end_1 : DD cX3_end 1 (.getfield 19) 3 4 := by decide +kernel
theorem dX3_end_4 : DD cX3_end 4 (.istore_n 1) 1 5 := by decide +kernel
theorem dX3_end_5 : DD cX3_end 5 (.aload_n 0) 1 6 := by decide +kernel
theorem dX3_end_6 : DD cX3_end 6 (.iconst (-1)) 1 7 := by decide +kernel
theorem dX3_end_7 : DD cX3_end 7 (.putfield 15) 3 10 := by decide +kernel
theorem dX3_end_10 : DD cX3_end 10 (.aload_n 0) 1 11 := by decide +kernel
theorem dX3_end_11 : DD cX3_end 11 (.iconst 0) 1 12 := by decide +kernel
theorem dX3_end_12 : DD cX3_end 12 (.putfield 19) 3 15 := by decide +kernel
theorem dX3_end_15 : DD cX3_end 15 (.iload_n 1) 1 16 := by decide +kernel
theorem dX3_end_16 : DD cX3_end 16 (.ireturn) 1 17 := by decide +kernel
def fX3_end (r : Nat) (h : AH) : Option (Int32 × AH) := (vl (h r 2) fun z1 => (sto (hs h r 1 (-1 : Int32)) fun h2 => (sto (hs h2 r 2 (0 : Int32)) fun h3 => (some (z1, h3)))))
set_option maxHeartbeats 4000000 in
set_option maxRecDepth 4000 in
theorem uX3_end {l : Launch} {X : WX} {r : Nat} {h h' : AH} {v : Int32} (kr : kd r = 3) (hf : fX3_end r h = some (v, h')) : Does l X 1 yX3_end cX3_end 2 (some .int) [.ref (X.1 + r)] h (eI v) h' := by
  refine Does.of (enc := eI) (o := fX3_end r h) (lv := [(0, .ref (X.1 + r))]) (by decide) (Nat.le_of_ble_eq_true rfl) rfl hf (fun K hl hK => ?_)
  subst hl
  unfold fX3_end
  refine J_aload_n hK dX3_end_0 0 rfl ?_
  refine gF_X3_19 hK dX3_end_1 kr ?_
  refine J_istoreV_n (n := 1) (lw := [(0, .ref (X.1 + r))]) hK dX3_end_4 rfl (by decide) rfl (fun z1 => ?_)
  refine J_aload_n hK dX3_end_5 1 rfl ?_
  refine J_iconst hK dX3_end_6 ci_m1 ?_
  refine pF_X3_15 hK dX3_end_7 kr (fun h2 => ?_)
  refine J_aload_n hK dX3_end_10 1 rfl ?_
  refine J_iconst hK dX3_end_11 ci_0 ?_
  refine pF_X3_19 hK dX3_end_12 kr (fun h3 => ?_)
  refine J_iload_n hK dX3_end_15 0 rfl ?_
  exact J_iret hK dX3_end_16
-- X3_hasRun
theorem dX3_hasRun_0 : DD cX3_hasRun 0 (.iload_n 1) 1 1 := by decide +kernel
theorem dX3_hasRun_1 : DD cX3_hasRun 1 (.ifCond .lt 29) 3 4 := by decide +kernel
theorem dX3_hasRun_4 : DD cX3_hasRun 4 (.iload_n 2) 1 5 := by decide +kernel
theorem dX3_hasRun_5 : DD cX3_hasRun 5 (.ifCond .lt 25) 3 8 := by decide +kernel
theorem dX3_hasRun_8 : DD cX3_hasRun 8 (.iload_n 2) 1 9 := by decide +kernel
theorem dX3_hasRun_9 : DD cX3_hasRun 9 (.aload_n 0) 1 10 := by decide +kernel
theorem dX3_hasRun_10 : DD cX3_hasRun 10 (.getfield 19) 3 13 := by decide +kernel
theorem dX3_hasRun_13 : DD cX3_hasRun 13 (.if_icmp .gt 17) 3 16 := by decide +kernel
theorem dX3_hasRun_16 : DD cX3_hasRun 16 (.iload_n 1) 1 17 := by decide +kernel
theorem dX3_hasRun_17 : DD cX3_hasRun 17 (.aload_n 0) 1 18 := by decide +kernel
theorem dX3_hasRun_18 : DD cX3_hasRun 18 (.getfield 19) 3 21 := by decide +kernel
theorem dX3_hasRun_21 : DD cX3_hasRun 21 (.iload_n 2) 1 22 := by decide +kernel
theorem dX3_hasRun_22 : DD cX3_hasRun 22 (.isub) 1 23 := by decide +kernel
theorem dX3_hasRun_23 : DD cX3_hasRun 23 (.if_icmp .gt 7) 3 26 := by decide +kernel
theorem dX3_hasRun_26 : DD cX3_hasRun 26 (.iconst 1) 1 27 := by decide +kernel
theorem dX3_hasRun_27 : DD cX3_hasRun 27 (.goto 4) 3 30 := by decide +kernel
theorem dX3_hasRun_30 : DD cX3_hasRun 30 (.iconst 0) 1 31 := by decide +kernel
theorem dX3_hasRun_31 : DD cX3_hasRun 31 (.ireturn) 1 32 := by decide +kernel
def fX3_hasRun (r : Nat) (a1 : Int32) (a2 : Int32) (h : AH) : Option (Int32 × AH) := (if a1 < 0 then (some ((0 : Int32), h)) else (if a2 < 0 then (some ((0 : Int32), h)) else (if (h r 2) < a2 then (some ((0 : Int32), h)) else (if ((h r 2) - a2) < a1 then (some ((0 : Int32), h)) else (some ((1 : Int32), h))))))
set_option maxHeartbeats 4000000 in
set_option maxRecDepth 4000 in
theorem uX3_hasRun {l : Launch} {X : WX} {r : Nat} {a1 : Int32} {a2 : Int32} {h h' : AH} {v : Int32} (kr : kd r = 3) (hf : fX3_hasRun r a1 a2 h = some (v, h')) : Does l X 1 yX3_hasRun cX3_hasRun 3 (some .boolean) [.ref (X.1 + r), .int a1, .int a2] h (eI v) h' := by
  refine Does.of (enc := eI) (o := fX3_hasRun r a1 a2 h) (lv := [(0, .ref (X.1 + r)), (1, .int a1), (2, .int a2)]) (by decide) (Nat.le_of_ble_eq_true rfl) rfl hf (fun K hl hK => ?_)
  subst hl
  unfold fX3_hasRun
  refine J_iload_n hK dX3_hasRun_0 1 rfl ?_
  refine J_if_lt (tgt := 30) hK dX3_hasRun_1 (by decide) ?_ ?_
  · refine J_iconst hK dX3_hasRun_30 ci_0 ?_
    exact J_zret0 hK dX3_hasRun_31
  · refine J_iload_n hK dX3_hasRun_4 2 rfl ?_
    refine J_if_lt (tgt := 30) hK dX3_hasRun_5 (by decide) ?_ ?_
    · refine J_iconst hK dX3_hasRun_30 ci_0 ?_
      exact J_zret0 hK dX3_hasRun_31
    · refine J_iload_n hK dX3_hasRun_8 2 rfl ?_
      refine J_aload_n hK dX3_hasRun_9 0 rfl ?_
      refine gF_X3_19 hK dX3_hasRun_10 kr ?_
      refine J_icmp_gt (tgt := 30) hK dX3_hasRun_13 (by decide) ?_ ?_
      · refine J_iconst hK dX3_hasRun_30 ci_0 ?_
        exact J_zret0 hK dX3_hasRun_31
      · refine J_iload_n hK dX3_hasRun_16 1 rfl ?_
        refine J_aload_n hK dX3_hasRun_17 0 rfl ?_
        refine gF_X3_19 hK dX3_hasRun_18 kr ?_
        refine J_iload_n hK dX3_hasRun_21 2 rfl ?_
        refine J_isub hK dX3_hasRun_22 ?_
        refine J_icmp_gt (tgt := 30) hK dX3_hasRun_23 (by decide) ?_ ?_
        · refine J_iconst hK dX3_hasRun_30 ci_0 ?_
          exact J_zret0 hK dX3_hasRun_31
        · refine J_iconst hK dX3_hasRun_26 ci_1 ?_
          refine J_goto (len := 0) (tgt := 31) hK dX3_hasRun_27 (by decide) ?_
          exact J_zret1 hK dX3_hasRun_31
-- X3_missing
theorem dX3_missing_0 : DD cX3_missing 0 (.aload_n 0) 1 1 := by decide +kernel
theorem dX3_missing_1 : DD cX3_missing 1 (.getfield 15) 3 4 := by decide +kernel
theorem dX3_missing_4 : DD cX3_missing 4 (.iconst (-1)) 1 5 := by decide +kernel
theorem dX3_missing_5 : DD cX3_missing 5 (.if_icmp .ne 7) 3 8 := by decide +kernel
theorem dX3_missing_8 : DD cX3_missing 8 (.iconst 1) 1 9 := by decide +kernel
theorem dX3_missing_9 : DD cX3_missing 9 (.goto 4) 3 12 := by decide +kernel
theorem dX3_missing_12 : DD cX3_missing 12 (.iconst 0) 1 13 := by decide +kernel
theorem dX3_missing_13 : DD cX3_missing 13 (.ireturn) 1 14 := by decide +kernel
def fX3_missing (r : Nat) (h : AH) : Option (Int32 × AH) := (if (h r 1) = (-1 : Int32) then (some ((1 : Int32), h)) else (some ((0 : Int32), h)))
set_option maxHeartbeats 4000000 in
set_option maxRecDepth 4000 in
theorem uX3_missing {l : Launch} {X : WX} {r : Nat} {h h' : AH} {v : Int32} (kr : kd r = 3) (hf : fX3_missing r h = some (v, h')) : Does l X 1 yX3_missing cX3_missing 1 (some .boolean) [.ref (X.1 + r)] h (eI v) h' := by
  refine Does.of (enc := eI) (o := fX3_missing r h) (lv := [(0, .ref (X.1 + r))]) (by decide) (Nat.le_of_ble_eq_true rfl) rfl hf (fun K hl hK => ?_)
  subst hl
  unfold fX3_missing
  refine J_aload_n hK dX3_missing_0 0 rfl ?_
  refine gF_X3_15 hK dX3_missing_1 kr ?_
  refine J_iconst hK dX3_missing_4 ci_m1 ?_
  refine J_icmp_ne (tgt := 12) hK dX3_missing_5 (by decide) ?_ ?_
  · refine J_iconst hK dX3_missing_8 ci_1 ?_
    refine J_goto (len := 0) (tgt := 13) hK dX3_missing_9 (by decide) ?_
    exact J_zret1 hK dX3_missing_13
  · refine J_iconst hK dX3_missing_12 ci_0 ?_
    exact J_zret0 hK dX3_missing_13
-- X3_narrowed
theorem dX3_narrowed_0 : DD cX3_narrowed 0 (.aload_n 0) 1 1 := by decide +kernel
theorem dX3_narrowed_1 : DD cX3_narrowed 1 (.getfield 15) 3 4 := by decide +kernel
theorem dX3_narrowed_4 : DD cX3_narrowed 4 (.ifCond .ne 8) 3 7 := by decide +kernel
theorem dX3_narrowed_7 : DD cX3_narrowed 7 (.iload_n 1) 1 8 := by decide +kernel
theorem dX3_narrowed_8 : DD cX3_narrowed 8 (.i2b) 1 9 := by decide +kernel
theorem dX3_narrowed_9 : DD cX3_narrowed 9 (.goto 17) 3 12 := by decide +kernel
theorem dX3_narrowed_12 : DD cX3_narrowed 12 (.aload_n 0) 1 13 := by decide +kernel
theorem dX3_narrowed_13 : DD cX3_narrowed 13 (.getfield 15) 3 16 := by decide +kernel
theorem dX3_narrowed_16 : DD cX3_narrowed 16 (.iconst 1) 1 17 := by decide +kernel
theorem dX3_narrowed_17 : DD cX3_narrowed 17 (.if_icmp .ne 8) 3 20 := by decide +kernel
theorem dX3_narrowed_20 : DD cX3_narrowed 20 (.iload_n 1) 1 21 := by decide +kernel
theorem dX3_narrowed_21 : DD cX3_narrowed 21 (.i2s) 1 22 := by decide +kernel
theorem dX3_narrowed_22 : DD cX3_narrowed 22 (.goto 4) 3 25 := by decide +kernel
theorem dX3_narrowed_25 : DD cX3_narrowed 25 (.iload_n 1) 1 26 := by decide +kernel
theorem dX3_narrowed_26 : DD cX3_narrowed 26 (.ireturn) 1 27 := by decide +kernel
def fX3_narrowed (r : Nat) (a1 : Int32) (h : AH) : Option (Int32 × AH) := (if (h r 1) = 0 then (some ((Int8.toInt32 (Int32.toInt8 a1)), h)) else (if (h r 1) = (1 : Int32) then (some ((Int16.toInt32 (Int32.toInt16 a1)), h)) else (some (a1, h))))
set_option maxHeartbeats 4000000 in
set_option maxRecDepth 4000 in
theorem uX3_narrowed {l : Launch} {X : WX} {r : Nat} {a1 : Int32} {h h' : AH} {v : Int32} (kr : kd r = 3) (hf : fX3_narrowed r a1 h = some (v, h')) : Does l X 1 yX3_narrowed cX3_narrowed 2 (some .int) [.ref (X.1 + r), .int a1] h (eI v) h' := by
  refine Does.of (enc := eI) (o := fX3_narrowed r a1 h) (lv := [(0, .ref (X.1 + r)), (1, .int a1)]) (by decide) (Nat.le_of_ble_eq_true rfl) rfl hf (fun K hl hK => ?_)
  subst hl
  unfold fX3_narrowed
  refine J_aload_n hK dX3_narrowed_0 0 rfl ?_
  refine gF_X3_15 hK dX3_narrowed_1 kr ?_
  refine J_if_ne (tgt := 12) hK dX3_narrowed_4 (by decide) ?_ ?_
  · refine J_iload_n hK dX3_narrowed_7 1 rfl ?_
    refine J_i2b hK dX3_narrowed_8 ?_
    refine J_goto (len := 0) (tgt := 26) hK dX3_narrowed_9 (by decide) ?_
    exact J_iret hK dX3_narrowed_26
  · refine J_aload_n hK dX3_narrowed_12 0 rfl ?_
    refine gF_X3_15 hK dX3_narrowed_13 kr ?_
    refine J_iconst hK dX3_narrowed_16 ci_1 ?_
    refine J_icmp_ne (tgt := 25) hK dX3_narrowed_17 (by decide) ?_ ?_
    · refine J_iload_n hK dX3_narrowed_20 1 rfl ?_
      refine J_i2s hK dX3_narrowed_21 ?_
      refine J_goto (len := 0) (tgt := 26) hK dX3_narrowed_22 (by decide) ?_
      exact J_iret hK dX3_narrowed_26
    · refine J_iload_n hK dX3_narrowed_25 1 rfl ?_
      exact J_iret hK dX3_narrowed_26
