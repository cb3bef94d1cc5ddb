section JR
variable {α : Type} {K : MC} {X : WX} {nL : Nat} {Z : Option Value → AH → State → Prop} {enc : α → Option Value} {own : String} {cc : ByteArray} {ret : Option FieldType} {kk pc pc' : Nat} {lv : List (Nat × Value)} {st : List Value} {h : AH} {o : Option (α × AH)}
theorem J_iadd {x y : Int32} (hK : Ok K X own cc nL ret kk) (hd : DD cc pc .iadd 1 pc') (k : J K X nL Z enc pc' lv (.int (x + y) :: st) h o) : J K X nL Z enc pc lv (.int y :: .int x :: st) h o := by
  obtain ⟨p, l, e, R, s, m, args, below, meth, c, cells, slots⟩ := K
  obtain ⟨hx, hb, hml, hown, hts, hlk, hrt, hE, hfr, hlo, hce, hsl⟩ := hK
  obtain ⟨hd, rfl⟩ := hd
  intro r h' ho H locs ls hH hS hl
  exact lv_iadd hx hb hd (k r h' ho H locs ls hH hS hl)
theorem J_isub {x y : Int32} (hK : Ok K X own cc nL ret kk) (hd : DD cc pc .isub 1 pc') (k : J K X nL Z enc pc' lv (.int (x - y) :: st) h o) : J K X nL Z enc pc lv (.int y :: .int x :: st) h o := by
  obtain ⟨p, l, e, R, s, m, args, below, meth, c, cells, slots⟩ := K
  obtain ⟨hx, hb, hml, hown, hts, hlk, hrt, hE, hfr, hlo, hce, hsl⟩ := hK
  obtain ⟨hd, rfl⟩ := hd
  intro r h' ho H locs ls hH hS hl
  exact lv_isub hx hb hd (k r h' ho H locs ls hH hS hl)
theorem J_imul {x y : Int32} (hK : Ok K X own cc nL ret kk) (hd : DD cc pc .imul 1 pc') (k : J K X nL Z enc pc' lv (.int (x * y) :: st) h o) : J K X nL Z enc pc lv (.int y :: .int x :: st) h o := by
  obtain ⟨p, l, e, R, s, m, args, below, meth, c, cells, slots⟩ := K
  obtain ⟨hx, hb, hml, hown, hts, hlk, hrt, hE, hfr, hlo, hce, hsl⟩ := hK
  obtain ⟨hd, rfl⟩ := hd
  intro r h' ho H locs ls hH hS hl
  exact lv_imul hx hb hd (k r h' ho H locs ls hH hS hl)
theorem J_iand {x y : Int32} (hK : Ok K X own cc nL ret kk) (hd : DD cc pc .iand 1 pc') (k : J K X nL Z enc pc' lv (.int (x &&& y) :: st) h o) : J K X nL Z enc pc lv (.int y :: .int x :: st) h o := by
  obtain ⟨p, l, e, R, s, m, args, below, meth, c, cells, slots⟩ := K
  obtain ⟨hx, hb, hml, hown, hts, hlk, hrt, hE, hfr, hlo, hce, hsl⟩ := hK
  obtain ⟨hd, rfl⟩ := hd
  intro r h' ho H locs ls hH hS hl
  exact lv_iand hx hb hd (k r h' ho H locs ls hH hS hl)
theorem J_ior {x y : Int32} (hK : Ok K X own cc nL ret kk) (hd : DD cc pc .ior 1 pc') (k : J K X nL Z enc pc' lv (.int (x ||| y) :: st) h o) : J K X nL Z enc pc lv (.int y :: .int x :: st) h o := by
  obtain ⟨p, l, e, R, s, m, args, below, meth, c, cells, slots⟩ := K
  obtain ⟨hx, hb, hml, hown, hts, hlk, hrt, hE, hfr, hlo, hce, hsl⟩ := hK
  obtain ⟨hd, rfl⟩ := hd
  intro r h' ho H locs ls hH hS hl
  exact lv_ior hx hb hd (k r h' ho H locs ls hH hS hl)
theorem J_ixor {x y : Int32} (hK : Ok K X own cc nL ret kk) (hd : DD cc pc .ixor 1 pc') (k : J K X nL Z enc pc' lv (.int (x ^^^ y) :: st) h o) : J K X nL Z enc pc lv (.int y :: .int x :: st) h o := by
  obtain ⟨p, l, e, R, s, m, args, below, meth, c, cells, slots⟩ := K
  obtain ⟨hx, hb, hml, hown, hts, hlk, hrt, hE, hfr, hlo, hce, hsl⟩ := hK
  obtain ⟨hd, rfl⟩ := hd
  intro r h' ho H locs ls hH hS hl
  exact lv_ixor hx hb hd (k r h' ho H locs ls hH hS hl)
theorem J_ishl {x y : Int32} (hK : Ok K X own cc nL ret kk) (hd : DD cc pc .ishl 1 pc') (k : J K X nL Z enc pc' lv (.int (x <<< (y &&& 31)) :: st) h o) : J K X nL Z enc pc lv (.int y :: .int x :: st) h o := by
  obtain ⟨p, l, e, R, s, m, args, below, meth, c, cells, slots⟩ := K
  obtain ⟨hx, hb, hml, hown, hts, hlk, hrt, hE, hfr, hlo, hce, hsl⟩ := hK
  obtain ⟨hd, rfl⟩ := hd
  intro r h' ho H locs ls hH hS hl
  exact lv_ishl hx hb hd (k r h' ho H locs ls hH hS hl)
theorem J_ishr {x y : Int32} (hK : Ok K X own cc nL ret kk) (hd : DD cc pc .ishr 1 pc') (k : J K X nL Z enc pc' lv (.int (x >>> (y &&& 31)) :: st) h o) : J K X nL Z enc pc lv (.int y :: .int x :: st) h o := by
  obtain ⟨p, l, e, R, s, m, args, below, meth, c, cells, slots⟩ := K
  obtain ⟨hx, hb, hml, hown, hts, hlk, hrt, hE, hfr, hlo, hce, hsl⟩ := hK
  obtain ⟨hd, rfl⟩ := hd
  intro r h' ho H locs ls hH hS hl
  exact lv_ishr hx hb hd (k r h' ho H locs ls hH hS hl)
theorem J_ineg {x : Int32} (hK : Ok K X own cc nL ret kk) (hd : DD cc pc .ineg 1 pc') (k : J K X nL Z enc pc' lv (.int (-x) :: st) h o) : J K X nL Z enc pc lv (.int x :: st) h o := by
  obtain ⟨p, l, e, R, s, m, args, below, meth, c, cells, slots⟩ := K
  obtain ⟨hx, hb, hml, hown, hts, hlk, hrt, hE, hfr, hlo, hce, hsl⟩ := hK
  obtain ⟨hd, rfl⟩ := hd
  intro r h' ho H locs ls hH hS hl
  exact lv_ineg hx hb hd (k r h' ho H locs ls hH hS hl)
theorem J_iushr {x y : Int32} (hK : Ok K X own cc nL ret kk) (hd : DD cc pc .iushr 1 pc') (k : J K X nL Z enc pc' lv (.int ((x.toUInt32 >>> (y.toUInt32 &&& Int32.toUInt32 31)).toInt32) :: st) h o) : J K X nL Z enc pc lv (.int y :: .int x :: st) h o := by
  obtain ⟨p, l, e, R, s, m, args, below, meth, c, cells, slots⟩ := K
  obtain ⟨hx, hb, hml, hown, hts, hlk, hrt, hE, hfr, hlo, hce, hsl⟩ := hK
  obtain ⟨hd, rfl⟩ := hd
  intro r h' ho H locs ls hH hS hl
  exact lv_iushr hx hb hd rfl (k r h' ho H locs ls hH hS hl)
theorem J_lmul {x y : Int64} (hK : Ok K X own cc nL ret kk) (hd : DD cc pc .lmul 1 pc') (k : J K X nL Z enc pc' lv (.long (x * y) :: st) h o) : J K X nL Z enc pc lv (.long y :: .long x :: st) h o := by
  obtain ⟨p, l, e, R, s, m, args, below, meth, c, cells, slots⟩ := K
  obtain ⟨hx, hb, hml, hown, hts, hlk, hrt, hE, hfr, hlo, hce, hsl⟩ := hK
  obtain ⟨hd, rfl⟩ := hd
  intro r h' ho H locs ls hH hS hl
  exact lv_lmul hx hb hd (k r h' ho H locs ls hH hS hl)
theorem J_lcmp {x y : Int64} (hK : Ok K X own cc nL ret kk) (hd : DD cc pc .lcmp 1 pc') (k : J K X nL Z enc pc' lv (.int (lg_cmp x y) :: st) h o) : J K X nL Z enc pc lv (.long y :: .long x :: st) h o := by
  obtain ⟨p, l, e, R, s, m, args, below, meth, c, cells, slots⟩ := K
  obtain ⟨hx, hb, hml, hown, hts, hlk, hrt, hE, hfr, hlo, hce, hsl⟩ := hK
  obtain ⟨hd, rfl⟩ := hd
  intro r h' ho H locs ls hH hS hl
  exact W.lcmp hx hb hd (k r h' ho H locs ls hH hS hl)
theorem J_i2l {x : Int32} (hK : Ok K X own cc nL ret kk) (hd : DD cc pc .i2l 1 pc') (k : J K X nL Z enc pc' lv (.long x.toInt64 :: st) h o) : J K X nL Z enc pc lv (.int x :: st) h o := by
  obtain ⟨p, l, e, R, s, m, args, below, meth, c, cells, slots⟩ := K
  obtain ⟨hx, hb, hml, hown, hts, hlk, hrt, hE, hfr, hlo, hce, hsl⟩ := hK
  obtain ⟨hd, rfl⟩ := hd
  intro r h' ho H locs ls hH hS hl
  exact lv_i2l hx hb hd rfl (k r h' ho H locs ls hH hS hl)
theorem J_l2i {x : Int64} (hK : Ok K X own cc nL ret kk) (hd : DD cc pc .l2i 1 pc') (k : J K X nL Z enc pc' lv (.int x.toInt32 :: st) h o) : J K X nL Z enc pc lv (.long x :: st) h o := by
  obtain ⟨p, l, e, R, s, m, args, below, meth, c, cells, slots⟩ := K
  obtain ⟨hx, hb, hml, hown, hts, hlk, hrt, hE, hfr, hlo, hce, hsl⟩ := hK
  obtain ⟨hd, rfl⟩ := hd
  intro r h' ho H locs ls hH hS hl
  exact lv_l2i hx hb hd rfl (k r h' ho H locs ls hH hS hl)
theorem J_i2b {x : Int32} (hK : Ok K X own cc nL ret kk) (hd : DD cc pc .i2b 1 pc') (k : J K X nL Z enc pc' lv (.int x.toInt8.toInt32 :: st) h o) : J K X nL Z enc pc lv (.int x :: st) h o := by
  obtain ⟨p, l, e, R, s, m, args, below, meth, c, cells, slots⟩ := K
  obtain ⟨hx, hb, hml, hown, hts, hlk, hrt, hE, hfr, hlo, hce, hsl⟩ := hK
  obtain ⟨hd, rfl⟩ := hd
  intro r h' ho H locs ls hH hS hl
  exact lv_i2b hx hb hd rfl (k r h' ho H locs ls hH hS hl)
theorem J_i2s {x : Int32} (hK : Ok K X own cc nL ret kk) (hd : DD cc pc .i2s 1 pc') (k : J K X nL Z enc pc' lv (.int x.toInt16.toInt32 :: st) h o) : J K X nL Z enc pc lv (.int x :: st) h o := by
  obtain ⟨p, l, e, R, s, m, args, below, meth, c, cells, slots⟩ := K
  obtain ⟨hx, hb, hml, hown, hts, hlk, hrt, hE, hfr, hlo, hce, hsl⟩ := hK
  obtain ⟨hd, rfl⟩ := hd
  intro r h' ho H locs ls hH hS hl
  exact lv_i2s hx hb hd rfl (k r h' ho H locs ls hH hS hl)
theorem J_iconst {n : Int} {v : Int32} (hK : Ok K X own cc nL ret kk) (hd : DD cc pc (.iconst n) 1 pc') (hv : Int32.ofInt n = v) (k : J K X nL Z enc pc' lv (.int v :: st) h o) : J K X nL Z enc pc lv st h o := by
  obtain ⟨p, l, e, R, s, m, args, below, meth, c, cells, slots⟩ := K
  obtain ⟨hx, hb, hml, hown, hts, hlk, hrt, hE, hfr, hlo, hce, hsl⟩ := hK
  obtain ⟨hd, rfl⟩ := hd
  intro r h' ho H locs ls hH hS hl
  exact lv_iconst hx hb hd hv (k r h' ho H locs ls hH hS hl)
theorem J_bipush {n : Int} {v : Int32} (hK : Ok K X own cc nL ret kk) (hd : DD cc pc (.bipush n) 2 pc') (hv : (Int8.ofInt n).toInt32 = v) (k : J K X nL Z enc pc' lv (.int v :: st) h o) : J K X nL Z enc pc lv st h o := by
  obtain ⟨p, l, e, R, s, m, args, below, meth, c, cells, slots⟩ := K
  obtain ⟨hx, hb, hml, hown, hts, hlk, hrt, hE, hfr, hlo, hce, hsl⟩ := hK
  obtain ⟨hd, rfl⟩ := hd
  intro r h' ho H locs ls hH hS hl
  exact lv_bipush hx hb hd hv (k r h' ho H locs ls hH hS hl)
theorem J_sipush {n : Int} {v : Int32} (hK : Ok K X own cc nL ret kk) (hd : DD cc pc (.sipush n) 3 pc') (hv : (Int16.ofInt n).toInt32 = v) (k : J K X nL Z enc pc' lv (.int v :: st) h o) : J K X nL Z enc pc lv st h o := by
  obtain ⟨p, l, e, R, s, m, args, below, meth, c, cells, slots⟩ := K
  obtain ⟨hx, hb, hml, hown, hts, hlk, hrt, hE, hfr, hlo, hce, hsl⟩ := hK
  obtain ⟨hd, rfl⟩ := hd
  intro r h' ho H locs ls hH hS hl
  exact lv_sipush hx hb hd hv (k r h' ho H locs ls hH hS hl)
theorem J_lconst {n : Fin 2} {v : Int64} (hK : Ok K X own cc nL ret kk) (hd : DD cc pc (.lconst n) 1 pc') (hv : Int64.ofNat (n : Nat) = v) (k : J K X nL Z enc pc' lv (.long v :: st) h o) : J K X nL Z enc pc lv st h o := by
  obtain ⟨p, l, e, R, s, m, args, below, meth, c, cells, slots⟩ := K
  obtain ⟨hx, hb, hml, hown, hts, hlk, hrt, hE, hfr, hlo, hce, hsl⟩ := hK
  obtain ⟨hd, rfl⟩ := hd
  intro r h' ho H locs ls hH hS hl
  exact lv_lconst hx hb hd hv (k r h' ho H locs ls hH hS hl)
theorem J_ldc {index : Nat} {v : Int32} (hK : Ok K X own cc nL ret kk) (hd : DD cc pc (.ldc index) 2 pc') (hv : Cond.constant own index v ∈ lw_tbl) (k : J K X nL Z enc pc' lv (.int v :: st) h o) : J K X nL Z enc pc lv st h o := by
  obtain ⟨p, l, e, R, s, m, args, below, meth, c, cells, slots⟩ := K
  obtain ⟨hx, hb, hml, hown, hts, hlk, hrt, hE, hfr, hlo, hce, hsl⟩ := hK
  obtain ⟨hd, rfl⟩ := hd
  intro r h' ho H locs ls hH hS hl
  exact lv_ldc hx hb hown (hts _ (lw_in hv rfl)) hd (k r h' ho H locs ls hH hS hl)
theorem J_ldcw {index : Nat} {v : Int32} (hK : Ok K X own cc nL ret kk) (hd : DD cc pc (.ldc_w index) 3 pc') (hv : Cond.constant own index v ∈ lw_tbl) (k : J K X nL Z enc pc' lv (.int v :: st) h o) : J K X nL Z enc pc lv st h o := by
  obtain ⟨p, l, e, R, s, m, args, below, meth, c, cells, slots⟩ := K
  obtain ⟨hx, hb, hml, hown, hts, hlk, hrt, hE, hfr, hlo, hce, hsl⟩ := hK
  obtain ⟨hd, rfl⟩ := hd
  intro r h' ho H locs ls hH hS hl
  exact lv_ldcw hx hb hown (hts _ (lw_in hv rfl)) hd (k r h' ho H locs ls hH hS hl)
theorem J_ldc2 {index : Nat} {v : Int64} (hK : Ok K X own cc nL ret kk) (hd : DD cc pc (.ldc2_w index) 3 pc') (hv : Cond.constantLong own index v ∈ lw_tbl) (k : J K X nL Z enc pc' lv (.long v :: st) h o) : J K X nL Z enc pc lv st h o := by
  obtain ⟨p, l, e, R, s, m, args, below, meth, c, cells, slots⟩ := K
  obtain ⟨hx, hb, hml, hown, hts, hlk, hrt, hE, hfr, hlo, hce, hsl⟩ := hK
  obtain ⟨hd, rfl⟩ := hd
  intro r h' ho H locs ls hH hS hl
  exact lv_ldc2 hx hb hown (hts _ (lw_in hv rfl)) hd (k r h' ho H locs ls hH hS hl)
theorem J_dup {v : Value} (hK : Ok K X own cc nL ret kk) (hd : DD cc pc .dup 1 pc') (hv : v.category = 1) (k : J K X nL Z enc pc' lv (v :: v :: st) h o) : J K X nL Z enc pc lv (v :: st) h o := by
  obtain ⟨p, l, e, R, s, m, args, below, meth, c, cells, slots⟩ := K
  obtain ⟨hx, hb, hml, hown, hts, hlk, hrt, hE, hfr, hlo, hce, hsl⟩ := hK
  obtain ⟨hd, rfl⟩ := hd
  intro r h' ho H locs ls hH hS hl
  exact lv_dup hx hb hd hv (k r h' ho H locs ls hH hS hl)
theorem J_dup2 {v w : Value} (hK : Ok K X own cc nL ret kk) (hd : DD cc pc .dup2 1 pc') (hv : v.category = 1) (hw : w.category = 1) (k : J K X nL Z enc pc' lv (v :: w :: v :: w :: st) h o) : J K X nL Z enc pc lv (v :: w :: st) h o := by
  obtain ⟨p, l, e, R, s, m, args, below, meth, c, cells, slots⟩ := K
  obtain ⟨hx, hb, hml, hown, hts, hlk, hrt, hE, hfr, hlo, hce, hsl⟩ := hK
  obtain ⟨hd, rfl⟩ := hd
  intro r h' ho H locs ls hH hS hl
  exact lv_dup2_11 hx hb hd hv hw (k r h' ho H locs ls hH hS hl)
theorem J_pop {v : Value} (hK : Ok K X own cc nL ret kk) (hd : DD cc pc .pop 1 pc') (hv : v.category = 1) (k : J K X nL Z enc pc' lv st h o) : J K X nL Z enc pc lv (v :: st) h o := by
  obtain ⟨p, l, e, R, s, m, args, below, meth, c, cells, slots⟩ := K
  obtain ⟨hx, hb, hml, hown, hts, hlk, hrt, hE, hfr, hlo, hce, hsl⟩ := hK
  obtain ⟨hd, rfl⟩ := hd
  intro r h' ho H locs ls hH hS hl
  exact lv_pop hx hb hd hv (k r h' ho H locs ls hH hS hl)
theorem J_iload {i : Nat} {x : Int32} (hK : Ok K X own cc nL ret kk) (hd : DD cc pc (.iload i) 2 pc') (j : Nat) (hj : lv[j]? = some (i, .int x)) (k : J K X nL Z enc pc' lv (.int x :: st) h o) : J K X nL Z enc pc lv st h o := by
  obtain ⟨p, l, e, R, s, m, args, below, meth, c, cells, slots⟩ := K
  obtain ⟨hx, hb, hml, hown, hts, hlk, hrt, hE, hfr, hlo, hce, hsl⟩ := hK
  obtain ⟨hd, rfl⟩ := hd
  intro r h' ho H locs ls hH hS hl
  exact lv_iload hx hb hd (lv_at hl j hj) (k r h' ho H locs ls hH hS hl)
theorem J_iload_n {i : Fin 4} {x : Int32} (hK : Ok K X own cc nL ret kk) (hd : DD cc pc (.iload_n i) 1 pc') (j : Nat) (hj : lv[j]? = some ((i : Nat), .int x)) (k : J K X nL Z enc pc' lv (.int x :: st) h o) : J K X nL Z enc pc lv st h o := by
  obtain ⟨p, l, e, R, s, m, args, below, meth, c, cells, slots⟩ := K
  obtain ⟨hx, hb, hml, hown, hts, hlk, hrt, hE, hfr, hlo, hce, hsl⟩ := hK
  obtain ⟨hd, rfl⟩ := hd
  intro r h' ho H locs ls hH hS hl
  exact lv_iload_n hx hb hd rfl (lv_at hl j hj) (k r h' ho H locs ls hH hS hl)
theorem J_lload {i : Nat} {x : Int64} (hK : Ok K X own cc nL ret kk) (hd : DD cc pc (.lload i) 2 pc') (j : Nat) (hj : lv[j]? = some (i, .long x)) (k : J K X nL Z enc pc' lv (.long x :: st) h o) : J K X nL Z enc pc lv st h o := by
  obtain ⟨p, l, e, R, s, m, args, below, meth, c, cells, slots⟩ := K
  obtain ⟨hx, hb, hml, hown, hts, hlk, hrt, hE, hfr, hlo, hce, hsl⟩ := hK
  obtain ⟨hd, rfl⟩ := hd
  intro r h' ho H locs ls hH hS hl
  exact lv_lload hx hb hd (lv_at hl j hj) (k r h' ho H locs ls hH hS hl)
theorem J_lload_n {i : Fin 4} {x : Int64} (hK : Ok K X own cc nL ret kk) (hd : DD cc pc (.lload_n i) 1 pc') (j : Nat) (hj : lv[j]? = some ((i : Nat), .long x)) (k : J K X nL Z enc pc' lv (.long x :: st) h o) : J K X nL Z enc pc lv st h o := by
  obtain ⟨p, l, e, R, s, m, args, below, meth, c, cells, slots⟩ := K
  obtain ⟨hx, hb, hml, hown, hts, hlk, hrt, hE, hfr, hlo, hce, hsl⟩ := hK
  obtain ⟨hd, rfl⟩ := hd
  intro r h' ho H locs ls hH hS hl
  exact lv_lload_n hx hb hd rfl (lv_at hl j hj) (k r h' ho H locs ls hH hS hl)
theorem J_aload {i : Nat} {x : Nat} (hK : Ok K X own cc nL ret kk) (hd : DD cc pc (.aload i) 2 pc') (j : Nat) (hj : lv[j]? = some (i, .ref x)) (k : J K X nL Z enc pc' lv (.ref x :: st) h o) : J K X nL Z enc pc lv st h o := by
  obtain ⟨p, l, e, R, s, m, args, below, meth, c, cells, slots⟩ := K
  obtain ⟨hx, hb, hml, hown, hts, hlk, hrt, hE, hfr, hlo, hce, hsl⟩ := hK
  obtain ⟨hd, rfl⟩ := hd
  intro r h' ho H locs ls hH hS hl
  exact lv_aload hx hb hd (lv_at hl j hj) (k r h' ho H locs ls hH hS hl)
theorem J_aload_n {i : Fin 4} {x : Nat} (hK : Ok K X own cc nL ret kk) (hd : DD cc pc (.aload_n i) 1 pc') (j : Nat) (hj : lv[j]? = some ((i : Nat), .ref x)) (k : J K X nL Z enc pc' lv (.ref x :: st) h o) : J K X nL Z enc pc lv st h o := by
  obtain ⟨p, l, e, R, s, m, args, below, meth, c, cells, slots⟩ := K
  obtain ⟨hx, hb, hml, hown, hts, hlk, hrt, hE, hfr, hlo, hce, hsl⟩ := hK
  obtain ⟨hd, rfl⟩ := hd
  intro r h' ho H locs ls hH hS hl
  exact lv_aload_n hx hb hd rfl (lv_at hl j hj) (k r h' ho H locs ls hH hS hl)
theorem J_istore {i : Nat} {x : Int32} {lw : List (Nat × Value)} (hK : Ok K X own cc nL ret kk) (hd : DD cc pc (.istore i) 2 pc') (hn : i < nL) (hw : lv.filter (fun q => !(q.1 == i) && !(q.1 + 1 == i && q.2.category == 2)) = lw) (k : J K X nL Z enc pc' ((i, Value.int x) :: lw) st h o) : J K X nL Z enc pc lv (.int x :: st) h o := by
  obtain ⟨p, l, e, R, s, m, args, below, meth, c, cells, slots⟩ := K
  obtain ⟨hx, hb, hml, hown, hts, hlk, hrt, hE, hfr, hlo, hce, hsl⟩ := hK
  obtain ⟨hd, rfl⟩ := hd
  intro r h' ho H locs ls hH hS hl
  exact lv_istore hx hb hd hl hn (by rw [hw]) (fun ls hl => k r h' ho H locs ls hH hS hl)
theorem J_istoreV {i : Nat} {x : Int32} {lw : List (Nat × Value)} {f : Int32 → Option (α × AH)} (hK : Ok K X own cc nL ret kk) (hd : DD cc pc (.istore i) 2 pc') (hn : i < nL) (hw : lv.filter (fun q => !(q.1 == i) && !(q.1 + 1 == i && q.2.category == 2)) = lw) (k : ∀ z : Int32, J K X nL Z enc pc' ((i, Value.int z) :: lw) st h (f z)) : J K X nL Z enc pc lv (.int x :: st) h (vl x f) := J_istore hK hd hn hw (k x)
theorem J_istore_n {i : Fin 4} {x : Int32} {lw : List (Nat × Value)} (hK : Ok K X own cc nL ret kk) (hd : DD cc pc (.istore_n i) 1 pc') {n : Nat} (hi : (i : Nat) = n) (hn : n < nL) (hw : lv.filter (fun q => !(q.1 == n) && !(q.1 + 1 == n && q.2.category == 2)) = lw) (k : J K X nL Z enc pc' ((n, Value.int x) :: lw) st h o) : J K X nL Z enc pc lv (.int x :: st) h o := by
  obtain ⟨p, l, e, R, s, m, args, below, meth, c, cells, slots⟩ := K
  obtain ⟨hx, hb, hml, hown, hts, hlk, hrt, hE, hfr, hlo, hce, hsl⟩ := hK
  obtain ⟨hd, rfl⟩ := hd
  intro r h' ho H locs ls hH hS hl
  exact lv_istore_n hx hb hd hi hl hn (by rw [hw]) (fun ls hl => k r h' ho H locs ls hH hS hl)
theorem J_istoreV_n {i : Fin 4} {x : Int32} {lw : List (Nat × Value)} {f : Int32 → Option (α × AH)} (hK : Ok K X own cc nL ret kk) (hd : DD cc pc (.istore_n i) 1 pc') {n : Nat} (hi : (i : Nat) = n) (hn : n < nL) (hw : lv.filter (fun q => !(q.1 == n) && !(q.1 + 1 == n && q.2.category == 2)) = lw) (k : ∀ z : Int32, J K X nL Z enc pc' ((n, Value.int z) :: lw) st h (f z)) : J K X nL Z enc pc lv (.int x :: st) h (vl x f) := J_istore_n hK hd hi hn hw (k x)
theorem J_astore {i : Nat} {x : Nat} {lw : List (Nat × Value)} (hK : Ok K X own cc nL ret kk) (hd : DD cc pc (.astore i) 2 pc') (hn : i < nL) (hw : lv.filter (fun q => !(q.1 == i) && !(q.1 + 1 == i && q.2.category == 2)) = lw) (k : J K X nL Z enc pc' ((i, Value.ref x) :: lw) st h o) : J K X nL Z enc pc lv (.ref x :: st) h o := by
  obtain ⟨p, l, e, R, s, m, args, below, meth, c, cells, slots⟩ := K
  obtain ⟨hx, hb, hml, hown, hts, hlk, hrt, hE, hfr, hlo, hce, hsl⟩ := hK
  obtain ⟨hd, rfl⟩ := hd
  intro r h' ho H locs ls hH hS hl
  exact lv_astore hx hb hd hl hn (by rw [hw]) (fun ls hl => k r h' ho H locs ls hH hS hl)
theorem J_astore_n {i : Fin 4} {x : Nat} {lw : List (Nat × Value)} (hK : Ok K X own cc nL ret kk) (hd : DD cc pc (.astore_n i) 1 pc') {n : Nat} (hi : (i : Nat) = n) (hn : n < nL) (hw : lv.filter (fun q => !(q.1 == n) && !(q.1 + 1 == n && q.2.category == 2)) = lw) (k : J K X nL Z enc pc' ((n, Value.ref x) :: lw) st h o) : J K X nL Z enc pc lv (.ref x :: st) h o := by
  obtain ⟨p, l, e, R, s, m, args, below, meth, c, cells, slots⟩ := K
  obtain ⟨hx, hb, hml, hown, hts, hlk, hrt, hE, hfr, hlo, hce, hsl⟩ := hK
  obtain ⟨hd, rfl⟩ := hd
  intro r h' ho H locs ls hH hS hl
  exact lv_astore_n hx hb hd hi hl hn (by rw [hw]) (fun ls hl => k r h' ho H locs ls hH hS hl)
theorem J_lstore {i : Nat} {x : Int64} {lw : List (Nat × Value)} (hK : Ok K X own cc nL ret kk) (hd : DD cc pc (.lstore i) 2 pc') (hn : i + 1 < nL) (hw : lv.filter (fun q => !(q.1 == i) && (!(q.1 == i + 1) && !(q.1 + 1 == i && q.2.category == 2))) = lw) (k : J K X nL Z enc pc' ((i, Value.long x) :: lw) st h o) : J K X nL Z enc pc lv (.long x :: st) h o := by
  obtain ⟨p, l, e, R, s, m, args, below, meth, c, cells, slots⟩ := K
  obtain ⟨hx, hb, hml, hown, hts, hlk, hrt, hE, hfr, hlo, hce, hsl⟩ := hK
  obtain ⟨hd, rfl⟩ := hd
  intro r h' ho H locs ls hH hS hl
  exact lv_lstore hx hb hd hl hn (by rw [hw]) (fun ls hl => k r h' ho H locs ls hH hS hl)
theorem J_lstoreV {i : Nat} {x : Int64} {lw : List (Nat × Value)} {f : Int64 → Option (α × AH)} (hK : Ok K X own cc nL ret kk) (hd : DD cc pc (.lstore i) 2 pc') (hn : i + 1 < nL) (hw : lv.filter (fun q => !(q.1 == i) && (!(q.1 == i + 1) && !(q.1 + 1 == i && q.2.category == 2))) = lw) (k : ∀ z : Int64, J K X nL Z enc pc' ((i, Value.long z) :: lw) st h (f z)) : J K X nL Z enc pc lv (.long x :: st) h (vl x f) := J_lstore hK hd hn hw (k x)
theorem J_lstore_n {i : Fin 4} {x : Int64} {lw : List (Nat × Value)} (hK : Ok K X own cc nL ret kk) (hd : DD cc pc (.lstore_n i) 1 pc') {n : Nat} (hi : (i : Nat) = n) (hn : n + 1 < nL) (hw : lv.filter (fun q => !(q.1 == n) && (!(q.1 == n + 1) && !(q.1 + 1 == n && q.2.category == 2))) = lw) (k : J K X nL Z enc pc' ((n, Value.long x) :: lw) st h o) : J K X nL Z enc pc lv (.long x :: st) h o := by
  obtain ⟨p, l, e, R, s, m, args, below, meth, c, cells, slots⟩ := K
  obtain ⟨hx, hb, hml, hown, hts, hlk, hrt, hE, hfr, hlo, hce, hsl⟩ := hK
  obtain ⟨hd, rfl⟩ := hd
  intro r h' ho H locs ls hH hS hl
  exact lv_lstore_n hx hb hd hi hl hn (by rw [hw]) (fun ls hl => k r h' ho H locs ls hH hS hl)
theorem J_lstoreV_n {i : Fin 4} {x : Int64} {lw : List (Nat × Value)} {f : Int64 → Option (α × AH)} (hK : Ok K X own cc nL ret kk) (hd : DD cc pc (.lstore_n i) 1 pc') {n : Nat} (hi : (i : Nat) = n) (hn : n + 1 < nL) (hw : lv.filter (fun q => !(q.1 == n) && (!(q.1 == n + 1) && !(q.1 + 1 == n && q.2.category == 2))) = lw) (k : ∀ z : Int64, J K X nL Z enc pc' ((n, Value.long z) :: lw) st h (f z)) : J K X nL Z enc pc lv (.long x :: st) h (vl x f) := J_lstore_n hK hd hi hn hw (k x)
theorem J_iinc {i : Nat} {n : Int} {x v : Int32} {lw : List (Nat × Value)} {f : Int32 → Option (α × AH)} (hK : Ok K X own cc nL ret kk) (hd : DD cc pc (.iinc i n) 3 pc') (j : Nat) (hj : lv[j]? = some (i, .int x)) (hn : i < nL) (hv : Int32.ofInt n = v) (hw : lv.filter (fun q => !(q.1 == i) && !(q.1 + 1 == i && q.2.category == 2)) = lw) (k : ∀ z : Int32, J K X nL Z enc pc' ((i, Value.int z) :: lw) st h (f z)) : J K X nL Z enc pc lv st h (vl (x + v) f) := by
  obtain ⟨p, l, e, R, s, m, args, below, meth, c, cells, slots⟩ := K
  obtain ⟨hx, hb, hml, hown, hts, hlk, hrt, hE, hfr, hlo, hce, hsl⟩ := hK
  obtain ⟨hd, rfl⟩ := hd
  intro r h' ho H locs ls hH hS hl
  exact lv_iinc hx hb hd hl hj (by rw [hv]) hn (by rw [hw]) (fun ls hl => k (x + v) r h' ho H locs ls hH hS hl)
theorem J_goto {off : Int} {tgt len : Nat} (hK : Ok K X own cc nL ret kk) (hd : DD cc pc (.goto off) 3 pc') (ht : DT pc off tgt) (k : J K X nL Z enc tgt lv st h o) : J K X nL Z enc pc lv st h o := by
  obtain ⟨p, l, e, R, s, m, args, below, meth, c, cells, slots⟩ := K
  obtain ⟨hx, hb, hml, hown, hts, hlk, hrt, hE, hfr, hlo, hce, hsl⟩ := hK
  obtain ⟨hd, rfl⟩ := hd
  intro r h' ho H locs ls hH hS hl
  exact lv_goto hx hb hd ht (k r h' ho H locs ls hH hS hl)
theorem J_if_eq {x : Int32} {off : Int} {tgt : Nat} {o1 o2 : Option (α × AH)} (hK : Ok K X own cc nL ret kk) (hd : DD cc pc (.ifCond .eq off) 3 pc') (ht : DT pc off tgt) (k1 : J K X nL Z enc tgt lv st h o1) (k2 : J K X nL Z enc pc' lv st h o2) : J K X nL Z enc pc lv (.int x :: st) h (if x = 0 then o1 else o2) := by
  obtain ⟨p, l, e, R, s, m, args, below, meth, c, cells, slots⟩ := K
  obtain ⟨hx, hb, hml, hown, hts, hlk, hrt, hE, hfr, hlo, hce, hsl⟩ := hK
  obtain ⟨hd, rfl⟩ := hd
  intro r h' ho H locs ls hH hS hl
  exact lv_if_eq hx hb hd ht (fun q => k1 r h' (by rw [if_pos q] at ho; exact ho) H locs ls hH hS hl) (fun q => k2 r h' (by rw [if_neg q] at ho; exact ho) H locs ls hH hS hl)
theorem J_if_ne {x : Int32} {off : Int} {tgt : Nat} {o1 o2 : Option (α × AH)} (hK : Ok K X own cc nL ret kk) (hd : DD cc pc (.ifCond .ne off) 3 pc') (ht : DT pc off tgt) (k1 : J K X nL Z enc pc' lv st h o1) (k2 : J K X nL Z enc tgt lv st h o2) : J K X nL Z enc pc lv (.int x :: st) h (if x = 0 then o1 else o2) := by
  obtain ⟨p, l, e, R, s, m, args, below, meth, c, cells, slots⟩ := K
  obtain ⟨hx, hb, hml, hown, hts, hlk, hrt, hE, hfr, hlo, hce, hsl⟩ := hK
  obtain ⟨hd, rfl⟩ := hd
  intro r h' ho H locs ls hH hS hl
  exact lv_if_ne hx hb hd ht (fun q => k2 r h' (by rw [if_neg q] at ho; exact ho) H locs ls hH hS hl) (fun q => k1 r h' (by rw [if_pos q] at ho; exact ho) H locs ls hH hS hl)
theorem J_if_lt {x : Int32} {off : Int} {tgt : Nat} {o1 o2 : Option (α × AH)} (hK : Ok K X own cc nL ret kk) (hd : DD cc pc (.ifCond .lt off) 3 pc') (ht : DT pc off tgt) (k1 : J K X nL Z enc tgt lv st h o1) (k2 : J K X nL Z enc pc' lv st h o2) : J K X nL Z enc pc lv (.int x :: st) h (if x < 0 then o1 else o2) := by
  obtain ⟨p, l, e, R, s, m, args, below, meth, c, cells, slots⟩ := K
  obtain ⟨hx, hb, hml, hown, hts, hlk, hrt, hE, hfr, hlo, hce, hsl⟩ := hK
  obtain ⟨hd, rfl⟩ := hd
  intro r h' ho H locs ls hH hS hl
  exact lv_if_lt hx hb hd ht (fun q => k1 r h' (by rw [if_pos q] at ho; exact ho) H locs ls hH hS hl) (fun q => k2 r h' (by rw [if_neg q] at ho; exact ho) H locs ls hH hS hl)
theorem J_if_ge {x : Int32} {off : Int} {tgt : Nat} {o1 o2 : Option (α × AH)} (hK : Ok K X own cc nL ret kk) (hd : DD cc pc (.ifCond .ge off) 3 pc') (ht : DT pc off tgt) (k1 : J K X nL Z enc pc' lv st h o1) (k2 : J K X nL Z enc tgt lv st h o2) : J K X nL Z enc pc lv (.int x :: st) h (if x < 0 then o1 else o2) := by
  obtain ⟨p, l, e, R, s, m, args, below, meth, c, cells, slots⟩ := K
  obtain ⟨hx, hb, hml, hown, hts, hlk, hrt, hE, hfr, hlo, hce, hsl⟩ := hK
  obtain ⟨hd, rfl⟩ := hd
  intro r h' ho H locs ls hH hS hl
  exact lv_if_ge hx hb hd ht (fun q => k2 r h' (by rw [if_neg (Int32.not_lt.mpr q)] at ho; exact ho) H locs ls hH hS hl) (fun q => k1 r h' (by rw [if_pos (Int32.not_le.mp q)] at ho; exact ho) H locs ls hH hS hl)
theorem J_if_gt {x : Int32} {off : Int} {tgt : Nat} {o1 o2 : Option (α × AH)} (hK : Ok K X own cc nL ret kk) (hd : DD cc pc (.ifCond .gt off) 3 pc') (ht : DT pc off tgt) (k1 : J K X nL Z enc tgt lv st h o1) (k2 : J K X nL Z enc pc' lv st h o2) : J K X nL Z enc pc lv (.int x :: st) h (if 0 < x then o1 else o2) := by
  obtain ⟨p, l, e, R, s, m, args, below, meth, c, cells, slots⟩ := K
  obtain ⟨hx, hb, hml, hown, hts, hlk, hrt, hE, hfr, hlo, hce, hsl⟩ := hK
  obtain ⟨hd, rfl⟩ := hd
  intro r h' ho H locs ls hH hS hl
  exact lv_if_gt hx hb hd ht (fun q => k1 r h' (by rw [if_pos q] at ho; exact ho) H locs ls hH hS hl) (fun q => k2 r h' (by rw [if_neg q] at ho; exact ho) H locs ls hH hS hl)
theorem J_if_le {x : Int32} {off : Int} {tgt : Nat} {o1 o2 : Option (α × AH)} (hK : Ok K X own cc nL ret kk) (hd : DD cc pc (.ifCond .le off) 3 pc') (ht : DT pc off tgt) (k1 : J K X nL Z enc pc' lv st h o1) (k2 : J K X nL Z enc tgt lv st h o2) : J K X nL Z enc pc lv (.int x :: st) h (if 0 < x then o1 else o2) := by
  obtain ⟨p, l, e, R, s, m, args, below, meth, c, cells, slots⟩ := K
  obtain ⟨hx, hb, hml, hown, hts, hlk, hrt, hE, hfr, hlo, hce, hsl⟩ := hK
  obtain ⟨hd, rfl⟩ := hd
  intro r h' ho H locs ls hH hS hl
  exact lv_if_le hx hb hd ht (fun q => k2 r h' (by rw [if_neg (Int32.not_lt.mpr q)] at ho; exact ho) H locs ls hH hS hl) (fun q => k1 r h' (by rw [if_pos (Int32.not_le.mp q)] at ho; exact ho) H locs ls hH hS hl)
theorem J_icmp_eq {x y : Int32} {off : Int} {tgt : Nat} {o1 o2 : Option (α × AH)} (hK : Ok K X own cc nL ret kk) (hd : DD cc pc (.if_icmp .eq off) 3 pc') (ht : DT pc off tgt) (k1 : J K X nL Z enc tgt lv st h o1) (k2 : J K X nL Z enc pc' lv st h o2) : J K X nL Z enc pc lv (.int y :: .int x :: st) h (if x = y then o1 else o2) := by
  obtain ⟨p, l, e, R, s, m, args, below, meth, c, cells, slots⟩ := K
  obtain ⟨hx, hb, hml, hown, hts, hlk, hrt, hE, hfr, hlo, hce, hsl⟩ := hK
  obtain ⟨hd, rfl⟩ := hd
  intro r h' ho H locs ls hH hS hl
  exact lv_icmp_eq hx hb hd ht (fun q => k1 r h' (by rw [if_pos q] at ho; exact ho) H locs ls hH hS hl) (fun q => k2 r h' (by rw [if_neg q] at ho; exact ho) H locs ls hH hS hl)
theorem J_icmp_ne {x y : Int32} {off : Int} {tgt : Nat} {o1 o2 : Option (α × AH)} (hK : Ok K X own cc nL ret kk) (hd : DD cc pc (.if_icmp .ne off) 3 pc') (ht : DT pc off tgt) (k1 : J K X nL Z enc pc' lv st h o1) (k2 : J K X nL Z enc tgt lv st h o2) : J K X nL Z enc pc lv (.int y :: .int x :: st) h (if x = y then o1 else o2) := by
  obtain ⟨p, l, e, R, s, m, args, below, meth, c, cells, slots⟩ := K
  obtain ⟨hx, hb, hml, hown, hts, hlk, hrt, hE, hfr, hlo, hce, hsl⟩ := hK
  obtain ⟨hd, rfl⟩ := hd
  intro r h' ho H locs ls hH hS hl
  exact lv_icmp_ne hx hb hd ht (fun q => k2 r h' (by rw [if_neg q] at ho; exact ho) H locs ls hH hS hl) (fun q => k1 r h' (by rw [if_pos q] at ho; exact ho) H locs ls hH hS hl)
theorem J_icmp_lt {x y : Int32} {off : Int} {tgt : Nat} {o1 o2 : Option (α × AH)} (hK : Ok K X own cc nL ret kk) (hd : DD cc pc (.if_icmp .lt off) 3 pc') (ht : DT pc off tgt) (k1 : J K X nL Z enc tgt lv st h o1) (k2 : J K X nL Z enc pc' lv st h o2) : J K X nL Z enc pc lv (.int y :: .int x :: st) h (if x < y then o1 else o2) := by
  obtain ⟨p, l, e, R, s, m, args, below, meth, c, cells, slots⟩ := K
  obtain ⟨hx, hb, hml, hown, hts, hlk, hrt, hE, hfr, hlo, hce, hsl⟩ := hK
  obtain ⟨hd, rfl⟩ := hd
  intro r h' ho H locs ls hH hS hl
  exact lv_icmp_lt hx hb hd ht (fun q => k1 r h' (by rw [if_pos q] at ho; exact ho) H locs ls hH hS hl) (fun q => k2 r h' (by rw [if_neg q] at ho; exact ho) H locs ls hH hS hl)
theorem J_icmp_ge {x y : Int32} {off : Int} {tgt : Nat} {o1 o2 : Option (α × AH)} (hK : Ok K X own cc nL ret kk) (hd : DD cc pc (.if_icmp .ge off) 3 pc') (ht : DT pc off tgt) (k1 : J K X nL Z enc pc' lv st h o1) (k2 : J K X nL Z enc tgt lv st h o2) : J K X nL Z enc pc lv (.int y :: .int x :: st) h (if x < y then o1 else o2) := by
  obtain ⟨p, l, e, R, s, m, args, below, meth, c, cells, slots⟩ := K
  obtain ⟨hx, hb, hml, hown, hts, hlk, hrt, hE, hfr, hlo, hce, hsl⟩ := hK
  obtain ⟨hd, rfl⟩ := hd
  intro r h' ho H locs ls hH hS hl
  exact lv_icmp_ge hx hb hd ht (fun q => k2 r h' (by rw [if_neg (Int32.not_lt.mpr q)] at ho; exact ho) H locs ls hH hS hl) (fun q => k1 r h' (by rw [if_pos (Int32.not_le.mp q)] at ho; exact ho) H locs ls hH hS hl)
theorem J_icmp_gt {x y : Int32} {off : Int} {tgt : Nat} {o1 o2 : Option (α × AH)} (hK : Ok K X own cc nL ret kk) (hd : DD cc pc (.if_icmp .gt off) 3 pc') (ht : DT pc off tgt) (k1 : J K X nL Z enc tgt lv st h o1) (k2 : J K X nL Z enc pc' lv st h o2) : J K X nL Z enc pc lv (.int y :: .int x :: st) h (if y < x then o1 else o2) := by
  obtain ⟨p, l, e, R, s, m, args, below, meth, c, cells, slots⟩ := K
  obtain ⟨hx, hb, hml, hown, hts, hlk, hrt, hE, hfr, hlo, hce, hsl⟩ := hK
  obtain ⟨hd, rfl⟩ := hd
  intro r h' ho H locs ls hH hS hl
  exact lv_icmp_gt hx hb hd ht (fun q => k1 r h' (by rw [if_pos q] at ho; exact ho) H locs ls hH hS hl) (fun q => k2 r h' (by rw [if_neg q] at ho; exact ho) H locs ls hH hS hl)
theorem J_icmp_le {x y : Int32} {off : Int} {tgt : Nat} {o1 o2 : Option (α × AH)} (hK : Ok K X own cc nL ret kk) (hd : DD cc pc (.if_icmp .le off) 3 pc') (ht : DT pc off tgt) (k1 : J K X nL Z enc pc' lv st h o1) (k2 : J K X nL Z enc tgt lv st h o2) : J K X nL Z enc pc lv (.int y :: .int x :: st) h (if y < x then o1 else o2) := by
  obtain ⟨p, l, e, R, s, m, args, below, meth, c, cells, slots⟩ := K
  obtain ⟨hx, hb, hml, hown, hts, hlk, hrt, hE, hfr, hlo, hce, hsl⟩ := hK
  obtain ⟨hd, rfl⟩ := hd
  intro r h' ho H locs ls hH hS hl
  exact lv_icmp_le hx hb hd ht (fun q => k2 r h' (by rw [if_neg (Int32.not_lt.mpr q)] at ho; exact ho) H locs ls hH hS hl) (fun q => k1 r h' (by rw [if_pos (Int32.not_le.mp q)] at ho; exact ho) H locs ls hH hS hl)
theorem J_idiv {x y : Int32} (hK : Ok K X own cc nL ret kk) (hd : DD cc pc .idiv 1 pc') (k : J K X nL Z enc pc' lv (.int (x / y) :: st) h o) : J K X nL Z enc pc lv (.int y :: .int x :: st) h (chk (¬ y = 0) o) := by
  obtain ⟨p, l, e, R, s, m, args, below, meth, c, cells, slots⟩ := K
  obtain ⟨hx, hb, hml, hown, hts, hlk, hrt, hE, hfr, hlo, hce, hsl⟩ := hK
  obtain ⟨hd, rfl⟩ := hd
  intro r h' ho H locs ls hH hS hl
  obtain ⟨hne, ho⟩ := chk_some ho
  exact lv_idiv hx hb hd hne (k r h' ho H locs ls hH hS hl)
theorem J_irem {x y : Int32} (hK : Ok K X own cc nL ret kk) (hd : DD cc pc .irem 1 pc') (k : J K X nL Z enc pc' lv (.int (x - x / y * y) :: st) h o) : J K X nL Z enc pc lv (.int y :: .int x :: st) h (chk (¬ y = 0) o) := by
  obtain ⟨p, l, e, R, s, m, args, below, meth, c, cells, slots⟩ := K
  obtain ⟨hx, hb, hml, hown, hts, hlk, hrt, hE, hfr, hlo, hce, hsl⟩ := hK
  obtain ⟨hd, rfl⟩ := hd
  intro r h' ho H locs ls hH hS hl
  obtain ⟨hne, ho⟩ := chk_some ho
  exact lv_irem hx hb hd hne (k r h' ho H locs ls hH hS hl)
theorem J_lrem {x y : Int64} (hK : Ok K X own cc nL ret kk) (hd : DD cc pc .lrem 1 pc') (k : J K X nL Z enc pc' lv (.long (x - x / y * y) :: st) h o) : J K X nL Z enc pc lv (.long y :: .long x :: st) h (chk (¬ y = 0) o) := by
  obtain ⟨p, l, e, R, s, m, args, below, meth, c, cells, slots⟩ := K
  obtain ⟨hx, hb, hml, hown, hts, hlk, hrt, hE, hfr, hlo, hce, hsl⟩ := hK
  obtain ⟨hd, rfl⟩ := hd
  intro r h' ho H locs ls hH hS hl
  obtain ⟨hne, ho⟩ := chk_some ho
  exact lv_lrem hx hb hd hne (k r h' ho H locs ls hH hS hl)
theorem J_split {c : Prop} [Decidable c] {o1 o2 : Option (α × AH)} (k1 : c → J K X nL Z enc pc lv st h o1) (k2 : ¬ c → J K X nL Z enc pc lv st h o2) : J K X nL Z enc pc lv st h (if c then o1 else o2) := by
  intro r h' ho H locs ls hH hS hl
  by_cases q : c
  · exact k1 q r h' (by rw [if_pos q] at ho; exact ho) H locs ls hH hS hl
  · exact k2 q r h' (by rw [if_neg q] at ho; exact ho) H locs ls hH hS hl
theorem J_sub {lv' : List (Nat × Value)} (ks : List Nat) (hp : lv_pick lv ks = lv') (k : J K X nL Z enc pc lv' st h o) : J K X nL Z enc pc lv st h o := fun r h' ho H locs ls hH hS hl => k r h' ho H locs ls hH hS (lv_sub hl ks hp)
theorem J_chk {c : Prop} [Decidable c] (k : c → J K X nL Z enc pc lv st h o) : J K X nL Z enc pc lv st h (chk c o) := fun r h' ho => k (chk_some ho).1 r h' (chk_some ho).2
theorem J_none : J K X nL Z enc pc lv st h none := fun r h' ho => by cases ho
theorem J_tableIn {x v : Int32} {dflt lo hi off : Int} {offs : Array Int} {len tgt : Nat} (hK : Ok K X own cc nL ret kk) (hd : DD cc pc (.tableswitch dflt lo hi offs) len pc') (ev : x = v) (hv : (¬ v.toInt < lo) ∧ (¬ hi < v.toInt) ∧ offs[(v.toInt - lo).toNat]? = some off ∧ DT pc off tgt) (k : J K X nL Z enc tgt lv st h o) : J K X nL Z enc pc lv (.int x :: st) h o := by
  subst ev
  obtain ⟨p, l, e, R, s, m, args, below, meth, c, cells, slots⟩ := K
  obtain ⟨hx, hb, hml, hown, hts, hlk, hrt, hE, hfr, hlo, hce, hsl⟩ := hK
  obtain ⟨hd, rfl⟩ := hd
  intro r h' ho H locs ls hH hS hl
  exact lv_tableIn hx hb hd hv.1 hv.2.1 hv.2.2.1 hv.2.2.2 (k r h' ho H locs ls hH hS hl)
theorem J_tableOut {x : Int32} {dflt lo hi : Int} {offs : Array Int} {len tgt : Nat} (hK : Ok K X own cc nL ret kk) (hd : DD cc pc (.tableswitch dflt lo hi offs) len pc') (hv : x.toInt < lo ∨ hi < x.toInt) (ht : DT pc dflt tgt) (k : J K X nL Z enc tgt lv st h o) : J K X nL Z enc pc lv (.int x :: st) h o := by
  obtain ⟨p, l, e, R, s, m, args, below, meth, c, cells, slots⟩ := K
  obtain ⟨hx, hb, hml, hown, hts, hlk, hrt, hE, hfr, hlo, hce, hsl⟩ := hK
  obtain ⟨hd, rfl⟩ := hd
  intro r h' ho H locs ls hH hS hl
  exact lv_tableOut hx hb hd hv ht (k r h' ho H locs ls hH hS hl)
theorem J_lookup {x : Int32} {dflt off : Int} {ps : Array (Int × Int)} {len tgt : Nat} (hK : Ok K X own cc nL ret kk) (hd : DD cc pc (.lookupswitch dflt ps) len pc') (hp : (ps.toList.zip (ps.toList.drop 1)).all (fun (a, next) => a.1 < next.1) = true) (hv : Op.lookupswitch.offset ps.toList dflt x.toInt = off) (ht : DT pc off tgt) (k : J K X nL Z enc tgt lv st h o) : J K X nL Z enc pc lv (.int x :: st) h o := by
  obtain ⟨p, l, e, R, s, m, args, below, meth, c, cells, slots⟩ := K
  obtain ⟨hx, hb, hml, hown, hts, hlk, hrt, hE, hfr, hlo, hce, hsl⟩ := hK
  obtain ⟨hd, rfl⟩ := hd
  intro r h' ho H locs ls hH hS hl
  exact lv_lookup hx hb hd hp hv ht (k r h' ho H locs ls hH hS hl)
theorem J_get {q j N ci index : Nat} {C ref : String} {T : u_T} {fs : List Value} {v : Value} (hK : Ok K X own cc nL ret kk) (hd : DD cc pc (.getfield index) 3 pc') (hin : ∀ w ∈ u_ws C T N, w ∈ lw_g) (hq : q < 291) (hc : vwCl[ci]? = some (C, T, N)) (hj : j < N) (hlay : lay X h q = .inr (ci, fs)) (hv : fs[j]? = some v) (hlink : Cond.fieldLink own index ref (T j).2.1 (T j).2.2.1 ∈ lw_tbl) (hsame : (T j).1 = ref) (k : J K X nL Z enc pc' lv (v :: st) h o) : J K X nL Z enc pc lv (.ref (X.1 + q) :: st) h o := by
  obtain ⟨p, l, e, R, s, m, args, below, meth, c, cells, slots⟩ := K
  obtain ⟨hx, hb, hml, hown, hts, hlk, hrt, hE, hfr, hlo, hce, hsl⟩ := hK
  obtain ⟨hd, rfl⟩ := hd
  intro r h' ho H locs ls hH hS hl
  refine va_get hx hb hts hin hown hE.1 hH q (fs := fs) (by rw [wl_get X h hq, hlay]) hc j hj (hts _ (lw_in hlink rfl)) (by subst hsame; exact fun x e => e) hv hd (k r h' ho H locs ls hH hS hl)
theorem J_put {q j N ci index : Nat} {C ref : String} {T : u_T} {ty0 : Nat → FieldType} {fs : List Value} {v : Int32} {f : AH → Option (α × AH)} (hK : Ok K X own cc nL ret kk) (hd : DD cc pc (.putfield index) 3 pc') (hin : ∀ w ∈ u_ws C T N, w ∈ lw_g) (hty : ∀ k, k < N → parseFieldDescriptor (T k).2.2.1 = some (ty0 k)) (hnm : ∀ a, a < N → ∀ b, b < N → a ≠ b → (T a).2.1 ≠ (T b).2.1) (hq : q < 291) (hc : vwCl[ci]? = some (C, T, N)) (hj : j < N) (hlay : lay X h q = .inr (ci, fs)) (hlay2 : lay X (hs h q j v) q = .inr (ci, fs.set j (.int v))) (hlen : j < fs.length) (hlink : Cond.fieldLink own index ref (T j).2.1 (T j).2.2.1 ∈ lw_tbl) (hsame : (T j).1 = ref) (hfin : (T j).2.2.2 = false) (hdI : parseFieldDescriptor (T j).2.2.1 = some .int) (k : ∀ h1, J K X nL Z enc pc' lv st h1 (f h1)) : J K X nL Z enc pc lv (.int v :: .ref (X.1 + q) :: st) h (sto (hs h q j v) f) := by
  obtain ⟨p, l, e, R, s, m, args, below, meth, c, cells, slots⟩ := K
  obtain ⟨hx, hb, hml, hown, hts, hlk, hrt, hE, hfr, hlo, hce, hsl⟩ := hK
  obtain ⟨hd, rfl⟩ := hd
  intro r h' ho H locs ls hH hS hl
  refine va_put hx hb hts hin ty0 hty hnm hown hE.1 hH (wl_D X h) hS q (fs := fs) (by rw [wl_get X h hq, hlay]) hc j hj (hts _ (lw_in hlink rfl)) (by subst hsame; exact fun x e => e) hfin hdI rfl rfl hlen hd (fun H1 locs1 hP1 _ hS1 => ?_)
  rw [wl_set X h hq _ hlay2] at hP1
  exact k _ r h' ho H1 locs1 ls hP1 hS1 hl
theorem J_iald {q : Nat} {i : Int32} (hK : Ok K X own cc nL ret kk) (hd : DD cc pc .iaload 1 pc') (hq : kd q = 7) (k : inb i (ln q) → J K X nL Z enc pc' lv (.int (h q i.toNatClampNeg) :: st) h o) : J K X nL Z enc pc lv (.int i :: .ref (X.1 + q) :: st) h (chk (inb i (ln q)) o) := by
  obtain ⟨p, l, e, R, s, m, args, below, meth, c, cells, slots⟩ := K
  obtain ⟨hx, hb, hml, hown, hts, hlk, hrt, hE, hfr, hlo, hce, hsl⟩ := hK
  obtain ⟨hd, rfl⟩ := hd
  intro r h' ho H locs ls hH hS hl
  obtain ⟨hin, ho⟩ := chk_some ho
  exact va_iald hx hb hE.1 hH q 0 (by rw [wl_get X h (kd_lt hq (by decide)), lay_7 X h hq]) rfl hin hd (k hin r h' ho H locs ls hH hS hl)
theorem J_zald {q : Nat} {i : Int32} (hK : Ok K X own cc nL ret kk) (hd : DD cc pc .baload 1 pc') (hq : kd q = 8) (k : inb i (ln q) → J K X nL Z enc pc' lv (.int (h q i.toNatClampNeg) :: st) h o) : J K X nL Z enc pc lv (.int i :: .ref (X.1 + q) :: st) h (chk (inb i (ln q)) o) := by
  obtain ⟨p, l, e, R, s, m, args, below, meth, c, cells, slots⟩ := K
  obtain ⟨hx, hb, hml, hown, hts, hlk, hrt, hE, hfr, hlo, hce, hsl⟩ := hK
  obtain ⟨hd, rfl⟩ := hd
  intro r h' ho H locs ls hH hS hl
  obtain ⟨hin, ho⟩ := chk_some ho
  exact va_zald hx hb hE.1 hH q 1 (by rw [wl_get X h (kd_lt hq (by decide)), lay_8 X h hq]) rfl hin hd (k hin r h' ho H locs ls hH hS hl)
theorem J_iast {q : Nat} {i x : Int32} {f : AH → Option (α × AH)} (hK : Ok K X own cc nL ret kk) (hd : DD cc pc .iastore 1 pc') (hq : kd q = 7) (k : ∀ h1, J K X nL Z enc pc' lv st h1 (f h1)) : J K X nL Z enc pc lv (.int x :: .int i :: .ref (X.1 + q) :: st) h (chk (inb i (ln q)) (sto (hs h q i.toNatClampNeg x) f)) := by
  obtain ⟨p, l, e, R, s, m, args, below, meth, c, cells, slots⟩ := K
  obtain ⟨hx, hb, hml, hown, hts, hlk, hrt, hE, hfr, hlo, hce, hsl⟩ := hK
  obtain ⟨hd, rfl⟩ := hd
  intro r h' ho H locs ls hH hS hl
  obtain ⟨hin, ho⟩ := chk_some ho
  refine va_iast hx hb hE.1 hH (wl_D X h) hS q 0 (by rw [wl_get X h (kd_lt hq (by decide)), lay_7 X h hq]) rfl hin hd (fun H1 locs1 hP1 _ hS1 => ?_)
  rw [wl_set X h (kd_lt hq (by decide)) (upd (h q) i.toNatClampNeg x) (by rw [lay_7 X _ hq, hr_eq])] at hP1
  exact k _ r h' ho H1 locs1 ls hP1 hS1 hl
theorem J_zast {q : Nat} {i x : Int32} {f : AH → Option (α × AH)} (hK : Ok K X own cc nL ret kk) (hd : DD cc pc .bastore 1 pc') (hq : kd q = 8) (k : ∀ h1, J K X nL Z enc pc' lv st h1 (f h1)) : J K X nL Z enc pc lv (.int x :: .int i :: .ref (X.1 + q) :: st) h (chk (inb i (ln q)) (sto (hs h q i.toNatClampNeg (vp_nar .boolean x)) f)) := by
  obtain ⟨p, l, e, R, s, m, args, below, meth, c, cells, slots⟩ := K
  obtain ⟨hx, hb, hml, hown, hts, hlk, hrt, hE, hfr, hlo, hce, hsl⟩ := hK
  obtain ⟨hd, rfl⟩ := hd
  intro r h' ho H locs ls hH hS hl
  obtain ⟨hin, ho⟩ := chk_some ho
  refine va_zast hx hb hE.1 hH (wl_D X h) hS q 1 (by rw [wl_get X h (kd_lt hq (by decide)), lay_8 X h hq]) rfl hin hd (fun H1 locs1 hP1 _ hS1 => ?_)
  rw [wl_set X h (kd_lt hq (by decide)) (upd (h q) i.toNatClampNeg (vp_nar .boolean x)) (by rw [lay_8 X _ hq, hr_eq])] at hP1
  exact k _ r h' ho H1 locs1 ls hP1 hS1 hl
theorem J_aaldE {q : Nat} {i : Int32} (hK : Ok K X own cc nL ret kk) (hd : DD cc pc .aaload 1 pc') (hq : kd q = 9) (k : inb i (ln q) → J K X nL Z enc pc' lv (.ref (X.1 + (q + 1 + 7 * i.toNatClampNeg)) :: st) h o) : J K X nL Z enc pc lv (.int i :: .ref (X.1 + q) :: st) h (chk (inb i (ln q)) o) := by
  obtain ⟨p, l, e, R, s, m, args, below, meth, c, cells, slots⟩ := K
  obtain ⟨hx, hb, hml, hown, hts, hlk, hrt, hE, hfr, hlo, hce, hsl⟩ := hK
  obtain ⟨hd, rfl⟩ := hd
  intro r h' ho H locs ls hH hS hl
  obtain ⟨hin, ho⟩ := chk_some ho
  exact va_aldq (f := fun j => some (X.1 + (q + 1 + 7 * j))) hx hb hE.1 hH q 2 (by rw [wl_get X h (kd_lt hq (by decide)), lay_9 X h hq]) rfl hin hd (k hin r h' ho H locs ls hH hS hl)
theorem J_aaldR {q : Nat} {i : Int32} (hK : Ok K X own cc nL ret kk) (hd : DD cc pc .aaload 1 pc') (hq : kd q = 10) (k : inb i (ln q) → J K X nL Z enc pc' lv (.ref (X.1 + (q + 1 + 2 * i.toNatClampNeg)) :: st) h o) : J K X nL Z enc pc lv (.int i :: .ref (X.1 + q) :: st) h (chk (inb i (ln q)) o) := by
  obtain ⟨p, l, e, R, s, m, args, below, meth, c, cells, slots⟩ := K
  obtain ⟨hx, hb, hml, hown, hts, hlk, hrt, hE, hfr, hlo, hce, hsl⟩ := hK
  obtain ⟨hd, rfl⟩ := hd
  intro r h' ho H locs ls hH hS hl
  obtain ⟨hin, ho⟩ := chk_some ho
  exact va_aldq (f := fun j => some (X.1 + (q + 1 + 2 * j))) hx hb hE.1 hH q 3 (by rw [wl_get X h (kd_lt hq (by decide)), lay_10 X h hq]) rfl hin hd (k hin r h' ho H locs ls hH hS hl)
theorem J_gets (i : Nat) {index : Nat} (hi : i < 4) (hK : Ok K X own cc nL ret kk) (hd : DD cc pc (.getstatic index) 3 pc') (hlink : Cond.fieldLink own index (stN i).1 (stN i).2 "[I" ∈ lw_tbl) (k : J K X nL Z enc pc' lv (.ref (X.2.2.2 i) :: st) h o) : J K X nL Z enc pc lv st h o := by
  obtain ⟨p, l, e, R, s, m, args, below, meth, c, cells, slots⟩ := K
  obtain ⟨hx, hb, hml, hown, hts, hlk, hrt, hE, hfr, hlo, hce, hsl⟩ := hK
  obtain ⟨hd, rfl⟩ := hd
  intro r h' ho H locs ls hH hS hl
  exact va_gets hx hb (hE.2 i hi).1 hS hown (hts _ (lw_in hlink rfl)) (fun x e => e) hd (k r h' ho H locs ls hH hS hl)
theorem J_sald (i : Nat) {x : Int32} (hi : i < 4) (hK : Ok K X own cc nL ret kk) (hd : DD cc pc .iaload 1 pc') (k : inb x (stL i).length → J K X nL Z enc pc' lv (.int (stV i x.toNatClampNeg) :: st) h o) : J K X nL Z enc pc lv (.int x :: .ref (X.2.2.2 i) :: st) h (chk (inb x (stL i).length) o) := by
  obtain ⟨p, l, e, R, s, m, args, below, meth, c, cells, slots⟩ := K
  obtain ⟨hx, hb, hml, hown, hts, hlk, hrt, hE, hfr, hlo, hce, hsl⟩ := hK
  obtain ⟨hd, rfl⟩ := hd
  intro r h' ho H locs ls hH hS hl
  obtain ⟨hin, ho⟩ := chk_some ho
  exact va_ti hx hb (hE.2 i hi).2 hS hin rfl hd (k hin r h' ho H locs ls hH hS hl)
theorem J_slen (i : Nat) {v : Int32} (hi : i < 4) (hK : Ok K X own cc nL ret kk) (hd : DD cc pc .arraylength 1 pc') (hv : Int32.ofNat (stL i).length = v) (k : J K X nL Z enc pc' lv (.int v :: st) h o) : J K X nL Z enc pc lv (.ref (X.2.2.2 i) :: st) h o := by
  obtain ⟨p, l, e, R, s, m, args, below, meth, c, cells, slots⟩ := K
  obtain ⟨hx, hb, hml, hown, hts, hlk, hrt, hE, hfr, hlo, hce, hsl⟩ := hK
  obtain ⟨hd, rfl⟩ := hd
  intro r h' ho H locs ls hH hS hl
  exact va_tlen hx hb (hE.2 i hi).2 hS hv hd (k r h' ho H locs ls hH hS hl)
theorem J_alenE {q : Nat} {v : Int32} (hK : Ok K X own cc nL ret kk) (hd : DD cc pc .arraylength 1 pc') (hq : kd q = 9) (hv : Int32.ofNat (ln q) = v) (k : J K X nL Z enc pc' lv (.int v :: st) h o) : J K X nL Z enc pc lv (.ref (X.1 + q) :: st) h o := by
  obtain ⟨p, l, e, R, s, m, args, below, meth, c, cells, slots⟩ := K
  obtain ⟨hx, hb, hml, hown, hts, hlk, hrt, hE, hfr, hlo, hce, hsl⟩ := hK
  obtain ⟨hd, rfl⟩ := hd
  intro r h' ho H locs ls hH hS hl
  exact va_alen hx hb hE.1 hH q 2 (by rw [wl_get X h (kd_lt hq (by decide)), lay_9 X h hq]) rfl hv hd (k r h' ho H locs ls hH hS hl)
end JR
