/-! Making: the first n cells from the base on hold hp. -/
def pw (X : WX) (n : Nat) (hp : Nat → va_E) : va_W := (List.range n).map (fun k => (X.1 + k, hp k))
def Hq (X : WX) (n : Nat) (hp : Nat → va_E) (H : Heap) : Prop := H.size = X.1 + n ∧ va_P X.2.1 vwCl (pw X n hp) H
def ov (b : Nat → va_E) (k : Nat) (e : va_E) : Nat → va_E := fun q => if q = k then e else b q
theorem ov_eq (b : Nat → va_E) (k : Nat) (e : va_E) : ov b k e k = e := by simp [ov]
theorem ov_ne (b : Nat → va_E) {k q : Nat} (e : va_E) (h : q ≠ k) : ov b k e q = b q := by simp [ov, h]
theorem ov_ov (b : Nat → va_E) (k : Nat) (e e2 : va_E) : ov (ov b k e) k e2 = ov b k e2 := by
  funext q
  by_cases h : q = k <;> simp [ov, h]
theorem ov_id (b : Nat → va_E) (k : Nat) {e : va_E} (h : b k = e) : ov b k e = b := by
  funext q
  by_cases hq : q = k
  · subst hq; simp [ov, h]
  · simp [ov, hq]
theorem ov_comm (b : Nat → va_E) {k m : Nat} (e f : va_E) (h : k ≠ m) : ov (ov b k e) m f = ov (ov b m f) k e := by
  funext q
  by_cases h1 : q = k
  · subst h1; simp [ov, h]
  · by_cases h2 : q = m
    · subst h2; simp [ov, h1]
    · simp [ov, h1, h2]
theorem pw_get (X : WX) {n k : Nat} (hp : Nat → va_E) (hk : k < n) : (pw X n hp)[k]? = some (X.1 + k, hp k) := by simp [pw, hk]
theorem pw_out (X : WX) {n k : Nat} {hp : Nat → va_E} {q : Nat × va_E} (e : (pw X n hp)[k]? = some q) : k < n ∧ q = (X.1 + k, hp k) := by
  have hk : k < n := by
    have := (List.getElem?_eq_some_iff.mp e).1
    simpa [pw] using this
  rw [pw_get X hp hk] at e
  exact ⟨hk, (Option.some.inj e).symm⟩
theorem pw_D (X : WX) (n : Nat) (hp : Nat → va_E) : va_D (xA X) (pw X n hp) := by
  refine ⟨fun i j p q hi hj hpq => ?_, fun k q hk => ?_⟩
  · obtain ⟨_, rfl⟩ := pw_out X hi
    obtain ⟨_, rfl⟩ := pw_out X hj
    have : X.1 + i = X.1 + j := hpq
    omega
  · obtain ⟨_, rfl⟩ := pw_out X hk
    exact Nat.le_add_right _ _
theorem pw_set (X : WX) {n k : Nat} (hp : Nat → va_E) (v : va_E) (hk : k < n) : (pw X n hp).set k (X.1 + k, v) = pw X n (ov hp k v) := by
  apply List.ext_getElem?
  intro j
  by_cases hj : j < n
  · rw [pw_get X _ hj]
    by_cases e : j = k
    · subst e
      rw [List.getElem?_set_self (by simpa [pw] using hj), ov_eq]
    · rw [List.getElem?_set_ne (fun q => e q.symm), pw_get X hp hj, ov_ne hp v e]
  · rw [List.getElem?_eq_none (by simp [pw]; omega), List.getElem?_eq_none (by simp [pw]; omega)]
theorem pw_push (X : WX) (n : Nat) (hp : Nat → va_E) (v : va_E) : pw X n hp ++ [(X.1 + n, v)] = pw X (n + 1) (ov hp n v) := by
  apply List.ext_getElem?
  intro j
  have hl : (pw X n hp).length = n := by simp [pw]
  by_cases hj : j < n
  · rw [List.getElem?_append_left (by omega), pw_get X hp hj, pw_get X _ (by omega), ov_ne hp v (by omega)]
  · by_cases e : j = n
    · subst e
      rw [List.getElem?_append_right (by omega), hl, Nat.sub_self, pw_get X _ (by omega), ov_eq]
      rfl
    · rw [List.getElem?_eq_none (by simp [hl]; omega), List.getElem?_eq_none (by simp [pw]; omega)]
theorem Hq.new {X : WX} {n : Nat} {hp : Nat → va_E} {H H1 : Heap} {v : va_E} (h : Hq X n hp H) (hv : va_at X.2.1 vwCl (X.1 + n, v) H1) (z : H1.size = X.1 + n + 1) (o1 : ∀ q, q < X.1 + n → H1[q]? = H[q]?) : Hq X (n + 1) (ov hp n v) H1 := by
  refine ⟨by omega, ?_⟩
  rw [← pw_push]
  refine (h.2.kept (fun k x hx => ?_)).app (fun k x hx => ?_)
  · exact o1 x.1 (by have := (h.2 k x hx).lt; have := h.1; omega)
  · have hz : k < 1 := (List.getElem?_eq_some_iff.mp hx).1
    rw [show k = 0 by omega] at hx
    cases hx
    exact hv
theorem Hq.same {X : WX} {n k : Nat} {hp : Nat → va_E} {H : Heap} {v : va_E} (h : Hq X n hp H) (hv : ∀ H, va_at X.2.1 vwCl (X.1 + k, hp k) H → va_at X.2.1 vwCl (X.1 + k, v) H) : Hq X n (ov hp k v) H := by
  refine ⟨h.1, fun j q hq => ?_⟩
  obtain ⟨hj, rfl⟩ := pw_out X hq
  have h1 := h.2 j _ (pw_get X hp hj)
  by_cases e : j = k
  · subst e
    rw [ov_eq]
    exact hv H h1
  · rw [ov_ne hp v e]
    exact h1
theorem arr_same {X : WX} {k n : Nat} {cA : ClassId} {f g : Nat → Option Nat} (hfg : ∀ j, j < n → f j = g j) (H : Heap) (h : va_at X.2.1 vwCl (X.1 + k, .inl (cA, n, .inr (.inr (.inr (.inr f))))) H) : va_at X.2.1 vwCl (X.1 + k, .inl (cA, n, .inr (.inr (.inr (.inr g))))) H := by
  have e : vp_cell cA (n, .inr (.inr (.inr (.inr f)))) = vp_cell cA (n, .inr (.inr (.inr (.inr g)))) := by
    rw [vp_cell_q, vp_cell_q]
    unfold arrV
    congr 1
    apply Array.ext
    · simp
    · intro j h1 h2
      have hj : j < n := by simpa using h1
      simp [hfg j hj]
  show H[X.1 + k]? = some (vp_cell cA (n, .inr (.inr (.inr (.inr g)))))
  rw [← e]
  exact h
theorem arr_sameI {X : WX} {k n : Nat} {cA : ClassId} {f g : Nat → Int32} (hfg : ∀ j, j < n → f j = g j) (H : Heap) (h : va_at X.2.1 vwCl (X.1 + k, .inl (cA, n, .inl f)) H) : va_at X.2.1 vwCl (X.1 + k, .inl (cA, n, .inl g)) H := by
  have e : vp_cell cA (n, .inl f) = vp_cell cA (n, .inl g) := by
    rw [vp_cell_i, vp_cell_i]
    unfold arrV
    congr 1
    apply Array.ext
    · simp
    · intro j h1 h2
      have hj : j < n := by simpa using h1
      simp [hfg j hj]
  show H[X.1 + k]? = some (vp_cell cA (n, .inl g))
  rw [← e]
  exact h
def xInit (X : WX) (U : State) : Prop := va_K X.2.1 vwCl (xT X) U ∧ va_AO "TugLines$Estuary" U ∧ va_AO "TugLines$Row" U
theorem xInit.go {X : WX} {u U : State} (hvm : u.vm.Alike U.vm) (h : xInit X u) : xInit X U := ⟨h.1.moved hvm, h.2.1.moved hvm, h.2.2.moved hvm⟩
def OkI (K : MC) (X : WX) (own : String) (cc : ByteArray) (nL kk mc ms : Nat) : Prop := match K with
  | (p, _, _, R, s, m, args, _, meth, c, _, _) => p.tables.exec = Jvm.exec ∧ c.code = cc ∧ c.maxLocals = nL ∧ s.vm.findClass own = some m.cls ∧ (∀ w ∈ lw_g, w.before args s = true) ∧ meth.locks = false ∧ xInit X s ∧ kk ≤ R.frames ∧ 64 * kk ≤ R.locals ∧ mc ≤ R.cells ∧ ms ≤ R.slots ∧ X.1 ≤ s.heap.size
def OkC (K : MC) : Prop := match K with
  | (_, _, _, _, _, _, _, _, meth, _, _, _) => meth.name = "<init>" ∧ meth.sig.returnType = none
def JX (K : MC) (cells slots : Nat) (Z : State → Prop) (H : Heap) (locs : List Loc) (pc : Nat) (ls : Array Slot) (st : List Value) : Prop := match K with
  | (p, l, e, R, s, m, args, below, meth, c, _, _) => W p l e R s m args below meth c H locs cells slots Z (F0 m pc ls st)
def JI (K : MC) (X : WX) (nL : Nat) (Z : State → Prop) (c s pc : Nat) (lv : List (Nat × Value)) (st : List Value) (n : Nat) (hp : Nat → va_E) : Prop :=
  ∀ (H : Heap) (locs : List Loc) (ls : Array Slot), Hq X n hp H → va_S (xA X) (kS K).heap H locs → lv_has ls nL lv → JX K c s Z H locs pc ls st
def PmI (X : WX) (av : List Value) (n : Nat) (hp : Nat → va_E) : Array Value → State → Prop := fun v U => v = av.toArray ∧ xInit X U ∧ Hq X n hp U.heap
def QmI (X : WX) (n : Nat) (hp : Nat → va_E) : Array Value → State → Outcome → State → Prop := fun _ st oc t => oc = .returned none ∧ Hq X n hp t.heap ∧ va_F (xA X) st t
def rmi (k mc ms : Nat) : Room := { frames := k, cells := mc, slots := ms, locals := 64 * k }
def DoesI (l : Launch) (X : WX) (k : Nat) (y : MethodName) (cc : ByteArray) (nL mc ms : Nat) (av : List Value) (n : Nat) (hp : Nat → va_E) (n' : Nat) (hp' : Nat → va_E) : Prop :=
  Met l y (.code y cc nL none :: lw_g) (rmi k mc ms) (PmI X av n hp) (QmI X n' hp') mc ms (xA X)
def Zi (K : MC) (X : WX) (mc ms n : Nat) (hp : Nat → va_E) : State → Prop := match K with
  | (_, _, _, _, s, _, args, below, _, _, _, _) => MQ below (QmI X n hp) args s mc ms (xA X)
theorem DoesI.of {l : Launch} {X : WX} {k : Nat} {y : MethodName} {cc : ByteArray} {nL mc ms : Nat} {av : List Value} {n n' : Nat} {hp hp' : Nat → va_E} (hy : plainName y.cls = true) (hyn : y.name = "<init>") (hn : (lg_sl av).length ≤ nL) {lv : List (Nat × Value)} (hlv : lv_args 0 av = lv)
    (body : ∀ K : MC, kL K = l → OkI K X y.cls cc nL k mc ms → OkC K → JI K X nL (Zi K X mc ms n' hp') 0 0 0 lv [] n hp) : DoesI l X k y cc nL mc ms av n hp n' hp' := by
  refine Met.ofW (cc := cc) (maxL := nL) (ret := none) hy rfl ?_
  intro p e s m args below meth c s₁ B hml hv
  obtain ⟨rfl, hE, hH⟩ := hv
  have hts := atoms_spec (ws := .code y cc nL none :: lw_g) B.pre
  have hown : s.vm.findClass y.cls = some m.cls := findClass_of_methodNamed B.named
  have hK : OkI (p, l, e, (headSpec (.code y cc nL none :: lw_g) (rmi k mc ms)).room, s, m, av.toArray, below, meth, c, 0, 0) X y.cls cc nL k mc ms :=
    ⟨B.exec, B.bytes, hml, hown, fun w hw => hts w (List.mem_cons_of_mem _ hw), B.notSynchronized, hE, Nat.le_refl _, Nat.le_refl _, Nat.le_refl _, Nat.le_refl _, by have := hH.1; omega⟩
  have hl := lv_entry av (n := nL) hn
  rw [hlv] at hl
  rw [lg_entry_eq]
  exact body _ rfl hK ⟨(name_of_methodNamed B.named B.method).1.trans hyn, B.returns⟩ s.heap [] _ hH va_S.rf hl
theorem PmI.blind {X : WX} {av : List Value} {n : Nat} {hp : Nat → va_E} : FrameBlind (PmI X av n hp) := fun a U g mk q =>
  ⟨q.1, q.2.1.go (u := U) (U := U.calling g mk a) (Vm.Alike.refl U.vm), q.2.2⟩
section JM
variable {K : MC} {X : WX} {nL : Nat} {Z : State → Prop} {own : String} {cc : ByteArray} {kk mc ms c0 s0 pc pc' n : Nat} {lv : List (Nat × Value)} {st : List Value} {hp : Nat → va_E}
theorem JI_iconst {n1 : Int} {v : Int32} (hK : OkI K X own cc nL kk mc ms) (hd : DD cc pc (.iconst n1) 1 pc') (hv : Int32.ofInt n1 = v) (k : JI K X nL Z c0 s0 pc' lv (.int v :: st) n hp) : JI K X nL Z c0 s0 pc lv st n hp := by
  obtain ⟨p, l, e, R, s, m, args, below, meth, c, c9, s9⟩ := K
  obtain ⟨hx, hb, hml, hown, hts, hlk, hE, hfr, hlo, hce, hsl, hX1⟩ := hK
  obtain ⟨hd, rfl⟩ := hd
  intro H locs ls hH hS hl
  exact lv_iconst hx hb hd hv (k H locs ls hH hS hl)
theorem JI_bipush {n1 : Int} {v : Int32} (hK : OkI K X own cc nL kk mc ms) (hd : DD cc pc (.bipush n1) 2 pc') (hv : (Int8.ofInt n1).toInt32 = v) (k : JI K X nL Z c0 s0 pc' lv (.int v :: st) n hp) : JI K X nL Z c0 s0 pc lv st n hp := by
  obtain ⟨p, l, e, R, s, m, args, below, meth, c, c9, s9⟩ := K
  obtain ⟨hx, hb, hml, hown, hts, hlk, hE, hfr, hlo, hce, hsl, hX1⟩ := hK
  obtain ⟨hd, rfl⟩ := hd
  intro H locs ls hH hS hl
  exact lv_bipush hx hb hd hv (k H locs ls hH hS hl)
theorem JI_sipush {n1 : Int} {v : Int32} (hK : OkI K X own cc nL kk mc ms) (hd : DD cc pc (.sipush n1) 3 pc') (hv : (Int16.ofInt n1).toInt32 = v) (k : JI K X nL Z c0 s0 pc' lv (.int v :: st) n hp) : JI K X nL Z c0 s0 pc lv st n hp := by
  obtain ⟨p, l, e, R, s, m, args, below, meth, c, c9, s9⟩ := K
  obtain ⟨hx, hb, hml, hown, hts, hlk, hE, hfr, hlo, hce, hsl, hX1⟩ := hK
  obtain ⟨hd, rfl⟩ := hd
  intro H locs ls hH hS hl
  exact lv_sipush hx hb hd hv (k H locs ls hH hS hl)
theorem JI_ldc {index : Nat} {v : Int32} (hK : OkI K X own cc nL kk mc ms) (hd : DD cc pc (.ldc index) 2 pc') (hv : Cond.constant own index v ∈ lw_tbl) (k : JI K X nL Z c0 s0 pc' lv (.int v :: st) n hp) : JI K X nL Z c0 s0 pc lv st n hp := by
  obtain ⟨p, l, e, R, s, m, args, below, meth, c, c9, s9⟩ := K
  obtain ⟨hx, hb, hml, hown, hts, hlk, hE, hfr, hlo, hce, hsl, hX1⟩ := hK
  obtain ⟨hd, rfl⟩ := hd
  intro H locs ls hH hS hl
  exact lv_ldc hx hb hown (hts _ (lw_in hv rfl)) hd (k H locs ls hH hS hl)
theorem JI_dup {v : Value} (hK : OkI K X own cc nL kk mc ms) (hd : DD cc pc .dup 1 pc') (hv : v.category = 1) (k : JI K X nL Z c0 s0 pc' lv (v :: v :: st) n hp) : JI K X nL Z c0 s0 pc lv (v :: st) n hp := by
  obtain ⟨p, l, e, R, s, m, args, below, meth, c, c9, s9⟩ := K
  obtain ⟨hx, hb, hml, hown, hts, hlk, hE, hfr, hlo, hce, hsl, hX1⟩ := hK
  obtain ⟨hd, rfl⟩ := hd
  intro H locs ls hH hS hl
  exact lv_dup hx hb hd hv (k H locs ls hH hS hl)
theorem JI_iload_n {i : Fin 4} {x : Int32} (hK : OkI K X own cc nL kk mc ms) (hd : DD cc pc (.iload_n i) 1 pc') (j : Nat) (hj : lv[j]? = some ((i : Nat), .int x)) (k : JI K X nL Z c0 s0 pc' lv (.int x :: st) n hp) : JI K X nL Z c0 s0 pc lv st n hp := by
  obtain ⟨p, l, e, R, s, m, args, below, meth, c, c9, s9⟩ := K
  obtain ⟨hx, hb, hml, hown, hts, hlk, hE, hfr, hlo, hce, hsl, hX1⟩ := hK
  obtain ⟨hd, rfl⟩ := hd
  intro H locs ls hH hS hl
  exact lv_iload_n hx hb hd rfl (lv_at hl j hj) (k H locs ls hH hS hl)
theorem JI_aload_n {i : Fin 4} {x : Nat} (hK : OkI K X own cc nL kk mc ms) (hd : DD cc pc (.aload_n i) 1 pc') (j : Nat) (hj : lv[j]? = some ((i : Nat), .ref x)) (k : JI K X nL Z c0 s0 pc' lv (.ref x :: st) n hp) : JI K X nL Z c0 s0 pc lv st n hp := by
  obtain ⟨p, l, e, R, s, m, args, below, meth, c, c9, s9⟩ := K
  obtain ⟨hx, hb, hml, hown, hts, hlk, hE, hfr, hlo, hce, hsl, hX1⟩ := hK
  obtain ⟨hd, rfl⟩ := hd
  intro H locs ls hH hS hl
  exact lv_aload_n hx hb hd rfl (lv_at hl j hj) (k H locs ls hH hS hl)
theorem JI_istore_n {i : Fin 4} {x : Int32} {lw : List (Nat × Value)} {j : Nat} (hK : OkI K X own cc nL kk mc ms) (hd : DD cc pc (.istore_n i) 1 pc') (hi : (i : Nat) = j) (hn : j < nL) (hw : lv.filter (fun q => !(q.1 == j) && !(q.1 + 1 == j && q.2.category == 2)) = lw) (k : JI K X nL Z c0 s0 pc' ((j, Value.int x) :: lw) st n hp) : JI K X nL Z c0 s0 pc lv (.int x :: st) n hp := by
  obtain ⟨p, l, e, R, s, m, args, below, meth, c, c9, s9⟩ := K
  obtain ⟨hx, hb, hml, hown, hts, hlk, hE, hfr, hlo, hce, hsl, hX1⟩ := hK
  obtain ⟨hd, rfl⟩ := hd
  intro H locs ls hH hS hl
  exact lv_istore_n hx hb hd hi hl hn (by rw [hw]) (fun ls hl => k H locs ls hH hS hl)
theorem JI_astore_n {i : Fin 4} {x : Nat} {lw : List (Nat × Value)} {j : Nat} (hK : OkI K X own cc nL kk mc ms) (hd : DD cc pc (.astore_n i) 1 pc') (hi : (i : Nat) = j) (hn : j < nL) (hw : lv.filter (fun q => !(q.1 == j) && !(q.1 + 1 == j && q.2.category == 2)) = lw) (k : JI K X nL Z c0 s0 pc' ((j, Value.ref x) :: lw) st n hp) : JI K X nL Z c0 s0 pc lv (.ref x :: st) n hp := by
  obtain ⟨p, l, e, R, s, m, args, below, meth, c, c9, s9⟩ := K
  obtain ⟨hx, hb, hml, hown, hts, hlk, hE, hfr, hlo, hce, hsl, hX1⟩ := hK
  obtain ⟨hd, rfl⟩ := hd
  intro H locs ls hH hS hl
  exact lv_astore_n hx hb hd hi hl hn (by rw [hw]) (fun ls hl => k H locs ls hH hS hl)
theorem JI_iinc {i : Nat} {n1 : Int} {x v : Int32} {lw : List (Nat × Value)} (hK : OkI K X own cc nL kk mc ms) (hd : DD cc pc (.iinc i n1) 3 pc') (j : Nat) (hj : lv[j]? = some (i, .int x)) (hn : i < nL) (hv : x + Int32.ofInt n1 = v) (hw : lv.filter (fun q => !(q.1 == i) && !(q.1 + 1 == i && q.2.category == 2)) = lw) (k : JI K X nL Z c0 s0 pc' ((i, Value.int v) :: lw) st n hp) : JI K X nL Z c0 s0 pc lv st n hp := by
  obtain ⟨p, l, e, R, s, m, args, below, meth, c, c9, s9⟩ := K
  obtain ⟨hx, hb, hml, hown, hts, hlk, hE, hfr, hlo, hce, hsl, hX1⟩ := hK
  obtain ⟨hd, rfl⟩ := hd
  intro H locs ls hH hS hl
  exact lv_iinc hx hb hd hl hj hv hn (by rw [hw]) (fun ls hl => k H locs ls hH hS hl)
theorem JI_goto {off : Int} {tgt : Nat} (hK : OkI K X own cc nL kk mc ms) (hd : DD cc pc (.goto off) 3 pc') (ht : DT pc off tgt) (k : JI K X nL Z c0 s0 tgt lv st n hp) : JI K X nL Z c0 s0 pc lv st n hp := by
  obtain ⟨p, l, e, R, s, m, args, below, meth, c, c9, s9⟩ := K
  obtain ⟨hx, hb, hml, hown, hts, hlk, hE, hfr, hlo, hce, hsl, hX1⟩ := hK
  obtain ⟨hd, rfl⟩ := hd
  intro H locs ls hH hS hl
  exact lv_goto hx hb hd ht (k H locs ls hH hS hl)
theorem JI_icmp_ge {x y : Int32} {off : Int} {tgt : Nat} (hK : OkI K X own cc nL kk mc ms) (hd : DD cc pc (.if_icmp .ge off) 3 pc') (ht : DT pc off tgt) (k1 : x < y → JI K X nL Z c0 s0 pc' lv st n hp) (k2 : ¬ x < y → JI K X nL Z c0 s0 tgt lv st n hp) : JI K X nL Z c0 s0 pc lv (.int y :: .int x :: st) n hp := by
  obtain ⟨p, l, e, R, s, m, args, below, meth, c, c9, s9⟩ := K
  obtain ⟨hx, hb, hml, hown, hts, hlk, hE, hfr, hlo, hce, hsl, hX1⟩ := hK
  obtain ⟨hd, rfl⟩ := hd
  intro H locs ls hH hS hl
  exact lv_icmp_ge hx hb hd ht (fun q => k2 (Int32.not_lt.mpr q) H locs ls hH hS hl) (fun q => k1 (Int32.not_le.mp q) H locs ls hH hS hl)
theorem JI_sub {lv' : List (Nat × Value)} (ks : List Nat) (hq : lv_pick lv ks = lv') (k : JI K X nL Z c0 s0 pc lv' st n hp) : JI K X nL Z c0 s0 pc lv st n hp := fun H locs ls hH hS hl => k H locs ls hH hS (lv_sub hl ks hq)
theorem JI_eq {hp' : Nat → va_E} (e : hp = hp') (k : JI K X nL Z c0 s0 pc lv st n hp') : JI K X nL Z c0 s0 pc lv st n hp := by subst e; exact k
theorem JI_same {q : Nat} {v : va_E} (hv : ∀ H, va_at X.2.1 vwCl (X.1 + q, hp q) H → va_at X.2.1 vwCl (X.1 + q, v) H) (k : JI K X nL Z c0 s0 pc lv st n (ov hp q v)) : JI K X nL Z c0 s0 pc lv st n hp := fun H locs ls hH hS hl => k H locs ls (hH.same hv) hS hl
theorem JI_get {q j N ci index : Nat} {C ref : String} {T : u_T} {fs : List Value} {v : Value} (hK : OkI K X own cc nL kk mc ms) (hd : DD cc pc (.getfield index) 3 pc') (hin : ∀ w ∈ u_ws C T N, w ∈ lw_g) (hq : q < n) (hc : vwCl[ci]? = some (C, T, N)) (hj : j < N) (hlay : hp q = .inr (ci, fs)) (hv : fs[j]? = some v) (hlink : Cond.fieldLink own index ref (T j).2.1 (T j).2.2.1 ∈ lw_tbl) (hsame : (T j).1 = ref) (k : JI K X nL Z c0 s0 pc' lv (v :: st) n hp) : JI K X nL Z c0 s0 pc lv (.ref (X.1 + q) :: st) n hp := by
  obtain ⟨p, l, e, R, s, m, args, below, meth, c, c9, s9⟩ := K
  obtain ⟨hx, hb, hml, hown, hts, hlk, hE, hfr, hlo, hce, hsl, hX1⟩ := hK
  obtain ⟨hd, rfl⟩ := hd
  intro H locs ls hH hS hl
  exact va_get hx hb hts hin hown hE.1 hH.2 q (fs := fs) (by rw [pw_get X hp hq, hlay]) hc j hj (hts _ (lw_in hlink rfl)) (by subst hsame; exact fun x e => e) hv hd (k H locs ls hH hS hl)
theorem JI_putF {q j N ci index : Nat} {C ref : String} {T : u_T} {ty0 : Nat → FieldType} {fs : List Value} {v : Value} {ty : FieldType} (hK : OkI K X own cc nL kk mc ms) (hd : DD cc pc (.putfield index) 3 pc') (hC : OkC K) (hdecl : (T j).1 = own) (hin : ∀ w ∈ u_ws C T N, w ∈ lw_g) (hty : ∀ k, k < N → parseFieldDescriptor (T k).2.2.1 = some (ty0 k)) (hnm : ∀ a, a < N → ∀ b, b < N → a ≠ b → (T a).2.1 ≠ (T b).2.1) (hq : q < n) (hc : vwCl[ci]? = some (C, T, N)) (hj : j < N) (hlay : hp q = .inr (ci, fs)) (hlen : j < fs.length) (hlink : Cond.fieldLink own index ref (T j).2.1 (T j).2.2.1 ∈ lw_tbl) (hsame : (T j).1 = ref) (hfin : (T j).2.2.2 = true) (hdI : parseFieldDescriptor (T j).2.2.1 = some ty) (hnv : narrow ty v = v) (hft : fits ty v = true) (k : JI K X nL Z c0 s0 pc' lv st n (ov hp q (.inr (ci, fs.set j v)))) : JI K X nL Z c0 s0 pc lv (v :: .ref (X.1 + q) :: st) n hp := by
  obtain ⟨p, l, e, R, s, m, args, below, meth, c, c9, s9⟩ := K
  obtain ⟨hx, hb, hml, hown, hts, hlk, hE, hfr, hlo, hce, hsl9, hX1⟩ := hK
  obtain ⟨hd, rfl⟩ := hd
  intro H locs ls hH hS hl
  have he : (pw X n hp)[q]? = some (X.1 + q, .inr (ci, fs)) := by rw [pw_get X hp hq, hlay]
  have hap := va_apart (own := own) hts hin ty0 hty hnm hE.1 hc
  obtain ⟨r, h1, cell, q1, q2, q3, q4⟩ := hH.2 q _ he
  have hr : r = (C, T, N) := Option.some.inj (h1.symm.trans hc)
  subst hr
  obtain ⟨hSl, hfc, kC, hkC, hkind⟩ := hE.1.1 ci _ hc
  obtain ⟨cf, kf, fi, f, hi, hsl⟩ := hSl j hj
  have hlay2 := hts _ (hin _ (u_in_lay hj))
  unfold u_lay at hlay2
  rw [if_pos hfin] at hlay2
  have hst := (u_facts hfc hkC (u_lays hts hin hj) hi).1
  have hcf : m.cls = cf := by
    obtain ⟨_, _, c', _, _, _, -, -, hf', -, -, -, hown2, -⟩ := Cond.laysFinal_spec hlay2
    have e1 : c' = cf := by have := hi.symm.trans hf'; simp at this; exact this.1.symm
    rw [hdecl] at hown2
    rw [← e1]; exact Option.some.inj (hown.symm.trans hown2)
  have h6 := u_fits hfc hkC hkind (Or.inr hlay2) hi hdI hnv hft
  subst hsame
  refine W.putFinK hx hb hown (hts _ (lw_in hlink rfl)) hi hst hcf hC.1 (by rw [q2]; exact h6) q1 q3 (by rw [hsl]; exact k2_hasslot (q4 j hj)) rfl rfl hd fun H' e1 e2 e3 => ?_
  rw [hsl] at e1 ⊢
  refine k H' _ ls ⟨by rw [e2]; exact hH.1, ?_⟩ (hS.put e2 e3 (Nat.le_add_right _ _)) hl
  rw [← pw_set X hp _ hq]
  exact hH.2.set (pw_D X n hp) he ⟨_, hc, t_OB.to (V := updV (vp_V fs) j v) ⟨_, e1, q2, q3, t_set q4 hap hj v⟩ (fun i _ => vp_updV_set hlen v i)⟩ e3
theorem JI_put {q j N ci index : Nat} {C ref : String} {T : u_T} {ty0 : Nat → FieldType} {fs : List Value} {v : Value} {ty : FieldType} (hK : OkI K X own cc nL kk mc ms) (hd : DD cc pc (.putfield index) 3 pc') (hin : ∀ w ∈ u_ws C T N, w ∈ lw_g) (hty : ∀ k, k < N → parseFieldDescriptor (T k).2.2.1 = some (ty0 k)) (hnm : ∀ a, a < N → ∀ b, b < N → a ≠ b → (T a).2.1 ≠ (T b).2.1) (hq : q < n) (hc : vwCl[ci]? = some (C, T, N)) (hj : j < N) (hlay : hp q = .inr (ci, fs)) (hlen : j < fs.length) (hlink : Cond.fieldLink own index ref (T j).2.1 (T j).2.2.1 ∈ lw_tbl) (hsame : (T j).1 = ref) (hfin : (T j).2.2.2 = false) (hdI : parseFieldDescriptor (T j).2.2.1 = some ty) (hnv : narrow ty v = v) (hft : fits ty v = true) (k : JI K X nL Z c0 s0 pc' lv st n (ov hp q (.inr (ci, fs.set j v)))) : JI K X nL Z c0 s0 pc lv (v :: .ref (X.1 + q) :: st) n hp := by
  obtain ⟨p, l, e, R, s, m, args, below, meth, c, c9, s9⟩ := K
  obtain ⟨hx, hb, hml, hown, hts, hlk, hE, hfr, hlo, hce, hsl9, hX1⟩ := hK
  obtain ⟨hd, rfl⟩ := hd
  intro H locs ls hH hS hl
  have he : (pw X n hp)[q]? = some (X.1 + q, .inr (ci, fs)) := by rw [pw_get X hp hq, hlay]
  have hap := va_apart (own := own) hts hin ty0 hty hnm hE.1 hc
  obtain ⟨r, h1, cell, q1, q2, q3, q4⟩ := hH.2 q _ he
  have hr : r = (C, T, N) := Option.some.inj (h1.symm.trans hc)
  subst hr
  obtain ⟨hSl, hfc, kC, hkC, hkind⟩ := hE.1.1 ci _ hc
  obtain ⟨cf, kf, fi, f, hi, hsl⟩ := hSl j hj
  have hlay2 := hts _ (hin _ (u_in_lay hj))
  unfold u_lay at hlay2
  rw [if_neg (by rw [hfin]; decide)] at hlay2
  have hst := (u_facts hfc hkC (u_lays hts hin hj) hi).1
  have h6 := u_store hfc hkC hkind hlay2 hi hdI hnv hft
  subst hsame
  refine W.putK hx hb (f := f) ⟨hown, hts _ (lw_in hlink rfl), ⟨_, _, _, hi⟩, hst⟩ (by rw [q2]; exact h6) q1 q3 (by rw [hsl]; exact k2_hasslot (q4 j hj)) rfl rfl hd fun H' e1 e2 e3 => ?_
  rw [hsl] at e1 ⊢
  refine k H' _ ls ⟨by rw [e2]; exact hH.1, ?_⟩ (hS.put e2 e3 (Nat.le_add_right _ _)) hl
  rw [← pw_set X hp _ hq]
  exact hH.2.set (pw_D X n hp) he ⟨_, hc, t_OB.to (V := updV (vp_V fs) j v) ⟨_, e1, q2, q3, t_set q4 hap hj v⟩ (fun i _ => vp_updV_set hlen v i)⟩ e3
theorem JI_iast {q N : Nat} {i x : Int32} {f : Nat → Int32} (hK : OkI K X own cc nL kk mc ms) (hd : DD cc pc .iastore 1 pc') (hq : q < n) (hlay : hp q = .inl (X.2.2.1 0, N, .inl f)) (hin : inb i N) (k : JI K X nL Z c0 s0 pc' lv st n (ov hp q (.inl (X.2.2.1 0, N, .inl (upd f i.toNatClampNeg x))))) : JI K X nL Z c0 s0 pc lv (.int x :: .int i :: .ref (X.1 + q) :: st) n hp := by
  obtain ⟨p, l, e, R, s, m, args, below, meth, c, c9, s9⟩ := K
  obtain ⟨hx, hb, hml, hown, hts, hlk, hE, hfr, hlo, hce, hsl9, hX1⟩ := hK
  obtain ⟨hd, rfl⟩ := hd
  intro H locs ls hH hS hl
  have he : (pw X n hp)[q]? = some (X.1 + q, .inl (X.2.2.1 0, N, .inl f)) := by rw [pw_get X hp hq, hlay]
  refine W.iast hx hb (hH.2 q _ he) ((hE.1.2 0 _ rfl).1 N (fun j => .int (f j))) (fun q => by cases q) (by show ¬ (i < 0 ∨ (arrV _ _ _).slots.size ≤ _); rw [arrV_size]; exact hin) rfl rfl hd fun H1 e z oq => ?_
  refine k H1 _ ls ⟨by rw [z]; exact hH.1, ?_⟩ (hS.put z oq (Nat.le_add_right _ _)) hl
  rw [← pw_set X hp _ hq]
  refine hH.2.set (pw_D X n hp) he ?_ oq
  show H1[X.1 + q]? = some (vp_cell _ _)
  rw [e]
  rw [vp_cell_i, vp_cell_i, arrV_store]
  congr 2
  funext q
  by_cases hq : q = i.toNatClampNeg
  · subst hq
    simp [updV, upd]
  · simp [updV, upd, hq]
theorem JI_aast {q qv N ci t0 : Nat} {cA : ClassId} {r : vw_C} {vs : List Value} {i : Int32} {f : Nat → Option Nat} (hK : OkI K X own cc nL kk mc ms) (hd : DD cc pc .aastore 1 pc') (hq : q < n) (hqv : qv < n) (hlay : hp q = .inl (cA, N, .inr (.inr (.inr (.inr f))))) (ht : (xT X)[t0]? = some (cA, .object r.1)) (hv : hp qv = .inr (ci, vs)) (hc : vwCl[ci]? = some r) (hin : inb i N) (k : JI K X nL Z c0 s0 pc' lv st n (ov hp q (.inl (cA, N, .inr (.inr (.inr (.inr (va_up f i.toNatClampNeg (some (X.1 + qv)))))))))) : JI K X nL Z c0 s0 pc lv (.ref (X.1 + qv) :: .int i :: .ref (X.1 + q) :: st) n hp := by
  obtain ⟨p, l, e, R, s, m, args, below, meth, c, c9, s9⟩ := K
  obtain ⟨hx, hb, hml, hown, hts, hlk, hE, hfr, hlo, hce, hsl9, hX1⟩ := hK
  obtain ⟨hd, rfl⟩ := hd
  intro H locs ls hH hS hl
  have he : (pw X n hp)[q]? = some (X.1 + q, .inl (cA, N, .inr (.inr (.inr (.inr f))))) := by rw [pw_get X hp hq, hlay]
  have hev : (pw X n hp)[qv]? = some (X.1 + qv, .inr (ci, vs)) := by rw [pw_get X hp hqv, hv]
  have hlt : i.toNatClampNeg < N := Nat.not_le.mp fun q => hin (Or.inr q)
  have h0 : ¬ i < 0 := fun q => hin (Or.inl q)
  obtain ⟨r', hr', cellV, g1, g2, g3, -⟩ := hH.2 qv _ hev
  have hcls := (hE.1.1 ci r hc).2
  obtain ⟨kA, comp, k1, k2, k3, -⟩ := (hE.1.2 t0 _ ht).2
  have hcomp : comp = X.2.1.1 ci := Option.some.inj (k3.symm.trans hcls.1)
  subst hcomp
  obtain ⟨kC, hkC, -⟩ := hcls.2
  refine W.aast hx hb (hH.2 q _ he) (fun q h => by cases h) (fun h => by cases h) k1 k2 rfl hkC ⟨h0, by show _ < (arrV _ _ _).slots.size; rw [arrV_size]; exact hlt⟩ g1 (fun q h => by rw [g3] at h; cases h) (by rw [g2]; exact hkC) (by rw [g2]; exact va_assign hcls) rfl rfl hd fun H1 e z oq => ?_
  refine k H1 _ ls ⟨by rw [z]; exact hH.1, ?_⟩ (hS.put z oq (Nat.le_add_right _ _)) hl
  rw [← pw_set X hp _ hq]
  refine hH.2.set (pw_D X n hp) he ?_ oq
  show H1[X.1 + q]? = some (vp_cell _ _)
  rw [e]
  rw [vp_cell_q, vp_cell_q, arrV_store]
  congr 2
  funext q
  by_cases hq : q = i.toNatClampNeg
  · subst hq
    simp [updV, va_up, va_rf]
  · simp [updV, va_up, hq]
theorem JI_new {ci N index : Nat} {C : String} {T : u_T} {ty : Nat → FieldType} {fs : List Value} (hK : OkI K X own cc nL kk mc ms) (hd : DD cc pc (.new index) 3 pc') (hin : ∀ w ∈ u_ws C T N, w ∈ lw_g) (hty : ∀ k, k < N → parseFieldDescriptor (T k).2.2.1 = some (ty k)) (hcl : Cond.classLink own index C ∈ lw_tbl) (hinst : Cond.instantiable C N ∈ lw_tbl) (hini : Cond.initialized C ∈ lw_tbl) (hc : vwCl[ci]? = some (C, T, N)) (hfs : ∀ j, j < N → defaultValue (ty j) = vp_V fs j) (h1 : c0 + 1 ≤ mc) (h2 : s0 + N ≤ ms) (k : JI K X nL Z (c0 + 1) (s0 + N) pc' lv (.ref (X.1 + n) :: st) (n + 1) (ov hp n (.inr (ci, fs)))) : JI K X nL Z c0 s0 pc lv st n hp := by
  obtain ⟨p, l, e, R, s, m, args, below, meth, c, c9, s9⟩ := K
  obtain ⟨hx, hb, hml, hown, hts, hlk, hE, hfr, hlo, hce, hsl9, hX1⟩ := hK
  obtain ⟨hd, rfl⟩ := hd
  intro H locs ls hH hS hl
  have hKn := hE.1.1 ci _ hc
  refine W.newcK hx hb hown (hts _ (lw_in hcl rfl)) (hts _ (lw_in hinst rfl)) (hts _ (lw_in hini rfl)) rfl hd (by omega) (by omega) hKn.2.1 hH.1 fun H1 kC hkC e1 z1 o1 => ?_
  refine k H1 locs ls (hH.new ⟨_, hc, (u_born ty hts hin hKn hkC e1 hty).to hfs⟩ z1 o1) ⟨Nat.le_trans hS.1 (by have := hH.1; omega), fun x h1 h2 => (o1 x (Nat.lt_of_lt_of_le h1 (by have := hS.1; have := hH.1; omega))).trans (hS.2.1 x h1 h2), hS.2.2⟩ hl
theorem JI_newI {v : Int32} {N : Nat} (hK : OkI K X own cc nL kk mc ms) (hd : DD cc pc (.newarray .int) 2 pc') (harr : Cond.arrayClass .int ∈ lw_tbl) (hv : ¬ v < 0) (hN : v.toNatClampNeg = N) (hby : N ≤ 100000) (hhp : hp n = .inl (X.2.2.1 0, N, .inl (fun _ => 0))) (h1 : c0 + 1 ≤ mc) (h2 : s0 + N ≤ ms) (k : JI K X nL Z (c0 + 1) (s0 + N) pc' lv (.ref (X.1 + n) :: st) (n + 1) hp) : JI K X nL Z c0 s0 pc lv (.int v :: st) n hp := by
  obtain ⟨p, l, e, R, s, m, args, below, meth, c, c9, s9⟩ := K
  obtain ⟨hx, hb, hml, hown, hts, hlk, hE, hfr, hlo, hce, hsl9, hX1⟩ := hK
  obtain ⟨hd, rfl⟩ := hd
  intro H locs ls hH hS hl
  have hcb : componentBytes (newarray.typeOf .int) ≤ 8 := by decide
  have hcb2 := Nat.mul_le_mul hby hcb
  refine va_newaK (atype := .int) hx hb (hts _ (lw_in harr rfl)) rfl hd rfl hv hN (by omega) (by omega) (by omega) hH.1 fun H1 cA e1 z1 o1 hAr hNm => ?_
  have hcA : cA = X.2.2.1 0 := Option.some.inj (hNm.symm.trans (hE.1.2 0 _ rfl).2)
  subst hcA
  have hn := hH.new (v := .inl (X.2.2.1 0, N, .inl (fun _ => 0))) e1 z1 o1
  rw [ov_id hp n hhp] at hn
  exact k H1 locs ls hn ⟨Nat.le_trans hS.1 (by have := hH.1; omega), fun x h1 h2 => (o1 x (Nat.lt_of_lt_of_le h1 (by have := hS.1; have := hH.1; omega))).trans (hS.2.1 x h1 h2), hS.2.2⟩ hl
theorem JI_newZ {v : Int32} {N : Nat} (hK : OkI K X own cc nL kk mc ms) (hd : DD cc pc (.newarray .boolean) 2 pc') (harr : Cond.arrayClass .boolean ∈ lw_tbl) (hv : ¬ v < 0) (hN : v.toNatClampNeg = N) (hby : N ≤ 100000) (hhp : hp n = .inl (X.2.2.1 1, N, .inl (fun _ => 0))) (h1 : c0 + 1 ≤ mc) (h2 : s0 + N ≤ ms) (k : JI K X nL Z (c0 + 1) (s0 + N) pc' lv (.ref (X.1 + n) :: st) (n + 1) hp) : JI K X nL Z c0 s0 pc lv (.int v :: st) n hp := by
  obtain ⟨p, l, e, R, s, m, args, below, meth, c, c9, s9⟩ := K
  obtain ⟨hx, hb, hml, hown, hts, hlk, hE, hfr, hlo, hce, hsl9, hX1⟩ := hK
  obtain ⟨hd, rfl⟩ := hd
  intro H locs ls hH hS hl
  have hcb : componentBytes (newarray.typeOf .boolean) ≤ 8 := by decide
  have hcb2 := Nat.mul_le_mul hby hcb
  refine va_newaK (atype := .boolean) hx hb (hts _ (lw_in harr rfl)) rfl hd rfl hv hN (by omega) (by omega) (by omega) hH.1 fun H1 cA e1 z1 o1 hAr hNm => ?_
  have hcA : cA = X.2.2.1 1 := Option.some.inj (hNm.symm.trans (hE.1.2 1 _ rfl).2)
  subst hcA
  have hn := hH.new (v := .inl (X.2.2.1 1, N, .inl (fun _ => 0))) e1 z1 o1
  rw [ov_id hp n hhp] at hn
  exact k H1 locs ls hn ⟨Nat.le_trans hS.1 (by have := hH.1; omega), fun x h1 h2 => (o1 x (Nat.lt_of_lt_of_le h1 (by have := hS.1; have := hH.1; omega))).trans (hS.2.1 x h1 h2), hS.2.2⟩ hl
theorem JI_newE {v : Int32} {N index : Nat} (hK : OkI K X own cc nL kk mc ms) (hd : DD cc pc (.anewarray index) 3 pc') (hcl : Cond.classLink own index "TugLines$Estuary" ∈ lw_tbl) (hv : ¬ v < 0) (hN : v.toNatClampNeg = N) (hby : N ≤ 100000) (h1 : c0 + 1 ≤ mc) (h2 : s0 + N ≤ ms) (k : JI K X nL Z (c0 + 1) (s0 + N) pc' lv (.ref (X.1 + n) :: st) (n + 1) (ov hp n (.inl (X.2.2.1 2, N, .inr (.inr (.inr (.inr (fun _ => none)))))))) : JI K X nL Z c0 s0 pc lv (.int v :: st) n hp := by
  obtain ⟨p, l, e, R, s, m, args, below, meth, c, c9, s9⟩ := K
  obtain ⟨hx, hb, hml, hown, hts, hlk, hE, hfr, hlo, hce, hsl9, hX1⟩ := hK
  obtain ⟨hd, rfl⟩ := hd
  intro H locs ls hH hS hl
  subst hN
  refine W.anew hx hb hown (hts _ (lw_in hcl rfl)) (va_AO.use hE.2.1) rfl hd rfl hv (by omega) (by omega) (by omega) fun cA kA comp f1 f2 f3 f4 => ?_
  generalize hH1 : H.push ({ cls := cA, slots := Array.replicate v.toNatClampNeg .null, vm := .none } : Cell) = H1
  have hz := hH.1
  have z1 : H1.size = X.1 + n + 1 := by rw [← hH1, Array.size_push, hz]
  have e1 : H1[X.1 + n]? = some (arrV cA v.toNatClampNeg (fun _ => .null)) := by rw [← hH1, ← hz, Array.getElem?_push_size, ← arrV_new]
  have o1 : ∀ q : Nat, q < X.1 + n → H1[q]? = H[q]? := fun q hq => by rw [← hH1, Array.getElem?_push, if_neg (by omega)]
  obtain ⟨kA2, comp2, -, -, -, g4⟩ := (hE.1.2 2 _ rfl).2
  have hcA : cA = X.2.2.1 2 := Option.some.inj (f1.symm.trans g4)
  subst hcA
  have hn := hH.new (v := .inl (X.2.2.1 2, v.toNatClampNeg, .inr (.inr (.inr (.inr (fun _ => none)))))) (by show H1[X.1 + n]? = some (vp_cell _ _); rw [vp_cell_q]; exact e1) z1 o1
  have hst0 : (JX (p, l, e, R, s, m, args, below, meth, c, c9, s9) (c0 + 1) (s0 + v.toNatClampNeg) Z H1 locs (pc + 3) ls (.ref (X.1 + n) :: st)) := k H1 locs ls hn ⟨Nat.le_trans hS.1 (by have := hH.1; omega), fun x h1 h2 => (o1 x (Nat.lt_of_lt_of_le h1 (by have := hS.1; have := hH.1; omega))).trans (hS.2.1 x h1 h2), hS.2.2⟩ hl
  rw [hz]
  exact hst0
theorem JI_newR {v : Int32} {N index : Nat} (hK : OkI K X own cc nL kk mc ms) (hd : DD cc pc (.anewarray index) 3 pc') (hcl : Cond.classLink own index "TugLines$Row" ∈ lw_tbl) (hv : ¬ v < 0) (hN : v.toNatClampNeg = N) (hby : N ≤ 100000) (h1 : c0 + 1 ≤ mc) (h2 : s0 + N ≤ ms) (k : JI K X nL Z (c0 + 1) (s0 + N) pc' lv (.ref (X.1 + n) :: st) (n + 1) (ov hp n (.inl (X.2.2.1 3, N, .inr (.inr (.inr (.inr (fun _ => none)))))))) : JI K X nL Z c0 s0 pc lv (.int v :: st) n hp := by
  obtain ⟨p, l, e, R, s, m, args, below, meth, c, c9, s9⟩ := K
  obtain ⟨hx, hb, hml, hown, hts, hlk, hE, hfr, hlo, hce, hsl9, hX1⟩ := hK
  obtain ⟨hd, rfl⟩ := hd
  intro H locs ls hH hS hl
  subst hN
  refine W.anew hx hb hown (hts _ (lw_in hcl rfl)) (va_AO.use hE.2.2) rfl hd rfl hv (by omega) (by omega) (by omega) fun cA kA comp f1 f2 f3 f4 => ?_
  generalize hH1 : H.push ({ cls := cA, slots := Array.replicate v.toNatClampNeg .null, vm := .none } : Cell) = H1
  have hz := hH.1
  have z1 : H1.size = X.1 + n + 1 := by rw [← hH1, Array.size_push, hz]
  have e1 : H1[X.1 + n]? = some (arrV cA v.toNatClampNeg (fun _ => .null)) := by rw [← hH1, ← hz, Array.getElem?_push_size, ← arrV_new]
  have o1 : ∀ q : Nat, q < X.1 + n → H1[q]? = H[q]? := fun q hq => by rw [← hH1, Array.getElem?_push, if_neg (by omega)]
  obtain ⟨kA2, comp2, -, -, -, g4⟩ := (hE.1.2 3 _ rfl).2
  have hcA : cA = X.2.2.1 3 := Option.some.inj (f1.symm.trans g4)
  subst hcA
  have hn := hH.new (v := .inl (X.2.2.1 3, v.toNatClampNeg, .inr (.inr (.inr (.inr (fun _ => none)))))) (by show H1[X.1 + n]? = some (vp_cell _ _); rw [vp_cell_q]; exact e1) z1 o1
  have hst0 : (JX (p, l, e, R, s, m, args, below, meth, c, c9, s9) (c0 + 1) (s0 + v.toNatClampNeg) Z H1 locs (pc + 3) ls (.ref (X.1 + n) :: st)) := k H1 locs ls hn ⟨Nat.le_trans hS.1 (by have := hH.1; omega), fun x h1 h2 => (o1 x (Nat.lt_of_lt_of_le h1 (by have := hS.1; have := hH.1; omega))).trans (hS.2.1 x h1 h2), hS.2.2⟩ hl
  rw [hz]
  exact hst0
theorem JI_objInit {q idx : Nat} (hK : OkI K X own cc nL kk mc ms) (hd : DD cc pc (.invokespecial idx) 3 pc') (hlink : Cond.methodLink own idx Lib.objectInit ∈ lw_tbl) (hinst : Cond.instanceMethod Lib.objectInit ∈ lw_tbl) (hcode : Cond.code Lib.objectInit ⟨#[0xb1]⟩ 1 none ∈ lw_tbl) (hk : 1 ≤ kk) (hcat : (st.map fun v => v.category).sum ≤ 8) (k : JI K X nL Z c0 s0 pc' lv st n hp) : JI K X nL Z c0 s0 pc lv (.ref q :: st) n hp := by
  obtain ⟨p, l, e, R, s, m, args, below, meth, c, c9, s9⟩ := K
  obtain ⟨hx, hb, hml, hown, hts, hlk, hE, hfr, hlo, hce, hsl9, hX1⟩ := hK
  obtain ⟨hd, rfl⟩ := hd
  intro H locs ls hH hS hl
  exact W.objInit hx hb hown (hts _ (lw_in hlink rfl)) (hts _ (lw_in hinst rfl)) (hts _ (lw_in hcode rfl)) rfl (hl.1.trans hml.symm) rfl hd (by omega) (by show 2 * 0 + _ + 12 ≤ _; omega) (k H locs ls hH hS hl)
theorem JI_callI {j index n' mc' ms' : Nat} {y : MethodName} {cb : ByteArray} {nb q : Nat} {hp' : Nat → va_E} (hK : OkI K X own cc nL kk mc ms) (hd : DD cc pc (.invokespecial index) 3 pc') (hB : CB own index y cb nb none 0) (hI : Cond.instanceMethod y ∈ lw_tbl) (hyn : y.name = "<init>") (hj : j + 1 ≤ kk) (hcat : (st.map fun v => v.category).sum ≤ 8) (h1 : c0 + mc' ≤ mc) (h2 : s0 + ms' ≤ ms) (hM : DoesI (kL K) X j y cb nb mc' ms' [.ref (X.1 + q)] n hp n' hp') (k : JI K X nL Z (c0 + mc') (s0 + ms') pc' lv st n' hp') : JI K X nL Z c0 s0 pc lv (.ref (X.1 + q) :: st) n hp := by
  obtain ⟨p, l, e, R, s, m, args, below, meth, c, c9, s9⟩ := K
  obtain ⟨hx, hb, hml, hown, hts, hlk, hE, hfr, hlo, hce, hsl9, hX1⟩ := hK
  obtain ⟨hd, rfl⟩ := hd
  intro H locs ls hH hS hl
  obtain ⟨b1, b2, b3, b4, b5⟩ := hB
  have cb' : CallB R s args own index y cb nb none (.code y cb nb none :: lw_g) (rmi j mc' ms') mc' ms' 0 := by
    refine callB_of 0 hts (fun w hw => ?_) rfl rfl rfl (hts _ (lw_in b3 rfl)) (hts _ (lw_in b1 rfl)) b4 ⟨?_, ?_⟩
    · rcases List.mem_cons.mp hw with rfl | hw
      · exact lw_gG _ (lw_in b2 rfl)
      · exact lw_gG w hw
    · show j + 1 ≤ R.frames
      omega
    · show 8 + (nb + 11) + 64 * j ≤ R.locals
      omega
  have hr := va_runI (p := p) (l := l) (e := e) (R := R) (s := s) (m := m) (args := args) (below := below) (meth := meth) (c := c) (H := H) (locs := locs) (cells := c0) (slots := s0) (As := []) (rest := st) (b := X.1 + q) (g := F0 m pc ls (.ref (X.1 + q) :: st)) ⟨hx, hb, hml, hown, hts⟩ hM ⟨cb', hyn, hts _ (lw_in hI rfl)⟩ ⟨PmI.blind, fun U hU hW => ⟨rfl, hE.go hW.alike, by rw [hU]; exact hH⟩⟩ rfl rfl hl.1 rfl (lv_room hcat) hd ⟨by omega, by omega⟩
  intro T hT X0
  obtain ⟨v', st₀, t, T', L, h0, X', hL, e1, e2, ⟨hv, hP, hz, hk⟩, stp⟩ := hr T hT X0
  cases hv
  rw [h0] at hz hk
  obtain ⟨t2, a1, b1⟩ := k T'.heap (locs ++ L) ls (by rw [e1]; exact hP)
    ⟨Nat.le_trans hS.1 (by rw [e1]; exact hz), fun q h1 h2 => by rw [e1, hk q (Nat.lt_of_lt_of_le h1 hS.1) h2]; exact hS.2.1 q h1 h2, fun q hq => by
      rcases List.mem_append.mp hq with h | h
      · exact hS.2.2 q h
      · exact hL q h⟩ hl T' rfl X'
  exact ⟨t2, stp t2 a1, b1⟩
theorem JI_ret (hK : OkI K X own cc nL kk mc ms) (hC : OkC K) (hd : DD cc pc .return_ 1 pc') (h1 : c0 ≤ mc) (h2 : s0 ≤ ms) : JI K X nL (Zi K X mc ms n hp) c0 s0 pc lv [] n hp := by
  obtain ⟨p, l, e, R, s, m, args, below, meth, c, c9, s9⟩ := K
  obtain ⟨hx, hb, hml, hown, hts, hlk, hE, hfr, hlo, hce, hsl9, hX1⟩ := hK
  obtain ⟨hd, rfl⟩ := hd
  intro H locs ls hH hS hl
  exact W.widen h1 h2 (W.vret (cc := cc) hx hb hC.2 (fun t ht hW => ⟨rfl, by rw [ht]; exact hH, hS.F ht⟩) hS.2.2 hd hlk)
end JM
