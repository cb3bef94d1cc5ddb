/-! THE CLAIM OUT OF ONE WALK OF THE LAW'S BODY. Your part is whole_start (and what it stands on); all else here is the same for every law, but numbers. -/
def R_law : String := "TugLinesLaw"
def lw_P (b : Addr) (xs : List Int32) (args : Array Value) (s : State) : Prop := args = #[.ref b] ∧ s.IntsAt b xs ∧ xs.length ≤ 3072 ∧ (Jvm.Cond.and given_1 narrow_1).before args s = true
def lw_Q (_ : Array Value) (s : State) (o : Outcome) (t : State) : Prop := o = .returned (some (.int 1)) ∧ Framed s o t [] 600000 7302250
def lw_Z (below : List Frame) (a : Array Value) (s : State) : State → Prop := fun t => ∃ o, t.status = .running ∧ Ended t below o ∧ lw_Q a s o t
/-- the law's own end, with 1 on the stack, nothing written that was there before, its room as the claim has it -/
theorem lw_ret {p : Program} {l : Launch} {e : Env} {s : State} {m : MethodId} {below : List Frame} {meth : Method} {c : Code} {b : Nat} (hx : p.tables.exec = Jvm.exec) (hb : c.code = code) (hr : meth.sig.returnType = ret) (hlocks : meth.locks = false) {pc : Nat} {H : Heap} {ls : Array Slot} (hdg : decode code pc = .ok (.ireturn, 1)) : W p l e room_1 s m #[Value.ref b] below meth c H [] 600000 7302250 (lw_Z below #[Value.ref b] s) (F0 m pc ls [.int 1]) := by
  intro T hT X
  obtain ⟨fs, hret, hrun, hended, hW, hframe⟩ := X.leave (v := some (.int 1)) (hlocks := hlocks) (fun h => by rw [hr] at h; cases h)
  have hmeth' : T.vm.method? m = some meth := X.method'
  refine ⟨T.setFrames fs, ?_, .returned (some (.int 1)), hrun, hended, rfl, ⟨_, rfl⟩, hW, hframe⟩
  jvm_step X.here [X.here.top, hx, hb, hdg, hmeth', hr, ret, narrow_b1]
  (try refine ⟨rfl, ?_⟩); (try refine ⟨rfl, ?_⟩)
  first | (intro acts; rw [hret _ acts rfl rfl rfl]) | rw [hret _ _ rfl rfl rfl]
  exact Steps.refl _
/-- what holds at the law's entry: the machine, the code, the tables' words (any of lw_tbl by 'hts w (by decide +kernel)'), the script of L ints xs at the cell b, what the Statement gives of the start (any of its parts by flat_of_before) -/
def lw_At (p : Program) (s : State) (m : MethodId) (meth : Method) (c : Code) (b L : Nat) (xs : Nat → Int32) : Prop :=
  p.tables.exec = Jvm.exec ∧ c.code = code ∧ meth.sig.returnType = ret ∧ c.maxLocals = 4 ∧ s.vm.findClass R_law = some m.cls ∧ (∀ w ∈ lw_tbl, w.before #[Value.ref b] s = true) ∧ va_X b L xs s s.heap ∧ b < s.heap.size ∧ meth.locks = false ∧ (Jvm.Cond.and given_1 narrow_1).before #[Value.ref b] s = true

def Zl (b : Nat) (K : MC) (_ : Option Value) (_ : AH) : State → Prop := match K with
  | (_, _, _, _, s, _, _, below, _, _, _, _) => lw_Z below #[Value.ref b] s
/-- what the law's loop stands on: the script, its room -/
def Lc (K : MC) (X : WX) (b L : Nat) (xs : Nat → Int32) : Prop := match K with
  | (_, _, _, R, s, _, args, _, _, _, cells, slots) => va_X b L xs s s.heap ∧ b < s.heap.size ∧ X.1 = s.heap.size ∧ args = #[Value.ref b] ∧ cells ≤ 600000 ∧ slots ≤ 7302250 ∧ R = room_1
section JL
variable {α : Type} {K : MC} {X : WX} {nL : Nat} {Z : Option Value → AH → State → Prop} {enc : α → Option Value} {own : String} {cc : ByteArray} {ret : Option FieldType} {kk pc pc' : Nat} {lv : List (Nat × Value)} {st : List Value} {h : AH} {o : Option (α × AH)} {b L : Nat} {xs : Nat → Int32}
theorem J_sld {i : Int32} (hK : Ok K X own cc nL ret kk) (hL : Lc K X b L xs) (hd : DD cc pc .iaload 1 pc') (k : J K X nL Z enc pc' lv (.int (xs i.toNatClampNeg) :: st) h o) : J K X nL Z enc pc lv (.int i :: .ref b :: st) h (chk (inb i L) o) := by
  obtain ⟨p, l, e, R, s, m, args, below, meth, c, cells, slots⟩ := K
  obtain ⟨hx, hb, hml, hown, hts, hlk, hrt, hE, hfr, hlo, hce, hsl⟩ := hK
  obtain ⟨hX, hbl, hXs, -, -, -, -⟩ := hL
  obtain ⟨hd, rfl⟩ := hd
  intro r h' ho H locs ls hH hS hl
  obtain ⟨hin, ho⟩ := chk_some ho
  exact va_sld hx hb hX hbl (by show ¬ X.1 ≤ b; omega) hS hin hd (k r h' ho H locs ls hH hS hl)
theorem J_slenB (hK : Ok K X own cc nL ret kk) (hL : Lc K X b L xs) (hd : DD cc pc .arraylength 1 pc') (k : J K X nL Z enc pc' lv (.int (Int32.ofNat L) :: st) h o) : J K X nL Z enc pc lv (.ref b :: st) h o := by
  obtain ⟨p, l, e, R, s, m, args, below, meth, c, cells, slots⟩ := K
  obtain ⟨hx, hb, hml, hown, hts, hlk, hrt, hE, hfr, hlo, hce, hsl⟩ := hK
  obtain ⟨hX, hbl, hXs, -, -, -, -⟩ := hL
  obtain ⟨hd, rfl⟩ := hd
  intro r h' ho H locs ls hH hS hl
  exact va_slen hx hb hX hbl (by show ¬ X.1 ≤ b; omega) hS hd (k r h' ho H locs ls hH hS hl)
theorem JL_ret {v : α} (hK : Ok K X own code nL ret kk) (hr : ret = some .boolean) (hL : Lc K X b L xs) (hd : DD code pc .ireturn 1 pc') : J K X nL (Zl b K) enc pc lv [.int 1] h (some (v, h)) := by
  obtain ⟨p, l, e, R, s, m, args, below, meth, c, cells, slots⟩ := K
  obtain ⟨hx, hb, hml, hown, hts, hlk, hrt, hE, hfr, hlo, hce, hsl⟩ := hK
  obtain ⟨hX, hbl, hXs, rfl, h1, h2, rfl⟩ := hL
  subst hr
  intro r h' ho H locs ls hH hS hl
  cases ho
  refine va_forget (fun q hq => ?_) (W.widen h1 h2 (lw_ret hx hb (hrt.trans rfl) hlk hd.1))
  have : X.1 ≤ q.base := hS.2.2 q hq
  omega
end JL
