/-! The flat heap: 291 cells from a base on, each of a kind (0 Acts, 1 Asker, 2 Estuary, 3 Row, 4 Tape, 5 TugLines, 6 the reference, 7 int[], 8 boolean[], 9 Estuary[], 10 Row[]); what isn't a reference is an int, by cell and place. References are fixed. -/
abbrev AH : Type := Nat → Nat → Int32
abbrev WX : Type := Nat × va_G × (Nat → ClassId) × (Nat → Nat)
def kdL : List Nat := [5, 10, 3, 7, 3, 7, 3, 7, 3, 7, 3, 7, 3, 7, 3, 7, 3, 7, 4, 7, 2, 7, 7, 7, 7, 7, 7, 0, 9, 2, 7, 7, 7, 7, 7, 7, 2, 7, 7, 7, 7, 7, 7, 2, 7, 7, 7, 7, 7, 7, 2, 7, 7, 7, 7, 7, 7, 2, 7, 7, 7, 7, 7, 7, 2, 7, 7, 7, 7, 7, 7, 2, 7, 7, 7, 7, 7, 7, 2, 7, 7, 7, 7, 7, 7, 2, 7, 7, 7, 7, 7, 7, 2, 7, 7, 7, 7, 7, 7, 2, 7, 7, 7, 7, 7, 7, 2, 7, 7, 7, 7, 7, 7, 2, 7, 7, 7, 7, 7, 7, 2, 7, 7, 7, 7, 7, 7, 2, 7, 7, 7, 7, 7, 7, 2, 7, 7, 7, 7, 7, 7, 2, 7, 7, 7, 7, 7, 7, 2, 7, 7, 7, 7, 7, 7, 2, 7, 7, 7, 7, 7, 7, 2, 7, 7, 7, 7, 7, 7, 2, 7, 7, 7, 7, 7, 7, 2, 7, 7, 7, 7, 7, 7, 2, 7, 7, 7, 7, 7, 7, 2, 7, 7, 7, 7, 7, 7, 9, 2, 7, 7, 7, 7, 7, 7, 2, 7, 7, 7, 7, 7, 7, 9, 2, 7, 7, 7, 7, 7, 7, 2, 7, 7, 7, 7, 7, 7, 2, 7, 7, 7, 7, 7, 7, 2, 7, 7, 7, 7, 7, 7, 2, 7, 7, 7, 7, 7, 7, 2, 7, 7, 7, 7, 7, 7, 2, 7, 7, 7, 7, 7, 7, 2, 7, 7, 7, 7, 7, 7, 2, 7, 7, 7, 7, 7, 7, 1, 7, 6, 7, 7, 7, 7, 7, 7, 7, 7, 7, 7, 8, 7]
def lnL : List Nat := [0, 8, 0, 40, 0, 40, 0, 40, 0, 40, 0, 40, 0, 40, 0, 40, 0, 40, 0, 90, 0, 6, 6, 6, 6, 4, 4, 0, 24, 0, 6, 6, 6, 6, 4, 4, 0, 6, 6, 6, 6, 4, 4, 0, 6, 6, 6, 6, 4, 4, 0, 6, 6, 6, 6, 4, 4, 0, 6, 6, 6, 6, 4, 4, 0, 6, 6, 6, 6, 4, 4, 0, 6, 6, 6, 6, 4, 4, 0, 6, 6, 6, 6, 4, 4, 0, 6, 6, 6, 6, 4, 4, 0, 6, 6, 6, 6, 4, 4, 0, 6, 6, 6, 6, 4, 4, 0, 6, 6, 6, 6, 4, 4, 0, 6, 6, 6, 6, 4, 4, 0, 6, 6, 6, 6, 4, 4, 0, 6, 6, 6, 6, 4, 4, 0, 6, 6, 6, 6, 4, 4, 0, 6, 6, 6, 6, 4, 4, 0, 6, 6, 6, 6, 4, 4, 0, 6, 6, 6, 6, 4, 4, 0, 6, 6, 6, 6, 4, 4, 0, 6, 6, 6, 6, 4, 4, 0, 6, 6, 6, 6, 4, 4, 0, 6, 6, 6, 6, 4, 4, 0, 6, 6, 6, 6, 4, 4, 2, 0, 6, 6, 6, 6, 4, 4, 0, 6, 6, 6, 6, 4, 4, 9, 0, 6, 6, 6, 6, 4, 4, 0, 6, 6, 6, 6, 4, 4, 0, 6, 6, 6, 6, 4, 4, 0, 6, 6, 6, 6, 4, 4, 0, 6, 6, 6, 6, 4, 4, 0, 6, 6, 6, 6, 4, 4, 0, 6, 6, 6, 6, 4, 4, 0, 6, 6, 6, 6, 4, 4, 0, 6, 6, 6, 6, 4, 4, 0, 16, 0, 8, 8, 320, 40, 90, 43, 43, 43, 1032, 86, 2, 16]
def kd (k : Nat) : Nat := kdL.getD k 99
def ln (k : Nat) : Nat := lnL.getD k 0
def lay (X : WX) (h : AH) (k : Nat) : va_E := match kd k with
  | 0 => .inr (0, [.ref (X.1 + (k + 1)), .int (h k 1), .int (h k 2)])
  | 1 => .inr (1, [.ref (X.1 + (k + 1)), .int (h k 1)])
  | 2 => .inr (2, [.int (h k 0), .int (h k 1), .int (h k 2), .int (h k 3), .int (h k 4), .int (h k 5), .ref (X.1 + (k + 1)), .ref (X.1 + (k + 2)), .ref (X.1 + (k + 3)), .ref (X.1 + (k + 4)), .ref (X.1 + (k + 5)), .ref (X.1 + (k + 6))])
  | 3 => .inr (3, [.ref (X.1 + (k + 1)), .int (h k 1), .int (h k 2)])
  | 4 => .inr (4, [.ref (X.1 + (k + 1)), .int (h k 1), .int (h k 2), .int (h k 3), .int (h k 4)])
  | 5 => .inr (5, [.ref (X.1 + (k + 1)), .ref (X.1 + (k + 18)), .ref (X.1 + (k + 20)), .ref (X.1 + (k + 27)), .ref (X.1 + (k + 197)), .ref (X.1 + (k + 212)), .ref (X.1 + (k + 276)), .int (h k 7)])
  | 6 => .inr (6, [.ref (X.1 + (k + 1)), .ref (X.1 + (k + 2)), .ref (X.1 + (k + 3)), .ref (X.1 + (k + 4)), .int (h k 4), .ref (X.1 + (k + 5)), .int (h k 6), .int (h k 7), .int (h k 8), .int (h k 9), .int (h k 10), .int (h k 11), .int (h k 12), .ref (X.1 + (k + 6)), .ref (X.1 + (k + 7)), .ref (X.1 + (k + 8)), .ref (X.1 + (k + 9)), .int (h k 17), .ref (X.1 + (k + 10)), .ref (X.1 + (k + 11)), .ref (X.1 + (k + 12)), .int (h k 21)])
  | 7 => .inl (X.2.2.1 0, ln k, .inl (h k))
  | 8 => .inl (X.2.2.1 1, ln k, .inl (h k))
  | 9 => .inl (X.2.2.1 2, ln k, .inr (.inr (.inr (.inr (fun j => some (X.1 + (k + 1 + 7 * j)))))))
  | 10 => .inl (X.2.2.1 3, ln k, .inr (.inr (.inr (.inr (fun j => some (X.1 + (k + 1 + 2 * j)))))))
  | _ => .inr (99, [])
def wl (X : WX) (h : AH) : va_W := (List.range 291).map (fun k => (X.1 + k, lay X h k))
def Hp (X : WX) (h : AH) (H : Heap) : Prop := va_P X.2.1 vwCl (wl X h) H
abbrev xA (X : WX) : Nat → Prop := fun q => X.1 ≤ q
abbrev xT (X : WX) : List (ClassId × FieldType) := [(X.2.2.1 0, .int), (X.2.2.1 1, .boolean), (X.2.2.1 2, .object "TugLines$Estuary"), (X.2.2.1 3, .object "TugLines$Row")]
def hr (h : AH) (k : Nat) (f : Nat → Int32) : AH := fun q => if q = k then f else h q
def hs (h : AH) (k j : Nat) (v : Int32) : AH := hr h k (upd (h k) j v)
theorem kdL_len : kdL.length = 291 := by decide +kernel
theorem kd_lt {k c : Nat} (h : kd k = c) (hc : c < 99) : k < 291 := by
  rcases Nat.lt_or_ge k 291 with q | q
  · exact q
  · have e : kd k = 99 := by
      unfold kd
      rw [List.getD_eq_getElem?_getD, List.getElem?_eq_none (by rw [kdL_len]; exact q)]
      rfl
    omega
theorem hr_eq (h : AH) (k : Nat) (f : Nat → Int32) : hr h k f k = f := by simp [hr]
theorem hr_ne (h : AH) {k q : Nat} (f : Nat → Int32) (e : q ≠ k) : hr h k f q = h q := by simp [hr, e]
theorem lay_ne (X : WX) (h : AH) {k q : Nat} (f : Nat → Int32) (e : q ≠ k) : lay X (hr h k f) q = lay X h q := by
  simp only [lay, hr_ne h f e]
theorem wl_get (X : WX) (h : AH) {k : Nat} (hk : k < 291) : (wl X h)[k]? = some (X.1 + k, lay X h k) := by
  simp [wl, hk]
theorem wl_out (X : WX) (h : AH) {k : Nat} {q : Nat × va_E} (e : (wl X h)[k]? = some q) : k < 291 ∧ q = (X.1 + k, lay X h k) := by
  have hk : k < 291 := by
    have := (List.getElem?_eq_some_iff.mp e).1
    simpa [wl] using this
  rw [wl_get X h hk] at e
  exact ⟨hk, (Option.some.inj e).symm⟩
theorem wl_set (X : WX) (h : AH) {k : Nat} (hk : k < 291) (f : Nat → Int32) {v : va_E} (hv : lay X (hr h k f) k = v) : (wl X h).set k (X.1 + k, v) = wl X (hr h k f) := by
  apply List.ext_getElem?
  intro j
  by_cases hj : j < 291
  · rw [wl_get X _ hj]
    by_cases e : j = k
    · subst e
      rw [List.getElem?_set_self (by simpa [wl] using hj), hv]
    · rw [List.getElem?_set_ne (fun q => e q.symm), wl_get X h hj, lay_ne X h f e]
  · rw [List.getElem?_eq_none (by simp [wl]; omega), List.getElem?_eq_none (by simp [wl]; omega)]
theorem wl_D (X : WX) (h : AH) : va_D (xA X) (wl X h) := by
  refine ⟨fun i j p q hi hj hpq => ?_, fun k q hk => ?_⟩
  · obtain ⟨_, rfl⟩ := wl_out X h hi
    obtain ⟨_, rfl⟩ := wl_out X h hj
    have : X.1 + i = X.1 + j := hpq
    omega
  · obtain ⟨_, rfl⟩ := wl_out X h hk
    exact Nat.le_add_right _ _
theorem lay_0 (X : WX) (h : AH) {k : Nat} (e : kd k = 0) : lay X h k = .inr (0, [.ref (X.1 + (k + 1)), .int (h k 1), .int (h k 2)]) := by simp only [lay, e]
theorem lay_1 (X : WX) (h : AH) {k : Nat} (e : kd k = 1) : lay X h k = .inr (1, [.ref (X.1 + (k + 1)), .int (h k 1)]) := by simp only [lay, e]
theorem lay_2 (X : WX) (h : AH) {k : Nat} (e : kd k = 2) : lay X h k = .inr (2, [.int (h k 0), .int (h k 1), .int (h k 2), .int (h k 3), .int (h k 4), .int (h k 5), .ref (X.1 + (k + 1)), .ref (X.1 + (k + 2)), .ref (X.1 + (k + 3)), .ref (X.1 + (k + 4)), .ref (X.1 + (k + 5)), .ref (X.1 + (k + 6))]) := by simp only [lay, e]
theorem lay_3 (X : WX) (h : AH) {k : Nat} (e : kd k = 3) : lay X h k = .inr (3, [.ref (X.1 + (k + 1)), .int (h k 1), .int (h k 2)]) := by simp only [lay, e]
theorem lay_4 (X : WX) (h : AH) {k : Nat} (e : kd k = 4) : lay X h k = .inr (4, [.ref (X.1 + (k + 1)), .int (h k 1), .int (h k 2), .int (h k 3), .int (h k 4)]) := by simp only [lay, e]
theorem lay_5 (X : WX) (h : AH) {k : Nat} (e : kd k = 5) : lay X h k = .inr (5, [.ref (X.1 + (k + 1)), .ref (X.1 + (k + 18)), .ref (X.1 + (k + 20)), .ref (X.1 + (k + 27)), .ref (X.1 + (k + 197)), .ref (X.1 + (k + 212)), .ref (X.1 + (k + 276)), .int (h k 7)]) := by simp only [lay, e]
theorem lay_6 (X : WX) (h : AH) {k : Nat} (e : kd k = 6) : lay X h k = .inr (6, [.ref (X.1 + (k + 1)), .ref (X.1 + (k + 2)), .ref (X.1 + (k + 3)), .ref (X.1 + (k + 4)), .int (h k 4), .ref (X.1 + (k + 5)), .int (h k 6), .int (h k 7), .int (h k 8), .int (h k 9), .int (h k 10), .int (h k 11), .int (h k 12), .ref (X.1 + (k + 6)), .ref (X.1 + (k + 7)), .ref (X.1 + (k + 8)), .ref (X.1 + (k + 9)), .int (h k 17), .ref (X.1 + (k + 10)), .ref (X.1 + (k + 11)), .ref (X.1 + (k + 12)), .int (h k 21)]) := by simp only [lay, e]
theorem lay_7 (X : WX) (h : AH) {k : Nat} (e : kd k = 7) : lay X h k = .inl (X.2.2.1 0, ln k, .inl (h k)) := by simp only [lay, e]
theorem lay_8 (X : WX) (h : AH) {k : Nat} (e : kd k = 8) : lay X h k = .inl (X.2.2.1 1, ln k, .inl (h k)) := by simp only [lay, e]
theorem lay_9 (X : WX) (h : AH) {k : Nat} (e : kd k = 9) : lay X h k = .inl (X.2.2.1 2, ln k, .inr (.inr (.inr (.inr (fun j => some (X.1 + (k + 1 + 7 * j))))))) := by simp only [lay, e]
theorem lay_10 (X : WX) (h : AH) {k : Nat} (e : kd k = 10) : lay X h k = .inl (X.2.2.1 3, ln k, .inr (.inr (.inr (.inr (fun j => some (X.1 + (k + 1 + 2 * j))))))) := by simp only [lay, e]
/-! What is the same all along: the classes' numbers, the static arrays. -/
def stN (i : Nat) : String × String := match i with
  | 0 => ("TugLines", "MOST_SUPPOSED")
  | 1 => ("TugLines", "ALSO")
  | 2 => ("TugLines$Asker", "SIZE_BODY")
  | _ => ("TugLines$Asker", "MARK_BODY")
def stL (i : Nat) : List Int32 := match i with
  | 0 => [5, 20, 20, 60, 60]
  | 1 => [-1, 0, 1, 1, 0, 4]
  | 2 => [10, 11, 12, 11, 13, 14]
  | _ => [20, 21, 24, 22, 23, 23]
def stV (i j : Nat) : Int32 := (stL i).getD j 0
def xEnv (X : WX) (U : State) : Prop := va_K X.2.1 vwCl (xT X) U ∧ ∀ i, i < 4 → va_Z (stN i).1 (stN i).2 "[I" (.ref (X.2.2.2 i)) (xA X) U U.heap ∧ va_T .int (X.2.2.2 i) (stL i).length (fun j => .int (stV i j)) (xA X) U U.heap
theorem xEnv.go {X : WX} {u U : State} (hvm : u.vm.Alike U.vm) (hq : ∀ a : Nat, a < u.heap.size → ¬ xA X a → U.heap[a]? = u.heap[a]?) (h : xEnv X u) : xEnv X U :=
  ⟨h.1.moved hvm, fun i hi => ⟨((h.2 i hi).1.moved hvm).kept hq, ((h.2 i hi).2.moved hvm).kept hq⟩⟩
def lw_g : List Cond := lw_tbl.filter goodWord
theorem lw_in {w : Cond} (h : w ∈ lw_tbl) (hg : goodWord w = true) : w ∈ lw_g := List.mem_filter.mpr ⟨h, hg⟩
theorem lw_gG : GoodIn lw_g lw_g := fun w h => ⟨h, good_of_word (List.mem_filter.mp h).2⟩
abbrev MC : Type := Program × Launch × Env × Room × State × MethodId × Array Value × List Frame × Method × Code × Nat × Nat
def Ok (K : MC) (X : WX) (own : String) (cc : ByteArray) (nL : Nat) (ret : Option FieldType) (kk : Nat) : Prop := match K with
  | (p, _, _, R, s, m, args, _, meth, c, cells, slots) => p.tables.exec = Jvm.exec ∧ c.code = cc ∧ c.maxLocals = nL ∧ s.vm.findClass own = some m.cls ∧ (∀ w ∈ lw_g, w.before args s = true) ∧ meth.locks = false ∧ meth.sig.returnType = ret ∧ xEnv X s ∧ kk ≤ R.frames ∧ 64 * kk ≤ R.locals ∧ cells ≤ R.cells ∧ slots ≤ R.slots
def JW (K : MC) (Z : State → Prop) (H : Heap) (locs : List Loc) (pc : Nat) (ls : Array Slot) (st : List Value) : Prop := match K with
  | (p, l, e, R, s, m, args, below, meth, c, cells, slots) => W p l e R s m args below meth c H locs cells slots Z (F0 m pc ls st)
def kS (K : MC) : State := K.2.2.2.2.1
def kL (K : MC) : Launch := K.2.1
/-- the code at pc, with these locals, stack and heap, does what the term o says: where o is some (r, h'), it comes to Z of r and h' -/
def J {α : Type} (K : MC) (X : WX) (nL : Nat) (Z : Option Value → AH → State → Prop) (enc : α → Option Value) (pc : Nat) (lv : List (Nat × Value)) (st : List Value) (h : AH) (o : Option (α × AH)) : Prop :=
  ∀ (r : α) (h' : AH), o = some (r, h') → ∀ (H : Heap) (locs : List Loc) (ls : Array Slot), Hp X h H → va_S (xA X) (kS K).heap H locs → lv_has ls nL lv → JW K (Z (enc r) h') H locs pc ls st
abbrev DD (cc : ByteArray) (pc : Nat) (i : Instr) (len pc' : Nat) : Prop := decode cc pc = .ok (i, len) ∧ pc + len = pc'
abbrev DT (pc : Nat) (off : Int) (tgt : Nat) : Prop := (pc : Int) + off = (tgt : Int)
abbrev inb (i : Int32) (n : Nat) : Prop := ¬ (i < 0 ∨ n ≤ i.toNatClampNeg)
def chk {α : Type} (c : Prop) [Decidable c] (o : Option α) : Option α := if c then o else none
def sto {β : Type} (h : AH) (k : AH → β) : β := k h
def vl {α β : Type} (v : α) (k : α → β) : β := k v
theorem chk_some {α : Type} {c : Prop} [Decidable c] {o : Option α} {v : α} (h : chk c o = some v) : c ∧ o = some v := by
  unfold chk at h
  split at h
  · exact ⟨by assumption, h⟩
  · cases h
def eI : Int32 → Option Value := fun v => some (.int v)
def eV : Unit → Option Value := fun _ => none
def eR (X : WX) : Nat → Option Value := fun a => some (.ref (X.1 + a))
