def Qm (X : WX) (v : Option Value) (h' : AH) : Array Value → State → Outcome → State → Prop := fun _ st oc t => oc = .returned v ∧ Hp X h' t.heap ∧ va_F (xA X) st t
def Pm (X : WX) (av : List Value) (h : AH) : Array Value → State → Prop := fun v U => v = av.toArray ∧ xEnv X U ∧ Hp X h U.heap
def rmk (k : Nat) : Room := { frames := k, cells := 0, slots := 0, locals := 64 * k }
/-- method y, called with av on a heap that holds h, returns v and leaves h' -/
def Does (l : Launch) (X : WX) (k : Nat) (y : MethodName) (cc : ByteArray) (nL : Nat) (ret : Option FieldType) (av : List Value) (h : AH) (v : Option Value) (h' : AH) : Prop :=
  Met l y (.code y cc nL ret :: lw_g) (rmk k) (Pm X av h) (Qm X v h') 0 0 (xA X)
def Zm (K : MC) (X : WX) (v : Option Value) (h' : AH) : State → Prop := match K with
  | (_, _, _, _, s, _, args, below, _, _, cells, slots) => MQ below (Qm X v h') args s cells slots (xA X)
theorem Does.of {α : Type} {l : Launch} {X : WX} {k : Nat} {y : MethodName} {cc : ByteArray} {nL : Nat} {ret : Option FieldType} {av : List Value} {h h' : AH} {r : α} {enc : α → Option Value} {o : Option (α × AH)} (hy : plainName y.cls = true) (hn : (lg_sl av).length ≤ nL) {lv : List (Nat × Value)} (hlv : lv_args 0 av = lv) (ho : o = some (r, h'))
    (body : ∀ K : MC, kL K = l → Ok K X y.cls cc nL ret k → J K X nL (Zm K X) enc 0 lv [] h o) : Does l X k y cc nL ret av h (enc r) h' := by
  refine Met.ofW (cc := cc) (maxL := nL) (ret := ret) hy rfl ?_
  intro p e s m args below meth c s₁ B hml hv
  obtain ⟨rfl, hE, hH⟩ := hv
  have hts := atoms_spec (ws := .code y cc nL ret :: lw_g) B.pre
  have hown : s.vm.findClass y.cls = some m.cls := findClass_of_methodNamed B.named
  have hK : Ok (p, l, e, (headSpec (.code y cc nL ret :: lw_g) (rmk k)).room, s, m, av.toArray, below, meth, c, 0, 0) X y.cls cc nL ret k :=
    ⟨B.exec, B.bytes, hml, hown, fun w hw => hts w (List.mem_cons_of_mem _ hw), B.notSynchronized, B.returns, hE, Nat.le_refl _, Nat.le_refl _, Nat.zero_le _, Nat.zero_le _⟩
  have hl := lv_entry av (n := nL) hn
  rw [hlv] at hl
  rw [lg_entry_eq]
  exact body _ rfl hK r h' ho s.heap [] _ hH va_S.rf hl
theorem Pm.blind {X : WX} {av : List Value} {h : AH} : FrameBlind (Pm X av h) := fun a U g mk q =>
  ⟨q.1, q.2.1.go (u := U) (U := U.calling g mk a) (Vm.Alike.refl U.vm) (fun _ _ _ => rfl), q.2.2⟩
theorem Pm.at {X : WX} {av : List Value} {h : AH} {s U : State} {H : Heap} {locs : List Loc} (hE : xEnv X s) (hS : va_S (xA X) s.heap H locs) (hH : Hp X h H) (hU : U.heap = H) (hW : s.WarmedH U.vm) : Pm X av h av.toArray U :=
  ⟨rfl, hE.go hW.alike (fun a h1 h2 => by rw [hU]; exact hS.2.1 a h1 h2), by rw [hU]; exact hH⟩
theorem CB.of {own : String} {index : Nat} {y : MethodName} {cc : ByteArray} {nL : Nat} {ret : Option FieldType} {n j kk : Nat} {R : Room} {s : State} {args : Array Value} (hB : CB own index y cc nL ret n) (hts : ∀ w ∈ lw_g, w.before args s = true) (hfr : kk ≤ R.frames) (hlo : 64 * kk ≤ R.locals) (hj : j + 1 ≤ kk) : CallB R s args own index y cc nL ret (.code y cc nL ret :: lw_g) (rmk j) 0 0 n := by
  obtain ⟨h1, h2, h3, h4, h5⟩ := hB
  refine callB_of n hts (fun w hw => ?_) rfl rfl rfl (hts _ (lw_in h3 rfl)) (hts _ (lw_in h1 rfl)) h4 ⟨?_, ?_⟩
  · rcases List.mem_cons.mp hw with rfl | hw
    · exact lw_gG _ (lw_in h2 rfl)
    · exact lw_gG w hw
  · show j + 1 ≤ R.frames
    omega
  · show 8 + (nL + 11) + 64 * j ≤ R.locals
    omega
theorem kd_recv {D : va_G} {tys : List (ClassId × FieldType)} {X : WX} {h : AH} {s : State} {H : Heap} {q ci : Nat} {C : vw_C} (hK : va_K X.2.1 vwCl tys s) (hH : Hp X h H) (hq : kd q = ci) (hci : ci < 7) (hc : vwCl[ci]? = some C) : ∃ cell : Cell, H[X.1 + q]? = some cell ∧ cell.vm.isStatics = false ∧ s.vm.findClass C.1 = some cell.cls := by
  have hlt : q < 291 := kd_lt hq (by omega)
  have key : ∃ fs, lay X h q = .inr (ci, fs) := by
    rcases (show ci = 0 ∨ ci = 1 ∨ ci = 2 ∨ ci = 3 ∨ ci = 4 ∨ ci = 5 ∨ ci = 6 by omega) with e | e | e | e | e | e | e <;> subst e
    · exact ⟨_, lay_0 X h hq⟩
    · exact ⟨_, lay_1 X h hq⟩
    · exact ⟨_, lay_2 X h hq⟩
    · exact ⟨_, lay_3 X h hq⟩
    · exact ⟨_, lay_4 X h hq⟩
    · exact ⟨_, lay_5 X h hq⟩
    · exact ⟨_, lay_6 X h hq⟩
  obtain ⟨fs, hf⟩ := key
  exact va_recv hK hH (ci := ci) (q0 := q) hc (by rw [wl_get X h hlt, hf])
def bnd {β γ : Type} (f : Option (β × AH)) (g : β → AH → Option γ) : Option γ := match f with
  | some p => g p.1 p.2
  | none => none
section JC
variable {α β : Type} {K : MC} {X : WX} {nL : Nat} {Z : Option Value → AH → State → Prop} {enc : α → Option Value} {own : String} {cc : ByteArray} {ret : Option FieldType} {kk pc pc' : Nat} {lv : List (Nat × Value)} {st : List Value} {h : AH} {o : Option (α × AH)}
theorem JW.call {p : Program} {l : Launch} {e : Env} {R : Room} {s : State} {m : MethodId} {args : Array Value} {below : List Frame} {meth : Method} {c : Code} {cells slots : Nat} {H : Heap} {locs : List Loc} {ls : Array Slot} {st0 rest : List Value} {a : Array Value} {v : Option Value} {h1 : AH} {Q : State → Prop}
    (hr : va_Run p l e R s m args below meth c H locs cells slots 0 0 (F0 m pc ls st0) rest (Qm X v h1 a) (xA X)) (hS : va_S (xA X) s.heap H locs)
    (kk : ∀ (H1 : Heap) (locs1 : List Loc), Hp X h1 H1 → va_S (xA X) s.heap H1 locs1 → W p l e R s m args below meth c H1 locs1 cells slots Q (F0 m (pc + 3) ls (v.toList ++ rest))) : W p l e R s m args below meth c H locs cells slots Q (F0 m pc ls st0) := by
  intro T hT X0
  obtain ⟨v', st₀, t, T', L, h0, X', hL, e1, e2, ⟨hv, hP, hz, hk⟩, st⟩ := hr T hT X0
  cases hv
  rw [h0] at hz hk
  obtain ⟨t2, a1, b1⟩ := kk T'.heap (locs ++ L) (by rw [e1]; exact hP)
    ⟨Nat.le_trans hS.1 (by rw [e1]; exact hz), fun q h1 h2 => by rw [e1, hk q (Nat.lt_of_lt_of_le h1 hS.1) h2]; exact hS.2.1 q h1 h2, fun q hq => by
      rcases List.mem_append.mp hq with h | h
      · exact hS.2.2 q h
      · exact hL q h⟩ T' rfl X'
  exact ⟨t2, st t2 a1, b1⟩
theorem J_callVi {j n index : Nat} {y : MethodName} {cb : ByteArray} {nb : Nat} {rb : Option FieldType} {q ci : Nat} {C : vw_C} {As st0 : List Value} {f : Option (Int32 × AH)} {g : Int32 → AH → Option (α × AH)} (hK : Ok K X own cc nL ret kk) (hd : DD cc pc (.invokevirtual index) 3 pc') (hB : CB own index y cb nb rb n) (hV : CV y) (hq : kd q = ci) (hci : ci < 7) (hc : vwCl[ci]? = some C) (hC : C.1 = y.cls) (hj : j + 1 ≤ kk) (hn : As.length = n) (hst : st0 = As.reverse ++ .ref (X.1 + q) :: st) (hcat : (st.map fun v => v.category).sum ≤ 8) (hM : ∀ (v : Int32) (h1 : AH), f = some (v, h1) → Does (kL K) X j y cb nb rb (.ref (X.1 + q) :: As) h (eI v) h1) (k : ∀ (v : Int32) (h1 : AH), J K X nL Z enc pc' lv (.int v :: st) h1 (g v h1)) : J K X nL Z enc pc lv st0 h (bnd f g) := by
  subst hst
  obtain ⟨p, l, e, R, s, m, args, below, meth, c, cells, slots⟩ := K
  obtain ⟨hx, hb, hml, hown, hts, hlk, hrt, hE, hfr, hlo, hce, hsl⟩ := hK
  obtain ⟨hd, rfl⟩ := hd
  intro r h' ho H locs ls hH hS hl
  cases hf : f with
  | none => rw [hf] at ho; cases ho
  | some w =>
    obtain ⟨v, h1⟩ := w
    rw [hf] at ho
    refine JW.call (pc := pc) (va_runV (As := As) (rest := st) ⟨hx, hb, hml, hown, hts⟩ (hM v h1 hf) ⟨hB.of hts hfr hlo hj, hts _ (lw_in hV.1 rfl), hts _ (lw_in hV.2 rfl)⟩ ⟨Pm.blind, (by rw [← hC]; exact kd_recv (D := X.2.1) hE.1 hH hq hci hc), fun U hU hW => Pm.at hE hS hH hU hW⟩ rfl hn hl.1 rfl (lv_room hcat) hd ⟨hce, hsl⟩) hS (fun H1 locs1 hP1 hS1 => k v h1 r h' ho H1 locs1 ls hP1 hS1 hl)
theorem J_callSi {j n index : Nat} {y : MethodName} {cb : ByteArray} {nb : Nat} {rb : Option FieldType} {As st0 : List Value} {f : Option (Int32 × AH)} {g : Int32 → AH → Option (α × AH)} (hK : Ok K X own cc nL ret kk) (hd : DD cc pc (.invokestatic index) 3 pc') (hB : CB own index y cb nb rb n) (hT : Cond.static y ∈ lw_tbl) (hj : j + 1 ≤ kk) (hn : As.length = n) (hst : st0 = As.reverse ++ st) (hcat : (st.map fun v => v.category).sum ≤ 8) (hM : ∀ (v : Int32) (h1 : AH), f = some (v, h1) → Does (kL K) X j y cb nb rb As h (eI v) h1) (k : ∀ (v : Int32) (h1 : AH), J K X nL Z enc pc' lv (.int v :: st) h1 (g v h1)) : J K X nL Z enc pc lv st0 h (bnd f g) := by
  subst hst
  obtain ⟨p, l, e, R, s, m, args, below, meth, c, cells, slots⟩ := K
  obtain ⟨hx, hb, hml, hown, hts, hlk, hrt, hE, hfr, hlo, hce, hsl⟩ := hK
  obtain ⟨hd, rfl⟩ := hd
  intro r h' ho H locs ls hH hS hl
  cases hf : f with
  | none => rw [hf] at ho; cases ho
  | some w =>
    obtain ⟨v, h1⟩ := w
    rw [hf] at ho
    refine JW.call (pc := pc) (va_runS (As := As) (rest := st) ⟨hx, hb, hml, hown, hts⟩ (hM v h1 hf) ⟨hB.of hts hfr hlo hj, hts _ (lw_in hT rfl)⟩ ⟨Pm.blind, fun U hU hW => Pm.at hE hS hH hU hW⟩ rfl hn hl.1 rfl (lv_room hcat) hd ⟨hce, hsl⟩) hS (fun H1 locs1 hP1 hS1 => k v h1 r h' ho H1 locs1 ls hP1 hS1 hl)
theorem J_callVv {j n index : Nat} {y : MethodName} {cb : ByteArray} {nb : Nat} {rb : Option FieldType} {q ci : Nat} {C : vw_C} {As st0 : List Value} {f : Option (Unit × AH)} {g : Unit → AH → Option (α × AH)} (hK : Ok K X own cc nL ret kk) (hd : DD cc pc (.invokevirtual index) 3 pc') (hB : CB own index y cb nb rb n) (hV : CV y) (hq : kd q = ci) (hci : ci < 7) (hc : vwCl[ci]? = some C) (hC : C.1 = y.cls) (hj : j + 1 ≤ kk) (hn : As.length = n) (hst : st0 = As.reverse ++ .ref (X.1 + q) :: st) (hcat : (st.map fun v => v.category).sum ≤ 8) (hM : ∀ (v : Unit) (h1 : AH), f = some (v, h1) → Does (kL K) X j y cb nb rb (.ref (X.1 + q) :: As) h (eV v) h1) (k : ∀ (v : Unit) (h1 : AH), J K X nL Z enc pc' lv (st) h1 (g v h1)) : J K X nL Z enc pc lv st0 h (bnd f g) := by
  subst hst
  obtain ⟨p, l, e, R, s, m, args, below, meth, c, cells, slots⟩ := K
  obtain ⟨hx, hb, hml, hown, hts, hlk, hrt, hE, hfr, hlo, hce, hsl⟩ := hK
  obtain ⟨hd, rfl⟩ := hd
  intro r h' ho H locs ls hH hS hl
  cases hf : f with
  | none => rw [hf] at ho; cases ho
  | some w =>
    obtain ⟨v, h1⟩ := w
    rw [hf] at ho
    refine JW.call (pc := pc) (va_runV (As := As) (rest := st) ⟨hx, hb, hml, hown, hts⟩ (hM v h1 hf) ⟨hB.of hts hfr hlo hj, hts _ (lw_in hV.1 rfl), hts _ (lw_in hV.2 rfl)⟩ ⟨Pm.blind, (by rw [← hC]; exact kd_recv (D := X.2.1) hE.1 hH hq hci hc), fun U hU hW => Pm.at hE hS hH hU hW⟩ rfl hn hl.1 rfl (lv_room hcat) hd ⟨hce, hsl⟩) hS (fun H1 locs1 hP1 hS1 => k v h1 r h' ho H1 locs1 ls hP1 hS1 hl)
theorem J_callSv {j n index : Nat} {y : MethodName} {cb : ByteArray} {nb : Nat} {rb : Option FieldType} {As st0 : List Value} {f : Option (Unit × AH)} {g : Unit → AH → Option (α × AH)} (hK : Ok K X own cc nL ret kk) (hd : DD cc pc (.invokestatic index) 3 pc') (hB : CB own index y cb nb rb n) (hT : Cond.static y ∈ lw_tbl) (hj : j + 1 ≤ kk) (hn : As.length = n) (hst : st0 = As.reverse ++ st) (hcat : (st.map fun v => v.category).sum ≤ 8) (hM : ∀ (v : Unit) (h1 : AH), f = some (v, h1) → Does (kL K) X j y cb nb rb As h (eV v) h1) (k : ∀ (v : Unit) (h1 : AH), J K X nL Z enc pc' lv (st) h1 (g v h1)) : J K X nL Z enc pc lv st0 h (bnd f g) := by
  subst hst
  obtain ⟨p, l, e, R, s, m, args, below, meth, c, cells, slots⟩ := K
  obtain ⟨hx, hb, hml, hown, hts, hlk, hrt, hE, hfr, hlo, hce, hsl⟩ := hK
  obtain ⟨hd, rfl⟩ := hd
  intro r h' ho H locs ls hH hS hl
  cases hf : f with
  | none => rw [hf] at ho; cases ho
  | some w =>
    obtain ⟨v, h1⟩ := w
    rw [hf] at ho
    refine JW.call (pc := pc) (va_runS (As := As) (rest := st) ⟨hx, hb, hml, hown, hts⟩ (hM v h1 hf) ⟨hB.of hts hfr hlo hj, hts _ (lw_in hT rfl)⟩ ⟨Pm.blind, fun U hU hW => Pm.at hE hS hH hU hW⟩ rfl hn hl.1 rfl (lv_room hcat) hd ⟨hce, hsl⟩) hS (fun H1 locs1 hP1 hS1 => k v h1 r h' ho H1 locs1 ls hP1 hS1 hl)
theorem J_callVr {j n index : Nat} {y : MethodName} {cb : ByteArray} {nb : Nat} {rb : Option FieldType} {q ci : Nat} {C : vw_C} {As st0 : List Value} {f : Option (Nat × AH)} {g : Nat → AH → Option (α × AH)} (hK : Ok K X own cc nL ret kk) (hd : DD cc pc (.invokevirtual index) 3 pc') (hB : CB own index y cb nb rb n) (hV : CV y) (hq : kd q = ci) (hci : ci < 7) (hc : vwCl[ci]? = some C) (hC : C.1 = y.cls) (hj : j + 1 ≤ kk) (hn : As.length = n) (hst : st0 = As.reverse ++ .ref (X.1 + q) :: st) (hcat : (st.map fun v => v.category).sum ≤ 8) (hM : ∀ (v : Nat) (h1 : AH), f = some (v, h1) → Does (kL K) X j y cb nb rb (.ref (X.1 + q) :: As) h ((eR X) v) h1) (k : ∀ (v : Nat) (h1 : AH), J K X nL Z enc pc' lv (.ref (X.1 + v) :: st) h1 (g v h1)) : J K X nL Z enc pc lv st0 h (bnd f g) := by
  subst hst
  obtain ⟨p, l, e, R, s, m, args, below, meth, c, cells, slots⟩ := K
  obtain ⟨hx, hb, hml, hown, hts, hlk, hrt, hE, hfr, hlo, hce, hsl⟩ := hK
  obtain ⟨hd, rfl⟩ := hd
  intro r h' ho H locs ls hH hS hl
  cases hf : f with
  | none => rw [hf] at ho; cases ho
  | some w =>
    obtain ⟨v, h1⟩ := w
    rw [hf] at ho
    refine JW.call (pc := pc) (va_runV (As := As) (rest := st) ⟨hx, hb, hml, hown, hts⟩ (hM v h1 hf) ⟨hB.of hts hfr hlo hj, hts _ (lw_in hV.1 rfl), hts _ (lw_in hV.2 rfl)⟩ ⟨Pm.blind, (by rw [← hC]; exact kd_recv (D := X.2.1) hE.1 hH hq hci hc), fun U hU hW => Pm.at hE hS hH hU hW⟩ rfl hn hl.1 rfl (lv_room hcat) hd ⟨hce, hsl⟩) hS (fun H1 locs1 hP1 hS1 => k v h1 r h' ho H1 locs1 ls hP1 hS1 hl)
theorem J_callSr {j n index : Nat} {y : MethodName} {cb : ByteArray} {nb : Nat} {rb : Option FieldType} {As st0 : List Value} {f : Option (Nat × AH)} {g : Nat → AH → Option (α × AH)} (hK : Ok K X own cc nL ret kk) (hd : DD cc pc (.invokestatic index) 3 pc') (hB : CB own index y cb nb rb n) (hT : Cond.static y ∈ lw_tbl) (hj : j + 1 ≤ kk) (hn : As.length = n) (hst : st0 = As.reverse ++ st) (hcat : (st.map fun v => v.category).sum ≤ 8) (hM : ∀ (v : Nat) (h1 : AH), f = some (v, h1) → Does (kL K) X j y cb nb rb As h ((eR X) v) h1) (k : ∀ (v : Nat) (h1 : AH), J K X nL Z enc pc' lv (.ref (X.1 + v) :: st) h1 (g v h1)) : J K X nL Z enc pc lv st0 h (bnd f g) := by
  subst hst
  obtain ⟨p, l, e, R, s, m, args, below, meth, c, cells, slots⟩ := K
  obtain ⟨hx, hb, hml, hown, hts, hlk, hrt, hE, hfr, hlo, hce, hsl⟩ := hK
  obtain ⟨hd, rfl⟩ := hd
  intro r h' ho H locs ls hH hS hl
  cases hf : f with
  | none => rw [hf] at ho; cases ho
  | some w =>
    obtain ⟨v, h1⟩ := w
    rw [hf] at ho
    refine JW.call (pc := pc) (va_runS (As := As) (rest := st) ⟨hx, hb, hml, hown, hts⟩ (hM v h1 hf) ⟨hB.of hts hfr hlo hj, hts _ (lw_in hT rfl)⟩ ⟨Pm.blind, fun U hU hW => Pm.at hE hS hH hU hW⟩ rfl hn hl.1 rfl (lv_room hcat) hd ⟨hce, hsl⟩) hS (fun H1 locs1 hP1 hS1 => k v h1 r h' ho H1 locs1 ls hP1 hS1 hl)
theorem J_iret {v : Int32} (hK : Ok K X own cc nL (some .int) kk) (hd : DD cc pc .ireturn 1 pc') : J K X nL (Zm K X) eI pc lv [.int v] h (some (v, h)) := by
  obtain ⟨p, l, e, R, s, m, args, below, meth, c, cells, slots⟩ := K
  obtain ⟨hx, hb, hml, hown, hts, hlk, hrt, hE, hfr, hlo, hce, hsl⟩ := hK
  intro r h' ho H locs ls hH hS hl
  cases ho
  exact W.iret (cc := cc) hx hb hrt (fun t ht hW => ⟨rfl, by rw [ht]; exact hH, hS.F ht⟩) hS.2.2 hd.1 hlk
theorem J_zret {v : Int32} (hK : Ok K X own cc nL (some .boolean) kk) (hd : DD cc pc .ireturn 1 pc') : J K X nL (Zm K X) eI pc lv [.int v] h (chk (v = 0 ∨ v = 1) (some (v, h))) := by
  obtain ⟨p, l, e, R, s, m, args, below, meth, c, cells, slots⟩ := K
  obtain ⟨hx, hb, hml, hown, hts, hlk, hrt, hE, hfr, hlo, hce, hsl⟩ := hK
  intro r h' ho H locs ls hH hS hl
  obtain ⟨hv, ho⟩ := chk_some ho
  cases ho
  exact W.zret (cc := cc) (ty := .boolean) hx hb hrt (by rcases hv with e | e <;> subst e <;> rfl) (fun t ht hW => ⟨rfl, by rw [ht]; exact hH, hS.F ht⟩) hS.2.2 hd.1 hlk
theorem J_zret0 (hK : Ok K X own cc nL (some .boolean) kk) (hd : DD cc pc .ireturn 1 pc') : J K X nL (Zm K X) eI pc lv [.int 0] h (some (0, h)) := by
  obtain ⟨p, l, e, R, s, m, args, below, meth, c, cells, slots⟩ := K
  obtain ⟨hx, hb, hml, hown, hts, hlk, hrt, hE, hfr, hlo, hce, hsl⟩ := hK
  intro r h' ho H locs ls hH hS hl
  cases ho
  exact W.zret (cc := cc) (ty := .boolean) hx hb hrt rfl (fun t ht hW => ⟨rfl, by rw [ht]; exact hH, hS.F ht⟩) hS.2.2 hd.1 hlk
theorem J_zret1 (hK : Ok K X own cc nL (some .boolean) kk) (hd : DD cc pc .ireturn 1 pc') : J K X nL (Zm K X) eI pc lv [.int 1] h (some (1, h)) := by
  obtain ⟨p, l, e, R, s, m, args, below, meth, c, cells, slots⟩ := K
  obtain ⟨hx, hb, hml, hown, hts, hlk, hrt, hE, hfr, hlo, hce, hsl⟩ := hK
  intro r h' ho H locs ls hH hS hl
  cases ho
  exact W.zret (cc := cc) (ty := .boolean) hx hb hrt rfl (fun t ht hW => ⟨rfl, by rw [ht]; exact hH, hS.F ht⟩) hS.2.2 hd.1 hlk
theorem J_vret (hK : Ok K X own cc nL none kk) (hd : DD cc pc .return_ 1 pc') : J K X nL (Zm K X) eV pc lv [] h (some ((), h)) := by
  obtain ⟨p, l, e, R, s, m, args, below, meth, c, cells, slots⟩ := K
  obtain ⟨hx, hb, hml, hown, hts, hlk, hrt, hE, hfr, hlo, hce, hsl⟩ := hK
  intro r h' ho H locs ls hH hS hl
  cases ho
  exact W.vret (cc := cc) hx hb hrt (fun t ht hW => ⟨rfl, by rw [ht]; exact hH, hS.F ht⟩) hS.2.2 hd.1 hlk
theorem J_aret {v : Nat} {C : String} (hK : Ok K X own cc nL (some (.object C)) kk) (hd : DD cc pc .areturn 1 pc') : J K X nL (Zm K X) (eR X) pc lv [.ref (X.1 + v)] h (some (v, h)) := by
  obtain ⟨p, l, e, R, s, m, args, below, meth, c, cells, slots⟩ := K
  obtain ⟨hx, hb, hml, hown, hts, hlk, hrt, hE, hfr, hlo, hce, hsl⟩ := hK
  intro r h' ho H locs ls hH hS hl
  cases ho
  exact W.aret (cc := cc) hx hb hrt (Or.inl ⟨_, rfl⟩) (Or.inr ⟨_, rfl⟩) (fun t ht hW => ⟨rfl, by rw [ht]; exact hH, hS.F ht⟩) hS.2.2 hd.1 hlk
theorem J_min {x y : Int32} {index : Nat} (hK : Ok K X own cc nL ret kk) (hd : DD cc pc (.invokestatic index) 3 pc') (hk : 1 ≤ kk) (hlink : Cond.methodLink own index Lib.Math.min.name ∈ lw_tbl) (hstat : Cond.static Lib.Math.min.name ∈ lw_tbl) (hini : Cond.initialized "java/lang/Math" ∈ lw_tbl) (hcode : Cond.code Lib.Math.min.name Lib.Math.min.code 2 (some .int) ∈ lw_tbl) (hcat : (st.map fun v => v.category).sum ≤ 8) (k : J K X nL Z enc pc' lv (.int (if y < x then y else x) :: st) h o) : J K X nL Z enc pc lv (.int y :: .int x :: st) h o := by
  obtain ⟨p, l, e, R, s, m, args, below, meth, c, cells, slots⟩ := K
  obtain ⟨hx, hb, hml, hown, hts, hlk, hrt, hE, hfr, hlo, hce, hsl⟩ := hK
  obtain ⟨hd, rfl⟩ := hd
  intro r h' ho H locs ls hH hS hl
  exact va_mmin hx hb (hml.trans hl.1.symm) hown (hts _ (lw_in hlink rfl)) (hts _ (lw_in hstat rfl)) (hts _ (lw_in hini rfl)) (hts _ (lw_in hcode rfl)) (by omega) (by omega) hce hsl hd (k r h' ho H locs ls hH hS hl)
theorem J_max {x y : Int32} {index : Nat} (hK : Ok K X own cc nL ret kk) (hd : DD cc pc (.invokestatic index) 3 pc') (hk : 1 ≤ kk) (hlink : Cond.methodLink own index Lib.Math.max.name ∈ lw_tbl) (hstat : Cond.static Lib.Math.max.name ∈ lw_tbl) (hini : Cond.initialized "java/lang/Math" ∈ lw_tbl) (hcode : Cond.code Lib.Math.max.name Lib.Math.max.code 2 (some .int) ∈ lw_tbl) (hcat : (st.map fun v => v.category).sum ≤ 8) (k : J K X nL Z enc pc' lv (.int (if x < y then y else x) :: st) h o) : J K X nL Z enc pc lv (.int y :: .int x :: st) h o := by
  obtain ⟨p, l, e, R, s, m, args, below, meth, c, cells, slots⟩ := K
  obtain ⟨hx, hb, hml, hown, hts, hlk, hrt, hE, hfr, hlo, hce, hsl⟩ := hK
  obtain ⟨hd, rfl⟩ := hd
  intro r h' ho H locs ls hH hS hl
  exact va_mmax hx hb (hml.trans hl.1.symm) hown (hts _ (lw_in hlink rfl)) (hts _ (lw_in hstat rfl)) (hts _ (lw_in hini rfl)) (hts _ (lw_in hcode rfl)) (by omega) (by omega) hce hsl hd (k r h' ho H locs ls hH hS hl)
theorem J_acopy {qa qb : Nat} {sp dp n : Int32} {index : Nat} {f : AH → Option (α × AH)} (hK : Ok K X own cc nL ret kk) (hd : DD cc pc (.invokestatic index) 3 pc') (hk : 1 ≤ kk) (hqa : kd qa = 7) (hqb : kd qb = 7) (hlink : Cond.methodLink own index arraycopyName ∈ lw_tbl) (hnat : Cond.native arraycopyName ∈ lw_tbl) (hstat : Cond.static arraycopyName ∈ lw_tbl) (hini : Cond.initialized "java/lang/System" ∈ lw_tbl) (hcat : (st.map fun v => v.category).sum ≤ 8) (k : ∀ h1, J K X nL Z enc pc' lv st h1 (f h1)) : J K X nL Z enc pc lv (.int n :: .int dp :: .ref (X.1 + qb) :: .int sp :: .ref (X.1 + qa) :: st) h (chk (¬ sp < 0 ∧ ¬ dp < 0 ∧ ¬ n < 0 ∧ sp.toNatClampNeg + n.toNatClampNeg ≤ ln qa ∧ dp.toNatClampNeg + n.toNatClampNeg ≤ ln qb) (sto (hr h qb (va_cpy (h qa) (h qb) sp.toNatClampNeg dp.toNatClampNeg n.toNatClampNeg)) f)) := by
  obtain ⟨p, l, e, R, s, m, args, below, meth, c, cells, slots⟩ := K
  obtain ⟨hx, hb, hml, hown, hts, hlk, hrt, hE, hfr, hlo, hce, hsl⟩ := hK
  obtain ⟨hd, rfl⟩ := hd
  intro r h' ho H locs ls hH hS hl
  obtain ⟨⟨h1, h2, h3, h4, h5⟩, ho⟩ := chk_some ho
  have hnw : nativeFrameWords "java/lang/System" "arraycopy" 5 ≤ 40 := by decide +kernel
  have h64 : 64 ≤ R.locals := by omega
  refine va_copyi hx hb (hml.trans hl.1.symm) hown (hts _ (lw_in hlink rfl)) (hts _ (lw_in hnat rfl)) (hts _ (lw_in hstat rfl)) (hts _ (lw_in hini rfl)) hE.1 hH (wl_D X h) hS qa qb 0 0 (by rw [wl_get X h (kd_lt hqa (by decide)), lay_7 X h hqa]) (by rw [wl_get X h (kd_lt hqb (by decide)), lay_7 X h hqb]) rfl rfl rfl h1 h2 h3 h4 h5 (fun _ _ => rfl) (by omega) (by omega) hd (fun H1 locs1 hP1 _ hS1 => ?_)
  rw [wl_set X h (kd_lt hqb (by decide)) (va_cpy (h qa) (h qb) sp.toNatClampNeg dp.toNatClampNeg n.toNatClampNeg) (by rw [lay_7 X _ hqb, hr_eq])] at hP1
  exact k _ r h' ho H1 locs1 ls hP1 hS1 hl
end JC
