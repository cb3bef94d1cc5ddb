/-- of the first i tugs those with a boy have parted -/
def boyR (e : Nat → Int32) (i : Nat) : Nat → Int32 := fun j => if (5 ≤ j ∧ j < 5 + 5 * i) ∧ (j % 5 = 3 ∨ j % 5 = 4) ∧ kn e ((j - 5) / 5) = 5 then 0 else e j
theorem bR_lo (e : Nat → Int32) (i : Nat) {j : Nat} (h : j < 5 ∨ 5 + 5 * i ≤ j) : boyR e i j = e j := by
  unfold boyR
  rw [if_neg (by omega)]
theorem bR_x (e : Nat → Int32) (i : Nat) {j : Nat} (h1 : j % 5 ≠ 3) (h2 : j % 5 ≠ 4) : boyR e i j = e j := by
  unfold boyR
  rw [if_neg (by omega)]
theorem bR_fr (e : Nat → Int32) {i t : Nat} (h : t < i) : fr (boyR e i) t = if kn e t = 5 then 0 else fr e t := by
  show boyR e i (8 + 5 * t) = _
  unfold boyR
  rw [show (8 + 5 * t - 5) / 5 = t by omega]
  by_cases q : kn e t = 5
  · rw [if_pos q, if_pos ⟨by omega, by omega, q⟩]
  · rw [if_neg q, if_neg (fun z => q z.2.2)]
theorem bR_ho (e : Nat → Int32) {i t : Nat} (h : t < i) : ho (boyR e i) t = if kn e t = 5 then 0 else ho e t := by
  show boyR e i (9 + 5 * t) = _
  unfold boyR
  rw [show (9 + 5 * t - 5) / 5 = t by omega]
  by_cases q : kn e t = 5
  · rw [if_pos q, if_pos ⟨by omega, by omega, q⟩]
  · rw [if_neg q, if_neg (fun z => q z.2.2)]
theorem xBoys_L {e : Nat → Int32} {T P : Nat} {r : Nat} {k : Int32 → AH → Option (Unit × AH)} (hT : T ≤ 6) : ∀ m i f h, i + m = T → m < f → EstC (boyR e i) T P h r → ∃ h', fX2_partBoys_L2 r f (nI i) h k = k (nI T) h' ∧ EstC (boyR e T) T P h' r ∧ Fm r h h' := by
  intro m
  induction m with
  | zero =>
    intro i f h hi hf he
    obtain ⟨g, rfl, -⟩ := fuel_s hf
    have hiT : i = T := by omega
    subst hiT
    refine ⟨h, ?_, he, Fm.rf r h⟩
    rw [fX2_partBoys_L2, he.2.1.1, ite_lt (by omega) (by omega), if_neg (by omega)]
  | succ m ih =>
    intro i f h hi hf he
    obtain ⟨g, rfl, hg2⟩ := fuel_s hf
    have hr := he.1
    have ekn : kn (boyR e i) i = kn e i := bR_lo e i (by omega)
    have hk := (he.2.2.1 i (by omega)).1
    rw [ekn] at hk
    rw [fX2_partBoys_L2, he.2.1.1, ite_lt (by omega) (by omega), if_pos (by omega), cE1 hr (by omega), nI_clamp (by omega), hk]
    simp only [vl_d, nI_1]
    by_cases q : kn e i = 5
    · rw [if_pos q]
      obtain ⟨h2, l1, l2, l3⟩ := xLetGo he hT (show i < T by omega)
      rw [l1]
      simp only [bnd_s]
      have hnext : dropR (boyR e i) i = boyR e (i + 1) := by
        funext j
        unfold dropR
        by_cases q1 : j = 8 + 5 * i
        · subst q1
          rw [upd_s]
          exact ((bR_fr e (i := i + 1) (t := i) (by omega)).trans (if_pos q)).symm
        · rw [upd_n _ _ q1]
          by_cases q2 : j = 9 + 5 * i
          · subst q2
            rw [upd_s]
            exact ((bR_ho e (i := i + 1) (t := i) (by omega)).trans (if_pos q)).symm
          · rw [upd_n _ _ q2]
            unfold boyR
            by_cases q3 : (5 ≤ j ∧ j < 5 + 5 * i) ∧ (j % 5 = 3 ∨ j % 5 = 4) ∧ kn e ((j - 5) / 5) = 5
            · rw [if_pos q3, if_pos ⟨by omega, q3.2⟩]
            · rw [if_neg q3, if_neg (fun z => q3 ⟨by omega, z.2⟩)]
      rw [hnext] at l2
      obtain ⟨h', w1, w2, w3⟩ := ih (i + 1) g h2 (by omega) (by omega) l2
      exact ⟨h', w1, w2, l3.tr w3⟩
    · rw [if_neg q]
      have hnext : boyR e i = boyR e (i + 1) := by
        funext j
        unfold boyR
        by_cases q3 : (5 ≤ j ∧ j < 5 + 5 * i) ∧ (j % 5 = 3 ∨ j % 5 = 4) ∧ kn e ((j - 5) / 5) = 5
        · rw [if_pos q3, if_pos ⟨by omega, q3.2⟩]
        · rw [if_neg q3, if_neg]
          intro z
          by_cases q4 : j < 5 + 5 * i
          · exact q3 ⟨by omega, z.2⟩
          · have q5 := z.2.2
            rw [show (j - 5) / 5 = i by omega] at q5
            exact q q5
      rw [hnext] at he
      exact ih (i + 1) g h (by omega) (by omega) he
theorem xBoys {e : Nat → Int32} {T P : Nat} {r : Nat} {h : AH} (hT : T ≤ 6) (he : EstC e T P h r) : ∃ h', fX2_partBoys r h = some ((), h') ∧ EstC (boyR e T) T P h' r ∧ Fm r h h' := by
  unfold fX2_partBoys
  have h0 : boyR e 0 = e := by
    funext j
    exact bR_lo e 0 (by omega)
  obtain ⟨h', a, b, c⟩ := xBoys_L (e := e) (k := fun _ h2 => some ((), h2)) hT T 0 FU h (by omega) (by have := FU_big; omega) (by rw [h0]; exact he)
  rw [nI_0] at a
  exact ⟨h', a, b, c⟩
theorem EstC.hour {e : Nat → Int32} {T P : Nat} {h : AH} {r : Nat} (he : EstC e T P h r) (v : Int32) : EstC (upd e 4 v) T P (hs h r 4 v) r := by
  obtain ⟨a, ⟨b0, b1, b2, b3, b4, m, b5, b6⟩, c, d⟩ := he
  refine ⟨a, ⟨?_, ?_, ?_, ?_, ?_, m, ?_, b6.1, fun t q => ?_⟩, fun t q => ?_, fun p q => ?_⟩
  · rw [hs_ki h _ _ (by omega)]; exact b0
  · rw [hs_ki h _ _ (by omega)]; exact b1
  · rw [hs_ki h _ _ (by omega), upd_n _ _ (by omega)]; exact b2
  · rw [hs_ki h _ _ (by omega), upd_n _ _ (by omega)]; exact b3
  · rw [hs_kj, upd_s]
  · rw [hs_ki h _ _ (by omega)]; exact b5
  · show _ = decide (upd e 4 v (9 + 5 * t) = 1)
    rw [upd_n _ _ (by omega)]; exact b6.2 t q
  · show hs h r 4 v (r + 1) t = upd e 4 v (5 + 5 * t) ∧ hs h r 4 v (r + 2) t = upd e 4 v (6 + 5 * t) ∧ hs h r 4 v (r + 3) t = upd e 4 v (7 + 5 * t) ∧ hs h r 4 v (r + 4) t = upd e 4 v (8 + 5 * t)
    rw [hs_q h _ _ (by omega), hs_q h _ _ (by omega), hs_q h _ _ (by omega), hs_q h _ _ (by omega), upd_n _ _ (by omega), upd_n _ _ (by omega), upd_n _ _ (by omega), upd_n _ _ (by omega)]
    exact c t q
  · show hs h r 4 v (r + 5) p = upd e 4 v (35 + 2 * p) ∧ hs h r 4 v (r + 6) p = upd e 4 v (36 + 2 * p)
    rw [hs_q h _ _ (by omega), hs_q h _ _ (by omega), upd_n _ _ (by omega), upd_n _ _ (by omega)]
    exact d p q
theorem mtl_eq {e e' : Nat → Int32} {s : Int32} (h1 : e' 1 = e 1) : ∀ n, (∀ p, p < n → pa e' p = pa e p ∧ sd e' p = sd e p) → mtl e' s n = mtl e s n := by
  intro n
  induction n with
  | zero => exact fun _ => rfl
  | succ n ih =>
    intro h
    have ih' := ih (fun p hp => h p (by omega))
    have ho : onw e' s n = onw e s n := by
      unfold onw
      rw [h1, (h n (by omega)).1, (h n (by omega)).2]
    unfold mtl
    rw [ho, ih']
    cases hm : mtl e s n with
    | none => rfl
    | some b =>
      have hb := (mtl_lt hm).1
      simp only
      rw [(h n (by omega)).1, (h b (by omega)).1]
theorem nOut_eq {e e' : Nat → Int32} {s : Int32} {P : Nat} (h1 : e' 1 = e 1) (h : ∀ p, p < P → pa e' p = pa e p ∧ sd e' p = sd e p) : nOut e' P s = nOut e P s := by
  unfold nOut
  rw [mtl_eq h1 P h, h1]
  cases hm : mtl e s P with
  | none => rfl
  | some p =>
    simp only
    rw [(h p (mtl_lt hm).1).1]
theorem nSd_eq {e e' : Nat → Int32} {s : Int32} {P p : Nat} (h1 : e' 1 = e 1) (h : ∀ p, p < P → pa e' p = pa e p ∧ sd e' p = sd e p) (hp : p < P) : nSd e' P s p = nSd e P s p := by
  unfold nSd
  rw [mtl_eq h1 P h, h1, (h p hp).1, (h p hp).2]
theorem mtl_0 {e : Nat → Int32} {T P B : Nat} (hg : Gd e T P B) : ∀ n, n ≤ P → mtl e (nI 0) n = none := by
  obtain ⟨-, -, ⟨o, ho1, eo⟩, -, -, hpr⟩ := hg
  intro n
  induction n with
  | zero => exact fun _ => rfl
  | succ n ih =>
    intro hn
    obtain ⟨⟨a, ha, ea⟩, d, hd, ed⟩ := hpr n (by omega)
    have : onw e (nI 0) n = false := by
      rw [onw_nat ho1 (by omega) hd ha eo ea ed]
      by_cases q : a < o
      · simp [q]
      · simp [q]
    unfold mtl
    rw [this]
    exact ih (by omega)
/-- an hour of the class's estuary -/
theorem xHour {e : Nat → Int32} {T P B : Nat} {h : AH} {r : Nat} (fog : Int32) (hg : Gd e T P B) (hB : B ≤ 20000) (he : EstC e T P h r) : ∃ h', fX2_passHour r fog h = some ((), h') ∧ EstC (hourR e T P fog) T P h' r ∧ Fm r h h' := by
  have hT : T ≤ 6 := hg.1.2.1
  have hP : P ≤ 4 := hg.1.2.2.1
  obtain ⟨s, hs9, es⟩ := spF_nat hg hB fog
  have hgT := Gd_fray0 hg T (Nat.le_refl T)
  have e0T : fray0 e T 0 = e 0 := f0_lo e T (by omega)
  have e1T : fray0 e T 1 = e 1 := f0_lo e T (by omega)
  have e4T : fray0 e T 4 = e 4 := f0_lo e T (by omega)
  -- what is left, once the speed is known
  have last : ∀ (e1 : Nat → Int32) (h4 : AH), EstC e1 T P h4 r → Fm r h h4 → (∀ j, j < 5 → e1 j = e j) → (∀ t, t < T → kn e1 t = kn e t ∧ pl e1 t = pl e t ∧ rp e1 t = rp e t ∧ fr e1 t = nFr e (nI s) t ∧ ho e1 t = nHo e (nI s) t) → (∀ p, p < P → pa e1 p = pa e p ∧ sd e1 p = sd e p) → Gd e1 T P B → ∃ h', (if (0 : Int32) < nI s then (bnd (fX2_comeNearer r (nI s) h4) fun _ h6 => sto (hs h6 r 4 (h6 r 4 + 1)) fun h7 => some ((), h7)) else sto (hs h4 r 4 (h4 r 4 + 1)) fun h8 => some ((), h8)) = some ((), h') ∧ EstC (hourS e T P (nI s)) T P h' r ∧ Fm r h h' := by
    intro e1 h4 he4 hF4 hlo htt hpp hg1
    have fin : ∀ (e2 : Nat → Int32) (h6 : AH), EstC e2 T P h6 r → Fm r h h6 → (∀ j, j < 5 → j ≠ 1 → e2 j = e j) → e2 1 = nOut e P (nI s) → (∀ t, t < T → kn e2 t = kn e t ∧ pl e2 t = pl e t ∧ rp e2 t = rp e t ∧ fr e2 t = nFr e (nI s) t ∧ ho e2 t = nHo e (nI s) t) → (∀ p, p < P → pa e2 p = pa e p ∧ sd e2 p = nSd e P (nI s) p) → EstC (hourS e T P (nI s)) T P (hs h6 r 4 (h6 r 4 + 1)) r ∧ Fm r h (hs h6 r 4 (h6 r 4 + 1)) := by
      intro e2 h6 he6 hF6 q0 q1 qt qp
      have h64 : h6 r 4 = e 4 := by rw [he6.2.1.2.2.2.2.1, q0 4 (by omega) (by omega)]
      refine ⟨(he6.hour (h6 r 4 + 1)).to ?_ ?_ ?_ (fun t ht => ?_) (fun p hp => ?_), hF6.tr (Fm.hs r h6 4 _ (by omega))⟩
      · rw [hS_0, upd_n _ _ (by omega), q0 0 (by omega) (by omega)]
      · rw [hS_1, upd_n _ _ (by omega), q1]
      · rw [hS_4, upd_s, h64]
      · obtain ⟨a1, a2, a3, a4, a5⟩ := qt t ht
        refine ⟨?_, ?_, ?_, ?_, ?_⟩
        · rw [hS_kn e _ hT ht]
          show _ = upd e2 4 (h6 r 4 + 1) (5 + 5 * t)
          rw [upd_n _ _ (by omega)]
          exact a1.symm
        · rw [hS_pl e _ hT ht]
          show _ = upd e2 4 (h6 r 4 + 1) (6 + 5 * t)
          rw [upd_n _ _ (by omega)]
          exact a2.symm
        · rw [hS_rp e _ hT ht]
          show _ = upd e2 4 (h6 r 4 + 1) (7 + 5 * t)
          rw [upd_n _ _ (by omega)]
          exact a3.symm
        · rw [hS_fr e _ hT ht]
          show _ = upd e2 4 (h6 r 4 + 1) (8 + 5 * t)
          rw [upd_n _ _ (by omega)]
          exact a4.symm
        · rw [hS_ho e _ hT ht]
          show _ = upd e2 4 (h6 r 4 + 1) (9 + 5 * t)
          rw [upd_n _ _ (by omega)]
          exact a5.symm
      · obtain ⟨a1, a2⟩ := qp p hp
        refine ⟨?_, ?_⟩
        · rw [hS_pa e _ hT hp]
          show _ = upd e2 4 (h6 r 4 + 1) (35 + 2 * p)
          rw [upd_n _ _ (by omega)]
          exact a1.symm
        · rw [hS_sd e _ hT hp]
          show _ = upd e2 4 (h6 r 4 + 1) (36 + 2 * p)
          rw [upd_n _ _ (by omega)]
          exact a2.symm
    by_cases q : 0 < s
    · rw [if_pos (show (0 : Int32) < nI s from nI_lt (a := 0) q (by omega))]
      obtain ⟨h6, c1, c2, c3⟩ := xCome hg1 hs9 he4
      rw [c1]
      simp only [bnd_s, sto_d]
      have h1e : e1 1 = e 1 := hlo 1 (by omega)
      obtain ⟨f1, f2⟩ := fin (comeR e1 P (nI s)) h6 c2 (hF4.tr c3) (fun j h1 h2 => by rw [cR_lo _ _ _ h2 (by omega)]; exact hlo j h1) (by rw [cR_1]; exact nOut_eq h1e hpp) (fun t ht => by
          obtain ⟨a1, a2, a3, a4, a5⟩ := htt t ht
          exact ⟨(cR_lo _ _ _ (by omega) (by omega)).trans a1, (cR_lo _ _ _ (by omega) (by omega)).trans a2, (cR_lo _ _ _ (by omega) (by omega)).trans a3, (cR_lo _ _ _ (by omega) (by omega)).trans a4, (cR_lo _ _ _ (by omega) (by omega)).trans a5⟩)
        (fun p hp => ⟨(cR_pa e1 _ hp).trans (hpp p hp).1, (cR_sd e1 _ hp).trans (nSd_eq h1e hpp hp)⟩)
      exact ⟨_, rfl, f1, f2⟩
    · have hs0 : s = 0 := by omega
      subst hs0
      rw [if_neg (by decide)]
      simp only [sto_d]
      obtain ⟨f1, f2⟩ := fin e1 h4 he4 hF4 (fun j h1 _ => hlo j h1) (by
          rw [hlo 1 (by omega)]
          unfold nOut
          rw [mtl_0 hg P (Nat.le_refl P)]
          obtain ⟨o, ho1, eo⟩ := hg.2.2.1
          simp only
          rw [eo, ite_lt (by omega) (by omega)]
          by_cases q2 : 0 < o
          · rw [if_pos q2, nn_sub (by omega)]; rfl
          · rw [if_neg q2, show o = 0 by omega]; rfl) htt (fun p hp => ⟨(hpp p hp).1, by
          rw [(hpp p hp).2]
          unfold nSd
          rw [mtl_0 hg P (Nat.le_refl P), if_neg (by intro z; cases z)]⟩)
      exact ⟨_, rfl, f1, f2⟩
  have h0 : EstC (fray0 e 0) T P h r := by rw [f0_0]; exact he
  have mid : ∀ (h3 : AH), EstC (fray0 e T) T P h3 r → Fm r h h3 → ∃ h', (if nI s < (5 : Int32) then (if (0 : Int32) < nI s then (bnd (fX2_comeNearer r (nI s) h3) fun _ h6 => sto (hs h6 r 4 (h6 r 4 + 1)) fun h7 => some ((), h7)) else sto (hs h3 r 4 (h3 r 4 + 1)) fun h8 => some ((), h8)) else (bnd (fX2_partBoys r h3) fun _ h9 => if (0 : Int32) < nI s then (bnd (fX2_comeNearer r (nI s) h9) fun _ h10 => sto (hs h10 r 4 (h10 r 4 + 1)) fun h11 => some ((), h11)) else sto (hs h9 r 4 (h9 r 4 + 1)) fun h12 => some ((), h12))) = some ((), h') ∧ EstC (hourS e T P (nI s)) T P h' r ∧ Fm r h h' := by
    intro h3 he3 hF3
    have hpp : ∀ p, p < P → pa (fray0 e T) p = pa e p ∧ sd (fray0 e T) p = sd e p := fun p hp => ⟨f0_hi e (by omega), f0_hi e (by omega)⟩
    by_cases q : s < 5
    · rw [if_pos (show nI s < (5 : Int32) from nI_lt (b := 5) q (by omega))]
      refine last (fray0 e T) h3 he3 hF3 (fun j hj => f0_lo e T hj) (fun t ht => ⟨f0_x e T (by omega) (by omega), f0_x e T (by omega) (by omega), f0_x e T (by omega) (by omega), ?_, ?_⟩) hpp hgT
      · rw [f0_fr e ht]
        unfold nFr prt
        rw [show decide ((4 : Int32) < nI s) = false from decide_eq_false (nI_nlt (a := 4) (by omega) (by omega))]
        by_cases z : fr1 e t < lim e t <;> simp [z]
      · rw [f0_ho e ht]
        unfold nHo prt
        rw [show decide ((4 : Int32) < nI s) = false from decide_eq_false (nI_nlt (a := 4) (by omega) (by omega))]
        by_cases z : fr1 e t < lim e t <;> simp [z]
    · rw [if_neg (show ¬ nI s < (5 : Int32) from nI_nlt (b := 5) (by omega) (by omega))]
      obtain ⟨h9, b1, b2, b3⟩ := xBoys hT he3
      rw [b1]
      simp only [bnd_s]
      have ekn : ∀ t, kn (fray0 e T) t = kn e t := fun t => f0_x e T (by omega) (by omega)
      have hfr : ∀ t, t < T → fr (boyR (fray0 e T) T) t = nFr e (nI s) t := by
        intro t ht
        rw [bR_fr _ ht, f0_fr e ht, ekn]
        unfold nFr prt
        rw [show decide ((4 : Int32) < nI s) = true from decide_eq_true (nI_lt (a := 4) (by omega) (by omega))]
        rcases (hg.2.2.2.2.1 t ht).2.2.2.2 with ⟨z1, z2⟩ | z1
        · rw [if_neg (show ¬ ho e t = 1 by rw [z1]; decide), if_neg (show ¬ ho e t = 1 by rw [z1]; decide), z2]
          split <;> rfl
        · rw [if_pos z1, if_pos z1]
          by_cases z : fr1 e t < lim e t <;> by_cases y : kn e t = 5 <;> simp [z, y]
      have hho : ∀ t, t < T → ho (boyR (fray0 e T) T) t = nHo e (nI s) t := by
        intro t ht
        rw [bR_ho _ ht, f0_ho e ht, ekn]
        unfold nHo prt
        rw [show decide ((4 : Int32) < nI s) = true from decide_eq_true (nI_lt (a := 4) (by omega) (by omega))]
        rcases (hg.2.2.2.2.1 t ht).2.2.2.2 with ⟨z1, z2⟩ | z1
        · rw [if_neg (show ¬ ho e t = 1 by rw [z1]; decide), if_neg (show ¬ ho e t = 1 by rw [z1]; decide), z1]
          split <;> rfl
        · rw [if_pos z1, if_pos z1]
          by_cases z : fr1 e t < lim e t <;> by_cases y : kn e t = 5 <;> simp [z, y]
      refine last (boyR (fray0 e T) T) h9 b2 (hF3.tr b3) (fun j hj => (bR_lo _ _ (Or.inl hj)).trans (f0_lo e T hj)) (fun t ht => ⟨(bR_x _ _ (by omega) (by omega)).trans (f0_x e T (by omega) (by omega)), (bR_x _ _ (by omega) (by omega)).trans (f0_x e T (by omega) (by omega)), (bR_x _ _ (by omega) (by omega)).trans (f0_x e T (by omega) (by omega)), hfr t ht, hho t ht⟩) (fun p hp => ⟨(bR_lo _ _ (Or.inr (by omega))).trans (hpp p hp).1, (bR_lo _ _ (Or.inr (by omega))).trans (hpp p hp).2⟩) ?_
      obtain ⟨⟨g1, g2, g3, g4, g5⟩, g6, g7, g8, g9, g10⟩ := hgT
      refine ⟨⟨g1, g2, g3, by rw [bR_lo _ _ (Or.inl (by omega))]; exact g4, by rw [bR_lo _ _ (Or.inl (by omega))]; exact g5⟩, by rw [bR_lo _ _ (Or.inl (by omega))]; exact g6, by rw [bR_lo _ _ (Or.inl (by omega))]; exact g7, by rw [bR_lo _ _ (Or.inl (by omega))]; exact g8, fun t ht => ?_, fun p hp => ?_⟩
      · obtain ⟨a1, a2, a3, a4, a5⟩ := g9 t ht
        refine ⟨by rw [show kn (boyR (fray0 e T) T) t = kn (fray0 e T) t from bR_x _ _ (by omega) (by omega)]; exact a1, by rw [show pl (boyR (fray0 e T) T) t = pl (fray0 e T) t from bR_x _ _ (by omega) (by omega)]; exact a2, by rw [show rp (boyR (fray0 e T) T) t = rp (fray0 e T) t from bR_x _ _ (by omega) (by omega)]; exact a3, ?_⟩
        rw [bR_fr _ ht, bR_ho _ ht]
        by_cases y : kn (fray0 e T) t = 5
        · rw [if_pos y, if_pos y]; exact ⟨⟨0, by omega, rfl⟩, Or.inl ⟨rfl, rfl⟩⟩
        · rw [if_neg y, if_neg y]; exact ⟨a4, a5⟩
      · rw [show pa (boyR (fray0 e T) T) p = pa (fray0 e T) p from bR_lo _ _ (Or.inr (by omega)), show sd (boyR (fray0 e T) T) p = sd (fray0 e T) p from bR_lo _ _ (Or.inr (by omega))]
        exact g10 p hp
  unfold hourR
  rw [es]
  unfold fX2_passHour
  obtain ⟨h3, w1, w2, w3⟩ := xPass_L (fog := fog) (k := fun z1 z2 h3 => (if fog = 0 then (bnd (fX2_speedBy r z2 h3) fun v5 h4 => (if v5 < (5 : Int32) then (if 0 < v5 then (bnd (fX2_comeNearer r v5 h4) fun _ h6 => (sto (hs h6 r 4 ((h6 r 4) + (1 : Int32))) fun h7 => (some ((), h7)))) else (sto (hs h4 r 4 ((h4 r 4) + (1 : Int32))) fun h8 => (some ((), h8)))) else (bnd (fX2_partBoys r h4) fun _ h9 => (if 0 < v5 then (bnd (fX2_comeNearer r v5 h9) fun _ h10 => (sto (hs h10 r 4 ((h10 r 4) + (1 : Int32))) fun h11 => (some ((), h11)))) else (sto (hs h9 r 4 ((h9 r 4) + (1 : Int32))) fun h12 => (some ((), h12))))))) else (chk (¬ (2 : Int32) = 0) (bnd (fX2_speedBy r (z2 / (2 : Int32)) h3) fun v14 h13 => (if v14 < (5 : Int32) then (if 0 < v14 then (bnd (fX2_comeNearer r v14 h13) fun _ h15 => (sto (hs h15 r 4 ((h15 r 4) + (1 : Int32))) fun h16 => (some ((), h16)))) else (sto (hs h13 r 4 ((h13 r 4) + (1 : Int32))) fun h17 => (some ((), h17)))) else (bnd (fX2_partBoys r h13) fun _ h18 => (if 0 < v14 then (bnd (fX2_comeNearer r v14 h18) fun _ h19 => (sto (hs h19 r 4 ((h19 r 4) + (1 : Int32))) fun h20 => (some ((), h20)))) else (sto (hs h18 r 4 ((h18 r 4) + (1 : Int32))) fun h21 => (some ((), h21)))))))))) hg hB T 0 FU h (by omega) (by have := FU_big; omega) h0
  rw [nI_0] at w1
  rw [show sumD e 0 = 0 from rfl] at w1
  rw [w1]
  have espd : ∀ x, spd (fray0 e T) x = spd e x := fun x => by unfold spd; rw [e0T, e1T]
  unfold spF at es
  by_cases q : fog = 0
  · rw [if_pos q] at es ⊢
    rw [xSpeed _ hgT hB w2, espd, es]
    exact mid h3 w2 w3
  · rw [if_neg q] at es ⊢
    rw [chk_p ne_2, xSpeed _ hgT hB w2, espd, es]
    exact mid h3 w2 w3
