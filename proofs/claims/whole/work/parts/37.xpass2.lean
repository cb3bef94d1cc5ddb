/-- of the first i tugs those with a boy have parted -/
def boyR (e : Nat → Int32) (i : Nat) : Nat → Int32 := fun j => if (5 ≤ j ∧ j < 5 + 5 * i) ∧ (j % 5 = 3 ∨ j % 5 = 4) ∧ kn e ((j - 5) / 5) = 5 then 0 else e j
theorem bR_lo (e : Nat → Int32) (i : Nat) {j : Nat} (h : j < 5 ∨ 5 + 5 * i ≤ j) : boyR e i j = e j := by
  unfold boyR
  rw [if_neg (by omega)]
theorem bR_x (e : Nat → Int32) (i : Nat) {j : Nat} (h1 : j % 5 ≠ 3) (h2 : j % 5 ≠ 4) : boyR e i j = e j := by
  unfold boyR
  rw [if_neg (by omega)]
theorem bR_fr (e : Nat → Int32) {i t : Nat} (h : t < i) : fr (boyR e i) t = if kn e t = 5 then 0 else fr e t := by
  show boyR e i (8 + 5 * t) = _
  unfold boyR
  rw [show (8 + 5 * t - 5) / 5 = t by omega]
  by_cases q : kn e t = 5
  · rw [if_pos q, if_pos ⟨by omega, by omega, q⟩]
  · rw [if_neg q, if_neg (fun z => q z.2.2)]
theorem bR_ho (e : Nat → Int32) {i t : Nat} (h : t < i) : ho (boyR e i) t = if kn e t = 5 then 0 else ho e t := by
  show boyR e i (9 + 5 * t) = _
  unfold boyR
  rw [show (9 + 5 * t - 5) / 5 = t by omega]
  by_cases q : kn e t = 5
  · rw [if_pos q, if_pos ⟨by omega, by omega, q⟩]
  · rw [if_neg q, if_neg (fun z => q z.2.2)]
theorem xBoys_L {e : Nat → Int32} {T P : Nat} {r : Nat} {k : Int32 → AH → Option (Unit × AH)} (hT : T ≤ 6) : ∀ m i f h, i + m = T → m < f → EstC (boyR e i) T P h r → ∃ h', fX2_partBoys_L2 r f (nI i) h k = k (nI T) h' ∧ EstC (boyR e T) T P h' r ∧ Fm r h h' := by
  intro m
  induction m with
  | zero =>
    intro i f h hi hf he
    obtain ⟨g, rfl, -⟩ := fuel_s hf
    have hiT : i = T := by omega
    subst hiT
    refine ⟨h, ?_, he, Fm.rf r h⟩
    rw [fX2_partBoys_L2, he.2.1.1, ite_lt (by omega) (by omega), if_neg (by omega)]
  | succ m ih =>
    intro i f h hi hf he
    obtain ⟨g, rfl, hg2⟩ := fuel_s hf
    have hr := he.1
    have ekn : kn (boyR e i) i = kn e i := bR_lo e i (by omega)
    have hk := (he.2.2.1 i (by omega)).1
    rw [ekn] at hk
    rw [fX2_partBoys_L2, he.2.1.1, ite_lt (by omega) (by omega), if_pos (by omega), cE1 hr (by omega), nI_clamp (by omega), hk]
    simp only [vl_d, nI_1]
    by_cases q : kn e i = 5
    · rw [if_pos q]
      obtain ⟨h2, l1, l2, l3⟩ := xLetGo he hT (show i < T by omega)
      rw [l1]
      simp only [bnd_s]
      have hnext : dropR (boyR e i) i = boyR e (i + 1) := by
        funext j
        unfold dropR
        by_cases q1 : j = 8 + 5 * i
        · subst q1
          rw [upd_s]
          exact ((bR_fr e (i := i + 1) (t := i) (by omega)).trans (if_pos q)).symm
        · rw [upd_n _ _ q1]
          by_cases q2 : j = 9 + 5 * i
          · subst q2
            rw [upd_s]
            exact ((bR_ho e (i := i + 1) (t := i) (by omega)).trans (if_pos q)).symm
          · rw [upd_n _ _ q2]
            unfold boyR
            by_cases q3 : (5 ≤ j ∧ j < 5 + 5 * i) ∧ (j % 5 = 3 ∨ j % 5 = 4) ∧ kn e ((j - 5) / 5) = 5
            · rw [if_pos q3, if_pos ⟨by omega, q3.2⟩]
            · rw [if_neg q3, if_neg (fun z => q3 ⟨by omega, z.2⟩)]
      rw [hnext] at l2
      obtain ⟨h', w1, w2, w3⟩ := ih (i + 1) g h2 (by omega) (by omega) l2
      exact ⟨h', w1, w2, l3.tr w3⟩
    · rw [if_neg q]
      have hnext : boyR e i = boyR e (i + 1) := by
        funext j
        unfold boyR
        by_cases q3 : (5 ≤ j ∧ j < 5 + 5 * i) ∧ (j % 5 = 3 ∨ j % 5 = 4) ∧ kn e ((j - 5) / 5) = 5
        · rw [if_pos q3, if_pos ⟨by omega, q3.2⟩]
        · rw [if_neg q3, if_neg]
          intro z
          by_cases q4 : j < 5 + 5 * i
          · exact q3 ⟨by omega, z.2⟩
          · have q5 := z.2.2
            rw [show (j - 5) / 5 = i by omega] at q5
            exact q q5
      rw [hnext] at he
      exact ih (i + 1) g h (by omega) (by omega) he
theorem xBoys {e : Nat → Int32} {T P : Nat} {r : Nat} {h : AH} (hT : T ≤ 6) (he : EstC e T P h r) : ∃ h', fX2_partBoys r h = some ((), h') ∧ EstC (boyR e T) T P h' r ∧ Fm r h h' := by
  unfold fX2_partBoys
  have h0 : boyR e 0 = e := by
    funext j
    exact bR_lo e 0 (by omega)
  obtain ⟨h', a, b, c⟩ := xBoys_L (e := e) (k := fun _ h2 => some ((), h2)) hT T 0 FU h (by omega) (by have := FU_big; omega) (by rw [h0]; exact he)
  rw [nI_0] at a
  exact ⟨h', a, b, c⟩
theorem EstC.hour {e : Nat → Int32} {T P : Nat} {h : AH} {r : Nat} (he : EstC e T P h r) (v : Int32) : EstC (upd e 4 v) T P (hs h r 4 v) r := by
  obtain ⟨a, ⟨b0, b1, b2, b3, b4, m, b5, b6⟩, c, d⟩ := he
  refine ⟨a, ⟨?_, ?_, ?_, ?_, ?_, m, ?_, b6.1, fun t q => ?_⟩, fun t q => ?_, fun p q => ?_⟩
  · rw [hs_ki h _ _ (by omega)]; exact b0
  · rw [hs_ki h _ _ (by omega)]; exact b1
  · rw [hs_ki h _ _ (by omega), upd_n _ _ (by omega)]; exact b2
  · rw [hs_ki h _ _ (by omega), upd_n _ _ (by omega)]; exact b3
  · rw [hs_kj, upd_s]
  · rw [hs_ki h _ _ (by omega)]; exact b5
  · show _ = decide (upd e 4 v (9 + 5 * t) = 1)
    rw [upd_n _ _ (by omega)]; exact b6.2 t q
  · show hs h r 4 v (r + 1) t = upd e 4 v (5 + 5 * t) ∧ hs h r 4 v (r + 2) t = upd e 4 v (6 + 5 * t) ∧ hs h r 4 v (r + 3) t = upd e 4 v (7 + 5 * t) ∧ hs h r 4 v (r + 4) t = upd e 4 v (8 + 5 * t)
    rw [hs_q h _ _ (by omega), hs_q h _ _ (by omega), hs_q h _ _ (by omega), hs_q h _ _ (by omega), upd_n _ _ (by omega), upd_n _ _ (by omega), upd_n _ _ (by omega), upd_n _ _ (by omega)]
    exact c t q
  · show hs h r 4 v (r + 5) p = upd e 4 v (35 + 2 * p) ∧ hs h r 4 v (r + 6) p = upd e 4 v (36 + 2 * p)
    rw [hs_q h _ _ (by omega), hs_q h _ _ (by omega), upd_n _ _ (by omega), upd_n _ _ (by omega)]
    exact d p q
theorem mtl_eq {e e' : Nat → Int32} {s : Int32} (h1 : e' 1 = e 1) : ∀ n, (∀ p, p < n → pa e' p = pa e p ∧ sd e' p = sd e p) → mtl e' s n = mtl e s n := by
  intro n
  induction n with
  | zero => exact fun _ => rfl
  | succ n ih =>
    intro h
    have ih' := ih (fun p hp => h p (by omega))
    have ho : onw e' s n = onw e s n := by
      unfold onw
      rw [h1, (h n (by omega)).1, (h n (by omega)).2]
    unfold mtl
    rw [ho, ih']
    cases hm : mtl e s n with
    | none => rfl
    | some b =>
      have hb := (mtl_lt hm).1
      simp only
      rw [(h n (by omega)).1, (h b (by omega)).1]
theorem nOut_eq {e e' : Nat → Int32} {s : Int32} {P : Nat} (h1 : e' 1 = e 1) (h : ∀ p, p < P → pa e' p = pa e p ∧ sd e' p = sd e p) : nOut e' P s = nOut e P s := by
  unfold nOut
  rw [mtl_eq h1 P h, h1]
  cases hm : mtl e s P with
  | none => rfl
  | some p =>
    simp only
    rw [(h p (mtl_lt hm).1).1]
theorem nSd_eq {e e' : Nat → Int32} {s : Int32} {P p : Nat} (h1 : e' 1 = e 1) (h : ∀ p, p < P → pa e' p = pa e p ∧ sd e' p = sd e p) (hp : p < P) : nSd e' P s p = nSd e P s p := by
  unfold nSd
  rw [mtl_eq h1 P h, h1, (h p hp).1, (h p hp).2]
theorem mtl_0 {e : Nat → Int32} {T P B : Nat} (hg : Gd e T P B) : ∀ n, n ≤ P → mtl e (nI 0) n = none := by
  obtain ⟨-, -, ⟨o, ho1, eo⟩, -, -, hpr⟩ := hg
  intro n
  induction n with
  | zero => exact fun _ => rfl
  | succ n ih =>
    intro hn
    obtain ⟨⟨a, ha, ea⟩, d, hd, ed⟩ := hpr n (by omega)
    have : onw e (nI 0) n = false := by
      rw [onw_nat ho1 (by omega) hd ha eo ea ed]
      by_cases q : a < o
      · simp [q]
      · simp [q]
    unfold mtl
    rw [this]
    exact ih (by omega)
/-- an hour of the class's estuary -/
theorem xHour {e : Nat → Int32} {T P B : Nat} {h : AH} {r : Nat} (fog : Int32) (hg : Gd e T P B) (hB : B ≤ 20000) (he : EstC e T P h r) : ∃ h', fX2_passHour r fog h = some ((), h') ∧ EstC (hourR e T P fog) T P h' r ∧ Fm r h h' := by
  have hT : T ≤ 6 := hg.1.2.1
  have hP : P ≤ 4 := hg.1.2.2.1
  obtain ⟨s, hs, es⟩ := spF_nat hg hB fog
  have hgT := Gd_fray0 hg T (Nat.le_refl T)
  have e0T : fray0 e T 0 = e 0 := f0_lo e T (by omega)
  have e1T : fray0 e T 1 = e 1 := f0_lo e T (by omega)
  have e4T : fray0 e T 4 = e 4 := f0_lo e T (by omega)
  -- what is left, once the speed is known
  have last : ∀ (e1 : Nat → Int32) (h4 : AH), Gd e1 T P B → EstC e1 T P h4 r → Fm r h h4 → (∀ j, j < 5 → e1 j = e j) → (∀ t, t < T → kn e1 t = kn e t ∧ pl e1 t = pl e t ∧ rp e1 t = rp e t ∧ fr e1 t = nFr e (nI s) t ∧ ho e1 t = nHo e (nI s) t) → (∀ p, p < P → pa e1 p = pa e p ∧ sd e1 p = sd e p) → ∃ h', (if (0 : Int32) < nI s then (bnd (fX2_comeNearer r (nI s) h4) fun _ h6 => sto (hs h6 r 4 (h6 r 4 + 1)) fun h7 => some ((), h7)) else sto (hs h4 r 4 (h4 r 4 + 1)) fun h8 => some ((), h8)) = some ((), h') ∧ EstC (hourS e T P (nI s)) T P h' r ∧ Fm r h h' := by
    sorry
  sorry
