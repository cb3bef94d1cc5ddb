/-! Tries: what is gone through without being kept. -/
def Ag (e' e : Nat → Int32) : Prop := ∀ j, j < 43 → e' j = e j
theorem Ag.rf (e : Nat → Int32) : Ag e e := fun _ _ => rfl
theorem drw_ag {e e' : Nat → Int32} {t : Nat} (a : Ag e' e) (ht : t < 6) : drw e' t = drw e t := drw_eq (a 4 (by omega)) (a (5 + 5 * t) (by omega)) (a (6 + 5 * t) (by omega)) (a (9 + 5 * t) (by omega))
theorem sumD_ag {e e' : Nat → Int32} (a : Ag e' e) : ∀ n, n ≤ 6 → sumD e' n = sumD e n := by
  intro n
  induction n with
  | zero => intro _; rfl
  | succ n ih => intro hn; unfold sumD; rw [ih (by omega), drw_ag a (by omega)]
theorem spd_ag {e e' : Nat → Int32} (a : Ag e' e) (f : Int32) : spd e' f = spd e f := by
  unfold spd
  rw [a 0 (by omega), a 1 (by omega)]
theorem spF_ag {e e' : Nat → Int32} {T : Nat} (a : Ag e' e) (hT : T ≤ 6) (fog : Int32) : spF e' T fog = spF e T fog := by
  unfold spF
  rw [sumD_ag a T hT, spd_ag a]
theorem pier_ag {e e' : Nat → Int32} {P : Nat} (a : Ag e' e) (hP : P ≤ 4) : ∀ p, p < P → pa e' p = pa e p ∧ sd e' p = sd e p := fun p hp => ⟨a (35 + 2 * p) (by omega), a (36 + 2 * p) (by omega)⟩
theorem prt_ag {e e' : Nat → Int32} {t : Nat} {s : Int32} (a : Ag e' e) (ht : t < 6) : prt e' s t = prt e s t ∧ fr1 e' t = fr1 e t := by
  have h1 : kn e' t = kn e t := a (5 + 5 * t) (by omega)
  have h2 : rp e' t = rp e t := a (7 + 5 * t) (by omega)
  have h3 : fr e' t = fr e t := a (8 + 5 * t) (by omega)
  have h4 : fr1 e' t = fr1 e t := by unfold fr1; rw [drw_ag a ht, h2, h3]
  refine ⟨?_, h4⟩
  unfold prt lim
  rw [h4, h1]
theorem hourS_ag {e e' : Nat → Int32} {T P : Nat} (a : Ag e' e) (hT : T ≤ 6) (hP : P ≤ 4) (s : Int32) : Ag (hourS e' T P s) (hourS e T P s) := by
  intro j hj
  unfold hourS
  by_cases q1 : j = 1
  · rw [if_pos q1, if_pos q1]; exact nOut_eq (a 1 (by omega)) (pier_ag a hP)
  rw [if_neg q1, if_neg q1]
  by_cases q2 : j = 4
  · rw [if_pos q2, if_pos q2, a 4 (by omega)]
  rw [if_neg q2, if_neg q2]
  by_cases q3 : 5 ≤ j ∧ j < 5 + 5 * T
  · rw [if_pos q3, if_pos q3]
    have ht : (j - 5) / 5 < 6 := by omega
    have h3 : fr e' ((j - 5) / 5) = fr e ((j - 5) / 5) := a (8 + 5 * ((j - 5) / 5)) (by omega)
    have h4 : ho e' ((j - 5) / 5) = ho e ((j - 5) / 5) := a (9 + 5 * ((j - 5) / 5)) (by omega)
    have h5 := prt_ag (s := s) a ht
    unfold nFr nHo
    rw [h3, h4, h5.1, h5.2, a j hj]
  rw [if_neg q3, if_neg q3]
  by_cases q4 : 35 ≤ j ∧ j < 35 + 2 * P
  · rw [if_pos q4, if_pos q4, a j hj, nSd_eq (a 1 (by omega)) (pier_ag a hP) (by omega)]
  · rw [if_neg q4, if_neg q4, a j hj]
theorem hour_ag {e e' : Nat → Int32} {T P : Nat} (a : Ag e' e) (hT : T ≤ 6) (hP : P ≤ 4) (fog : Int32) : Ag (hourR e' T P fog) (hourR e T P fog) := by
  unfold hourR
  rw [spF_ag a hT]
  exact hourS_ag a hT hP _
theorem hEs_s (T P : Nat) : ∀ m e, hEs T P (m + 1) e = hourR (hEs T P m e) T P 0 := by
  intro m
  induction m with
  | zero => intro e; rfl
  | succ m ih => intro e; show hEs T P (m + 1) (hourR e T P 0) = _; rw [ih]; rfl
theorem Gd_hEs {T P : Nat} : ∀ m e B, Gd e T P B → B + m ≤ 20000 → Gd (hEs T P m e) T P (B + m) := by
  intro m
  induction m with
  | zero => intro e B hg _; exact hg
  | succ m ih =>
    intro e B hg hB
    have := ih (hourR e T P 0) (B + 1) (Gd_hour 0 hg (by omega)) (by omega)
    rw [show B + 1 + m = B + (m + 1) by omega] at this
    exact this
/-- what is in stays in -/
theorem in_stays {e : Nat → Int32} {T P B : Nat} (hg : Gd e T P B) (z : e 1 = 0) (fog : Int32) : hourR e T P fog 1 = 0 := by
  unfold hourR
  rw [hS_1]
  have s0 : spF e T fog = nI 0 := by unfold spF spd; rw [if_pos z]; rfl
  rw [s0]
  unfold nOut
  rw [mtl_0 hg P (Nat.le_refl P), z]
  exact if_neg (by decide)
theorem in_stays_n {T P : Nat} : ∀ m e B, Gd e T P B → B + m ≤ 20000 → e 1 = 0 → hEs T P m e 1 = 0 := by
  intro m
  induction m with
  | zero => intro e B _ _ z; exact z
  | succ m ih => intro e B hg hB z; exact ih (hourR e T P 0) (B + 1) (Gd_hour 0 hg (by omega)) (by omega) (in_stays hg z 0)
/-- the row of the tries tells X -/
theorem mTryA (h : AH) : ∃ h', fX6_copies 284 (0 : Int32) 286 (0 : Int32) h = some ((), h') ∧ Ag (h' 286) (h 284) ∧ ∀ k, k ≠ 286 → h' k = h k := by
  obtain ⟨e, k1, k2⟩ := mTry h
  exact ⟨_, k1, by rw [hr_eq]; exact k2, fun k hk => hr_ne _ _ hk⟩
theorem mHr {X : Nat → Int32} {T P B : Nat} {h : AH} (fog : Int32) (a : Ag (h 286) X) (hg : Gd X T P B) : ∃ h', fX6_passes 286 fog h = some ((), h') ∧ Ag (h' 286) (hourR X T P fog) ∧ ∀ k, k ≠ 286 → h' k = h k := by
  obtain ⟨m0, hm1, hm2, e0⟩ := hg.2.1
  refine ⟨_, mHour (T := T) (P := P) fog ln_286 hg.1.2.1 hg.1.2.2.1 (by rw [a 0 (by omega), e0]; exact nI_ne0 (by omega) (by omega)) (by rw [a 2 (by omega)]; exact hg.1.2.2.2.1) (by rw [a 3 (by omega)]; exact hg.1.2.2.2.2), ?_, fun k hk => hr_ne _ _ hk⟩
  rw [hr_eq]
  exact hour_ag a hg.1.2.1 hg.1.2.2.1 fog
theorem xNow {e : Nat → Int32} {T P : Nat} {h : AH} (he : EstC e T P h 20) (hT : T ≤ 6) (hP : P ≤ 4) : ∃ h', fX5_fromNow h = some (213, h') ∧ EstC e T P h' 213 ∧ Fm 213 h h' := by
  unfold fX5_fromNow
  obtain ⟨h1, k1, he1, q1⟩ := xTake (r := 213) he hT hP kd_213 (by omega)
  have c : ∀ {o : Option (Nat × AH)}, chk (inb (0 : Int32) (ln 212)) o = o := chk_p (by rw [ln_212]; exact inb_n (k := 0) (by decide) (by decide))
  refine ⟨h1, ?_, he1, q1⟩
  simp only [c, cl_0, show 212 + 1 + 7 * 0 = 213 from rfl]
  rw [k1]
  rfl
theorem mGoes_L {T P n : Nat} {k : Int32 → AH → Option (Unit × AH)} (hn : n ≤ 100) : ∀ m i f h X B, i + m = n → m < f → Ag (h 286) X → Gd X T P B → B + m ≤ 20000 → ∃ h', fX6_goesOn_L2 (nI n) f (nI i) h k = k (nI n) h' ∧ Ag (h' 286) (hEs T P m X) ∧ ∀ k, k ≠ 286 → h' k = h k := by
  intro m
  induction m with
  | zero =>
    intro i f h X B hi hf a hg hB
    obtain ⟨g, rfl, -⟩ := fuel_s hf
    have : i = n := by omega
    subst this
    unfold fX6_goesOn_L2
    rw [if_neg (nI_nlt (Nat.le_refl i) (by omega))]
    exact ⟨h, rfl, a, fun _ _ => rfl⟩
  | succ m ih =>
    intro i f h X B hi hf a hg hB
    obtain ⟨g, rfl, hf'⟩ := fuel_s hf
    unfold fX6_goesOn_L2
    rw [if_pos (nI_lt (by omega) (by omega))]
    obtain ⟨h1, k1, a1, q1⟩ := mHr 0 a hg
    rw [k1]
    simp only [bnd_s, vl_d, nI_1]
    obtain ⟨h', r1, r2, r3⟩ := ih (i + 1) g h1 (hourR X T P 0) (B + 1) (by omega) (by omega) a1 (Gd_hour 0 hg (by omega)) (by omega)
    exact ⟨h', r1, r2, fun k hk => by rw [r3 k hk, q1 k hk]⟩
theorem mGoes {T P n B : Nat} {X : Nat → Int32} {h : AH} (hn : n ≤ 100) (a : Ag (h 286) X) (hg : Gd X T P B) (hB : B + n ≤ 20000) : ∃ h', fX6_goesOn (nI n) h = some ((), h') ∧ Ag (h' 286) (hEs T P n X) ∧ ∀ k, k ≠ 286 → h' k = h k := by
  unfold fX6_goesOn
  obtain ⟨h', r1, r2, r3⟩ := mGoes_L (T := T) (P := P) (k := fun _ h2 => some ((), h2)) hn n 0 FU h X B (by omega) (by have := FU_big; omega) a hg hB
  rw [nI_0] at r1
  exact ⟨h', r1, r2, r3⟩
theorem xLater_L {T P n r : Nat} {p2 : Int32} {k : Int32 → AH → Option (Int32 × AH)} (hn : n ≤ 100) : ∀ m i f h X B, i + m = n → m < f → EstC X T P h r → Gd X T P B → B + m ≤ 20000 → ∃ h', fX5_later_L40 r (nI n) p2 f (nI i) h k = k (nI n) h' ∧ EstC (hEs T P m X) T P h' r ∧ Fm r h h' := by
  intro m
  induction m with
  | zero =>
    intro i f h X B hi hf a hg hB
    obtain ⟨g, rfl, -⟩ := fuel_s hf
    have : i = n := by omega
    subst this
    unfold fX5_later_L40
    rw [if_neg (nI_nlt (Nat.le_refl i) (by omega))]
    exact ⟨h, rfl, a, Fm.rf _ _⟩
  | succ m ih =>
    intro i f h X B hi hf a hg hB
    obtain ⟨g, rfl, hf'⟩ := fuel_s hf
    unfold fX5_later_L40
    rw [if_pos (nI_lt (by omega) (by omega))]
    obtain ⟨h1, k1, a1, q1⟩ := xHour 0 hg (by omega) a
    rw [k1]
    simp only [bnd_s, vl_d, nI_1]
    obtain ⟨h', r1, r2, r3⟩ := ih (i + 1) g h1 (hourR X T P 0) (B + 1) (by omega) (by omega) a1 (Gd_hour 0 hg (by omega)) (by omega)
    exact ⟨h', r1, r2, q1.tr r3⟩
/-- the two tries, one after the other, leave all that is kept -/
theorem try_sc {h h1 h2 : AH} (a : Fm 213 h h1) (b : ∀ k, k ≠ 286 → h2 k = h1 k) : Sc h h2 := fun k hk => by rw [b k (by omega), a k (by omega)]
set_option maxRecDepth 4000 in
theorem both_later {h : AH} (i : Inv h) (a b : Int32) : Both (fX5_later a b h) (fX6_later a b) := by
  unfold fX5_later fX6_later
  rcases ests i.2.2.2.1 with ⟨q1, q2⟩ | ⟨T, P, hg, he, q1, q2⟩
  · refine Both.same (h := h) (v := -1000002) i ?_ ?_
    · rw [q1]; rfl
    · rw [q2 h rfl]; rfl
  have hT := hg.1.2.1
  have hP := hg.1.2.2.1
  rw [q1]
  simp only [bnd_s, ↓reduceIte, cW1 ln_286, cl_1]
  rcases rl a 0 60 0 60 rfl rfl (by omega) (by omega) with p | ⟨p, p2⟩ | ⟨p, p2, n, -, hn, rfl⟩
  · refine Both.same (h := h) (v := -1000001) i (by rw [if_pos p]) ?_
    rw [q2 h rfl]; simp only [bnd_s, if1]; rw [mIn_l h p]; rfl
  · refine Both.same (h := h) (v := -1000001) i (by rw [if_neg p, if_pos p2]) ?_
    rw [q2 h rfl]; simp only [bnd_s, if1]; rw [mIn_u h p p2]; rfl
  rw [if_neg p, if_neg p2]
  -- the reference, from any heap that has the same now
  have ref : ∀ h1 : AH, h1 284 = h 284 → ∃ h2, Ag (h2 286) (hEs T P n (h 284)) ∧ (∀ k, k ≠ 286 → h2 k = h1 k) ∧ ∀ kk : AH → Option (Int32 × AH), (bnd (fX6_isEstuary h1) fun v2 h1 => if v2 = 0 then some (-1000002, h1) else bnd (fX6_in (nI n) 0 60 h1) fun v4 h3 => if v4 = 0 then some (-1000001, h3) else bnd (fX6_copies 284 0 286 0 h3) fun _ h5 => bnd (fX6_goesOn (nI n) h5) fun _ h6 => kk h6) = kk h2 := by
    intro h1 e1
    obtain ⟨h3, k3, a3, q3⟩ := mTryA h1
    rw [e1] at a3
    obtain ⟨h4, k4, a4, q4⟩ := mGoes (n := n) (by omega) a3 hg (by omega)
    refine ⟨h4, a4, fun k hk => by rw [q4 k hk, q3 k hk], fun kk => ?_⟩
    rw [q2 h1 e1]
    simp only [bnd_s, if1]
    rw [mIn_i h1 p p2]
    simp only [bnd_s, if1]
    rw [k3]
    simp only [bnd_s]
    rw [k4]
    simp only [bnd_s]
  rcases rl b 0 3 0 3 rfl rfl (by omega) (by omega) with w | ⟨w, w2⟩ | ⟨w, w2, s, -, hs3, rfl⟩
  · rw [if_pos w]
    refine Both.of rfl ?_
    obtain ⟨h2, r1, r2, r3⟩ := ref h rfl
    rw [r3]
    have nb : ∀ c : Int32, ¬ c < 0 → ¬ b = c := fun c hc z => hc (z ▸ w)
    rw [if_neg (nb 0 (by decide)), if_neg (nb 1 (by decide)), if_neg (nb 2 (by decide)), if_neg (nb 3 (by decide))]
    exact ⟨_, rfl, i.sc fun k hk => r2 k (by omega)⟩
  · rw [if_neg w, if_pos w2]
    refine Both.of rfl ?_
    obtain ⟨h2, r1, r2, r3⟩ := ref h rfl
    rw [r3]
    have nb : ∀ c : Int32, ¬ 3 < c → ¬ b = c := fun c hc z => hc (z ▸ w2)
    rw [if_neg (nb 0 (by decide)), if_neg (nb 1 (by decide)), if_neg (nb 2 (by decide)), if_neg (nb 3 (by decide))]
    exact ⟨_, rfl, i.sc fun k hk => r2 k (by omega)⟩
  rw [if_neg w, if_neg w2]
  obtain ⟨h1, k1, he1, q3⟩ := xNow he hT hP
  rw [k1]
  simp only [bnd_s]
  rw [chk_p kd_213]
  obtain ⟨h2, r1, r2, r3⟩ := xLater_L (T := T) (P := P) (n := n) (r := 213) (p2 := nI s) (k := fun _ h7 => (if nI s = 0 then (some ((h7 213 3), h7)) else (if nI s = 1 then (bnd (fX2_force 213 h7) fun v10 h9 => (bnd (fX2_speedBy 213 v10 h9) fun v12 h11 => (some (v12, h11)))) else (if nI s = 2 then (some ((h7 213 5), h7)) else (bnd (fX2_standing 213 h7) fun v16 h15 => (some (v16, h15))))))) (by omega) n 0 FU h1 (h 284) 9999 (by omega) (by have := FU_big; omega) he1 hg (by omega)
  rw [nI_0] at r1
  rw [r1]
  have hgn := Gd_hEs n (h 284) 9999 hg (by omega)
  have f2 : Fm 213 h h2 := q3.tr r3
  obtain ⟨h3, s1, s2, s3⟩ := ref h2 (f2 284 (by omega))
  have iv : Inv h3 := i.sc (try_sc f2 s2)
  rcases (show s = 0 ∨ s = 1 ∨ s = 2 ∨ s = 3 by omega) with e | e | e | e <;> subst e
  · rw [if_pos (show nI 0 = 0 from rfl)]
    refine Both.of rfl ?_
    rw [s3, if_pos (show nI 0 = 0 from rfl), s1 1 (by omega), r2.2.1.2.2.2.1]
    exact ⟨_, rfl, iv⟩
  · rw [if_neg (show ¬ nI 1 = 0 by decide), if_pos (show nI 1 = 1 from rfl), xForce hgn (by omega) r2]
    simp only [bnd_s]
    rw [xSpeed _ hgn (by omega) r2]
    refine Both.of rfl ?_
    rw [s3, if_neg (show ¬ nI 1 = 0 by decide), if_pos (show nI 1 = 1 from rfl), mForce (T := T) ln_286 hT (by rw [s1 2 (by omega)]; exact hgn.1.2.2.2.1)]
    simp only [bnd_s]
    obtain ⟨m0, hm1, hm2, e0⟩ := hgn.2.1
    rw [mSpeed _ ln_286 (by rw [s1 0 (by omega), e0]; exact nI_ne0 (by omega) (by omega)), sumD_ag s1 T hT, spd_ag s1]
    exact ⟨_, rfl, iv⟩
  · rw [if_neg (show ¬ nI 2 = 0 by decide), if_neg (show ¬ nI 2 = 1 by decide), if_pos (show nI 2 = 2 from rfl)]
    refine Both.of rfl ?_
    rw [s3, if_neg (show ¬ nI 2 = 0 by decide), if_neg (show ¬ nI 2 = 1 by decide), if_pos (show nI 2 = 2 from rfl), mHolding (T := T) ln_286 hT (by rw [s1 2 (by omega)]; exact hgn.1.2.2.2.1) (fun t ht => by rw [show ho (h3 286) t = _ from s1 (9 + 5 * t) (by omega)]; exact hgn.hold t ht), r2.hm hT, hm_eq T fun t ht => s1 (9 + 5 * t) (by omega)]
    exact ⟨_, rfl, iv⟩
  · rw [if_neg (show ¬ nI 3 = 0 by decide), if_neg (show ¬ nI 3 = 1 by decide), if_neg (show ¬ nI 3 = 2 by decide), xStand r2 hP]
    refine Both.of rfl ?_
    rw [s3, if_neg (show ¬ nI 3 = 0 by decide), if_neg (show ¬ nI 3 = 1 by decide), if_neg (show ¬ nI 3 = 2 by decide), if_pos (show nI 3 = 3 from rfl), mStand (P := P) ln_286 hP (by rw [s1 3 (by omega)]; exact hgn.1.2.2.2.2), sm_eq P fun t ht => s1 (36 + 2 * t) (by omega)]
    exact ⟨_, rfl, iv⟩
