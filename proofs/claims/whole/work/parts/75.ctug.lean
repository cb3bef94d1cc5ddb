/-! The class reads a tug, a pier. -/
def Cf (h h' : AH) : Prop := ∀ k, k ≠ 18 → (k < 213 ∨ 219 < k) → h' k = h k
theorem Cf.rf (h : AH) : Cf h h := fun _ _ _ => rfl
theorem Cf.tr {h h1 h2 : AH} (a : Cf h h1) (b : Cf h1 h2) : Cf h h2 := fun k h1 h2 => (b k h1 h2).trans (a k h1 h2)
theorem CT.to {h h' : AH} {n p q : Nat} {bb : Nat → Nat} (c : CT h n bb p) (hq : q ≤ n) (e1 : h' 18 1 = h 18 1) (e2 : h' 18 2 = nI q) (e3 : h' 19 = h 19) : CT h' n bb q := ⟨c.1, hq, by rw [e1]; exact c.2.2.1, e2, fun i hi => by rw [e3]; exact c.2.2.2.2 i hi⟩
def kdN (b : Nat) : Nat := if b = 97 then 4 else if b = 98 then 5 else if b = 108 then 2 else if b = 112 then 1 else if b = 115 then 3 else 0
theorem kdN_le (b : Nat) : kdN b ≤ 5 := by
  unfold kdN
  repeat (first | omega | split)
theorem xSort {h : AH} {n p : Nat} {bb : Nat → Nat} (c : CT h n bb p) : fX4_sortHere h = some (nI (if p < n then kdN (bb p) else 0), h) := by
  unfold fX4_sortHere
  rw [xHere c, bnd_e]
  unfold btI kdN
  by_cases z : p < n
  · have hb := (c.2.2.2.2 p z).1
    have q : ∀ x : Nat, x ≤ 255 → (nI (bb p) = nI x ↔ bb p = x) := fun x hx => nI_eq (by omega) (by omega)
    rw [if_pos z, if_pos z]
    by_cases a1 : bb p = 97
    · rw [if_pos (show nI (bb p) = 97 from (q 97 (by omega)).mpr a1), if_pos a1]; rfl
    rw [if_neg (show ¬ nI (bb p) = 97 from fun w => a1 ((q 97 (by omega)).mp w)), if_neg a1]
    by_cases a2 : bb p = 98
    · rw [if_pos (show nI (bb p) = 98 from (q 98 (by omega)).mpr a2), if_pos a2]; rfl
    rw [if_neg (show ¬ nI (bb p) = 98 from fun w => a2 ((q 98 (by omega)).mp w)), if_neg a2]
    by_cases a3 : bb p = 108
    · rw [if_pos (show nI (bb p) = 108 from (q 108 (by omega)).mpr a3), if_pos a3]; rfl
    rw [if_neg (show ¬ nI (bb p) = 108 from fun w => a3 ((q 108 (by omega)).mp w)), if_neg a3]
    by_cases a4 : bb p = 112
    · rw [if_pos (show nI (bb p) = 112 from (q 112 (by omega)).mpr a4), if_pos a4]; rfl
    rw [if_neg (show ¬ nI (bb p) = 112 from fun w => a4 ((q 112 (by omega)).mp w)), if_neg a4]
    by_cases a5 : bb p = 115
    · rw [if_pos (show nI (bb p) = 115 from (q 115 (by omega)).mpr a5), if_pos a5]; rfl
    rw [if_neg (show ¬ nI (bb p) = 115 from fun w => a5 ((q 115 (by omega)).mp w)), if_neg a5]
    rfl
  · rw [if_neg z, if_neg z]; rfl
def addT (e : Nat → Int32) (t k v w : Nat) : Nat → Int32 := upd (upd (upd (upd (upd e (5 + 5 * t) (nI k)) (6 + 5 * t) (nI v)) (7 + 5 * t) (nI w)) (9 + 5 * t) 1) 2 (nI (t + 1))
def addP (e : Nat → Int32) (p v w : Nat) : Nat → Int32 := upd (upd (upd e (35 + 2 * p) (nI v)) (36 + 2 * p) (nI w)) 3 (nI (p + 1))
theorem xTug {h : AH} {n p t k P : Nat} {bb : Nat → Nat} {e : Nat → Int32} (c : CT h n bb p) (hz : p < n) (hk : kdN (bb p) = k) (ht : t < 6) (he : EstC e t P h 213) (f0 : h 217 t = 0) (e8 : e (8 + 5 * t) = 0) : match rP n bb 1 20 (p + 1) with
    | .inl (f, pl) => ∃ h', fX4_readTug 213 (nI t) h = some (0, h') ∧ h' 18 3 = nI f ∧ h' 18 2 = nI pl ∧ Cf h h'
    | .inr (v, w, q) => ∃ h', fX4_readTug 213 (nI t) h = some (1, h') ∧ CT h' n bb q ∧ h' 18 3 = h 18 3 ∧ Cf h h' ∧ EstC (addT e t k v w) (t + 1) P h' 213 ∧ h' 217 = h 217 := by
  have go : fX4_readTug 213 (nI t) h = (bnd (fX4_readNumber (1 : Int32) (20 : Int32) (hs (hs h 214 t (nI k)) 18 2 (nI (p + 1)))) fun v6 h5 => (if v6 = 0 then (some ((0 : Int32), h5)) else (sto (hs h5 215 t (h5 18 4)) fun h7 => (bnd (fX4_readSign (44) h7) fun v9 h8 => (if v9 = 0 then (some ((0 : Int32), h8)) else (bnd (fX4_readNumber (1 : Int32) (20 : Int32) h8) fun v11 h10 => (if v11 = 0 then (some ((0 : Int32), h10)) else (sto (hs h10 216 t (h10 18 4)) fun h12 => (sto (hs h12 213 5 ((h12 213 5) ||| ((1 : Int32) <<< (nI t &&& 31)))) fun h13 => (sto (hs h13 213 0 (nI (t + 1))) fun h14 => (bnd (fX4_readSign (59) h14) fun v16 h15 => (chk (v16 = 0 ∨ v16 = 1) (some (v16, h15)))))))))))))) := by
    unfold fX4_readTug
    rw [xSort c, bnd_e, if_pos hz, hk]
    simp only [cE1 kd_213 ht, cE2 kd_213 ht, cE3 kd_213 ht, nI_clamp (show t < 2 ^ 31 by omega), nI_1]
    rw [sto_e, sto_e, hs_q _ _ _ (show (18 : Nat) ≠ 214 by decide), c.2.2.2.1, nI_1]
  rw [go]
  have c4 : CT (hs (hs h 214 t (nI k)) 18 2 (nI (p + 1))) n bb (p + 1) := c.to (by omega) (by simp (disch := omega) only [hs_q, hs_ki]) (hs_kj _ _ _ _) (by simp (disch := omega) only [hs_q])
  have x4 := xNum (lo := 1) (hi := 20) c4 (by omega) (by omega)
  rw [show nI 1 = 1 from rfl, show nI 20 = 20 from rfl] at x4
  rw [x4]
  unfold rP
  cases r1 : rN n bb 1 20 (p + 1) with
  | inl a =>
    obtain ⟨f, pl⟩ := a
    have pe := (rN_pl r1).1
    subst pe
    show ∃ h', (bnd (some (0, _)) _ = some (0, h')) ∧ _
    rw [bnd_e, if0]
    refine ⟨_, rfl, hs_kj _ _ _ _, ?_, fun k w1 w2 => ?_⟩
    · rw [hs_ki _ _ _ (by decide), hs_kj]
    · simp (disch := omega) only [hs_q]
  | inr a =>
    obtain ⟨v, q⟩ := a
    have g1 := rN_le r1
    simp only [sbd]
    rw [bnd_e, if1, sto_e, hs_ki _ _ _ (show (4 : Nat) ≠ 2 by decide), hs_kj]
    have c7 : CT (hs (hs (hs (hs (hs h 214 t (nI k)) 18 2 (nI (p + 1))) 18 4 (nI v)) 18 2 (nI q)) 215 t (nI v)) n bb q := c4.to g1.1 (by simp (disch := omega) only [hs_q, hs_ki]) (by rw [hs_q _ _ _ (by decide), hs_kj]) (by simp (disch := omega) only [hs_q])
    have x7 := xSign (c := 44) c7 (by omega)
    rw [show nI 44 = 44 from rfl] at x7
    rw [x7]
    unfold rF
    cases r2 : rS n bb 44 q with
    | inl a =>
      obtain ⟨f, pl⟩ := a
      have pe := rS_pl r2
      obtain ⟨rfl, rfl⟩ := pe
      simp only [sbd]
      rw [bnd_e, if0]
      refine ⟨_, rfl, hs_kj _ _ _ _, ?_, fun k w1 w2 => ?_⟩
      · rw [hs_ki _ _ _ (by decide), hs_q _ _ _ (by decide), hs_kj]
      · simp (disch := omega) only [hs_q]
    | inr q2 =>
      have g2 := rS_le r2
      simp only [sbd]
      rw [bnd_e, if1]
      have c8 : CT (hs (hs (hs (hs (hs (hs h 214 t (nI k)) 18 2 (nI (p + 1))) 18 4 (nI v)) 18 2 (nI q)) 215 t (nI v)) 18 2 (nI q2)) n bb q2 := c7.to g2.1 (by simp (disch := omega) only [hs_q, hs_ki]) (hs_kj _ _ _ _) (by simp (disch := omega) only [hs_q])
      have x8 := xNum (lo := 1) (hi := 20) c8 (by omega) (by omega)
      rw [show nI 1 = 1 from rfl, show nI 20 = 20 from rfl] at x8
      rw [x8]
      cases r3 : rN n bb 1 20 q2 with
      | inl a =>
        obtain ⟨f, pl⟩ := a
        have pe := (rN_pl r3).1
        subst pe
        simp only []
        rw [bnd_e, if0]
        refine ⟨_, rfl, hs_kj _ _ _ _, ?_, fun k w1 w2 => ?_⟩
        · rw [hs_ki _ _ _ (by decide), hs_kj]
        · simp (disch := omega) only [hs_q]
      | inr a =>
        obtain ⟨w, q3⟩ := a
        have g3 := rN_le r3
        simp only []
        rw [bnd_e, if1, sto_e, sto_e, sto_e, hs_ki _ _ _ (show (4 : Nat) ≠ 2 by decide), hs_kj]
        have c9 : CT (hs (hs (hs (hs (hs (hs (hs (hs h 214 t (nI k)) 18 2 (nI (p + 1))) 18 4 (nI v)) 18 2 (nI q)) 215 t (nI v)) 18 2 (nI q2)) 18 4 (nI w)) 18 2 (nI q3)) n bb q3 := c8.to g3.1 (by simp (disch := omega) only [hs_q, hs_ki]) (hs_kj _ _ _ _) (by simp (disch := omega) only [hs_q])
        have f9 : Cf h (hs (hs (hs (hs (hs (hs (hs (hs h 214 t (nI k)) 18 2 (nI (p + 1))) 18 4 (nI v)) 18 2 (nI q)) 215 t (nI v)) 18 2 (nI q2)) 18 4 (nI w)) 18 2 (nI q3)) := fun k w1 w2 => by simp (disch := omega) only [hs_q]
        have r13 : (hs (hs (hs (hs (hs (hs (hs (hs h 214 t (nI k)) 18 2 (nI (p + 1))) 18 4 (nI v)) 18 2 (nI q)) 215 t (nI v)) 18 2 (nI q2)) 18 4 (nI w)) 18 2 (nI q3)) 213 = h 213 := by simp (disch := omega) only [hs_q]
        have r14 : (hs (hs (hs (hs (hs (hs (hs (hs h 214 t (nI k)) 18 2 (nI (p + 1))) 18 4 (nI v)) 18 2 (nI q)) 215 t (nI v)) 18 2 (nI q2)) 18 4 (nI w)) 18 2 (nI q3)) 214 = upd (h 214) t (nI k) := by simp (disch := omega) only [hs_q, hs_k]
        have r15 : (hs (hs (hs (hs (hs (hs (hs (hs h 214 t (nI k)) 18 2 (nI (p + 1))) 18 4 (nI v)) 18 2 (nI q)) 215 t (nI v)) 18 2 (nI q2)) 18 4 (nI w)) 18 2 (nI q3)) 215 = upd (h 215) t (nI v) := by simp (disch := omega) only [hs_q, hs_k]
        have r16 : (hs (hs (hs (hs (hs (hs (hs (hs h 214 t (nI k)) 18 2 (nI (p + 1))) 18 4 (nI v)) 18 2 (nI q)) 215 t (nI v)) 18 2 (nI q2)) 18 4 (nI w)) 18 2 (nI q3)) 216 = h 216 := by simp (disch := omega) only [hs_q]
        have r17 : (hs (hs (hs (hs (hs (hs (hs (hs h 214 t (nI k)) 18 2 (nI (p + 1))) 18 4 (nI v)) 18 2 (nI q)) 215 t (nI v)) 18 2 (nI q2)) 18 4 (nI w)) 18 2 (nI q3)) 217 = h 217 := by simp (disch := omega) only [hs_q]
        have r18 : (hs (hs (hs (hs (hs (hs (hs (hs h 214 t (nI k)) 18 2 (nI (p + 1))) 18 4 (nI v)) 18 2 (nI q)) 215 t (nI v)) 18 2 (nI q2)) 18 4 (nI w)) 18 2 (nI q3)) 218 = h 218 := by simp (disch := omega) only [hs_q]
        have r19 : (hs (hs (hs (hs (hs (hs (hs (hs h 214 t (nI k)) 18 2 (nI (p + 1))) 18 4 (nI v)) 18 2 (nI q)) 215 t (nI v)) 18 2 (nI q2)) 18 4 (nI w)) 18 2 (nI q3)) 219 = h 219 := by simp (disch := omega) only [hs_q]
        have e3 : (hs (hs (hs (hs (hs (hs (hs (hs h 214 t (nI k)) 18 2 (nI (p + 1))) 18 4 (nI v)) 18 2 (nI q)) 215 t (nI v)) 18 2 (nI q2)) 18 4 (nI w)) 18 2 (nI q3)) 18 3 = h 18 3 := by simp (disch := omega) only [hs_q, hs_ki]
        revert c9 f9 r13 r14 r15 r16 r17 r18 r19 e3
        generalize hs (hs (hs (hs (hs (hs (hs (hs h 214 t (nI k)) 18 2 (nI (p + 1))) 18 4 (nI v)) 18 2 (nI q)) 215 t (nI v)) 18 2 (nI q2)) 18 4 (nI w)) 18 2 (nI q3) = g
        intro c9 f9 r13 r14 r15 r16 r17 r18 r19 e3
        have h64 : hm e t < 64 := Nat.lt_of_lt_of_le (hm_lt e t) (p2_64 (by omega))
        rw [hs_q _ _ _ (show (213 : Nat) ≠ 216 by decide), r13, he.hm (by omega), or_1 t ht _ h64 (hm_lt e t)]
        have c14 : CT (hs (hs (hs g 216 t (nI w)) 213 5 (nI (hm e t + 2 ^ t))) 213 0 (nI (t + 1))) n bb q3 := c9.to c9.2.1 (by simp (disch := omega) only [hs_q]) (by simp (disch := omega) only [hs_q]; exact c9.2.2.2.1) (by simp (disch := omega) only [hs_q])
        have x14 := xSign (c := 59) c14 (by omega)
        rw [show nI 59 = 59 from rfl] at x14
        rw [x14]
        cases r4 : rS n bb 59 q3 with
        | inl a =>
          obtain ⟨f, pl⟩ := a
          obtain ⟨rfl, rfl⟩ := rS_pl r4
          simp only []
          rw [bnd_e, c01_0]
          refine ⟨_, rfl, hs_kj _ _ _ _, ?_, fun k w1 w2 => ?_⟩
          · rw [hs_ki _ _ _ (by decide)]; exact c14.2.2.2.1
          · simp (disch := omega) only [hs_q]; exact f9 k w1 w2
        | inr q4 =>
          have g4 := rS_le r4
          simp only []
          rw [bnd_e, c01_1]
          refine ⟨_, rfl, c14.to g4.1 (by simp (disch := omega) only [hs_q, hs_ki]) (hs_kj _ _ _ _) (by simp (disch := omega) only [hs_q]), ?_, fun k w1 w2 => ?_, ?_, ?_⟩
          · simp (disch := omega) only [hs_q, hs_ki]; exact e3
          · simp (disch := omega) only [hs_q]; exact f9 k w1 w2
          · obtain ⟨-, ⟨b0, b1, b2, b3, b4, m, b5, hb⟩, ct, cp⟩ := he
            have hoT : ∀ u, u < t → ho (addT e t k v w) u = ho e u := fun u hu => by
              unfold addT
              simp (disch := omega) only [ho, upd_n]
            have hoN : ho (addT e t k v w) t = 1 := by
              unfold addT
              simp (disch := omega) only [ho, upd_n, upd_s]
            have hme : hm (addT e t k v w) (t + 1) = hm e t + 2 ^ t := by
              show hm (addT e t k v w) t + (if ho (addT e t k v w) t = 1 then 2 ^ t else 0) = _
              rw [if_pos hoN, hm_eq t hoT]
            refine ⟨kd_213, ⟨?_, ?_, ?_, ?_, ?_, hm e t + 2 ^ t, ?_, by rw [← hme]; exact hm_Hb _ (by omega)⟩, fun u hu => ?_, fun u hu => ?_⟩
            · simp (disch := omega) only [hs_q, hs_kj]
            · simp (disch := omega) only [hs_q, hs_ki]; rw [r13]; exact b1
            · unfold addT; simp (disch := omega) only [hs_q, hs_ki, upd_n]; rw [r13]; exact b2
            · unfold addT; simp (disch := omega) only [hs_q, hs_ki, upd_n]; rw [r13]; exact b3
            · unfold addT; simp (disch := omega) only [hs_q, hs_ki, upd_n]; rw [r13]; exact b4
            · simp (disch := omega) only [hs_q, hs_ki, hs_kj]
            · by_cases z : u = t
              · subst z
                unfold addT
                refine ⟨?_, ?_, ?_, ?_⟩
                · simp (disch := omega) only [hs_q, kn, upd_n, upd_s]; rw [r14, upd_s]
                · simp (disch := omega) only [hs_q, pl, upd_n, upd_s]; rw [r15, upd_s]
                · simp (disch := omega) only [hs_q, rp, upd_n, upd_s, hs_kj]
                · simp (disch := omega) only [hs_q, fr, upd_n, upd_s]; rw [r17, f0, e8]
              · obtain ⟨c1, c2, c3, c4⟩ := ct u (by omega)
                unfold addT
                refine ⟨?_, ?_, ?_, ?_⟩
                · simp (disch := omega) only [hs_q, kn, upd_n]; rw [r14, upd_n _ _ z]; exact c1
                · simp (disch := omega) only [hs_q, pl, upd_n]; rw [r15, upd_n _ _ z]; exact c2
                · simp (disch := omega) only [hs_q, rp, upd_n, hs_ki]; rw [r16]; exact c3
                · simp (disch := omega) only [hs_q, fr, upd_n]; rw [r17]; exact c4
            · obtain ⟨d1, d2⟩ := cp u hu
              unfold addT
              refine ⟨?_, ?_⟩
              · simp (disch := omega) only [hs_q, pa, upd_n]; rw [r18]; exact d1
              · simp (disch := omega) only [hs_q, sd, upd_n]; rw [r19]; exact d2
          · simp (disch := omega) only [hs_q]; exact r17
