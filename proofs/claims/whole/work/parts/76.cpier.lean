theorem xPierR {h : AH} {n p t T : Nat} {bb : Nat → Nat} {e : Nat → Int32} (c : CT h n bb p) (hz : p < n) (ht : t < 4) (hT : T ≤ 6) (he : EstC e T t h 213) : match rP n bb 0 98 (p + 1) with
    | .inl (f, pl) => ∃ h', fX4_readPier 213 (nI t) h = some (0, h') ∧ h' 18 3 = nI f ∧ h' 18 2 = nI pl ∧ Cf h h'
    | .inr (v, w, q) => ∃ h', fX4_readPier 213 (nI t) h = some (1, h') ∧ CT h' n bb q ∧ h' 18 3 = h 18 3 ∧ Cf h h' ∧ EstC (addP e t v w) T (t + 1) h' 213 := by
  have go : fX4_readPier 213 (nI t) h = (bnd (fX4_readNumber (0 : Int32) (98 : Int32) (hs h 18 2 (nI (p + 1)))) fun v3 h2 => (if v3 = 0 then (some ((0 : Int32), h2)) else (sto (hs h2 218 t (h2 18 4)) fun h4 => (bnd (fX4_readSign (44) h4) fun v6 h5 => (if v6 = 0 then (some ((0 : Int32), h5)) else (bnd (fX4_readNumber (1 : Int32) (20 : Int32) h5) fun v8 h7 => (if v8 = 0 then (some ((0 : Int32), h7)) else (sto (hs h7 219 t (h7 18 4)) fun h9 => (sto (hs h9 213 1 (nI (t + 1))) fun h10 => (bnd (fX4_readSign (59) h10) fun v12 h11 => (chk (v12 = 0 ∨ v12 = 1) (some (v12, h11))))))))))))) := by
    unfold fX4_readPier
    rw [sto_e, c.2.2.2.1, nI_1]
    simp only [cE5 kd_213 ht, cE6 kd_213 ht, nI_clamp (show t < 2 ^ 31 by omega), nI_1]
  rw [go]
  have c4 : CT (hs h 18 2 (nI (p + 1))) n bb (p + 1) := c.to (by omega) (by simp (disch := omega) only [hs_q, hs_ki]) (hs_kj _ _ _ _) (by simp (disch := omega) only [hs_q])
  have x4 := xNum (lo := 0) (hi := 98) c4 (by omega) (by omega)
  rw [show nI 0 = 0 from rfl, show nI 98 = 98 from rfl] at x4
  rw [x4]
  unfold rP
  cases r1 : rN n bb 0 98 (p + 1) with
  | inl a =>
    obtain ⟨f, pl⟩ := a
    have pe := (rN_pl r1).1
    subst pe
    show ∃ h', (bnd (some (0, _)) _ = some (0, h')) ∧ _
    rw [bnd_e, if0]
    refine ⟨_, rfl, hs_kj _ _ _ _, ?_, fun k w1 w2 => ?_⟩
    · rw [hs_ki _ _ _ (by decide), hs_kj]
    · simp (disch := omega) only [hs_q]
  | inr a =>
    obtain ⟨v, q⟩ := a
    have g1 := rN_le r1
    simp only [sbd]
    rw [bnd_e, if1, sto_e, hs_ki _ _ _ (show (4 : Nat) ≠ 2 by decide), hs_kj]
    have c7 : CT (hs (hs (hs (hs h 18 2 (nI (p + 1))) 18 4 (nI v)) 18 2 (nI q)) 218 t (nI v)) n bb q := c4.to g1.1 (by simp (disch := omega) only [hs_q, hs_ki]) (by rw [hs_q _ _ _ (by decide), hs_kj]) (by simp (disch := omega) only [hs_q])
    have x7 := xSign (c := 44) c7 (by omega)
    rw [show nI 44 = 44 from rfl] at x7
    rw [x7]
    unfold rF
    cases r2 : rS n bb 44 q with
    | inl a =>
      obtain ⟨f, pl⟩ := a
      have pe := rS_pl r2
      obtain ⟨rfl, rfl⟩ := pe
      simp only [sbd]
      rw [bnd_e, if0]
      refine ⟨_, rfl, hs_kj _ _ _ _, ?_, fun k w1 w2 => ?_⟩
      · rw [hs_ki _ _ _ (by decide), hs_q _ _ _ (by decide), hs_kj]
      · simp (disch := omega) only [hs_q]
    | inr q2 =>
      have g2 := rS_le r2
      simp only [sbd]
      rw [bnd_e, if1]
      have c8 : CT (hs (hs (hs (hs (hs h 18 2 (nI (p + 1))) 18 4 (nI v)) 18 2 (nI q)) 218 t (nI v)) 18 2 (nI q2)) n bb q2 := c7.to g2.1 (by simp (disch := omega) only [hs_q, hs_ki]) (hs_kj _ _ _ _) (by simp (disch := omega) only [hs_q])
      have x8 := xNum (lo := 1) (hi := 20) c8 (by omega) (by omega)
      rw [show nI 1 = 1 from rfl, show nI 20 = 20 from rfl] at x8
      rw [x8]
      cases r3 : rN n bb 1 20 q2 with
      | inl a =>
        obtain ⟨f, pl⟩ := a
        have pe := (rN_pl r3).1
        subst pe
        simp only []
        rw [bnd_e, if0]
        refine ⟨_, rfl, hs_kj _ _ _ _, ?_, fun k w1 w2 => ?_⟩
        · rw [hs_ki _ _ _ (by decide), hs_kj]
        · simp (disch := omega) only [hs_q]
      | inr a =>
        obtain ⟨w, q3⟩ := a
        have g3 := rN_le r3
        simp only []
        rw [bnd_e, if1, sto_e, sto_e, hs_ki _ _ _ (show (4 : Nat) ≠ 2 by decide), hs_kj]
        have c9 : CT (hs (hs (hs (hs (hs (hs (hs h 18 2 (nI (p + 1))) 18 4 (nI v)) 18 2 (nI q)) 218 t (nI v)) 18 2 (nI q2)) 18 4 (nI w)) 18 2 (nI q3)) n bb q3 := c8.to g3.1 (by simp (disch := omega) only [hs_q, hs_ki]) (hs_kj _ _ _ _) (by simp (disch := omega) only [hs_q])
        have f9 : Cf h (hs (hs (hs (hs (hs (hs (hs h 18 2 (nI (p + 1))) 18 4 (nI v)) 18 2 (nI q)) 218 t (nI v)) 18 2 (nI q2)) 18 4 (nI w)) 18 2 (nI q3)) := fun k w1 w2 => by simp (disch := omega) only [hs_q]
        have r13 : ∀ k, 213 ≤ k → k ≤ 219 → k ≠ 218 → (hs (hs (hs (hs (hs (hs (hs h 18 2 (nI (p + 1))) 18 4 (nI v)) 18 2 (nI q)) 218 t (nI v)) 18 2 (nI q2)) 18 4 (nI w)) 18 2 (nI q3)) k = h k := fun k w1 w2 w3 => by simp (disch := omega) only [hs_q]
        have r18 : (hs (hs (hs (hs (hs (hs (hs h 18 2 (nI (p + 1))) 18 4 (nI v)) 18 2 (nI q)) 218 t (nI v)) 18 2 (nI q2)) 18 4 (nI w)) 18 2 (nI q3)) 218 = upd (h 218) t (nI v) := by simp (disch := omega) only [hs_q, hs_k]
        have e3 : (hs (hs (hs (hs (hs (hs (hs h 18 2 (nI (p + 1))) 18 4 (nI v)) 18 2 (nI q)) 218 t (nI v)) 18 2 (nI q2)) 18 4 (nI w)) 18 2 (nI q3)) 18 3 = h 18 3 := by simp (disch := omega) only [hs_q, hs_ki]
        revert c9 f9 r13 r18 e3
        generalize hs (hs (hs (hs (hs (hs (hs h 18 2 (nI (p + 1))) 18 4 (nI v)) 18 2 (nI q)) 218 t (nI v)) 18 2 (nI q2)) 18 4 (nI w)) 18 2 (nI q3) = g
        intro c9 f9 r13 r18 e3
        have c14 : CT (hs (hs g 219 t (nI w)) 213 1 (nI (t + 1))) n bb q3 := c9.to c9.2.1 (by simp (disch := omega) only [hs_q]) (by simp (disch := omega) only [hs_q]; exact c9.2.2.2.1) (by simp (disch := omega) only [hs_q])
        have x14 := xSign (c := 59) c14 (by omega)
        rw [show nI 59 = 59 from rfl] at x14
        rw [x14]
        cases r4 : rS n bb 59 q3 with
        | inl a =>
          obtain ⟨f, pl⟩ := a
          obtain ⟨rfl, rfl⟩ := rS_pl r4
          simp only []
          rw [bnd_e, c01_0]
          refine ⟨_, rfl, hs_kj _ _ _ _, ?_, fun k w1 w2 => ?_⟩
          · rw [hs_ki _ _ _ (by decide)]; exact c14.2.2.2.1
          · simp (disch := omega) only [hs_q]; exact f9 k w1 w2
        | inr q4 =>
          have g4 := rS_le r4
          simp only []
          rw [bnd_e, c01_1]
          refine ⟨_, rfl, c14.to g4.1 (by simp (disch := omega) only [hs_q, hs_ki]) (hs_kj _ _ _ _) (by simp (disch := omega) only [hs_q]), ?_, fun k w1 w2 => ?_, ?_⟩
          · simp (disch := omega) only [hs_q, hs_ki]; exact e3
          · simp (disch := omega) only [hs_q]; exact f9 k w1 w2
          · obtain ⟨-, ⟨b0, b1, b2, b3, b4, m, b5, hb⟩, ct, cp⟩ := he
            have e13 := r13 213 (by omega) (by omega) (by omega)
            refine ⟨kd_213, ⟨?_, ?_, ?_, ?_, ?_, m, ?_, hb.1, fun u hu => ?_⟩, fun u hu => ?_, fun u hu => ?_⟩
            · simp (disch := omega) only [hs_q, hs_ki]; rw [e13]; exact b0
            · simp (disch := omega) only [hs_q, hs_kj]
            · unfold addP; simp (disch := omega) only [hs_q, hs_ki, upd_n]; rw [e13]; exact b2
            · unfold addP; simp (disch := omega) only [hs_q, hs_ki, upd_n]; rw [e13]; exact b3
            · unfold addP; simp (disch := omega) only [hs_q, hs_ki, upd_n]; rw [e13]; exact b4
            · simp (disch := omega) only [hs_q, hs_ki]; rw [e13]; exact b5
            · rw [hb.2 u hu]; unfold addP; simp (disch := omega) only [ho, upd_n]
            · obtain ⟨c1, c2, c3, c4⟩ := ct u hu
              unfold addP
              refine ⟨?_, ?_, ?_, ?_⟩
              · simp (disch := omega) only [hs_q, kn, upd_n]; rw [r13 (213 + 1) (by omega) (by omega) (by omega)]; exact c1
              · simp (disch := omega) only [hs_q, pl, upd_n]; rw [r13 (213 + 2) (by omega) (by omega) (by omega)]; exact c2
              · simp (disch := omega) only [hs_q, rp, upd_n]; rw [r13 (213 + 3) (by omega) (by omega) (by omega)]; exact c3
              · simp (disch := omega) only [hs_q, fr, upd_n]; rw [r13 (213 + 4) (by omega) (by omega) (by omega)]; exact c4
            · by_cases z : u = t
              · subst z
                unfold addP
                refine ⟨?_, ?_⟩
                · simp (disch := omega) only [hs_q, pa, upd_n, upd_s]; rw [r18, upd_s]
                · simp (disch := omega) only [hs_q, sd, upd_n, upd_s, hs_kj]
              · obtain ⟨d1, d2⟩ := cp u (by omega)
                unfold addP
                refine ⟨?_, ?_⟩
                · simp (disch := omega) only [hs_q, pa, upd_n]; rw [r18, upd_n _ _ z]; exact d1
                · simp (disch := omega) only [hs_q, sd, upd_n, hs_ki]; rw [r13 (213 + 6) (by omega) (by omega) (by omega)]; exact d2
