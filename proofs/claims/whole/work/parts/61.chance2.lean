set_option maxRecDepth 4000 in
theorem both_chance {h : AH} (i : Inv h) (a b c0 : Int32) : Both (fX5_chance a b c0 h) (fX6_chance a b c0) := by
  unfold fX5_chance fX6_chance
  rcases ests i.2.2.2.1 with ⟨q1, q2⟩ | ⟨T, P, hg, he, q1, q2⟩
  · refine Both.same (h := h) (v := -1000002) i ?_ ?_
    · rw [q1]; rfl
    · rw [q2 h rfl]; rfl
  have hT := hg.1.2.1
  have hP := hg.1.2.2.1
  rw [q1, bnd_e, if0]
  rcases rl a 0 8 0 8 rfl rfl (by omega) (by omega) with p | ⟨p, p2⟩ | ⟨p, p2, n, -, hn, rfl⟩
  · refine Both.same (h := h) (v := -1000001) i (by rw [if_pos p]) ?_
    rw [q2 h rfl, bnd_e, if1, mIn_l h p]; rfl
  · refine Both.same (h := h) (v := -1000001) i (by rw [if_neg p, if_pos p2]) ?_
    rw [q2 h rfl, bnd_e, if1, mIn_u h p p2]; rfl
  rw [if_neg p, if_neg p2]
  rcases rl b 0 10 0 10 rfl rfl (by omega) (by omega) with s | ⟨s, s2⟩ | ⟨s, s2, c, -, hc, rfl⟩
  · refine Both.same (h := h) (v := -1000001) i (by rw [if_pos s]) ?_
    rw [q2 h rfl, bnd_e, if1, mIn_i h p p2, bnd_e, if1, mIn_l h s]; rfl
  · refine Both.same (h := h) (v := -1000001) i (by rw [if_neg s, if_pos s2]) ?_
    rw [q2 h rfl, bnd_e, if1, mIn_i h p p2, bnd_e, if1, mIn_u h s s2]; rfl
  rw [if_neg s, if_neg s2]
  rcases half c0 with ⟨w1, w2⟩ | ⟨w, hw2, rfl, w1, w2⟩
  · refine Both.same (h := h) (v := -1000001) i ?_ ?_
    · rw [w1]; rfl
    · rw [q2 h rfl, bnd_e, if1, mIn_i h p p2, bnd_e, if1, mIn_i h s s2, bnd_e, if1, w2]; rfl
  rw [w1, bnd_e, if0]
  obtain ⟨h1, k1, he1, q3⟩ := xNow he hT hP
  obtain ⟨h2, k2, q4⟩ := xWays (T := T) (P := P) (n := n) (c := c) hn hc n 0 10 h1 (h 284) 9999 (by omega) (by omega) he1 hg (by omega)
  rw [nI_0] at k2
  have t8 : 10 ^ n ≤ 10 ^ 8 := Nat.pow_le_pow_right (by decide) hn
  have t8' : (10 : Nat) ^ 8 = 100000000 := by decide
  have p27 : (2 : Nat) ^ 27 = 134217728 := by decide
  have p31 : (2 : Nat) ^ 31 = 2147483648 := by decide
  have t1 : 0 < 10 ^ n := Nat.pow_pos (by decide)
  have vle := vF_le (T := T) (P := P) hc n (h 284)
  have gp : 0 < Nat.gcd (vF T P c n (h 284)) (10 ^ n) := Nat.gcd_pos_of_pos_right _ t1
  have gl : Nat.gcd (vF T P c n (h 284)) (10 ^ n) ≤ 10 ^ n := Nat.gcd_le_right _ t1
  have gn : ¬ nI (Nat.gcd (vF T P c n (h 284)) (10 ^ n)) = 0 := nI_ne0 gp (by omega)
  have cd : fX5_commonDivisor (nI (vF T P c n (h 284))) (nI (10 ^ n)) h2 = some (nI (Nat.gcd (vF T P c n (h 284)) (10 ^ n)), h2) := by
    unfold fX5_commonDivisor
    exact xGcd 27 (vF T P c n (h 284)) (10 ^ n) 0 FU (by omega) (by omega) (by omega) (by omega) (by have := FU_big; omega)
  rw [k1, bnd_e, chk_p kd_213, k2, bnd_e, xTen hn, bnd_e, cd, bnd_e, if_neg (show ¬ nI (Nat.gcd (vF T P c n (h 284)) (10 ^ n)) < 1 from nI_nlt (b := 1) (by omega) (by omega)), chk_p gn, chk_p gn]
  have f2 : Sc h h2 := fun k hk => by rw [q4 k (by omega), q3 k (by omega)]
  have e284 : h2 284 = h 284 := f2 284 (by omega)
  obtain ⟨h3, r1, r2⟩ := mSum_L (n := n) (c := c) (p5 := nI (10 ^ n)) (p3 := nI w) hg hn hc (2 ^ n) 0 FU h2 (by omega) (by have := FU_big; have : 2 ^ n ≤ 256 := Nat.pow_le_pow_right (n := 2) (by decide) hn; omega) e284
  rw [nI_0, show nI (sumS (fun s => cF T P c s n 0 (h 284)) 0) = 0 from rfl, vF_sum] at r1
  have iv : Inv h3 := i.sc (f2.tr fun k hk => r2 k (by omega))
  have ref : ∀ kk : Int32 → Int32 → AH → Option (Int32 × AH), True := fun _ => trivial
  have way : (bnd (fX6_isEstuary h2) fun v2 h1 => (if v2 = 0 then (some (-1000002, h1)) else (bnd (fX6_in (nI n) 0 8 h1) fun v4 h3 => (if v4 = 0 then (some (-1000001, h3)) else (bnd (fX6_in (nI c) 0 10 h3) fun v6 h5 => (if v6 = 0 then (some (-1000001, h5)) else (bnd (fX6_in (nI w) 0 1 h5) fun v8 h7 => (if v8 = 0 then (some (-1000001, h7)) else (fX6_chance_L51 0 (nI n) (nI c) (nI w) FU 0 1 h7 fun z9 z10 h11 => (fX6_chance_L73 z10 (nI n) (nI c) (nI w) FU 0 0 h11 fun z12 z13 h14 => (fX6_chance_L183 z10 z13 (nI n) (nI c) (nI w) FU z10 z13 h14 fun z15 z16 h17 => (if nI w = 0 then (chk (¬ z16 = 0) (some ((z13 / z16), h17))) else (chk (¬ z16 = 0) (some ((z10 / z16), h17)))))))))))))))  = (if nI w = 0 then some (nI (vF T P c n (h 284)) / nI (Nat.gcd (vF T P c n (h 284)) (10 ^ n)), h3) else some (nI (10 ^ n) / nI (Nat.gcd (vF T P c n (h 284)) (10 ^ n)), h3)) := by
    have tn := mTen_L (n := n) (p4 := 0) (p2 := nI c) (p3 := nI w) (h := h2) (k := fun z9 z10 h11 => (fX6_chance_L73 z10 (nI n) (nI c) (nI w) FU 0 0 h11 fun z12 z13 h14 => (fX6_chance_L183 z10 z13 (nI n) (nI c) (nI w) FU z10 z13 h14 fun z15 z16 h17 => (if nI w = 0 then (chk (¬ z16 = 0) (some ((z13 / z16), h17))) else (chk (¬ z16 = 0) (some ((z10 / z16), h17))))))) hn n 0 FU (by omega) (by have := FU_big; omega)
    rw [nI_0, show nI (10 ^ 0) = 1 from rfl] at tn
    rw [q2 h2 e284, bnd_e, if1, mIn_i h2 p p2, bnd_e, if1, mIn_i h2 s s2, bnd_e, if1, w2, bnd_e, if1, tn, r1, mGcd 27 (vF T P c n (h 284)) (10 ^ n) FU (by omega) (by omega) (by omega) (by have := FU_big; omega), chk_p gn, chk_p gn]
  by_cases y : nI w = 0
  · rw [if_pos y]
    rw [if_pos y] at way
    exact Both.of rfl ⟨h3, way, iv⟩
  · rw [if_neg y]
    rw [if_neg y] at way
    exact Both.of rfl ⟨h3, way, iv⟩
