theorem Inv.stS {h h' : AH} {v : Int32} (i : Inv h) (a : h' 0 7 = v) (b : h' 278 4 = v) (c : ∀ k, k ≠ 0 → k ≠ 278 → (k < 213 ∨ (275 < k ∧ k ≠ 282 ∧ k ≠ 285 ∧ k ≠ 286)) → h' k = h k) (d : ∀ j, j ≠ 4 → h' 278 j = h 278 j) : Inv h' := by
  have i1 : Inv (hr (hr h' 0 (h 0)) 278 (h 278)) := i.sc fun k hk => by
    by_cases q1 : k = 278
    · subst q1; rw [hr_eq]
    · rw [hr_ne _ _ q1]
      by_cases q2 : k = 0
      · subst q2; rw [hr_eq]
      · rw [hr_ne _ _ q2, c k q2 q1 hk]
  exact i1.st (v := v) a b (fun k h1 h2 => by rw [hr_ne _ _ h2, hr_ne _ _ h1]) (fun j hj => by rw [hr_eq, d j hj])
set_option maxRecDepth 4000 in
theorem both_fits {h : AH} (i : Inv h) (a b c d w0 : Int32) : Both (fX5_fits a b c d w0 h) (fX6_fits a b c d w0) := by
  unfold fX5_fits fX6_fits
  rcases tugs i.2.2.2.1 a with ⟨q1, q2⟩ | ⟨T, P, t, hg, he, ht, rfl, q1, q2⟩
  · refine Both.same (h := h) (v := -1000001) i ?_ ?_
    · rw [q1]; rfl
    · rw [q2 h rfl]; rfl
  have hT := hg.1.2.1
  rw [q1, bnd_e, if0]
  rcases rows_ b with ⟨t1, t2⟩ | ⟨n, hn, rfl, t1, t2⟩
  · refine Both.same (h := h) (v := -1000001) i ?_ ?_
    · rw [t1]; rfl
    · rw [q2 h rfl, bnd_e, if1, t2]; rfl
  rw [t1, bnd_e, if0]
  rcases rl d 1 12 1 12 rfl rfl (by omega) (by omega) with p | ⟨p, p2⟩ | ⟨p, p2, y, hy1, hy, rfl⟩
  · refine Both.same (h := h) (v := -1000001) i (by rw [if_pos p]) ?_
    rw [q2 h rfl, bnd_e, if1, t2, bnd_e, if1, mIn_l h p]; rfl
  · refine Both.same (h := h) (v := -1000001) i (by rw [if_neg p, if_pos p2]) ?_
    rw [q2 h rfl, bnd_e, if1, t2, bnd_e, if1, mIn_u h p p2]; rfl
  rw [if_neg p, if_neg p2]
  rcases rl w0 0 4 0 4 rfl rfl (by omega) (by omega) with s | ⟨s, s2⟩ | ⟨s, s2, w, -, hw, rfl⟩
  · refine Both.same (h := h) (v := -1000001) i (by rw [if_pos s]) ?_
    rw [q2 h rfl, bnd_e, if1, t2, bnd_e, if1, mIn_i h p p2, bnd_e, if1, mIn_l h s]; rfl
  · refine Both.same (h := h) (v := -1000001) i ?_ ?_
    · rw [if_neg s, if_neg]
      obtain ⟨n, hn, rfl⟩ := nI_of s
      exact nI_nlt (b := 5) (by have := (nI_ltI (a := 4) (by omega) hn).mp s2; omega) hn
    · rw [q2 h rfl, bnd_e, if1, t2, bnd_e, if1, mIn_i h p p2, bnd_e, if1, mIn_u h s s2]; rfl
  rw [if_neg s, if_pos (show nI w < 5 from nI_lt (b := 5) (by omega) (by omega)), c1_ hn, nI_clamp (by omega), show 1 + 1 + 2 * n = 2 + 2 * n from rfl]
  -- the reference's way in
  have way : ∀ (h1 : AH), h1 284 = h 284 → ∀ kk : Int32 → AH → Option (Int32 × AH), (bnd (fX6_isTug (nI t) h1) fun v2 h1 => (if v2 = 0 then (some (-1000001, h1)) else (bnd (fX6_isRow (nI n) h1) fun v4 h3 => (if v4 = 0 then (some (-1000001, h3)) else (bnd (fX6_in (nI y) 1 12 h3) fun v6 h5 => (if v6 = 0 then (some (-1000001, h5)) else (bnd (fX6_in (nI w) 0 4 h5) fun v8 h7 => (if v8 = 0 then (some (-1000001, h7)) else (bnd (fX6_isMissing (nI n) h7) fun v10 h9 => kk v10 h9))))))))) = bnd (fX6_isMissing (nI n) h1) fun v10 h9 => kk v10 h9 := by
    intro h1 e1 kk
    rw [q2 h1 e1, bnd_e, if1, t2, bnd_e, if1, mIn_i h1 p p2, bnd_e, if1, mIn_i h1 s s2, bnd_e, if1]
  rcases missing i.1 hn with ⟨q3, q4⟩ | ⟨l, m, hl, hm, p1, p2', p3, p4, p5, q3, q4⟩
  · rw [q3]
    refine Both.fnd (v := 1) (w := -1000010 - 1) i (by rfl) ?_
    rw [way _ (hs_q _ _ _ (by decide)), q4 _ (by rw [hs_q _ _ _ (by decide)])]; rfl
  rw [q3, bnd_e, if0]
  rcases runs c (nI y) hm with ⟨y1, y2⟩ | ⟨x, y', hxy, rfl, ey, y1, y2⟩
  · rw [y1 h _ p3]
    refine Both.fnd (v := 2) (w := -1000010 - 2) i (by rfl) ?_
    rw [way _ (hs_q _ _ _ (by decide)), q4 _ (by rw [hs_q _ _ _ (by decide)]), bnd_e, if0, y2 _ n hn (by rw [hs_q _ _ _ (by decide), p4])]; rfl
  have ey' : y' = y := ((nI_eq (by omega) (by omega)).mp ey).symm
  subst ey'
  rw [y1 h _ p3, bnd_e, if1]
  obtain ⟨h2, k2, f2⟩ := xFits_L (n := n) (x := x) (y := y') (w := w) (p2 := nI n) (it := fun j => h 281 (40 * n + x + j)) (k := fun z12 z13 z14 z15 h16 => (if nI w = 3 then (bnd (fX5_well z14 h16) fun v18 h17 => (some (v18, h17))) else (if nI w = 4 then (bnd (fX5_well z13 h16) fun v20 h19 => (some (v20, h19))) else (bnd (fX5_well z15 h16) fun v22 h21 => (some (v22, h21)))))) hg ht (by omega) hn hy (by omega) (fMx w) 0 FU h (by omega) (by have := FU_big; have := fMx_le w; omega) he (fun j hj => by rw [p5 (x + j) (by omega), Nat.add_assoc])
  rw [show nI (0 + 1) = 1 from rfl, show fcF (pfV T P w t y' (h 284) fun j => h 281 (40 * n + x + j)) 0 = -1000000 from rfl, show nI (fcN (pfV T P w t y' (h 284) fun j => h 281 (40 * n + x + j)) 0) = 0 from rfl, show fcM (pfV T P w t y' (h 284) fun j => h 281 (40 * n + x + j)) 0 = 0 from rfl] at k2
  rw [k2]
  -- the reference
  have ref : ∀ h1 : AH, h1 284 = h 284 → h1 281 = h 281 → h1 279 = h 279 → h1 280 = h 280 → ∃ h3 b', (w < 3 → b' = fcM (pfV T P w t y' (h 284) fun j => h 281 (40 * n + x + j)) (fMx w)) ∧ (∀ k, k ≠ 286 → h3 k = h1 k) ∧ fX6_fits (nI t) (nI n) (nI x) (nI y') (nI w) h1 = (if nI w = 3 then (bnd (fX6_well (nI (fcN (pfV T P w t y' (h 284) fun j => h 281 (40 * n + x + j)) (fMx w))) h3) fun v21 h20 => (some (v21, h20))) else (if nI w = 4 then (bnd (fX6_well (fcF (pfV T P w t y' (h 284) fun j => h 281 (40 * n + x + j)) (fMx w)) h3) fun v23 h22 => (some (v23, h22))) else (bnd (fX6_well b' h3) fun v25 h24 => (some (v25, h24))))) := by
    intro h1 e1 e2 e3 e4
    have run := fun (p7 : Int32) (k : Int32 → Int32 → Int32 → Int32 → AH → Option (Int32 × AH)) => mFits_L (n := n) (x := x) (y := y') (w := w) (p7 := p7) (it := fun j => h 281 (40 * n + x + j)) (k := k) hg ht (by omega) hn hy (by omega) (fMx w) FU h1 (-1000000) 0 0 (Nat.le_refl _) (by have := FU_big; have := fMx_le w; omega) e1 (fun j hj => by rw [e2])
    have fin : fcR (pfV T P w t y' (h 284) fun j => h 281 (40 * n + x + j)) (fMx w) (-1000000) = fcF (pfV T P w t y' (h 284) fun j => h 281 (40 * n + x + j)) (fMx w) := by
      rw [fcR_F _ _ _ (fMx_le w)]
      by_cases z : fcF (pfV T P w t y' (h 284) fun j => h 281 (40 * n + x + j)) (fMx w) = -1000000
      · rw [if_pos z, z]
      · rw [if_neg z]
    obtain ⟨h3, b', r1, r2, r3⟩ := run (nI (fMx w)) fun z15 z16 z17 z18 h19 => (if nI w = 3 then (bnd (fX6_well z17 h19) fun v21 h20 => (some (v21, h20))) else (if nI w = 4 then (bnd (fX6_well z16 h19) fun v23 h22 => (some (v23, h22))) else (bnd (fX6_well z18 h19) fun v25 h24 => (some (v25, h24)))))
    rw [fin, Nat.zero_add, show nI 0 = 0 from rfl] at r1
    refine ⟨h3, b', fun w3 => ?_, r3, ?_⟩
    · rw [r2 w3, Int32.zero_or]
    · unfold fX6_fits
      rw [way h1 e1, q4 h1 e3, bnd_e, if0, y2 h1 n hn (by rw [e4, p4]), bnd_e, if1, ← r1]
      rcases (show w = 0 ∨ w = 1 ∨ w = 2 ∨ w = 3 ∨ w = 4 by omega) with z | z | z | z | z <;> subst z
      · rw [if_neg (show ¬ (2 : Int32) < nI 0 by decide), vl_e, if_pos (show nI 0 = 0 from rfl), ix5, nI_add]
        rfl
      · rw [if_neg (show ¬ (2 : Int32) < nI 1 by decide), vl_e, if_neg (show ¬ nI 1 = 0 by decide), if_pos (show nI 1 < 3 by decide), ix5, nI_add]
        rfl
      · rw [if_neg (show ¬ (2 : Int32) < nI 2 by decide), vl_e, if_neg (show ¬ nI 2 = 0 by decide), if_pos (show nI 2 < 3 by decide), ix5, nI_add]
        rfl
      · rw [if_pos (show (2 : Int32) < nI 3 by decide), if_neg (show ¬ nI 3 = 0 by decide), if_neg (show ¬ nI 3 < 3 by decide)]
        rfl
      · rw [if_pos (show (2 : Int32) < nI 4 by decide), if_neg (show ¬ nI 4 = 0 by decide), if_neg (show ¬ nI 4 < 3 by decide)]
        rfl
  obtain ⟨h3, b', r1, r2, r3⟩ := ref (hs h2 0 7 0) (by rw [hs_q _ _ _ (by decide), f2 284 (by omega)]) (by rw [hs_q _ _ _ (by decide), f2 281 (by omega)]) (by rw [hs_q _ _ _ (by decide), f2 279 (by omega)]) (by rw [hs_q _ _ _ (by decide), f2 280 (by omega)])
  have iv : Inv (hs h3 278 4 0) := by
    refine i.stS (v := 0) ?_ ?_ (fun k w1 w2 w3 => ?_) (fun j hj => ?_)
    · rw [hs_q _ _ _ (by decide), r2 0 (by decide), hs_kj]
    · rw [hs_kj]
    · rw [hs_q _ _ _ w2, r2 k (by omega), hs_q _ _ _ w1, f2 k (by omega)]
    · rw [hs_ki _ _ _ hj, r2 278 (by decide), hs_q _ _ _ (by decide), f2 278 (by omega)]
  by_cases w3 : nI w = 3
  · rw [if_pos w3, xWell, bnd_e]
    refine Both.of rfl ⟨_, ?_, iv⟩
    show fX6_fits (nI t) (nI n) (nI x) (nI y') (nI w) (hs h2 0 7 0) = _
    rw [r3, if_pos w3, mWell, bnd_e]
  rw [if_neg w3]
  rw [if_neg w3] at r3
  by_cases w4 : nI w = 4
  · rw [if_pos w4, xWell, bnd_e]
    refine Both.of rfl ⟨_, ?_, iv⟩
    show fX6_fits (nI t) (nI n) (nI x) (nI y') (nI w) (hs h2 0 7 0) = _
    rw [r3, if_pos w4, mWell, bnd_e]
  rw [if_neg w4, xWell, bnd_e]
  have w5 : w < 3 := by
    have h3 : w ≠ 3 := fun z => w3 (by rw [z]; rfl)
    have h4 : w ≠ 4 := fun z => w4 (by rw [z]; rfl)
    omega
  refine Both.of rfl ⟨_, ?_, iv⟩
  show fX6_fits (nI t) (nI n) (nI x) (nI y') (nI w) (hs h2 0 7 0) = _
  rw [r3, if_neg w4, mWell, bnd_e, r1 w5]
