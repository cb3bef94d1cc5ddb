/-! What is done, and undone. -/
theorem MA.to {h h' : AH} {K : Nat} {L : Nat → Nat → Int32} (m : MA h K L) (q : h' 287 = h 287) (q1 : h' 278 17 = h 278 17) : MA h' K L := by
  unfold MA
  rw [q, q1]
  exact m
theorem Inv.act {h h' : AH} {K' O' : Nat} {L' : Nat → Nat → Int32} (i : Inv h) (ca : CA h' K' O' L') (ma : MA h' K' L') (nw : IN h') (q : ∀ k, (k < 20 ∨ (196 < k ∧ k ≠ 278 ∧ k ≠ 284 ∧ k ≠ 287)) → h' k = h k) (d : ∀ j, j ≠ 17 → h' 278 j = h 278 j) : Inv h' := by
  obtain ⟨i1, i2, i3, -, -, i6, i7⟩ := i
  refine ⟨i1.to fun k hk => q k (by omega), i2.to (fun k hk => q k (by omega)) ?_ ?_ (d 6 (by omega)) (d 7 (by omega)), ?_, nw, ⟨K', O', L', ca, ma⟩, i6.to fun k hk => q k (by omega), i7.to (fun k hk => q k (by omega)) (d 21 (by omega))⟩
  · rw [q 18 (by omega)]
  · rw [q 18 (by omega)]
  · unfold IS; rw [q 0 (by omega), d 4 (by omega)]; exact i3
theorem act_fin {h h5 h6 h7 : AH} {K O' T P : Nat} {L : Nat → Nat → Int32} {e' : Nat → Int32} (i : Inv h) (ca : CA h5 (kpK K) O' (kpL K L (h 284))) (q5 : ∀ k, (k < 27 ∨ 196 < k) → h5 k = h k) (q6 : Fm 20 h5 h6) (he : EstC e' T P h6 20) (hg : Gd e' T P 9999) (ma : MA h7 (kpK K) (kpL K L (h6 284))) (q7 : ∀ k, k ≠ 278 → k ≠ 287 → h7 k = h6 k) (d7 : ∀ j, j ≠ 17 → h7 278 j = h6 278 j) : Inv (hr h7 284 e') := by
  have e284 : h6 284 = h 284 := by rw [q6 284 (by omega), q5 284 (by omega)]
  rw [e284] at ma
  refine i.act (K' := kpK K) (O' := O') (L' := kpL K L (h 284)) (ca.to fun k h1 h2 => ?_) (ma.to ?_ ?_) (Or.inr ⟨T, P, ?_, ?_⟩) (fun k hk => ?_) (fun j hj => ?_)
  · rw [hr_ne _ _ (by omega), q7 k (by omega) (by omega), q6 k (by omega)]
  · rw [hr_ne _ _ (by omega)]
  · rw [hr_ne _ _ (by omega)]
  · rw [hr_eq]; exact hg
  · rw [hr_eq]; exact he.fm fun k h1 h2 => by rw [hr_ne _ _ (by omega), q7 k (by omega) (by omega)]
  · rw [hr_ne _ _ (by omega), q7 k (by omega) (by omega), q6 k (by omega), q5 k (by omega)]
  · rw [hr_ne _ _ (by omega), d7 j hj, q6 278 (by omega), q5 278 (by omega)]
theorem both_loose {h : AH} (i : Inv h) (a : Int32) : Both (fX5_loose a h) (fX6_loose a) := by
  unfold fX5_loose fX6_loose
  rcases tugs i.2.2.2.1 a with ⟨q1, q2⟩ | ⟨T, P, t, hg, he, ht, rfl, q1, q2⟩
  · refine Both.same (h := h) (v := -1000001) i ?_ ?_
    · rw [q1]; rfl
    · rw [q2 h rfl]; rfl
  have hT := hg.1.2.1
  rw [q1]
  simp only [bnd_s, ↓reduceIte, ix5, i5_4, cW ln_284 (show 9 + 5 * t < 43 by omega), nI_clamp (show 9 + 5 * t < 2 ^ 31 by omega)]
  rw [xHolds he hT ht]
  simp only [bnd_s]
  rcases hg.hold t ht with z | z
  · rw [z, if_neg (show ¬ (0 : Int32) = 1 by decide)]
    refine Both.same (h := h) (v := -1000002) i rfl ?_
    rw [q2 h rfl]
    simp only [bnd_s, if1]
    rw [show h 284 (9 + 5 * t) = 0 from z]; rfl
  rw [z, if_pos rfl]
  simp only [if1]
  obtain ⟨K, O, L, ca, ma⟩ := i.2.2.2.2.1
  obtain ⟨h5, O', k1, ca5, q5⟩ := xKeep ca he hg
  have he5 : EstC (h 284) T P h5 20 := he.fm fun k h1 h2 => q5 k (by omega)
  obtain ⟨h6, k2, he6, q6⟩ := xLetGo he5 hT ht
  rw [k1]
  simp only [bnd_s]
  rw [k2]
  simp only [bnd_s]
  have e284 : h6 284 = h 284 := by rw [q6 284 (by omega), q5 284 (by omega)]
  refine Both.of rfl ?_
  rw [q2 h6 e284]
  simp only [bnd_s, if1]
  rw [e284, show h 284 (9 + 5 * t) = 1 from z, if1]
  obtain ⟨h7, k3, ma7, q7, d7⟩ := mNotes (h := h6) ca.1 (ma.to (by rw [q6 287 (by omega), q5 287 (by omega)]) (by rw [q6 278 (by omega), q5 278 (by omega)]))
  have e7 : h7 284 = h 284 := by rw [q7 284 (by omega) (by omega), e284]
  rw [k3]
  simp only [bnd_s]
  rw [mDrops ln_284 (by omega), e7]
  simp only [bnd_s]
  rw [mHolding (T := T) ln_284 hT (by rw [hr_eq]; exact (Gd_drop hg ht).1.2.2.2.1) (by rw [hr_eq]; exact (Gd_drop hg ht).hold), hr_eq]
  simp only [bnd_s]
  rw [he6.hm hT]
  exact ⟨_, rfl, act_fin i ca5 q5 q6 he6 (Gd_drop hg ht) ma7 q7 d7⟩
theorem both_mend {h : AH} (i : Inv h) (a : Int32) : Both (fX5_mend a h) (fX6_mend a) := by
  unfold fX5_mend fX6_mend
  rcases tugs i.2.2.2.1 a with ⟨q1, q2⟩ | ⟨T, P, t, hg, he, ht, rfl, q1, q2⟩
  · refine Both.same (h := h) (v := -1000001) i ?_ ?_
    · rw [q1]; rfl
    · rw [q2 h rfl]; rfl
  have hT := hg.1.2.1
  obtain ⟨f1, f2, f3, f4⟩ := he.at20 ht
  rw [q1]
  simp only [bnd_s, ↓reduceIte, vl_d, ix5, i5_4, i5_3, cW ln_284 (show 9 + 5 * t < 43 by omega), nI_clamp (show 9 + 5 * t < 2 ^ 31 by omega), cW ln_284 (show 8 + 5 * t < 43 by omega), nI_clamp (show 8 + 5 * t < 2 ^ 31 by omega), cX ln_24 (show t < 6 by omega), nI_clamp (show t < 2 ^ 31 by omega)]
  rw [xHolds he hT ht]
  simp only [bnd_s]
  obtain ⟨K, O, L, ca, ma⟩ := i.2.2.2.2.1
  obtain ⟨h5, O', k1, ca5, q5⟩ := xKeep ca he hg
  have he5 : EstC (h 284) T P h5 20 := he.fm fun k h1 h2 => q5 k (by omega)
  obtain ⟨h6, k2, he6, q6⟩ := xMend he5 hT ht
  have e284 : h6 284 = h 284 := by rw [q6 284 (by omega), q5 284 (by omega)]
  obtain ⟨h7, k3, ma7, q7, d7⟩ := mNotes (h := h6) ca.1 (ma.to (by rw [q6 287 (by omega), q5 287 (by omega)]) (by rw [q6 278 (by omega), q5 278 (by omega)]))
  have e7 : h7 284 = h 284 := by rw [q7 284 (by omega) (by omega), e284]
  have cl : (bnd (fX0_keep 20 h) fun _ h5 => bnd (fX2_mendRope 20 (nI t) h5) fun _ h6 => some (h6 20 5, h6)) = some (nI (hm (mendR (h 284) t) T), h6) := by
    rw [k1]
    simp only [bnd_s]
    rw [k2]
    simp only [bnd_s]
    rw [he6.hm hT]
  have mm : (bnd (fX6_notes h6) fun _ h4 => sto (hs h4 284 (9 + 5 * t) 1) fun h5 => sto (hs h5 284 (8 + 5 * t) 0) fun h6 => bnd (fX6_holding 284 h6) fun v8 h7 => some (v8, h7)) = some (nI (hm (mendR (h 284) t) T), hr h7 284 (mendR (h 284) t)) := by
    rw [k3]
    simp only [bnd_s, sto_d]
    have e8 : hs (hs h7 284 (9 + 5 * t) 1) 284 (8 + 5 * t) 0 = hr h7 284 (mendR (h 284) t) := by
      rw [hs_d h7, hs_hr, e7]; rfl
    rw [e8, mHolding (T := T) ln_284 hT (by rw [hr_eq]; exact (Gd_mend hg ht).1.2.2.2.1) (by rw [hr_eq]; exact (Gd_mend hg ht).hold), hr_eq]
    simp only [bnd_s]
  have iv : Inv (hr h7 284 (mendR (h 284) t)) := act_fin i ca5 q5 q6 he6 (Gd_mend hg ht) ma7 q7 d7
  rcases hg.hold t ht with z | z
  · rw [z, if_neg (show ¬ (0 : Int32) = 1 by decide)]
    simp only [↓reduceIte]
    refine Both.of cl ?_
    rw [q2 h6 e284]
    simp only [bnd_s, if1]
    rw [e284, show h 284 (9 + 5 * t) = 0 from z, if_neg (show ¬ (0 : Int32) = 1 by decide)]
    exact ⟨_, mm, iv⟩
  · rw [z, if_pos rfl]
    simp only [if1]
    rw [f4]
    by_cases y : fr (h 284) t = 0
    · rw [if_pos y]
      refine Both.same (h := h) (v := -1000002) i rfl ?_
      rw [q2 h rfl]
      simp only [bnd_s, if1]
      rw [show h 284 (9 + 5 * t) = 1 from z, if_pos rfl, if_pos y]
    · rw [if_neg y]
      refine Both.of cl ?_
      rw [q2 h6 e284]
      simp only [bnd_s, if1]
      rw [e284, show h 284 (9 + 5 * t) = 1 from z, if_pos rfl, if_neg y]
      exact ⟨_, mm, iv⟩
theorem both_pull {h : AH} (i : Inv h) (a b : Int32) : Both (fX5_pull a b h) (fX6_pull a b) := by
  unfold fX5_pull fX6_pull
  rcases tugs i.2.2.2.1 a with ⟨q1, q2⟩ | ⟨T, P, t, hg, he, ht, rfl, q1, q2⟩
  · refine Both.same (h := h) (v := -1000001) i ?_ ?_
    · rw [q1]; rfl
    · rw [q2 h rfl]; rfl
  have hT := hg.1.2.1
  obtain ⟨f1, f2, f3, f4⟩ := he.at20 ht
  rw [q1]
  simp only [bnd_s, ↓reduceIte, vl_d, ix5, i5_1, cW ln_284 (show 6 + 5 * t < 43 by omega), nI_clamp (show 6 + 5 * t < 2 ^ 31 by omega), cX ln_22 (show t < 6 by omega), nI_clamp (show t < 2 ^ 31 by omega)]
  rcases rl b 1 20 1 20 rfl rfl (by omega) (by omega) with p | ⟨p, p2⟩ | ⟨p, p2, s, hs1, hs2, rfl⟩
  · refine Both.same (h := h) (v := -1000001) i (by rw [if_pos p]) ?_
    rw [q2 h rfl]; simp only [bnd_s, if1]; rw [mIn_l h p]; rfl
  · refine Both.same (h := h) (v := -1000001) i (by rw [if_neg p, if_pos p2]) ?_
    rw [q2 h rfl]; simp only [bnd_s, if1]; rw [mIn_u h p p2]; rfl
  rw [if_neg p, if_neg p2]
  obtain ⟨K, O, L, ca, ma⟩ := i.2.2.2.2.1
  obtain ⟨h5, O', k1, ca5, q5⟩ := xKeep ca he hg
  have he5 : EstC (h 284) T P h5 20 := he.fm fun k h1 h2 => q5 k (by omega)
  rw [k1]
  simp only [bnd_s, sto_d]
  have he6 := he5.pulS hT ht (nI s)
  have q6 : Fm 20 h5 (hs h5 (20 + 2) t (nI s)) := Fm.hs 20 h5 t _ (by omega)
  refine Both.of (h1 := hs h5 (20 + 2) t (nI s)) rfl ?_
  have e284 : hs h5 (20 + 2) t (nI s) 284 = h 284 := by rw [q6 284 (by omega), q5 284 (by omega)]
  obtain ⟨h7, k3, ma7, q7, d7⟩ := mNotes (h := hs h5 (20 + 2) t (nI s)) ca.1 (ma.to (by rw [q6 287 (by omega), q5 287 (by omega)]) (by rw [q6 278 (by omega), q5 278 (by omega)]))
  have e7 : h7 284 = h 284 := by rw [q7 284 (by omega) (by omega), e284]
  rw [q2 _ e284]
  simp only [bnd_s, if1]
  rw [mIn_i _ p p2]
  simp only [bnd_s, if1]
  rw [k3]
  simp only [bnd_s]
  rw [e7, hs_d, e7, f2]
  exact ⟨_, rfl, act_fin i ca5 q5 q6 he6 (Gd_pull hg ht hs1 hs2) ma7 q7 d7⟩
theorem both_clear {h : AH} (i : Inv h) (a : Int32) : Both (fX5_clear a h) (fX6_clear a) := by
  unfold fX5_clear fX6_clear
  rcases piers i.2.2.2.1 a with ⟨q1, q2⟩ | ⟨T, P, t, hg, he, ht, rfl, q1, q2⟩
  · refine Both.same (h := h) (v := -1000001) i ?_ ?_
    · rw [q1]; rfl
    · rw [q2 h rfl]; rfl
  have hT := hg.1.2.1
  have hP := hg.1.2.2.1
  rw [q1]
  simp only [bnd_s, ↓reduceIte, vl_d, ix35, i35_1, cW ln_284 (show 36 + 2 * t < 43 by omega), nI_clamp (show 36 + 2 * t < 2 ^ 31 by omega), cX4 ln_26 (show t < 4 by omega), nI_clamp (show t < 2 ^ 31 by omega)]
  rw [(he.pr20 ht).2]
  by_cases y : sd (h 284) t = 0
  · rw [if_pos y]
    refine Both.same (h := h) (v := -1000002) i rfl ?_
    rw [q2 h rfl]
    simp only [bnd_s, if1]
    rw [if_pos (show h 284 (36 + 2 * t) = 0 from y)]
  rw [if_neg y]
  obtain ⟨K, O, L, ca, ma⟩ := i.2.2.2.2.1
  obtain ⟨h5, O', k1, ca5, q5⟩ := xKeep ca he hg
  have he5 : EstC (h 284) T P h5 20 := he.fm fun k h1 h2 => q5 k (by omega)
  rw [k1]
  simp only [bnd_s, sto_d]
  have he6 := he5.stdS hT ht (nI 0)
  have q6 : Fm 20 h5 (hs h5 (20 + 6) t (nI 0)) := Fm.hs 20 h5 t _ (by omega)
  refine Both.of (h1 := hs h5 (20 + 6) t (nI 0)) rfl ?_
  have e284 : hs h5 (20 + 6) t (nI 0) 284 = h 284 := by rw [q6 284 (by omega), q5 284 (by omega)]
  obtain ⟨h7, k3, ma7, q7, d7⟩ := mNotes (h := hs h5 (20 + 6) t (nI 0)) ca.1 (ma.to (by rw [q6 287 (by omega), q5 287 (by omega)]) (by rw [q6 278 (by omega), q5 278 (by omega)]))
  have e7 : h7 284 = h 284 := by rw [q7 284 (by omega) (by omega), e284]
  rw [q2 _ e284]
  simp only [bnd_s, if1]
  rw [e284, if_neg (show ¬ h 284 (36 + 2 * t) = 0 from y), k3]
  simp only [bnd_s]
  rw [hs_d, e7]
  exact ⟨_, rfl, act_fin i ca5 q5 q6 he6 (Gd_std (v := 0) hg ht (by omega)) ma7 q7 d7⟩
theorem both_undo {h : AH} (i : Inv h) : Both (fX5_undo h) fX6_undo := by
  unfold fX5_undo fX6_undo
  obtain ⟨K, O, L, ca, ma⟩ := i.2.2.2.2.1
  rw [ca.2.2.1]
  cases K with
  | zero =>
    refine Both.same (h := h) (v := -1000002) i (by rw [if_pos (show nI 0 = 0 from rfl)]) ?_
    rw [ma.1, if_pos (show nI 0 = 0 from rfl)]
  | succ K =>
    have hK := ca.1
    rw [if_neg (nI_ne0 (by omega) (by omega))]
    obtain ⟨h1, T, P, k1, ca1, hg, he, q1⟩ := xBack ca
    rw [k1]
    simp only [bnd_s]
    refine Both.of rfl ?_
    have e1 : h1 278 = h 278 := q1 278 (by omega)
    have e2 : nI (K + 1) - (1 : Int32) = nI K := pk_sub (b := 1) (by omega)
    have e3 : (43 : Int32) * nI K = nI (43 * K) := pk_mul 43 K
    rw [e1, ma.1, if_neg (nI_ne0 (by omega) (by omega))]
    simp only [sto_d, hs_kj, e2, e3]
    have cp := mCopies (s := 287) (d := 284) (a := 43 * K) (b := 0) (h := hs h1 278 17 (nI K)) (by decide) (by rw [ln_287]; omega) (by rw [ln_284]; decide) (by rw [ln_287]; decide) (by rw [ln_284]; decide)
    rw [nI_0] at cp
    rw [cp]
    simp only [bnd_s]
    rw [hr_ne _ _ (by decide), hs_kj]
    have row : ∀ j, j < 43 → cpR (hs h1 278 17 (nI K) 287) (hs h1 278 17 (nI K) 284) (43 * K) 0 43 j = L K j := by
      intro j hj
      have := cpR_in (f := hs h1 278 17 (nI K) 287) (g := hs h1 278 17 (nI K) 284) (a := 43 * K) (b := 0) hj
      rw [Nat.zero_add] at this
      rw [this, hs_q _ _ _ (by decide), q1 287 (by omega)]
      exact ma.2 K (by omega) j hj
    refine ⟨_, rfl, i.act (K' := K) (O' := O) (L' := L) (ca1.to fun k h2 h3 => ?_) ⟨?_, fun n hn j hj => ?_⟩ (Or.inr ⟨T, P, ?_, ?_⟩) (fun k hk => ?_) (fun j hj => ?_)⟩
    · rw [hr_ne _ _ (by omega), hs_q _ _ _ (by omega)]
    · rw [hr_ne _ _ (by decide), hs_kj]
    · rw [hr_ne _ _ (by decide), hs_q _ _ _ (by decide), q1 287 (by omega)]
      exact ma.2 n (by omega) j hj
    · rw [hr_eq]; exact hg.eq row
    · rw [hr_eq]
      exact (he.fm fun k h2 h3 => by rw [hr_ne _ _ (by omega), hs_q _ _ _ (by omega)]).eq hg.1.2.1 hg.1.2.2.1 row
    · rw [hr_ne _ _ (by omega), hs_q _ _ _ (by omega), q1 k (by omega)]
    · rw [hr_ne _ _ (by decide), hs_ki _ _ _ hj, e1]
