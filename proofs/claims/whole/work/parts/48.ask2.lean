theorem b10 {n d t : Nat} {h : AH} {l : List Int32} (ht : t < 6) (hd : d ≤ 16) (hl : l.length < 16) : fX1_body (n + 1) 10 20 (nI t) (nI d) (tX h l) = some (h 22 t, tX h (l ++ [10])) := by
  rw [b_go hd hl, if_pos rfl, show 20 + 2 = 22 from rfl, cX ln_22 ht, nI_clamp (by omega), tX_q _ _ (by decide) (by decide)]
theorem b20 {n d : Nat} {t : Int32} {h : AH} {l : List Int32} (hd : d ≤ 16) (hl : l.length < 16) : fX1_body (n + 1) 20 20 t (nI d) (tX h l) = some (t, tX h (l ++ [20])) := by
  rw [b_go hd hl]
  simp (decide := true) only [↓reduceIte]
theorem b21 {n d t : Nat} {h : AH} {l : List Int32} (ht : t < 6) (hd : d ≤ 15) (hl : l.length < 15) : fX1_body (n + 2) 21 20 (nI t) (nI d) (tX h l) = some (nI t + h 24 t, tX h (l ++ [21, 20])) := by
  rw [b_go (by omega) (by omega)]
  simp (decide := true) only [↓reduceIte]
  rw [b20 (by omega) (by simp; omega), bnd_s, show 20 + 4 = 24 from rfl, cX ln_24 ht, nI_clamp (by omega), tX_q _ _ (by decide) (by decide)]
  simp
theorem b22 {n d t : Nat} {h : AH} {l : List Int32} (ht : t < 6) (hd : d ≤ 14) (hl : l.length < 14) : fX1_body (n + 3) 22 20 (nI t) (nI d) (tX h l) = some (nI t + h 24 t - 1000, tX h (l ++ [22, 21, 20])) := by
  rw [b_go (by omega) (by omega)]
  simp (decide := true) only [↓reduceIte]
  rw [b21 ht (by omega) (by simp; omega), bnd_s]
  simp
theorem b24 {n d t : Nat} {h : AH} {l : List Int32} (ht : t < 6) (hd : d ≤ 14) (hl : l.length < 14) : fX1_body (n + 3) 24 20 (nI t) (nI d) (tX h l) = some (2 * (nI t + h 24 t), tX h (l ++ [24, 21, 20])) := by
  rw [b_go (by omega) (by omega)]
  simp (decide := true) only [↓reduceIte]
  rw [b21 ht (by omega) (by simp; omega), bnd_s]
  simp
theorem b13 {n d t : Nat} {h : AH} {l : List Int32} (ht : t < 6) (hd : d ≤ 15) (hl : l.length < 15) : fX1_body (n + 2) 13 20 (nI t) (nI d) (tX h l) = some (h 22 t - 100, tX h (l ++ [13, 10])) := by
  rw [b_go (by omega) (by omega)]
  simp (decide := true) only [↓reduceIte]
  rw [b10 ht (by omega) (by simp; omega), bnd_s]
  simp
theorem b14 {n d t : Nat} {h : AH} {l : List Int32} (ht : t < 6) (hd : d ≤ 14) (hl : l.length < 14) : fX1_body (n + 3) 14 20 (nI t) (nI d) (tX h l) = some (2 * (h 22 t - 100), tX h (l ++ [14, 13, 10])) := by
  rw [b_go (by omega) (by omega)]
  simp (decide := true) only [↓reduceIte]
  rw [b13 ht (by omega) (by simp; omega), bnd_s]
  simp
theorem st_in (i : Nat) (hi : i = 2 ∨ i = 3) {k : Nat} (hk : k < 6) {α : Type} {o : Option α} : chk (inb (nI k) (stL i).length) o = o := by
  refine chk_p (inb_n ?_ ?_)
  · rcases hi with e | e <;> subst e <;> exact hk
  · rcases hi with e | e <;> subst e <;> decide
theorem beg_at {rec : Int32 → Nat → Int32 → Int32 → AH → Option (Int32 × AH)} {t k : Nat} {a d : Int32} {h : AH} (ht : t < 6) (hk : k ≤ 5) (ek : h 21 t = nI k) : fX1_begin rec a 20 (nI t) d h = if a = 0 then rec (stV 2 k) 20 (nI t) d h else rec (stV 3 k) 20 (nI t) d h := by
  have b1 : ∀ o : Option (Int32 × AH), bnd o (fun v h => some (v, h)) = o := by intro o; cases o <;> rfl
  unfold fX1_begin
  rw [show 20 + 1 = 21 from rfl, cX ln_21 ht, nI_clamp (by omega), ek, vl_d, if_neg (n0_lt k (by omega)), if_neg (show ¬ (5 : Int32) < nI k from nI_nlt (a := 5) hk (by omega)), st_in 2 (by omega) (by omega), st_in 3 (by omega) (by omega), nI_clamp (by omega), b1, b1]
/-- what a mark is, and the bodies begun for it -/
def mkV (k : Nat) (t p f : Int32) : Int32 := if k = 1 then t + f else if k = 2 then 2 * (t + f) else if k = 3 then t + f - 1000 else if k = 4 then t - (p - 100) else t - 2 * (p - 100)
def mkL (k : Nat) : List Int32 := if k = 1 then [21, 20] else if k = 2 then [24, 21, 20] else if k = 3 then [22, 21, 20] else if k = 4 then [23, 20, 13, 10] else [23, 20, 14, 13, 10]
def szV (k : Nat) (t p f : Int32) : Int32 := if k = 1 then p + (t + f) else if k = 2 then -(p + 2 * (t + f)) else if k = 3 then p + (t + f - 1000) else if k = 4 then p - 100 else 2 * (p - 100)
def szL (k : Nat) : List Int32 := if k = 1 then [11, 10, 21, 20] else if k = 2 then [12, 11, 10, 24, 21, 20] else if k = 3 then [11, 10, 22, 21, 20] else if k = 4 then [13, 10] else [14, 13, 10]
theorem xMark {n d t k : Nat} {h : AH} {l : List Int32} (ht : t < 6) (hk1 : 1 ≤ k) (hk : k ≤ 5) (ek : h 21 t = nI k) (hd : d ≤ 6) (hl : l.length ≤ 6) : fX1_begin (fX1_body (n + 5)) 1 20 (nI t) (nI d) (tX h l) = some (mkV k (nI t) (h 22 t) (h 24 t), tX h (l ++ mkL k)) := by
  rw [beg_at ht hk (by rw [tX_q _ _ (by decide) (by decide)]; exact ek), if_neg (by decide)]
  have m23 : ∀ (k' : Nat), h 21 t = nI k' → k' ≤ 5 → ∀ (v : Int32) (ls : List Int32), (∀ (l' : List Int32) (d' n' : Nat), d' ≤ 8 → l'.length ≤ 9 → fX1_body (n' + 3) (stV 2 k') 20 (nI t) (nI d') (tX h l') = some (v, tX h (l' ++ ls))) → fX1_body (n + 5) 23 20 (nI t) (nI d) (tX h l) = some (nI t - v, tX h (l ++ ([23, 20] ++ ls))) := by
    intro k' ek' hk' v ls hv
    rw [b_go (by omega) (by omega)]
    simp (decide := true) only [↓reduceIte]
    rw [b20 (by omega) (by simp; omega), bnd_s, beg_at ht hk' (by rw [tX_q _ _ (by decide) (by decide)]; exact ek'), if_pos rfl, hv _ _ (n + 1) (by omega) (by simp; omega), bnd_s]
    simp
  rcases (show k = 1 ∨ k = 2 ∨ k = 3 ∨ k = 4 ∨ k = 5 by omega) with e | e | e | e | e <;> subst e
  · exact b21 (n := n + 3) ht (by omega) (by omega)
  · exact b24 (n := n + 2) ht (by omega) (by omega)
  · exact b22 (n := n + 2) ht (by omega) (by omega)
  · exact m23 4 ek (by omega) (h 22 t - 100) [13, 10] fun l' d' n' h1 h2 => b13 (n := n' + 1) ht (by omega) (by omega)
  · exact m23 5 ek (by omega) (2 * (h 22 t - 100)) [14, 13, 10] fun l' d' n' h1 h2 => b14 (n := n') ht (by omega) (by omega)
theorem xSize {n t k : Nat} {h : AH} (ht : t < 6) (hk1 : 1 ≤ k) (hk : k ≤ 5) (ek : h 21 t = nI k) : fX1_begin (fX1_body (n + 8)) 0 20 (nI t) (nI 0) (tX h []) = some (szV k (nI t) (h 22 t) (h 24 t), tX h (szL k)) := by
  rw [beg_at ht hk (by rw [tX_q _ _ (by decide) (by decide)]; exact ek), if_pos rfl]
  have b11 : ∀ (d n' : Nat) (l : List Int32), d ≤ 2 → l.length ≤ 2 → fX1_body (n' + 6) 11 20 (nI t) (nI d) (tX h l) = some (h 22 t + mkV k (nI t) (h 22 t) (h 24 t), tX h (l ++ ([11, 10] ++ mkL k))) := by
    intro d n' l h1 h2
    rw [b_go (by omega) (by omega)]
    simp (decide := true) only [↓reduceIte]
    rw [b10 ht (by omega) (by simp; omega), bnd_s, xMark ht hk1 hk ek (by omega) (by simp; omega), bnd_s]
    simp
  rcases (show k = 1 ∨ k = 2 ∨ k = 3 ∨ k = 4 ∨ k = 5 by omega) with e | e | e | e | e <;> subst e
  · exact b11 0 (n + 2) [] (by omega) (by simp)
  · show fX1_body (n + 7 + 1) 12 20 (nI t) (nI 0) (tX h []) = _
    rw [b_go (by omega) (by simp)]
    simp (decide := true) only [↓reduceIte]
    rw [b11 1 (n + 1) _ (by omega) (by simp), bnd_s]
    rfl
  · exact b11 0 (n + 2) [] (by omega) (by simp)
  · exact b13 (n := n + 6) ht (by omega) (by simp)
  · exact b14 (n := n + 5) ht (by omega) (by simp)
theorem tX_0 (h : AH) : hs h 276 1 0 = tX h [] := by
  unfold tX
  have : rowOf (h 277) [] = h 277 := by funext j; simp [rowOf]
  rw [this]
  funext q
  by_cases q1 : q = 277
  · subst q1; rw [hr_eq, hs_q _ _ _ (by decide)]
  · rw [hr_ne _ _ q1]; rfl
theorem tM_0 (h : AH) : hs h 278 21 0 = tM h [] := by
  unfold tM
  have : rowOf (h 290) [] = h 290 := by funext j; simp [rowOf]
  rw [this]
  funext q
  by_cases q1 : q = 290
  · subst q1; rw [hr_eq, hs_q _ _ _ (by decide)]
  · rw [hr_ne _ _ q1]; rfl
/-! the reference's bodies -/
theorem kin {t : Nat} {h : AH} (ht : t < 6) : fX6_kindIn (nI t) h = some (kn (h 284) t, h) := by
  unfold fX6_kindIn
  rw [ix5, cW ln_284 (by omega), nI_clamp (by omega)]
theorem mPM {t k : Nat} {h : AH} {l : List Int32} (ht : t < 6) (hk1 : 1 ≤ k) (hk : k ≤ 3) (ek : kn (h 284) t = nI k) (hl : l.length ≤ 6) : fX6_paddlerMark (nI t) (tM h l) = some (mkV k (nI t) (pl (h 284) t) (fr (h 284) t), tM h (l ++ mkL k)) := by
  unfold fX6_paddlerMark
  rw [kin ht]
  simp only [bnd_s, ix5, i5_3, cW ln_284 (show 8 + 5 * t < 43 by omega), nI_clamp (show 8 + 5 * t < 2 ^ 31 by omega), vl_d]
  rw [tM_q _ _ (by decide) (by decide), ek]
  rcases (show k = 1 ∨ k = 2 ∨ k = 3 by omega) with e | e | e <;> subst e
  · simp (decide := true) only [↓reduceIte]
    rw [mBegins _ _ _ (by omega), bnd_s, mBegins _ _ _ (by simp; omega), bnd_s, tM_q _ _ (by decide) (by decide)]
    simp [mkV, mkL]
  · simp (decide := true) only [↓reduceIte]
    rw [mBegins _ _ _ (by omega), bnd_s, mBegins _ _ _ (by simp; omega), bnd_s, mBegins _ _ _ (by simp; omega), bnd_s, tM_q _ _ (by decide) (by decide)]
    simp [mkV, mkL]
  · simp (decide := true) only [↓reduceIte]
    rw [mBegins _ _ _ (by omega), bnd_s, mBegins _ _ _ (by simp; omega), bnd_s, mBegins _ _ _ (by simp; omega), bnd_s, tM_q _ _ (by decide) (by decide)]
    simp [mkV, mkL]
theorem mPS {t k : Nat} {h : AH} (ht : t < 6) (hk1 : 1 ≤ k) (hk : k ≤ 3) (ek : kn (h 284) t = nI k) : fX6_paddlerSize (nI t) (tM h []) = some (szV k (nI t) (pl (h 284) t) (fr (h 284) t), tM h (szL k)) := by
  unfold fX6_paddlerSize
  rw [kin ht]
  simp only [bnd_s, ix5, i5_1, cW ln_284 (show 6 + 5 * t < 43 by omega), nI_clamp (show 6 + 5 * t < 2 ^ 31 by omega), vl_d]
  rw [tM_q _ _ (by decide) (by decide), ek]
  rcases (show k = 1 ∨ k = 2 ∨ k = 3 by omega) with e | e | e <;> subst e
  · simp (decide := true) only [↓reduceIte]
    rw [mBegins _ _ _ (by simp), bnd_s, mBegins _ _ _ (by simp), bnd_s, mPM ht hk1 hk ek (by simp), bnd_s, tM_q _ _ (by decide) (by decide)]
    simp [mkV, mkL, szV, szL]
  · simp (decide := true) only [↓reduceIte]
    rw [mBegins _ _ _ (by simp), bnd_s, mBegins _ _ _ (by simp), bnd_s, mBegins _ _ _ (by simp), bnd_s, mPM ht hk1 hk ek (by simp), bnd_s, tM_q _ _ (by decide) (by decide)]
    simp [mkV, mkL, szV, szL]
  · simp (decide := true) only [↓reduceIte]
    rw [mBegins _ _ _ (by simp), bnd_s, mBegins _ _ _ (by simp), bnd_s, mPM ht hk1 hk ek (by simp), bnd_s, tM_q _ _ (by decide) (by decide)]
    simp [mkV, mkL, szV, szL]
theorem mLS {t k : Nat} {h : AH} {l : List Int32} (ht : t < 6) (hk1 : 4 ≤ k) (hk : k ≤ 5) (ek : kn (h 284) t = nI k) (hl : l.length ≤ 6) : fX6_launchSize (nI t) (tM h l) = some (szV k (nI t) (pl (h 284) t) (fr (h 284) t), tM h (l ++ szL k)) := by
  unfold fX6_launchSize
  rw [kin ht]
  simp only [bnd_s, ix5, i5_1, cW ln_284 (show 6 + 5 * t < 43 by omega), nI_clamp (show 6 + 5 * t < 2 ^ 31 by omega), vl_d]
  rw [tM_q _ _ (by decide) (by decide), ek]
  rcases (show k = 4 ∨ k = 5 by omega) with e | e <;> subst e
  · simp (decide := true) only [↓reduceIte]
    rw [mBegins _ _ _ (by omega), bnd_s, mBegins _ _ _ (by simp; omega), bnd_s, tM_q _ _ (by decide) (by decide)]
    simp [szV, szL]
  · simp (decide := true) only [↓reduceIte]
    rw [mBegins _ _ _ (by omega), bnd_s, mBegins _ _ _ (by simp; omega), bnd_s, mBegins _ _ _ (by simp; omega), bnd_s, tM_q _ _ (by decide) (by decide)]
    simp [szV, szL]
theorem mLM {t k : Nat} {h : AH} (ht : t < 6) (hk1 : 4 ≤ k) (hk : k ≤ 5) (ek : kn (h 284) t = nI k) : fX6_launchMark (nI t) (tM h []) = some (mkV k (nI t) (pl (h 284) t) (fr (h 284) t), tM h (mkL k)) := by
  unfold fX6_launchMark
  rw [mBegins _ _ _ (by simp), bnd_s, mBegins _ _ _ (by simp), bnd_s, mLS ht hk1 hk ek (by simp), bnd_s]
  rcases (show k = 4 ∨ k = 5 by omega) with e | e <;> subst e <;> simp [szV, szL, mkV, mkL]
theorem Inv.tr {h : AH} (i : Inv h) (l : List Int32) (hl : l.length ≤ 16) : Inv (tM (tX h l) l) := by
  obtain ⟨i1, i2, i3, i4, i5, i6, i7⟩ := i
  have q : ∀ k, k ≠ 276 → k ≠ 277 → k ≠ 278 → k ≠ 290 → tM (tX h l) l k = h k := fun k h1 h2 h3 h4 => by rw [tM_q _ _ h3 h4, tX_q _ _ h1 h2]
  have q2 : ∀ j, j ≠ 21 → tM (tX h l) l 278 j = h 278 j := by
    intro j hj
    unfold tM
    rw [hr_ne _ _ (by decide), hr_eq, upd_n _ _ hj, tX_q _ _ (by decide) (by decide)]
  refine ⟨i1.to fun k hk => q k (by omega) (by omega) (by omega) (by omega), i2.to (fun k hk => q k (by omega) (by omega) (by omega) (by omega)) ?_ ?_ (q2 6 (by omega)) (q2 7 (by omega)), ?_, i4.to fun k hk => q k (by omega) (by omega) (by omega) (by omega), i5.to (fun k hk => q k (by omega) (by omega) (by omega) (by omega)) (q2 17 (by omega)), i6.to fun k hk => q k (by omega) (by omega) (by omega) (by omega), ⟨l.length, hl, ?_, ?_, fun j hj => ?_⟩⟩
  · rw [q 18 (by omega) (by omega) (by omega) (by omega)]
  · rw [q 18 (by omega) (by omega) (by omega) (by omega)]
  · unfold IS; rw [q 0 (by omega) (by omega) (by omega) (by omega), q2 4 (by omega)]; exact i3
  · rw [tM_q _ _ (by decide) (by decide)]; unfold tX; rw [hr_ne _ _ (by decide), hr_eq, upd_s]
  · unfold tM; rw [hr_ne _ _ (by decide), hr_eq, upd_s]
  · rw [tM_q _ _ (by decide) (by decide)]
    unfold tM tX
    rw [hr_eq, hr_eq]
    simp [rowOf, List.getD, hj]
theorem both_ask {h : AH} (i : Inv h) (a b : Int32) : Both (fX5_ask a b h) (fX6_ask a b) := by
  unfold fX5_ask fX6_ask
  rcases tugs i.2.2.2.1 a with ⟨q1, q2⟩ | ⟨T, P, t, hg, he, ht, rfl, q1, q2⟩
  · refine Both.same (h := h) (v := -1000001) i ?_ ?_
    · rw [q1]; rfl
    · rw [q2 h rfl]; rfl
  have hT := hg.1.2.1
  obtain ⟨f1, f2, f3, f4⟩ := he.at20 ht
  rw [q1]
  simp only [bnd_s, ↓reduceIte]
  rcases rl b 0 1 0 1 rfl rfl (by omega) (by omega) with p | ⟨p, p2⟩ | ⟨p, p2, s, -, hs1, rfl⟩
  · refine Both.same (h := h) (v := -1000001) i (by unfold fX5_noHalf; rw [if_pos p]; rfl) ?_
    rw [q2 h rfl]; simp only [bnd_s, if1]; rw [mIn_l h p]; rfl
  · refine Both.same (h := h) (v := -1000001) i (by unfold fX5_noHalf; rw [if_neg p, if_pos p2]; rfl) ?_
    rw [q2 h rfl]; simp only [bnd_s, if1]; rw [mIn_u h p p2]; rfl
  obtain ⟨k, hk1, hk2, ek⟩ := (hg.2.2.2.2.1 t ht).1
  have hno : fX5_noHalf (nI s) h = some (0, h) := by unfold fX5_noHalf; rw [if_neg p, if_neg p2]
  rw [hno]
  simp only [bnd_s, ↓reduceIte]
  unfold fX1_answer
  simp only [sto_d, tX_0]
  have ek' : h 21 t = nI k := by rw [f1, ek]
  have fin : ∀ (v : Int32) (l : List Int32), l.length ≤ 16 → ((if nI k < 4 then (if nI s = 0 then fX6_paddlerSize (nI t) (tM (tX h l) []) else fX6_paddlerMark (nI t) (tM (tX h l) [])) else (if nI s = 0 then fX6_launchSize (nI t) (tM (tX h l) []) else fX6_launchMark (nI t) (tM (tX h l) []))) = some (v, tM (tX h l) l)) → Both (some (v, tX h l)) fun h => (bnd (fX6_isTug (nI t) h) fun v2 h1 => (if v2 = 0 then (some (-1000001, h1)) else (bnd (fX6_in (nI s) 0 1 h1) fun v4 h3 => (if v4 = 0 then (some (-1000001, h3)) else (bnd (fX6_kindIn (nI t) (tM h3 [])) fun v7 h6 => (if v7 < 4 then (if nI s = 0 then (bnd (fX6_paddlerSize (nI t) h6) fun v9 h8 => (some (v9, h8))) else (bnd (fX6_paddlerMark (nI t) h6) fun v11 h10 => (some (v11, h10)))) else (if nI s = 0 then ((bnd (fX6_launchSize (nI t) h6) fun v13 h12 => (some (v13, h12)))) else ((bnd (fX6_launchMark (nI t) h6) fun v15 h14 => (some (v15, h14)))))))))))  := by
    intro v l hl e
    refine Both.of rfl ⟨tM (tX h l) l, ?_, i.tr l hl⟩
    rw [q2 _ (tX_q _ _ (by decide) (by decide))]
    simp only [bnd_s, if1]
    rw [mIn_i _ p p2]
    simp only [bnd_s, if1]
    rw [kin (by omega)]
    simp only [bnd_s]
    have b1 : ∀ o : Option (Int32 × AH), bnd o (fun v h => some (v, h)) = o := by intro o; cases o <;> rfl
    rw [b1, b1, b1, b1, tM_q _ _ (by decide) (by decide), tX_q _ _ (by decide) (by decide), ek]
    exact e
  simp only [tM_0, ↓reduceIte, if1]
  have t6 : t < 6 := by omega
  have hx : ∀ l, kn (tX h l 284) t = nI k := fun l => by rw [tX_q _ _ (by decide) (by decide)]; exact ek
  have hp : ∀ l, pl (tX h l 284) t = h 22 t := fun l => by rw [tX_q _ _ (by decide) (by decide)]; exact f2.symm
  have hf : ∀ l, fr (tX h l 284) t = h 24 t := fun l => by rw [tX_q _ _ (by decide) (by decide)]; exact f4.symm
  rcases (show s = 0 ∨ s = 1 by omega) with e | e <;> subst e
  · have := xSize (n := 0) t6 hk1 hk2 ek'
    rw [nI_0, Nat.zero_add] at this
    rw [nI_0, this]
    simp only [bnd_s]
    refine fin _ _ ?_ ?_
    · rcases (show k = 1 ∨ k = 2 ∨ k = 3 ∨ k = 4 ∨ k = 5 by omega) with e | e | e | e | e <;> subst e <;> simp [szL]
    · by_cases z : k < 4
      · rw [if_pos (show nI k < 4 from nI_lt (b := 4) z (by omega)), if_pos (show nI 0 = 0 from rfl), mPS t6 hk1 (by omega) (hx _), hp, hf]
      · rw [if_neg (show ¬ nI k < 4 from nI_nlt (b := 4) (by omega) (by omega)), if_pos (show nI 0 = 0 from rfl), mLS t6 (by omega) hk2 (hx _) (by simp), hp, hf]
        rfl
  · have := xMark (n := 3) (d := 0) (l := []) t6 hk1 hk2 ek' (by omega) (by simp)
    rw [nI_0] at this
    rw [show nI 1 = 1 from rfl, this]
    simp only [bnd_s, List.nil_append]
    refine fin _ _ ?_ ?_
    · rcases (show k = 1 ∨ k = 2 ∨ k = 3 ∨ k = 4 ∨ k = 5 by omega) with e | e | e | e | e <;> subst e <;> simp [mkL]
    · by_cases z : k < 4
      · rw [if_pos (show nI k < 4 from nI_lt (b := 4) z (by omega)), if_neg (show ¬ nI 1 = 0 by decide), mPM t6 hk1 (by omega) (hx _) (by simp), hp, hf]
        rfl
      · rw [if_neg (show ¬ nI k < 4 from nI_nlt (b := 4) (by omega) (by omega)), if_neg (show ¬ nI 1 = 0 by decide), mLM t6 (by omega) hk2 (hx _), hp, hf]
