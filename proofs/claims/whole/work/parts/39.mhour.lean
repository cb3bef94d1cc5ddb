theorem mDrops {w t : Nat} {h : AH} (hw : ln w = 43) (ht : t < 6) : fX6_drops w (nI t) h = some ((), hr h w (dropR (h w) t)) := by
  unfold fX6_drops dropR
  simp only [sto_d, ix5, i5_3, i5_4, cW hw (show 8 + 5 * t < 43 by omega), cW hw (show 9 + 5 * t < 43 by omega), nI_clamp (show 8 + 5 * t < 2 ^ 31 by omega), nI_clamp (show 9 + 5 * t < 2 ^ 31 by omega)]
  rw [hs_d h, hs_hr]
theorem add0 (x : Int32) : x + 0 = x := Int32.add_zero x
/-- one tug's two numbers behind an hour -/
def frayT (e : Nat → Int32) (s : Int32) (t : Nat) : Nat → Int32 := upd (upd e (8 + 5 * t) (nFr e s t)) (9 + 5 * t) (nHo e s t)
theorem mFrays {w t : Nat} {h : AH} (s : Int32) (hw : ln w = 43) (ht : t < 6) : fX6_frays w (nI t) s h = some ((), hr h w (frayT (h w) s t)) := by
  unfold fX6_frays
  simp only [vl_d, sto_d, ix5, i5_2, i5_3, i5_4, cW hw (show 5 + 5 * t < 43 by omega), cW hw (show 7 + 5 * t < 43 by omega), cW hw (show 8 + 5 * t < 43 by omega), cW hw (show 9 + 5 * t < 43 by omega), nI_clamp (show 5 + 5 * t < 2 ^ 31 by omega), nI_clamp (show 7 + 5 * t < 2 ^ 31 by omega), nI_clamp (show 8 + 5 * t < 2 ^ 31 by omega), nI_clamp (show 9 + 5 * t < 2 ^ 31 by omega), mDraw hw ht, bnd_s, mDrops hw ht, if_pos, if_neg (show ¬ (1 : Int32) = 0 by decide), add0]
  by_cases q1 : ho (h w) t = 1
  · rw [if_pos q1]
    -- behind the fraying: x is what it is frayed
    have step : ∀ x, x = fr1 (h w) t → (if hs h w (8 + 5 * t) x w (5 + 5 * t) = 3 then (if hs h w (8 + 5 * t) x w (8 + 5 * t) < 6 then (if hs h w (8 + 5 * t) x w (5 + 5 * t) = 5 then (if 4 < s then some ((), hr (hs h w (8 + 5 * t) x) w (dropR (hs h w (8 + 5 * t) x w) t)) else some ((), hs h w (8 + 5 * t) x)) else some ((), hs h w (8 + 5 * t) x)) else some ((), hr (hs h w (8 + 5 * t) x) w (dropR (hs h w (8 + 5 * t) x w) t))) else (if hs h w (8 + 5 * t) x w (8 + 5 * t) < 3 then (if hs h w (8 + 5 * t) x w (5 + 5 * t) = 5 then (if 4 < s then some ((), hr (hs h w (8 + 5 * t) x) w (dropR (hs h w (8 + 5 * t) x w) t)) else some ((), hs h w (8 + 5 * t) x)) else some ((), hs h w (8 + 5 * t) x)) else some ((), hr (hs h w (8 + 5 * t) x) w (dropR (hs h w (8 + 5 * t) x w) t)))) = some ((), hr h w (frayT (h w) s t)) := by
      intro x hx
      rw [hs_ki h w _ (show 5 + 5 * t ≠ 8 + 5 * t by omega), hs_kj, hs_k]
      have hdrop : prt (h w) s t = true → hr (hs h w (8 + 5 * t) x) w (dropR (upd (h w) (8 + 5 * t) x) t) = hr h w (frayT (h w) s t) := by
        intro hp
        rw [hs_d, hr_hr]
        congr 1
        unfold dropR frayT nFr nHo
        rw [if_pos q1, if_pos hp, if_pos q1, if_pos hp]
        funext j
        by_cases j1 : j = 8 + 5 * t
        · subst j1; rw [upd_s, upd_n _ _ (by omega), upd_s]
        · rw [upd_n _ _ j1]
          by_cases j2 : j = 9 + 5 * t
          · subst j2; rw [upd_s, upd_s]
          · rw [upd_n _ _ j2, upd_n _ _ j1, upd_n _ _ j2, upd_n _ _ j1]
      have hstay : prt (h w) s t = false → hs h w (8 + 5 * t) x = hr h w (frayT (h w) s t) := by
        intro hp
        have hp' : ¬ prt (h w) s t = true := by rw [hp]; decide
        rw [hs_d]
        congr 1
        unfold frayT nFr nHo
        rw [if_pos q1, if_neg hp', if_pos q1, if_neg hp', hx]
        funext j
        by_cases j2 : j = 9 + 5 * t
        · subst j2; rw [upd_s, upd_n _ _ (by omega)]; exact q1
        · rw [upd_n (k := 9 + 5 * t) _ _ j2]
      rw [hx] at hdrop hstay ⊢
      by_cases k3 : h w (5 + 5 * t) = 3
      · have hl : lim (h w) t = 6 := if_pos k3
        have k5 : ¬ h w (5 + 5 * t) = 5 := by rw [k3]; decide
        rw [if_pos k3, if_neg k5]
        by_cases q2 : fr1 (h w) t < 6
        · rw [if_pos q2, hstay (by unfold prt; rw [hl]; simp [q2, k5])]
        · rw [if_neg q2, hdrop (by unfold prt; rw [hl]; simp [q2])]
      · have hl : lim (h w) t = 3 := if_neg k3
        rw [if_neg k3]
        by_cases q2 : fr1 (h w) t < 3
        · rw [if_pos q2]
          by_cases k5 : h w (5 + 5 * t) = 5
          · rw [if_pos k5]
            by_cases q3 : 4 < s
            · rw [if_pos q3, hdrop (by unfold prt; simp [k5, q3])]
            · rw [if_neg q3, hstay (by unfold prt; rw [hl]; simp [q2, q3])]
          · rw [if_neg k5, hstay (by unfold prt; rw [hl]; simp [q2, k5])]
        · rw [if_neg q2, hdrop (by unfold prt; rw [hl]; simp [q2])]
    by_cases q2 : h w (7 + 5 * t) < drw (h w) t
    · rw [if_pos q2]
      exact step _ (by unfold fr1; rw [if_pos q2])
    · rw [if_neg q2]
      exact step _ (by unfold fr1; rw [if_neg q2])
  · rw [if_neg q1]
    congr 2
    rw [show frayT (h w) s t = h w by
      unfold frayT nFr nHo
      rw [if_neg q1, if_neg q1]
      funext j
      by_cases j2 : j = 9 + 5 * t
      · subst j2; rw [upd_s]
      · rw [upd_n _ _ j2]
        by_cases j1 : j = 8 + 5 * t
        · subst j1; rw [upd_s]
        · rw [upd_n _ _ j1]]
    exact (hr_self h w).symm
/-- the first i tugs' numbers behind an hour, the thing where it has come to -/
def pasR (e : Nat → Int32) (P : Nat) (s : Int32) (i : Nat) : Nat → Int32 := fun j => if 5 ≤ j ∧ j < 5 + 5 * i then (if j % 5 = 3 then nFr e s ((j - 5) / 5) else if j % 5 = 4 then nHo e s ((j - 5) / 5) else e j) else comeR e P s j
theorem pR_0 (e : Nat → Int32) (P : Nat) (s : Int32) : pasR e P s 0 = comeR e P s := by
  funext j
  unfold pasR
  rw [if_neg (by omega)]
theorem pR_s (e : Nat → Int32) (P : Nat) (s : Int32) {i : Nat} (hi : i < 6) : frayT (pasR e P s i) s i = pasR e P s (i + 1) := by
  have hlo : ∀ j, j < 5 → j ≠ 1 → pasR e P s i j = e j := fun j h1 h2 => by
    unfold pasR
    rw [if_neg (by omega)]
    exact cR_lo e P s h2 (by omega)
  have hti : ∀ c, c < 5 → pasR e P s i (5 + c + 5 * i) = e (5 + c + 5 * i) := fun c hc => by
    unfold pasR
    rw [if_neg (by omega)]
    exact cR_lo e P s (by omega) (by omega)
  have ek : kn (pasR e P s i) i = kn e i := hti 0 (by omega)
  have ep : pl (pasR e P s i) i = pl e i := hti 1 (by omega)
  have er : rp (pasR e P s i) i = rp e i := hti 2 (by omega)
  have ef : fr (pasR e P s i) i = fr e i := hti 3 (by omega)
  have eh : ho (pasR e P s i) i = ho e i := hti 4 (by omega)
  have ed : drw (pasR e P s i) i = drw e i := drw_eq (hlo 4 (by omega) (by omega)) ek ep eh
  have e1 : fr1 (pasR e P s i) i = fr1 e i := by unfold fr1; rw [er, ed, ef]
  have el : lim (pasR e P s i) i = lim e i := by unfold lim; rw [ek]
  have eq : prt (pasR e P s i) s i = prt e s i := by unfold prt; rw [e1, el, ek]
  have enf : nFr (pasR e P s i) s i = nFr e s i := by unfold nFr; rw [eh, eq, e1, ef]
  have enh : nHo (pasR e P s i) s i = nHo e s i := by unfold nHo; rw [eh, eq]
  unfold frayT
  rw [enf, enh]
  funext j
  by_cases j2 : j = 9 + 5 * i
  · subst j2
    rw [upd_s]
    unfold pasR
    rw [if_pos (by omega), if_neg (by omega), if_pos (by omega), show (9 + 5 * i - 5) / 5 = i by omega]
  · rw [upd_n _ _ j2]
    by_cases j1 : j = 8 + 5 * i
    · subst j1
      rw [upd_s]
      unfold pasR
      rw [if_pos (by omega), if_pos (by omega), show (8 + 5 * i - 5) / 5 = i by omega]
    · rw [upd_n _ _ j1]
      unfold pasR
      by_cases q : 5 ≤ j ∧ j < 5 + 5 * i
      · rw [if_pos q, if_pos (show 5 ≤ j ∧ j < 5 + 5 * (i + 1) by omega)]
      · rw [if_neg q]
        by_cases q2 : 5 ≤ j ∧ j < 5 + 5 * (i + 1)
        · rw [if_pos q2, if_neg (by omega), if_neg (by omega), cR_lo e P s (by omega) (by omega)]
        · rw [if_neg q2]
theorem mPass_L {w P T : Nat} {e : Nat → Int32} {s p2 p1 : Int32} {k : Int32 → AH → Option (Unit × AH)} (hw : ln w = 43) (hT : T ≤ 6) (e2 : e 2 = nI T) : ∀ m i f h, i + m = T → m < f → fX6_passes_L29 s p2 w p1 f (nI i) (hr h w (pasR e P s i)) k = k (nI T) (hr h w (pasR e P s T)) := by
  have h2 : ∀ i, pasR e P s i 2 = nI T := fun i => by
    unfold pasR
    rw [if_neg (by omega), cR_lo e P s (by omega) (by omega)]
    exact e2
  intro m
  induction m with
  | zero =>
    intro i f h hi hf
    obtain ⟨g, rfl, -⟩ := fuel_s hf
    rw [fX6_passes_L29, cW2 hw, cl_2, hr_eq, h2, ite_lt (by omega) (by omega), if_neg (by omega), show i = T by omega]
  | succ m ih =>
    intro i f h hi hf
    obtain ⟨g, rfl, hg2⟩ := fuel_s hf
    rw [fX6_passes_L29, cW2 hw, cl_2, hr_eq, h2, ite_lt (by omega) (by omega), if_pos (by omega), mFrays s hw (by omega), hr_eq, pR_s e P s (by omega), hr_hr]
    simp only [bnd_s, vl_d, nI_1]
    exact ih (i + 1) g h (by omega) (by omega)
/-- an hour of the reference's row -/
theorem mHour {w T P : Nat} {h : AH} (fog : Int32) (hw : ln w = 43) (hT : T ≤ 6) (hP : P ≤ 4) (e0 : ¬ h w 0 = 0) (e2 : h w 2 = nI T) (e3 : h w 3 = nI P) : fX6_passes w fog h = some ((), hr h w (hourR (h w) T P fog)) := by
  have fin : ∀ s : Int32, hr (hr h w (pasR (h w) P s T)) w (upd (pasR (h w) P s T) 4 (pasR (h w) P s T 4 + 1)) = hr h w (hourS (h w) T P s) := by
    intro s
    rw [hr_hr]
    congr 1
    funext j
    have h4 : pasR (h w) P s T 4 = h w 4 := by
      unfold pasR
      rw [if_neg (by omega), cR_lo _ _ _ (by omega) (by omega)]
    rw [h4]
    unfold hourS
    by_cases j4 : j = 4
    · subst j4; rw [upd_s, if_neg (by omega), if_pos rfl]
    · rw [upd_n _ _ j4]
      unfold pasR
      by_cases j1 : j = 1
      · subst j1; rw [if_neg (by omega), cR_1, if_pos rfl]
      · rw [if_neg (show ¬ j = 1 from j1), if_neg j4]
        by_cases q : 5 ≤ j ∧ j < 5 + 5 * T
        · rw [if_pos q, if_pos q]
        · rw [if_neg q, if_neg q]
          unfold comeR
          rw [if_neg j1]
  unfold fX6_passes
  rw [mForce hw hT e2]
  simp only [bnd_s]
  unfold hourR spF
  have run : ∀ (s p2 : Int32), (fX6_passes_L29 s p2 w fog FU (0 : Int32) (hr h w (comeR (h w) P s)) fun _ h7 => chk (inb (4 : Int32) (ln w)) (chk (inb (4 : Int32) (ln w)) (sto (hs h7 w (Int32.toNatClampNeg (4 : Int32)) (h7 w (Int32.toNatClampNeg (4 : Int32)) + (1 : Int32))) fun h8 => some ((), h8)))) = some ((), hr h w (hourS (h w) T P s)) := by
    intro s p2
    have := mPass_L (w := w) (P := P) (e := h w) (s := s) (p2 := p2) (p1 := fog) (k := fun _ h7 => chk (inb (4 : Int32) (ln w)) (chk (inb (4 : Int32) (ln w)) (sto (hs h7 w (Int32.toNatClampNeg (4 : Int32)) (h7 w (Int32.toNatClampNeg (4 : Int32)) + (1 : Int32))) fun h8 => some ((), h8)))) hw hT e2 T 0 FU h (by omega) (by have := FU_big; omega)
    rw [nI_0, pR_0] at this
    rw [this, cW4 hw, cW4 hw, cl_4, sto_d, hs_d, hr_eq, fin s]
  by_cases q : fog = 0
  · rw [if_pos q, if_pos q, mSpeed _ hw e0]
    simp only [bnd_s]
    rw [mComes _ hw hP e3]
    simp only [bnd_s]
    exact run _ _
  · rw [if_neg q, if_neg q, chk_p ne_2, mSpeed _ hw e0]
    simp only [bnd_s]
    rw [mComes _ hw hP e3]
    simp only [bnd_s]
    exact run _ _
