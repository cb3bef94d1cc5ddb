theorem prt_or (e : Nat → Int32) (s : Int32) (t : Nat) : prt e s t = (!decide (fr1 e t < lim e t) || (decide (kn e t = 5) && decide (4 < s))) := rfl
/-- numbers that a row shares with another at one tug decide what it draws -/
theorem drw_eq {e e' : Nat → Int32} {t : Nat} (h4 : e' 4 = e 4) (h1 : kn e' t = kn e t) (h2 : pl e' t = pl e t) (h3 : ho e' t = ho e t) : drw e' t = drw e t := by
  unfold drw
  rw [h4, h1, h2, h3]
theorem Gd_fray0 {e : Nat → Int32} {T P B : Nat} (hg : Gd e T P B) (i : Nat) (hi : i ≤ T) : Gd (fray0 e i) T P B := by
  obtain ⟨⟨hT1, hT, hP, e2, e3⟩, hm, ho1, hq, htg, hpr⟩ := hg
  refine ⟨⟨hT1, hT, hP, by rw [f0_lo e i (by omega)]; exact e2, by rw [f0_lo e i (by omega)]; exact e3⟩, by rw [f0_lo e i (by omega)]; exact hm, by rw [f0_lo e i (by omega)]; exact ho1, by rw [f0_lo e i (by omega)]; exact hq, fun t ht => ?_, fun p hp => ?_⟩
  · obtain ⟨h1, h2, h3, ⟨f, hf, ef⟩, h5⟩ := htg t ht
    refine ⟨?_, ?_, ?_, ?_⟩
    · rw [show kn (fray0 e i) t = kn e t from f0_x e i (by omega) (by omega)]; exact h1
    · rw [show pl (fray0 e i) t = pl e t from f0_x e i (by omega) (by omega)]; exact h2
    · rw [show rp (fray0 e i) t = rp e t from f0_x e i (by omega) (by omega)]; exact h3
    · by_cases hti : t < i
      · rw [f0_fr e hti, f0_ho e hti]
        rcases h5 with ⟨z1, z2⟩ | z1
        · rw [if_neg (by rw [z1]; decide), if_neg (by rw [z1]; decide)]
          exact ⟨⟨f, hf, ef⟩, Or.inl ⟨z1, z2⟩⟩
        · rw [if_pos z1, if_pos z1]
          by_cases q3 : fr1 e t < lim e t
          · rw [if_pos q3, if_pos q3]
            refine ⟨?_, Or.inr rfl⟩
            have q4 : ∃ f, fr1 e t = nI f ∧ f ≤ 6 := by
              unfold fr1
              by_cases q5 : rp e t < drw e t
              · rw [if_pos q5, ef]; exact ⟨f + 1, nI_1 f, by omega⟩
              · rw [if_neg q5, ef]; exact ⟨f, rfl, by omega⟩
            obtain ⟨g, eg, hg6⟩ := q4
            rw [eg] at q3 ⊢
            refine ⟨g, ?_, rfl⟩
            unfold lim at q3
            by_cases q5 : kn e t = 3
            · rw [if_pos q5] at q3
              have := (nI_ltI (a := g) (b := 6) (by omega) (by omega)).mp q3
              omega
            · rw [if_neg q5] at q3
              have := (nI_ltI (a := g) (b := 3) (by omega) (by omega)).mp q3
              omega
          · rw [if_neg q3, if_neg q3]
            exact ⟨⟨0, by omega, rfl⟩, Or.inl ⟨rfl, rfl⟩⟩
      · rw [show fr (fray0 e i) t = fr e t from f0_hi e (by omega), show ho (fray0 e i) t = ho e t from f0_hi e (by omega)]
        exact ⟨⟨f, hf, ef⟩, h5⟩
  · rw [show pa (fray0 e i) p = pa e p from f0_hi e (by omega), show sd (fray0 e i) p = sd e p from f0_hi e (by omega)]
    exact hpr p hp
theorem xPass_L {e : Nat → Int32} {T P B : Nat} {r : Nat} {fog : Int32} {k : Int32 → Int32 → AH → Option (Unit × AH)} (hg : Gd e T P B) (hB : B ≤ 20000) : ∀ m i f h, i + m = T → m < f → EstC (fray0 e i) T P h r → ∃ h', fX2_passHour_L4 r fog f (nI i) (sumD e i) h k = k (nI T) (sumD e T) h' ∧ EstC (fray0 e T) T P h' r ∧ Fm r h h' := by
  have hT : T ≤ 6 := hg.1.2.1
  intro m
  induction m with
  | zero =>
    intro i f h hi hf he
    obtain ⟨g, rfl, -⟩ := fuel_s hf
    have hiT : i = T := by omega
    subst hiT
    refine ⟨h, ?_, he, Fm.rf r h⟩
    rw [fX2_passHour_L4, he.2.1.1, ite_lt (by omega) (by omega), if_neg (by omega)]
  | succ m ih =>
    intro i f h hi hf he
    obtain ⟨g, rfl, hg2⟩ := fuel_s hf
    have hr := he.1
    have hgi := Gd_fray0 hg i (by omega)
    have hi6 : i < 6 := by omega
    obtain ⟨f1, f2, f3, f4⟩ := he.2.2.1 i (by omega)
    have ekn : kn (fray0 e i) i = kn e i := f0_hi e (by omega)
    have epl : pl (fray0 e i) i = pl e i := f0_hi e (by omega)
    have erp : rp (fray0 e i) i = rp e i := f0_hi e (by omega)
    have efr : fr (fray0 e i) i = fr e i := f0_hi e (by omega)
    have eho : ho (fray0 e i) i = ho e i := f0_hi e (by omega)
    have edr : drw (fray0 e i) i = drw e i := drw_eq (f0_lo e i (by omega)) ekn epl eho
    have hdr := xDraw hgi hB he (show i < T by omega)
    rw [edr] at hdr
    rw [erp] at f3
    rw [efr] at f4
    have h5 := (hg.2.2.2.2.1 i (by omega)).2.2.2.2
    have hrope := (hg.2.2.2.2.1 i (by omega)).2.2.1
    rw [fX2_passHour_L4, he.2.1.1, ite_lt (by omega) (by omega), if_pos (by omega), hdr]
    simp only [bnd_s, vl_d, sto_d, cE3 hr hi6, cE4 hr hi6, nI_clamp (show i < 2 ^ 31 by omega), f3, f4]
    -- the numbers behind the fraying
    have step : ∀ (hh : AH) (x : Int32), EstC (upd (fray0 e i) (8 + 5 * i) x) T P hh r → Fm r h hh → x = fr1 e i → ∃ h', (bnd (fX2_ropeIsThrough r (nI i) hh) fun v206 h205 => if v206 = 0 then vl (nI i + 1) fun z207 => fX2_passHour_L4 r fog g z207 (sumD e i + drw e i) h205 k else bnd (fX2_letGo r (nI i) h205) fun _ h208 => vl (nI i + 1) fun z209 => fX2_passHour_L4 r fog g z209 (sumD e i + drw e i) h208 k) = k (nI T) (sumD e T) h' ∧ EstC (fray0 e T) T P h' r ∧ Fm r h h' := by
      intro hh x hhe hF hx
      rw [xThrough hhe hT (by omega)]
      have elim : lim (upd (fray0 e i) (8 + 5 * i) x) i = lim e i := by
        unfold lim
        rw [show kn (upd (fray0 e i) (8 + 5 * i) x) i = kn e i by show upd _ _ _ _ = _; rw [upd_n _ _ (by omega)]; exact ekn]
      have efx : fr (upd (fray0 e i) (8 + 5 * i) x) i = fr1 e i := by show upd _ _ _ _ = _; rw [upd_s]; exact hx
      rw [elim, efx]
      simp only [bnd_s, vl_d, nI_1]
      by_cases q : fr1 e i < lim e i
      · rw [if_pos q, if_pos rfl]
        have hnext : fray0 e (i + 1) = upd (fray0 e i) (8 + 5 * i) x := by
          refine f0_s e (fun j h1 _ => upd_n _ _ h1) ?_ ?_
          · rw [efx]
            rcases h5 with ⟨z1, z2⟩ | z1
            · rw [if_neg (by rw [z1]; decide)]
              unfold fr1
              rw [if_neg, ]
              unfold drw
              rw [if_pos z1]
              obtain ⟨u, hu1, hu2, eu⟩ := hrope
              rw [eu]
              exact nI_pos (by omega)
            · rw [if_pos z1, if_pos q]
          · rw [show ho (upd (fray0 e i) (8 + 5 * i) x) i = ho e i by show upd _ _ _ _ = _; rw [upd_n _ _ (by omega)]; exact eho]
            rcases h5 with ⟨z1, z2⟩ | z1
            · rw [if_neg (by rw [z1]; decide)]
            · rw [if_pos z1, if_pos q, z1]
        rw [← hnext] at hhe
        obtain ⟨h', w1, w2, w3⟩ := ih (i + 1) g hh (by omega) (by omega) hhe
        exact ⟨h', w1, w2, hF.tr w3⟩
      · rw [if_neg q, if_neg (by decide)]
        obtain ⟨h2, l1, l2, l3⟩ := xLetGo hhe hT (show i < T by omega)
        rw [l1]
        simp only [bnd_s]
        have hnext : fray0 e (i + 1) = dropR (upd (fray0 e i) (8 + 5 * i) x) i := by
          refine f0_s e (fun j h1 h2 => ?_) ?_ ?_
          · unfold dropR
            rw [upd_n _ _ h1, upd_n _ _ h2, upd_n _ _ h1]
          · rw [show fr (dropR (upd (fray0 e i) (8 + 5 * i) x) i) i = 0 from upd_s _ _ _]
            rcases h5 with ⟨z1, z2⟩ | z1
            · rw [if_neg (by rw [z1]; decide), z2]
            · rw [if_pos z1, if_neg q]
          · rw [show ho (dropR (upd (fray0 e i) (8 + 5 * i) x) i) i = 0 by show upd _ _ _ _ = _; rw [upd_n _ _ (by omega)]; exact upd_s _ _ _]
            rcases h5 with ⟨z1, z2⟩ | z1
            · rw [if_neg (by rw [z1]; decide), z1]
            · rw [if_pos z1, if_neg q]
        rw [← hnext] at l2
        obtain ⟨h', w1, w2, w3⟩ := ih (i + 1) g h2 (by omega) (by omega) l2
        exact ⟨h', w1, w2, (hF.tr l3).tr w3⟩
    by_cases q : rp e i < drw e i
    · rw [if_pos q]
      have e1 := he.fray hT (show i < T by omega) (fr e i + 1)
      exact step _ _ e1 (Fm.hs r h i _ (by omega)) (by unfold fr1; rw [if_pos q])
    · rw [if_neg q]
      have e1 : EstC (upd (fray0 e i) (8 + 5 * i) (fr e i)) T P h r := by
        rw [show upd (fray0 e i) (8 + 5 * i) (fr e i) = fray0 e i by
          funext j
          by_cases hj : j = 8 + 5 * i
          · subst hj; rw [upd_s]; exact efr.symm
          · rw [upd_n _ _ hj]]
        exact he
      exact step _ _ e1 (Fm.rf r h) (by unfold fr1; rw [if_neg q])
