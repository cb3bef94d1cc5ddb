/-! One number changed. -/
theorem EstC.kndS {e : Nat → Int32} {T P : Nat} {h : AH} {r t : Nat} (he : EstC e T P h r) (hT : T ≤ 6) (ht : t < T) (v : Int32) : EstC (upd e (5 + 5 * t) v) T P (hs h (r + 1) t v) r := by
  obtain ⟨a, ⟨b0, b1, b2, b3, b4, m, b5, hb⟩, c, d⟩ := he
  refine ⟨a, ⟨?_, ?_, ?_, ?_, ?_, m, ?_, hb.1, fun u hu => ?_⟩, fun u hu => ?_, fun p hp => ?_⟩
  · rw [hs_q _ _ _ (by omega)]; exact b0
  · rw [hs_q _ _ _ (by omega)]; exact b1
  · rw [hs_q _ _ _ (by omega), upd_n _ _ (by omega)]; exact b2
  · rw [hs_q _ _ _ (by omega), upd_n _ _ (by omega)]; exact b3
  · rw [hs_q _ _ _ (by omega), upd_n _ _ (by omega)]; exact b4
  · rw [hs_q _ _ _ (by omega)]; exact b5
  · rw [hb.2 u hu]
    show _ = decide (upd e (5 + 5 * t) v (9 + 5 * u) = 1)
    rw [upd_n _ _ (by omega)]
  · obtain ⟨c1, c2, c3, c4⟩ := c u hu
    by_cases q : u = t
    · subst q
      refine ⟨?_, ?_, ?_, ?_⟩ <;> simp (disch := omega) only [kn, pl, rp, fr, hs_q, hs_k, upd_n, upd_s] <;> assumption
    · refine ⟨?_, ?_, ?_, ?_⟩ <;> simp (disch := omega) only [kn, pl, rp, fr, hs_q, hs_k, upd_n, upd_s] <;> assumption
  · obtain ⟨d1, d2⟩ := d p hp
    refine ⟨?_, ?_⟩ <;> simp (disch := omega) only [pa, sd, hs_q, hs_k, upd_n, upd_s] <;> assumption
theorem EstC.pulS {e : Nat → Int32} {T P : Nat} {h : AH} {r t : Nat} (he : EstC e T P h r) (hT : T ≤ 6) (ht : t < T) (v : Int32) : EstC (upd e (6 + 5 * t) v) T P (hs h (r + 2) t v) r := by
  obtain ⟨a, ⟨b0, b1, b2, b3, b4, m, b5, hb⟩, c, d⟩ := he
  refine ⟨a, ⟨?_, ?_, ?_, ?_, ?_, m, ?_, hb.1, fun u hu => ?_⟩, fun u hu => ?_, fun p hp => ?_⟩
  · rw [hs_q _ _ _ (by omega)]; exact b0
  · rw [hs_q _ _ _ (by omega)]; exact b1
  · rw [hs_q _ _ _ (by omega), upd_n _ _ (by omega)]; exact b2
  · rw [hs_q _ _ _ (by omega), upd_n _ _ (by omega)]; exact b3
  · rw [hs_q _ _ _ (by omega), upd_n _ _ (by omega)]; exact b4
  · rw [hs_q _ _ _ (by omega)]; exact b5
  · rw [hb.2 u hu]
    show _ = decide (upd e (6 + 5 * t) v (9 + 5 * u) = 1)
    rw [upd_n _ _ (by omega)]
  · obtain ⟨c1, c2, c3, c4⟩ := c u hu
    by_cases q : u = t
    · subst q
      refine ⟨?_, ?_, ?_, ?_⟩ <;> simp (disch := omega) only [kn, pl, rp, fr, hs_q, hs_k, upd_n, upd_s] <;> assumption
    · refine ⟨?_, ?_, ?_, ?_⟩ <;> simp (disch := omega) only [kn, pl, rp, fr, hs_q, hs_k, upd_n, upd_s] <;> assumption
  · obtain ⟨d1, d2⟩ := d p hp
    refine ⟨?_, ?_⟩ <;> simp (disch := omega) only [pa, sd, hs_q, hs_k, upd_n, upd_s] <;> assumption
theorem EstC.ropS {e : Nat → Int32} {T P : Nat} {h : AH} {r t : Nat} (he : EstC e T P h r) (hT : T ≤ 6) (ht : t < T) (v : Int32) : EstC (upd e (7 + 5 * t) v) T P (hs h (r + 3) t v) r := by
  obtain ⟨a, ⟨b0, b1, b2, b3, b4, m, b5, hb⟩, c, d⟩ := he
  refine ⟨a, ⟨?_, ?_, ?_, ?_, ?_, m, ?_, hb.1, fun u hu => ?_⟩, fun u hu => ?_, fun p hp => ?_⟩
  · rw [hs_q _ _ _ (by omega)]; exact b0
  · rw [hs_q _ _ _ (by omega)]; exact b1
  · rw [hs_q _ _ _ (by omega), upd_n _ _ (by omega)]; exact b2
  · rw [hs_q _ _ _ (by omega), upd_n _ _ (by omega)]; exact b3
  · rw [hs_q _ _ _ (by omega), upd_n _ _ (by omega)]; exact b4
  · rw [hs_q _ _ _ (by omega)]; exact b5
  · rw [hb.2 u hu]
    show _ = decide (upd e (7 + 5 * t) v (9 + 5 * u) = 1)
    rw [upd_n _ _ (by omega)]
  · obtain ⟨c1, c2, c3, c4⟩ := c u hu
    by_cases q : u = t
    · subst q
      refine ⟨?_, ?_, ?_, ?_⟩ <;> simp (disch := omega) only [kn, pl, rp, fr, hs_q, hs_k, upd_n, upd_s] <;> assumption
    · refine ⟨?_, ?_, ?_, ?_⟩ <;> simp (disch := omega) only [kn, pl, rp, fr, hs_q, hs_k, upd_n, upd_s] <;> assumption
  · obtain ⟨d1, d2⟩ := d p hp
    refine ⟨?_, ?_⟩ <;> simp (disch := omega) only [pa, sd, hs_q, hs_k, upd_n, upd_s] <;> assumption
theorem EstC.stdS {e : Nat → Int32} {T P : Nat} {h : AH} {r t : Nat} (he : EstC e T P h r) (hT : T ≤ 6) (ht : t < P) (v : Int32) : EstC (upd e (36 + 2 * t) v) T P (hs h (r + 6) t v) r := by
  obtain ⟨a, ⟨b0, b1, b2, b3, b4, m, b5, hb⟩, c, d⟩ := he
  refine ⟨a, ⟨?_, ?_, ?_, ?_, ?_, m, ?_, hb.1, fun u hu => ?_⟩, fun u hu => ?_, fun p hp => ?_⟩
  · rw [hs_q _ _ _ (by omega)]; exact b0
  · rw [hs_q _ _ _ (by omega)]; exact b1
  · rw [hs_q _ _ _ (by omega), upd_n _ _ (by omega)]; exact b2
  · rw [hs_q _ _ _ (by omega), upd_n _ _ (by omega)]; exact b3
  · rw [hs_q _ _ _ (by omega), upd_n _ _ (by omega)]; exact b4
  · rw [hs_q _ _ _ (by omega)]; exact b5
  · rw [hb.2 u hu]
    show _ = decide (upd e (36 + 2 * t) v (9 + 5 * u) = 1)
    rw [upd_n _ _ (by omega)]
  · obtain ⟨c1, c2, c3, c4⟩ := c u hu
    refine ⟨?_, ?_, ?_, ?_⟩ <;> simp (disch := omega) only [kn, pl, rp, fr, hs_q, hs_k, upd_n, upd_s] <;> assumption
  · obtain ⟨d1, d2⟩ := d p hp
    by_cases q : p = t
    · subst q
      refine ⟨?_, ?_⟩ <;> simp (disch := omega) only [pa, sd, hs_q, hs_k, upd_n, upd_s] <;> assumption
    · refine ⟨?_, ?_⟩ <;> simp (disch := omega) only [pa, sd, hs_q, hs_k, upd_n, upd_s] <;> assumption
theorem EstC.masS {e : Nat → Int32} {T P : Nat} {h : AH} {r : Nat} (he : EstC e T P h r) (v : Int32) : EstC (upd e 0 v) T P (hs h r 2 v) r := by
  obtain ⟨a, ⟨b0, b1, b2, b3, b4, m, b5, hb⟩, c, d⟩ := he
  refine ⟨a, ⟨?_, ?_, ?_, ?_, ?_, m, ?_, hb.1, fun u hu => ?_⟩, fun u hu => ?_, fun p hp => ?_⟩
  · rw [hs_ki _ _ _ (by omega)]; exact b0
  · rw [hs_ki _ _ _ (by omega)]; exact b1
  · rw [hs_kj, upd_s]
  · rw [hs_ki _ _ _ (by omega), upd_n _ _ (by omega)]; exact b3
  · rw [hs_ki _ _ _ (by omega), upd_n _ _ (by omega)]; exact b4
  · rw [hs_ki _ _ _ (by omega)]; exact b5
  · rw [hb.2 u hu]
    show _ = decide (upd e 0 v (9 + 5 * u) = 1)
    rw [upd_n _ _ (by omega)]
  · obtain ⟨c1, c2, c3, c4⟩ := c u hu
    refine ⟨?_, ?_, ?_, ?_⟩ <;> simp (disch := omega) only [kn, pl, rp, fr, hs_q, hs_k, upd_n, upd_s] <;> assumption
  · obtain ⟨d1, d2⟩ := d p hp
    refine ⟨?_, ?_⟩ <;> simp (disch := omega) only [pa, sd, hs_q, hs_k, upd_n, upd_s] <;> assumption
theorem EstC.outS {e : Nat → Int32} {T P : Nat} {h : AH} {r : Nat} (he : EstC e T P h r) (v : Int32) : EstC (upd e 1 v) T P (hs h r 3 v) r := by
  obtain ⟨a, ⟨b0, b1, b2, b3, b4, m, b5, hb⟩, c, d⟩ := he
  refine ⟨a, ⟨?_, ?_, ?_, ?_, ?_, m, ?_, hb.1, fun u hu => ?_⟩, fun u hu => ?_, fun p hp => ?_⟩
  · rw [hs_ki _ _ _ (by omega)]; exact b0
  · rw [hs_ki _ _ _ (by omega)]; exact b1
  · rw [hs_ki _ _ _ (by omega), upd_n _ _ (by omega)]; exact b2
  · rw [hs_kj, upd_s]
  · rw [hs_ki _ _ _ (by omega), upd_n _ _ (by omega)]; exact b4
  · rw [hs_ki _ _ _ (by omega)]; exact b5
  · rw [hb.2 u hu]
    show _ = decide (upd e 1 v (9 + 5 * u) = 1)
    rw [upd_n _ _ (by omega)]
  · obtain ⟨c1, c2, c3, c4⟩ := c u hu
    refine ⟨?_, ?_, ?_, ?_⟩ <;> simp (disch := omega) only [kn, pl, rp, fr, hs_q, hs_k, upd_n, upd_s] <;> assumption
  · obtain ⟨d1, d2⟩ := d p hp
    refine ⟨?_, ?_⟩ <;> simp (disch := omega) only [pa, sd, hs_q, hs_k, upd_n, upd_s] <;> assumption
/-! within the bounds -/
/-- what is changed of one tug -/
theorem Gd.tugS {e e' : Nat → Int32} {T P B t : Nat} (hg : Gd e T P B) (ht : t < T) (lo : ∀ j, (j < 5 + 5 * t ∨ 9 + 5 * t < j) → e' j = e j) (hk : ∃ k, 1 ≤ k ∧ k ≤ 5 ∧ kn e' t = nI k) (hp : ∃ k, 1 ≤ k ∧ k ≤ 20 ∧ pl e' t = nI k) (hr : ∃ k, 1 ≤ k ∧ k ≤ 20 ∧ rp e' t = nI k) (hf : ∃ k, k ≤ 5 ∧ fr e' t = nI k) (hh : (ho e' t = 0 ∧ fr e' t = 0) ∨ ho e' t = 1) : Gd e' T P B := by
  obtain ⟨⟨a1, a2, a3, a4, a5⟩, b, c, d, f, g⟩ := hg
  refine ⟨⟨a1, a2, a3, by rw [lo 2 (by omega)]; exact a4, by rw [lo 3 (by omega)]; exact a5⟩, by rw [lo 0 (by omega)]; exact b, by rw [lo 1 (by omega)]; exact c, by rw [lo 4 (by omega)]; exact d, fun u hu => ?_, fun p hp => ?_⟩
  · by_cases q : u = t
    · subst q; exact ⟨hk, hp, hr, hf, hh⟩
    · have := f u hu
      simp only [kn, pl, rp, fr, ho] at this ⊢
      rw [lo (5 + 5 * u) (by omega), lo (6 + 5 * u) (by omega), lo (7 + 5 * u) (by omega), lo (8 + 5 * u) (by omega), lo (9 + 5 * u) (by omega)]
      exact this
  · have := g p hp
    simp only [pa, sd] at this ⊢
    rw [lo (35 + 2 * p) (by omega), lo (36 + 2 * p) (by omega)]
    exact this
theorem Gd_drop {e : Nat → Int32} {T P B t : Nat} (hg : Gd e T P B) (ht : t < T) : Gd (dropR e t) T P B := by
  obtain ⟨h1, h2, h3, -, -⟩ := hg.2.2.2.2.1 t ht
  refine hg.tugS ht (fun j hj => ?_) ?_ ?_ ?_ ⟨0, by omega, ?_⟩ (Or.inl ⟨?_, ?_⟩) <;> unfold dropR
  · rw [upd_n _ _ (by omega), upd_n _ _ (by omega)]
  · simp (disch := omega) only [kn, upd_n]; exact h1
  · simp (disch := omega) only [pl, upd_n]; exact h2
  · simp (disch := omega) only [rp, upd_n]; exact h3
  · simp (disch := omega) only [fr, upd_s]; rfl
  · simp (disch := omega) only [ho, upd_n, upd_s]
  · simp (disch := omega) only [fr, upd_n, upd_s]
theorem Gd_mend {e : Nat → Int32} {T P B t : Nat} (hg : Gd e T P B) (ht : t < T) : Gd (mendR e t) T P B := by
  obtain ⟨h1, h2, h3, -, -⟩ := hg.2.2.2.2.1 t ht
  refine hg.tugS ht (fun j hj => ?_) ?_ ?_ ?_ ⟨0, by omega, ?_⟩ (Or.inr ?_) <;> unfold mendR
  · rw [upd_n _ _ (by omega), upd_n _ _ (by omega)]
  · simp (disch := omega) only [kn, upd_n]; exact h1
  · simp (disch := omega) only [pl, upd_n]; exact h2
  · simp (disch := omega) only [rp, upd_n]; exact h3
  · simp (disch := omega) only [fr, upd_s]; rfl
  · simp (disch := omega) only [ho, upd_n, upd_s]
theorem Gd_kind {e : Nat → Int32} {T P B t v : Nat} (hg : Gd e T P B) (ht : t < T) (h1 : 1 ≤ v) (h5 : v ≤ 5) : Gd (upd e (5 + 5 * t) (nI v)) T P B := by
  obtain ⟨-, h2, h3, h4, h6⟩ := hg.2.2.2.2.1 t ht
  refine hg.tugS ht (fun j hj => ?_) ⟨v, h1, h5, ?_⟩ ?_ ?_ ?_ ?_
  · rw [upd_n _ _ (by omega)]
  · simp (disch := omega) only [kn, upd_s]
  · simp (disch := omega) only [pl, upd_n]; exact h2
  · simp (disch := omega) only [rp, upd_n]; exact h3
  · simp (disch := omega) only [fr, upd_n]; exact h4
  · simp (disch := omega) only [fr, ho, upd_n]; exact h6
theorem Gd_pull {e : Nat → Int32} {T P B t v : Nat} (hg : Gd e T P B) (ht : t < T) (h1 : 1 ≤ v) (h5 : v ≤ 20) : Gd (upd e (6 + 5 * t) (nI v)) T P B := by
  obtain ⟨h2, -, h3, h4, h6⟩ := hg.2.2.2.2.1 t ht
  refine hg.tugS ht (fun j hj => ?_) ?_ ⟨v, h1, h5, ?_⟩ ?_ ?_ ?_
  · rw [upd_n _ _ (by omega)]
  · simp (disch := omega) only [kn, upd_n]; exact h2
  · simp (disch := omega) only [pl, upd_s]
  · simp (disch := omega) only [rp, upd_n]; exact h3
  · simp (disch := omega) only [fr, upd_n]; exact h4
  · simp (disch := omega) only [fr, ho, upd_n]; exact h6
theorem Gd_rope {e : Nat → Int32} {T P B t v : Nat} (hg : Gd e T P B) (ht : t < T) (h1 : 1 ≤ v) (h5 : v ≤ 20) : Gd (upd e (7 + 5 * t) (nI v)) T P B := by
  obtain ⟨h2, h3, -, h4, h6⟩ := hg.2.2.2.2.1 t ht
  refine hg.tugS ht (fun j hj => ?_) ?_ ?_ ⟨v, h1, h5, ?_⟩ ?_ ?_
  · rw [upd_n _ _ (by omega)]
  · simp (disch := omega) only [kn, upd_n]; exact h2
  · simp (disch := omega) only [pl, upd_n]; exact h3
  · simp (disch := omega) only [rp, upd_s]
  · simp (disch := omega) only [fr, upd_n]; exact h4
  · simp (disch := omega) only [fr, ho, upd_n]; exact h6
theorem Gd_std {e : Nat → Int32} {T P B t v : Nat} (hg : Gd e T P B) (ht : t < P) (h5 : v ≤ 20) : Gd (upd e (36 + 2 * t) (nI v)) T P B := by
  obtain ⟨⟨a1, a2, a3, a4, a5⟩, b, c, d, f, g⟩ := hg
  refine ⟨⟨a1, a2, a3, by rw [upd_n _ _ (by omega)]; exact a4, by rw [upd_n _ _ (by omega)]; exact a5⟩, by rw [upd_n _ _ (by omega)]; exact b, by rw [upd_n _ _ (by omega)]; exact c, by rw [upd_n _ _ (by omega)]; exact d, fun u hu => ?_, fun p hp => ?_⟩
  · have := f u hu
    simp only [kn, pl, rp, fr, ho] at this ⊢
    simp (disch := omega) only [upd_n]
    exact this
  · have := g p hp
    simp only [pa, sd] at this ⊢
    by_cases q : p = t
    · subst q
      simp (disch := omega) only [upd_n, upd_s]
      exact ⟨this.1, v, h5, rfl⟩
    · simp (disch := omega) only [upd_n]
      exact this
theorem Gd_mas {e : Nat → Int32} {T P B v : Nat} (hg : Gd e T P B) (h1 : 1 ≤ v) (h5 : v ≤ 60) : Gd (upd e 0 (nI v)) T P B := by
  obtain ⟨⟨a1, a2, a3, a4, a5⟩, b, c, d, f, g⟩ := hg
  refine ⟨⟨a1, a2, a3, by rw [upd_n _ _ (by omega)]; exact a4, by rw [upd_n _ _ (by omega)]; exact a5⟩, ⟨v, h1, h5, by rw [upd_s]⟩, by rw [upd_n _ _ (by omega)]; exact c, by rw [upd_n _ _ (by omega)]; exact d, fun u hu => ?_, fun p hp => ?_⟩
  · have := f u hu
    simp only [kn, pl, rp, fr, ho] at this ⊢
    simp (disch := omega) only [upd_n]
    exact this
  · have := g p hp
    simp only [pa, sd] at this ⊢
    simp (disch := omega) only [upd_n]
    exact this
theorem Gd_out {e : Nat → Int32} {T P B v : Nat} (hg : Gd e T P B) (h5 : v ≤ 99) : Gd (upd e 1 (nI v)) T P B := by
  obtain ⟨⟨a1, a2, a3, a4, a5⟩, b, c, d, f, g⟩ := hg
  refine ⟨⟨a1, a2, a3, by rw [upd_n _ _ (by omega)]; exact a4, by rw [upd_n _ _ (by omega)]; exact a5⟩, by rw [upd_n _ _ (by omega)]; exact b, ⟨v, h5, by rw [upd_s]⟩, by rw [upd_n _ _ (by omega)]; exact d, fun u hu => ?_, fun p hp => ?_⟩
  · have := f u hu
    simp only [kn, pl, rp, fr, ho] at this ⊢
    simp (disch := omega) only [upd_n]
    exact this
  · have := g p hp
    simp only [pa, sd] at this ⊢
    simp (disch := omega) only [upd_n]
    exact this
