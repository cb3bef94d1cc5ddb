/-! The class's hour. -/
def cb (m t : Nat) : Nat := if m.testBit t then m - 2 ^ t else m
def bs (m t : Nat) : Nat := if m.testBit t then m else m + 2 ^ t
theorem cb_at : ∀ m, m < 64 → ∀ t, t < 6 → nI m &&& (((1 : Int32) <<< (nI t &&& 31)) ^^^ (-1 : Int32)) = nI (cb m t) := by decide +kernel
theorem cb_bit : ∀ m, m < 64 → ∀ t, t < 6 → ∀ j, j < 6 → (cb m t).testBit j = (m.testBit j && !(j == t)) := by decide +kernel
theorem cb_le (m t : Nat) : cb m t ≤ m := by
  unfold cb
  split
  · exact Nat.sub_le _ _
  · exact Nat.le_refl _
theorem bs_at : ∀ m, m < 64 → ∀ t, t < 6 → nI m ||| ((1 : Int32) <<< (nI t &&& 31)) = nI (bs m t) := by decide +kernel
theorem bs_bit : ∀ m, m < 64 → ∀ t, t < 6 → ∀ j, j < 6 → (bs m t).testBit j = (m.testBit j || (j == t)) := by decide +kernel
theorem bs_lt : ∀ T, T < 7 → ∀ m, m < 64 → m < 2 ^ T → ∀ t, t < T → bs m t < 2 ^ T := by decide +kernel
/-- nothing but the estuary at r has changed -/
def Fm (r : Nat) (h h' : AH) : Prop := ∀ q, (q < r ∨ r + 6 < q) → h' q = h q
theorem Fm.rf (r : Nat) (h : AH) : Fm r h h := fun _ _ => rfl
theorem Fm.tr {r : Nat} {h h1 h2 : AH} (a : Fm r h h1) (b : Fm r h1 h2) : Fm r h h2 := fun q hq => (b q hq).trans (a q hq)
theorem Fm.hs (r : Nat) (h : AH) {k : Nat} (j : Nat) (v : Int32) (hk : r ≤ k ∧ k ≤ r + 6) : Fm r h (hs h k j v) := fun q hq => hs_q h j v (by omega)
theorem EstC.to {e e' : Nat → Int32} {T P : Nat} {h : AH} {r : Nat} (he : EstC e T P h r) (h0 : e' 0 = e 0) (h1 : e' 1 = e 1) (h4 : e' 4 = e 4) (ht : ∀ t, t < T → kn e' t = kn e t ∧ pl e' t = pl e t ∧ rp e' t = rp e t ∧ fr e' t = fr e t ∧ ho e' t = ho e t) (hp : ∀ p, p < P → pa e' p = pa e p ∧ sd e' p = sd e p) : EstC e' T P h r := by
  obtain ⟨a, ⟨b0, b1, b2, b3, b4, m, b5, b6⟩, c, d⟩ := he
  refine ⟨a, ⟨b0, b1, by rw [h0]; exact b2, by rw [h1]; exact b3, by rw [h4]; exact b4, m, b5, b6.1, fun t q => ?_⟩, fun t q => ?_, fun p q => ?_⟩
  · rw [(ht t q).2.2.2.2]; exact b6.2 t q
  · obtain ⟨x1, x2, x3, x4, -⟩ := ht t q
    rw [x1, x2, x3, x4]; exact c t q
  · rw [(hp p q).1, (hp p q).2]; exact d p q
theorem EstC.fray {e : Nat → Int32} {T P : Nat} {h : AH} {r t : Nat} (he : EstC e T P h r) (hT : T ≤ 6) (ht : t < T) (v : Int32) : EstC (upd e (8 + 5 * t) v) T P (hs h (r + 4) t v) r := by
  obtain ⟨a, ⟨b0, b1, b2, b3, b4, m, b5, b6⟩, c, d⟩ := he
  refine ⟨a, ⟨?_, ?_, ?_, ?_, ?_, m, ?_, b6.1, fun u q => ?_⟩, fun u q => ?_, fun p q => ?_⟩
  · rw [hs_q h _ _ (by omega)]; exact b0
  · rw [hs_q h _ _ (by omega)]; exact b1
  · rw [hs_q h _ _ (by omega), upd_n _ _ (by omega)]; exact b2
  · rw [hs_q h _ _ (by omega), upd_n _ _ (by omega)]; exact b3
  · rw [hs_q h _ _ (by omega), upd_n _ _ (by omega)]; exact b4
  · rw [hs_q h _ _ (by omega)]; exact b5
  · show _ = decide (upd e (8 + 5 * t) v (9 + 5 * u) = 1)
    rw [upd_n _ _ (by omega)]; exact b6.2 u q
  · obtain ⟨x1, x2, x3, x4⟩ := c u q
    refine ⟨?_, ?_, ?_, ?_⟩
    · show hs h (r + 4) t v (r + 1) u = upd e (8 + 5 * t) v (5 + 5 * u)
      rw [hs_q h _ _ (by omega), upd_n _ _ (by omega)]; exact x1
    · show hs h (r + 4) t v (r + 2) u = upd e (8 + 5 * t) v (6 + 5 * u)
      rw [hs_q h _ _ (by omega), upd_n _ _ (by omega)]; exact x2
    · show hs h (r + 4) t v (r + 3) u = upd e (8 + 5 * t) v (7 + 5 * u)
      rw [hs_q h _ _ (by omega), upd_n _ _ (by omega)]; exact x3
    · show hs h (r + 4) t v (r + 4) u = upd e (8 + 5 * t) v (8 + 5 * u)
      by_cases hu : u = t
      · subst hu; rw [hs_kj, upd_s]
      · rw [hs_ki h _ _ hu, upd_n _ _ (by omega)]; exact x4
  · obtain ⟨x1, x2⟩ := d p q
    refine ⟨?_, ?_⟩
    · show hs h (r + 4) t v (r + 5) p = upd e (8 + 5 * t) v (35 + 2 * p)
      rw [hs_q h _ _ (by omega), upd_n _ _ (by omega)]; exact x1
    · show hs h (r + 4) t v (r + 6) p = upd e (8 + 5 * t) v (36 + 2 * p)
      rw [hs_q h _ _ (by omega), upd_n _ _ (by omega)]; exact x2
theorem EstC.held {e : Nat → Int32} {T P : Nat} {h : AH} {r t m : Nat} {v w : Int32} (he : EstC e T P h r) (hT : T ≤ 6) (ht : t < T) (hw : w = nI m) (hb : Hb (upd e (9 + 5 * t) v) T m) : EstC (upd e (9 + 5 * t) v) T P (hs h r 5 w) r := by
  obtain ⟨a, ⟨b0, b1, b2, b3, b4, -⟩, c, d⟩ := he
  refine ⟨a, ⟨?_, ?_, ?_, ?_, ?_, m, ?_, hb⟩, fun u q => ?_, fun p q => ?_⟩
  · rw [hs_ki h _ _ (by omega)]; exact b0
  · rw [hs_ki h _ _ (by omega)]; exact b1
  · rw [hs_ki h _ _ (by omega), upd_n _ _ (by omega)]; exact b2
  · rw [hs_ki h _ _ (by omega), upd_n _ _ (by omega)]; exact b3
  · rw [hs_ki h _ _ (by omega), upd_n _ _ (by omega)]; exact b4
  · rw [hs_kj]; exact hw
  · obtain ⟨x1, x2, x3, x4⟩ := c u q
    refine ⟨?_, ?_, ?_, ?_⟩
    · show hs h r 5 w (r + 1) u = upd e (9 + 5 * t) v (5 + 5 * u)
      rw [hs_q h _ _ (by omega), upd_n _ _ (by omega)]; exact x1
    · show hs h r 5 w (r + 2) u = upd e (9 + 5 * t) v (6 + 5 * u)
      rw [hs_q h _ _ (by omega), upd_n _ _ (by omega)]; exact x2
    · show hs h r 5 w (r + 3) u = upd e (9 + 5 * t) v (7 + 5 * u)
      rw [hs_q h _ _ (by omega), upd_n _ _ (by omega)]; exact x3
    · show hs h r 5 w (r + 4) u = upd e (9 + 5 * t) v (8 + 5 * u)
      rw [hs_q h _ _ (by omega), upd_n _ _ (by omega)]; exact x4
  · obtain ⟨x1, x2⟩ := d p q
    refine ⟨?_, ?_⟩
    · show hs h r 5 w (r + 5) p = upd e (9 + 5 * t) v (35 + 2 * p)
      rw [hs_q h _ _ (by omega), upd_n _ _ (by omega)]; exact x1
    · show hs h r 5 w (r + 6) p = upd e (9 + 5 * t) v (36 + 2 * p)
      rw [hs_q h _ _ (by omega), upd_n _ _ (by omega)]; exact x2
def dropR (e : Nat → Int32) (t : Nat) : Nat → Int32 := upd (upd e (9 + 5 * t) 0) (8 + 5 * t) 0
def mendR (e : Nat → Int32) (t : Nat) : Nat → Int32 := upd (upd e (9 + 5 * t) 1) (8 + 5 * t) 0
theorem xLetGo {e : Nat → Int32} {T P : Nat} {h : AH} {r t : Nat} (he : EstC e T P h r) (hT : T ≤ 6) (ht : t < T) : ∃ h', fX2_letGo r (nI t) h = some ((), h') ∧ EstC (dropR e t) T P h' r ∧ Fm r h h' := by
  have hr := he.1
  obtain ⟨m, hm, hb⟩ := he.2.1.2.2.2.2.2
  have h64 := hb.lt hT
  have e1 : EstC (upd e (9 + 5 * t) 0) T P (hs h r 5 (h r 5 &&& (((1 : Int32) <<< (nI t &&& 31)) ^^^ (-1 : Int32)))) r := by
    refine he.held hT ht (m := cb m t) (by rw [hm]; exact cb_at m h64 t (by omega)) ⟨Nat.lt_of_le_of_lt (cb_le m t) hb.1, fun j hj => ?_⟩
    rw [cb_bit m h64 t (by omega) j (by omega), hb.2 j hj]
    show _ = decide (upd e (9 + 5 * t) 0 (9 + 5 * j) = 1)
    by_cases q : j = t
    · subst q; rw [upd_s]; simp
    · rw [upd_n _ _ (by omega)]; simp [q]
  refine ⟨_, ?_, e1.fray hT ht 0, (Fm.hs r h 5 _ (by omega)).tr (Fm.hs r _ t 0 (by omega))⟩
  unfold fX2_letGo
  simp only [sto_d]
  rw [cE4 hr (by omega), nI_clamp (by omega)]
theorem xMend {e : Nat → Int32} {T P : Nat} {h : AH} {r t : Nat} (he : EstC e T P h r) (hT : T ≤ 6) (ht : t < T) : ∃ h', fX2_mendRope r (nI t) h = some ((), h') ∧ EstC (mendR e t) T P h' r ∧ Fm r h h' := by
  have hr := he.1
  obtain ⟨m, hm, hb⟩ := he.2.1.2.2.2.2.2
  have h64 := hb.lt hT
  have e1 : EstC (upd e (9 + 5 * t) 1) T P (hs h r 5 (h r 5 ||| ((1 : Int32) <<< (nI t &&& 31)))) r := by
    refine he.held hT ht (m := bs m t) (by rw [hm]; exact bs_at m h64 t (by omega)) ⟨bs_lt T (by omega) m h64 hb.1 t ht, fun j hj => ?_⟩
    rw [bs_bit m h64 t (by omega) j (by omega), hb.2 j hj]
    show _ = decide (upd e (9 + 5 * t) 1 (9 + 5 * j) = 1)
    by_cases q : j = t
    · subst q; rw [upd_s]; simp
    · rw [upd_n _ _ (by omega)]; simp [q]
  refine ⟨_, ?_, e1.fray hT ht 0, (Fm.hs r h 5 _ (by omega)).tr (Fm.hs r _ t 0 (by omega))⟩
  unfold fX2_mendRope
  simp only [sto_d]
  rw [cE4 hr (by omega), nI_clamp (by omega)]
