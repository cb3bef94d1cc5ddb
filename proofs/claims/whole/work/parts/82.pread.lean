/-! What a text without a fault tells is an estuary. -/
def G0 (e : Nat → Int32) (T P : Nat) : Prop := (T ≤ 6 ∧ P ≤ 4 ∧ e 2 = nI T ∧ e 3 = nI P) ∧ (∃ m, 1 ≤ m ∧ m ≤ 60 ∧ e 0 = nI m) ∧ (∃ o, o ≤ 99 ∧ e 1 = nI o) ∧ e 4 = 0 ∧
  (∀ t, t < T → (∃ k, 1 ≤ k ∧ k ≤ 5 ∧ kn e t = nI k) ∧ (∃ k, 1 ≤ k ∧ k ≤ 20 ∧ pl e t = nI k) ∧ (∃ k, 1 ≤ k ∧ k ≤ 20 ∧ rp e t = nI k) ∧ fr e t = 0 ∧ ho e t = 1) ∧
  (∀ p, p < P → (∃ k, k ≤ 98 ∧ pa e p = nI k) ∧ (∃ k, k ≤ 20 ∧ sd e p = nI k)) ∧ ∀ u, T ≤ u → u < 6 → e (8 + 5 * u) = 0
theorem G0.gd {e : Nat → Int32} {T P : Nat} (g : G0 e T P) (h : 1 ≤ T) : Gd e T P 9999 := by
  obtain ⟨⟨a, b, c, d⟩, m, o, q, t, p, -⟩ := g
  refine ⟨⟨h, a, b, c, d⟩, m, o, ⟨0, by omega, q⟩, fun u hu => ?_, p⟩
  obtain ⟨t1, t2, t3, t4, t5⟩ := t u hu
  exact ⟨t1, t2, t3, ⟨0, by omega, t4⟩, Or.inr t5⟩
theorem G0.tS {e : Nat → Int32} {t k v w : Nat} (g : G0 e t 0) (ht : t < 6) (hk : 1 ≤ k ∧ k ≤ 5) (hv : 1 ≤ v ∧ v ≤ 20) (hw : 1 ≤ w ∧ w ≤ 20) : G0 (addT e t k v w) (t + 1) 0 := by
  obtain ⟨⟨a, b, c, d⟩, m, o, q, s, p, z⟩ := g
  unfold addT
  refine ⟨⟨by omega, by omega, upd_s _ _ _, ?_⟩, ?_, ?_, ?_, fun u hu => ?_, fun u hu => absurd hu (by omega), fun u h1 h2 => ?_⟩
  · simp (disch := omega) only [upd_n]; exact d
  · simp (disch := omega) only [upd_n]; exact m
  · simp (disch := omega) only [upd_n]; exact o
  · simp (disch := omega) only [upd_n]; exact q
  · by_cases y : u = t
    · subst y
      refine ⟨⟨k, hk.1, hk.2, ?_⟩, ⟨v, hv.1, hv.2, ?_⟩, ⟨w, hw.1, hw.2, ?_⟩, ?_, ?_⟩
      · simp (disch := omega) only [kn, upd_n, upd_s]
      · simp (disch := omega) only [pl, upd_n, upd_s]
      · simp (disch := omega) only [rp, upd_n, upd_s]
      · simp (disch := omega) only [fr, upd_n]; exact z u (by omega) ht
      · simp (disch := omega) only [ho, upd_n, upd_s]
    · obtain ⟨s1, s2, s3, s4, s5⟩ := s u (by omega)
      refine ⟨?_, ?_, ?_, ?_, ?_⟩
      · simp (disch := omega) only [kn, upd_n]; exact s1
      · simp (disch := omega) only [pl, upd_n]; exact s2
      · simp (disch := omega) only [rp, upd_n]; exact s3
      · simp (disch := omega) only [fr, upd_n]; exact s4
      · simp (disch := omega) only [ho, upd_n]; exact s5
  · simp (disch := omega) only [upd_n]; exact z u (by omega) h2
theorem G0.pS {e : Nat → Int32} {T t v w : Nat} (g : G0 e T t) (ht : t < 4) (hv : v ≤ 98) (hw : w ≤ 20) : G0 (addP e t v w) T (t + 1) := by
  obtain ⟨⟨a, b, c, d⟩, m, o, q, s, p, z⟩ := g
  unfold addP
  refine ⟨⟨by omega, by omega, ?_, upd_s _ _ _⟩, ?_, ?_, ?_, fun u hu => ?_, fun u hu => ?_, fun u h1 h2 => ?_⟩
  · simp (disch := omega) only [upd_n]; exact c
  · simp (disch := omega) only [upd_n]; exact m
  · simp (disch := omega) only [upd_n]; exact o
  · simp (disch := omega) only [upd_n]; exact q
  · obtain ⟨s1, s2, s3, s4, s5⟩ := s u hu
    refine ⟨?_, ?_, ?_, ?_, ?_⟩
    · simp (disch := omega) only [kn, upd_n]; exact s1
    · simp (disch := omega) only [pl, upd_n]; exact s2
    · simp (disch := omega) only [rp, upd_n]; exact s3
    · simp (disch := omega) only [fr, upd_n]; exact s4
    · simp (disch := omega) only [ho, upd_n]; exact s5
  · by_cases y : u = t
    · subst y
      refine ⟨⟨v, hv, ?_⟩, ⟨w, hw, ?_⟩⟩
      · simp (disch := omega) only [pa, upd_n, upd_s]
      · simp (disch := omega) only [sd, upd_n, upd_s]
    · obtain ⟨p1, p2⟩ := p u (by omega)
      refine ⟨?_, ?_⟩
      · simp (disch := omega) only [pa, upd_n]; exact p1
      · simp (disch := omega) only [sd, upd_n]; exact p2
  · simp (disch := omega) only [upd_n]; exact z u h1 h2
theorem rTs_G {n : Nat} {bb : Nat → Nat} : ∀ m t p e T q e', t + m = 6 → G0 e t 0 → rTs n bb m p e = .inr (T, q, e') → G0 e' T 0 := by
  intro m
  induction m with
  | zero =>
    intro t p e T q e' ht g h
    unfold rTs at h
    have ht : t = 6 := by omega
    subst ht
    by_cases a : p < n ∧ kdN (bb p) ≠ 0
    · rw [if_pos a] at h; cases h
    · rw [if_neg a] at h; cases h; exact g
  | succ m ih =>
    intro t p e T q e' ht g h
    have et : 5 - m = t := by omega
    unfold rTs at h
    rw [et] at h
    by_cases a : p < n ∧ kdN (bb p) ≠ 0
    · rw [if_pos a] at h
      cases r : rP n bb 1 20 (p + 1) with
      | inl s => rw [r] at h; simp only [sbd] at h; cases h
      | inr s =>
        obtain ⟨v, w, q2⟩ := s
        have g1 := rP_le r
        rw [r] at h; simp only [sbd] at h
        exact ih (t + 1) q2 _ _ _ _ (by omega) (g.tS (by omega) ⟨by have := a.2; omega, kdN_le _⟩ g1.2.1 g1.2.2) h
    · rw [if_neg a] at h; cases h; exact g
theorem rQs_G {n T : Nat} {bb : Nat → Nat} : ∀ m t p e P q e', t + m = 4 → G0 e T t → rQs n bb m p e = .inr (P, q, e') → G0 e' T P := by
  intro m
  induction m with
  | zero =>
    intro t p e P q e' ht g h
    unfold rQs at h
    have ht : t = 4 := by omega
    subst ht
    by_cases a : p < n ∧ bb p = 113
    · rw [if_pos a] at h; cases h
    · rw [if_neg a] at h; cases h; exact g
  | succ m ih =>
    intro t p e P q e' ht g h
    have et : 3 - m = t := by omega
    unfold rQs at h
    rw [et] at h
    by_cases a : p < n ∧ bb p = 113
    · rw [if_pos a] at h
      cases r : rP n bb 0 98 (p + 1) with
      | inl s => rw [r] at h; simp only [sbd] at h; cases h
      | inr s =>
        obtain ⟨v, w, q2⟩ := s
        have g1 := rP_le r
        rw [r] at h; simp only [sbd] at h
        exact ih (t + 1) q2 _ _ _ _ (by omega) (g.pS (by omega) g1.2.1.2 g1.2.2.2) h
    · rw [if_neg a] at h; cases h; exact g
theorem rL_le {n v w q : Nat} {bb : Nat → Nat} (h : rL n bb = .inr (v, w, q)) : q ≤ n ∧ (1 ≤ v ∧ v ≤ 60) ∧ 1 ≤ w ∧ w ≤ 99 := by
  unfold rL at h
  cases r0 : rS n bb 116 0 with
  | inl a => rw [r0] at h; simp only [sbd] at h; cases h
  | inr p =>
  rw [r0] at h; simp only [sbd] at h
  cases r1 : rN n bb 1 60 p with
  | inl a => rw [r1] at h; simp only [] at h; cases h
  | inr a =>
    rw [r1] at h; simp only [] at h
    have g1 := rN_le r1
    cases r2 : rF n bb 1 99 a.2 with
    | inl b => rw [r2] at h; simp only [] at h; cases h
    | inr b =>
      rw [r2] at h; simp only [] at h
      have g2 := rF_le r2
      cases r3 : rS n bb 59 b.2 with
      | inl c => rw [r3] at h; simp only [] at h; cases h
      | inr c =>
        rw [r3] at h; simp only [] at h
        have g3 := rS_le r3
        cases h
        exact ⟨g3.1, ⟨g1.2.1, g1.2.2.1⟩, g2.2⟩
theorem G0_law {e : Nat → Int32} {v w : Nat} (z : ∀ j, j < 43 → e j = 0) (hv : 1 ≤ v ∧ v ≤ 60) (hw : 1 ≤ w ∧ w ≤ 99) : G0 (upd (upd e 0 (nI v)) 1 (nI w)) 0 0 := by
  refine ⟨⟨by omega, by omega, ?_, ?_⟩, ⟨v, hv.1, hv.2, ?_⟩, ⟨w, hw.2, upd_s _ _ _⟩, ?_, fun u hu => absurd hu (by omega), fun u hu => absurd hu (by omega), fun u h1 h2 => ?_⟩
  · simp (disch := omega) only [upd_n]; exact z 2 (by omega)
  · simp (disch := omega) only [upd_n]; exact z 3 (by omega)
  · simp (disch := omega) only [upd_n, upd_s]
  · simp (disch := omega) only [upd_n]; exact z 4 (by omega)
  · simp (disch := omega) only [upd_n]; exact z _ (by omega)
theorem rAll_G {n T P : Nat} {bb : Nat → Nat} {e e' : Nat → Int32} (z : ∀ j, j < 43 → e j = 0) (h : rAll n bb e = .inr (T, P, e')) : Gd e' T P 9999 := by
  unfold rAll at h
  cases r1 : rL n bb with
  | inl a => rw [r1] at h; simp only [sbd] at h; cases h
  | inr a =>
    obtain ⟨v, w, q⟩ := a
    rw [r1] at h; simp only [sbd] at h
    have g1 := rL_le r1
    have s1 := G0_law z g1.2.1 g1.2.2
    cases r2 : rTs n bb 6 q (upd (upd e 0 (nI v)) 1 (nI w)) with
    | inl b => rw [r2] at h; simp only [] at h; cases h
    | inr b =>
      obtain ⟨T2, q2, e2⟩ := b
      rw [r2] at h; simp only [] at h
      have s2 := rTs_G 6 0 _ _ _ _ _ (by omega) s1 r2
      by_cases y : T2 = 0
      · rw [if_pos y] at h; cases h
      · rw [if_neg y] at h
        cases r3 : rQs n bb 4 q2 e2 with
        | inl c => rw [r3] at h; simp only [] at h; cases h
        | inr c =>
          obtain ⟨P2, q3, e3⟩ := c
          rw [r3] at h; simp only [] at h
          have s3 := rQs_G 4 0 _ _ _ _ _ (by omega) s2 r3
          by_cases x : q3 = n
          · rw [if_pos x] at h; cases h; exact s3.gd (by omega)
          · rw [if_neg x] at h; cases h
