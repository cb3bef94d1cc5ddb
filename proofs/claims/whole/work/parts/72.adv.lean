theorem adv_one {h : AH} {p : Nat} {c : Int32} (hc : ¬ c = 0) (e9 : h 278 9 = nI p) : (sto (hs h 278 11 c) fun h12 => (if (h12 278 11) = 0 then (sto (hs h12 278 9 ((h12 278 9) + 0)) fun h13 => (some ((), h13))) else (sto (hs h12 278 9 ((h12 278 9) + 1)) fun h14 => (some ((), h14))))) = some ((), hs (hs h 278 11 c) 278 9 (nI (p + 1))) := by
  rw [sto_e, hs_kj, if_neg hc, sto_e, hs_ki _ _ _ (by decide), e9, nI_1]
theorem mAdv {h : AH} {n p : Nat} {bb : Nat → Nat} (b : MB h n bb) (hp : p ≤ n) (e9 : h 278 9 = nI p) : ∃ h', fX6_advances h = some ((), h') ∧ MT h' n bb p ∧ Tf h h' := by
  have hn := b.1
  have hbb : ∀ i, i < n → bb i ≤ 255 := fun i hi => (b.2.2 i hi).1
  unfold fX6_advances
  have b1 : MB (hs h 278 10 (nI p)) n bb := b.tf (Tf.hs h _ (by omega))
  rw [e9, sto_e, hs_ki _ _ _ (show (9 : Nat) ≠ 10 by decide), e9, mByte b1 (by omega), bnd_e, sto_e, mFig hbb, bnd_e]
  have t2 : Tf h (hs (hs h 278 10 (nI p)) 278 12 (btI n bb p)) := (Tf.hs h _ (by omega)).tr (Tf.hs _ _ (by omega))
  have e92 : hs (hs h 278 10 (nI p)) 278 12 (btI n bb p) 278 9 = nI p := by rw [hs_ki _ _ _ (by decide), hs_ki _ _ _ (by decide), e9]
  have e102 : hs (hs h 278 10 (nI p)) 278 12 (btI n bb p) 278 10 = nI p := by rw [hs_ki _ _ _ (by decide), hs_kj]
  have e122 : hs (hs h 278 10 (nI p)) 278 12 (btI n bb p) 278 12 = btI n bb p := hs_kj _ _ _ _
  revert t2 e92 e102 e122
  generalize hs (hs h 278 10 (nI p)) 278 12 (btI n bb p) = g
  intro t2 e92 e102 e122
  cases d0 : isd n bb p with
  | false =>
    rw [if_neg (show ¬ (false = true) by decide), if0]
    by_cases z : p < n
    · have bt : btI n bb p = nI (bb p) := by unfold btI; rw [if_pos z]
      have o := ofl (bb p) (hbb p z)
      rw [bt, if_neg (n0_lt _ (by have := hbb p z; omega))]
      rw [bt] at e122
      have one : ∀ c : Int32, ¬ c = 0 → tkF n bb p = c → MT (hs (hs g 278 11 c) 278 9 (nI (p + 1))) n bb p ∧ Tf h (hs (hs g 278 11 c) 278 9 (nI (p + 1))) := by
        intro c hc tk
        have tf : Tf h (hs (hs g 278 11 c) 278 9 (nI (p + 1))) := (t2.tr (Tf.hs g _ (by omega))).tr (Tf.hs _ _ (by omega))
        refine ⟨⟨b.tf tf, hp, ?_, ?_, fun _ _ => ⟨?_, hs_kj _ _ _ _⟩, fun w => absurd w (by rw [d0]; decide), fun w => absurd w (by rw [d0]; decide)⟩, tf⟩
        · rw [hs_ki _ _ _ (by decide), hs_ki _ _ _ (by decide)]; exact e102
        · rw [hs_ki _ _ _ (by decide), hs_kj, tk]
        · rw [hs_ki _ _ _ (by decide), hs_ki _ _ _ (by decide)]; exact e122
      have tk : tkF n bb p = if 97 ≤ bb p ∧ bb p ≤ 122 then 1 else if bb p = 44 then 3 else if bb p = 59 then 4 else 5 := by
        unfold tkF
        rw [d0, if_neg (show ¬ (false = true) by decide), if_pos z]
      by_cases l : 97 ≤ bb p ∧ bb p ≤ 122
      · rw [mIn_i g (fun w => (o.1.mp (Or.inl w)) l) (fun w => (o.1.mp (Or.inr w)) l), bnd_e, if1, adv_one (by decide) e92]
        exact ⟨_, rfl, one 1 (by decide) (by rw [tk, if_pos l])⟩
      · have nin : fX6_in (nI (bb p)) 97 122 g = some (0, g) := by
          rcases o.1.mpr l with w | w
          · exact mIn_l g w
          · by_cases v : nI (bb p) < 97
            · exact mIn_l g v
            · exact mIn_u g v w
        rw [nin, bnd_e, if0]
        by_cases c44 : bb p = 44
        · rw [if_pos (o.2.1.mpr c44), adv_one (by decide) e92]
          exact ⟨_, rfl, one 3 (by decide) (by rw [tk, if_neg l, if_pos c44])⟩
        · rw [if_neg (fun w => c44 (o.2.1.mp w))]
          by_cases c59 : bb p = 59
          · rw [if_pos (o.2.2.mpr c59), adv_one (by decide) e92]
            exact ⟨_, rfl, one 4 (by decide) (by rw [tk, if_neg l, if_neg c44, if_pos c59])⟩
          · rw [if_neg (fun w => c59 (o.2.2.mp w)), adv_one (by decide) e92]
            exact ⟨_, rfl, one 5 (by decide) (by rw [tk, if_neg l, if_neg c44, if_neg c59])⟩
    · have bt : btI n bb p = -1 := by unfold btI; rw [if_neg z]
      rw [bt, if_pos (show (-1 : Int32) < 0 by decide), sto_e, hs_kj, if0, sto_e, hs_ki _ _ _ (by decide), e92, add0]
      have tf : Tf h (hs (hs g 278 11 0) 278 9 (nI p)) := (t2.tr (Tf.hs g _ (by omega))).tr (Tf.hs _ _ (by omega))
      refine ⟨_, rfl, ⟨b.tf tf, hp, ?_, ?_, fun _ w => absurd w z, fun w => absurd w (by rw [d0]; decide), fun w => absurd w (by rw [d0]; decide)⟩, tf⟩
      · rw [hs_ki _ _ _ (by decide), hs_ki _ _ _ (by decide)]; exact e102
      · rw [hs_ki _ _ _ (by decide), hs_kj]
        unfold tkF
        rw [d0, if_neg (show ¬ (false = true) by decide), if_neg z]
  | true =>
    have g0 := isd_lt d0
    rw [if_pos (show true = true from rfl), if1, sto_e, show FU = 1997 + 1 + 1 + 1 from rfl]
    have t3 : Tf h (hs g 278 12 0) := t2.tr (Tf.hs g _ (by omega))
    have e93 : hs g 278 12 0 278 9 = nI p := by rw [hs_ki _ _ _ (by decide), e92]
    have e103 : hs g 278 12 0 278 10 = nI p := by rw [hs_ki _ _ _ (by decide), e102]
    rw [adv_step (b.tf t3) e93 e103 (Nat.le_refl p) (by omega) d0, if_pos (by omega), hs_kj, show (10 : Int32) * 0 = 0 * 10 by decide, d1_at g0.2.1 g0.2.2]
    have t4 : Tf h (hs (hs (hs g 278 12 0) 278 12 (nI (bb p - 48))) 278 9 (nI (p + 1))) := (t3.tr (Tf.hs _ _ (by omega))).tr (Tf.hs _ _ (by omega))
    have e94 : hs (hs (hs g 278 12 0) 278 12 (nI (bb p - 48))) 278 9 (nI (p + 1)) 278 9 = nI (p + 1) := hs_kj _ _ _ _
    have e104 : hs (hs (hs g 278 12 0) 278 12 (nI (bb p - 48))) 278 9 (nI (p + 1)) 278 10 = nI p := by rw [hs_ki _ _ _ (by decide), hs_ki _ _ _ (by decide)]; exact e103
    have e124 : hs (hs (hs g 278 12 0) 278 12 (nI (bb p - 48))) 278 9 (nI (p + 1)) 278 12 = nI (bb p - 48) := by rw [hs_ki _ _ _ (by decide), hs_kj]
    revert t4 e94 e104 e124
    generalize hs (hs (hs g 278 12 0) 278 12 (nI (bb p - 48))) 278 9 (nI (p + 1)) = u
    intro t4 e94 e104 e124
    cases d1 : isd n bb (p + 1) with
    | false =>
      rw [adv_stop (b.tf t4) e94 (by omega) d1, e94, e104, pk_sub (by omega), if_pos (show nI (p + 1 - p) < 3 from nI_lt (b := 3) (by omega) (by omega)), sto_e]
      have tf : Tf h (hs u 278 11 2) := t4.tr (Tf.hs u _ (by omega))
      refine ⟨_, rfl, ⟨b.tf tf, hp, ?_, ?_, fun w => absurd w (by rw [d0]; decide), fun _ _ => ⟨?_, ?_⟩, fun _ w => absurd w (by rw [d1]; decide)⟩, tf⟩
      · rw [hs_ki _ _ _ (by decide)]; exact e104
      · rw [hs_kj]; unfold tkF; rw [d0, d1, if_pos (show true = true from rfl)]; rfl
      · rw [hs_ki _ _ _ (by decide)]; exact e124
      · rw [hs_ki _ _ _ (by decide)]; exact e94
    | true =>
      have g1 := isd_lt d1
      rw [adv_step (b.tf t4) e94 e104 (by omega) (by omega) d1, if_pos (by omega), e124, show (10 : Int32) * nI (bb p - 48) = nI (bb p - 48) * 10 from Int32.mul_comm _ _, d2_at g1.2.1]
      have t5 : Tf h (hs (hs u 278 12 (nI (10 * (bb p - 48) + (bb (p + 1) - 48)))) 278 9 (nI (p + 1 + 1))) := (t4.tr (Tf.hs _ _ (by omega))).tr (Tf.hs _ _ (by omega))
      have e95 : hs (hs u 278 12 (nI (10 * (bb p - 48) + (bb (p + 1) - 48)))) 278 9 (nI (p + 1 + 1)) 278 9 = nI (p + 2) := hs_kj _ _ _ _
      have e105 : hs (hs u 278 12 (nI (10 * (bb p - 48) + (bb (p + 1) - 48)))) 278 9 (nI (p + 1 + 1)) 278 10 = nI p := by rw [hs_ki _ _ _ (by decide), hs_ki _ _ _ (by decide)]; exact e104
      have e125 : hs (hs u 278 12 (nI (10 * (bb p - 48) + (bb (p + 1) - 48)))) 278 9 (nI (p + 1 + 1)) 278 12 = nI (10 * (bb p - 48) + (bb (p + 1) - 48)) := by rw [hs_ki _ _ _ (by decide), hs_kj]
      revert t5 e95 e105 e125
      generalize hs (hs u 278 12 (nI (10 * (bb p - 48) + (bb (p + 1) - 48)))) 278 9 (nI (p + 1 + 1)) = w
      intro t5 e95 e105 e125
      cases d2 : isd n bb (p + 2) with
      | false =>
        rw [adv_stop (b.tf t5) e95 (by omega) d2, e95, e105, pk_sub (by omega), if_pos (show nI (p + 2 - p) < 3 from nI_lt (b := 3) (by omega) (by omega)), sto_e]
        have tf : Tf h (hs w 278 11 2) := t5.tr (Tf.hs w _ (by omega))
        refine ⟨_, rfl, ⟨b.tf tf, hp, ?_, ?_, fun z => absurd z (by rw [d0]; decide), fun _ z => absurd z (by rw [d1]; decide), fun _ _ _ => ⟨?_, ?_⟩⟩, tf⟩
        · rw [hs_ki _ _ _ (by decide)]; exact e105
        · rw [hs_kj]; unfold tkF; rw [d0, d1, d2, if_pos (show true = true from rfl)]; rfl
        · rw [hs_ki _ _ _ (by decide)]; exact e125
        · rw [hs_ki _ _ _ (by decide)]; exact e95
      | true =>
        have g2 := isd_lt d2
        rw [adv_step (b.tf t5) e95 e105 (by omega) (by omega) d2, if_neg (by omega)]
        have t6 : Tf h (hs (hs w 278 12 (w 278 12)) 278 9 (nI (p + 2 + 1))) := (t5.tr (Tf.hs _ _ (by omega))).tr (Tf.hs _ _ (by omega))
        obtain ⟨h', q', r1, r2, r3, r4, r5, r6⟩ := adv_tail (n := n) (p := p) (bb := bb) (v3 := btI n bb p) (k := fun h25 => (if ((h25 278 9) - (h25 278 10)) < 3 then (sto (hs h25 278 11 2) fun h26 => (some ((), h26))) else (sto (hs h25 278 11 5) fun h27 => (some ((), h27))))) n (p + 2 + 1) 1997 _ (by omega) (by omega) (b.tf t6) (hs_kj _ _ _ _) (by rw [hs_ki _ _ _ (by decide), hs_ki _ _ _ (by decide)]; exact e105) (by omega) (by omega)
        rw [r1, r4, r5, pk_sub (by omega), if_neg (show ¬ nI (q' - p) < 3 from nI_nlt (b := 3) (by omega) (by omega)), sto_e]
        have tf : Tf h (hs h' 278 11 5) := (t6.tr r6).tr (Tf.hs h' _ (by omega))
        refine ⟨_, rfl, ⟨b.tf tf, hp, ?_, ?_, fun z => absurd z (by rw [d0]; decide), fun _ z => absurd z (by rw [d1]; decide), fun _ _ z => absurd z (by rw [d2]; decide)⟩, tf⟩
        · rw [hs_ki _ _ _ (by decide)]; exact r5
        · rw [hs_kj]; unfold tkF; rw [d0, d1, d2, if_pos (show true = true from rfl)]; rfl
