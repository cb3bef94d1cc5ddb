/-! The loop of the law. -/
def Gt (t : Option (Unit × AH)) : Prop := ∃ h', t = some ((), h')
theorem selG {c : Prop} {inst : Decidable c} {A B : Option (Unit × AH)} (ha : Gt A) (hb : Gt B) : Gt (@ite _ c inst A B) := by
  by_cases z : c
  · rw [if_pos z]; exact ha
  · rw [if_neg z]; exact hb
theorem chkG {c : Prop} {inst : Decidable c} {A : Option (Unit × AH)} (hc : c) (ha : Gt A) : Gt (@chk _ c inst A) := by
  rw [chk_p hc]; exact ha
theorem bndG {o : Option (Int32 × AH)} {g : Int32 → AH → Option (Unit × AH)} {v : Int32} {h1 : AH} (e : o = some (v, h1)) (hg : Gt (g v h1)) : Gt (bnd o g) := by
  rw [e, bnd_e]; exact hg
theorem eqG {v : Int32} {A B : Option (Unit × AH)} (ha : Gt A) : Gt (if v = v then A else B) := by
  rw [if_pos rfl]; exact ha
theorem law_go (L : Nat) (xs : Nat → Int32) (hL : L ≤ 3072) : ∀ f i h, Inv h → i ≤ L + 5 → L + 6 ≤ i + 6 * f → Gt (fL_law_L18 L xs f (nI i) h fun _ h2 => some ((), h2)) := by
  intro f
  induction f with
  | zero => intro i h iv h1 h2; omega
  | succ f ih =>
    intro i h iv h1 h2
    unfold fL_law_L18
    have e6 : (nI L - nI 6).toInt = (L : Int) - 6 := pk_sub_toInt (by omega) (by omega)
    by_cases z : L < i + 6
    · rw [if_pos (show Int32.ofNat L - 6 < nI i from (show nI L - nI 6 < nI i by rw [Int32.lt_iff_toInt_lt, e6, nI_toInt (by omega)]; omega))]
      exact ⟨h, rfl⟩
    rw [if_neg (show ¬ Int32.ofNat L - 6 < nI i from (show ¬ nI L - nI 6 < nI i by rw [Int32.lt_iff_toInt_lt, e6, nI_toInt (by omega)]; omega))]
    have k0 : inb (nI i) L := inb_n (by omega) (by omega)
    have k1 : inb (nI i + (1 : Int32)) L := by rw [show nI i + (1 : Int32) = nI (i + 1) from nI_add i 1]; exact inb_n (by omega) (by omega)
    have k2 : inb (nI i + (2 : Int32)) L := by rw [show nI i + (2 : Int32) = nI (i + 2) from nI_add i 2]; exact inb_n (by omega) (by omega)
    have k3 : inb (nI i + (3 : Int32)) L := by rw [show nI i + (3 : Int32) = nI (i + 3) from nI_add i 3]; exact inb_n (by omega) (by omega)
    have k4 : inb (nI i + (4 : Int32)) L := by rw [show nI i + (4 : Int32) = nI (i + 4) from nI_add i 4]; exact inb_n (by omega) (by omega)
    have k5 : inb (nI i + (5 : Int32)) L := by rw [show nI i + (5 : Int32) = nI (i + 5) from nI_add i 5]; exact inb_n (by omega) (by omega)
    have nx : ∀ h2, Inv h2 → Gt (vl (nI i + (6 : Int32)) fun z => fL_law_L18 L xs f z h2 fun _ h2 => some ((), h2)) := by
      intro h2 iv2
      rw [vl_e, show nI i + (6 : Int32) = nI (i + 6) from nI_add i 6]
      exact ih (i + 6) h2 iv2 (by omega) (by omega)
    refine chkG k0 ?_
    refine selG ?_ ?_
    · obtain ⟨v, h1, h2, e1, e2, iv2⟩ := both_row iv (xs (Int32.toNatClampNeg (nI i + (1 : Int32)))) (xs (Int32.toNatClampNeg (nI i + (2 : Int32)))) (xs (Int32.toNatClampNeg (nI i + (3 : Int32))))
      exact chkG k1 (chkG k2 (chkG k3 (bndG e1 (chkG k1 (chkG k2 (chkG k3 (bndG e2 (eqG (nx h2 iv2)))))))))
    refine selG ?_ ?_
    · obtain ⟨v, h1, h2, e1, e2, iv2⟩ := both_set iv (xs (Int32.toNatClampNeg (nI i + (1 : Int32)))) (xs (Int32.toNatClampNeg (nI i + (2 : Int32)))) (xs (Int32.toNatClampNeg (nI i + (3 : Int32))))
      exact chkG k1 (chkG k2 (chkG k3 (bndG e1 (chkG k1 (chkG k2 (chkG k3 (bndG e2 (eqG (nx h2 iv2)))))))))
    refine selG ?_ ?_
    · obtain ⟨v, h1, h2, e1, e2, iv2⟩ := both_copy iv (xs (Int32.toNatClampNeg (nI i + (1 : Int32)))) (xs (Int32.toNatClampNeg (nI i + (2 : Int32)))) (xs (Int32.toNatClampNeg (nI i + (3 : Int32)))) (xs (Int32.toNatClampNeg (nI i + (4 : Int32)))) (xs (Int32.toNatClampNeg (nI i + (5 : Int32))))
      exact chkG k1 (chkG k2 (chkG k3 (chkG k4 (chkG k5 (bndG e1 (chkG k1 (chkG k2 (chkG k3 (chkG k4 (chkG k5 (bndG e2 (eqG (nx h2 iv2)))))))))))))
    refine selG ?_ ?_
    · obtain ⟨v, h1, h2, e1, e2, iv2⟩ := both_drop iv (xs (Int32.toNatClampNeg (nI i + (1 : Int32))))
      exact chkG k1 (bndG e1 (chkG k1 (bndG e2 (eqG (nx h2 iv2)))))
    refine selG ?_ ?_
    · obtain ⟨v, h1, h2, e1, e2, iv2⟩ := both_feed iv (xs (Int32.toNatClampNeg (nI i + (1 : Int32))))
      exact chkG k1 (bndG e1 (chkG k1 (bndG e2 (eqG (nx h2 iv2)))))
    refine selG ?_ ?_
    · obtain ⟨v, h1, h2, e1, e2, iv2⟩ := both_estuary iv
      exact bndG e1 (bndG e2 (eqG (nx h2 iv2)))
    refine selG ?_ ?_
    · obtain ⟨v, h1, h2, e1, e2, iv2⟩ := both_fault iv
      exact bndG e1 (bndG e2 (eqG (nx h2 iv2)))
    refine selG ?_ ?_
    · obtain ⟨v, h1, h2, e1, e2, iv2⟩ := both_hours iv (xs (Int32.toNatClampNeg (nI i + (1 : Int32))))
      exact chkG k1 (bndG e1 (chkG k1 (bndG e2 (eqG (nx h2 iv2)))))
    refine selG ?_ ?_
    · obtain ⟨v, h1, h2, e1, e2, iv2⟩ := both_mend iv (xs (Int32.toNatClampNeg (nI i + (1 : Int32))))
      exact chkG k1 (bndG e1 (chkG k1 (bndG e2 (eqG (nx h2 iv2)))))
    refine selG ?_ ?_
    · obtain ⟨v, h1, h2, e1, e2, iv2⟩ := both_loose iv (xs (Int32.toNatClampNeg (nI i + (1 : Int32))))
      exact chkG k1 (bndG e1 (chkG k1 (bndG e2 (eqG (nx h2 iv2)))))
    refine selG ?_ ?_
    · obtain ⟨v, h1, h2, e1, e2, iv2⟩ := both_pull iv (xs (Int32.toNatClampNeg (nI i + (1 : Int32)))) (xs (Int32.toNatClampNeg (nI i + (2 : Int32))))
      exact chkG k1 (chkG k2 (bndG e1 (chkG k1 (chkG k2 (bndG e2 (eqG (nx h2 iv2)))))))
    refine selG ?_ ?_
    · obtain ⟨v, h1, h2, e1, e2, iv2⟩ := both_clear iv (xs (Int32.toNatClampNeg (nI i + (1 : Int32))))
      exact chkG k1 (bndG e1 (chkG k1 (bndG e2 (eqG (nx h2 iv2)))))
    refine selG ?_ ?_
    · obtain ⟨v, h1, h2, e1, e2, iv2⟩ := both_undo iv
      exact bndG e1 (bndG e2 (eqG (nx h2 iv2)))
    refine selG ?_ ?_
    · obtain ⟨v, h1, h2, e1, e2, iv2⟩ := both_tug iv (xs (Int32.toNatClampNeg (nI i + (1 : Int32)))) (xs (Int32.toNatClampNeg (nI i + (2 : Int32))))
      exact chkG k1 (chkG k2 (bndG e1 (chkG k1 (chkG k2 (bndG e2 (eqG (nx h2 iv2)))))))
    refine selG ?_ ?_
    · obtain ⟨v, h1, h2, e1, e2, iv2⟩ := both_pier iv (xs (Int32.toNatClampNeg (nI i + (1 : Int32)))) (xs (Int32.toNatClampNeg (nI i + (2 : Int32))))
      exact chkG k1 (chkG k2 (bndG e1 (chkG k1 (chkG k2 (bndG e2 (eqG (nx h2 iv2)))))))
    refine selG ?_ ?_
    · obtain ⟨v, h1, h2, e1, e2, iv2⟩ := both_later iv (xs (Int32.toNatClampNeg (nI i + (1 : Int32)))) (xs (Int32.toNatClampNeg (nI i + (2 : Int32))))
      exact chkG k1 (chkG k2 (bndG e1 (chkG k1 (chkG k2 (bndG e2 (eqG (nx h2 iv2)))))))
    refine selG ?_ ?_
    · obtain ⟨v, h1, h2, e1, e2, iv2⟩ := both_arrives iv
      exact bndG e1 (bndG e2 (eqG (nx h2 iv2)))
    refine selG ?_ ?_
    · obtain ⟨v, h1, h2, e1, e2, iv2⟩ := both_parts iv (xs (Int32.toNatClampNeg (nI i + (1 : Int32))))
      exact chkG k1 (bndG e1 (chkG k1 (bndG e2 (eqG (nx h2 iv2)))))
    refine selG ?_ ?_
    · obtain ⟨v, h1, h2, e1, e2, iv2⟩ := both_crew iv (xs (Int32.toNatClampNeg (nI i + (1 : Int32)))) (xs (Int32.toNatClampNeg (nI i + (2 : Int32))))
      exact chkG k1 (chkG k2 (bndG e1 (chkG k1 (chkG k2 (bndG e2 (eqG (nx h2 iv2)))))))
    refine selG ?_ ?_
    · obtain ⟨v, h1, h2, e1, e2, iv2⟩ := both_cleared iv (xs (Int32.toNatClampNeg (nI i + (1 : Int32)))) (xs (Int32.toNatClampNeg (nI i + (2 : Int32))))
      exact chkG k1 (chkG k2 (bndG e1 (chkG k1 (chkG k2 (bndG e2 (eqG (nx h2 iv2)))))))
    refine selG ?_ ?_
    · obtain ⟨v, h1, h2, e1, e2, iv2⟩ := both_least iv (xs (Int32.toNatClampNeg (nI i + (1 : Int32)))) (xs (Int32.toNatClampNeg (nI i + (2 : Int32))))
      exact chkG k1 (chkG k2 (bndG e1 (chkG k1 (chkG k2 (bndG e2 (eqG (nx h2 iv2)))))))
    refine selG ?_ ?_
    · obtain ⟨v, h1, h2, e1, e2, iv2⟩ := both_share iv (xs (Int32.toNatClampNeg (nI i + (1 : Int32)))) (xs (Int32.toNatClampNeg (nI i + (2 : Int32))))
      exact chkG k1 (chkG k2 (bndG e1 (chkG k1 (chkG k2 (bndG e2 (eqG (nx h2 iv2)))))))
    refine selG ?_ ?_
    · obtain ⟨v, h1, h2, e1, e2, iv2⟩ := both_fits iv (xs (Int32.toNatClampNeg (nI i + (1 : Int32)))) (xs (Int32.toNatClampNeg (nI i + (2 : Int32)))) (xs (Int32.toNatClampNeg (nI i + (3 : Int32)))) (xs (Int32.toNatClampNeg (nI i + (4 : Int32)))) (xs (Int32.toNatClampNeg (nI i + (5 : Int32))))
      exact chkG k1 (chkG k2 (chkG k3 (chkG k4 (chkG k5 (bndG e1 (chkG k1 (chkG k2 (chkG k3 (chkG k4 (chkG k5 (bndG e2 (eqG (nx h2 iv2)))))))))))))
    refine selG ?_ ?_
    · obtain ⟨v, h1, h2, e1, e2, iv2⟩ := both_chance iv (xs (Int32.toNatClampNeg (nI i + (1 : Int32)))) (xs (Int32.toNatClampNeg (nI i + (2 : Int32)))) (xs (Int32.toNatClampNeg (nI i + (3 : Int32))))
      exact chkG k1 (chkG k2 (chkG k3 (bndG e1 (chkG k1 (chkG k2 (chkG k3 (bndG e2 (eqG (nx h2 iv2)))))))))
    refine selG ?_ ?_
    · obtain ⟨v, h1, h2, e1, e2, iv2⟩ := both_drawn iv (xs (Int32.toNatClampNeg (nI i + (1 : Int32)))) (xs (Int32.toNatClampNeg (nI i + (2 : Int32)))) (xs (Int32.toNatClampNeg (nI i + (3 : Int32))))
      exact chkG k1 (chkG k2 (chkG k3 (bndG e1 (chkG k1 (chkG k2 (chkG k3 (bndG e2 (eqG (nx h2 iv2)))))))))
    refine selG ?_ ?_
    · obtain ⟨v, h1, h2, e1, e2, iv2⟩ := both_image iv (xs (Int32.toNatClampNeg (nI i + (1 : Int32))))
      exact chkG k1 (bndG e1 (chkG k1 (bndG e2 (eqG (nx h2 iv2)))))
    refine selG ?_ ?_
    · obtain ⟨v, h1, h2, e1, e2, iv2⟩ := both_restore iv (xs (Int32.toNatClampNeg (nI i + (1 : Int32))))
      exact chkG k1 (bndG e1 (chkG k1 (bndG e2 (eqG (nx h2 iv2)))))
    refine selG ?_ ?_
    · obtain ⟨v, h1, h2, e1, e2, iv2⟩ := both_kind iv (xs (Int32.toNatClampNeg (nI i + (1 : Int32))))
      exact chkG k1 (bndG e1 (chkG k1 (bndG e2 (eqG (nx h2 iv2)))))
    refine selG ?_ ?_
    · obtain ⟨v, h1, h2, e1, e2, iv2⟩ := both_as iv (xs (Int32.toNatClampNeg (nI i + (1 : Int32)))) (xs (Int32.toNatClampNeg (nI i + (2 : Int32))))
      exact chkG k1 (chkG k2 (bndG e1 (chkG k1 (chkG k2 (bndG e2 (eqG (nx h2 iv2)))))))
    refine selG ?_ ?_
    · obtain ⟨v, h1, h2, e1, e2, iv2⟩ := both_ask iv (xs (Int32.toNatClampNeg (nI i + (1 : Int32)))) (xs (Int32.toNatClampNeg (nI i + (2 : Int32))))
      exact chkG k1 (chkG k2 (bndG e1 (chkG k1 (chkG k2 (bndG e2 (eqG (nx h2 iv2)))))))
    refine selG ?_ ?_
    · obtain ⟨v, h1, h2, e1, e2, iv2⟩ := both_trace iv (xs (Int32.toNatClampNeg (nI i + (1 : Int32))))
      exact chkG k1 (bndG e1 (chkG k1 (bndG e2 (eqG (nx h2 iv2)))))
    refine selG ?_ ?_
    · obtain ⟨v, h1, h2, e1, e2, iv2⟩ := both_count iv (xs (Int32.toNatClampNeg (nI i + (1 : Int32))))
      exact chkG k1 (bndG e1 (chkG k1 (bndG e2 (eqG (nx h2 iv2)))))
    refine selG ?_ ?_
    · obtain ⟨v, h1, h2, e1, e2, iv2⟩ := both_status iv
      exact bndG e1 (bndG e2 (eqG (nx h2 iv2)))
    exact nx h iv
theorem law_pure (L : Nat) (xs : Nat → Int32) (hL : L ≤ 3072) : ∃ h', fL_law L xs h0 = some ((), h') := by
  unfold fL_law
  exact law_go L xs hL FU 0 h0 Inv_0 (by omega) (by have := FU_big; omega)
