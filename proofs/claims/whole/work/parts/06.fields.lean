theorem inXg0 : ∀ w ∈ u_ws RX0 TX0 3, w ∈ lw_g := fun w hw => lw_in (inX0 w hw) (List.all_eq_true.mp (show (u_ws RX0 TX0 3).all goodWord = true by decide +kernel) w hw)
theorem inXg1 : ∀ w ∈ u_ws RX1 TX1 2, w ∈ lw_g := fun w hw => lw_in (inX1 w hw) (List.all_eq_true.mp (show (u_ws RX1 TX1 2).all goodWord = true by decide +kernel) w hw)
theorem inXg2 : ∀ w ∈ u_ws RX2 TX2 12, w ∈ lw_g := fun w hw => lw_in (inX2 w hw) (List.all_eq_true.mp (show (u_ws RX2 TX2 12).all goodWord = true by decide +kernel) w hw)
theorem inXg3 : ∀ w ∈ u_ws RX3 TX3 3, w ∈ lw_g := fun w hw => lw_in (inX3 w hw) (List.all_eq_true.mp (show (u_ws RX3 TX3 3).all goodWord = true by decide +kernel) w hw)
theorem inXg4 : ∀ w ∈ u_ws RX4 TX4 5, w ∈ lw_g := fun w hw => lw_in (inX4 w hw) (List.all_eq_true.mp (show (u_ws RX4 TX4 5).all goodWord = true by decide +kernel) w hw)
theorem inXg5 : ∀ w ∈ u_ws RX5 TX5 8, w ∈ lw_g := fun w hw => lw_in (inX5 w hw) (List.all_eq_true.mp (show (u_ws RX5 TX5 8).all goodWord = true by decide +kernel) w hw)
theorem inXg6 : ∀ w ∈ u_ws RX6 TX6 22, w ∈ lw_g := fun w hw => lw_in (inX6 w hw) (List.all_eq_true.mp (show (u_ws RX6 TX6 22).all goodWord = true by decide +kernel) w hw)
section JF
variable {α : Type} {K : MC} {X : WX} {nL : Nat} {Z : Option Value → AH → State → Prop} {enc : α → Option Value} {own : String} {cc : ByteArray} {ret : Option FieldType} {kk pc pc' q : Nat} {lv : List (Nat × Value)} {st : List Value} {h : AH} {o : Option (α × AH)}
theorem gF_X3_9 (hK : Ok K X RX3 cc nL ret kk) (hd : DD cc pc (.getfield 9) 3 pc') (hq : kd q = 3) (k : J K X nL Z enc pc' lv (.ref (X.1 + (q + 1)) :: st) h o) : J K X nL Z enc pc lv (.ref (X.1 + q) :: st) h o := J_get hK hd inXg3 (kd_lt hq (by decide)) rfl (j := 0) (by decide) (lay_3 X h hq) rfl kF_X3_9 rfl k
theorem rF_X3_9 {q2 : Nat} (hK : Ok K X RX3 cc nL ret kk) (hd : DD cc pc (.getfield 9) 3 pc') (hq : kd q = 3) (e2 : q + 1 = q2) (k : J K X nL Z enc pc' lv (.ref (X.1 + q2) :: st) h o) : J K X nL Z enc pc lv (.ref (X.1 + q) :: st) h o := by
  subst e2
  exact gF_X3_9 hK hd hq k
theorem gF_X5_75 (hK : Ok K X RX5 cc nL ret kk) (hd : DD cc pc (.getfield 75) 3 pc') (hq : kd q = 3) (k : J K X nL Z enc pc' lv (.ref (X.1 + (q + 1)) :: st) h o) : J K X nL Z enc pc lv (.ref (X.1 + q) :: st) h o := J_get hK hd inXg3 (kd_lt hq (by decide)) rfl (j := 0) (by decide) (lay_3 X h hq) rfl kF_X5_75 rfl k
theorem rF_X5_75 {q2 : Nat} (hK : Ok K X RX5 cc nL ret kk) (hd : DD cc pc (.getfield 75) 3 pc') (hq : kd q = 3) (e2 : q + 1 = q2) (k : J K X nL Z enc pc' lv (.ref (X.1 + q2) :: st) h o) : J K X nL Z enc pc lv (.ref (X.1 + q) :: st) h o := by
  subst e2
  exact gF_X5_75 hK hd hq k
theorem gF_X3_15 (hK : Ok K X RX3 cc nL ret kk) (hd : DD cc pc (.getfield 15) 3 pc') (hq : kd q = 3) (k : J K X nL Z enc pc' lv (.int (h q 1) :: st) h o) : J K X nL Z enc pc lv (.ref (X.1 + q) :: st) h o := J_get hK hd inXg3 (kd_lt hq (by decide)) rfl (j := 1) (by decide) (lay_3 X h hq) rfl kF_X3_15 rfl k
theorem pF_X3_15 {v : Int32} {f : AH → Option (α × AH)} (hK : Ok K X RX3 cc nL ret kk) (hd : DD cc pc (.putfield 15) 3 pc') (hq : kd q = 3) (k : ∀ h1, J K X nL Z enc pc' lv st h1 (f h1)) : J K X nL Z enc pc lv (.int v :: .ref (X.1 + q) :: st) h (sto (hs h q 1 v) f) := J_put hK hd inXg3 tyX3_ok nmX3 (kd_lt hq (by decide)) rfl (j := 1) (by decide) (lay_3 X h hq) (by rw [lay_3 X _ hq]; simp [hs, hr, upd]) (Nat.le_of_ble_eq_true rfl) kF_X3_15 rfl rfl (by decide +kernel) k
theorem gF_X5_82 (hK : Ok K X RX5 cc nL ret kk) (hd : DD cc pc (.getfield 82) 3 pc') (hq : kd q = 3) (k : J K X nL Z enc pc' lv (.int (h q 1) :: st) h o) : J K X nL Z enc pc lv (.ref (X.1 + q) :: st) h o := J_get hK hd inXg3 (kd_lt hq (by decide)) rfl (j := 1) (by decide) (lay_3 X h hq) rfl kF_X5_82 rfl k
theorem gF_X3_19 (hK : Ok K X RX3 cc nL ret kk) (hd : DD cc pc (.getfield 19) 3 pc') (hq : kd q = 3) (k : J K X nL Z enc pc' lv (.int (h q 2) :: st) h o) : J K X nL Z enc pc lv (.ref (X.1 + q) :: st) h o := J_get hK hd inXg3 (kd_lt hq (by decide)) rfl (j := 2) (by decide) (lay_3 X h hq) rfl kF_X3_19 rfl k
theorem pF_X3_19 {v : Int32} {f : AH → Option (α × AH)} (hK : Ok K X RX3 cc nL ret kk) (hd : DD cc pc (.putfield 19) 3 pc') (hq : kd q = 3) (k : ∀ h1, J K X nL Z enc pc' lv st h1 (f h1)) : J K X nL Z enc pc lv (.int v :: .ref (X.1 + q) :: st) h (sto (hs h q 2 v) f) := J_put hK hd inXg3 tyX3_ok nmX3 (kd_lt hq (by decide)) rfl (j := 2) (by decide) (lay_3 X h hq) (by rw [lay_3 X _ hq]; simp [hs, hr, upd]) (Nat.le_of_ble_eq_true rfl) kF_X3_19 rfl rfl (by decide +kernel) k
theorem gF_X4_9 (hK : Ok K X RX4 cc nL ret kk) (hd : DD cc pc (.getfield 9) 3 pc') (hq : kd q = 4) (k : J K X nL Z enc pc' lv (.ref (X.1 + (q + 1)) :: st) h o) : J K X nL Z enc pc lv (.ref (X.1 + q) :: st) h o := J_get hK hd inXg4 (kd_lt hq (by decide)) rfl (j := 0) (by decide) (lay_4 X h hq) rfl kF_X4_9 rfl k
theorem rF_X4_9 {q2 : Nat} (hK : Ok K X RX4 cc nL ret kk) (hd : DD cc pc (.getfield 9) 3 pc') (hq : kd q = 4) (e2 : q + 1 = q2) (k : J K X nL Z enc pc' lv (.ref (X.1 + q2) :: st) h o) : J K X nL Z enc pc lv (.ref (X.1 + q) :: st) h o := by
  subst e2
  exact gF_X4_9 hK hd hq k
theorem gF_X4_15 (hK : Ok K X RX4 cc nL ret kk) (hd : DD cc pc (.getfield 15) 3 pc') (hq : kd q = 4) (k : J K X nL Z enc pc' lv (.int (h q 1) :: st) h o) : J K X nL Z enc pc lv (.ref (X.1 + q) :: st) h o := J_get hK hd inXg4 (kd_lt hq (by decide)) rfl (j := 1) (by decide) (lay_4 X h hq) rfl kF_X4_15 rfl k
theorem pF_X4_15 {v : Int32} {f : AH → Option (α × AH)} (hK : Ok K X RX4 cc nL ret kk) (hd : DD cc pc (.putfield 15) 3 pc') (hq : kd q = 4) (k : ∀ h1, J K X nL Z enc pc' lv st h1 (f h1)) : J K X nL Z enc pc lv (.int v :: .ref (X.1 + q) :: st) h (sto (hs h q 1 v) f) := J_put hK hd inXg4 tyX4_ok nmX4 (kd_lt hq (by decide)) rfl (j := 1) (by decide) (lay_4 X h hq) (by rw [lay_4 X _ hq]; simp [hs, hr, upd]) (Nat.le_of_ble_eq_true rfl) kF_X4_15 rfl rfl (by decide +kernel) k
theorem gF_X5_96 (hK : Ok K X RX5 cc nL ret kk) (hd : DD cc pc (.getfield 96) 3 pc') (hq : kd q = 4) (k : J K X nL Z enc pc' lv (.int (h q 1) :: st) h o) : J K X nL Z enc pc lv (.ref (X.1 + q) :: st) h o := J_get hK hd inXg4 (kd_lt hq (by decide)) rfl (j := 1) (by decide) (lay_4 X h hq) rfl kF_X5_96 rfl k
theorem gF_X4_19 (hK : Ok K X RX4 cc nL ret kk) (hd : DD cc pc (.getfield 19) 3 pc') (hq : kd q = 4) (k : J K X nL Z enc pc' lv (.int (h q 2) :: st) h o) : J K X nL Z enc pc lv (.ref (X.1 + q) :: st) h o := J_get hK hd inXg4 (kd_lt hq (by decide)) rfl (j := 2) (by decide) (lay_4 X h hq) rfl kF_X4_19 rfl k
theorem pF_X4_19 {v : Int32} {f : AH → Option (α × AH)} (hK : Ok K X RX4 cc nL ret kk) (hd : DD cc pc (.putfield 19) 3 pc') (hq : kd q = 4) (k : ∀ h1, J K X nL Z enc pc' lv st h1 (f h1)) : J K X nL Z enc pc lv (.int v :: .ref (X.1 + q) :: st) h (sto (hs h q 2 v) f) := J_put hK hd inXg4 tyX4_ok nmX4 (kd_lt hq (by decide)) rfl (j := 2) (by decide) (lay_4 X h hq) (by rw [lay_4 X _ hq]; simp [hs, hr, upd]) (Nat.le_of_ble_eq_true rfl) kF_X4_19 rfl rfl (by decide +kernel) k
theorem gF_X5_108 (hK : Ok K X RX5 cc nL ret kk) (hd : DD cc pc (.getfield 108) 3 pc') (hq : kd q = 4) (k : J K X nL Z enc pc' lv (.int (h q 2) :: st) h o) : J K X nL Z enc pc lv (.ref (X.1 + q) :: st) h o := J_get hK hd inXg4 (kd_lt hq (by decide)) rfl (j := 2) (by decide) (lay_4 X h hq) rfl kF_X5_108 rfl k
theorem gF_X5_121 (hK : Ok K X RX5 cc nL ret kk) (hd : DD cc pc (.getfield 121) 3 pc') (hq : kd q = 4) (k : J K X nL Z enc pc' lv (.int (h q 3) :: st) h o) : J K X nL Z enc pc lv (.ref (X.1 + q) :: st) h o := J_get hK hd inXg4 (kd_lt hq (by decide)) rfl (j := 3) (by decide) (lay_4 X h hq) rfl kF_X5_121 rfl k
theorem gF_X4_106 (hK : Ok K X RX4 cc nL ret kk) (hd : DD cc pc (.getfield 106) 3 pc') (hq : kd q = 4) (k : J K X nL Z enc pc' lv (.int (h q 3) :: st) h o) : J K X nL Z enc pc lv (.ref (X.1 + q) :: st) h o := J_get hK hd inXg4 (kd_lt hq (by decide)) rfl (j := 3) (by decide) (lay_4 X h hq) rfl kF_X4_106 rfl k
theorem pF_X4_106 {v : Int32} {f : AH → Option (α × AH)} (hK : Ok K X RX4 cc nL ret kk) (hd : DD cc pc (.putfield 106) 3 pc') (hq : kd q = 4) (k : ∀ h1, J K X nL Z enc pc' lv st h1 (f h1)) : J K X nL Z enc pc lv (.int v :: .ref (X.1 + q) :: st) h (sto (hs h q 3 v) f) := J_put hK hd inXg4 tyX4_ok nmX4 (kd_lt hq (by decide)) rfl (j := 3) (by decide) (lay_4 X h hq) (by rw [lay_4 X _ hq]; simp [hs, hr, upd]) (Nat.le_of_ble_eq_true rfl) kF_X4_106 rfl rfl (by decide +kernel) k
theorem gF_X4_49 (hK : Ok K X RX4 cc nL ret kk) (hd : DD cc pc (.getfield 49) 3 pc') (hq : kd q = 4) (k : J K X nL Z enc pc' lv (.int (h q 4) :: st) h o) : J K X nL Z enc pc lv (.ref (X.1 + q) :: st) h o := J_get hK hd inXg4 (kd_lt hq (by decide)) rfl (j := 4) (by decide) (lay_4 X h hq) rfl kF_X4_49 rfl k
theorem pF_X4_49 {v : Int32} {f : AH → Option (α × AH)} (hK : Ok K X RX4 cc nL ret kk) (hd : DD cc pc (.putfield 49) 3 pc') (hq : kd q = 4) (k : ∀ h1, J K X nL Z enc pc' lv st h1 (f h1)) : J K X nL Z enc pc lv (.int v :: .ref (X.1 + q) :: st) h (sto (hs h q 4 v) f) := J_put hK hd inXg4 tyX4_ok nmX4 (kd_lt hq (by decide)) rfl (j := 4) (by decide) (lay_4 X h hq) (by rw [lay_4 X _ hq]; simp [hs, hr, upd]) (Nat.le_of_ble_eq_true rfl) kF_X4_49 rfl rfl (by decide +kernel) k
theorem gF_X2_30 (hK : Ok K X RX2 cc nL ret kk) (hd : DD cc pc (.getfield 30) 3 pc') (hq : kd q = 2) (k : J K X nL Z enc pc' lv (.int (h q 0) :: st) h o) : J K X nL Z enc pc lv (.ref (X.1 + q) :: st) h o := J_get hK hd inXg2 (kd_lt hq (by decide)) rfl (j := 0) (by decide) (lay_2 X h hq) rfl kF_X2_30 rfl k
theorem pF_X2_30 {v : Int32} {f : AH → Option (α × AH)} (hK : Ok K X RX2 cc nL ret kk) (hd : DD cc pc (.putfield 30) 3 pc') (hq : kd q = 2) (k : ∀ h1, J K X nL Z enc pc' lv st h1 (f h1)) : J K X nL Z enc pc lv (.int v :: .ref (X.1 + q) :: st) h (sto (hs h q 0 v) f) := J_put hK hd inXg2 tyX2_ok nmX2 (kd_lt hq (by decide)) rfl (j := 0) (by decide) (lay_2 X h hq) (by rw [lay_2 X _ hq]; simp [hs, hr, upd]) (Nat.le_of_ble_eq_true rfl) kF_X2_30 rfl rfl (by decide +kernel) k
theorem gF_X4_81 (hK : Ok K X RX4 cc nL ret kk) (hd : DD cc pc (.getfield 81) 3 pc') (hq : kd q = 2) (k : J K X nL Z enc pc' lv (.int (h q 0) :: st) h o) : J K X nL Z enc pc lv (.ref (X.1 + q) :: st) h o := J_get hK hd inXg2 (kd_lt hq (by decide)) rfl (j := 0) (by decide) (lay_2 X h hq) rfl kF_X4_81 rfl k
theorem pF_X4_81 {v : Int32} {f : AH → Option (α × AH)} (hK : Ok K X RX4 cc nL ret kk) (hd : DD cc pc (.putfield 81) 3 pc') (hq : kd q = 2) (k : ∀ h1, J K X nL Z enc pc' lv st h1 (f h1)) : J K X nL Z enc pc lv (.int v :: .ref (X.1 + q) :: st) h (sto (hs h q 0 v) f) := J_put hK hd inXg2 tyX2_ok nmX2 (kd_lt hq (by decide)) rfl (j := 0) (by decide) (lay_2 X h hq) (by rw [lay_2 X _ hq]; simp [hs, hr, upd]) (Nat.le_of_ble_eq_true rfl) kF_X4_81 rfl rfl (by decide +kernel) k
theorem gF_X5_118 (hK : Ok K X RX5 cc nL ret kk) (hd : DD cc pc (.getfield 118) 3 pc') (hq : kd q = 2) (k : J K X nL Z enc pc' lv (.int (h q 0) :: st) h o) : J K X nL Z enc pc lv (.ref (X.1 + q) :: st) h o := J_get hK hd inXg2 (kd_lt hq (by decide)) rfl (j := 0) (by decide) (lay_2 X h hq) rfl kF_X5_118 rfl k
theorem gF_X2_34 (hK : Ok K X RX2 cc nL ret kk) (hd : DD cc pc (.getfield 34) 3 pc') (hq : kd q = 2) (k : J K X nL Z enc pc' lv (.int (h q 1) :: st) h o) : J K X nL Z enc pc lv (.ref (X.1 + q) :: st) h o := J_get hK hd inXg2 (kd_lt hq (by decide)) rfl (j := 1) (by decide) (lay_2 X h hq) rfl kF_X2_34 rfl k
theorem pF_X2_34 {v : Int32} {f : AH → Option (α × AH)} (hK : Ok K X RX2 cc nL ret kk) (hd : DD cc pc (.putfield 34) 3 pc') (hq : kd q = 2) (k : ∀ h1, J K X nL Z enc pc' lv st h1 (f h1)) : J K X nL Z enc pc lv (.int v :: .ref (X.1 + q) :: st) h (sto (hs h q 1 v) f) := J_put hK hd inXg2 tyX2_ok nmX2 (kd_lt hq (by decide)) rfl (j := 1) (by decide) (lay_2 X h hq) (by rw [lay_2 X _ hq]; simp [hs, hr, upd]) (Nat.le_of_ble_eq_true rfl) kF_X2_34 rfl rfl (by decide +kernel) k
theorem gF_X4_96 (hK : Ok K X RX4 cc nL ret kk) (hd : DD cc pc (.getfield 96) 3 pc') (hq : kd q = 2) (k : J K X nL Z enc pc' lv (.int (h q 1) :: st) h o) : J K X nL Z enc pc lv (.ref (X.1 + q) :: st) h o := J_get hK hd inXg2 (kd_lt hq (by decide)) rfl (j := 1) (by decide) (lay_2 X h hq) rfl kF_X4_96 rfl k
theorem pF_X4_96 {v : Int32} {f : AH → Option (α × AH)} (hK : Ok K X RX4 cc nL ret kk) (hd : DD cc pc (.putfield 96) 3 pc') (hq : kd q = 2) (k : ∀ h1, J K X nL Z enc pc' lv st h1 (f h1)) : J K X nL Z enc pc lv (.int v :: .ref (X.1 + q) :: st) h (sto (hs h q 1 v) f) := J_put hK hd inXg2 tyX2_ok nmX2 (kd_lt hq (by decide)) rfl (j := 1) (by decide) (lay_2 X h hq) (by rw [lay_2 X _ hq]; simp [hs, hr, upd]) (Nat.le_of_ble_eq_true rfl) kF_X4_96 rfl rfl (by decide +kernel) k
theorem gF_X5_273 (hK : Ok K X RX5 cc nL ret kk) (hd : DD cc pc (.getfield 273) 3 pc') (hq : kd q = 2) (k : J K X nL Z enc pc' lv (.int (h q 1) :: st) h o) : J K X nL Z enc pc lv (.ref (X.1 + q) :: st) h o := J_get hK hd inXg2 (kd_lt hq (by decide)) rfl (j := 1) (by decide) (lay_2 X h hq) rfl kF_X5_273 rfl k
theorem gF_X2_37 (hK : Ok K X RX2 cc nL ret kk) (hd : DD cc pc (.getfield 37) 3 pc') (hq : kd q = 2) (k : J K X nL Z enc pc' lv (.int (h q 2) :: st) h o) : J K X nL Z enc pc lv (.ref (X.1 + q) :: st) h o := J_get hK hd inXg2 (kd_lt hq (by decide)) rfl (j := 2) (by decide) (lay_2 X h hq) rfl kF_X2_37 rfl k
theorem pF_X2_37 {v : Int32} {f : AH → Option (α × AH)} (hK : Ok K X RX2 cc nL ret kk) (hd : DD cc pc (.putfield 37) 3 pc') (hq : kd q = 2) (k : ∀ h1, J K X nL Z enc pc' lv st h1 (f h1)) : J K X nL Z enc pc lv (.int v :: .ref (X.1 + q) :: st) h (sto (hs h q 2 v) f) := J_put hK hd inXg2 tyX2_ok nmX2 (kd_lt hq (by decide)) rfl (j := 2) (by decide) (lay_2 X h hq) (by rw [lay_2 X _ hq]; simp [hs, hr, upd]) (Nat.le_of_ble_eq_true rfl) kF_X2_37 rfl rfl (by decide +kernel) k
theorem gF_X4_52 (hK : Ok K X RX4 cc nL ret kk) (hd : DD cc pc (.getfield 52) 3 pc') (hq : kd q = 2) (k : J K X nL Z enc pc' lv (.int (h q 2) :: st) h o) : J K X nL Z enc pc lv (.ref (X.1 + q) :: st) h o := J_get hK hd inXg2 (kd_lt hq (by decide)) rfl (j := 2) (by decide) (lay_2 X h hq) rfl kF_X4_52 rfl k
theorem pF_X4_52 {v : Int32} {f : AH → Option (α × AH)} (hK : Ok K X RX4 cc nL ret kk) (hd : DD cc pc (.putfield 52) 3 pc') (hq : kd q = 2) (k : ∀ h1, J K X nL Z enc pc' lv st h1 (f h1)) : J K X nL Z enc pc lv (.int v :: .ref (X.1 + q) :: st) h (sto (hs h q 2 v) f) := J_put hK hd inXg2 tyX2_ok nmX2 (kd_lt hq (by decide)) rfl (j := 2) (by decide) (lay_2 X h hq) (by rw [lay_2 X _ hq]; simp [hs, hr, upd]) (Nat.le_of_ble_eq_true rfl) kF_X4_52 rfl rfl (by decide +kernel) k
theorem gF_X5_276 (hK : Ok K X RX5 cc nL ret kk) (hd : DD cc pc (.getfield 276) 3 pc') (hq : kd q = 2) (k : J K X nL Z enc pc' lv (.int (h q 2) :: st) h o) : J K X nL Z enc pc lv (.ref (X.1 + q) :: st) h o := J_get hK hd inXg2 (kd_lt hq (by decide)) rfl (j := 2) (by decide) (lay_2 X h hq) rfl kF_X5_276 rfl k
theorem gF_X2_40 (hK : Ok K X RX2 cc nL ret kk) (hd : DD cc pc (.getfield 40) 3 pc') (hq : kd q = 2) (k : J K X nL Z enc pc' lv (.int (h q 3) :: st) h o) : J K X nL Z enc pc lv (.ref (X.1 + q) :: st) h o := J_get hK hd inXg2 (kd_lt hq (by decide)) rfl (j := 3) (by decide) (lay_2 X h hq) rfl kF_X2_40 rfl k
theorem pF_X2_40 {v : Int32} {f : AH → Option (α × AH)} (hK : Ok K X RX2 cc nL ret kk) (hd : DD cc pc (.putfield 40) 3 pc') (hq : kd q = 2) (k : ∀ h1, J K X nL Z enc pc' lv st h1 (f h1)) : J K X nL Z enc pc lv (.int v :: .ref (X.1 + q) :: st) h (sto (hs h q 3 v) f) := J_put hK hd inXg2 tyX2_ok nmX2 (kd_lt hq (by decide)) rfl (j := 3) (by decide) (lay_2 X h hq) (by rw [lay_2 X _ hq]; simp [hs, hr, upd]) (Nat.le_of_ble_eq_true rfl) kF_X2_40 rfl rfl (by decide +kernel) k
theorem gF_X4_55 (hK : Ok K X RX4 cc nL ret kk) (hd : DD cc pc (.getfield 55) 3 pc') (hq : kd q = 2) (k : J K X nL Z enc pc' lv (.int (h q 3) :: st) h o) : J K X nL Z enc pc lv (.ref (X.1 + q) :: st) h o := J_get hK hd inXg2 (kd_lt hq (by decide)) rfl (j := 3) (by decide) (lay_2 X h hq) rfl kF_X4_55 rfl k
theorem pF_X4_55 {v : Int32} {f : AH → Option (α × AH)} (hK : Ok K X RX4 cc nL ret kk) (hd : DD cc pc (.putfield 55) 3 pc') (hq : kd q = 2) (k : ∀ h1, J K X nL Z enc pc' lv st h1 (f h1)) : J K X nL Z enc pc lv (.int v :: .ref (X.1 + q) :: st) h (sto (hs h q 3 v) f) := J_put hK hd inXg2 tyX2_ok nmX2 (kd_lt hq (by decide)) rfl (j := 3) (by decide) (lay_2 X h hq) (by rw [lay_2 X _ hq]; simp [hs, hr, upd]) (Nat.le_of_ble_eq_true rfl) kF_X4_55 rfl rfl (by decide +kernel) k
theorem gF_X5_138 (hK : Ok K X RX5 cc nL ret kk) (hd : DD cc pc (.getfield 138) 3 pc') (hq : kd q = 2) (k : J K X nL Z enc pc' lv (.int (h q 3) :: st) h o) : J K X nL Z enc pc lv (.ref (X.1 + q) :: st) h o := J_get hK hd inXg2 (kd_lt hq (by decide)) rfl (j := 3) (by decide) (lay_2 X h hq) rfl kF_X5_138 rfl k
theorem gF_X2_43 (hK : Ok K X RX2 cc nL ret kk) (hd : DD cc pc (.getfield 43) 3 pc') (hq : kd q = 2) (k : J K X nL Z enc pc' lv (.int (h q 4) :: st) h o) : J K X nL Z enc pc lv (.ref (X.1 + q) :: st) h o := J_get hK hd inXg2 (kd_lt hq (by decide)) rfl (j := 4) (by decide) (lay_2 X h hq) rfl kF_X2_43 rfl k
theorem pF_X2_43 {v : Int32} {f : AH → Option (α × AH)} (hK : Ok K X RX2 cc nL ret kk) (hd : DD cc pc (.putfield 43) 3 pc') (hq : kd q = 2) (k : ∀ h1, J K X nL Z enc pc' lv st h1 (f h1)) : J K X nL Z enc pc lv (.int v :: .ref (X.1 + q) :: st) h (sto (hs h q 4 v) f) := J_put hK hd inXg2 tyX2_ok nmX2 (kd_lt hq (by decide)) rfl (j := 4) (by decide) (lay_2 X h hq) (by rw [lay_2 X _ hq]; simp [hs, hr, upd]) (Nat.le_of_ble_eq_true rfl) kF_X2_43 rfl rfl (by decide +kernel) k
theorem gF_X5_128 (hK : Ok K X RX5 cc nL ret kk) (hd : DD cc pc (.getfield 128) 3 pc') (hq : kd q = 2) (k : J K X nL Z enc pc' lv (.int (h q 4) :: st) h o) : J K X nL Z enc pc lv (.ref (X.1 + q) :: st) h o := J_get hK hd inXg2 (kd_lt hq (by decide)) rfl (j := 4) (by decide) (lay_2 X h hq) rfl kF_X5_128 rfl k
theorem gF_X2_46 (hK : Ok K X RX2 cc nL ret kk) (hd : DD cc pc (.getfield 46) 3 pc') (hq : kd q = 2) (k : J K X nL Z enc pc' lv (.int (h q 5) :: st) h o) : J K X nL Z enc pc lv (.ref (X.1 + q) :: st) h o := J_get hK hd inXg2 (kd_lt hq (by decide)) rfl (j := 5) (by decide) (lay_2 X h hq) rfl kF_X2_46 rfl k
theorem pF_X2_46 {v : Int32} {f : AH → Option (α × AH)} (hK : Ok K X RX2 cc nL ret kk) (hd : DD cc pc (.putfield 46) 3 pc') (hq : kd q = 2) (k : ∀ h1, J K X nL Z enc pc' lv st h1 (f h1)) : J K X nL Z enc pc lv (.int v :: .ref (X.1 + q) :: st) h (sto (hs h q 5 v) f) := J_put hK hd inXg2 tyX2_ok nmX2 (kd_lt hq (by decide)) rfl (j := 5) (by decide) (lay_2 X h hq) (by rw [lay_2 X _ hq]; simp [hs, hr, upd]) (Nat.le_of_ble_eq_true rfl) kF_X2_46 rfl rfl (by decide +kernel) k
theorem gF_X4_78 (hK : Ok K X RX4 cc nL ret kk) (hd : DD cc pc (.getfield 78) 3 pc') (hq : kd q = 2) (k : J K X nL Z enc pc' lv (.int (h q 5) :: st) h o) : J K X nL Z enc pc lv (.ref (X.1 + q) :: st) h o := J_get hK hd inXg2 (kd_lt hq (by decide)) rfl (j := 5) (by decide) (lay_2 X h hq) rfl kF_X4_78 rfl k
theorem pF_X4_78 {v : Int32} {f : AH → Option (α × AH)} (hK : Ok K X RX4 cc nL ret kk) (hd : DD cc pc (.putfield 78) 3 pc') (hq : kd q = 2) (k : ∀ h1, J K X nL Z enc pc' lv st h1 (f h1)) : J K X nL Z enc pc lv (.int v :: .ref (X.1 + q) :: st) h (sto (hs h q 5 v) f) := J_put hK hd inXg2 tyX2_ok nmX2 (kd_lt hq (by decide)) rfl (j := 5) (by decide) (lay_2 X h hq) (by rw [lay_2 X _ hq]; simp [hs, hr, upd]) (Nat.le_of_ble_eq_true rfl) kF_X4_78 rfl rfl (by decide +kernel) k
theorem gF_X5_154 (hK : Ok K X RX5 cc nL ret kk) (hd : DD cc pc (.getfield 154) 3 pc') (hq : kd q = 2) (k : J K X nL Z enc pc' lv (.int (h q 5) :: st) h o) : J K X nL Z enc pc lv (.ref (X.1 + q) :: st) h o := J_get hK hd inXg2 (kd_lt hq (by decide)) rfl (j := 5) (by decide) (lay_2 X h hq) rfl kF_X5_154 rfl k
theorem gF_X2_9 (hK : Ok K X RX2 cc nL ret kk) (hd : DD cc pc (.getfield 9) 3 pc') (hq : kd q = 2) (k : J K X nL Z enc pc' lv (.ref (X.1 + (q + 1)) :: st) h o) : J K X nL Z enc pc lv (.ref (X.1 + q) :: st) h o := J_get hK hd inXg2 (kd_lt hq (by decide)) rfl (j := 6) (by decide) (lay_2 X h hq) rfl kF_X2_9 rfl k
theorem rF_X2_9 {q2 : Nat} (hK : Ok K X RX2 cc nL ret kk) (hd : DD cc pc (.getfield 9) 3 pc') (hq : kd q = 2) (e2 : q + 1 = q2) (k : J K X nL Z enc pc' lv (.ref (X.1 + q2) :: st) h o) : J K X nL Z enc pc lv (.ref (X.1 + q) :: st) h o := by
  subst e2
  exact gF_X2_9 hK hd hq k
theorem gF_X1_23 (hK : Ok K X RX1 cc nL ret kk) (hd : DD cc pc (.getfield 23) 3 pc') (hq : kd q = 2) (k : J K X nL Z enc pc' lv (.ref (X.1 + (q + 1)) :: st) h o) : J K X nL Z enc pc lv (.ref (X.1 + q) :: st) h o := J_get hK hd inXg2 (kd_lt hq (by decide)) rfl (j := 6) (by decide) (lay_2 X h hq) rfl kF_X1_23 rfl k
theorem rF_X1_23 {q2 : Nat} (hK : Ok K X RX1 cc nL ret kk) (hd : DD cc pc (.getfield 23) 3 pc') (hq : kd q = 2) (e2 : q + 1 = q2) (k : J K X nL Z enc pc' lv (.ref (X.1 + q2) :: st) h o) : J K X nL Z enc pc lv (.ref (X.1 + q) :: st) h o := by
  subst e2
  exact gF_X1_23 hK hd hq k
theorem gF_X4_69 (hK : Ok K X RX4 cc nL ret kk) (hd : DD cc pc (.getfield 69) 3 pc') (hq : kd q = 2) (k : J K X nL Z enc pc' lv (.ref (X.1 + (q + 1)) :: st) h o) : J K X nL Z enc pc lv (.ref (X.1 + q) :: st) h o := J_get hK hd inXg2 (kd_lt hq (by decide)) rfl (j := 6) (by decide) (lay_2 X h hq) rfl kF_X4_69 rfl k
theorem rF_X4_69 {q2 : Nat} (hK : Ok K X RX4 cc nL ret kk) (hd : DD cc pc (.getfield 69) 3 pc') (hq : kd q = 2) (e2 : q + 1 = q2) (k : J K X nL Z enc pc' lv (.ref (X.1 + q2) :: st) h o) : J K X nL Z enc pc lv (.ref (X.1 + q) :: st) h o := by
  subst e2
  exact gF_X4_69 hK hd hq k
theorem gF_X5_256 (hK : Ok K X RX5 cc nL ret kk) (hd : DD cc pc (.getfield 256) 3 pc') (hq : kd q = 2) (k : J K X nL Z enc pc' lv (.ref (X.1 + (q + 1)) :: st) h o) : J K X nL Z enc pc lv (.ref (X.1 + q) :: st) h o := J_get hK hd inXg2 (kd_lt hq (by decide)) rfl (j := 6) (by decide) (lay_2 X h hq) rfl kF_X5_256 rfl k
theorem rF_X5_256 {q2 : Nat} (hK : Ok K X RX5 cc nL ret kk) (hd : DD cc pc (.getfield 256) 3 pc') (hq : kd q = 2) (e2 : q + 1 = q2) (k : J K X nL Z enc pc' lv (.ref (X.1 + q2) :: st) h o) : J K X nL Z enc pc lv (.ref (X.1 + q) :: st) h o := by
  subst e2
  exact gF_X5_256 hK hd hq k
theorem gF_X2_15 (hK : Ok K X RX2 cc nL ret kk) (hd : DD cc pc (.getfield 15) 3 pc') (hq : kd q = 2) (k : J K X nL Z enc pc' lv (.ref (X.1 + (q + 2)) :: st) h o) : J K X nL Z enc pc lv (.ref (X.1 + q) :: st) h o := J_get hK hd inXg2 (kd_lt hq (by decide)) rfl (j := 7) (by decide) (lay_2 X h hq) rfl kF_X2_15 rfl k
theorem rF_X2_15 {q2 : Nat} (hK : Ok K X RX2 cc nL ret kk) (hd : DD cc pc (.getfield 15) 3 pc') (hq : kd q = 2) (e2 : q + 2 = q2) (k : J K X nL Z enc pc' lv (.ref (X.1 + q2) :: st) h o) : J K X nL Z enc pc lv (.ref (X.1 + q) :: st) h o := by
  subst e2
  exact gF_X2_15 hK hd hq k
theorem gF_X1_41 (hK : Ok K X RX1 cc nL ret kk) (hd : DD cc pc (.getfield 41) 3 pc') (hq : kd q = 2) (k : J K X nL Z enc pc' lv (.ref (X.1 + (q + 2)) :: st) h o) : J K X nL Z enc pc lv (.ref (X.1 + q) :: st) h o := J_get hK hd inXg2 (kd_lt hq (by decide)) rfl (j := 7) (by decide) (lay_2 X h hq) rfl kF_X1_41 rfl k
theorem rF_X1_41 {q2 : Nat} (hK : Ok K X RX1 cc nL ret kk) (hd : DD cc pc (.getfield 41) 3 pc') (hq : kd q = 2) (e2 : q + 2 = q2) (k : J K X nL Z enc pc' lv (.ref (X.1 + q2) :: st) h o) : J K X nL Z enc pc lv (.ref (X.1 + q) :: st) h o := by
  subst e2
  exact gF_X1_41 hK hd hq k
theorem gF_X4_72 (hK : Ok K X RX4 cc nL ret kk) (hd : DD cc pc (.getfield 72) 3 pc') (hq : kd q = 2) (k : J K X nL Z enc pc' lv (.ref (X.1 + (q + 2)) :: st) h o) : J K X nL Z enc pc lv (.ref (X.1 + q) :: st) h o := J_get hK hd inXg2 (kd_lt hq (by decide)) rfl (j := 7) (by decide) (lay_2 X h hq) rfl kF_X4_72 rfl k
theorem rF_X4_72 {q2 : Nat} (hK : Ok K X RX4 cc nL ret kk) (hd : DD cc pc (.getfield 72) 3 pc') (hq : kd q = 2) (e2 : q + 2 = q2) (k : J K X nL Z enc pc' lv (.ref (X.1 + q2) :: st) h o) : J K X nL Z enc pc lv (.ref (X.1 + q) :: st) h o := by
  subst e2
  exact gF_X4_72 hK hd hq k
theorem gF_X5_160 (hK : Ok K X RX5 cc nL ret kk) (hd : DD cc pc (.getfield 160) 3 pc') (hq : kd q = 2) (k : J K X nL Z enc pc' lv (.ref (X.1 + (q + 2)) :: st) h o) : J K X nL Z enc pc lv (.ref (X.1 + q) :: st) h o := J_get hK hd inXg2 (kd_lt hq (by decide)) rfl (j := 7) (by decide) (lay_2 X h hq) rfl kF_X5_160 rfl k
theorem rF_X5_160 {q2 : Nat} (hK : Ok K X RX5 cc nL ret kk) (hd : DD cc pc (.getfield 160) 3 pc') (hq : kd q = 2) (e2 : q + 2 = q2) (k : J K X nL Z enc pc' lv (.ref (X.1 + q2) :: st) h o) : J K X nL Z enc pc lv (.ref (X.1 + q) :: st) h o := by
  subst e2
  exact gF_X5_160 hK hd hq k
theorem gF_X2_18 (hK : Ok K X RX2 cc nL ret kk) (hd : DD cc pc (.getfield 18) 3 pc') (hq : kd q = 2) (k : J K X nL Z enc pc' lv (.ref (X.1 + (q + 3)) :: st) h o) : J K X nL Z enc pc lv (.ref (X.1 + q) :: st) h o := J_get hK hd inXg2 (kd_lt hq (by decide)) rfl (j := 8) (by decide) (lay_2 X h hq) rfl kF_X2_18 rfl k
theorem rF_X2_18 {q2 : Nat} (hK : Ok K X RX2 cc nL ret kk) (hd : DD cc pc (.getfield 18) 3 pc') (hq : kd q = 2) (e2 : q + 3 = q2) (k : J K X nL Z enc pc' lv (.ref (X.1 + q2) :: st) h o) : J K X nL Z enc pc lv (.ref (X.1 + q) :: st) h o := by
  subst e2
  exact gF_X2_18 hK hd hq k
theorem gF_X4_75 (hK : Ok K X RX4 cc nL ret kk) (hd : DD cc pc (.getfield 75) 3 pc') (hq : kd q = 2) (k : J K X nL Z enc pc' lv (.ref (X.1 + (q + 3)) :: st) h o) : J K X nL Z enc pc lv (.ref (X.1 + q) :: st) h o := J_get hK hd inXg2 (kd_lt hq (by decide)) rfl (j := 8) (by decide) (lay_2 X h hq) rfl kF_X4_75 rfl k
theorem rF_X4_75 {q2 : Nat} (hK : Ok K X RX4 cc nL ret kk) (hd : DD cc pc (.getfield 75) 3 pc') (hq : kd q = 2) (e2 : q + 3 = q2) (k : J K X nL Z enc pc' lv (.ref (X.1 + q2) :: st) h o) : J K X nL Z enc pc lv (.ref (X.1 + q) :: st) h o := by
  subst e2
  exact gF_X4_75 hK hd hq k
theorem gF_X5_176 (hK : Ok K X RX5 cc nL ret kk) (hd : DD cc pc (.getfield 176) 3 pc') (hq : kd q = 2) (k : J K X nL Z enc pc' lv (.ref (X.1 + (q + 3)) :: st) h o) : J K X nL Z enc pc lv (.ref (X.1 + q) :: st) h o := J_get hK hd inXg2 (kd_lt hq (by decide)) rfl (j := 8) (by decide) (lay_2 X h hq) rfl kF_X5_176 rfl k
theorem rF_X5_176 {q2 : Nat} (hK : Ok K X RX5 cc nL ret kk) (hd : DD cc pc (.getfield 176) 3 pc') (hq : kd q = 2) (e2 : q + 3 = q2) (k : J K X nL Z enc pc' lv (.ref (X.1 + q2) :: st) h o) : J K X nL Z enc pc lv (.ref (X.1 + q) :: st) h o := by
  subst e2
  exact gF_X5_176 hK hd hq k
theorem gF_X2_21 (hK : Ok K X RX2 cc nL ret kk) (hd : DD cc pc (.getfield 21) 3 pc') (hq : kd q = 2) (k : J K X nL Z enc pc' lv (.ref (X.1 + (q + 4)) :: st) h o) : J K X nL Z enc pc lv (.ref (X.1 + q) :: st) h o := J_get hK hd inXg2 (kd_lt hq (by decide)) rfl (j := 9) (by decide) (lay_2 X h hq) rfl kF_X2_21 rfl k
theorem rF_X2_21 {q2 : Nat} (hK : Ok K X RX2 cc nL ret kk) (hd : DD cc pc (.getfield 21) 3 pc') (hq : kd q = 2) (e2 : q + 4 = q2) (k : J K X nL Z enc pc' lv (.ref (X.1 + q2) :: st) h o) : J K X nL Z enc pc lv (.ref (X.1 + q) :: st) h o := by
  subst e2
  exact gF_X2_21 hK hd hq k
theorem gF_X1_44 (hK : Ok K X RX1 cc nL ret kk) (hd : DD cc pc (.getfield 44) 3 pc') (hq : kd q = 2) (k : J K X nL Z enc pc' lv (.ref (X.1 + (q + 4)) :: st) h o) : J K X nL Z enc pc lv (.ref (X.1 + q) :: st) h o := J_get hK hd inXg2 (kd_lt hq (by decide)) rfl (j := 9) (by decide) (lay_2 X h hq) rfl kF_X1_44 rfl k
theorem rF_X1_44 {q2 : Nat} (hK : Ok K X RX1 cc nL ret kk) (hd : DD cc pc (.getfield 44) 3 pc') (hq : kd q = 2) (e2 : q + 4 = q2) (k : J K X nL Z enc pc' lv (.ref (X.1 + q2) :: st) h o) : J K X nL Z enc pc lv (.ref (X.1 + q) :: st) h o := by
  subst e2
  exact gF_X1_44 hK hd hq k
theorem gF_X5_147 (hK : Ok K X RX5 cc nL ret kk) (hd : DD cc pc (.getfield 147) 3 pc') (hq : kd q = 2) (k : J K X nL Z enc pc' lv (.ref (X.1 + (q + 4)) :: st) h o) : J K X nL Z enc pc lv (.ref (X.1 + q) :: st) h o := J_get hK hd inXg2 (kd_lt hq (by decide)) rfl (j := 9) (by decide) (lay_2 X h hq) rfl kF_X5_147 rfl k
theorem rF_X5_147 {q2 : Nat} (hK : Ok K X RX5 cc nL ret kk) (hd : DD cc pc (.getfield 147) 3 pc') (hq : kd q = 2) (e2 : q + 4 = q2) (k : J K X nL Z enc pc' lv (.ref (X.1 + q2) :: st) h o) : J K X nL Z enc pc lv (.ref (X.1 + q) :: st) h o := by
  subst e2
  exact gF_X5_147 hK hd hq k
theorem gF_X2_24 (hK : Ok K X RX2 cc nL ret kk) (hd : DD cc pc (.getfield 24) 3 pc') (hq : kd q = 2) (k : J K X nL Z enc pc' lv (.ref (X.1 + (q + 5)) :: st) h o) : J K X nL Z enc pc lv (.ref (X.1 + q) :: st) h o := J_get hK hd inXg2 (kd_lt hq (by decide)) rfl (j := 10) (by decide) (lay_2 X h hq) rfl kF_X2_24 rfl k
theorem rF_X2_24 {q2 : Nat} (hK : Ok K X RX2 cc nL ret kk) (hd : DD cc pc (.getfield 24) 3 pc') (hq : kd q = 2) (e2 : q + 5 = q2) (k : J K X nL Z enc pc' lv (.ref (X.1 + q2) :: st) h o) : J K X nL Z enc pc lv (.ref (X.1 + q) :: st) h o := by
  subst e2
  exact gF_X2_24 hK hd hq k
theorem gF_X4_90 (hK : Ok K X RX4 cc nL ret kk) (hd : DD cc pc (.getfield 90) 3 pc') (hq : kd q = 2) (k : J K X nL Z enc pc' lv (.ref (X.1 + (q + 5)) :: st) h o) : J K X nL Z enc pc lv (.ref (X.1 + q) :: st) h o := J_get hK hd inXg2 (kd_lt hq (by decide)) rfl (j := 10) (by decide) (lay_2 X h hq) rfl kF_X4_90 rfl k
theorem rF_X4_90 {q2 : Nat} (hK : Ok K X RX4 cc nL ret kk) (hd : DD cc pc (.getfield 90) 3 pc') (hq : kd q = 2) (e2 : q + 5 = q2) (k : J K X nL Z enc pc' lv (.ref (X.1 + q2) :: st) h o) : J K X nL Z enc pc lv (.ref (X.1 + q) :: st) h o := by
  subst e2
  exact gF_X4_90 hK hd hq k
theorem gF_X5_182 (hK : Ok K X RX5 cc nL ret kk) (hd : DD cc pc (.getfield 182) 3 pc') (hq : kd q = 2) (k : J K X nL Z enc pc' lv (.ref (X.1 + (q + 5)) :: st) h o) : J K X nL Z enc pc lv (.ref (X.1 + q) :: st) h o := J_get hK hd inXg2 (kd_lt hq (by decide)) rfl (j := 10) (by decide) (lay_2 X h hq) rfl kF_X5_182 rfl k
theorem rF_X5_182 {q2 : Nat} (hK : Ok K X RX5 cc nL ret kk) (hd : DD cc pc (.getfield 182) 3 pc') (hq : kd q = 2) (e2 : q + 5 = q2) (k : J K X nL Z enc pc' lv (.ref (X.1 + q2) :: st) h o) : J K X nL Z enc pc lv (.ref (X.1 + q) :: st) h o := by
  subst e2
  exact gF_X5_182 hK hd hq k
theorem gF_X2_27 (hK : Ok K X RX2 cc nL ret kk) (hd : DD cc pc (.getfield 27) 3 pc') (hq : kd q = 2) (k : J K X nL Z enc pc' lv (.ref (X.1 + (q + 6)) :: st) h o) : J K X nL Z enc pc lv (.ref (X.1 + q) :: st) h o := J_get hK hd inXg2 (kd_lt hq (by decide)) rfl (j := 11) (by decide) (lay_2 X h hq) rfl kF_X2_27 rfl k
theorem rF_X2_27 {q2 : Nat} (hK : Ok K X RX2 cc nL ret kk) (hd : DD cc pc (.getfield 27) 3 pc') (hq : kd q = 2) (e2 : q + 6 = q2) (k : J K X nL Z enc pc' lv (.ref (X.1 + q2) :: st) h o) : J K X nL Z enc pc lv (.ref (X.1 + q) :: st) h o := by
  subst e2
  exact gF_X2_27 hK hd hq k
theorem gF_X4_93 (hK : Ok K X RX4 cc nL ret kk) (hd : DD cc pc (.getfield 93) 3 pc') (hq : kd q = 2) (k : J K X nL Z enc pc' lv (.ref (X.1 + (q + 6)) :: st) h o) : J K X nL Z enc pc lv (.ref (X.1 + q) :: st) h o := J_get hK hd inXg2 (kd_lt hq (by decide)) rfl (j := 11) (by decide) (lay_2 X h hq) rfl kF_X4_93 rfl k
theorem rF_X4_93 {q2 : Nat} (hK : Ok K X RX4 cc nL ret kk) (hd : DD cc pc (.getfield 93) 3 pc') (hq : kd q = 2) (e2 : q + 6 = q2) (k : J K X nL Z enc pc' lv (.ref (X.1 + q2) :: st) h o) : J K X nL Z enc pc lv (.ref (X.1 + q) :: st) h o := by
  subst e2
  exact gF_X4_93 hK hd hq k
theorem gF_X5_166 (hK : Ok K X RX5 cc nL ret kk) (hd : DD cc pc (.getfield 166) 3 pc') (hq : kd q = 2) (k : J K X nL Z enc pc' lv (.ref (X.1 + (q + 6)) :: st) h o) : J K X nL Z enc pc lv (.ref (X.1 + q) :: st) h o := J_get hK hd inXg2 (kd_lt hq (by decide)) rfl (j := 11) (by decide) (lay_2 X h hq) rfl kF_X5_166 rfl k
theorem rF_X5_166 {q2 : Nat} (hK : Ok K X RX5 cc nL ret kk) (hd : DD cc pc (.getfield 166) 3 pc') (hq : kd q = 2) (e2 : q + 6 = q2) (k : J K X nL Z enc pc' lv (.ref (X.1 + q2) :: st) h o) : J K X nL Z enc pc lv (.ref (X.1 + q) :: st) h o := by
  subst e2
  exact gF_X5_166 hK hd hq k
theorem gF_X0_11 (hK : Ok K X RX0 cc nL ret kk) (hd : DD cc pc (.getfield 11) 3 pc') (hq : kd q = 0) (k : J K X nL Z enc pc' lv (.ref (X.1 + (q + 1)) :: st) h o) : J K X nL Z enc pc lv (.ref (X.1 + q) :: st) h o := J_get hK hd inXg0 (kd_lt hq (by decide)) rfl (j := 0) (by decide) (lay_0 X h hq) rfl kF_X0_11 rfl k
theorem rF_X0_11 {q2 : Nat} (hK : Ok K X RX0 cc nL ret kk) (hd : DD cc pc (.getfield 11) 3 pc') (hq : kd q = 0) (e2 : q + 1 = q2) (k : J K X nL Z enc pc' lv (.ref (X.1 + q2) :: st) h o) : J K X nL Z enc pc lv (.ref (X.1 + q) :: st) h o := by
  subst e2
  exact gF_X0_11 hK hd hq k
theorem gF_X0_18 (hK : Ok K X RX0 cc nL ret kk) (hd : DD cc pc (.getfield 18) 3 pc') (hq : kd q = 0) (k : J K X nL Z enc pc' lv (.int (h q 1) :: st) h o) : J K X nL Z enc pc lv (.ref (X.1 + q) :: st) h o := J_get hK hd inXg0 (kd_lt hq (by decide)) rfl (j := 1) (by decide) (lay_0 X h hq) rfl kF_X0_18 rfl k
theorem pF_X0_18 {v : Int32} {f : AH → Option (α × AH)} (hK : Ok K X RX0 cc nL ret kk) (hd : DD cc pc (.putfield 18) 3 pc') (hq : kd q = 0) (k : ∀ h1, J K X nL Z enc pc' lv st h1 (f h1)) : J K X nL Z enc pc lv (.int v :: .ref (X.1 + q) :: st) h (sto (hs h q 1 v) f) := J_put hK hd inXg0 tyX0_ok nmX0 (kd_lt hq (by decide)) rfl (j := 1) (by decide) (lay_0 X h hq) (by rw [lay_0 X _ hq]; simp [hs, hr, upd]) (Nat.le_of_ble_eq_true rfl) kF_X0_18 rfl rfl (by decide +kernel) k
theorem gF_X0_22 (hK : Ok K X RX0 cc nL ret kk) (hd : DD cc pc (.getfield 22) 3 pc') (hq : kd q = 0) (k : J K X nL Z enc pc' lv (.int (h q 2) :: st) h o) : J K X nL Z enc pc lv (.ref (X.1 + q) :: st) h o := J_get hK hd inXg0 (kd_lt hq (by decide)) rfl (j := 2) (by decide) (lay_0 X h hq) rfl kF_X0_22 rfl k
theorem pF_X0_22 {v : Int32} {f : AH → Option (α × AH)} (hK : Ok K X RX0 cc nL ret kk) (hd : DD cc pc (.putfield 22) 3 pc') (hq : kd q = 0) (k : ∀ h1, J K X nL Z enc pc' lv st h1 (f h1)) : J K X nL Z enc pc lv (.int v :: .ref (X.1 + q) :: st) h (sto (hs h q 2 v) f) := J_put hK hd inXg0 tyX0_ok nmX0 (kd_lt hq (by decide)) rfl (j := 2) (by decide) (lay_0 X h hq) (by rw [lay_0 X _ hq]; simp [hs, hr, upd]) (Nat.le_of_ble_eq_true rfl) kF_X0_22 rfl rfl (by decide +kernel) k
theorem gF_X5_169 (hK : Ok K X RX5 cc nL ret kk) (hd : DD cc pc (.getfield 169) 3 pc') (hq : kd q = 0) (k : J K X nL Z enc pc' lv (.int (h q 2) :: st) h o) : J K X nL Z enc pc lv (.ref (X.1 + q) :: st) h o := J_get hK hd inXg0 (kd_lt hq (by decide)) rfl (j := 2) (by decide) (lay_0 X h hq) rfl kF_X5_169 rfl k
theorem gF_X1_9 (hK : Ok K X RX1 cc nL ret kk) (hd : DD cc pc (.getfield 9) 3 pc') (hq : kd q = 1) (k : J K X nL Z enc pc' lv (.ref (X.1 + (q + 1)) :: st) h o) : J K X nL Z enc pc lv (.ref (X.1 + q) :: st) h o := J_get hK hd inXg1 (kd_lt hq (by decide)) rfl (j := 0) (by decide) (lay_1 X h hq) rfl kF_X1_9 rfl k
theorem rF_X1_9 {q2 : Nat} (hK : Ok K X RX1 cc nL ret kk) (hd : DD cc pc (.getfield 9) 3 pc') (hq : kd q = 1) (e2 : q + 1 = q2) (k : J K X nL Z enc pc' lv (.ref (X.1 + q2) :: st) h o) : J K X nL Z enc pc lv (.ref (X.1 + q) :: st) h o := by
  subst e2
  exact gF_X1_9 hK hd hq k
theorem gF_X5_267 (hK : Ok K X RX5 cc nL ret kk) (hd : DD cc pc (.getfield 267) 3 pc') (hq : kd q = 1) (k : J K X nL Z enc pc' lv (.ref (X.1 + (q + 1)) :: st) h o) : J K X nL Z enc pc lv (.ref (X.1 + q) :: st) h o := J_get hK hd inXg1 (kd_lt hq (by decide)) rfl (j := 0) (by decide) (lay_1 X h hq) rfl kF_X5_267 rfl k
theorem rF_X5_267 {q2 : Nat} (hK : Ok K X RX5 cc nL ret kk) (hd : DD cc pc (.getfield 267) 3 pc') (hq : kd q = 1) (e2 : q + 1 = q2) (k : J K X nL Z enc pc' lv (.ref (X.1 + q2) :: st) h o) : J K X nL Z enc pc lv (.ref (X.1 + q) :: st) h o := by
  subst e2
  exact gF_X5_267 hK hd hq k
theorem gF_X1_15 (hK : Ok K X RX1 cc nL ret kk) (hd : DD cc pc (.getfield 15) 3 pc') (hq : kd q = 1) (k : J K X nL Z enc pc' lv (.int (h q 1) :: st) h o) : J K X nL Z enc pc lv (.ref (X.1 + q) :: st) h o := J_get hK hd inXg1 (kd_lt hq (by decide)) rfl (j := 1) (by decide) (lay_1 X h hq) rfl kF_X1_15 rfl k
theorem pF_X1_15 {v : Int32} {f : AH → Option (α × AH)} (hK : Ok K X RX1 cc nL ret kk) (hd : DD cc pc (.putfield 15) 3 pc') (hq : kd q = 1) (k : ∀ h1, J K X nL Z enc pc' lv st h1 (f h1)) : J K X nL Z enc pc lv (.int v :: .ref (X.1 + q) :: st) h (sto (hs h q 1 v) f) := J_put hK hd inXg1 tyX1_ok nmX1 (kd_lt hq (by decide)) rfl (j := 1) (by decide) (lay_1 X h hq) (by rw [lay_1 X _ hq]; simp [hs, hr, upd]) (Nat.le_of_ble_eq_true rfl) kF_X1_15 rfl rfl (by decide +kernel) k
theorem gF_X5_266 (hK : Ok K X RX5 cc nL ret kk) (hd : DD cc pc (.getfield 266) 3 pc') (hq : kd q = 1) (k : J K X nL Z enc pc' lv (.int (h q 1) :: st) h o) : J K X nL Z enc pc lv (.ref (X.1 + q) :: st) h o := J_get hK hd inXg1 (kd_lt hq (by decide)) rfl (j := 1) (by decide) (lay_1 X h hq) rfl kF_X5_266 rfl k
theorem gF_X5_11 (hK : Ok K X RX5 cc nL ret kk) (hd : DD cc pc (.getfield 11) 3 pc') (hq : kd q = 5) (k : J K X nL Z enc pc' lv (.ref (X.1 + (q + 1)) :: st) h o) : J K X nL Z enc pc lv (.ref (X.1 + q) :: st) h o := J_get hK hd inXg5 (kd_lt hq (by decide)) rfl (j := 0) (by decide) (lay_5 X h hq) rfl kF_X5_11 rfl k
theorem rF_X5_11 {q2 : Nat} (hK : Ok K X RX5 cc nL ret kk) (hd : DD cc pc (.getfield 11) 3 pc') (hq : kd q = 5) (e2 : q + 1 = q2) (k : J K X nL Z enc pc' lv (.ref (X.1 + q2) :: st) h o) : J K X nL Z enc pc lv (.ref (X.1 + q) :: st) h o := by
  subst e2
  exact gF_X5_11 hK hd hq k
theorem gF_X5_19 (hK : Ok K X RX5 cc nL ret kk) (hd : DD cc pc (.getfield 19) 3 pc') (hq : kd q = 5) (k : J K X nL Z enc pc' lv (.ref (X.1 + (q + 18)) :: st) h o) : J K X nL Z enc pc lv (.ref (X.1 + q) :: st) h o := J_get hK hd inXg5 (kd_lt hq (by decide)) rfl (j := 1) (by decide) (lay_5 X h hq) rfl kF_X5_19 rfl k
theorem rF_X5_19 {q2 : Nat} (hK : Ok K X RX5 cc nL ret kk) (hd : DD cc pc (.getfield 19) 3 pc') (hq : kd q = 5) (e2 : q + 18 = q2) (k : J K X nL Z enc pc' lv (.ref (X.1 + q2) :: st) h o) : J K X nL Z enc pc lv (.ref (X.1 + q) :: st) h o := by
  subst e2
  exact gF_X5_19 hK hd hq k
theorem gF_X5_26 (hK : Ok K X RX5 cc nL ret kk) (hd : DD cc pc (.getfield 26) 3 pc') (hq : kd q = 5) (k : J K X nL Z enc pc' lv (.ref (X.1 + (q + 20)) :: st) h o) : J K X nL Z enc pc lv (.ref (X.1 + q) :: st) h o := J_get hK hd inXg5 (kd_lt hq (by decide)) rfl (j := 2) (by decide) (lay_5 X h hq) rfl kF_X5_26 rfl k
theorem rF_X5_26 {q2 : Nat} (hK : Ok K X RX5 cc nL ret kk) (hd : DD cc pc (.getfield 26) 3 pc') (hq : kd q = 5) (e2 : q + 20 = q2) (k : J K X nL Z enc pc' lv (.ref (X.1 + q2) :: st) h o) : J K X nL Z enc pc lv (.ref (X.1 + q) :: st) h o := by
  subst e2
  exact gF_X5_26 hK hd hq k
theorem gF_X5_33 (hK : Ok K X RX5 cc nL ret kk) (hd : DD cc pc (.getfield 33) 3 pc') (hq : kd q = 5) (k : J K X nL Z enc pc' lv (.ref (X.1 + (q + 27)) :: st) h o) : J K X nL Z enc pc lv (.ref (X.1 + q) :: st) h o := J_get hK hd inXg5 (kd_lt hq (by decide)) rfl (j := 3) (by decide) (lay_5 X h hq) rfl kF_X5_33 rfl k
theorem rF_X5_33 {q2 : Nat} (hK : Ok K X RX5 cc nL ret kk) (hd : DD cc pc (.getfield 33) 3 pc') (hq : kd q = 5) (e2 : q + 27 = q2) (k : J K X nL Z enc pc' lv (.ref (X.1 + q2) :: st) h o) : J K X nL Z enc pc lv (.ref (X.1 + q) :: st) h o := by
  subst e2
  exact gF_X5_33 hK hd hq k
theorem gF_X5_37 (hK : Ok K X RX5 cc nL ret kk) (hd : DD cc pc (.getfield 37) 3 pc') (hq : kd q = 5) (k : J K X nL Z enc pc' lv (.ref (X.1 + (q + 197)) :: st) h o) : J K X nL Z enc pc lv (.ref (X.1 + q) :: st) h o := J_get hK hd inXg5 (kd_lt hq (by decide)) rfl (j := 4) (by decide) (lay_5 X h hq) rfl kF_X5_37 rfl k
theorem rF_X5_37 {q2 : Nat} (hK : Ok K X RX5 cc nL ret kk) (hd : DD cc pc (.getfield 37) 3 pc') (hq : kd q = 5) (e2 : q + 197 = q2) (k : J K X nL Z enc pc' lv (.ref (X.1 + q2) :: st) h o) : J K X nL Z enc pc lv (.ref (X.1 + q) :: st) h o := by
  subst e2
  exact gF_X5_37 hK hd hq k
theorem gF_X5_41 (hK : Ok K X RX5 cc nL ret kk) (hd : DD cc pc (.getfield 41) 3 pc') (hq : kd q = 5) (k : J K X nL Z enc pc' lv (.ref (X.1 + (q + 212)) :: st) h o) : J K X nL Z enc pc lv (.ref (X.1 + q) :: st) h o := J_get hK hd inXg5 (kd_lt hq (by decide)) rfl (j := 5) (by decide) (lay_5 X h hq) rfl kF_X5_41 rfl k
theorem rF_X5_41 {q2 : Nat} (hK : Ok K X RX5 cc nL ret kk) (hd : DD cc pc (.getfield 41) 3 pc') (hq : kd q = 5) (e2 : q + 212 = q2) (k : J K X nL Z enc pc' lv (.ref (X.1 + q2) :: st) h o) : J K X nL Z enc pc lv (.ref (X.1 + q) :: st) h o := by
  subst e2
  exact gF_X5_41 hK hd hq k
theorem gF_X5_47 (hK : Ok K X RX5 cc nL ret kk) (hd : DD cc pc (.getfield 47) 3 pc') (hq : kd q = 5) (k : J K X nL Z enc pc' lv (.ref (X.1 + (q + 276)) :: st) h o) : J K X nL Z enc pc lv (.ref (X.1 + q) :: st) h o := J_get hK hd inXg5 (kd_lt hq (by decide)) rfl (j := 6) (by decide) (lay_5 X h hq) rfl kF_X5_47 rfl k
theorem rF_X5_47 {q2 : Nat} (hK : Ok K X RX5 cc nL ret kk) (hd : DD cc pc (.getfield 47) 3 pc') (hq : kd q = 5) (e2 : q + 276 = q2) (k : J K X nL Z enc pc' lv (.ref (X.1 + q2) :: st) h o) : J K X nL Z enc pc lv (.ref (X.1 + q) :: st) h o := by
  subst e2
  exact gF_X5_47 hK hd hq k
theorem gF_X5_279 (hK : Ok K X RX5 cc nL ret kk) (hd : DD cc pc (.getfield 279) 3 pc') (hq : kd q = 5) (k : J K X nL Z enc pc' lv (.int (h q 7) :: st) h o) : J K X nL Z enc pc lv (.ref (X.1 + q) :: st) h o := J_get hK hd inXg5 (kd_lt hq (by decide)) rfl (j := 7) (by decide) (lay_5 X h hq) rfl kF_X5_279 rfl k
theorem pF_X5_279 {v : Int32} {f : AH → Option (α × AH)} (hK : Ok K X RX5 cc nL ret kk) (hd : DD cc pc (.putfield 279) 3 pc') (hq : kd q = 5) (k : ∀ h1, J K X nL Z enc pc' lv st h1 (f h1)) : J K X nL Z enc pc lv (.int v :: .ref (X.1 + q) :: st) h (sto (hs h q 7 v) f) := J_put hK hd inXg5 tyX5_ok nmX5 (kd_lt hq (by decide)) rfl (j := 7) (by decide) (lay_5 X h hq) (by rw [lay_5 X _ hq]; simp [hs, hr, upd]) (Nat.le_of_ble_eq_true rfl) kF_X5_279 rfl rfl (by decide +kernel) k
theorem gF_X6_7 (hK : Ok K X RX6 cc nL ret kk) (hd : DD cc pc (.getfield 7) 3 pc') (hq : kd q = 6) (k : J K X nL Z enc pc' lv (.ref (X.1 + (q + 1)) :: st) h o) : J K X nL Z enc pc lv (.ref (X.1 + q) :: st) h o := J_get hK hd inXg6 (kd_lt hq (by decide)) rfl (j := 0) (by decide) (lay_6 X h hq) rfl kF_X6_7 rfl k
theorem rF_X6_7 {q2 : Nat} (hK : Ok K X RX6 cc nL ret kk) (hd : DD cc pc (.getfield 7) 3 pc') (hq : kd q = 6) (e2 : q + 1 = q2) (k : J K X nL Z enc pc' lv (.ref (X.1 + q2) :: st) h o) : J K X nL Z enc pc lv (.ref (X.1 + q) :: st) h o := by
  subst e2
  exact gF_X6_7 hK hd hq k
theorem gF_X6_13 (hK : Ok K X RX6 cc nL ret kk) (hd : DD cc pc (.getfield 13) 3 pc') (hq : kd q = 6) (k : J K X nL Z enc pc' lv (.ref (X.1 + (q + 2)) :: st) h o) : J K X nL Z enc pc lv (.ref (X.1 + q) :: st) h o := J_get hK hd inXg6 (kd_lt hq (by decide)) rfl (j := 1) (by decide) (lay_6 X h hq) rfl kF_X6_13 rfl k
theorem rF_X6_13 {q2 : Nat} (hK : Ok K X RX6 cc nL ret kk) (hd : DD cc pc (.getfield 13) 3 pc') (hq : kd q = 6) (e2 : q + 2 = q2) (k : J K X nL Z enc pc' lv (.ref (X.1 + q2) :: st) h o) : J K X nL Z enc pc lv (.ref (X.1 + q) :: st) h o := by
  subst e2
  exact gF_X6_13 hK hd hq k
theorem gF_X6_16 (hK : Ok K X RX6 cc nL ret kk) (hd : DD cc pc (.getfield 16) 3 pc') (hq : kd q = 6) (k : J K X nL Z enc pc' lv (.ref (X.1 + (q + 3)) :: st) h o) : J K X nL Z enc pc lv (.ref (X.1 + q) :: st) h o := J_get hK hd inXg6 (kd_lt hq (by decide)) rfl (j := 2) (by decide) (lay_6 X h hq) rfl kF_X6_16 rfl k
theorem rF_X6_16 {q2 : Nat} (hK : Ok K X RX6 cc nL ret kk) (hd : DD cc pc (.getfield 16) 3 pc') (hq : kd q = 6) (e2 : q + 3 = q2) (k : J K X nL Z enc pc' lv (.ref (X.1 + q2) :: st) h o) : J K X nL Z enc pc lv (.ref (X.1 + q) :: st) h o := by
  subst e2
  exact gF_X6_16 hK hd hq k
theorem gF_X6_19 (hK : Ok K X RX6 cc nL ret kk) (hd : DD cc pc (.getfield 19) 3 pc') (hq : kd q = 6) (k : J K X nL Z enc pc' lv (.ref (X.1 + (q + 4)) :: st) h o) : J K X nL Z enc pc lv (.ref (X.1 + q) :: st) h o := J_get hK hd inXg6 (kd_lt hq (by decide)) rfl (j := 3) (by decide) (lay_6 X h hq) rfl kF_X6_19 rfl k
theorem rF_X6_19 {q2 : Nat} (hK : Ok K X RX6 cc nL ret kk) (hd : DD cc pc (.getfield 19) 3 pc') (hq : kd q = 6) (e2 : q + 4 = q2) (k : J K X nL Z enc pc' lv (.ref (X.1 + q2) :: st) h o) : J K X nL Z enc pc lv (.ref (X.1 + q) :: st) h o := by
  subst e2
  exact gF_X6_19 hK hd hq k
theorem gF_X6_48 (hK : Ok K X RX6 cc nL ret kk) (hd : DD cc pc (.getfield 48) 3 pc') (hq : kd q = 6) (k : J K X nL Z enc pc' lv (.int (h q 4) :: st) h o) : J K X nL Z enc pc lv (.ref (X.1 + q) :: st) h o := J_get hK hd inXg6 (kd_lt hq (by decide)) rfl (j := 4) (by decide) (lay_6 X h hq) rfl kF_X6_48 rfl k
theorem pF_X6_48 {v : Int32} {f : AH → Option (α × AH)} (hK : Ok K X RX6 cc nL ret kk) (hd : DD cc pc (.putfield 48) 3 pc') (hq : kd q = 6) (k : ∀ h1, J K X nL Z enc pc' lv st h1 (f h1)) : J K X nL Z enc pc lv (.int v :: .ref (X.1 + q) :: st) h (sto (hs h q 4 v) f) := J_put hK hd inXg6 tyX6_ok nmX6 (kd_lt hq (by decide)) rfl (j := 4) (by decide) (lay_6 X h hq) (by rw [lay_6 X _ hq]; simp [hs, hr, upd]) (Nat.le_of_ble_eq_true rfl) kF_X6_48 rfl rfl (by decide +kernel) k
theorem gF_X6_22 (hK : Ok K X RX6 cc nL ret kk) (hd : DD cc pc (.getfield 22) 3 pc') (hq : kd q = 6) (k : J K X nL Z enc pc' lv (.ref (X.1 + (q + 5)) :: st) h o) : J K X nL Z enc pc lv (.ref (X.1 + q) :: st) h o := J_get hK hd inXg6 (kd_lt hq (by decide)) rfl (j := 5) (by decide) (lay_6 X h hq) rfl kF_X6_22 rfl k
theorem rF_X6_22 {q2 : Nat} (hK : Ok K X RX6 cc nL ret kk) (hd : DD cc pc (.getfield 22) 3 pc') (hq : kd q = 6) (e2 : q + 5 = q2) (k : J K X nL Z enc pc' lv (.ref (X.1 + q2) :: st) h o) : J K X nL Z enc pc lv (.ref (X.1 + q) :: st) h o := by
  subst e2
  exact gF_X6_22 hK hd hq k
theorem gF_X6_79 (hK : Ok K X RX6 cc nL ret kk) (hd : DD cc pc (.getfield 79) 3 pc') (hq : kd q = 6) (k : J K X nL Z enc pc' lv (.int (h q 6) :: st) h o) : J K X nL Z enc pc lv (.ref (X.1 + q) :: st) h o := J_get hK hd inXg6 (kd_lt hq (by decide)) rfl (j := 6) (by decide) (lay_6 X h hq) rfl kF_X6_79 rfl k
theorem pF_X6_79 {v : Int32} {f : AH → Option (α × AH)} (hK : Ok K X RX6 cc nL ret kk) (hd : DD cc pc (.putfield 79) 3 pc') (hq : kd q = 6) (k : ∀ h1, J K X nL Z enc pc' lv st h1 (f h1)) : J K X nL Z enc pc lv (.int v :: .ref (X.1 + q) :: st) h (sto (hs h q 6 v) f) := J_put hK hd inXg6 tyX6_ok nmX6 (kd_lt hq (by decide)) rfl (j := 6) (by decide) (lay_6 X h hq) (by rw [lay_6 X _ hq]; simp [hs, hr, upd]) (Nat.le_of_ble_eq_true rfl) kF_X6_79 rfl rfl (by decide +kernel) k
theorem gF_X6_105 (hK : Ok K X RX6 cc nL ret kk) (hd : DD cc pc (.getfield 105) 3 pc') (hq : kd q = 6) (k : J K X nL Z enc pc' lv (.int (h q 7) :: st) h o) : J K X nL Z enc pc lv (.ref (X.1 + q) :: st) h o := J_get hK hd inXg6 (kd_lt hq (by decide)) rfl (j := 7) (by decide) (lay_6 X h hq) rfl kF_X6_105 rfl k
theorem pF_X6_105 {v : Int32} {f : AH → Option (α × AH)} (hK : Ok K X RX6 cc nL ret kk) (hd : DD cc pc (.putfield 105) 3 pc') (hq : kd q = 6) (k : ∀ h1, J K X nL Z enc pc' lv st h1 (f h1)) : J K X nL Z enc pc lv (.int v :: .ref (X.1 + q) :: st) h (sto (hs h q 7 v) f) := J_put hK hd inXg6 tyX6_ok nmX6 (kd_lt hq (by decide)) rfl (j := 7) (by decide) (lay_6 X h hq) (by rw [lay_6 X _ hq]; simp [hs, hr, upd]) (Nat.le_of_ble_eq_true rfl) kF_X6_105 rfl rfl (by decide +kernel) k
theorem gF_X6_98 (hK : Ok K X RX6 cc nL ret kk) (hd : DD cc pc (.getfield 98) 3 pc') (hq : kd q = 6) (k : J K X nL Z enc pc' lv (.int (h q 8) :: st) h o) : J K X nL Z enc pc lv (.ref (X.1 + q) :: st) h o := J_get hK hd inXg6 (kd_lt hq (by decide)) rfl (j := 8) (by decide) (lay_6 X h hq) rfl kF_X6_98 rfl k
theorem pF_X6_98 {v : Int32} {f : AH → Option (α × AH)} (hK : Ok K X RX6 cc nL ret kk) (hd : DD cc pc (.putfield 98) 3 pc') (hq : kd q = 6) (k : ∀ h1, J K X nL Z enc pc' lv st h1 (f h1)) : J K X nL Z enc pc lv (.int v :: .ref (X.1 + q) :: st) h (sto (hs h q 8 v) f) := J_put hK hd inXg6 tyX6_ok nmX6 (kd_lt hq (by decide)) rfl (j := 8) (by decide) (lay_6 X h hq) (by rw [lay_6 X _ hq]; simp [hs, hr, upd]) (Nat.le_of_ble_eq_true rfl) kF_X6_98 rfl rfl (by decide +kernel) k
theorem gF_X6_83 (hK : Ok K X RX6 cc nL ret kk) (hd : DD cc pc (.getfield 83) 3 pc') (hq : kd q = 6) (k : J K X nL Z enc pc' lv (.int (h q 9) :: st) h o) : J K X nL Z enc pc lv (.ref (X.1 + q) :: st) h o := J_get hK hd inXg6 (kd_lt hq (by decide)) rfl (j := 9) (by decide) (lay_6 X h hq) rfl kF_X6_83 rfl k
theorem pF_X6_83 {v : Int32} {f : AH → Option (α × AH)} (hK : Ok K X RX6 cc nL ret kk) (hd : DD cc pc (.putfield 83) 3 pc') (hq : kd q = 6) (k : ∀ h1, J K X nL Z enc pc' lv st h1 (f h1)) : J K X nL Z enc pc lv (.int v :: .ref (X.1 + q) :: st) h (sto (hs h q 9 v) f) := J_put hK hd inXg6 tyX6_ok nmX6 (kd_lt hq (by decide)) rfl (j := 9) (by decide) (lay_6 X h hq) (by rw [lay_6 X _ hq]; simp [hs, hr, upd]) (Nat.le_of_ble_eq_true rfl) kF_X6_83 rfl rfl (by decide +kernel) k
theorem gF_X6_86 (hK : Ok K X RX6 cc nL ret kk) (hd : DD cc pc (.getfield 86) 3 pc') (hq : kd q = 6) (k : J K X nL Z enc pc' lv (.int (h q 10) :: st) h o) : J K X nL Z enc pc lv (.ref (X.1 + q) :: st) h o := J_get hK hd inXg6 (kd_lt hq (by decide)) rfl (j := 10) (by decide) (lay_6 X h hq) rfl kF_X6_86 rfl k
theorem pF_X6_86 {v : Int32} {f : AH → Option (α × AH)} (hK : Ok K X RX6 cc nL ret kk) (hd : DD cc pc (.putfield 86) 3 pc') (hq : kd q = 6) (k : ∀ h1, J K X nL Z enc pc' lv st h1 (f h1)) : J K X nL Z enc pc lv (.int v :: .ref (X.1 + q) :: st) h (sto (hs h q 10 v) f) := J_put hK hd inXg6 tyX6_ok nmX6 (kd_lt hq (by decide)) rfl (j := 10) (by decide) (lay_6 X h hq) (by rw [lay_6 X _ hq]; simp [hs, hr, upd]) (Nat.le_of_ble_eq_true rfl) kF_X6_86 rfl rfl (by decide +kernel) k
theorem gF_X6_95 (hK : Ok K X RX6 cc nL ret kk) (hd : DD cc pc (.getfield 95) 3 pc') (hq : kd q = 6) (k : J K X nL Z enc pc' lv (.int (h q 11) :: st) h o) : J K X nL Z enc pc lv (.ref (X.1 + q) :: st) h o := J_get hK hd inXg6 (kd_lt hq (by decide)) rfl (j := 11) (by decide) (lay_6 X h hq) rfl kF_X6_95 rfl k
theorem pF_X6_95 {v : Int32} {f : AH → Option (α × AH)} (hK : Ok K X RX6 cc nL ret kk) (hd : DD cc pc (.putfield 95) 3 pc') (hq : kd q = 6) (k : ∀ h1, J K X nL Z enc pc' lv st h1 (f h1)) : J K X nL Z enc pc lv (.int v :: .ref (X.1 + q) :: st) h (sto (hs h q 11 v) f) := J_put hK hd inXg6 tyX6_ok nmX6 (kd_lt hq (by decide)) rfl (j := 11) (by decide) (lay_6 X h hq) (by rw [lay_6 X _ hq]; simp [hs, hr, upd]) (Nat.le_of_ble_eq_true rfl) kF_X6_95 rfl rfl (by decide +kernel) k
theorem gF_X6_92 (hK : Ok K X RX6 cc nL ret kk) (hd : DD cc pc (.getfield 92) 3 pc') (hq : kd q = 6) (k : J K X nL Z enc pc' lv (.int (h q 12) :: st) h o) : J K X nL Z enc pc lv (.ref (X.1 + q) :: st) h o := J_get hK hd inXg6 (kd_lt hq (by decide)) rfl (j := 12) (by decide) (lay_6 X h hq) rfl kF_X6_92 rfl k
theorem pF_X6_92 {v : Int32} {f : AH → Option (α × AH)} (hK : Ok K X RX6 cc nL ret kk) (hd : DD cc pc (.putfield 92) 3 pc') (hq : kd q = 6) (k : ∀ h1, J K X nL Z enc pc' lv st h1 (f h1)) : J K X nL Z enc pc lv (.int v :: .ref (X.1 + q) :: st) h (sto (hs h q 12 v) f) := J_put hK hd inXg6 tyX6_ok nmX6 (kd_lt hq (by decide)) rfl (j := 12) (by decide) (lay_6 X h hq) (by rw [lay_6 X _ hq]; simp [hs, hr, upd]) (Nat.le_of_ble_eq_true rfl) kF_X6_92 rfl rfl (by decide +kernel) k
theorem gF_X6_25 (hK : Ok K X RX6 cc nL ret kk) (hd : DD cc pc (.getfield 25) 3 pc') (hq : kd q = 6) (k : J K X nL Z enc pc' lv (.ref (X.1 + (q + 6)) :: st) h o) : J K X nL Z enc pc lv (.ref (X.1 + q) :: st) h o := J_get hK hd inXg6 (kd_lt hq (by decide)) rfl (j := 13) (by decide) (lay_6 X h hq) rfl kF_X6_25 rfl k
theorem rF_X6_25 {q2 : Nat} (hK : Ok K X RX6 cc nL ret kk) (hd : DD cc pc (.getfield 25) 3 pc') (hq : kd q = 6) (e2 : q + 6 = q2) (k : J K X nL Z enc pc' lv (.ref (X.1 + q2) :: st) h o) : J K X nL Z enc pc lv (.ref (X.1 + q) :: st) h o := by
  subst e2
  exact gF_X6_25 hK hd hq k
theorem gF_X6_28 (hK : Ok K X RX6 cc nL ret kk) (hd : DD cc pc (.getfield 28) 3 pc') (hq : kd q = 6) (k : J K X nL Z enc pc' lv (.ref (X.1 + (q + 7)) :: st) h o) : J K X nL Z enc pc lv (.ref (X.1 + q) :: st) h o := J_get hK hd inXg6 (kd_lt hq (by decide)) rfl (j := 14) (by decide) (lay_6 X h hq) rfl kF_X6_28 rfl k
theorem rF_X6_28 {q2 : Nat} (hK : Ok K X RX6 cc nL ret kk) (hd : DD cc pc (.getfield 28) 3 pc') (hq : kd q = 6) (e2 : q + 7 = q2) (k : J K X nL Z enc pc' lv (.ref (X.1 + q2) :: st) h o) : J K X nL Z enc pc lv (.ref (X.1 + q) :: st) h o := by
  subst e2
  exact gF_X6_28 hK hd hq k
theorem gF_X6_31 (hK : Ok K X RX6 cc nL ret kk) (hd : DD cc pc (.getfield 31) 3 pc') (hq : kd q = 6) (k : J K X nL Z enc pc' lv (.ref (X.1 + (q + 8)) :: st) h o) : J K X nL Z enc pc lv (.ref (X.1 + q) :: st) h o := J_get hK hd inXg6 (kd_lt hq (by decide)) rfl (j := 15) (by decide) (lay_6 X h hq) rfl kF_X6_31 rfl k
theorem rF_X6_31 {q2 : Nat} (hK : Ok K X RX6 cc nL ret kk) (hd : DD cc pc (.getfield 31) 3 pc') (hq : kd q = 6) (e2 : q + 8 = q2) (k : J K X nL Z enc pc' lv (.ref (X.1 + q2) :: st) h o) : J K X nL Z enc pc lv (.ref (X.1 + q) :: st) h o := by
  subst e2
  exact gF_X6_31 hK hd hq k
theorem gF_X6_34 (hK : Ok K X RX6 cc nL ret kk) (hd : DD cc pc (.getfield 34) 3 pc') (hq : kd q = 6) (k : J K X nL Z enc pc' lv (.ref (X.1 + (q + 9)) :: st) h o) : J K X nL Z enc pc lv (.ref (X.1 + q) :: st) h o := J_get hK hd inXg6 (kd_lt hq (by decide)) rfl (j := 16) (by decide) (lay_6 X h hq) rfl kF_X6_34 rfl k
theorem rF_X6_34 {q2 : Nat} (hK : Ok K X RX6 cc nL ret kk) (hd : DD cc pc (.getfield 34) 3 pc') (hq : kd q = 6) (e2 : q + 9 = q2) (k : J K X nL Z enc pc' lv (.ref (X.1 + q2) :: st) h o) : J K X nL Z enc pc lv (.ref (X.1 + q) :: st) h o := by
  subst e2
  exact gF_X6_34 hK hd hq k
theorem gF_X6_139 (hK : Ok K X RX6 cc nL ret kk) (hd : DD cc pc (.getfield 139) 3 pc') (hq : kd q = 6) (k : J K X nL Z enc pc' lv (.int (h q 17) :: st) h o) : J K X nL Z enc pc lv (.ref (X.1 + q) :: st) h o := J_get hK hd inXg6 (kd_lt hq (by decide)) rfl (j := 17) (by decide) (lay_6 X h hq) rfl kF_X6_139 rfl k
theorem pF_X6_139 {v : Int32} {f : AH → Option (α × AH)} (hK : Ok K X RX6 cc nL ret kk) (hd : DD cc pc (.putfield 139) 3 pc') (hq : kd q = 6) (k : ∀ h1, J K X nL Z enc pc' lv st h1 (f h1)) : J K X nL Z enc pc lv (.int v :: .ref (X.1 + q) :: st) h (sto (hs h q 17 v) f) := J_put hK hd inXg6 tyX6_ok nmX6 (kd_lt hq (by decide)) rfl (j := 17) (by decide) (lay_6 X h hq) (by rw [lay_6 X _ hq]; simp [hs, hr, upd]) (Nat.le_of_ble_eq_true rfl) kF_X6_139 rfl rfl (by decide +kernel) k
theorem gF_X6_37 (hK : Ok K X RX6 cc nL ret kk) (hd : DD cc pc (.getfield 37) 3 pc') (hq : kd q = 6) (k : J K X nL Z enc pc' lv (.ref (X.1 + (q + 10)) :: st) h o) : J K X nL Z enc pc lv (.ref (X.1 + q) :: st) h o := J_get hK hd inXg6 (kd_lt hq (by decide)) rfl (j := 18) (by decide) (lay_6 X h hq) rfl kF_X6_37 rfl k
theorem rF_X6_37 {q2 : Nat} (hK : Ok K X RX6 cc nL ret kk) (hd : DD cc pc (.getfield 37) 3 pc') (hq : kd q = 6) (e2 : q + 10 = q2) (k : J K X nL Z enc pc' lv (.ref (X.1 + q2) :: st) h o) : J K X nL Z enc pc lv (.ref (X.1 + q) :: st) h o := by
  subst e2
  exact gF_X6_37 hK hd hq k
theorem gF_X6_40 (hK : Ok K X RX6 cc nL ret kk) (hd : DD cc pc (.getfield 40) 3 pc') (hq : kd q = 6) (k : J K X nL Z enc pc' lv (.ref (X.1 + (q + 11)) :: st) h o) : J K X nL Z enc pc lv (.ref (X.1 + q) :: st) h o := J_get hK hd inXg6 (kd_lt hq (by decide)) rfl (j := 19) (by decide) (lay_6 X h hq) rfl kF_X6_40 rfl k
theorem rF_X6_40 {q2 : Nat} (hK : Ok K X RX6 cc nL ret kk) (hd : DD cc pc (.getfield 40) 3 pc') (hq : kd q = 6) (e2 : q + 11 = q2) (k : J K X nL Z enc pc' lv (.ref (X.1 + q2) :: st) h o) : J K X nL Z enc pc lv (.ref (X.1 + q) :: st) h o := by
  subst e2
  exact gF_X6_40 hK hd hq k
theorem gF_X6_44 (hK : Ok K X RX6 cc nL ret kk) (hd : DD cc pc (.getfield 44) 3 pc') (hq : kd q = 6) (k : J K X nL Z enc pc' lv (.ref (X.1 + (q + 12)) :: st) h o) : J K X nL Z enc pc lv (.ref (X.1 + q) :: st) h o := J_get hK hd inXg6 (kd_lt hq (by decide)) rfl (j := 20) (by decide) (lay_6 X h hq) rfl kF_X6_44 rfl k
theorem rF_X6_44 {q2 : Nat} (hK : Ok K X RX6 cc nL ret kk) (hd : DD cc pc (.getfield 44) 3 pc') (hq : kd q = 6) (e2 : q + 12 = q2) (k : J K X nL Z enc pc' lv (.ref (X.1 + q2) :: st) h o) : J K X nL Z enc pc lv (.ref (X.1 + q) :: st) h o := by
  subst e2
  exact gF_X6_44 hK hd hq k
theorem gF_X6_220 (hK : Ok K X RX6 cc nL ret kk) (hd : DD cc pc (.getfield 220) 3 pc') (hq : kd q = 6) (k : J K X nL Z enc pc' lv (.int (h q 21) :: st) h o) : J K X nL Z enc pc lv (.ref (X.1 + q) :: st) h o := J_get hK hd inXg6 (kd_lt hq (by decide)) rfl (j := 21) (by decide) (lay_6 X h hq) rfl kF_X6_220 rfl k
theorem pF_X6_220 {v : Int32} {f : AH → Option (α × AH)} (hK : Ok K X RX6 cc nL ret kk) (hd : DD cc pc (.putfield 220) 3 pc') (hq : kd q = 6) (k : ∀ h1, J K X nL Z enc pc' lv st h1 (f h1)) : J K X nL Z enc pc lv (.int v :: .ref (X.1 + q) :: st) h (sto (hs h q 21 v) f) := J_put hK hd inXg6 tyX6_ok nmX6 (kd_lt hq (by decide)) rfl (j := 21) (by decide) (lay_6 X h hq) (by rw [lay_6 X _ hq]; simp [hs, hr, upd]) (Nat.le_of_ble_eq_true rfl) kF_X6_220 rfl rfl (by decide +kernel) k
end JF
theorem ci_m1 : Int32.ofInt (-1) = (-1 : Int32) := by decide
theorem ci_0 : Int32.ofInt (0) = (0 : Int32) := by decide
theorem ci_1 : Int32.ofInt (1) = (1 : Int32) := by decide
theorem ci_2 : Int32.ofInt (2) = (2 : Int32) := by decide
theorem ci_3 : Int32.ofInt (3) = (3 : Int32) := by decide
theorem ci_4 : Int32.ofInt (4) = (4 : Int32) := by decide
theorem ci_5 : Int32.ofInt (5) = (5 : Int32) := by decide
theorem ci_6 : Int32.ofInt (6) = (6 : Int32) := by decide
theorem cb_6 : (Int8.ofInt (6)).toInt32 = (6 : Int32) := by decide
theorem cb_7 : (Int8.ofInt (7)).toInt32 = (7 : Int32) := by decide
theorem cb_8 : (Int8.ofInt (8)).toInt32 = (8 : Int32) := by decide
theorem cb_9 : (Int8.ofInt (9)).toInt32 = (9 : Int32) := by decide
theorem cb_10 : (Int8.ofInt (10)).toInt32 = (10 : Int32) := by decide
theorem cb_11 : (Int8.ofInt (11)).toInt32 = (11 : Int32) := by decide
theorem cb_12 : (Int8.ofInt (12)).toInt32 = (12 : Int32) := by decide
theorem cb_13 : (Int8.ofInt (13)).toInt32 = (13 : Int32) := by decide
theorem cb_14 : (Int8.ofInt (14)).toInt32 = (14 : Int32) := by decide
theorem cb_16 : (Int8.ofInt (16)).toInt32 = (16 : Int32) := by decide
theorem cb_20 : (Int8.ofInt (20)).toInt32 = (20 : Int32) := by decide
theorem cb_21 : (Int8.ofInt (21)).toInt32 = (21 : Int32) := by decide
theorem cb_22 : (Int8.ofInt (22)).toInt32 = (22 : Int32) := by decide
theorem cb_23 : (Int8.ofInt (23)).toInt32 = (23 : Int32) := by decide
theorem cb_24 : (Int8.ofInt (24)).toInt32 = (24 : Int32) := by decide
theorem cb_30 : (Int8.ofInt (30)).toInt32 = (30 : Int32) := by decide
theorem cb_31 : (Int8.ofInt (31)).toInt32 = (31 : Int32) := by decide
theorem cb_35 : (Int8.ofInt (35)).toInt32 = (35 : Int32) := by decide
theorem cb_40 : (Int8.ofInt (40)).toInt32 = (40 : Int32) := by decide
theorem cb_43 : (Int8.ofInt (43)).toInt32 = (43 : Int32) := by decide
theorem cb_44 : (Int8.ofInt (44)).toInt32 = (44 : Int32) := by decide
theorem cb_48 : (Int8.ofInt (48)).toInt32 = (48 : Int32) := by decide
theorem cb_57 : (Int8.ofInt (57)).toInt32 = (57 : Int32) := by decide
theorem cb_59 : (Int8.ofInt (59)).toInt32 = (59 : Int32) := by decide
theorem cb_60 : (Int8.ofInt (60)).toInt32 = (60 : Int32) := by decide
theorem cb_61 : (Int8.ofInt (61)).toInt32 = (61 : Int32) := by decide
theorem cb_63 : (Int8.ofInt (63)).toInt32 = (63 : Int32) := by decide
theorem cb_64 : (Int8.ofInt (64)).toInt32 = (64 : Int32) := by decide
theorem cb_86 : (Int8.ofInt (86)).toInt32 = (86 : Int32) := by decide
theorem cb_90 : (Int8.ofInt (90)).toInt32 = (90 : Int32) := by decide
theorem cb_97 : (Int8.ofInt (97)).toInt32 = (97 : Int32) := by decide
theorem cb_98 : (Int8.ofInt (98)).toInt32 = (98 : Int32) := by decide
theorem cb_99 : (Int8.ofInt (99)).toInt32 = (99 : Int32) := by decide
theorem cb_100 : (Int8.ofInt (100)).toInt32 = (100 : Int32) := by decide
theorem cb_108 : (Int8.ofInt (108)).toInt32 = (108 : Int32) := by decide
theorem cb_112 : (Int8.ofInt (112)).toInt32 = (112 : Int32) := by decide
theorem cb_113 : (Int8.ofInt (113)).toInt32 = (113 : Int32) := by decide
theorem cb_115 : (Int8.ofInt (115)).toInt32 = (115 : Int32) := by decide
theorem cb_116 : (Int8.ofInt (116)).toInt32 = (116 : Int32) := by decide
theorem cb_122 : (Int8.ofInt (122)).toInt32 = (122 : Int32) := by decide
theorem cs_255 : (Int16.ofInt (255)).toInt32 = (255 : Int32) := by decide
theorem cs_320 : (Int16.ofInt (320)).toInt32 = (320 : Int32) := by decide
theorem cs_989 : (Int16.ofInt (989)).toInt32 = (989 : Int32) := by decide
theorem cs_999 : (Int16.ofInt (999)).toInt32 = (999 : Int32) := by decide
theorem cs_1000 : (Int16.ofInt (1000)).toInt32 = (1000 : Int32) := by decide
theorem cs_1032 : (Int16.ofInt (1032)).toInt32 = (1032 : Int32) := by decide
theorem cs_9999 : (Int16.ofInt (9999)).toInt32 = (9999 : Int32) := by decide
theorem kd_0 : kd 0 = 5 := by decide +kernel
theorem ln_0 : ln 0 = 0 := by decide +kernel
theorem kd_1 : kd 1 = 10 := by decide +kernel
theorem ln_1 : ln 1 = 8 := by decide +kernel
theorem kd_18 : kd 18 = 4 := by decide +kernel
theorem ln_18 : ln 18 = 0 := by decide +kernel
theorem kd_19 : kd 19 = 7 := by decide +kernel
theorem ln_19 : ln 19 = 90 := by decide +kernel
theorem kd_20 : kd 20 = 2 := by decide +kernel
theorem ln_20 : ln 20 = 0 := by decide +kernel
theorem kd_21 : kd 21 = 7 := by decide +kernel
theorem ln_21 : ln 21 = 6 := by decide +kernel
theorem kd_22 : kd 22 = 7 := by decide +kernel
theorem ln_22 : ln 22 = 6 := by decide +kernel
theorem kd_23 : kd 23 = 7 := by decide +kernel
theorem ln_23 : ln 23 = 6 := by decide +kernel
theorem kd_24 : kd 24 = 7 := by decide +kernel
theorem ln_24 : ln 24 = 6 := by decide +kernel
theorem kd_25 : kd 25 = 7 := by decide +kernel
theorem ln_25 : ln 25 = 4 := by decide +kernel
theorem kd_26 : kd 26 = 7 := by decide +kernel
theorem ln_26 : ln 26 = 4 := by decide +kernel
theorem kd_27 : kd 27 = 0 := by decide +kernel
theorem ln_27 : ln 27 = 0 := by decide +kernel
theorem kd_28 : kd 28 = 9 := by decide +kernel
theorem ln_28 : ln 28 = 24 := by decide +kernel
theorem kd_197 : kd 197 = 9 := by decide +kernel
theorem ln_197 : ln 197 = 2 := by decide +kernel
theorem kd_212 : kd 212 = 9 := by decide +kernel
theorem ln_212 : ln 212 = 9 := by decide +kernel
theorem kd_213 : kd 213 = 2 := by decide +kernel
theorem ln_213 : ln 213 = 0 := by decide +kernel
theorem kd_276 : kd 276 = 1 := by decide +kernel
theorem ln_276 : ln 276 = 0 := by decide +kernel
theorem kd_277 : kd 277 = 7 := by decide +kernel
theorem ln_277 : ln 277 = 16 := by decide +kernel
theorem kd_278 : kd 278 = 6 := by decide +kernel
theorem ln_278 : ln 278 = 0 := by decide +kernel
theorem kd_279 : kd 279 = 7 := by decide +kernel
theorem ln_279 : ln 279 = 8 := by decide +kernel
theorem kd_280 : kd 280 = 7 := by decide +kernel
theorem ln_280 : ln 280 = 8 := by decide +kernel
theorem kd_281 : kd 281 = 7 := by decide +kernel
theorem ln_281 : ln 281 = 320 := by decide +kernel
theorem kd_282 : kd 282 = 7 := by decide +kernel
theorem ln_282 : ln 282 = 40 := by decide +kernel
theorem kd_283 : kd 283 = 7 := by decide +kernel
theorem ln_283 : ln 283 = 90 := by decide +kernel
theorem kd_284 : kd 284 = 7 := by decide +kernel
theorem ln_284 : ln 284 = 43 := by decide +kernel
theorem kd_285 : kd 285 = 7 := by decide +kernel
theorem ln_285 : ln 285 = 43 := by decide +kernel
theorem kd_286 : kd 286 = 7 := by decide +kernel
theorem ln_286 : ln 286 = 43 := by decide +kernel
theorem kd_287 : kd 287 = 7 := by decide +kernel
theorem ln_287 : ln 287 = 1032 := by decide +kernel
theorem kd_288 : kd 288 = 7 := by decide +kernel
theorem ln_288 : ln 288 = 86 := by decide +kernel
theorem kd_289 : kd 289 = 8 := by decide +kernel
theorem ln_289 : ln 289 = 2 := by decide +kernel
theorem kd_290 : kd 290 = 7 := by decide +kernel
theorem ln_290 : ln 290 = 16 := by decide +kernel
theorem kdE_all : ∀ r, r < 291 → kd r = 2 → (kd (r + 1) = 7 ∧ kd (r + 2) = 7 ∧ kd (r + 3) = 7 ∧ kd (r + 4) = 7 ∧ kd (r + 5) = 7 ∧ kd (r + 6) = 7) ∧ (ln (r + 1) = 6 ∧ ln (r + 2) = 6 ∧ ln (r + 3) = 6 ∧ ln (r + 4) = 6 ∧ ln (r + 5) = 4 ∧ ln (r + 6) = 4) := by decide +kernel
theorem kdE_1 {r : Nat} (h : kd r = 2) : kd (r + 1) = 7 := (kdE_all r (kd_lt h (by decide)) h).1.1
theorem kdE_2 {r : Nat} (h : kd r = 2) : kd (r + 2) = 7 := (kdE_all r (kd_lt h (by decide)) h).1.2.1
theorem kdE_3 {r : Nat} (h : kd r = 2) : kd (r + 3) = 7 := (kdE_all r (kd_lt h (by decide)) h).1.2.2.1
theorem kdE_4 {r : Nat} (h : kd r = 2) : kd (r + 4) = 7 := (kdE_all r (kd_lt h (by decide)) h).1.2.2.2.1
theorem kdE_5 {r : Nat} (h : kd r = 2) : kd (r + 5) = 7 := (kdE_all r (kd_lt h (by decide)) h).1.2.2.2.2.1
theorem kdE_6 {r : Nat} (h : kd r = 2) : kd (r + 6) = 7 := (kdE_all r (kd_lt h (by decide)) h).1.2.2.2.2.2
theorem lnE_1 {r : Nat} (h : kd r = 2) : ln (r + 1) = 6 := (kdE_all r (kd_lt h (by decide)) h).2.1
theorem lnE_2 {r : Nat} (h : kd r = 2) : ln (r + 2) = 6 := (kdE_all r (kd_lt h (by decide)) h).2.2.1
theorem lnE_3 {r : Nat} (h : kd r = 2) : ln (r + 3) = 6 := (kdE_all r (kd_lt h (by decide)) h).2.2.2.1
theorem lnE_4 {r : Nat} (h : kd r = 2) : ln (r + 4) = 6 := (kdE_all r (kd_lt h (by decide)) h).2.2.2.2.1
theorem lnE_5 {r : Nat} (h : kd r = 2) : ln (r + 5) = 4 := (kdE_all r (kd_lt h (by decide)) h).2.2.2.2.2.1
theorem lnE_6 {r : Nat} (h : kd r = 2) : ln (r + 6) = 4 := (kdE_all r (kd_lt h (by decide)) h).2.2.2.2.2.2
theorem kdR_all : ∀ r, r < 291 → kd r = 3 → kd (r + 1) = 7 ∧ ln (r + 1) = 40 := by decide +kernel
theorem kdR_1 {r : Nat} (h : kd r = 3) : kd (r + 1) = 7 := (kdR_all r (kd_lt h (by decide)) h).1
theorem lnR_1 {r : Nat} (h : kd r = 3) : ln (r + 1) = 40 := (kdR_all r (kd_lt h (by decide)) h).2
theorem inb_lt {i : Int32} {n : Nat} (h : inb i n) : i.toNatClampNeg < n := Nat.not_le.mp fun q => h (Or.inr q)
theorem kdA_28 {i : Int32} (h : inb i (ln 28)) : kd (28 + 1 + 7 * i.toNatClampNeg) = 2 := by
  have key : ∀ j, j < 24 → kd (28 + 1 + 7 * j) = 2 := by decide +kernel
  rw [ln_28] at h
  exact key _ (inb_lt h)
theorem kdA_197 {i : Int32} (h : inb i (ln 197)) : kd (197 + 1 + 7 * i.toNatClampNeg) = 2 := by
  have key : ∀ j, j < 2 → kd (197 + 1 + 7 * j) = 2 := by decide +kernel
  rw [ln_197] at h
  exact key _ (inb_lt h)
theorem kdA_212 {i : Int32} (h : inb i (ln 212)) : kd (212 + 1 + 7 * i.toNatClampNeg) = 2 := by
  have key : ∀ j, j < 9 → kd (212 + 1 + 7 * j) = 2 := by decide +kernel
  rw [ln_212] at h
  exact key _ (inb_lt h)
theorem kdA_1 {i : Int32} (h : inb i (ln 1)) : kd (1 + 1 + 2 * i.toNatClampNeg) = 3 := by
  have key : ∀ j, j < 8 → kd (1 + 1 + 2 * j) = 3 := by decide +kernel
  rw [ln_1] at h
  exact key _ (inb_lt h)
theorem kA_X5_86 : Cond.methodLink RX5 86 arraycopyName ∈ lw_tbl := List.mem_of_getElem? (i := 289) (by decide +kernel)
theorem kA_X2_49 : Cond.methodLink RX2 49 arraycopyName ∈ lw_tbl := List.mem_of_getElem? (i := 377) (by decide +kernel)
theorem kA_X2_59 : Cond.methodLink RX2 59 Lib.Math.min.name ∈ lw_tbl := List.mem_of_getElem? (i := 412) (by decide +kernel)
theorem kA_X2_88 : Cond.methodLink RX2 88 Lib.Math.max.name ∈ lw_tbl := List.mem_of_getElem? (i := 439) (by decide +kernel)
theorem kA_nat : Cond.native arraycopyName ∈ lw_tbl := List.mem_of_getElem? (i := 291) (by decide +kernel)
theorem kA_st : Cond.static arraycopyName ∈ lw_tbl := List.mem_of_getElem? (i := 290) (by decide +kernel)
theorem kA_in : Cond.initialized "java/lang/System" ∈ lw_tbl := List.mem_of_getElem? (i := 64) (by decide +kernel)
theorem kA_im : Cond.initialized "java/lang/Math" ∈ lw_tbl := List.mem_of_getElem? (i := 65) (by decide +kernel)
theorem kA_smin : Cond.static Lib.Math.min.name ∈ lw_tbl := List.mem_of_getElem? (i := 413) (by decide +kernel)
theorem kA_cmin : Cond.code Lib.Math.min.name Lib.Math.min.code 2 (some .int) ∈ lw_tbl := List.mem_of_getElem? (i := 414) (by decide +kernel)
theorem kA_smax : Cond.static Lib.Math.max.name ∈ lw_tbl := List.mem_of_getElem? (i := 440) (by decide +kernel)
theorem kA_cmax : Cond.code Lib.Math.max.name Lib.Math.max.code 2 (some .int) ∈ lw_tbl := List.mem_of_getElem? (i := 441) (by decide +kernel)
def FU : Nat := 2000
theorem nl0 {x : Int32} : ∀ w ∈ ([] : List Int32), ¬ x = w := fun _ h => by cases h
theorem nl1 {x v : Int32} {vs : List Int32} (h : ¬ x = v) (t : ∀ w ∈ vs, ¬ x = w) : ∀ w ∈ v :: vs, ¬ x = w := List.forall_mem_cons.mpr ⟨h, t⟩
theorem tbl_out {x : Int32} {lo hi : Int} (vs : List Int32) (hc : hi < lo + vs.length ∧ ∀ k, k < vs.length → (vs.getD k 0).toInt = lo + k) (hn : ∀ w ∈ vs, ¬ x = w) : x.toInt < lo ∨ hi < x.toInt := by
  by_cases h : x.toInt < lo
  · exact Or.inl h
  · by_cases h2 : hi < x.toInt
    · exact Or.inr h2
    · exfalso
      have h3 : (x.toInt - lo).toNat < vs.length := by omega
      have h4 := hc.2 _ h3
      have h5 : (vs.getD (x.toInt - lo).toNat 0).toInt = x.toInt := by omega
      have h6 : vs.getD (x.toInt - lo).toNat 0 ∈ vs := by
        rw [List.getD_eq_getElem?_getD, List.getElem?_eq_getElem h3]
        exact List.getElem_mem h3
      exact hn _ h6 (Int32.toInt_inj.mp h5.symm)
theorem lk_out {x : Int32} {d : Int} : ∀ (ps : List (Int × Int)) (vs : List Int32), ps.map (·.1) = vs.map Int32.toInt → (∀ w ∈ vs, ¬ x = w) → Op.lookupswitch.offset ps d x.toInt = d
  | [], _, _, _ => rfl
  | (a, o) :: r, [], h, _ => by cases h
  | (a, o) :: r, v :: vs, h, hn => by
    have h1 : a = v.toInt ∧ r.map (·.1) = vs.map Int32.toInt := by simpa using h
    have h2 : ¬ a = x.toInt := fun e => hn v List.mem_cons_self (Int32.toInt_inj.mp (e.symm.trans h1.1))
    show (if a = x.toInt then o else Op.lookupswitch.offset r d x.toInt) = d
    rw [if_neg h2]
    exact lk_out r vs h1.2 (fun w hw => hn w (List.mem_cons_of_mem _ hw))
