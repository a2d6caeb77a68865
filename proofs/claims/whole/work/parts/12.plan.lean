def M_X2_remember : MI := (yX2_remember, cX2_remember, 2, none, false, 2, 0, 0)
theorem lkm_X2_remember : LkM M_X2_remember 1 := ⟨(lg_mem 55 (by decide +kernel) rfl), (lg_mem 428 (by decide +kernel) rfl), ⟨by decide, by decide, by decide +kernel⟩, (Nat.le_of_ble_eq_true rfl)⟩
def M_X2_restore : MI := (yX2_restore, cX2_restore, 2, none, false, 2, 0, 0)
theorem lkm_X2_restore : LkM M_X2_restore 1 := ⟨(lg_mem 55 (by decide +kernel) rfl), (lg_mem 489 (by decide +kernel) rfl), ⟨by decide, by decide, by decide +kernel⟩, (Nat.le_of_ble_eq_true rfl)⟩
def M_X3_weighAll : MI := (yX3_weighAll, cX3_weighAll, 6, none, false, 2, 0, 0)
theorem lkm_X3_weighAll : LkM M_X3_weighAll 2 := ⟨(lg_mem 57 (by decide +kernel) rfl), (lg_mem 525 (by decide +kernel) rfl), ⟨by decide, by decide, by decide +kernel⟩, (Nat.le_of_ble_eq_true rfl)⟩
def M_X3_tryFrom (rr : Nat) : MI := (yX3_tryFrom, cX3_tryFrom, 6, none, false, rr + 1, 0, 0)
theorem lkm0_X3_tryFrom : LkM (M_X3_tryFrom 0) 4 := ⟨(lg_mem 57 (by decide +kernel) rfl), (lg_mem 531 (by decide +kernel) rfl), ⟨by decide, by decide, by decide +kernel⟩, (Nat.le_of_ble_eq_true rfl)⟩
theorem lkm_X3_tryFrom (rr : Nat) : LkM (M_X3_tryFrom rr) 4 := lkm0_X3_tryFrom
def M_X3_search : MI := (yX3_search, cX3_search, 3, none, false, 10, 0, 0)
theorem lkm_X3_search : LkM M_X3_search 2 := ⟨(lg_mem 57 (by decide +kernel) rfl), (lg_mem 521 (by decide +kernel) rfl), ⟨by decide, by decide, by decide +kernel⟩, (Nat.le_of_ble_eq_true rfl)⟩
theorem fl_X2_11 : Cond.fieldLink RX2 11 (TX2 0).1 (TX2 0).2.1 (TX2 0).2.2.1 ∈ lw_good := (lg_mem 193 (by decide +kernel) rfl)
theorem fl_X2_18 : Cond.fieldLink RX2 18 (TX2 1).1 (TX2 1).2.1 (TX2 1).2.2.1 ∈ lw_good := (lg_mem 194 (by decide +kernel) rfl)
theorem fl_X2_26 : Cond.fieldLink RX2 26 (TX2 2).1 (TX2 2).2.1 (TX2 2).2.2.1 ∈ lw_good := (lg_mem 195 (by decide +kernel) rfl)
theorem lkmin_X2_29 : Cond.methodLink RX2 29 Lib.Math.min.name ∈ lw_good := (lg_mem 433 (by decide +kernel) rfl)
theorem lkv_X2_22 : LkV RX2 22 M_X5_become := ⟨(lg_mem 429 (by decide +kernel) rfl), (lg_mem 430 (by decide +kernel) rfl), (lg_mem 431 (by decide +kernel) rfl)⟩
theorem fl_X3_33 : Cond.fieldLink RX3 33 (TX0 0).1 (TX0 0).2.1 (TX0 0).2.2.1 ∈ lw_good := (lg_mem 110 (by decide +kernel) rfl)
theorem fl_X3_38 : Cond.fieldLink RX3 38 (TX0 5).1 (TX0 5).2.1 (TX0 5).2.2.1 ∈ lw_good := (lg_mem 129 (by decide +kernel) rfl)
theorem fl_X3_41 : Cond.fieldLink RX3 41 (TX5 0).1 (TX5 0).2.1 (TX5 0).2.2.1 ∈ lw_good := (lg_mem 162 (by decide +kernel) rfl)
theorem fl_X3_50 : Cond.fieldLink RX3 50 (TX0 3).1 (TX0 3).2.1 (TX0 3).2.2.1 ∈ lw_good := (lg_mem 121 (by decide +kernel) rfl)
theorem fl_X3_18 : Cond.fieldLink RX3 18 (TX3 3).1 (TX3 3).2.1 (TX3 3).2.2.1 ∈ lw_good := (lg_mem 236 (by decide +kernel) rfl)
theorem fl_X3_53 : Cond.fieldLink RX3 53 (TX5 1).1 (TX5 1).2.1 (TX5 1).2.2.1 ∈ lw_good := (lg_mem 165 (by decide +kernel) rfl)
theorem lkmin_X3_56 : Cond.methodLink RX3 56 Lib.Math.min.name ∈ lw_good := (lg_mem 527 (by decide +kernel) rfl)
theorem lkv_X3_46 : LkV RX3 46 M_X0_burden := ⟨(lg_mem 526 (by decide +kernel) rfl), (lg_mem 461 (by decide +kernel) rfl), (lg_mem 462 (by decide +kernel) rfl)⟩
theorem fl_X3_25 : Cond.fieldLink RX3 25 (TX3 0).1 (TX3 0).2.1 (TX3 0).2.2.1 ∈ lw_good := (lg_mem 231 (by decide +kernel) rfl)
theorem fl_X3_15 : Cond.fieldLink RX3 15 (TX3 2).1 (TX3 2).2.1 (TX3 2).2.2.1 ∈ lw_good := (lg_mem 235 (by decide +kernel) rfl)
theorem lkmax_X3_67 : Cond.methodLink RX3 67 Lib.Math.max.name ∈ lw_good := (lg_mem 533 (by decide +kernel) rfl)
theorem fl_X3_9 : Cond.fieldLink RX3 9 (TX3 1).1 (TX3 1).2.1 (TX3 1).2.2.1 ∈ lw_good := (lg_mem 233 (by decide +kernel) rfl)
theorem lkcp_X3_61 : Cond.methodLink RX3 61 arraycopyName ∈ lw_good := (lg_mem 532 (by decide +kernel) rfl)
theorem lkv_X3_29 : ∀ rr : Nat, LkV RX3 29 (M_X3_tryFrom rr) := by
  intro rr
  show Cond.methodLink RX3 29 yX3_tryFrom ∈ lw_good ∧ Cond.instanceMethod yX3_tryFrom ∈ lw_good ∧ Cond.selects (yX3_tryFrom).cls yX3_tryFrom yX3_tryFrom ∈ lw_good
  exact ⟨(lg_mem 528 (by decide +kernel) rfl), (lg_mem 530 (by decide +kernel) rfl), (lg_mem 13 (by decide +kernel) rfl)⟩
theorem lkv_X3_21 : LkV RX3 21 M_X3_weighAll := ⟨(lg_mem 522 (by decide +kernel) rfl), (lg_mem 524 (by decide +kernel) rfl), (lg_mem 12 (by decide +kernel) rfl)⟩
-- PostRelief$Past.remember(LPostRelief$Watch;)V
def f_X2_remember (N : Nat) (w_hour : Int32) (w_debts : FN) (w_guards : FN) (w_stood : FN) (w_served : FN) (p_next : Int32) (p_known : Int32) (P_pw : (Nat → WtT)) : Option (Int32 × Int32 × (Nat → WtT)) :=
  (if ix p_next 10 = true then ((f_X5_become N ((P_pw (ci p_next)).1) ((P_pw (ci p_next)).2.1) ((P_pw (ci p_next)).2.2.1) ((P_pw (ci p_next)).2.2.2.1) ((P_pw (ci p_next)).2.2.2.2) w_hour w_debts w_guards w_stood w_served).bind fun z3 => some (((p_next + 1) % 10), (if (p_known + 1) < 10 then (p_known + 1) else 10), (updT P_pw (ci p_next) (z3.1, z3.2.1, z3.2.2.1, z3.2.2.2.1, z3.2.2.2.2)))) else none)
set_option maxHeartbeats 4000000 in
set_option maxRecDepth 100000 in
theorem m_X2_remember {γ : GX} {n : Nat} {N : Nat} {h : HP} {w_hour : Int32} {w_debts : FN} {w_guards : FN} {w_stood : FN} {w_served : FN} {p_next : Int32} {p_known : Int32} {P_pw : (Nat → WtT)} (hH_w : Has n 11 (wtB γ 11 w_hour w_debts w_guards w_stood w_served) h) (hH_p : Has n 21 (paB γ 21 p_next p_known) h) (hH_P : Has n 23 (pwB γ 23 P_pw) h) {z : Int32 × Int32 × (Nat → WtT)} (hf : f_X2_remember N w_hour w_debts w_guards w_stood w_served p_next p_known P_pw = some z)  : Ct γ M_X2_remember n h [.ref (gB γ + 21), .ref (gB γ + 11)] (Done none n (put 21 (paB γ 21 z.1 z.2.1) (put 23 (pwB γ 23 z.2.2) h))) := by
  have hn_p : 21 + 2 ≤ n := hH_p.1
  have hn_P : 23 + 50 ≤ n := hH_P.1
  refine Ct.heap (h := (put 21 (paB γ 21 p_next p_known) (put 23 (pwB γ 23 P_pw) h))) ((congrArg (put 21 (paB γ 21 p_next p_known)) (put_self hH_P)).trans (put_self hH_p)).symm ?_
  refine Ct_of_Ev (by decide) (fun h => by cases h) (Nat.le_of_ble_eq_true rfl) ?_
  show Ev γ M_X2_remember (0, 0) n (put 21 (paB γ 21 p_next p_known) (put 23 (pwB γ 23 P_pw) h)) [(0, .ref (gB γ + 21)), (1, .ref (gB γ + 11))] 0 [] _
  unfold f_X2_remember at hf
  refine E_aload_n 0 dX2_remember_0 (q := 1) rfl rfl rfl ?_
  have hF1 : Has n 21 (paB γ 21 p_next p_known) (put 21 (paB γ 21 p_next p_known) (put 23 (pwB γ 23 P_pw) h)) := (has_put hn_p)
  refine E_get 0 dX2_remember_1 (q := 4) rfl ckX2 (Nat.le_of_ble_eq_true rfl) fl_X2_11 (hF1.at 0 rfl) (hF1.lt 0 (Nat.le_of_ble_eq_true rfl)) rfl ?_
  refine E_aload_n 0 dX2_remember_4 (q := 5) rfl rfl rfl ?_
  refine E_get 1 dX2_remember_5 (q := 8) rfl ckX2 (Nat.le_of_ble_eq_true rfl) fl_X2_18 (hF1.at 0 rfl) (hF1.lt 0 (Nat.le_of_ble_eq_true rfl)) rfl ?_
  obtain ⟨g2, hf⟩ := gd hf
  refine E_wald (v := .ref (gB γ + (23 + 5 * ci p_next))) dX2_remember_8 (q := 9) rfl (hF1.at 1 rfl) (hF1.lt 1 (Nat.le_of_ble_eq_true rfl)) g2 rfl ?_
  refine E_aload_n 1 dX2_remember_9 (q := 10) rfl rfl rfl ?_
  obtain ⟨z3, hxz3, hf⟩ := bnd hf
  have hF4 : Has n 23 (pwB γ 23 P_pw) (put 21 (paB γ 21 p_next p_known) (put 23 (pwB γ 23 P_pw) h)) := (has_out (has_put hn_P) (Or.inr (Nat.le_of_ble_eq_true rfl)))
  have hF5 : Has n 11 (wtB γ 11 w_hour w_debts w_guards w_stood w_served) (put 21 (paB γ 21 p_next p_known) (put 23 (pwB γ 23 P_pw) h)) := (has_out (has_out hH_w (Or.inl (Nat.le_of_ble_eq_true rfl))) (Or.inl (Nat.le_of_ble_eq_true rfl)))
  refine E_cV (as := [.ref (gB γ + 11)]) (k := (23 + 5 * ci p_next)) (rest := []) (u' := (0, 0)) (st' := []) dX2_remember_10 (q := 13) rfl lkm_X5_become lkv_X2_22 (Nat.le_of_ble_eq_true rfl) ckX5 ((fam_has hF4 (ix_lt g2)).at 0 rfl) ((fam_has hF4 (ix_lt g2)).lt 0 (Nat.le_of_ble_eq_true rfl)) ⟨Nat.le_refl _, Nat.le_refl _⟩ (Nat.le_of_ble_eq_true rfl) rfl rfl (m_X5_become (N := N)  (by omega) (by omega) (fam_has hF4 (ix_lt g2)) hF5 hxz3) rfl rfl rfl ?_
  refine Ev.heap ((put_comm (by show _ ∨ _; first | exact Or.inl (by show (23 + 5 * ci p_next) + 5 ≤ 21; omega) | exact Or.inr (by show 21 + 2 ≤ (23 + 5 * ci p_next); omega))).trans (congrArg (put 21 (paB γ 21 p_next p_known)) (fam_put (ix_lt g2)))) ?_
  refine E_aload_n 0 dX2_remember_13 (q := 14) rfl rfl rfl ?_
  refine E_aload_n 0 dX2_remember_14 (q := 15) rfl rfl rfl ?_
  have hF7 : Has n 21 (paB γ 21 p_next p_known) (put 21 (paB γ 21 p_next p_known) (put 23 (pwB γ 23 (updT P_pw (ci p_next) (z3.1, z3.2.1, z3.2.2.1, z3.2.2.2.1, z3.2.2.2.2))) h)) := (has_put hn_p)
  refine E_get 1 dX2_remember_15 (q := 18) rfl ckX2 (Nat.le_of_ble_eq_true rfl) fl_X2_18 (hF7.at 0 rfl) (hF7.lt 0 (Nat.le_of_ble_eq_true rfl)) rfl ?_
  refine E_iconst (x := 1) dX2_remember_18 (q := 19) rfl (by decide) ?_
  refine E_iadd dX2_remember_19 (q := 20) rfl ?_
  refine E_bipush (x := 10) dX2_remember_20 (q := 22) rfl (by decide) ?_
  refine E_irem dX2_remember_22 (q := 23) rfl (by decide) ?_
  refine E_put 1 dX2_remember_23 (q := 26) rfl ckX2 (Nat.le_of_ble_eq_true rfl) fl_X2_18 rfl rfl rfl (hF7.at 0 rfl) (hF7.lt 0 (Nat.le_of_ble_eq_true rfl)) (Nat.le_of_ble_eq_true rfl) (up_put (i := 0) (cs' := (paB γ 21 ((p_next + 1) % 10) p_known)) (Nat.le_of_ble_eq_true rfl) rfl) ?_
  refine E_aload_n 0 dX2_remember_26 (q := 27) rfl rfl rfl ?_
  refine E_aload_n 0 dX2_remember_27 (q := 28) rfl rfl rfl ?_
  have hF9 : Has n 21 (paB γ 21 ((p_next + 1) % 10) p_known) (put 21 (paB γ 21 ((p_next + 1) % 10) p_known) (put 23 (pwB γ 23 (updT P_pw (ci p_next) (z3.1, z3.2.1, z3.2.2.1, z3.2.2.2.1, z3.2.2.2.2))) h)) := (has_put hn_p)
  refine E_get 2 dX2_remember_28 (q := 31) rfl ckX2 (Nat.le_of_ble_eq_true rfl) fl_X2_26 (hF9.at 0 rfl) (hF9.lt 0 (Nat.le_of_ble_eq_true rfl)) rfl ?_
  refine E_iconst (x := 1) dX2_remember_31 (q := 32) rfl (by decide) ?_
  refine E_iadd dX2_remember_32 (q := 33) rfl ?_
  refine E_bipush (x := 10) dX2_remember_33 (q := 35) rfl (by decide) ?_
  refine E_min dX2_remember_35 (q := 38) rfl lkmin_X2_29 st_min in_math co_min (Nat.le_of_ble_eq_true rfl) (Nat.le_of_ble_eq_true rfl) ?_
  refine E_put 2 dX2_remember_38 (q := 41) rfl ckX2 (Nat.le_of_ble_eq_true rfl) fl_X2_26 rfl rfl rfl (hF9.at 0 rfl) (hF9.lt 0 (Nat.le_of_ble_eq_true rfl)) (Nat.le_of_ble_eq_true rfl) (up_put (i := 0) (cs' := (paB γ 21 ((p_next + 1) % 10) (if (p_known + 1) < 10 then (p_known + 1) else 10))) (Nat.le_of_ble_eq_true rfl) rfl) ?_
  obtain rfl := Option.some.inj hf
  exact E_vret dX2_remember_41 rfl ⟨rfl, rfl, rfl⟩

-- PostRelief$Past.restore(LPostRelief$Watch;)V
def f_X2_restore (N : Nat) (w_hour : Int32) (w_debts : FN) (w_guards : FN) (w_stood : FN) (w_served : FN) (p_next : Int32) (p_known : Int32) (P_pw : (Nat → WtT)) : Option (Int32 × FN × FN × FN × FN × Int32 × Int32) :=
  (if ix (((p_next + 10) - 1) % 10) 10 = true then ((f_X5_become N w_hour w_debts w_guards w_stood w_served ((P_pw (ci (((p_next + 10) - 1) % 10))).1) ((P_pw (ci (((p_next + 10) - 1) % 10))).2.1) ((P_pw (ci (((p_next + 10) - 1) % 10))).2.2.1) ((P_pw (ci (((p_next + 10) - 1) % 10))).2.2.2.1) ((P_pw (ci (((p_next + 10) - 1) % 10))).2.2.2.2)).bind fun z5 => some (z5.1, z5.2.1, z5.2.2.1, z5.2.2.2.1, z5.2.2.2.2, (((p_next + 10) - 1) % 10), (p_known - 1))) else none)
set_option maxHeartbeats 4000000 in
set_option maxRecDepth 100000 in
theorem m_X2_restore {γ : GX} {n : Nat} {N : Nat} {h : HP} {w_hour : Int32} {w_debts : FN} {w_guards : FN} {w_stood : FN} {w_served : FN} {p_next : Int32} {p_known : Int32} {P_pw : (Nat → WtT)} (hH_w : Has n 11 (wtB γ 11 w_hour w_debts w_guards w_stood w_served) h) (hH_p : Has n 21 (paB γ 21 p_next p_known) h) (hH_P : Has n 23 (pwB γ 23 P_pw) h) {z : Int32 × FN × FN × FN × FN × Int32 × Int32} (hf : f_X2_restore N w_hour w_debts w_guards w_stood w_served p_next p_known P_pw = some z)  : Ct γ M_X2_restore n h [.ref (gB γ + 21), .ref (gB γ + 11)] (Done none n (put 11 (wtB γ 11 z.1 z.2.1 z.2.2.1 z.2.2.2.1 z.2.2.2.2.1) (put 21 (paB γ 21 z.2.2.2.2.2.1 z.2.2.2.2.2.2) h))) := by
  have hn_w : 11 + 5 ≤ n := hH_w.1
  have hn_p : 21 + 2 ≤ n := hH_p.1
  refine Ct.heap (h := (put 11 (wtB γ 11 w_hour w_debts w_guards w_stood w_served) (put 21 (paB γ 21 p_next p_known) h))) ((congrArg (put 11 (wtB γ 11 w_hour w_debts w_guards w_stood w_served)) (put_self hH_p)).trans (put_self hH_w)).symm ?_
  refine Ct_of_Ev (by decide) (fun h => by cases h) (Nat.le_of_ble_eq_true rfl) ?_
  show Ev γ M_X2_restore (0, 0) n (put 11 (wtB γ 11 w_hour w_debts w_guards w_stood w_served) (put 21 (paB γ 21 p_next p_known) h)) [(0, .ref (gB γ + 21)), (1, .ref (gB γ + 11))] 0 [] _
  unfold f_X2_restore at hf
  refine E_aload_n 0 dX2_restore_0 (q := 1) rfl rfl rfl ?_
  refine E_aload_n 0 dX2_restore_1 (q := 2) rfl rfl rfl ?_
  have hF1 : Has n 21 (paB γ 21 p_next p_known) (put 11 (wtB γ 11 w_hour w_debts w_guards w_stood w_served) (put 21 (paB γ 21 p_next p_known) h)) := (has_out (has_put hn_p) (Or.inr (Nat.le_of_ble_eq_true rfl)))
  refine E_get 1 dX2_restore_2 (q := 5) rfl ckX2 (Nat.le_of_ble_eq_true rfl) fl_X2_18 (hF1.at 0 rfl) (hF1.lt 0 (Nat.le_of_ble_eq_true rfl)) rfl ?_
  refine E_bipush (x := 10) dX2_restore_5 (q := 7) rfl (by decide) ?_
  refine E_iadd dX2_restore_7 (q := 8) rfl ?_
  refine E_iconst (x := 1) dX2_restore_8 (q := 9) rfl (by decide) ?_
  refine E_isub dX2_restore_9 (q := 10) rfl ?_
  refine E_bipush (x := 10) dX2_restore_10 (q := 12) rfl (by decide) ?_
  refine E_irem dX2_restore_12 (q := 13) rfl (by decide) ?_
  refine E_put 1 dX2_restore_13 (q := 16) rfl ckX2 (Nat.le_of_ble_eq_true rfl) fl_X2_18 rfl rfl rfl (hF1.at 0 rfl) (hF1.lt 0 (Nat.le_of_ble_eq_true rfl)) (Nat.le_of_ble_eq_true rfl) ((up_put_out (Or.inr (Nat.le_of_ble_eq_true rfl))).trans (congrArg (put 11 (wtB γ 11 w_hour w_debts w_guards w_stood w_served)) (up_put (i := 0) (cs' := (paB γ 21 (((p_next + 10) - 1) % 10) p_known)) (Nat.le_of_ble_eq_true rfl) rfl))) ?_
  refine E_aload_n 1 dX2_restore_16 (q := 17) rfl rfl rfl ?_
  refine E_aload_n 0 dX2_restore_17 (q := 18) rfl rfl rfl ?_
  have hF3 : Has n 21 (paB γ 21 (((p_next + 10) - 1) % 10) p_known) (put 11 (wtB γ 11 w_hour w_debts w_guards w_stood w_served) (put 21 (paB γ 21 (((p_next + 10) - 1) % 10) p_known) h)) := (has_out (has_put hn_p) (Or.inr (Nat.le_of_ble_eq_true rfl)))
  refine E_get 0 dX2_restore_18 (q := 21) rfl ckX2 (Nat.le_of_ble_eq_true rfl) fl_X2_11 (hF3.at 0 rfl) (hF3.lt 0 (Nat.le_of_ble_eq_true rfl)) rfl ?_
  refine E_aload_n 0 dX2_restore_21 (q := 22) rfl rfl rfl ?_
  refine E_get 1 dX2_restore_22 (q := 25) rfl ckX2 (Nat.le_of_ble_eq_true rfl) fl_X2_18 (hF3.at 0 rfl) (hF3.lt 0 (Nat.le_of_ble_eq_true rfl)) rfl ?_
  obtain ⟨g4, hf⟩ := gd hf
  refine E_wald (v := .ref (gB γ + (23 + 5 * ci (((p_next + 10) - 1) % 10)))) dX2_restore_25 (q := 26) rfl (hF3.at 1 rfl) (hF3.lt 1 (Nat.le_of_ble_eq_true rfl)) g4 rfl ?_
  obtain ⟨z5, hxz5, hf⟩ := bnd hf
  have hF6 : Has n 11 (wtB γ 11 w_hour w_debts w_guards w_stood w_served) (put 11 (wtB γ 11 w_hour w_debts w_guards w_stood w_served) (put 21 (paB γ 21 (((p_next + 10) - 1) % 10) p_known) h)) := (has_put hn_w)
  have hF7 : Has n 23 (pwB γ 23 P_pw) (put 11 (wtB γ 11 w_hour w_debts w_guards w_stood w_served) (put 21 (paB γ 21 (((p_next + 10) - 1) % 10) p_known) h)) := (has_out (has_out hH_P (Or.inr (Nat.le_of_ble_eq_true rfl))) (Or.inr (Nat.le_of_ble_eq_true rfl)))
  refine E_cV (as := [.ref (gB γ + (23 + 5 * ci (((p_next + 10) - 1) % 10)))]) (k := 11) (rest := []) (u' := (0, 0)) (st' := []) dX2_restore_26 (q := 29) rfl lkm_X5_become lkv_X2_22 (Nat.le_of_ble_eq_true rfl) ckX5 (hF6.at 0 rfl) (hF6.lt 0 (Nat.le_of_ble_eq_true rfl)) ⟨Nat.le_refl _, Nat.le_refl _⟩ (Nat.le_of_ble_eq_true rfl) rfl rfl (m_X5_become (N := N)  (Nat.le_of_ble_eq_true rfl) (by omega) hF6 (fam_has hF7 (ix_lt g4)) hxz5) rfl rfl rfl ?_
  refine Ev.heap (put_put (k := 11) (cs := (wtB γ 11 w_hour w_debts w_guards w_stood w_served)) (cs' := (wtB γ 11 z5.1 z5.2.1 z5.2.2.1 z5.2.2.2.1 z5.2.2.2.2)) (show (5 : Nat) = 5 from rfl)) ?_
  refine E_aload_n 0 dX2_restore_29 (q := 30) rfl rfl rfl ?_
  refine E_dup dX2_restore_30 (q := 31) rfl rfl ?_
  have hF9 : Has n 21 (paB γ 21 (((p_next + 10) - 1) % 10) p_known) (put 11 (wtB γ 11 z5.1 z5.2.1 z5.2.2.1 z5.2.2.2.1 z5.2.2.2.2) (put 21 (paB γ 21 (((p_next + 10) - 1) % 10) p_known) h)) := (has_out (has_put hn_p) (Or.inr (Nat.le_of_ble_eq_true rfl)))
  refine E_get 2 dX2_restore_31 (q := 34) rfl ckX2 (Nat.le_of_ble_eq_true rfl) fl_X2_26 (hF9.at 0 rfl) (hF9.lt 0 (Nat.le_of_ble_eq_true rfl)) rfl ?_
  refine E_iconst (x := 1) dX2_restore_34 (q := 35) rfl (by decide) ?_
  refine E_isub dX2_restore_35 (q := 36) rfl ?_
  refine E_put 2 dX2_restore_36 (q := 39) rfl ckX2 (Nat.le_of_ble_eq_true rfl) fl_X2_26 rfl rfl rfl (hF9.at 0 rfl) (hF9.lt 0 (Nat.le_of_ble_eq_true rfl)) (Nat.le_of_ble_eq_true rfl) ((up_put_out (Or.inr (Nat.le_of_ble_eq_true rfl))).trans (congrArg (put 11 (wtB γ 11 z5.1 z5.2.1 z5.2.2.1 z5.2.2.2.1 z5.2.2.2.2)) (up_put (i := 0) (cs' := (paB γ 21 (((p_next + 10) - 1) % 10) (p_known - 1))) (Nat.le_of_ble_eq_true rfl) rfl))) ?_
  obtain rfl := Option.some.inj hf
  exact E_vret dX2_restore_39 rfl ⟨rfl, rfl, rfl⟩

-- PostRelief$Plan.weighAll(LPostRelief$Depot;LPostRelief$Watch;)V
def b_X3_weighAll_2 (N : Nat) (p3 : Int32) (d_cold : FN) (d_on : Int32) (w_hour : Int32) (v4 : Int32) (v5 : Int32) : Option ((Int32 × Int32) ⊕ (Int32)) :=
  (if d_on ≤ v5 then some (.inr v4) else ((f_X0_burden N p3 (w_hour + v5) d_cold).bind fun z8 => some (.inl ((v4 + z8), (v5 + 1)))))
def b_X3_weighAll_3 (N : Nat) (p3 : Int32) (p4 : Int32) (d_men : Int32) (w_debts : FN) (v5 : Int32) (l_debtThen : FN) : Option ((Int32 × FN) ⊕ (FN)) :=
  (if d_men ≤ v5 then some (.inr l_debtThen) else (if ix v5 6 = true then (if ix ((v5 * 5) + p3) 30 = true then some (.inl ((v5 + 1), (upd l_debtThen (ci ((v5 * 5) + p3)) (if 60 < ((w_debts (ci v5)) + p4) then 60 else ((w_debts (ci v5)) + p4))))) else none) else none))
def b_X3_weighAll_1 (N : Nat) (d_posts : Int32) (d_cold : FN) (d_men : Int32) (d_on : Int32) (w_hour : Int32) (w_debts : FN) (v3 : Int32) (l_debtThen : FN) : Option ((Int32 × FN) ⊕ (FN)) :=
  (if d_posts ≤ v3 then some (.inr l_debtThen) else ((lp (fun s => b_X3_weighAll_2 N v3 d_cold d_on w_hour s.1 s.2) N (0, 0)).bind fun t9 => ((lp (fun s => b_X3_weighAll_3 N v3 t9 d_men w_debts s.1 s.2) N (0, l_debtThen)).bind fun t19 => some (.inl ((v3 + 1), t19)))))
def f_X3_weighAll (N : Nat) (d_posts : Int32) (d_cold : FN) (d_men : Int32) (d_on : Int32) (w_hour : Int32) (w_debts : FN) (l_debtThen : FN) : Option (FN) :=
  ((lp (fun s => b_X3_weighAll_1 N d_posts d_cold d_men d_on w_hour w_debts s.1 s.2) N (0, l_debtThen)).bind fun t21 => some t21)
set_option maxHeartbeats 4000000 in
set_option maxRecDepth 100000 in
theorem L_X3_weighAll_2 {γ : GX} {n : Nat} {h : HP} {Ψ : PS} {N : Nat} {p3 : Int32} {d_posts : Int32} {d_sees : FN} {d_cold : FN} {d_men : Int32} {d_debts : FN} {d_on : Int32} {d_stove : Int32} {w_hour : Int32} {w_debts : FN} {w_guards : FN} {w_stood : FN} {w_served : FN} {l_least : Int32} {l_chosen : FN} {l_trial : FN} {l_debtThen : FN} (hH_d : Has n 3 (dpB γ 3 d_posts d_sees d_cold d_men d_debts d_on d_stove) h) (hH_w : Has n 11 (wtB γ 11 w_hour w_debts w_guards w_stood w_served) h) (hn_l : 79 + 4 ≤ n) {s0 : Int32 × Int32} {t : Int32} (hf : lp (fun s => b_X3_weighAll_2 N p3 d_cold d_on w_hour s.1 s.2) N s0 = some t) (K : Ev γ M_X3_weighAll (0, 0) n (put 79 (plB γ 79 l_least l_chosen l_trial l_debtThen) h) [(0, .ref (gB γ + 79)), (1, .ref (gB γ + 3)), (2, .ref (gB γ + 11)), (3, .int p3), (4, .int t)] 48 [] Ψ) : Ev γ M_X3_weighAll (0, 0) n (put 79 (plB γ 79 l_least l_chosen l_trial l_debtThen) h) [(0, .ref (gB γ + 79)), (1, .ref (gB γ + 3)), (2, .ref (gB γ + 11)), (3, .int p3), (4, .int s0.1), (5, .int s0.2)] 16 [] Ψ := by
  refine E_lp (P := fun s => Ev γ M_X3_weighAll (0, 0) n (put 79 (plB γ 79 l_least l_chosen l_trial l_debtThen) h) [(0, .ref (gB γ + 79)), (1, .ref (gB γ + 3)), (2, .ref (gB γ + 11)), (3, .int p3), (4, .int s.1), (5, .int s.2)] 16 [] Ψ) (K := fun t => Ev γ M_X3_weighAll (0, 0) n (put 79 (plB γ 79 l_least l_chosen l_trial l_debtThen) h) [(0, .ref (gB γ + 79)), (1, .ref (gB γ + 3)), (2, .ref (gB γ + 11)), (3, .int p3), (4, .int t)] 48 [] Ψ) ?_ N s0 t hf K
  intro s r hf hP hK
  obtain ⟨v4, v5⟩ := s
  change b_X3_weighAll_2 N p3 d_cold d_on w_hour v4 v5 = some r at hf
  unfold b_X3_weighAll_2 at hf
  show Ev γ M_X3_weighAll (0, 0) n (put 79 (plB γ 79 l_least l_chosen l_trial l_debtThen) h) [(0, .ref (gB γ + 79)), (1, .ref (gB γ + 3)), (2, .ref (gB γ + 11)), (3, .int p3), (4, .int v4), (5, .int v5)] 16 [] Ψ
  refine E_iload 5 dX3_weighAll_16 (q := 18) rfl rfl ?_
  refine E_aload_n 1 dX3_weighAll_18 (q := 19) rfl rfl rfl ?_
  have hF5 : Has n 3 (dpB γ 3 d_posts d_sees d_cold d_men d_debts d_on d_stove) (put 79 (plB γ 79 l_least l_chosen l_trial l_debtThen) h) := (has_out hH_d (Or.inl (Nat.le_of_ble_eq_true rfl)))
  refine E_get 5 dX3_weighAll_19 (q := 22) rfl ckX0 (Nat.le_of_ble_eq_true rfl) fl_X3_38 (hF5.at 0 rfl) (hF5.lt 0 (Nat.le_of_ble_eq_true rfl)) rfl ?_
  refine E_icmp_ge dX3_weighAll_22 (t := 48) (by decide) (q := 25) rfl (fun c6 => ?_) (fun c6 => ?_)
  · have hf := if_t c6 hf
    exact E_sub [0, 1, 2, 3, 4] rfl (hK _ (Option.some.inj hf).symm)
  · have hf := if_f c6 hf
    refine E_iload 4 dX3_weighAll_25 (q := 27) rfl rfl ?_
    refine E_aload_n 1 dX3_weighAll_27 (q := 28) rfl rfl rfl ?_
    refine E_iload_n 3 dX3_weighAll_28 (q := 29) rfl rfl rfl ?_
    refine E_aload_n 2 dX3_weighAll_29 (q := 30) rfl rfl rfl ?_
    have hF7 : Has n 11 (wtB γ 11 w_hour w_debts w_guards w_stood w_served) (put 79 (plB γ 79 l_least l_chosen l_trial l_debtThen) h) := (has_out hH_w (Or.inl (Nat.le_of_ble_eq_true rfl)))
    refine E_get 0 dX3_weighAll_30 (q := 33) rfl ckX5 (Nat.le_of_ble_eq_true rfl) fl_X3_41 (hF7.at 0 rfl) (hF7.lt 0 (Nat.le_of_ble_eq_true rfl)) rfl ?_
    refine E_iload 5 dX3_weighAll_33 (q := 35) rfl rfl ?_
    refine E_iadd dX3_weighAll_35 (q := 36) rfl ?_
    obtain ⟨z8, hxz8, hf⟩ := bnd hf
    refine E_cV (as := [.int p3, .int (w_hour + v5)]) (k := 3) (rest := [.int v4]) (u' := (0, 0)) (st' := [.int z8, .int v4]) dX3_weighAll_36 (q := 39) rfl lkm_X0_burden lkv_X3_46 (Nat.le_of_ble_eq_true rfl) ckX0 (hF5.at 0 rfl) (hF5.lt 0 (Nat.le_of_ble_eq_true rfl)) ⟨Nat.le_refl _, Nat.le_refl _⟩ (Nat.le_of_ble_eq_true rfl) rfl rfl (m_X0_burden (N := N)  hF5 hxz8) rfl rfl rfl ?_
    refine E_iadd dX3_weighAll_39 (q := 40) rfl ?_
    refine E_istore [(4, .int (v4 + z8)), (0, .ref (gB γ + 79)), (1, .ref (gB γ + 3)), (2, .ref (gB γ + 11)), (3, .int p3), (5, .int v5)] dX3_weighAll_40 (q := 42) rfl (Nat.le_of_ble_eq_true rfl) rfl ?_
    refine E_iinc 5 [(5, .int (v5 + 1)), (4, .int (v4 + z8)), (0, .ref (gB γ + 79)), (1, .ref (gB γ + 3)), (2, .ref (gB γ + 11)), (3, .int p3)] dX3_weighAll_42 (q := 45) rfl rfl rfl (Nat.le_of_ble_eq_true rfl) rfl ?_
    refine E_goto (q := 16) dX3_weighAll_45 (by decide) ?_
    exact E_sub [2, 3, 4, 5, 1, 0] rfl (hP _ (Option.some.inj hf).symm)
set_option maxHeartbeats 4000000 in
set_option maxRecDepth 100000 in
theorem L_X3_weighAll_3 {γ : GX} {n : Nat} {h : HP} {Ψ : PS} {N : Nat} {p3 : Int32} {p4 : Int32} {d_posts : Int32} {d_sees : FN} {d_cold : FN} {d_men : Int32} {d_debts : FN} {d_on : Int32} {d_stove : Int32} {w_hour : Int32} {w_debts : FN} {w_guards : FN} {w_stood : FN} {w_served : FN} {l_least : Int32} {l_chosen : FN} {l_trial : FN} (hH_d : Has n 3 (dpB γ 3 d_posts d_sees d_cold d_men d_debts d_on d_stove) h) (hH_w : Has n 11 (wtB γ 11 w_hour w_debts w_guards w_stood w_served) h) (hn_l : 79 + 4 ≤ n) {s0 : Int32 × FN} {t : FN} (hf : lp (fun s => b_X3_weighAll_3 N p3 p4 d_men w_debts s.1 s.2) N s0 = some t) (K : Ev γ M_X3_weighAll (0, 0) n (put 79 (plB γ 79 l_least l_chosen l_trial t) h) [(0, .ref (gB γ + 79)), (1, .ref (gB γ + 3)), (2, .ref (gB γ + 11)), (3, .int p3)] 92 [] Ψ) : Ev γ M_X3_weighAll (0, 0) n (put 79 (plB γ 79 l_least l_chosen l_trial s0.2) h) [(0, .ref (gB γ + 79)), (1, .ref (gB γ + 3)), (2, .ref (gB γ + 11)), (3, .int p3), (4, .int p4), (5, .int s0.1)] 51 [] Ψ := by
  refine E_lp (P := fun s => Ev γ M_X3_weighAll (0, 0) n (put 79 (plB γ 79 l_least l_chosen l_trial s.2) h) [(0, .ref (gB γ + 79)), (1, .ref (gB γ + 3)), (2, .ref (gB γ + 11)), (3, .int p3), (4, .int p4), (5, .int s.1)] 51 [] Ψ) (K := fun t => Ev γ M_X3_weighAll (0, 0) n (put 79 (plB γ 79 l_least l_chosen l_trial t) h) [(0, .ref (gB γ + 79)), (1, .ref (gB γ + 3)), (2, .ref (gB γ + 11)), (3, .int p3)] 92 [] Ψ) ?_ N s0 t hf K
  intro s r hf hP hK
  obtain ⟨v5, l_debtThen⟩ := s
  change b_X3_weighAll_3 N p3 p4 d_men w_debts v5 l_debtThen = some r at hf
  unfold b_X3_weighAll_3 at hf
  show Ev γ M_X3_weighAll (0, 0) n (put 79 (plB γ 79 l_least l_chosen l_trial l_debtThen) h) [(0, .ref (gB γ + 79)), (1, .ref (gB γ + 3)), (2, .ref (gB γ + 11)), (3, .int p3), (4, .int p4), (5, .int v5)] 51 [] Ψ
  refine E_iload 5 dX3_weighAll_51 (q := 53) rfl rfl ?_
  refine E_aload_n 1 dX3_weighAll_53 (q := 54) rfl rfl rfl ?_
  have hF12 : Has n 3 (dpB γ 3 d_posts d_sees d_cold d_men d_debts d_on d_stove) (put 79 (plB γ 79 l_least l_chosen l_trial l_debtThen) h) := (has_out hH_d (Or.inl (Nat.le_of_ble_eq_true rfl)))
  refine E_get 3 dX3_weighAll_54 (q := 57) rfl ckX0 (Nat.le_of_ble_eq_true rfl) fl_X3_50 (hF12.at 0 rfl) (hF12.lt 0 (Nat.le_of_ble_eq_true rfl)) rfl ?_
  refine E_icmp_ge dX3_weighAll_57 (t := 92) (by decide) (q := 60) rfl (fun c13 => ?_) (fun c13 => ?_)
  · have hf := if_t c13 hf
    exact E_sub [0, 1, 2, 3] rfl (hK _ (Option.some.inj hf).symm)
  · have hf := if_f c13 hf
    refine E_aload_n 0 dX3_weighAll_60 (q := 61) rfl rfl rfl ?_
    have hF14 : Has n 79 (plB γ 79 l_least l_chosen l_trial l_debtThen) (put 79 (plB γ 79 l_least l_chosen l_trial l_debtThen) h) := (has_put hn_l)
    refine E_get 3 dX3_weighAll_61 (q := 64) rfl ckX3 (Nat.le_of_ble_eq_true rfl) fl_X3_18 (hF14.at 0 rfl) (hF14.lt 0 (Nat.le_of_ble_eq_true rfl)) rfl ?_
    refine E_iload 5 dX3_weighAll_64 (q := 66) rfl rfl ?_
    refine E_iconst (x := 5) dX3_weighAll_66 (q := 67) rfl (by decide) ?_
    refine E_imul dX3_weighAll_67 (q := 68) rfl ?_
    refine E_iload_n 3 dX3_weighAll_68 (q := 69) rfl rfl rfl ?_
    refine E_iadd dX3_weighAll_69 (q := 70) rfl ?_
    refine E_bipush (x := 60) dX3_weighAll_70 (q := 72) rfl (by decide) ?_
    refine E_aload_n 2 dX3_weighAll_72 (q := 73) rfl rfl rfl ?_
    have hF15 : Has n 11 (wtB γ 11 w_hour w_debts w_guards w_stood w_served) (put 79 (plB γ 79 l_least l_chosen l_trial l_debtThen) h) := (has_out hH_w (Or.inl (Nat.le_of_ble_eq_true rfl)))
    refine E_get 1 dX3_weighAll_73 (q := 76) rfl ckX5 (Nat.le_of_ble_eq_true rfl) fl_X3_53 (hF15.at 0 rfl) (hF15.lt 0 (Nat.le_of_ble_eq_true rfl)) rfl ?_
    refine E_iload 5 dX3_weighAll_76 (q := 78) rfl rfl ?_
    obtain ⟨g16, hf⟩ := gd hf
    refine E_iald dX3_weighAll_78 (q := 79) rfl (hF15.at 1 rfl) (hF15.lt 1 (Nat.le_of_ble_eq_true rfl)) g16 ?_
    refine E_iload 4 dX3_weighAll_79 (q := 81) rfl rfl ?_
    refine E_iadd dX3_weighAll_81 (q := 82) rfl ?_
    refine E_min dX3_weighAll_82 (q := 85) rfl lkmin_X3_56 st_min in_math co_min (Nat.le_of_ble_eq_true rfl) (Nat.le_of_ble_eq_true rfl) ?_
    obtain ⟨g17, hf⟩ := gd hf
    refine E_iast dX3_weighAll_85 (q := 86) rfl (hF14.at 3 rfl) (hF14.lt 3 (Nat.le_of_ble_eq_true rfl)) g17 (up_put (i := 3) (cs' := (plB γ 79 l_least l_chosen l_trial (upd l_debtThen (ci ((v5 * 5) + p3)) (if 60 < ((w_debts (ci v5)) + p4) then 60 else ((w_debts (ci v5)) + p4))))) (Nat.le_of_ble_eq_true rfl) rfl) ?_
    refine E_iinc 5 [(5, .int (v5 + 1)), (0, .ref (gB γ + 79)), (1, .ref (gB γ + 3)), (2, .ref (gB γ + 11)), (3, .int p3), (4, .int p4)] dX3_weighAll_86 (q := 89) rfl rfl rfl (Nat.le_of_ble_eq_true rfl) rfl ?_
    refine E_goto (q := 51) dX3_weighAll_89 (by decide) ?_
    exact E_sub [1, 2, 3, 4, 5, 0] rfl (hP _ (Option.some.inj hf).symm)
set_option maxHeartbeats 4000000 in
set_option maxRecDepth 100000 in
theorem L_X3_weighAll_1 {γ : GX} {n : Nat} {h : HP} {Ψ : PS} {N : Nat} {d_posts : Int32} {d_sees : FN} {d_cold : FN} {d_men : Int32} {d_debts : FN} {d_on : Int32} {d_stove : Int32} {w_hour : Int32} {w_debts : FN} {w_guards : FN} {w_stood : FN} {w_served : FN} {l_least : Int32} {l_chosen : FN} {l_trial : FN} (hH_d : Has n 3 (dpB γ 3 d_posts d_sees d_cold d_men d_debts d_on d_stove) h) (hH_w : Has n 11 (wtB γ 11 w_hour w_debts w_guards w_stood w_served) h) (hn_l : 79 + 4 ≤ n) {s0 : Int32 × FN} {t : FN} (hf : lp (fun s => b_X3_weighAll_1 N d_posts d_cold d_men d_on w_hour w_debts s.1 s.2) N s0 = some t) (K : Ev γ M_X3_weighAll (0, 0) n (put 79 (plB γ 79 l_least l_chosen l_trial t) h) [] 98 [] Ψ) : Ev γ M_X3_weighAll (0, 0) n (put 79 (plB γ 79 l_least l_chosen l_trial s0.2) h) [(0, .ref (gB γ + 79)), (1, .ref (gB γ + 3)), (2, .ref (gB γ + 11)), (3, .int s0.1)] 2 [] Ψ := by
  refine E_lp (P := fun s => Ev γ M_X3_weighAll (0, 0) n (put 79 (plB γ 79 l_least l_chosen l_trial s.2) h) [(0, .ref (gB γ + 79)), (1, .ref (gB γ + 3)), (2, .ref (gB γ + 11)), (3, .int s.1)] 2 [] Ψ) (K := fun t => Ev γ M_X3_weighAll (0, 0) n (put 79 (plB γ 79 l_least l_chosen l_trial t) h) [] 98 [] Ψ) ?_ N s0 t hf K
  intro s r hf hP hK
  obtain ⟨v3, l_debtThen⟩ := s
  change b_X3_weighAll_1 N d_posts d_cold d_men d_on w_hour w_debts v3 l_debtThen = some r at hf
  unfold b_X3_weighAll_1 at hf
  show Ev γ M_X3_weighAll (0, 0) n (put 79 (plB γ 79 l_least l_chosen l_trial l_debtThen) h) [(0, .ref (gB γ + 79)), (1, .ref (gB γ + 3)), (2, .ref (gB γ + 11)), (3, .int v3)] 2 [] Ψ
  refine E_iload_n 3 dX3_weighAll_2 (q := 3) rfl rfl rfl ?_
  refine E_aload_n 1 dX3_weighAll_3 (q := 4) rfl rfl rfl ?_
  have hF2 : Has n 3 (dpB γ 3 d_posts d_sees d_cold d_men d_debts d_on d_stove) (put 79 (plB γ 79 l_least l_chosen l_trial l_debtThen) h) := (has_out hH_d (Or.inl (Nat.le_of_ble_eq_true rfl)))
  refine E_get 0 dX3_weighAll_4 (q := 7) rfl ckX0 (Nat.le_of_ble_eq_true rfl) fl_X3_33 (hF2.at 0 rfl) (hF2.lt 0 (Nat.le_of_ble_eq_true rfl)) rfl ?_
  refine E_icmp_ge dX3_weighAll_7 (t := 98) (by decide) (q := 10) rfl (fun c3 => ?_) (fun c3 => ?_)
  · have hf := if_t c3 hf
    exact E_sub [] rfl (hK _ (Option.some.inj hf).symm)
  · have hf := if_f c3 hf
    refine E_iconst (x := 0) dX3_weighAll_10 (q := 11) rfl (by decide) ?_
    refine E_istore [(4, .int 0), (0, .ref (gB γ + 79)), (1, .ref (gB γ + 3)), (2, .ref (gB γ + 11)), (3, .int v3)] dX3_weighAll_11 (q := 13) rfl (Nat.le_of_ble_eq_true rfl) rfl ?_
    refine E_iconst (x := 0) dX3_weighAll_13 (q := 14) rfl (by decide) ?_
    refine E_istore [(5, .int 0), (4, .int 0), (0, .ref (gB γ + 79)), (1, .ref (gB γ + 3)), (2, .ref (gB γ + 11)), (3, .int v3)] dX3_weighAll_14 (q := 16) rfl (Nat.le_of_ble_eq_true rfl) rfl ?_
    obtain ⟨t9, hxt9, hf⟩ := bnd hf
    refine E_sub [2, 3, 4, 5, 1, 0] rfl ?_
    refine L_X3_weighAll_2 hH_d hH_w hn_l hxt9 ?_
    show Ev γ M_X3_weighAll _ n (put 79 (plB γ 79 l_least l_chosen l_trial l_debtThen) h) [(0, .ref (gB γ + 79)), (1, .ref (gB γ + 3)), (2, .ref (gB γ + 11)), (3, .int v3), (4, .int t9)] 48 [] _
    refine E_iconst (x := 0) dX3_weighAll_48 (q := 49) rfl (by decide) ?_
    refine E_istore [(5, .int 0), (0, .ref (gB γ + 79)), (1, .ref (gB γ + 3)), (2, .ref (gB γ + 11)), (3, .int v3), (4, .int t9)] dX3_weighAll_49 (q := 51) rfl (Nat.le_of_ble_eq_true rfl) rfl ?_
    obtain ⟨t19, hxt19, hf⟩ := bnd hf
    refine E_sub [1, 2, 3, 4, 5, 0] rfl ?_
    refine L_X3_weighAll_3 hH_d hH_w hn_l hxt19 ?_
    show Ev γ M_X3_weighAll _ n (put 79 (plB γ 79 l_least l_chosen l_trial t19) h) [(0, .ref (gB γ + 79)), (1, .ref (gB γ + 3)), (2, .ref (gB γ + 11)), (3, .int v3)] 92 [] _
    refine E_iinc 3 [(3, .int (v3 + 1)), (0, .ref (gB γ + 79)), (1, .ref (gB γ + 3)), (2, .ref (gB γ + 11))] dX3_weighAll_92 (q := 95) rfl rfl rfl (Nat.le_of_ble_eq_true rfl) rfl ?_
    refine E_goto (q := 2) dX3_weighAll_95 (by decide) ?_
    exact E_sub [1, 2, 3, 0] rfl (hP _ (Option.some.inj hf).symm)
set_option maxHeartbeats 4000000 in
set_option maxRecDepth 100000 in
theorem m_X3_weighAll {γ : GX} {n : Nat} {N : Nat} {h : HP} {d_posts : Int32} {d_sees : FN} {d_cold : FN} {d_men : Int32} {d_debts : FN} {d_on : Int32} {d_stove : Int32} {w_hour : Int32} {w_debts : FN} {w_guards : FN} {w_stood : FN} {w_served : FN} {l_least : Int32} {l_chosen : FN} {l_trial : FN} {l_debtThen : FN} (hH_d : Has n 3 (dpB γ 3 d_posts d_sees d_cold d_men d_debts d_on d_stove) h) (hH_w : Has n 11 (wtB γ 11 w_hour w_debts w_guards w_stood w_served) h) (hH_l : Has n 79 (plB γ 79 l_least l_chosen l_trial l_debtThen) h) {z : FN} (hf : f_X3_weighAll N d_posts d_cold d_men d_on w_hour w_debts l_debtThen = some z)  : Ct γ M_X3_weighAll n h [.ref (gB γ + 79), .ref (gB γ + 3), .ref (gB γ + 11)] (Done none n (put 79 (plB γ 79 l_least l_chosen l_trial z) h)) := by
  have hn_l : 79 + 4 ≤ n := hH_l.1
  refine Ct.heap (h := (put 79 (plB γ 79 l_least l_chosen l_trial l_debtThen) h)) (put_self hH_l).symm ?_
  refine Ct_of_Ev (by decide) (fun h => by cases h) (Nat.le_of_ble_eq_true rfl) ?_
  show Ev γ M_X3_weighAll (0, 0) n (put 79 (plB γ 79 l_least l_chosen l_trial l_debtThen) h) [(0, .ref (gB γ + 79)), (1, .ref (gB γ + 3)), (2, .ref (gB γ + 11))] 0 [] _
  unfold f_X3_weighAll at hf
  refine E_iconst (x := 0) dX3_weighAll_0 (q := 1) rfl (by decide) ?_
  refine E_istore_n [(3, .int 0), (0, .ref (gB γ + 79)), (1, .ref (gB γ + 3)), (2, .ref (gB γ + 11))] dX3_weighAll_1 (q := 2) rfl rfl (Nat.le_of_ble_eq_true rfl) rfl ?_
  obtain ⟨t21, hxt21, hf⟩ := bnd hf
  refine E_sub [1, 2, 3, 0] rfl ?_
  refine L_X3_weighAll_1 hH_d hH_w hn_l hxt21 ?_
  show Ev γ M_X3_weighAll _ n (put 79 (plB γ 79 l_least l_chosen l_trial t21) h) [] 98 [] _
  obtain rfl := Option.some.inj hf
  exact E_vret dX3_weighAll_98 rfl ⟨rfl, rfl, rfl⟩

-- PostRelief$Plan.tryFrom(LPostRelief$Depot;III)V
def b_X3_tryFrom_1 (N : Nat) (F : Int32 → Int32 → Int32 → (Int32) → (Int32) → (Int32) → (FN) → (FN) → (FN) → Option (Int32 × FN × FN)) (p2 : Int32) (p3 : Int32) (p4 : Int32) (d_posts : Int32) (d_men : Int32) (l_debtThen : FN) (v5 : Int32) (l_least : Int32) (l_chosen : FN) (l_trial : FN) : Option ((Int32 × Int32 × FN × FN) ⊕ (Int32 × FN × FN)) :=
  (if d_men ≤ v5 then some (.inr (l_least, l_chosen, l_trial)) else (if ((p3 >>> (v5 &&& 31)) &&& 1) = 0 then (if ix p2 5 = true then (if ix ((v5 * 5) + p2) 30 = true then ((F (p2 + 1) (p3 ||| ((1 : Int32) <<< (v5 &&& 31))) (if p4 < (l_debtThen (ci ((v5 * 5) + p2))) then (l_debtThen (ci ((v5 * 5) + p2))) else p4) d_posts d_men l_least l_chosen (upd l_trial (ci p2) v5) l_debtThen).bind fun z14 => some (.inl ((v5 + 1), z14.1, z14.2.1, z14.2.2))) else none) else none) else some (.inl ((v5 + 1), l_least, l_chosen, l_trial))))
def g_X3_tryFrom (N : Nat) (F : Int32 → Int32 → Int32 → (Int32) → (Int32) → (Int32) → (FN) → (FN) → (FN) → Option (Int32 × FN × FN)) (a2 : Int32) (a3 : Int32) (a4 : Int32) (d_posts : Int32) (d_men : Int32) (l_least : Int32) (l_chosen : FN) (l_trial : FN) (l_debtThen : FN) : Option (Int32 × FN × FN) :=
  (if a4 < l_least then (if a2 < d_posts then ((lp (fun s => b_X3_tryFrom_1 N F a2 a3 a4 d_posts d_men l_debtThen s.1 s.2.1 s.2.2.1 s.2.2.2) N (0, l_least, l_chosen, l_trial)).bind fun t17 => some (t17.1, t17.2.1, t17.2.2)) else some (a4, (va_cpy l_trial l_chosen (ci 0) (ci 0) (ci 5)), l_trial)) else some (l_least, l_chosen, l_trial))
def f_X3_tryFrom (N : Nat) : Nat → Int32 → Int32 → Int32 → (Int32) → (Int32) → (Int32) → (FN) → (FN) → (FN) → Option (Int32 × FN × FN)
  | 0 => fun _ _ _ _ _ _ _ _ _ => none
  | rr + 1 => g_X3_tryFrom N (f_X3_tryFrom N rr)
set_option maxHeartbeats 4000000 in
set_option maxRecDepth 100000 in
theorem L_X3_tryFrom_1 {γ : GX} {n : Nat} {h : HP} {Ψ : PS} {N : Nat} {p2 : Int32} {p3 : Int32} {p4 : Int32} {rr : Nat} {F : Int32 → Int32 → Int32 → (Int32) → (Int32) → (Int32) → (FN) → (FN) → (FN) → Option (Int32 × FN × FN)} {d_posts : Int32} {d_sees : FN} {d_cold : FN} {d_men : Int32} {d_debts : FN} {d_on : Int32} {d_stove : Int32} {l_debtThen : FN} (hH_d : Has n 3 (dpB γ 3 d_posts d_sees d_cold d_men d_debts d_on d_stove) h) (hn_l : 79 + 4 ≤ n) (IH : ∀ {h : HP} {a2 : Int32} {a3 : Int32} {a4 : Int32} {d_posts : Int32} {d_sees : FN} {d_cold : FN} {d_men : Int32} {d_debts : FN} {d_on : Int32} {d_stove : Int32} {l_least : Int32} {l_chosen : FN} {l_trial : FN} {l_debtThen : FN} (hH_d : Has n 3 (dpB γ 3 d_posts d_sees d_cold d_men d_debts d_on d_stove) h) (hH_l : Has n 79 (plB γ 79 l_least l_chosen l_trial l_debtThen) h) {z : Int32 × FN × FN} (hf : F a2 a3 a4 d_posts d_men l_least l_chosen l_trial l_debtThen = some z) , Ct γ (M_X3_tryFrom rr) n h [.ref (gB γ + 79), .ref (gB γ + 3), .int a2, .int a3, .int a4] (Done none n (put 79 (plB γ 79 z.1 z.2.1 z.2.2 l_debtThen) h))) {s0 : Int32 × Int32 × FN × FN} {t : Int32 × FN × FN} (hf : lp (fun s => b_X3_tryFrom_1 N F p2 p3 p4 d_posts d_men l_debtThen s.1 s.2.1 s.2.2.1 s.2.2.2) N s0 = some t) (K : Ev γ (M_X3_tryFrom (rr + 1)) (0, 0) n (put 79 (plB γ 79 t.1 t.2.1 t.2.2 l_debtThen) h) [] 104 [] Ψ) : Ev γ (M_X3_tryFrom (rr + 1)) (0, 0) n (put 79 (plB γ 79 s0.2.1 s0.2.2.1 s0.2.2.2 l_debtThen) h) [(0, .ref (gB γ + 79)), (1, .ref (gB γ + 3)), (2, .int p2), (3, .int p3), (4, .int p4), (5, .int s0.1)] 42 [] Ψ := by
  refine E_lp (P := fun s => Ev γ (M_X3_tryFrom (rr + 1)) (0, 0) n (put 79 (plB γ 79 s.2.1 s.2.2.1 s.2.2.2 l_debtThen) h) [(0, .ref (gB γ + 79)), (1, .ref (gB γ + 3)), (2, .int p2), (3, .int p3), (4, .int p4), (5, .int s.1)] 42 [] Ψ) (K := fun t => Ev γ (M_X3_tryFrom (rr + 1)) (0, 0) n (put 79 (plB γ 79 t.1 t.2.1 t.2.2 l_debtThen) h) [] 104 [] Ψ) ?_ N s0 t hf K
  intro s r hf hP hK
  obtain ⟨v5, l_least, l_chosen, l_trial⟩ := s
  change b_X3_tryFrom_1 N F p2 p3 p4 d_posts d_men l_debtThen v5 l_least l_chosen l_trial = some r at hf
  unfold b_X3_tryFrom_1 at hf
  show Ev γ (M_X3_tryFrom (rr + 1)) (0, 0) n (put 79 (plB γ 79 l_least l_chosen l_trial l_debtThen) h) [(0, .ref (gB γ + 79)), (1, .ref (gB γ + 3)), (2, .int p2), (3, .int p3), (4, .int p4), (5, .int v5)] 42 [] Ψ
  refine E_iload 5 dX3_tryFrom_42 (q := 44) rfl rfl ?_
  refine E_aload_n 1 dX3_tryFrom_44 (q := 45) rfl rfl rfl ?_
  have hF6 : Has n 3 (dpB γ 3 d_posts d_sees d_cold d_men d_debts d_on d_stove) (put 79 (plB γ 79 l_least l_chosen l_trial l_debtThen) h) := (has_out hH_d (Or.inl (Nat.le_of_ble_eq_true rfl)))
  refine E_get 3 dX3_tryFrom_45 (q := 48) rfl ckX0 (Nat.le_of_ble_eq_true rfl) fl_X3_50 (hF6.at 0 rfl) (hF6.lt 0 (Nat.le_of_ble_eq_true rfl)) rfl ?_
  refine E_icmp_ge dX3_tryFrom_48 (t := 104) (by decide) (q := 51) rfl (fun c7 => ?_) (fun c7 => ?_)
  · have hf := if_t c7 hf
    exact E_sub [] rfl (hK _ (Option.some.inj hf).symm)
  · have hf := if_f c7 hf
    refine E_iload_n 3 dX3_tryFrom_51 (q := 52) rfl rfl rfl ?_
    refine E_iload 5 dX3_tryFrom_52 (q := 54) rfl rfl ?_
    refine E_ishr dX3_tryFrom_54 (q := 55) rfl ?_
    refine E_iconst (x := 1) dX3_tryFrom_55 (q := 56) rfl (by decide) ?_
    refine E_iand dX3_tryFrom_56 (q := 57) rfl ?_
    refine E_if_ne dX3_tryFrom_57 (t := 98) (by decide) (q := 60) rfl (fun c8 => ?_) (fun c8 => ?_)
    · have hf := if_f c8 hf
      refine E_iinc 5 [(5, .int (v5 + 1)), (0, .ref (gB γ + 79)), (1, .ref (gB γ + 3)), (2, .int p2), (3, .int p3), (4, .int p4)] dX3_tryFrom_98 (q := 101) rfl rfl rfl (Nat.le_of_ble_eq_true rfl) rfl ?_
      refine E_goto (q := 42) dX3_tryFrom_101 (by decide) ?_
      exact E_sub [1, 2, 3, 4, 5, 0] rfl (hP _ (Option.some.inj hf).symm)
    · have hf := if_t c8 hf
      refine E_aload_n 0 dX3_tryFrom_60 (q := 61) rfl rfl rfl ?_
      have hF9 : Has n 79 (plB γ 79 l_least l_chosen l_trial l_debtThen) (put 79 (plB γ 79 l_least l_chosen l_trial l_debtThen) h) := (has_put hn_l)
      refine E_get 2 dX3_tryFrom_61 (q := 64) rfl ckX3 (Nat.le_of_ble_eq_true rfl) fl_X3_15 (hF9.at 0 rfl) (hF9.lt 0 (Nat.le_of_ble_eq_true rfl)) rfl ?_
      refine E_iload_n 2 dX3_tryFrom_64 (q := 65) rfl rfl rfl ?_
      refine E_iload 5 dX3_tryFrom_65 (q := 67) rfl rfl ?_
      obtain ⟨g10, hf⟩ := gd hf
      refine E_iast dX3_tryFrom_67 (q := 68) rfl (hF9.at 2 rfl) (hF9.lt 2 (Nat.le_of_ble_eq_true rfl)) g10 (up_put (i := 2) (cs' := (plB γ 79 l_least l_chosen (upd l_trial (ci p2) v5) l_debtThen)) (Nat.le_of_ble_eq_true rfl) rfl) ?_
      refine E_aload_n 0 dX3_tryFrom_68 (q := 69) rfl rfl rfl ?_
      refine E_aload_n 1 dX3_tryFrom_69 (q := 70) rfl rfl rfl ?_
      refine E_iload_n 2 dX3_tryFrom_70 (q := 71) rfl rfl rfl ?_
      refine E_iconst (x := 1) dX3_tryFrom_71 (q := 72) rfl (by decide) ?_
      refine E_iadd dX3_tryFrom_72 (q := 73) rfl ?_
      refine E_iload_n 3 dX3_tryFrom_73 (q := 74) rfl rfl rfl ?_
      refine E_iconst (x := 1) dX3_tryFrom_74 (q := 75) rfl (by decide) ?_
      refine E_iload 5 dX3_tryFrom_75 (q := 77) rfl rfl ?_
      refine E_ishl dX3_tryFrom_77 (q := 78) rfl ?_
      refine E_ior dX3_tryFrom_78 (q := 79) rfl ?_
      refine E_iload 4 dX3_tryFrom_79 (q := 81) rfl rfl ?_
      refine E_aload_n 0 dX3_tryFrom_81 (q := 82) rfl rfl rfl ?_
      have hF12 : Has n 79 (plB γ 79 l_least l_chosen (upd l_trial (ci p2) v5) l_debtThen) (put 79 (plB γ 79 l_least l_chosen (upd l_trial (ci p2) v5) l_debtThen) h) := (has_put hn_l)
      refine E_get 3 dX3_tryFrom_82 (q := 85) rfl ckX3 (Nat.le_of_ble_eq_true rfl) fl_X3_18 (hF12.at 0 rfl) (hF12.lt 0 (Nat.le_of_ble_eq_true rfl)) rfl ?_
      refine E_iload 5 dX3_tryFrom_85 (q := 87) rfl rfl ?_
      refine E_iconst (x := 5) dX3_tryFrom_87 (q := 88) rfl (by decide) ?_
      refine E_imul dX3_tryFrom_88 (q := 89) rfl ?_
      refine E_iload_n 2 dX3_tryFrom_89 (q := 90) rfl rfl rfl ?_
      refine E_iadd dX3_tryFrom_90 (q := 91) rfl ?_
      obtain ⟨g13, hf⟩ := gd hf
      refine E_iald dX3_tryFrom_91 (q := 92) rfl (hF12.at 3 rfl) (hF12.lt 3 (Nat.le_of_ble_eq_true rfl)) g13 ?_
      refine E_max dX3_tryFrom_92 (q := 95) rfl lkmax_X3_67 st_max in_math co_max (Nat.le_of_ble_eq_true rfl) (Nat.le_of_ble_eq_true rfl) ?_
      obtain ⟨z14, hxz14, hf⟩ := bnd hf
      have hF15 : Has n 3 (dpB γ 3 d_posts d_sees d_cold d_men d_debts d_on d_stove) (put 79 (plB γ 79 l_least l_chosen (upd l_trial (ci p2) v5) l_debtThen) h) := (has_out hH_d (Or.inl (Nat.le_of_ble_eq_true rfl)))
      refine E_cV (as := [.ref (gB γ + 3), .int (p2 + 1), .int (p3 ||| ((1 : Int32) <<< (v5 &&& 31))), .int (if p4 < (l_debtThen (ci ((v5 * 5) + p2))) then (l_debtThen (ci ((v5 * 5) + p2))) else p4)]) (k := 79) (rest := []) (u' := (0, 0)) (st' := []) dX3_tryFrom_95 (q := 98) rfl (lkm_X3_tryFrom _) (lkv_X3_29 _) (Nat.le_refl _) ckX3 (hF12.at 0 rfl) (hF12.lt 0 (Nat.le_of_ble_eq_true rfl)) ⟨Nat.le_refl _, Nat.le_refl _⟩ (Nat.le_of_ble_eq_true rfl) rfl rfl (IH  hF15 hF12 hxz14) rfl rfl rfl ?_
      refine Ev.heap (put_put (k := 79) (cs := (plB γ 79 l_least l_chosen (upd l_trial (ci p2) v5) l_debtThen)) (cs' := (plB γ 79 z14.1 z14.2.1 z14.2.2 l_debtThen)) (show (4 : Nat) = 4 from rfl)) ?_
      refine E_iinc 5 [(5, .int (v5 + 1)), (0, .ref (gB γ + 79)), (1, .ref (gB γ + 3)), (2, .int p2), (3, .int p3), (4, .int p4)] dX3_tryFrom_98 (q := 101) rfl rfl rfl (Nat.le_of_ble_eq_true rfl) rfl ?_
      refine E_goto (q := 42) dX3_tryFrom_101 (by decide) ?_
      exact E_sub [1, 2, 3, 4, 5, 0] rfl (hP _ (Option.some.inj hf).symm)
set_option maxHeartbeats 4000000 in
set_option maxRecDepth 100000 in
theorem q_X3_tryFrom {γ : GX} {n : Nat} {N : Nat} {rr : Nat} {F : Int32 → Int32 → Int32 → (Int32) → (Int32) → (Int32) → (FN) → (FN) → (FN) → Option (Int32 × FN × FN)}  (IH : ∀ {h : HP} {a2 : Int32} {a3 : Int32} {a4 : Int32} {d_posts : Int32} {d_sees : FN} {d_cold : FN} {d_men : Int32} {d_debts : FN} {d_on : Int32} {d_stove : Int32} {l_least : Int32} {l_chosen : FN} {l_trial : FN} {l_debtThen : FN} (hH_d : Has n 3 (dpB γ 3 d_posts d_sees d_cold d_men d_debts d_on d_stove) h) (hH_l : Has n 79 (plB γ 79 l_least l_chosen l_trial l_debtThen) h) {z : Int32 × FN × FN} (hf : F a2 a3 a4 d_posts d_men l_least l_chosen l_trial l_debtThen = some z) , Ct γ (M_X3_tryFrom rr) n h [.ref (gB γ + 79), .ref (gB γ + 3), .int a2, .int a3, .int a4] (Done none n (put 79 (plB γ 79 z.1 z.2.1 z.2.2 l_debtThen) h))) {h : HP} {a2 : Int32} {a3 : Int32} {a4 : Int32} {d_posts : Int32} {d_sees : FN} {d_cold : FN} {d_men : Int32} {d_debts : FN} {d_on : Int32} {d_stove : Int32} {l_least : Int32} {l_chosen : FN} {l_trial : FN} {l_debtThen : FN} (hH_d : Has n 3 (dpB γ 3 d_posts d_sees d_cold d_men d_debts d_on d_stove) h) (hH_l : Has n 79 (plB γ 79 l_least l_chosen l_trial l_debtThen) h) {z : Int32 × FN × FN} (hf : g_X3_tryFrom N F a2 a3 a4 d_posts d_men l_least l_chosen l_trial l_debtThen = some z)  : Ct γ (M_X3_tryFrom (rr + 1)) n h [.ref (gB γ + 79), .ref (gB γ + 3), .int a2, .int a3, .int a4] (Done none n (put 79 (plB γ 79 z.1 z.2.1 z.2.2 l_debtThen) h)) := by
  have hn_l : 79 + 4 ≤ n := hH_l.1
  refine Ct.heap (h := (put 79 (plB γ 79 l_least l_chosen l_trial l_debtThen) h)) (put_self hH_l).symm ?_
  refine Ct_of_Ev rfl (fun h => by cases h) (Nat.le_of_ble_eq_true rfl) ?_
  show Ev γ (M_X3_tryFrom (rr + 1)) (0, 0) n (put 79 (plB γ 79 l_least l_chosen l_trial l_debtThen) h) [(0, .ref (gB γ + 79)), (1, .ref (gB γ + 3)), (2, .int a2), (3, .int a3), (4, .int a4)] 0 [] _
  unfold g_X3_tryFrom at hf
  refine E_iload 4 dX3_tryFrom_0 (q := 2) rfl rfl ?_
  refine E_aload_n 0 dX3_tryFrom_2 (q := 3) rfl rfl rfl ?_
  have hF1 : Has n 79 (plB γ 79 l_least l_chosen l_trial l_debtThen) (put 79 (plB γ 79 l_least l_chosen l_trial l_debtThen) h) := (has_put hn_l)
  refine E_get 0 dX3_tryFrom_3 (q := 6) rfl ckX3 (Nat.le_of_ble_eq_true rfl) fl_X3_25 (hF1.at 0 rfl) (hF1.lt 0 (Nat.le_of_ble_eq_true rfl)) rfl ?_
  refine E_icmp_lt dX3_tryFrom_6 (t := 10) (by decide) (q := 9) rfl (fun c2 => ?_) (fun c2 => ?_)
  · have hf := if_t c2 hf
    refine E_iload_n 2 dX3_tryFrom_10 (q := 11) rfl rfl rfl ?_
    refine E_aload_n 1 dX3_tryFrom_11 (q := 12) rfl rfl rfl ?_
    have hF3 : Has n 3 (dpB γ 3 d_posts d_sees d_cold d_men d_debts d_on d_stove) (put 79 (plB γ 79 l_least l_chosen l_trial l_debtThen) h) := (has_out hH_d (Or.inl (Nat.le_of_ble_eq_true rfl)))
    refine E_get 0 dX3_tryFrom_12 (q := 15) rfl ckX0 (Nat.le_of_ble_eq_true rfl) fl_X3_33 (hF3.at 0 rfl) (hF3.lt 0 (Nat.le_of_ble_eq_true rfl)) rfl ?_
    refine E_icmp_lt dX3_tryFrom_15 (t := 39) (by decide) (q := 18) rfl (fun c4 => ?_) (fun c4 => ?_)
    · have hf := if_t c4 hf
      refine E_iconst (x := 0) dX3_tryFrom_39 (q := 40) rfl (by decide) ?_
      refine E_istore [(5, .int 0), (0, .ref (gB γ + 79)), (1, .ref (gB γ + 3)), (2, .int a2), (3, .int a3), (4, .int a4)] dX3_tryFrom_40 (q := 42) rfl (Nat.le_of_ble_eq_true rfl) rfl ?_
      obtain ⟨t17, hxt17, hf⟩ := bnd hf
      refine E_sub [1, 2, 3, 4, 5, 0] rfl ?_
      refine L_X3_tryFrom_1 hH_d hn_l IH hxt17 ?_
      show Ev γ (M_X3_tryFrom (rr + 1)) _ n (put 79 (plB γ 79 t17.1 t17.2.1 t17.2.2 l_debtThen) h) [] 104 [] _
      obtain rfl := Option.some.inj hf
      exact E_vret dX3_tryFrom_104 rfl ⟨rfl, rfl, rfl⟩
    · have hf := if_f c4 hf
      refine E_aload_n 0 dX3_tryFrom_18 (q := 19) rfl rfl rfl ?_
      refine E_iload 4 dX3_tryFrom_19 (q := 21) rfl rfl ?_
      refine E_put 0 dX3_tryFrom_21 (q := 24) rfl ckX3 (Nat.le_of_ble_eq_true rfl) fl_X3_25 rfl rfl rfl (hF1.at 0 rfl) (hF1.lt 0 (Nat.le_of_ble_eq_true rfl)) (Nat.le_of_ble_eq_true rfl) (up_put (i := 0) (cs' := (plB γ 79 a4 l_chosen l_trial l_debtThen)) (Nat.le_of_ble_eq_true rfl) rfl) ?_
      refine E_aload_n 0 dX3_tryFrom_24 (q := 25) rfl rfl rfl ?_
      have hF20 : Has n 79 (plB γ 79 a4 l_chosen l_trial l_debtThen) (put 79 (plB γ 79 a4 l_chosen l_trial l_debtThen) h) := (has_put hn_l)
      refine E_get 2 dX3_tryFrom_25 (q := 28) rfl ckX3 (Nat.le_of_ble_eq_true rfl) fl_X3_15 (hF20.at 0 rfl) (hF20.lt 0 (Nat.le_of_ble_eq_true rfl)) rfl ?_
      refine E_iconst (x := 0) dX3_tryFrom_28 (q := 29) rfl (by decide) ?_
      refine E_aload_n 0 dX3_tryFrom_29 (q := 30) rfl rfl rfl ?_
      refine E_get 1 dX3_tryFrom_30 (q := 33) rfl ckX3 (Nat.le_of_ble_eq_true rfl) fl_X3_9 (hF20.at 0 rfl) (hF20.lt 0 (Nat.le_of_ble_eq_true rfl)) rfl ?_
      refine E_iconst (x := 0) dX3_tryFrom_33 (q := 34) rfl (by decide) ?_
      refine E_iconst (x := 5) dX3_tryFrom_34 (q := 35) rfl (by decide) ?_
      refine E_copy dX3_tryFrom_35 (q := 38) rfl lkcp_X3_61 na_cp st_cp in_sys (hF20.at 2 rfl) (hF20.lt 2 (Nat.le_of_ble_eq_true rfl)) (hF20.at 1 rfl) (hF20.lt 1 (Nat.le_of_ble_eq_true rfl)) (by decide) (by decide) (by decide) (by decide) (by decide) (Nat.le_of_ble_eq_true rfl) (Nat.le_of_ble_eq_true rfl) (up_put (i := 1) (cs' := (plB γ 79 a4 (va_cpy l_trial l_chosen (ci 0) (ci 0) (ci 5)) l_trial l_debtThen)) (Nat.le_of_ble_eq_true rfl) rfl) ?_
      obtain rfl := Option.some.inj hf
      exact E_vret dX3_tryFrom_38 rfl ⟨rfl, rfl, rfl⟩
  · have hf := if_f c2 hf
    obtain rfl := Option.some.inj hf
    exact E_vret dX3_tryFrom_9 rfl ⟨rfl, rfl, rfl⟩
theorem r_X3_tryFrom (γ : GX) (n N : Nat) : ∀ (rr : Nat) {h : HP} {a2 : Int32} {a3 : Int32} {a4 : Int32} {d_posts : Int32} {d_sees : FN} {d_cold : FN} {d_men : Int32} {d_debts : FN} {d_on : Int32} {d_stove : Int32} {l_least : Int32} {l_chosen : FN} {l_trial : FN} {l_debtThen : FN} (hH_d : Has n 3 (dpB γ 3 d_posts d_sees d_cold d_men d_debts d_on d_stove) h) (hH_l : Has n 79 (plB γ 79 l_least l_chosen l_trial l_debtThen) h) {z : Int32 × FN × FN} (hf : f_X3_tryFrom N rr a2 a3 a4 d_posts d_men l_least l_chosen l_trial l_debtThen = some z) , Ct γ (M_X3_tryFrom rr) n h [.ref (gB γ + 79), .ref (gB γ + 3), .int a2, .int a3, .int a4] (Done none n (put 79 (plB γ 79 z.1 z.2.1 z.2.2 l_debtThen) h)) := by
  intro rr
  induction rr with
  | zero => intros; rename_i hf; cases hf
  | succ rr ih => intros; rename_i hf; exact q_X3_tryFrom (F := f_X3_tryFrom N rr) ih (by assumption) (by assumption) hf
theorem m_X3_tryFrom {γ : GX} {n : Nat} {N : Nat} {rr : Nat} {h : HP} {a2 : Int32} {a3 : Int32} {a4 : Int32} {d_posts : Int32} {d_sees : FN} {d_cold : FN} {d_men : Int32} {d_debts : FN} {d_on : Int32} {d_stove : Int32} {l_least : Int32} {l_chosen : FN} {l_trial : FN} {l_debtThen : FN} (hH_d : Has n 3 (dpB γ 3 d_posts d_sees d_cold d_men d_debts d_on d_stove) h) (hH_l : Has n 79 (plB γ 79 l_least l_chosen l_trial l_debtThen) h) {z : Int32 × FN × FN} (hf : f_X3_tryFrom N rr a2 a3 a4 d_posts d_men l_least l_chosen l_trial l_debtThen = some z)  : Ct γ (M_X3_tryFrom rr) n h [.ref (gB γ + 79), .ref (gB γ + 3), .int a2, .int a3, .int a4] (Done none n (put 79 (plB γ 79 z.1 z.2.1 z.2.2 l_debtThen) h)) := r_X3_tryFrom γ n N rr hH_d hH_l hf

-- PostRelief$Plan.search(LPostRelief$Depot;LPostRelief$Watch;)V
def f_X3_search (N : Nat) (d_posts : Int32) (d_cold : FN) (d_men : Int32) (d_on : Int32) (w_hour : Int32) (w_debts : FN) (l_least : Int32) (l_chosen : FN) (l_trial : FN) (l_debtThen : FN) : Option (Int32 × FN × FN × FN) :=
  ((f_X3_weighAll N d_posts d_cold d_men d_on w_hour w_debts l_debtThen).bind fun z1 => ((f_X3_tryFrom N 8 0 0 0 d_posts d_men 61 l_chosen l_trial z1).bind fun z8 => some (z8.1, z8.2.1, z8.2.2, z1)))
set_option maxHeartbeats 4000000 in
set_option maxRecDepth 100000 in
theorem m_X3_search {γ : GX} {n : Nat} {N : Nat} {h : HP} {d_posts : Int32} {d_sees : FN} {d_cold : FN} {d_men : Int32} {d_debts : FN} {d_on : Int32} {d_stove : Int32} {w_hour : Int32} {w_debts : FN} {w_guards : FN} {w_stood : FN} {w_served : FN} {l_least : Int32} {l_chosen : FN} {l_trial : FN} {l_debtThen : FN} (hH_d : Has n 3 (dpB γ 3 d_posts d_sees d_cold d_men d_debts d_on d_stove) h) (hH_w : Has n 11 (wtB γ 11 w_hour w_debts w_guards w_stood w_served) h) (hH_l : Has n 79 (plB γ 79 l_least l_chosen l_trial l_debtThen) h) {z : Int32 × FN × FN × FN} (hf : f_X3_search N d_posts d_cold d_men d_on w_hour w_debts l_least l_chosen l_trial l_debtThen = some z)  : Ct γ M_X3_search n h [.ref (gB γ + 79), .ref (gB γ + 3), .ref (gB γ + 11)] (Done none n (put 79 (plB γ 79 z.1 z.2.1 z.2.2.1 z.2.2.2) h)) := by
  have hn_l : 79 + 4 ≤ n := hH_l.1
  refine Ct.heap (h := (put 79 (plB γ 79 l_least l_chosen l_trial l_debtThen) h)) (put_self hH_l).symm ?_
  refine Ct_of_Ev (by decide) (fun h => by cases h) (Nat.le_of_ble_eq_true rfl) ?_
  show Ev γ M_X3_search (0, 0) n (put 79 (plB γ 79 l_least l_chosen l_trial l_debtThen) h) [(0, .ref (gB γ + 79)), (1, .ref (gB γ + 3)), (2, .ref (gB γ + 11))] 0 [] _
  unfold f_X3_search at hf
  refine E_aload_n 0 dX3_search_0 (q := 1) rfl rfl rfl ?_
  refine E_aload_n 1 dX3_search_1 (q := 2) rfl rfl rfl ?_
  refine E_aload_n 2 dX3_search_2 (q := 3) rfl rfl rfl ?_
  obtain ⟨z1, hxz1, hf⟩ := bnd hf
  have hF2 : Has n 3 (dpB γ 3 d_posts d_sees d_cold d_men d_debts d_on d_stove) (put 79 (plB γ 79 l_least l_chosen l_trial l_debtThen) h) := (has_out hH_d (Or.inl (Nat.le_of_ble_eq_true rfl)))
  have hF3 : Has n 11 (wtB γ 11 w_hour w_debts w_guards w_stood w_served) (put 79 (plB γ 79 l_least l_chosen l_trial l_debtThen) h) := (has_out hH_w (Or.inl (Nat.le_of_ble_eq_true rfl)))
  have hF4 : Has n 79 (plB γ 79 l_least l_chosen l_trial l_debtThen) (put 79 (plB γ 79 l_least l_chosen l_trial l_debtThen) h) := (has_put hn_l)
  refine E_cV (as := [.ref (gB γ + 3), .ref (gB γ + 11)]) (k := 79) (rest := []) (u' := (0, 0)) (st' := []) dX3_search_3 (q := 6) rfl lkm_X3_weighAll lkv_X3_21 (Nat.le_of_ble_eq_true rfl) ckX3 (hF4.at 0 rfl) (hF4.lt 0 (Nat.le_of_ble_eq_true rfl)) ⟨Nat.le_refl _, Nat.le_refl _⟩ (Nat.le_of_ble_eq_true rfl) rfl rfl (m_X3_weighAll (N := N)  hF2 hF3 hF4 hxz1) rfl rfl rfl ?_
  refine Ev.heap (put_put (k := 79) (cs := (plB γ 79 l_least l_chosen l_trial l_debtThen)) (cs' := (plB γ 79 l_least l_chosen l_trial z1)) (show (4 : Nat) = 4 from rfl)) ?_
  refine E_aload_n 0 dX3_search_6 (q := 7) rfl rfl rfl ?_
  refine E_bipush (x := 61) dX3_search_7 (q := 9) rfl (by decide) ?_
  have hF6 : Has n 79 (plB γ 79 l_least l_chosen l_trial z1) (put 79 (plB γ 79 l_least l_chosen l_trial z1) h) := (has_put hn_l)
  refine E_put 0 dX3_search_9 (q := 12) rfl ckX3 (Nat.le_of_ble_eq_true rfl) fl_X3_25 rfl rfl rfl (hF6.at 0 rfl) (hF6.lt 0 (Nat.le_of_ble_eq_true rfl)) (Nat.le_of_ble_eq_true rfl) (up_put (i := 0) (cs' := (plB γ 79 61 l_chosen l_trial z1)) (Nat.le_of_ble_eq_true rfl) rfl) ?_
  refine E_aload_n 0 dX3_search_12 (q := 13) rfl rfl rfl ?_
  refine E_aload_n 1 dX3_search_13 (q := 14) rfl rfl rfl ?_
  refine E_iconst (x := 0) dX3_search_14 (q := 15) rfl (by decide) ?_
  refine E_iconst (x := 0) dX3_search_15 (q := 16) rfl (by decide) ?_
  refine E_iconst (x := 0) dX3_search_16 (q := 17) rfl (by decide) ?_
  obtain ⟨z8, hxz8, hf⟩ := bnd hf
  have hF9 : Has n 3 (dpB γ 3 d_posts d_sees d_cold d_men d_debts d_on d_stove) (put 79 (plB γ 79 61 l_chosen l_trial z1) h) := (has_out hH_d (Or.inl (Nat.le_of_ble_eq_true rfl)))
  have hF10 : Has n 79 (plB γ 79 61 l_chosen l_trial z1) (put 79 (plB γ 79 61 l_chosen l_trial z1) h) := (has_put hn_l)
  refine E_cV (as := [.ref (gB γ + 3), .int 0, .int 0, .int 0]) (k := 79) (rest := []) (u' := (0, 0)) (st' := []) dX3_search_17 (q := 20) rfl (lkm_X3_tryFrom _) (lkv_X3_29 _) (Nat.le_of_ble_eq_true rfl) ckX3 (hF10.at 0 rfl) (hF10.lt 0 (Nat.le_of_ble_eq_true rfl)) ⟨Nat.le_refl _, Nat.le_refl _⟩ (Nat.le_of_ble_eq_true rfl) rfl rfl (m_X3_tryFrom (N := N) (rr := 8)  hF9 hF10 hxz8) rfl rfl rfl ?_
  refine Ev.heap (put_put (k := 79) (cs := (plB γ 79 61 l_chosen l_trial z1)) (cs' := (plB γ 79 z8.1 z8.2.1 z8.2.2 z1)) (show (4 : Nat) = 4 from rfl)) ?_
  obtain rfl := Option.some.inj hf
  exact E_vret dX3_search_20 rfl ⟨rfl, rfl, rfl⟩
