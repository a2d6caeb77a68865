def M_X5_begin : MI := (yX5_begin, cX5_begin, 2, none, false, 2, 0, 0)
theorem lkm_X5_begin : LkM M_X5_begin 1 := ⟨(lg_mem 53 (by decide +kernel) rfl), (lg_mem 363 (by decide +kernel) rfl), ⟨by decide, by decide, by decide +kernel⟩, (Nat.le_of_ble_eq_true rfl)⟩
def M_X5_become : MI := (yX5_become, cX5_become, 2, none, false, 1, 0, 0)
theorem lkm_X5_become : LkM M_X5_become 1 := ⟨(lg_mem 53 (by decide +kernel) rfl), (lg_mem 432 (by decide +kernel) rfl), ⟨by decide, by decide, by decide +kernel⟩, (Nat.le_of_ble_eq_true rfl)⟩
def M_X5_placeOf : MI := (yX5_placeOf, cX5_placeOf, 3, (some .int), false, 1, 0, 0)
theorem lkm_X5_placeOf : LkM M_X5_placeOf 1 := ⟨(lg_mem 53 (by decide +kernel) rfl), (lg_mem 392 (by decide +kernel) rfl), ⟨by decide, by decide, by decide +kernel⟩, (Nat.le_of_ble_eq_true rfl)⟩
def M_X5_place : MI := (yX5_place, cX5_place, 3, none, false, 1, 0, 0)
theorem lkm_X5_place : LkM M_X5_place 2 := ⟨(lg_mem 53 (by decide +kernel) rfl), (lg_mem 437 (by decide +kernel) rfl), ⟨by decide, by decide, by decide +kernel⟩, (Nat.le_of_ble_eq_true rfl)⟩
def M_X5_sleepsAt : MI := (yX5_sleepsAt, cX5_sleepsAt, 3, (some .boolean), false, 1, 0, 0)
theorem lkm_X5_sleepsAt : LkM M_X5_sleepsAt 1 := ⟨(lg_mem 53 (by decide +kernel) rfl), (lg_mem 396 (by decide +kernel) rfl), ⟨by decide, by decide, by decide +kernel⟩, (Nat.le_of_ble_eq_true rfl)⟩
def M_X5_mannedPosts : MI := (yX5_mannedPosts, cX5_mannedPosts, 3, (some .int), false, 1, 0, 0)
theorem lkm_X5_mannedPosts : LkM M_X5_mannedPosts 0 := ⟨(lg_mem 53 (by decide +kernel) rfl), (lg_mem 404 (by decide +kernel) rfl), ⟨by decide, by decide, by decide +kernel⟩, (Nat.le_of_ble_eq_true rfl)⟩
def M_X5_sleepingPosts : MI := (yX5_sleepingPosts, cX5_sleepingPosts, 3, (some .int), false, 2, 0, 0)
theorem lkm_X5_sleepingPosts : LkM M_X5_sleepingPosts 0 := ⟨(lg_mem 53 (by decide +kernel) rfl), (lg_mem 408 (by decide +kernel) rfl), ⟨by decide, by decide, by decide +kernel⟩, (Nat.le_of_ble_eq_true rfl)⟩
def M_X5_watchedPosts : MI := (yX5_watchedPosts, cX5_watchedPosts, 2, (some .int), false, 4, 0, 0)
theorem lkm_X5_watchedPosts : LkM M_X5_watchedPosts 1 := ⟨(lg_mem 53 (by decide +kernel) rfl), (lg_mem 413 (by decide +kernel) rfl), ⟨by decide, by decide, by decide +kernel⟩, (Nat.le_of_ble_eq_true rfl)⟩
def M_X5_passHour : MI := (yX5_passHour, cX5_passHour, 4, none, false, 2, 0, 0)
theorem lkm_X5_passHour : LkM M_X5_passHour 1 := ⟨(lg_mem 53 (by decide +kernel) rfl), (lg_mem 455 (by decide +kernel) rfl), ⟨by decide, by decide, by decide +kernel⟩, (Nat.le_of_ble_eq_true rfl)⟩
def M_X5_freshestMan : MI := (yX5_freshestMan, cX5_freshestMan, 6, (some .int), false, 2, 0, 0)
theorem lkm_X5_freshestMan : LkM M_X5_freshestMan 2 := ⟨(lg_mem 53 (by decide +kernel) rfl), (lg_mem 476 (by decide +kernel) rfl), ⟨by decide, by decide, by decide +kernel⟩, (Nat.le_of_ble_eq_true rfl)⟩
def M_X5_bringRelief : MI := (yX5_bringRelief, cX5_bringRelief, 10, (some .int), false, 3, 0, 0)
theorem lkm_X5_bringRelief : LkM M_X5_bringRelief 3 := ⟨(lg_mem 53 (by decide +kernel) rfl), (lg_mem 472 (by decide +kernel) rfl), ⟨by decide, by decide, by decide +kernel⟩, (Nat.le_of_ble_eq_true rfl)⟩
def M_X5_advance : MI := (yX5_advance, cX5_advance, 3, none, false, 4, 0, 0)
theorem lkm_X5_advance : LkM M_X5_advance 2 := ⟨(lg_mem 53 (by decide +kernel) rfl), (lg_mem 498 (by decide +kernel) rfl), ⟨by decide, by decide, by decide +kernel⟩, (Nat.le_of_ble_eq_true rfl)⟩
def M_X5_greatestDebt : MI := (yX5_greatestDebt, cX5_greatestDebt, 4, (some .int), false, 1, 0, 0)
theorem lkm_X5_greatestDebt : LkM M_X5_greatestDebt 1 := ⟨(lg_mem 53 (by decide +kernel) rfl), (lg_mem 505 (by decide +kernel) rfl), ⟨by decide, by decide, by decide +kernel⟩, (Nat.le_of_ble_eq_true rfl)⟩
def M_X5_debtOnPost : MI := (yX5_debtOnPost, cX5_debtOnPost, 3, (some .int), false, 1, 0, 0)
theorem lkm_X5_debtOnPost : LkM M_X5_debtOnPost 0 := ⟨(lg_mem 53 (by decide +kernel) rfl), (lg_mem 513 (by decide +kernel) rfl), ⟨by decide, by decide, by decide +kernel⟩, (Nat.le_of_ble_eq_true rfl)⟩
def M_X5_coldOf : MI := (yX5_coldOf, cX5_coldOf, 5, (some .int), false, 1, 0, 0)
theorem lkm_X5_coldOf : LkM M_X5_coldOf 2 := ⟨(lg_mem 53 (by decide +kernel) rfl), (lg_mem 617 (by decide +kernel) rfl), ⟨by decide, by decide, by decide +kernel⟩, (Nat.le_of_ble_eq_true rfl)⟩
theorem fl_X5_30 : Cond.fieldLink RX5 30 (TX5 0).1 (TX5 0).2.1 (TX5 0).2.2.1 ∈ lw_good := (lg_mem 161 (by decide +kernel) rfl)
theorem fl_X5_34 : Cond.fieldLink RX5 34 (TX0 4).1 (TX0 4).2.1 (TX0 4).2.2.1 ∈ lw_good := (lg_mem 126 (by decide +kernel) rfl)
theorem fl_X5_9 : Cond.fieldLink RX5 9 (TX5 1).1 (TX5 1).2.1 (TX5 1).2.2.1 ∈ lw_good := (lg_mem 164 (by decide +kernel) rfl)
theorem lkcp_X5_37 : Cond.methodLink RX5 37 arraycopyName ∈ lw_good := (lg_mem 364 (by decide +kernel) rfl)
theorem fl_X5_15 : Cond.fieldLink RX5 15 (TX5 2).1 (TX5 2).2.1 (TX5 2).2.2.1 ∈ lw_good := (lg_mem 167 (by decide +kernel) rfl)
theorem lks_X5_24 : LkS RX5 24 M_J7_fill := ⟨(lg_mem 158 (by decide +kernel) rfl), (lg_mem 159 (by decide +kernel) rfl)⟩
theorem fl_X5_18 : Cond.fieldLink RX5 18 (TX5 3).1 (TX5 3).2.1 (TX5 3).2.2.1 ∈ lw_good := (lg_mem 169 (by decide +kernel) rfl)
theorem fl_X5_21 : Cond.fieldLink RX5 21 (TX5 4).1 (TX5 4).2.1 (TX5 4).2.2.1 ∈ lw_good := (lg_mem 171 (by decide +kernel) rfl)
theorem lkv_X5_43 : LkV RX5 43 M_X5_sleepsAt := ⟨(lg_mem 409 (by decide +kernel) rfl), (lg_mem 394 (by decide +kernel) rfl), (lg_mem 395 (by decide +kernel) rfl)⟩
theorem lkv_X5_47 : LkV RX5 47 M_X5_mannedPosts := ⟨(lg_mem 414 (by decide +kernel) rfl), (lg_mem 402 (by decide +kernel) rfl), (lg_mem 403 (by decide +kernel) rfl)⟩
theorem lkv_X5_51 : LkV RX5 51 M_X5_sleepingPosts := ⟨(lg_mem 415 (by decide +kernel) rfl), (lg_mem 406 (by decide +kernel) rfl), (lg_mem 407 (by decide +kernel) rfl)⟩
theorem lkv_X5_54 : LkV RX5 54 M_X0_watchedBy := ⟨(lg_mem 416 (by decide +kernel) rfl), (lg_mem 417 (by decide +kernel) rfl), (lg_mem 418 (by decide +kernel) rfl)⟩
theorem fl_X5_58 : Cond.fieldLink RX5 58 (TX0 3).1 (TX0 3).2.1 (TX0 3).2.2.1 ∈ lw_good := (lg_mem 123 (by decide +kernel) rfl)
theorem fl_X5_64 : Cond.fieldLink RX5 64 (TX0 6).1 (TX0 6).2.1 (TX0 6).2.2.1 ∈ lw_good := (lg_mem 135 (by decide +kernel) rfl)
theorem lkmax_X5_67 : Cond.methodLink RX5 67 Lib.Math.max.name ∈ lw_good := (lg_mem 457 (by decide +kernel) rfl)
theorem lkmin_X5_76 : Cond.methodLink RX5 76 Lib.Math.min.name ∈ lw_good := (lg_mem 464 (by decide +kernel) rfl)
theorem st_min : Cond.static Lib.Math.min.name ∈ lw_good := (lg_mem 319 (by decide +kernel) rfl)
theorem co_min : Cond.code Lib.Math.min.name Lib.Math.min.code 2 (some .int) ∈ lw_good := (lg_mem 320 (by decide +kernel) rfl)
theorem lkv_X5_61 : LkV RX5 61 M_X5_placeOf := ⟨(lg_mem 456 (by decide +kernel) rfl), (lg_mem 390 (by decide +kernel) rfl), (lg_mem 391 (by decide +kernel) rfl)⟩
theorem lkv_X5_73 : LkV RX5 73 M_X0_burden := ⟨(lg_mem 460 (by decide +kernel) rfl), (lg_mem 461 (by decide +kernel) rfl), (lg_mem 462 (by decide +kernel) rfl)⟩
theorem fl_X5_79 : Cond.fieldLink RX5 79 (TX0 0).1 (TX0 0).2.1 (TX0 0).2.2.1 ∈ lw_good := (lg_mem 112 (by decide +kernel) rfl)
theorem fl_X5_82 : Cond.fieldLink RX5 82 (TX0 5).1 (TX0 5).2.1 (TX0 5).2.2.1 ∈ lw_good := (lg_mem 131 (by decide +kernel) rfl)
theorem lkv_X5_93 : LkV RX5 93 M_X0_nextPost := ⟨(lg_mem 478 (by decide +kernel) rfl), (lg_mem 479 (by decide +kernel) rfl), (lg_mem 480 (by decide +kernel) rfl)⟩
theorem lkv_X5_85 : LkV RX5 85 M_X5_freshestMan := ⟨(lg_mem 473 (by decide +kernel) rfl), (lg_mem 474 (by decide +kernel) rfl), (lg_mem 475 (by decide +kernel) rfl)⟩
theorem lkv_X5_89 : LkV RX5 89 M_X5_place := ⟨(lg_mem 477 (by decide +kernel) rfl), (lg_mem 435 (by decide +kernel) rfl), (lg_mem 436 (by decide +kernel) rfl)⟩
theorem lkv_X5_96 : LkV RX5 96 M_X5_passHour := ⟨(lg_mem 499 (by decide +kernel) rfl), (lg_mem 453 (by decide +kernel) rfl), (lg_mem 454 (by decide +kernel) rfl)⟩
theorem lkv_X5_100 : LkV RX5 100 M_X5_bringRelief := ⟨(lg_mem 500 (by decide +kernel) rfl), (lg_mem 470 (by decide +kernel) rfl), (lg_mem 471 (by decide +kernel) rfl)⟩
theorem fl_X5_104 : Cond.fieldLink RX5 104 (TX0 2).1 (TX0 2).2.1 (TX0 2).2.2.1 ∈ lw_good := (lg_mem 119 (by decide +kernel) rfl)
-- PostRelief$Watch.begin(LPostRelief$Depot;)V
def f_X5_begin (N : Nat) (d_debts : FN) (w_hour : Int32) (w_debts : FN) (w_guards : FN) (w_stood : FN) (w_served : FN) : Option (Int32 × FN × FN × FN × FN) :=
  some (0, (va_cpy d_debts w_debts (ci 0) (ci 0) (ci 6)), (fillF w_guards 5 (-9)), (fillF w_stood 5 0), (fillF w_served 30 0))
set_option maxHeartbeats 4000000 in
set_option maxRecDepth 100000 in
theorem m_X5_begin {γ : GX} {n : Nat} {N : Nat} {k : Nat} {h : HP} {d_posts : Int32} {d_sees : FN} {d_cold : FN} {d_men : Int32} {d_debts : FN} {d_on : Int32} {d_stove : Int32} {w_hour : Int32} {w_debts : FN} {w_guards : FN} {w_stood : FN} {w_served : FN} (hk : 11 ≤ k) (hH_d : Has n 3 (dpB γ 3 d_posts d_sees d_cold d_men d_debts d_on d_stove) h) (hH_w : Has n k (wtB γ k w_hour w_debts w_guards w_stood w_served) h) {z : Int32 × FN × FN × FN × FN} (hf : f_X5_begin N d_debts w_hour w_debts w_guards w_stood w_served = some z)  : Ct γ M_X5_begin n h [.ref (gB γ + k), .ref (gB γ + 3)] (Done none n (put k (wtB γ k z.1 z.2.1 z.2.2.1 z.2.2.2.1 z.2.2.2.2) h)) := by
  have hn_w : k + 5 ≤ n := hH_w.1
  refine Ct.heap (h := (put k (wtB γ k w_hour w_debts w_guards w_stood w_served) h)) (put_self hH_w).symm ?_
  refine Ct_of_Ev (by decide) (fun h => by cases h) (Nat.le_of_ble_eq_true rfl) ?_
  show Ev γ M_X5_begin (0, 0) n (put k (wtB γ k w_hour w_debts w_guards w_stood w_served) h) [(0, .ref (gB γ + k)), (1, .ref (gB γ + 3))] 0 [] _
  unfold f_X5_begin at hf
  refine E_aload_n 0 dX5_begin_0 (q := 1) rfl rfl rfl ?_
  refine E_iconst (x := 0) dX5_begin_1 (q := 2) rfl (by decide) ?_
  have hF1 : Has n k (wtB γ k w_hour w_debts w_guards w_stood w_served) (put k (wtB γ k w_hour w_debts w_guards w_stood w_served) h) := (has_put hn_w)
  refine E_put 0 dX5_begin_2 (q := 5) rfl ckX5 (Nat.le_of_ble_eq_true rfl) fl_X5_30 rfl rfl rfl (hF1.at 0 rfl) (hF1.lt 0 (Nat.le_of_ble_eq_true rfl)) (Nat.le_of_ble_eq_true rfl) (up_put (i := 0) (cs' := (wtB γ k 0 w_debts w_guards w_stood w_served)) (Nat.le_of_ble_eq_true rfl) rfl) ?_
  refine E_aload_n 1 dX5_begin_5 (q := 6) rfl rfl rfl ?_
  have hF3 : Has n 3 (dpB γ 3 d_posts d_sees d_cold d_men d_debts d_on d_stove) (put k (wtB γ k 0 w_debts w_guards w_stood w_served) h) := (has_out hH_d (Or.inl (by show 3 + 4 ≤ k; omega)))
  refine E_get 4 dX5_begin_6 (q := 9) rfl ckX0 (Nat.le_of_ble_eq_true rfl) fl_X5_34 (hF3.at 0 rfl) (hF3.lt 0 (Nat.le_of_ble_eq_true rfl)) rfl ?_
  refine E_iconst (x := 0) dX5_begin_9 (q := 10) rfl (by decide) ?_
  refine E_aload_n 0 dX5_begin_10 (q := 11) rfl rfl rfl ?_
  have hF4 : Has n k (wtB γ k 0 w_debts w_guards w_stood w_served) (put k (wtB γ k 0 w_debts w_guards w_stood w_served) h) := (has_put hn_w)
  refine E_get 1 dX5_begin_11 (q := 14) rfl ckX5 (Nat.le_of_ble_eq_true rfl) fl_X5_9 (hF4.at 0 rfl) (hF4.lt 0 (Nat.le_of_ble_eq_true rfl)) rfl ?_
  refine E_iconst (x := 0) dX5_begin_14 (q := 15) rfl (by decide) ?_
  refine E_bipush (x := 6) dX5_begin_15 (q := 17) rfl (by decide) ?_
  refine E_copy dX5_begin_17 (q := 20) rfl lkcp_X5_37 na_cp st_cp in_sys (hF3.at 3 rfl) (hF3.lt 3 (Nat.le_of_ble_eq_true rfl)) (hF4.at 1 rfl) (hF4.lt 1 (Nat.le_of_ble_eq_true rfl)) (by decide) (by decide) (by decide) (by decide) (by decide) (Nat.le_of_ble_eq_true rfl) (Nat.le_of_ble_eq_true rfl) (up_put (i := 1) (cs' := (wtB γ k 0 (va_cpy d_debts w_debts (ci 0) (ci 0) (ci 6)) w_guards w_stood w_served)) (Nat.le_of_ble_eq_true rfl) rfl) ?_
  refine E_aload_n 0 dX5_begin_20 (q := 21) rfl rfl rfl ?_
  have hF6 : Has n k (wtB γ k 0 (va_cpy d_debts w_debts (ci 0) (ci 0) (ci 6)) w_guards w_stood w_served) (put k (wtB γ k 0 (va_cpy d_debts w_debts (ci 0) (ci 0) (ci 6)) w_guards w_stood w_served) h) := (has_put hn_w)
  refine E_get 2 dX5_begin_21 (q := 24) rfl ckX5 (Nat.le_of_ble_eq_true rfl) fl_X5_15 (hF6.at 0 rfl) (hF6.lt 0 (Nat.le_of_ble_eq_true rfl)) rfl ?_
  refine E_bipush (x := (-9)) dX5_begin_24 (q := 26) rfl (by decide) ?_
  refine E_fill (a := k + 2) (len := 5) (x := (-9)) dX5_begin_26 (q := 29) rfl lks_X5_24 (Nat.le_of_ble_eq_true rfl) ⟨Nat.le_refl _, Nat.le_refl _⟩ (Nat.le_of_ble_eq_true rfl) (hF6.at 2 rfl) (hF6.lt 2 (Nat.le_of_ble_eq_true rfl)) (Nat.le_of_ble_eq_true rfl) (up_put (i := 2) (cs' := (wtB γ k 0 (va_cpy d_debts w_debts (ci 0) (ci 0) (ci 6)) (fillF w_guards 5 (-9)) w_stood w_served)) (Nat.le_of_ble_eq_true rfl) rfl) ?_
  refine E_aload_n 0 dX5_begin_29 (q := 30) rfl rfl rfl ?_
  have hF8 : Has n k (wtB γ k 0 (va_cpy d_debts w_debts (ci 0) (ci 0) (ci 6)) (fillF w_guards 5 (-9)) w_stood w_served) (put k (wtB γ k 0 (va_cpy d_debts w_debts (ci 0) (ci 0) (ci 6)) (fillF w_guards 5 (-9)) w_stood w_served) h) := (has_put hn_w)
  refine E_get 3 dX5_begin_30 (q := 33) rfl ckX5 (Nat.le_of_ble_eq_true rfl) fl_X5_18 (hF8.at 0 rfl) (hF8.lt 0 (Nat.le_of_ble_eq_true rfl)) rfl ?_
  refine E_iconst (x := 0) dX5_begin_33 (q := 34) rfl (by decide) ?_
  refine E_fill (a := k + 3) (len := 5) (x := 0) dX5_begin_34 (q := 37) rfl lks_X5_24 (Nat.le_of_ble_eq_true rfl) ⟨Nat.le_refl _, Nat.le_refl _⟩ (Nat.le_of_ble_eq_true rfl) (hF8.at 3 rfl) (hF8.lt 3 (Nat.le_of_ble_eq_true rfl)) (Nat.le_of_ble_eq_true rfl) (up_put (i := 3) (cs' := (wtB γ k 0 (va_cpy d_debts w_debts (ci 0) (ci 0) (ci 6)) (fillF w_guards 5 (-9)) (fillF w_stood 5 0) w_served)) (Nat.le_of_ble_eq_true rfl) rfl) ?_
  refine E_aload_n 0 dX5_begin_37 (q := 38) rfl rfl rfl ?_
  have hF10 : Has n k (wtB γ k 0 (va_cpy d_debts w_debts (ci 0) (ci 0) (ci 6)) (fillF w_guards 5 (-9)) (fillF w_stood 5 0) w_served) (put k (wtB γ k 0 (va_cpy d_debts w_debts (ci 0) (ci 0) (ci 6)) (fillF w_guards 5 (-9)) (fillF w_stood 5 0) w_served) h) := (has_put hn_w)
  refine E_get 4 dX5_begin_38 (q := 41) rfl ckX5 (Nat.le_of_ble_eq_true rfl) fl_X5_21 (hF10.at 0 rfl) (hF10.lt 0 (Nat.le_of_ble_eq_true rfl)) rfl ?_
  refine E_iconst (x := 0) dX5_begin_41 (q := 42) rfl (by decide) ?_
  refine E_fill (a := k + 4) (len := 30) (x := 0) dX5_begin_42 (q := 45) rfl lks_X5_24 (Nat.le_of_ble_eq_true rfl) ⟨Nat.le_refl _, Nat.le_refl _⟩ (Nat.le_of_ble_eq_true rfl) (hF10.at 4 rfl) (hF10.lt 4 (Nat.le_of_ble_eq_true rfl)) (Nat.le_of_ble_eq_true rfl) (up_put (i := 4) (cs' := (wtB γ k 0 (va_cpy d_debts w_debts (ci 0) (ci 0) (ci 6)) (fillF w_guards 5 (-9)) (fillF w_stood 5 0) (fillF w_served 30 0))) (Nat.le_of_ble_eq_true rfl) rfl) ?_
  obtain rfl := Option.some.inj hf
  exact E_vret dX5_begin_45 rfl ⟨rfl, rfl, rfl⟩

-- PostRelief$Watch.become(LPostRelief$Watch;)V
def f_X5_become (N : Nat) (w_hour : Int32) (w_debts : FN) (w_guards : FN) (w_stood : FN) (w_served : FN) (o_hour : Int32) (o_debts : FN) (o_guards : FN) (o_stood : FN) (o_served : FN) : Option (Int32 × FN × FN × FN × FN) :=
  some (o_hour, (va_cpy o_debts w_debts (ci 0) (ci 0) (ci 6)), (va_cpy o_guards w_guards (ci 0) (ci 0) (ci 5)), (va_cpy o_stood w_stood (ci 0) (ci 0) (ci 5)), (va_cpy o_served w_served (ci 0) (ci 0) (ci 30)))
set_option maxHeartbeats 4000000 in
set_option maxRecDepth 100000 in
theorem m_X5_become {γ : GX} {n : Nat} {N : Nat} {k : Nat} {k2 : Nat} {h : HP} {w_hour : Int32} {w_debts : FN} {w_guards : FN} {w_stood : FN} {w_served : FN} {o_hour : Int32} {o_debts : FN} {o_guards : FN} {o_stood : FN} {o_served : FN} (hk : 11 ≤ k) (hdk : k + 5 ≤ k2 ∨ k2 + 5 ≤ k) (hH_w : Has n k (wtB γ k w_hour w_debts w_guards w_stood w_served) h) (hH_o : Has n k2 (wtB γ k2 o_hour o_debts o_guards o_stood o_served) h) {z : Int32 × FN × FN × FN × FN} (hf : f_X5_become N w_hour w_debts w_guards w_stood w_served o_hour o_debts o_guards o_stood o_served = some z)  : Ct γ M_X5_become n h [.ref (gB γ + k), .ref (gB γ + k2)] (Done none n (put k (wtB γ k z.1 z.2.1 z.2.2.1 z.2.2.2.1 z.2.2.2.2) h)) := by
  have hn_w : k + 5 ≤ n := hH_w.1
  refine Ct.heap (h := (put k (wtB γ k w_hour w_debts w_guards w_stood w_served) h)) (put_self hH_w).symm ?_
  refine Ct_of_Ev (by decide) (fun h => by cases h) (Nat.le_of_ble_eq_true rfl) ?_
  show Ev γ M_X5_become (0, 0) n (put k (wtB γ k w_hour w_debts w_guards w_stood w_served) h) [(0, .ref (gB γ + k)), (1, .ref (gB γ + k2))] 0 [] _
  unfold f_X5_become at hf
  refine E_aload_n 0 dX5_become_0 (q := 1) rfl rfl rfl ?_
  refine E_aload_n 1 dX5_become_1 (q := 2) rfl rfl rfl ?_
  have hF1 : Has n k2 (wtB γ k2 o_hour o_debts o_guards o_stood o_served) (put k (wtB γ k w_hour w_debts w_guards w_stood w_served) h) := (has_out hH_o hdk.symm)
  refine E_get 0 dX5_become_2 (q := 5) rfl ckX5 (Nat.le_of_ble_eq_true rfl) fl_X5_30 (hF1.at 0 rfl) (hF1.lt 0 (Nat.le_of_ble_eq_true rfl)) rfl ?_
  have hF2 : Has n k (wtB γ k w_hour w_debts w_guards w_stood w_served) (put k (wtB γ k w_hour w_debts w_guards w_stood w_served) h) := (has_put hn_w)
  refine E_put 0 dX5_become_5 (q := 8) rfl ckX5 (Nat.le_of_ble_eq_true rfl) fl_X5_30 rfl rfl rfl (hF2.at 0 rfl) (hF2.lt 0 (Nat.le_of_ble_eq_true rfl)) (Nat.le_of_ble_eq_true rfl) (up_put (i := 0) (cs' := (wtB γ k o_hour w_debts w_guards w_stood w_served)) (Nat.le_of_ble_eq_true rfl) rfl) ?_
  refine E_aload_n 1 dX5_become_8 (q := 9) rfl rfl rfl ?_
  have hF4 : Has n k2 (wtB γ k2 o_hour o_debts o_guards o_stood o_served) (put k (wtB γ k o_hour w_debts w_guards w_stood w_served) h) := (has_out hH_o hdk.symm)
  refine E_get 1 dX5_become_9 (q := 12) rfl ckX5 (Nat.le_of_ble_eq_true rfl) fl_X5_9 (hF4.at 0 rfl) (hF4.lt 0 (Nat.le_of_ble_eq_true rfl)) rfl ?_
  refine E_iconst (x := 0) dX5_become_12 (q := 13) rfl (by decide) ?_
  refine E_aload_n 0 dX5_become_13 (q := 14) rfl rfl rfl ?_
  have hF5 : Has n k (wtB γ k o_hour w_debts w_guards w_stood w_served) (put k (wtB γ k o_hour w_debts w_guards w_stood w_served) h) := (has_put hn_w)
  refine E_get 1 dX5_become_14 (q := 17) rfl ckX5 (Nat.le_of_ble_eq_true rfl) fl_X5_9 (hF5.at 0 rfl) (hF5.lt 0 (Nat.le_of_ble_eq_true rfl)) rfl ?_
  refine E_iconst (x := 0) dX5_become_17 (q := 18) rfl (by decide) ?_
  refine E_bipush (x := 6) dX5_become_18 (q := 20) rfl (by decide) ?_
  refine E_copy dX5_become_20 (q := 23) rfl lkcp_X5_37 na_cp st_cp in_sys (hF4.at 1 rfl) (hF4.lt 1 (Nat.le_of_ble_eq_true rfl)) (hF5.at 1 rfl) (hF5.lt 1 (Nat.le_of_ble_eq_true rfl)) (by decide) (by decide) (by decide) (by decide) (by decide) (Nat.le_of_ble_eq_true rfl) (Nat.le_of_ble_eq_true rfl) (up_put (i := 1) (cs' := (wtB γ k o_hour (va_cpy o_debts w_debts (ci 0) (ci 0) (ci 6)) w_guards w_stood w_served)) (Nat.le_of_ble_eq_true rfl) rfl) ?_
  refine E_aload_n 1 dX5_become_23 (q := 24) rfl rfl rfl ?_
  have hF7 : Has n k2 (wtB γ k2 o_hour o_debts o_guards o_stood o_served) (put k (wtB γ k o_hour (va_cpy o_debts w_debts (ci 0) (ci 0) (ci 6)) w_guards w_stood w_served) h) := (has_out hH_o hdk.symm)
  refine E_get 2 dX5_become_24 (q := 27) rfl ckX5 (Nat.le_of_ble_eq_true rfl) fl_X5_15 (hF7.at 0 rfl) (hF7.lt 0 (Nat.le_of_ble_eq_true rfl)) rfl ?_
  refine E_iconst (x := 0) dX5_become_27 (q := 28) rfl (by decide) ?_
  refine E_aload_n 0 dX5_become_28 (q := 29) rfl rfl rfl ?_
  have hF8 : Has n k (wtB γ k o_hour (va_cpy o_debts w_debts (ci 0) (ci 0) (ci 6)) w_guards w_stood w_served) (put k (wtB γ k o_hour (va_cpy o_debts w_debts (ci 0) (ci 0) (ci 6)) w_guards w_stood w_served) h) := (has_put hn_w)
  refine E_get 2 dX5_become_29 (q := 32) rfl ckX5 (Nat.le_of_ble_eq_true rfl) fl_X5_15 (hF8.at 0 rfl) (hF8.lt 0 (Nat.le_of_ble_eq_true rfl)) rfl ?_
  refine E_iconst (x := 0) dX5_become_32 (q := 33) rfl (by decide) ?_
  refine E_iconst (x := 5) dX5_become_33 (q := 34) rfl (by decide) ?_
  refine E_copy dX5_become_34 (q := 37) rfl lkcp_X5_37 na_cp st_cp in_sys (hF7.at 2 rfl) (hF7.lt 2 (Nat.le_of_ble_eq_true rfl)) (hF8.at 2 rfl) (hF8.lt 2 (Nat.le_of_ble_eq_true rfl)) (by decide) (by decide) (by decide) (by decide) (by decide) (Nat.le_of_ble_eq_true rfl) (Nat.le_of_ble_eq_true rfl) (up_put (i := 2) (cs' := (wtB γ k o_hour (va_cpy o_debts w_debts (ci 0) (ci 0) (ci 6)) (va_cpy o_guards w_guards (ci 0) (ci 0) (ci 5)) w_stood w_served)) (Nat.le_of_ble_eq_true rfl) rfl) ?_
  refine E_aload_n 1 dX5_become_37 (q := 38) rfl rfl rfl ?_
  have hF10 : Has n k2 (wtB γ k2 o_hour o_debts o_guards o_stood o_served) (put k (wtB γ k o_hour (va_cpy o_debts w_debts (ci 0) (ci 0) (ci 6)) (va_cpy o_guards w_guards (ci 0) (ci 0) (ci 5)) w_stood w_served) h) := (has_out hH_o hdk.symm)
  refine E_get 3 dX5_become_38 (q := 41) rfl ckX5 (Nat.le_of_ble_eq_true rfl) fl_X5_18 (hF10.at 0 rfl) (hF10.lt 0 (Nat.le_of_ble_eq_true rfl)) rfl ?_
  refine E_iconst (x := 0) dX5_become_41 (q := 42) rfl (by decide) ?_
  refine E_aload_n 0 dX5_become_42 (q := 43) rfl rfl rfl ?_
  have hF11 : Has n k (wtB γ k o_hour (va_cpy o_debts w_debts (ci 0) (ci 0) (ci 6)) (va_cpy o_guards w_guards (ci 0) (ci 0) (ci 5)) w_stood w_served) (put k (wtB γ k o_hour (va_cpy o_debts w_debts (ci 0) (ci 0) (ci 6)) (va_cpy o_guards w_guards (ci 0) (ci 0) (ci 5)) w_stood w_served) h) := (has_put hn_w)
  refine E_get 3 dX5_become_43 (q := 46) rfl ckX5 (Nat.le_of_ble_eq_true rfl) fl_X5_18 (hF11.at 0 rfl) (hF11.lt 0 (Nat.le_of_ble_eq_true rfl)) rfl ?_
  refine E_iconst (x := 0) dX5_become_46 (q := 47) rfl (by decide) ?_
  refine E_iconst (x := 5) dX5_become_47 (q := 48) rfl (by decide) ?_
  refine E_copy dX5_become_48 (q := 51) rfl lkcp_X5_37 na_cp st_cp in_sys (hF10.at 3 rfl) (hF10.lt 3 (Nat.le_of_ble_eq_true rfl)) (hF11.at 3 rfl) (hF11.lt 3 (Nat.le_of_ble_eq_true rfl)) (by decide) (by decide) (by decide) (by decide) (by decide) (Nat.le_of_ble_eq_true rfl) (Nat.le_of_ble_eq_true rfl) (up_put (i := 3) (cs' := (wtB γ k o_hour (va_cpy o_debts w_debts (ci 0) (ci 0) (ci 6)) (va_cpy o_guards w_guards (ci 0) (ci 0) (ci 5)) (va_cpy o_stood w_stood (ci 0) (ci 0) (ci 5)) w_served)) (Nat.le_of_ble_eq_true rfl) rfl) ?_
  refine E_aload_n 1 dX5_become_51 (q := 52) rfl rfl rfl ?_
  have hF13 : Has n k2 (wtB γ k2 o_hour o_debts o_guards o_stood o_served) (put k (wtB γ k o_hour (va_cpy o_debts w_debts (ci 0) (ci 0) (ci 6)) (va_cpy o_guards w_guards (ci 0) (ci 0) (ci 5)) (va_cpy o_stood w_stood (ci 0) (ci 0) (ci 5)) w_served) h) := (has_out hH_o hdk.symm)
  refine E_get 4 dX5_become_52 (q := 55) rfl ckX5 (Nat.le_of_ble_eq_true rfl) fl_X5_21 (hF13.at 0 rfl) (hF13.lt 0 (Nat.le_of_ble_eq_true rfl)) rfl ?_
  refine E_iconst (x := 0) dX5_become_55 (q := 56) rfl (by decide) ?_
  refine E_aload_n 0 dX5_become_56 (q := 57) rfl rfl rfl ?_
  have hF14 : Has n k (wtB γ k o_hour (va_cpy o_debts w_debts (ci 0) (ci 0) (ci 6)) (va_cpy o_guards w_guards (ci 0) (ci 0) (ci 5)) (va_cpy o_stood w_stood (ci 0) (ci 0) (ci 5)) w_served) (put k (wtB γ k o_hour (va_cpy o_debts w_debts (ci 0) (ci 0) (ci 6)) (va_cpy o_guards w_guards (ci 0) (ci 0) (ci 5)) (va_cpy o_stood w_stood (ci 0) (ci 0) (ci 5)) w_served) h) := (has_put hn_w)
  refine E_get 4 dX5_become_57 (q := 60) rfl ckX5 (Nat.le_of_ble_eq_true rfl) fl_X5_21 (hF14.at 0 rfl) (hF14.lt 0 (Nat.le_of_ble_eq_true rfl)) rfl ?_
  refine E_iconst (x := 0) dX5_become_60 (q := 61) rfl (by decide) ?_
  refine E_bipush (x := 30) dX5_become_61 (q := 63) rfl (by decide) ?_
  refine E_copy dX5_become_63 (q := 66) rfl lkcp_X5_37 na_cp st_cp in_sys (hF13.at 4 rfl) (hF13.lt 4 (Nat.le_of_ble_eq_true rfl)) (hF14.at 4 rfl) (hF14.lt 4 (Nat.le_of_ble_eq_true rfl)) (by decide) (by decide) (by decide) (by decide) (by decide) (Nat.le_of_ble_eq_true rfl) (Nat.le_of_ble_eq_true rfl) (up_put (i := 4) (cs' := (wtB γ k o_hour (va_cpy o_debts w_debts (ci 0) (ci 0) (ci 6)) (va_cpy o_guards w_guards (ci 0) (ci 0) (ci 5)) (va_cpy o_stood w_stood (ci 0) (ci 0) (ci 5)) (va_cpy o_served w_served (ci 0) (ci 0) (ci 30)))) (Nat.le_of_ble_eq_true rfl) rfl) ?_
  obtain rfl := Option.some.inj hf
  exact E_vret dX5_become_66 rfl ⟨rfl, rfl, rfl⟩

-- PostRelief$Watch.placeOf(I)I
def b_X5_placeOf_1 (N : Nat) (p1 : Int32) (w_guards : FN) (v2 : Int32) : Option ((Int32) ⊕ ((Unit) ⊕ (Int32))) :=
  (if 5 ≤ v2 then some (.inr (.inl ())) else (if ix v2 5 = true then (if (w_guards (ci v2)) = p1 then some (.inr (.inr v2)) else some (.inl (v2 + 1))) else none))
def f_X5_placeOf (N : Nat) (a1 : Int32) (w_guards : FN) : Option (Int32) :=
  ((lp (fun s => b_X5_placeOf_1 N a1 w_guards s) N 0).bind (Sum.elim (fun t5e => some (-9)) (fun r_ => some r_)))
set_option maxHeartbeats 4000000 in
set_option maxRecDepth 100000 in
theorem L_X5_placeOf_1 {γ : GX} {n : Nat} {k : Nat} {h : HP} {Ψ : PS} {N : Nat} {p1 : Int32} {w_hour : Int32} {w_debts : FN} {w_guards : FN} {w_stood : FN} {w_served : FN} (hk : 11 ≤ k) (hH_w : Has n k (wtB γ k w_hour w_debts w_guards w_stood w_served) h) {s0 : Int32} {t : (Unit) ⊕ (Int32)} (hf : lp (fun s => b_X5_placeOf_1 N p1 w_guards s) N s0 = some t) (K : Sum.elim (fun e_ => Ev γ M_X5_placeOf (0, 0) n h [] 25 [] Ψ) (fun r_ => Ψ (some (.int r_)) n h) t) : Ev γ M_X5_placeOf (0, 0) n h [(0, .ref (gB γ + k)), (1, .int p1), (2, .int s0)] 2 [] Ψ := by
  refine E_lp (P := fun s => Ev γ M_X5_placeOf (0, 0) n h [(0, .ref (gB γ + k)), (1, .int p1), (2, .int s)] 2 [] Ψ) (K := fun t => Sum.elim (fun e_ => Ev γ M_X5_placeOf (0, 0) n h [] 25 [] Ψ) (fun r_ => Ψ (some (.int r_)) n h) t) ?_ N s0 t hf K
  intro s r hf hP hK
  obtain ⟨v2, hs⟩ : ∃ z, z = s := ⟨s, rfl⟩; subst hs
  change b_X5_placeOf_1 N p1 w_guards v2 = some r at hf
  unfold b_X5_placeOf_1 at hf
  show Ev γ M_X5_placeOf (0, 0) n h [(0, .ref (gB γ + k)), (1, .int p1), (2, .int v2)] 2 [] Ψ
  refine E_iload_n 2 dX5_placeOf_2 (q := 3) rfl rfl rfl ?_
  refine E_iconst (x := 5) dX5_placeOf_3 (q := 4) rfl (by decide) ?_
  refine E_icmp_ge dX5_placeOf_4 (t := 25) (by decide) (q := 7) rfl (fun c2 => ?_) (fun c2 => ?_)
  · have hf := if_t c2 hf
    exact E_sub [] rfl (hK _ (Option.some.inj hf).symm)
  · have hf := if_f c2 hf
    refine E_aload_n 0 dX5_placeOf_7 (q := 8) rfl rfl rfl ?_
    refine E_get 2 dX5_placeOf_8 (q := 11) rfl ckX5 (Nat.le_of_ble_eq_true rfl) fl_X5_15 (hH_w.at 0 rfl) (hH_w.lt 0 (Nat.le_of_ble_eq_true rfl)) rfl ?_
    refine E_iload_n 2 dX5_placeOf_11 (q := 12) rfl rfl rfl ?_
    obtain ⟨g3, hf⟩ := gd hf
    refine E_iald dX5_placeOf_12 (q := 13) rfl (hH_w.at 2 rfl) (hH_w.lt 2 (Nat.le_of_ble_eq_true rfl)) g3 ?_
    refine E_iload_n 1 dX5_placeOf_13 (q := 14) rfl rfl rfl ?_
    refine E_icmp_ne dX5_placeOf_14 (t := 19) (by decide) (q := 17) rfl (fun c4 => ?_) (fun c4 => ?_)
    · have hf := if_f c4 hf
      refine E_iinc 2 [(2, .int (v2 + 1)), (0, .ref (gB γ + k)), (1, .int p1)] dX5_placeOf_19 (q := 22) rfl rfl rfl (Nat.le_of_ble_eq_true rfl) rfl ?_
      refine E_goto (q := 2) dX5_placeOf_22 (by decide) ?_
      exact E_sub [1, 2, 0] rfl (hP _ (Option.some.inj hf).symm)
    · have hf := if_t c4 hf
      refine E_iload_n 2 dX5_placeOf_17 (q := 18) rfl rfl rfl ?_
      exact E_iret dX5_placeOf_18 rfl (hK _ (Option.some.inj hf).symm)
set_option maxHeartbeats 4000000 in
set_option maxRecDepth 100000 in
theorem m_X5_placeOf {γ : GX} {n : Nat} {N : Nat} {k : Nat} {h : HP} {a1 : Int32} {w_hour : Int32} {w_debts : FN} {w_guards : FN} {w_stood : FN} {w_served : FN} (hk : 11 ≤ k) (hH_w : Has n k (wtB γ k w_hour w_debts w_guards w_stood w_served) h) {z : Int32} (hf : f_X5_placeOf N a1 w_guards = some z)  : Ct γ M_X5_placeOf n h [.ref (gB γ + k), .int a1] (Done (some (.int z)) n h) := by
  refine Ct_of_Ev (by decide) (fun h => by cases h) (Nat.le_of_ble_eq_true rfl) ?_
  show Ev γ M_X5_placeOf (0, 0) n h [(0, .ref (gB γ + k)), (1, .int a1)] 0 [] _
  unfold f_X5_placeOf at hf
  refine E_iconst (x := 0) dX5_placeOf_0 (q := 1) rfl (by decide) ?_
  refine E_istore_n [(2, .int 0), (0, .ref (gB γ + k)), (1, .int a1)] dX5_placeOf_1 (q := 2) rfl rfl (Nat.le_of_ble_eq_true rfl) rfl ?_
  obtain ⟨t5, hxt5, hf⟩ := bnd hf
  rcases t5 with t5e | t5r
  · replace hf := sum_l hf
    refine E_sub [1, 2, 0] rfl ?_
    refine L_X5_placeOf_1 hk hH_w hxt5 ?_
    show Ev γ M_X5_placeOf _ n h [] 25 [] _
    refine E_bipush (x := (-9)) dX5_placeOf_25 (q := 27) rfl (by decide) ?_
    obtain rfl := Option.some.inj hf
    exact E_iret dX5_placeOf_27 rfl ⟨rfl, rfl, rfl⟩
  · replace hf := sum_r hf
    obtain rfl := Option.some.inj hf
    refine E_sub [1, 2, 0] rfl ?_
    refine L_X5_placeOf_1 hk hH_w hxt5 ?_
    exact ⟨rfl, rfl, rfl⟩

-- PostRelief$Watch.place(II)V
def f_X5_place (N : Nat) (a1 : Int32) (a2 : Int32) (w_guards : FN) (w_stood : FN) : Option (FN × FN) :=
  (if ix a2 5 = true then some ((upd w_guards (ci a2) a1), (upd w_stood (ci a2) 0)) else none)
set_option maxHeartbeats 4000000 in
set_option maxRecDepth 100000 in
theorem m_X5_place {γ : GX} {n : Nat} {N : Nat} {k : Nat} {h : HP} {a1 : Int32} {a2 : Int32} {w_hour : Int32} {w_debts : FN} {w_guards : FN} {w_stood : FN} {w_served : FN} (hk : 11 ≤ k) (hH_w : Has n k (wtB γ k w_hour w_debts w_guards w_stood w_served) h) {z : FN × FN} (hf : f_X5_place N a1 a2 w_guards w_stood = some z)  : Ct γ M_X5_place n h [.ref (gB γ + k), .int a1, .int a2] (Done none n (put k (wtB γ k w_hour w_debts z.1 z.2 w_served) h)) := by
  have hn_w : k + 5 ≤ n := hH_w.1
  refine Ct.heap (h := (put k (wtB γ k w_hour w_debts w_guards w_stood w_served) h)) (put_self hH_w).symm ?_
  refine Ct_of_Ev (by decide) (fun h => by cases h) (Nat.le_of_ble_eq_true rfl) ?_
  show Ev γ M_X5_place (0, 0) n (put k (wtB γ k w_hour w_debts w_guards w_stood w_served) h) [(0, .ref (gB γ + k)), (1, .int a1), (2, .int a2)] 0 [] _
  unfold f_X5_place at hf
  refine E_aload_n 0 dX5_place_0 (q := 1) rfl rfl rfl ?_
  have hF1 : Has n k (wtB γ k w_hour w_debts w_guards w_stood w_served) (put k (wtB γ k w_hour w_debts w_guards w_stood w_served) h) := (has_put hn_w)
  refine E_get 2 dX5_place_1 (q := 4) rfl ckX5 (Nat.le_of_ble_eq_true rfl) fl_X5_15 (hF1.at 0 rfl) (hF1.lt 0 (Nat.le_of_ble_eq_true rfl)) rfl ?_
  refine E_iload_n 2 dX5_place_4 (q := 5) rfl rfl rfl ?_
  refine E_iload_n 1 dX5_place_5 (q := 6) rfl rfl rfl ?_
  obtain ⟨g2, hf⟩ := gd hf
  refine E_iast dX5_place_6 (q := 7) rfl (hF1.at 2 rfl) (hF1.lt 2 (Nat.le_of_ble_eq_true rfl)) g2 (up_put (i := 2) (cs' := (wtB γ k w_hour w_debts (upd w_guards (ci a2) a1) w_stood w_served)) (Nat.le_of_ble_eq_true rfl) rfl) ?_
  refine E_aload_n 0 dX5_place_7 (q := 8) rfl rfl rfl ?_
  have hF4 : Has n k (wtB γ k w_hour w_debts (upd w_guards (ci a2) a1) w_stood w_served) (put k (wtB γ k w_hour w_debts (upd w_guards (ci a2) a1) w_stood w_served) h) := (has_put hn_w)
  refine E_get 3 dX5_place_8 (q := 11) rfl ckX5 (Nat.le_of_ble_eq_true rfl) fl_X5_18 (hF4.at 0 rfl) (hF4.lt 0 (Nat.le_of_ble_eq_true rfl)) rfl ?_
  refine E_iload_n 2 dX5_place_11 (q := 12) rfl rfl rfl ?_
  refine E_iconst (x := 0) dX5_place_12 (q := 13) rfl (by decide) ?_
  refine E_iast dX5_place_13 (q := 14) rfl (hF4.at 3 rfl) (hF4.lt 3 (Nat.le_of_ble_eq_true rfl)) g2 (up_put (i := 3) (cs' := (wtB γ k w_hour w_debts (upd w_guards (ci a2) a1) (upd w_stood (ci a2) 0) w_served)) (Nat.le_of_ble_eq_true rfl) rfl) ?_
  obtain rfl := Option.some.inj hf
  exact E_vret dX5_place_14 rfl ⟨rfl, rfl, rfl⟩

-- PostRelief$Watch.sleepsAt(I)Z
def f_X5_sleepsAt (N : Nat) (a1 : Int32) (w_debts : FN) (w_guards : FN) : Option (Int32) :=
  (if ix a1 5 = true then (if (w_guards (ci a1)) = (-9) then some 0 else (if ix (w_guards (ci a1)) 6 = true then (if (w_debts (ci (w_guards (ci a1)))) < 40 then some 0 else some 1) else none)) else none)
set_option maxHeartbeats 4000000 in
set_option maxRecDepth 100000 in
theorem m_X5_sleepsAt {γ : GX} {n : Nat} {N : Nat} {k : Nat} {h : HP} {a1 : Int32} {w_hour : Int32} {w_debts : FN} {w_guards : FN} {w_stood : FN} {w_served : FN} (hk : 11 ≤ k) (hH_w : Has n k (wtB γ k w_hour w_debts w_guards w_stood w_served) h) {z : Int32} (hf : f_X5_sleepsAt N a1 w_debts w_guards = some z)  : Ct γ M_X5_sleepsAt n h [.ref (gB γ + k), .int a1] (Done (some (.int z)) n h) := by
  refine Ct_of_Ev (by decide) (fun h => by cases h) (Nat.le_of_ble_eq_true rfl) ?_
  show Ev γ M_X5_sleepsAt (0, 0) n h [(0, .ref (gB γ + k)), (1, .int a1)] 0 [] _
  unfold f_X5_sleepsAt at hf
  refine E_aload_n 0 dX5_sleepsAt_0 (q := 1) rfl rfl rfl ?_
  refine E_get 2 dX5_sleepsAt_1 (q := 4) rfl ckX5 (Nat.le_of_ble_eq_true rfl) fl_X5_15 (hH_w.at 0 rfl) (hH_w.lt 0 (Nat.le_of_ble_eq_true rfl)) rfl ?_
  refine E_iload_n 1 dX5_sleepsAt_4 (q := 5) rfl rfl rfl ?_
  obtain ⟨g1, hf⟩ := gd hf
  refine E_iald dX5_sleepsAt_5 (q := 6) rfl (hH_w.at 2 rfl) (hH_w.lt 2 (Nat.le_of_ble_eq_true rfl)) g1 ?_
  refine E_istore_n [(2, .int (w_guards (ci a1))), (0, .ref (gB γ + k)), (1, .int a1)] dX5_sleepsAt_6 (q := 7) rfl rfl (Nat.le_of_ble_eq_true rfl) rfl ?_
  refine E_iload_n 0 dX5_sleepsAt_7 (q := 8) rfl rfl rfl ?_
  refine E_bipush (x := (-9)) dX5_sleepsAt_8 (q := 10) rfl (by decide) ?_
  refine E_icmp_eq dX5_sleepsAt_10 (t := 28) (by decide) (q := 13) rfl (fun c2 => ?_) (fun c2 => ?_)
  · have hf := if_t c2 hf
    refine E_iconst (x := 0) dX5_sleepsAt_28 (q := 29) rfl (by decide) ?_
    obtain rfl := Option.some.inj hf
    exact E_zret dX5_sleepsAt_29 rfl rfl ⟨rfl, rfl, rfl⟩
  · have hf := if_f c2 hf
    refine E_aload_n 1 dX5_sleepsAt_13 (q := 14) rfl rfl rfl ?_
    refine E_get 1 dX5_sleepsAt_14 (q := 17) rfl ckX5 (Nat.le_of_ble_eq_true rfl) fl_X5_9 (hH_w.at 0 rfl) (hH_w.lt 0 (Nat.le_of_ble_eq_true rfl)) rfl ?_
    refine E_iload_n 0 dX5_sleepsAt_17 (q := 18) rfl rfl rfl ?_
    obtain ⟨g3, hf⟩ := gd hf
    refine E_iald dX5_sleepsAt_18 (q := 19) rfl (hH_w.at 1 rfl) (hH_w.lt 1 (Nat.le_of_ble_eq_true rfl)) g3 ?_
    refine E_bipush (x := 40) dX5_sleepsAt_19 (q := 21) rfl (by decide) ?_
    refine E_icmp_lt dX5_sleepsAt_21 (t := 28) (by decide) (q := 24) rfl (fun c4 => ?_) (fun c4 => ?_)
    · have hf := if_t c4 hf
      refine E_iconst (x := 0) dX5_sleepsAt_28 (q := 29) rfl (by decide) ?_
      obtain rfl := Option.some.inj hf
      exact E_zret dX5_sleepsAt_29 rfl rfl ⟨rfl, rfl, rfl⟩
    · have hf := if_f c4 hf
      refine E_iconst (x := 1) dX5_sleepsAt_24 (q := 25) rfl (by decide) ?_
      refine E_goto (q := 29) dX5_sleepsAt_25 (by decide) ?_
      obtain rfl := Option.some.inj hf
      exact E_zret dX5_sleepsAt_29 rfl rfl ⟨rfl, rfl, rfl⟩

-- PostRelief$Watch.mannedPosts()I
def b_X5_mannedPosts_1 (N : Nat) (w_guards : FN) (v1 : Int32) (v2 : Int32) : Option ((Int32 × Int32) ⊕ (Int32)) :=
  (if 5 ≤ v2 then some (.inr v1) else (if ix v2 5 = true then (if (w_guards (ci v2)) = (-9) then some (.inl (v1, (v2 + 1))) else some (.inl ((v1 ||| ((1 : Int32) <<< (v2 &&& 31))), (v2 + 1)))) else none))
def f_X5_mannedPosts (N : Nat) (w_guards : FN) : Option (Int32) :=
  ((lp (fun s => b_X5_mannedPosts_1 N w_guards s.1 s.2) N (0, 0)).bind fun t5 => some t5)
set_option maxHeartbeats 4000000 in
set_option maxRecDepth 100000 in
theorem L_X5_mannedPosts_1 {γ : GX} {n : Nat} {k : Nat} {h : HP} {Ψ : PS} {N : Nat} {w_hour : Int32} {w_debts : FN} {w_guards : FN} {w_stood : FN} {w_served : FN} (hk : 11 ≤ k) (hH_w : Has n k (wtB γ k w_hour w_debts w_guards w_stood w_served) h) {s0 : Int32 × Int32} {t : Int32} (hf : lp (fun s => b_X5_mannedPosts_1 N w_guards s.1 s.2) N s0 = some t) (K : Ev γ M_X5_mannedPosts (0, 0) n h [(1, .int t)] 32 [] Ψ) : Ev γ M_X5_mannedPosts (0, 0) n h [(0, .ref (gB γ + k)), (1, .int s0.1), (2, .int s0.2)] 4 [] Ψ := by
  refine E_lp (P := fun s => Ev γ M_X5_mannedPosts (0, 0) n h [(0, .ref (gB γ + k)), (1, .int s.1), (2, .int s.2)] 4 [] Ψ) (K := fun t => Ev γ M_X5_mannedPosts (0, 0) n h [(1, .int t)] 32 [] Ψ) ?_ N s0 t hf K
  intro s r hf hP hK
  obtain ⟨v1, v2⟩ := s
  change b_X5_mannedPosts_1 N w_guards v1 v2 = some r at hf
  unfold b_X5_mannedPosts_1 at hf
  show Ev γ M_X5_mannedPosts (0, 0) n h [(0, .ref (gB γ + k)), (1, .int v1), (2, .int v2)] 4 [] Ψ
  refine E_iload_n 2 dX5_mannedPosts_4 (q := 5) rfl rfl rfl ?_
  refine E_iconst (x := 5) dX5_mannedPosts_5 (q := 6) rfl (by decide) ?_
  refine E_icmp_ge dX5_mannedPosts_6 (t := 32) (by decide) (q := 9) rfl (fun c2 => ?_) (fun c2 => ?_)
  · have hf := if_t c2 hf
    exact E_sub [1] rfl (hK _ (Option.some.inj hf).symm)
  · have hf := if_f c2 hf
    refine E_aload_n 0 dX5_mannedPosts_9 (q := 10) rfl rfl rfl ?_
    refine E_get 2 dX5_mannedPosts_10 (q := 13) rfl ckX5 (Nat.le_of_ble_eq_true rfl) fl_X5_15 (hH_w.at 0 rfl) (hH_w.lt 0 (Nat.le_of_ble_eq_true rfl)) rfl ?_
    refine E_iload_n 2 dX5_mannedPosts_13 (q := 14) rfl rfl rfl ?_
    obtain ⟨g3, hf⟩ := gd hf
    refine E_iald dX5_mannedPosts_14 (q := 15) rfl (hH_w.at 2 rfl) (hH_w.lt 2 (Nat.le_of_ble_eq_true rfl)) g3 ?_
    refine E_bipush (x := (-9)) dX5_mannedPosts_15 (q := 17) rfl (by decide) ?_
    refine E_icmp_eq dX5_mannedPosts_17 (t := 26) (by decide) (q := 20) rfl (fun c4 => ?_) (fun c4 => ?_)
    · have hf := if_t c4 hf
      refine E_iinc 2 [(2, .int (v2 + 1)), (0, .ref (gB γ + k)), (1, .int v1)] dX5_mannedPosts_26 (q := 29) rfl rfl rfl (Nat.le_of_ble_eq_true rfl) rfl ?_
      refine E_goto (q := 4) dX5_mannedPosts_29 (by decide) ?_
      exact E_sub [1, 2, 0] rfl (hP _ (Option.some.inj hf).symm)
    · have hf := if_f c4 hf
      refine E_iload_n 1 dX5_mannedPosts_20 (q := 21) rfl rfl rfl ?_
      refine E_iconst (x := 1) dX5_mannedPosts_21 (q := 22) rfl (by decide) ?_
      refine E_iload_n 2 dX5_mannedPosts_22 (q := 23) rfl rfl rfl ?_
      refine E_ishl dX5_mannedPosts_23 (q := 24) rfl ?_
      refine E_ior dX5_mannedPosts_24 (q := 25) rfl ?_
      refine E_istore_n [(1, .int (v1 ||| ((1 : Int32) <<< (v2 &&& 31)))), (0, .ref (gB γ + k)), (2, .int v2)] dX5_mannedPosts_25 (q := 26) rfl rfl (Nat.le_of_ble_eq_true rfl) rfl ?_
      refine E_iinc 2 [(2, .int (v2 + 1)), (1, .int (v1 ||| ((1 : Int32) <<< (v2 &&& 31)))), (0, .ref (gB γ + k))] dX5_mannedPosts_26 (q := 29) rfl rfl rfl (Nat.le_of_ble_eq_true rfl) rfl ?_
      refine E_goto (q := 4) dX5_mannedPosts_29 (by decide) ?_
      exact E_sub [2, 1, 0] rfl (hP _ (Option.some.inj hf).symm)
set_option maxHeartbeats 4000000 in
set_option maxRecDepth 100000 in
theorem m_X5_mannedPosts {γ : GX} {n : Nat} {N : Nat} {k : Nat} {h : HP} {w_hour : Int32} {w_debts : FN} {w_guards : FN} {w_stood : FN} {w_served : FN} (hk : 11 ≤ k) (hH_w : Has n k (wtB γ k w_hour w_debts w_guards w_stood w_served) h) {z : Int32} (hf : f_X5_mannedPosts N w_guards = some z)  : Ct γ M_X5_mannedPosts n h [.ref (gB γ + k)] (Done (some (.int z)) n h) := by
  refine Ct_of_Ev (by decide) (fun h => by cases h) (Nat.le_of_ble_eq_true rfl) ?_
  show Ev γ M_X5_mannedPosts (0, 0) n h [(0, .ref (gB γ + k))] 0 [] _
  unfold f_X5_mannedPosts at hf
  refine E_iconst (x := 0) dX5_mannedPosts_0 (q := 1) rfl (by decide) ?_
  refine E_istore_n [(1, .int 0), (0, .ref (gB γ + k))] dX5_mannedPosts_1 (q := 2) rfl rfl (Nat.le_of_ble_eq_true rfl) rfl ?_
  refine E_iconst (x := 0) dX5_mannedPosts_2 (q := 3) rfl (by decide) ?_
  refine E_istore_n [(2, .int 0), (1, .int 0), (0, .ref (gB γ + k))] dX5_mannedPosts_3 (q := 4) rfl rfl (Nat.le_of_ble_eq_true rfl) rfl ?_
  obtain ⟨t5, hxt5, hf⟩ := bnd hf
  refine E_sub [2, 1, 0] rfl ?_
  refine L_X5_mannedPosts_1 hk hH_w hxt5 ?_
  show Ev γ M_X5_mannedPosts _ n h [(1, .int t5)] 32 [] _
  refine E_iload_n 0 dX5_mannedPosts_32 (q := 33) rfl rfl rfl ?_
  obtain rfl := Option.some.inj hf
  exact E_iret dX5_mannedPosts_33 rfl ⟨rfl, rfl, rfl⟩

-- PostRelief$Watch.sleepingPosts()I
def b_X5_sleepingPosts_1 (N : Nat) (w_debts : FN) (w_guards : FN) (v1 : Int32) (v2 : Int32) : Option ((Int32 × Int32) ⊕ (Int32)) :=
  (if 5 ≤ v2 then some (.inr v1) else ((f_X5_sleepsAt N v2 w_debts w_guards).bind fun z3 => (if z3 = 0 then some (.inl (v1, (v2 + 1))) else some (.inl ((v1 ||| ((1 : Int32) <<< (v2 &&& 31))), (v2 + 1))))))
def f_X5_sleepingPosts (N : Nat) (w_debts : FN) (w_guards : FN) : Option (Int32) :=
  ((lp (fun s => b_X5_sleepingPosts_1 N w_debts w_guards s.1 s.2) N (0, 0)).bind fun t5 => some t5)
set_option maxHeartbeats 4000000 in
set_option maxRecDepth 100000 in
theorem L_X5_sleepingPosts_1 {γ : GX} {n : Nat} {k : Nat} {h : HP} {Ψ : PS} {N : Nat} {w_hour : Int32} {w_debts : FN} {w_guards : FN} {w_stood : FN} {w_served : FN} (hk : 11 ≤ k) (hH_w : Has n k (wtB γ k w_hour w_debts w_guards w_stood w_served) h) {s0 : Int32 × Int32} {t : Int32} (hf : lp (fun s => b_X5_sleepingPosts_1 N w_debts w_guards s.1 s.2) N s0 = some t) (K : Ev γ M_X5_sleepingPosts (0, 0) n h [(1, .int t)] 29 [] Ψ) : Ev γ M_X5_sleepingPosts (0, 0) n h [(0, .ref (gB γ + k)), (1, .int s0.1), (2, .int s0.2)] 4 [] Ψ := by
  refine E_lp (P := fun s => Ev γ M_X5_sleepingPosts (0, 0) n h [(0, .ref (gB γ + k)), (1, .int s.1), (2, .int s.2)] 4 [] Ψ) (K := fun t => Ev γ M_X5_sleepingPosts (0, 0) n h [(1, .int t)] 29 [] Ψ) ?_ N s0 t hf K
  intro s r hf hP hK
  obtain ⟨v1, v2⟩ := s
  change b_X5_sleepingPosts_1 N w_debts w_guards v1 v2 = some r at hf
  unfold b_X5_sleepingPosts_1 at hf
  show Ev γ M_X5_sleepingPosts (0, 0) n h [(0, .ref (gB γ + k)), (1, .int v1), (2, .int v2)] 4 [] Ψ
  refine E_iload_n 2 dX5_sleepingPosts_4 (q := 5) rfl rfl rfl ?_
  refine E_iconst (x := 5) dX5_sleepingPosts_5 (q := 6) rfl (by decide) ?_
  refine E_icmp_ge dX5_sleepingPosts_6 (t := 29) (by decide) (q := 9) rfl (fun c2 => ?_) (fun c2 => ?_)
  · have hf := if_t c2 hf
    exact E_sub [1] rfl (hK _ (Option.some.inj hf).symm)
  · have hf := if_f c2 hf
    refine E_aload_n 0 dX5_sleepingPosts_9 (q := 10) rfl rfl rfl ?_
    refine E_iload_n 2 dX5_sleepingPosts_10 (q := 11) rfl rfl rfl ?_
    obtain ⟨z3, hxz3, hf⟩ := bnd hf
    refine E_cV (as := [.int v2]) (k := k) (rest := []) (u' := (0, 0)) (st' := [.int z3]) dX5_sleepingPosts_11 (q := 14) rfl lkm_X5_sleepsAt lkv_X5_43 (Nat.le_of_ble_eq_true rfl) ckX5 (hH_w.at 0 rfl) (hH_w.lt 0 (Nat.le_of_ble_eq_true rfl)) ⟨Nat.le_refl _, Nat.le_refl _⟩ (Nat.le_of_ble_eq_true rfl) rfl rfl (m_X5_sleepsAt (N := N)  hk hH_w hxz3) rfl rfl rfl ?_
    refine E_if_eq dX5_sleepingPosts_14 (t := 23) (by decide) (q := 17) rfl (fun c4 => ?_) (fun c4 => ?_)
    · have hf := if_t c4 hf
      refine E_iinc 2 [(2, .int (v2 + 1)), (0, .ref (gB γ + k)), (1, .int v1)] dX5_sleepingPosts_23 (q := 26) rfl rfl rfl (Nat.le_of_ble_eq_true rfl) rfl ?_
      refine E_goto (q := 4) dX5_sleepingPosts_26 (by decide) ?_
      exact E_sub [1, 2, 0] rfl (hP _ (Option.some.inj hf).symm)
    · have hf := if_f c4 hf
      refine E_iload_n 1 dX5_sleepingPosts_17 (q := 18) rfl rfl rfl ?_
      refine E_iconst (x := 1) dX5_sleepingPosts_18 (q := 19) rfl (by decide) ?_
      refine E_iload_n 2 dX5_sleepingPosts_19 (q := 20) rfl rfl rfl ?_
      refine E_ishl dX5_sleepingPosts_20 (q := 21) rfl ?_
      refine E_ior dX5_sleepingPosts_21 (q := 22) rfl ?_
      refine E_istore_n [(1, .int (v1 ||| ((1 : Int32) <<< (v2 &&& 31)))), (0, .ref (gB γ + k)), (2, .int v2)] dX5_sleepingPosts_22 (q := 23) rfl rfl (Nat.le_of_ble_eq_true rfl) rfl ?_
      refine E_iinc 2 [(2, .int (v2 + 1)), (1, .int (v1 ||| ((1 : Int32) <<< (v2 &&& 31)))), (0, .ref (gB γ + k))] dX5_sleepingPosts_23 (q := 26) rfl rfl rfl (Nat.le_of_ble_eq_true rfl) rfl ?_
      refine E_goto (q := 4) dX5_sleepingPosts_26 (by decide) ?_
      exact E_sub [2, 1, 0] rfl (hP _ (Option.some.inj hf).symm)
set_option maxHeartbeats 4000000 in
set_option maxRecDepth 100000 in
theorem m_X5_sleepingPosts {γ : GX} {n : Nat} {N : Nat} {k : Nat} {h : HP} {w_hour : Int32} {w_debts : FN} {w_guards : FN} {w_stood : FN} {w_served : FN} (hk : 11 ≤ k) (hH_w : Has n k (wtB γ k w_hour w_debts w_guards w_stood w_served) h) {z : Int32} (hf : f_X5_sleepingPosts N w_debts w_guards = some z)  : Ct γ M_X5_sleepingPosts n h [.ref (gB γ + k)] (Done (some (.int z)) n h) := by
  refine Ct_of_Ev (by decide) (fun h => by cases h) (Nat.le_of_ble_eq_true rfl) ?_
  show Ev γ M_X5_sleepingPosts (0, 0) n h [(0, .ref (gB γ + k))] 0 [] _
  unfold f_X5_sleepingPosts at hf
  refine E_iconst (x := 0) dX5_sleepingPosts_0 (q := 1) rfl (by decide) ?_
  refine E_istore_n [(1, .int 0), (0, .ref (gB γ + k))] dX5_sleepingPosts_1 (q := 2) rfl rfl (Nat.le_of_ble_eq_true rfl) rfl ?_
  refine E_iconst (x := 0) dX5_sleepingPosts_2 (q := 3) rfl (by decide) ?_
  refine E_istore_n [(2, .int 0), (1, .int 0), (0, .ref (gB γ + k))] dX5_sleepingPosts_3 (q := 4) rfl rfl (Nat.le_of_ble_eq_true rfl) rfl ?_
  obtain ⟨t5, hxt5, hf⟩ := bnd hf
  refine E_sub [2, 1, 0] rfl ?_
  refine L_X5_sleepingPosts_1 hk hH_w hxt5 ?_
  show Ev γ M_X5_sleepingPosts _ n h [(1, .int t5)] 29 [] _
  refine E_iload_n 0 dX5_sleepingPosts_29 (q := 30) rfl rfl rfl ?_
  obtain rfl := Option.some.inj hf
  exact E_iret dX5_sleepingPosts_30 rfl ⟨rfl, rfl, rfl⟩

-- PostRelief$Watch.watchedPosts(LPostRelief$Depot;)I
def f_X5_watchedPosts (N : Nat) (d_posts : Int32) (d_sees : FN) (w_debts : FN) (w_guards : FN) : Option (Int32) :=
  ((f_X5_mannedPosts N w_guards).bind fun z1 => ((f_X5_sleepingPosts N w_debts w_guards).bind fun z2 => ((f_X0_watchedBy N (z1 &&& (z2 ^^^ (-1))) d_posts d_sees).bind fun z3 => some z3)))
set_option maxHeartbeats 4000000 in
set_option maxRecDepth 100000 in
theorem m_X5_watchedPosts {γ : GX} {n : Nat} {N : Nat} {k : Nat} {h : HP} {d_posts : Int32} {d_sees : FN} {d_cold : FN} {d_men : Int32} {d_debts : FN} {d_on : Int32} {d_stove : Int32} {w_hour : Int32} {w_debts : FN} {w_guards : FN} {w_stood : FN} {w_served : FN} (hk : 11 ≤ k) (hH_d : Has n 3 (dpB γ 3 d_posts d_sees d_cold d_men d_debts d_on d_stove) h) (hH_w : Has n k (wtB γ k w_hour w_debts w_guards w_stood w_served) h) {z : Int32} (hf : f_X5_watchedPosts N d_posts d_sees w_debts w_guards = some z)  : Ct γ M_X5_watchedPosts n h [.ref (gB γ + k), .ref (gB γ + 3)] (Done (some (.int z)) n h) := by
  refine Ct_of_Ev (by decide) (fun h => by cases h) (Nat.le_of_ble_eq_true rfl) ?_
  show Ev γ M_X5_watchedPosts (0, 0) n h [(0, .ref (gB γ + k)), (1, .ref (gB γ + 3))] 0 [] _
  unfold f_X5_watchedPosts at hf
  refine E_aload_n 1 dX5_watchedPosts_0 (q := 1) rfl rfl rfl ?_
  refine E_aload_n 0 dX5_watchedPosts_1 (q := 2) rfl rfl rfl ?_
  obtain ⟨z1, hxz1, hf⟩ := bnd hf
  refine E_cV (as := []) (k := k) (rest := [.ref (gB γ + 3)]) (u' := (0, 0)) (st' := [.int z1, .ref (gB γ + 3)]) dX5_watchedPosts_2 (q := 5) rfl lkm_X5_mannedPosts lkv_X5_47 (Nat.le_of_ble_eq_true rfl) ckX5 (hH_w.at 0 rfl) (hH_w.lt 0 (Nat.le_of_ble_eq_true rfl)) ⟨Nat.le_refl _, Nat.le_refl _⟩ (Nat.le_of_ble_eq_true rfl) rfl rfl (m_X5_mannedPosts (N := N)  hk hH_w hxz1) rfl rfl rfl ?_
  refine E_aload_n 0 dX5_watchedPosts_5 (q := 6) rfl rfl rfl ?_
  obtain ⟨z2, hxz2, hf⟩ := bnd hf
  refine E_cV (as := []) (k := k) (rest := [.int z1, .ref (gB γ + 3)]) (u' := (0, 0)) (st' := [.int z2, .int z1, .ref (gB γ + 3)]) dX5_watchedPosts_6 (q := 9) rfl lkm_X5_sleepingPosts lkv_X5_51 (Nat.le_of_ble_eq_true rfl) ckX5 (hH_w.at 0 rfl) (hH_w.lt 0 (Nat.le_of_ble_eq_true rfl)) ⟨Nat.le_refl _, Nat.le_refl _⟩ (Nat.le_of_ble_eq_true rfl) rfl rfl (m_X5_sleepingPosts (N := N)  hk hH_w hxz2) rfl rfl rfl ?_
  refine E_iconst (x := (-1)) dX5_watchedPosts_9 (q := 10) rfl (by decide) ?_
  refine E_ixor dX5_watchedPosts_10 (q := 11) rfl ?_
  refine E_iand dX5_watchedPosts_11 (q := 12) rfl ?_
  obtain ⟨z3, hxz3, hf⟩ := bnd hf
  refine E_cV (as := [.int (z1 &&& (z2 ^^^ (-1)))]) (k := 3) (rest := []) (u' := (0, 0)) (st' := [.int z3]) dX5_watchedPosts_12 (q := 15) rfl lkm_X0_watchedBy lkv_X5_54 (Nat.le_of_ble_eq_true rfl) ckX0 (hH_d.at 0 rfl) (hH_d.lt 0 (Nat.le_of_ble_eq_true rfl)) ⟨Nat.le_refl _, Nat.le_refl _⟩ (Nat.le_of_ble_eq_true rfl) rfl rfl (m_X0_watchedBy (N := N)  hH_d hxz3) rfl rfl rfl ?_
  obtain rfl := Option.some.inj hf
  exact E_iret dX5_watchedPosts_15 rfl ⟨rfl, rfl, rfl⟩

-- PostRelief$Watch.passHour(LPostRelief$Depot;)V
def b_X5_passHour_1 (N : Nat) (d_cold : FN) (d_men : Int32) (d_stove : Int32) (w_hour : Int32) (w_guards : FN) (v2 : Int32) (w_debts : FN) (w_stood : FN) (w_served : FN) : Option ((Int32 × FN × FN × FN) ⊕ (FN × FN × FN)) :=
  (if d_men ≤ v2 then some (.inr (w_debts, w_stood, w_served)) else ((f_X5_placeOf N v2 w_guards).bind fun z4 => (if z4 = (-9) then (if ix v2 6 = true then some (.inl ((v2 + 1), (upd w_debts (ci v2) (if 0 < ((w_debts (ci v2)) - d_stove) then ((w_debts (ci v2)) - d_stove) else 0)), w_stood, w_served)) else none) else (if ix v2 6 = true then ((f_X0_burden N z4 w_hour d_cold).bind fun z10 => (if ix z4 5 = true then (if ix ((v2 * 5) + z4) 30 = true then some (.inl ((v2 + 1), (upd w_debts (ci v2) (if 60 < ((w_debts (ci v2)) + z10) then 60 else ((w_debts (ci v2)) + z10))), (upd w_stood (ci z4) ((w_stood (ci z4)) + 1)), (upd w_served (ci ((v2 * 5) + z4)) ((w_served (ci ((v2 * 5) + z4))) + 1)))) else none) else none)) else none))))
def f_X5_passHour (N : Nat) (d_cold : FN) (d_men : Int32) (d_stove : Int32) (w_hour : Int32) (w_debts : FN) (w_guards : FN) (w_stood : FN) (w_served : FN) : Option (Int32 × FN × FN × FN) :=
  ((lp (fun s => b_X5_passHour_1 N d_cold d_men d_stove w_hour w_guards s.1 s.2.1 s.2.2.1 s.2.2.2) N (0, w_debts, w_stood, w_served)).bind fun t18 => some ((w_hour + 1), t18.1, t18.2.1, t18.2.2))
set_option maxHeartbeats 4000000 in
set_option maxRecDepth 100000 in
theorem L_X5_passHour_1 {γ : GX} {n : Nat} {k : Nat} {h : HP} {Ψ : PS} {N : Nat} {d_posts : Int32} {d_sees : FN} {d_cold : FN} {d_men : Int32} {d_debts : FN} {d_on : Int32} {d_stove : Int32} {w_hour : Int32} {w_guards : FN} (hk : 11 ≤ k) (hH_d : Has n 3 (dpB γ 3 d_posts d_sees d_cold d_men d_debts d_on d_stove) h) (hn_w : k + 5 ≤ n) {s0 : Int32 × FN × FN × FN} {t : FN × FN × FN} (hf : lp (fun s => b_X5_passHour_1 N d_cold d_men d_stove w_hour w_guards s.1 s.2.1 s.2.2.1 s.2.2.2) N s0 = some t) (K : Ev γ M_X5_passHour (0, 0) n (put k (wtB γ k w_hour t.1 w_guards t.2.1 t.2.2) h) [(0, .ref (gB γ + k))] 103 [] Ψ) : Ev γ M_X5_passHour (0, 0) n (put k (wtB γ k w_hour s0.2.1 w_guards s0.2.2.1 s0.2.2.2) h) [(0, .ref (gB γ + k)), (1, .ref (gB γ + 3)), (2, .int s0.1)] 2 [] Ψ := by
  refine E_lp (P := fun s => Ev γ M_X5_passHour (0, 0) n (put k (wtB γ k w_hour s.2.1 w_guards s.2.2.1 s.2.2.2) h) [(0, .ref (gB γ + k)), (1, .ref (gB γ + 3)), (2, .int s.1)] 2 [] Ψ) (K := fun t => Ev γ M_X5_passHour (0, 0) n (put k (wtB γ k w_hour t.1 w_guards t.2.1 t.2.2) h) [(0, .ref (gB γ + k))] 103 [] Ψ) ?_ N s0 t hf K
  intro s r hf hP hK
  obtain ⟨v2, w_debts, w_stood, w_served⟩ := s
  change b_X5_passHour_1 N d_cold d_men d_stove w_hour w_guards v2 w_debts w_stood w_served = some r at hf
  unfold b_X5_passHour_1 at hf
  show Ev γ M_X5_passHour (0, 0) n (put k (wtB γ k w_hour w_debts w_guards w_stood w_served) h) [(0, .ref (gB γ + k)), (1, .ref (gB γ + 3)), (2, .int v2)] 2 [] Ψ
  refine E_iload_n 2 dX5_passHour_2 (q := 3) rfl rfl rfl ?_
  refine E_aload_n 1 dX5_passHour_3 (q := 4) rfl rfl rfl ?_
  have hF2 : Has n 3 (dpB γ 3 d_posts d_sees d_cold d_men d_debts d_on d_stove) (put k (wtB γ k w_hour w_debts w_guards w_stood w_served) h) := (has_out hH_d (Or.inl (by show 3 + 4 ≤ k; omega)))
  refine E_get 3 dX5_passHour_4 (q := 7) rfl ckX0 (Nat.le_of_ble_eq_true rfl) fl_X5_58 (hF2.at 0 rfl) (hF2.lt 0 (Nat.le_of_ble_eq_true rfl)) rfl ?_
  refine E_icmp_ge dX5_passHour_7 (t := 103) (by decide) (q := 10) rfl (fun c3 => ?_) (fun c3 => ?_)
  · have hf := if_t c3 hf
    exact E_sub [0] rfl (hK _ (Option.some.inj hf).symm)
  · have hf := if_f c3 hf
    refine E_aload_n 0 dX5_passHour_10 (q := 11) rfl rfl rfl ?_
    refine E_iload_n 2 dX5_passHour_11 (q := 12) rfl rfl rfl ?_
    obtain ⟨z4, hxz4, hf⟩ := bnd hf
    have hF5 : Has n k (wtB γ k w_hour w_debts w_guards w_stood w_served) (put k (wtB γ k w_hour w_debts w_guards w_stood w_served) h) := (has_put hn_w)
    refine E_cV (as := [.int v2]) (k := k) (rest := []) (u' := (0, 0)) (st' := [.int z4]) dX5_passHour_12 (q := 15) rfl lkm_X5_placeOf lkv_X5_61 (Nat.le_of_ble_eq_true rfl) ckX5 (hF5.at 0 rfl) (hF5.lt 0 (Nat.le_of_ble_eq_true rfl)) ⟨Nat.le_refl _, Nat.le_refl _⟩ (Nat.le_of_ble_eq_true rfl) rfl rfl (m_X5_placeOf (N := N)  hk hF5 hxz4) rfl rfl rfl ?_
    refine E_istore_n [(3, .int z4), (0, .ref (gB γ + k)), (1, .ref (gB γ + 3)), (2, .int v2)] dX5_passHour_15 (q := 16) rfl rfl (Nat.le_of_ble_eq_true rfl) rfl ?_
    refine E_iload_n 0 dX5_passHour_16 (q := 17) rfl rfl rfl ?_
    refine E_bipush (x := (-9)) dX5_passHour_17 (q := 19) rfl (by decide) ?_
    refine E_icmp_ne dX5_passHour_19 (t := 46) (by decide) (q := 22) rfl (fun c6 => ?_) (fun c6 => ?_)
    · have hf := if_f c6 hf
      refine E_aload_n 1 dX5_passHour_46 (q := 47) rfl rfl rfl ?_
      refine E_get 1 dX5_passHour_47 (q := 50) rfl ckX5 (Nat.le_of_ble_eq_true rfl) fl_X5_9 (hF5.at 0 rfl) (hF5.lt 0 (Nat.le_of_ble_eq_true rfl)) rfl ?_
      refine E_iload_n 3 dX5_passHour_50 (q := 51) rfl rfl rfl ?_
      refine E_bipush (x := 60) dX5_passHour_51 (q := 53) rfl (by decide) ?_
      refine E_aload_n 1 dX5_passHour_53 (q := 54) rfl rfl rfl ?_
      refine E_get 1 dX5_passHour_54 (q := 57) rfl ckX5 (Nat.le_of_ble_eq_true rfl) fl_X5_9 (hF5.at 0 rfl) (hF5.lt 0 (Nat.le_of_ble_eq_true rfl)) rfl ?_
      refine E_iload_n 3 dX5_passHour_57 (q := 58) rfl rfl rfl ?_
      obtain ⟨g9, hf⟩ := gd hf
      refine E_iald dX5_passHour_58 (q := 59) rfl (hF5.at 1 rfl) (hF5.lt 1 (Nat.le_of_ble_eq_true rfl)) g9 ?_
      refine E_aload_n 2 dX5_passHour_59 (q := 60) rfl rfl rfl ?_
      refine E_iload_n 0 dX5_passHour_60 (q := 61) rfl rfl rfl ?_
      refine E_aload_n 1 dX5_passHour_61 (q := 62) rfl rfl rfl ?_
      refine E_get 0 dX5_passHour_62 (q := 65) rfl ckX5 (Nat.le_of_ble_eq_true rfl) fl_X5_30 (hF5.at 0 rfl) (hF5.lt 0 (Nat.le_of_ble_eq_true rfl)) rfl ?_
      obtain ⟨z10, hxz10, hf⟩ := bnd hf
      refine E_cV (as := [.int z4, .int w_hour]) (k := 3) (rest := [.int (w_debts (ci v2)), .int 60, .int v2, .ref (gB γ + (k + 1))]) (u' := (0, 0)) (st' := [.int z10, .int (w_debts (ci v2)), .int 60, .int v2, .ref (gB γ + (k + 1))]) dX5_passHour_65 (q := 68) rfl lkm_X0_burden lkv_X5_73 (Nat.le_of_ble_eq_true rfl) ckX0 (hF2.at 0 rfl) (hF2.lt 0 (Nat.le_of_ble_eq_true rfl)) ⟨Nat.le_refl _, Nat.le_refl _⟩ (Nat.le_of_ble_eq_true rfl) rfl rfl (m_X0_burden (N := N)  hF2 hxz10) rfl rfl rfl ?_
      refine E_iadd dX5_passHour_68 (q := 69) rfl ?_
      refine E_min dX5_passHour_69 (q := 72) rfl lkmin_X5_76 st_min in_math co_min (Nat.le_of_ble_eq_true rfl) (Nat.le_of_ble_eq_true rfl) ?_
      refine E_iast dX5_passHour_72 (q := 73) rfl (hF5.at 1 rfl) (hF5.lt 1 (Nat.le_of_ble_eq_true rfl)) g9 (up_put (i := 1) (cs' := (wtB γ k w_hour (upd w_debts (ci v2) (if 60 < ((w_debts (ci v2)) + z10) then 60 else ((w_debts (ci v2)) + z10))) w_guards w_stood w_served)) (Nat.le_of_ble_eq_true rfl) rfl) ?_
      refine E_aload_n 1 dX5_passHour_73 (q := 74) rfl rfl rfl ?_
      have hF12 : Has n k (wtB γ k w_hour (upd w_debts (ci v2) (if 60 < ((w_debts (ci v2)) + z10) then 60 else ((w_debts (ci v2)) + z10))) w_guards w_stood w_served) (put k (wtB γ k w_hour (upd w_debts (ci v2) (if 60 < ((w_debts (ci v2)) + z10) then 60 else ((w_debts (ci v2)) + z10))) w_guards w_stood w_served) h) := (has_put hn_w)
      refine E_get 3 dX5_passHour_74 (q := 77) rfl ckX5 (Nat.le_of_ble_eq_true rfl) fl_X5_18 (hF12.at 0 rfl) (hF12.lt 0 (Nat.le_of_ble_eq_true rfl)) rfl ?_
      refine E_iload_n 0 dX5_passHour_77 (q := 78) rfl rfl rfl ?_
      refine E_dup2 dX5_passHour_78 (q := 79) rfl rfl rfl ?_
      obtain ⟨g13, hf⟩ := gd hf
      refine E_iald dX5_passHour_79 (q := 80) rfl (hF12.at 3 rfl) (hF12.lt 3 (Nat.le_of_ble_eq_true rfl)) g13 ?_
      refine E_iconst (x := 1) dX5_passHour_80 (q := 81) rfl (by decide) ?_
      refine E_iadd dX5_passHour_81 (q := 82) rfl ?_
      refine E_iast dX5_passHour_82 (q := 83) rfl (hF12.at 3 rfl) (hF12.lt 3 (Nat.le_of_ble_eq_true rfl)) g13 (up_put (i := 3) (cs' := (wtB γ k w_hour (upd w_debts (ci v2) (if 60 < ((w_debts (ci v2)) + z10) then 60 else ((w_debts (ci v2)) + z10))) w_guards (upd w_stood (ci z4) ((w_stood (ci z4)) + 1)) w_served)) (Nat.le_of_ble_eq_true rfl) rfl) ?_
      refine E_aload_n 1 dX5_passHour_83 (q := 84) rfl rfl rfl ?_
      have hF15 : Has n k (wtB γ k w_hour (upd w_debts (ci v2) (if 60 < ((w_debts (ci v2)) + z10) then 60 else ((w_debts (ci v2)) + z10))) w_guards (upd w_stood (ci z4) ((w_stood (ci z4)) + 1)) w_served) (put k (wtB γ k w_hour (upd w_debts (ci v2) (if 60 < ((w_debts (ci v2)) + z10) then 60 else ((w_debts (ci v2)) + z10))) w_guards (upd w_stood (ci z4) ((w_stood (ci z4)) + 1)) w_served) h) := (has_put hn_w)
      refine E_get 4 dX5_passHour_84 (q := 87) rfl ckX5 (Nat.le_of_ble_eq_true rfl) fl_X5_21 (hF15.at 0 rfl) (hF15.lt 0 (Nat.le_of_ble_eq_true rfl)) rfl ?_
      refine E_iload_n 3 dX5_passHour_87 (q := 88) rfl rfl rfl ?_
      refine E_iconst (x := 5) dX5_passHour_88 (q := 89) rfl (by decide) ?_
      refine E_imul dX5_passHour_89 (q := 90) rfl ?_
      refine E_iload_n 0 dX5_passHour_90 (q := 91) rfl rfl rfl ?_
      refine E_iadd dX5_passHour_91 (q := 92) rfl ?_
      refine E_dup2 dX5_passHour_92 (q := 93) rfl rfl rfl ?_
      obtain ⟨g16, hf⟩ := gd hf
      refine E_iald dX5_passHour_93 (q := 94) rfl (hF15.at 4 rfl) (hF15.lt 4 (Nat.le_of_ble_eq_true rfl)) g16 ?_
      refine E_iconst (x := 1) dX5_passHour_94 (q := 95) rfl (by decide) ?_
      refine E_iadd dX5_passHour_95 (q := 96) rfl ?_
      refine E_iast dX5_passHour_96 (q := 97) rfl (hF15.at 4 rfl) (hF15.lt 4 (Nat.le_of_ble_eq_true rfl)) g16 (up_put (i := 4) (cs' := (wtB γ k w_hour (upd w_debts (ci v2) (if 60 < ((w_debts (ci v2)) + z10) then 60 else ((w_debts (ci v2)) + z10))) w_guards (upd w_stood (ci z4) ((w_stood (ci z4)) + 1)) (upd w_served (ci ((v2 * 5) + z4)) ((w_served (ci ((v2 * 5) + z4))) + 1)))) (Nat.le_of_ble_eq_true rfl) rfl) ?_
      refine E_iinc 3 [(2, .int (v2 + 1)), (3, .int z4), (0, .ref (gB γ + k)), (1, .ref (gB γ + 3))] dX5_passHour_97 (q := 100) rfl rfl rfl (Nat.le_of_ble_eq_true rfl) rfl ?_
      refine E_goto (q := 2) dX5_passHour_100 (by decide) ?_
      exact E_sub [2, 3, 0] rfl (hP _ (Option.some.inj hf).symm)
    · have hf := if_t c6 hf
      refine E_aload_n 1 dX5_passHour_22 (q := 23) rfl rfl rfl ?_
      refine E_get 1 dX5_passHour_23 (q := 26) rfl ckX5 (Nat.le_of_ble_eq_true rfl) fl_X5_9 (hF5.at 0 rfl) (hF5.lt 0 (Nat.le_of_ble_eq_true rfl)) rfl ?_
      refine E_iload_n 3 dX5_passHour_26 (q := 27) rfl rfl rfl ?_
      refine E_iconst (x := 0) dX5_passHour_27 (q := 28) rfl (by decide) ?_
      refine E_aload_n 1 dX5_passHour_28 (q := 29) rfl rfl rfl ?_
      refine E_get 1 dX5_passHour_29 (q := 32) rfl ckX5 (Nat.le_of_ble_eq_true rfl) fl_X5_9 (hF5.at 0 rfl) (hF5.lt 0 (Nat.le_of_ble_eq_true rfl)) rfl ?_
      refine E_iload_n 3 dX5_passHour_32 (q := 33) rfl rfl rfl ?_
      obtain ⟨g7, hf⟩ := gd hf
      refine E_iald dX5_passHour_33 (q := 34) rfl (hF5.at 1 rfl) (hF5.lt 1 (Nat.le_of_ble_eq_true rfl)) g7 ?_
      refine E_aload_n 2 dX5_passHour_34 (q := 35) rfl rfl rfl ?_
      refine E_get 6 dX5_passHour_35 (q := 38) rfl ckX0 (Nat.le_of_ble_eq_true rfl) fl_X5_64 (hF2.at 0 rfl) (hF2.lt 0 (Nat.le_of_ble_eq_true rfl)) rfl ?_
      refine E_isub dX5_passHour_38 (q := 39) rfl ?_
      refine E_max dX5_passHour_39 (q := 42) rfl lkmax_X5_67 st_max in_math co_max (Nat.le_of_ble_eq_true rfl) (Nat.le_of_ble_eq_true rfl) ?_
      refine E_iast dX5_passHour_42 (q := 43) rfl (hF5.at 1 rfl) (hF5.lt 1 (Nat.le_of_ble_eq_true rfl)) g7 (up_put (i := 1) (cs' := (wtB γ k w_hour (upd w_debts (ci v2) (if 0 < ((w_debts (ci v2)) - d_stove) then ((w_debts (ci v2)) - d_stove) else 0)) w_guards w_stood w_served)) (Nat.le_of_ble_eq_true rfl) rfl) ?_
      refine E_goto (q := 97) dX5_passHour_43 (by decide) ?_
      refine E_iinc 3 [(2, .int (v2 + 1)), (3, .int z4), (0, .ref (gB γ + k)), (1, .ref (gB γ + 3))] dX5_passHour_97 (q := 100) rfl rfl rfl (Nat.le_of_ble_eq_true rfl) rfl ?_
      refine E_goto (q := 2) dX5_passHour_100 (by decide) ?_
      exact E_sub [2, 3, 0] rfl (hP _ (Option.some.inj hf).symm)
set_option maxHeartbeats 4000000 in
set_option maxRecDepth 100000 in
theorem m_X5_passHour {γ : GX} {n : Nat} {N : Nat} {k : Nat} {h : HP} {d_posts : Int32} {d_sees : FN} {d_cold : FN} {d_men : Int32} {d_debts : FN} {d_on : Int32} {d_stove : Int32} {w_hour : Int32} {w_debts : FN} {w_guards : FN} {w_stood : FN} {w_served : FN} (hk : 11 ≤ k) (hH_d : Has n 3 (dpB γ 3 d_posts d_sees d_cold d_men d_debts d_on d_stove) h) (hH_w : Has n k (wtB γ k w_hour w_debts w_guards w_stood w_served) h) {z : Int32 × FN × FN × FN} (hf : f_X5_passHour N d_cold d_men d_stove w_hour w_debts w_guards w_stood w_served = some z)  : Ct γ M_X5_passHour n h [.ref (gB γ + k), .ref (gB γ + 3)] (Done none n (put k (wtB γ k z.1 z.2.1 w_guards z.2.2.1 z.2.2.2) h)) := by
  have hn_w : k + 5 ≤ n := hH_w.1
  refine Ct.heap (h := (put k (wtB γ k w_hour w_debts w_guards w_stood w_served) h)) (put_self hH_w).symm ?_
  refine Ct_of_Ev (by decide) (fun h => by cases h) (Nat.le_of_ble_eq_true rfl) ?_
  show Ev γ M_X5_passHour (0, 0) n (put k (wtB γ k w_hour w_debts w_guards w_stood w_served) h) [(0, .ref (gB γ + k)), (1, .ref (gB γ + 3))] 0 [] _
  unfold f_X5_passHour at hf
  refine E_iconst (x := 0) dX5_passHour_0 (q := 1) rfl (by decide) ?_
  refine E_istore_n [(2, .int 0), (0, .ref (gB γ + k)), (1, .ref (gB γ + 3))] dX5_passHour_1 (q := 2) rfl rfl (Nat.le_of_ble_eq_true rfl) rfl ?_
  obtain ⟨t18, hxt18, hf⟩ := bnd hf
  refine E_sub [1, 2, 0] rfl ?_
  refine L_X5_passHour_1 hk hH_d hn_w hxt18 ?_
  show Ev γ M_X5_passHour _ n (put k (wtB γ k w_hour t18.1 w_guards t18.2.1 t18.2.2) h) [(0, .ref (gB γ + k))] 103 [] _
  refine E_aload_n 0 dX5_passHour_103 (q := 104) rfl rfl rfl ?_
  refine E_dup dX5_passHour_104 (q := 105) rfl rfl ?_
  have hF20 : Has n k (wtB γ k w_hour t18.1 w_guards t18.2.1 t18.2.2) (put k (wtB γ k w_hour t18.1 w_guards t18.2.1 t18.2.2) h) := (has_put hn_w)
  refine E_get 0 dX5_passHour_105 (q := 108) rfl ckX5 (Nat.le_of_ble_eq_true rfl) fl_X5_30 (hF20.at 0 rfl) (hF20.lt 0 (Nat.le_of_ble_eq_true rfl)) rfl ?_
  refine E_iconst (x := 1) dX5_passHour_108 (q := 109) rfl (by decide) ?_
  refine E_iadd dX5_passHour_109 (q := 110) rfl ?_
  refine E_put 0 dX5_passHour_110 (q := 113) rfl ckX5 (Nat.le_of_ble_eq_true rfl) fl_X5_30 rfl rfl rfl (hF20.at 0 rfl) (hF20.lt 0 (Nat.le_of_ble_eq_true rfl)) (Nat.le_of_ble_eq_true rfl) (up_put (i := 0) (cs' := (wtB γ k (w_hour + 1) t18.1 w_guards t18.2.1 t18.2.2)) (Nat.le_of_ble_eq_true rfl) rfl) ?_
  obtain rfl := Option.some.inj hf
  exact E_vret dX5_passHour_113 rfl ⟨rfl, rfl, rfl⟩

-- PostRelief$Watch.freshestMan(LPostRelief$Depot;I)I
def b_X5_freshestMan_1 (N : Nat) (p2 : Int32) (d_men : Int32) (w_debts : FN) (w_guards : FN) (v3 : Int32) (v4 : Int32) : Option ((Int32 × Int32) ⊕ (Int32)) :=
  (if d_men ≤ v4 then some (.inr v3) else (if ((p2 >>> (v4 &&& 31)) &&& 1) = 0 then ((f_X5_placeOf N v4 w_guards).bind fun z4 => (if z4 = (-9) then (if v3 = (-9) then some (.inl (v4, (v4 + 1))) else (if ix v4 6 = true then (if ix v3 6 = true then (if (w_debts (ci v3)) ≤ (w_debts (ci v4)) then some (.inl (v3, (v4 + 1))) else some (.inl (v4, (v4 + 1)))) else none) else none)) else some (.inl (v3, (v4 + 1))))) else some (.inl (v3, (v4 + 1)))))
def f_X5_freshestMan (N : Nat) (a2 : Int32) (d_men : Int32) (w_debts : FN) (w_guards : FN) : Option (Int32) :=
  ((lp (fun s => b_X5_freshestMan_1 N a2 d_men w_debts w_guards s.1 s.2) N ((-9), 0)).bind fun t10 => some t10)
set_option maxHeartbeats 4000000 in
set_option maxRecDepth 100000 in
theorem L_X5_freshestMan_1 {γ : GX} {n : Nat} {k : Nat} {h : HP} {Ψ : PS} {N : Nat} {p2 : Int32} {d_posts : Int32} {d_sees : FN} {d_cold : FN} {d_men : Int32} {d_debts : FN} {d_on : Int32} {d_stove : Int32} {w_hour : Int32} {w_debts : FN} {w_guards : FN} {w_stood : FN} {w_served : FN} (hk : 11 ≤ k) (hH_d : Has n 3 (dpB γ 3 d_posts d_sees d_cold d_men d_debts d_on d_stove) h) (hH_w : Has n k (wtB γ k w_hour w_debts w_guards w_stood w_served) h) {s0 : Int32 × Int32} {t : Int32} (hf : lp (fun s => b_X5_freshestMan_1 N p2 d_men w_debts w_guards s.1 s.2) N s0 = some t) (K : Ev γ M_X5_freshestMan (0, 0) n h [(3, .int t)] 78 [] Ψ) : Ev γ M_X5_freshestMan (0, 0) n h [(0, .ref (gB γ + k)), (1, .ref (gB γ + 3)), (2, .int p2), (3, .int s0.1), (4, .int s0.2)] 6 [] Ψ := by
  refine E_lp (P := fun s => Ev γ M_X5_freshestMan (0, 0) n h [(0, .ref (gB γ + k)), (1, .ref (gB γ + 3)), (2, .int p2), (3, .int s.1), (4, .int s.2)] 6 [] Ψ) (K := fun t => Ev γ M_X5_freshestMan (0, 0) n h [(3, .int t)] 78 [] Ψ) ?_ N s0 t hf K
  intro s r hf hP hK
  obtain ⟨v3, v4⟩ := s
  change b_X5_freshestMan_1 N p2 d_men w_debts w_guards v3 v4 = some r at hf
  unfold b_X5_freshestMan_1 at hf
  show Ev γ M_X5_freshestMan (0, 0) n h [(0, .ref (gB γ + k)), (1, .ref (gB γ + 3)), (2, .int p2), (3, .int v3), (4, .int v4)] 6 [] Ψ
  refine E_iload 4 dX5_freshestMan_6 (q := 8) rfl rfl ?_
  refine E_aload_n 1 dX5_freshestMan_8 (q := 9) rfl rfl rfl ?_
  refine E_get 3 dX5_freshestMan_9 (q := 12) rfl ckX0 (Nat.le_of_ble_eq_true rfl) fl_X5_58 (hH_d.at 0 rfl) (hH_d.lt 0 (Nat.le_of_ble_eq_true rfl)) rfl ?_
  refine E_icmp_ge dX5_freshestMan_12 (t := 78) (by decide) (q := 15) rfl (fun c2 => ?_) (fun c2 => ?_)
  · have hf := if_t c2 hf
    exact E_sub [3] rfl (hK _ (Option.some.inj hf).symm)
  · have hf := if_f c2 hf
    refine E_iload_n 2 dX5_freshestMan_15 (q := 16) rfl rfl rfl ?_
    refine E_iload 4 dX5_freshestMan_16 (q := 18) rfl rfl ?_
    refine E_ishr dX5_freshestMan_18 (q := 19) rfl ?_
    refine E_iconst (x := 1) dX5_freshestMan_19 (q := 20) rfl (by decide) ?_
    refine E_iand dX5_freshestMan_20 (q := 21) rfl ?_
    refine E_if_ne dX5_freshestMan_21 (t := 39) (by decide) (q := 24) rfl (fun c3 => ?_) (fun c3 => ?_)
    · have hf := if_f c3 hf
      refine E_iconst (x := 0) dX5_freshestMan_39 (q := 40) rfl (by decide) ?_
      refine E_istore [(5, .int 0), (0, .ref (gB γ + k)), (1, .ref (gB γ + 3)), (2, .int p2), (3, .int v3), (4, .int v4)] dX5_freshestMan_40 (q := 42) rfl (Nat.le_of_ble_eq_true rfl) rfl ?_
      refine E_iload 0 dX5_freshestMan_42 (q := 44) rfl rfl ?_
      refine E_if_eq dX5_freshestMan_44 (t := 72) (by decide) (q := 47) rfl (fun _ => ?_) (fun c => absurd c (by decide))
      refine E_iinc 5 [(4, .int (v4 + 1)), (5, .int 0), (0, .ref (gB γ + k)), (1, .ref (gB γ + 3)), (2, .int p2), (3, .int v3)] dX5_freshestMan_72 (q := 75) rfl rfl rfl (Nat.le_of_ble_eq_true rfl) rfl ?_
      refine E_goto (q := 6) dX5_freshestMan_75 (by decide) ?_
      exact E_sub [2, 3, 4, 5, 0] rfl (hP _ (Option.some.inj hf).symm)
    · have hf := if_t c3 hf
      refine E_aload_n 0 dX5_freshestMan_24 (q := 25) rfl rfl rfl ?_
      refine E_iload 4 dX5_freshestMan_25 (q := 27) rfl rfl ?_
      obtain ⟨z4, hxz4, hf⟩ := bnd hf
      refine E_cV (as := [.int v4]) (k := k) (rest := []) (u' := (0, 0)) (st' := [.int z4]) dX5_freshestMan_27 (q := 30) rfl lkm_X5_placeOf lkv_X5_61 (Nat.le_of_ble_eq_true rfl) ckX5 (hH_w.at 0 rfl) (hH_w.lt 0 (Nat.le_of_ble_eq_true rfl)) ⟨Nat.le_refl _, Nat.le_refl _⟩ (Nat.le_of_ble_eq_true rfl) rfl rfl (m_X5_placeOf (N := N)  hk hH_w hxz4) rfl rfl rfl ?_
      refine E_bipush (x := (-9)) dX5_freshestMan_30 (q := 32) rfl (by decide) ?_
      refine E_icmp_ne dX5_freshestMan_32 (t := 39) (by decide) (q := 35) rfl (fun c5 => ?_) (fun c5 => ?_)
      · have hf := if_f c5 hf
        refine E_iconst (x := 0) dX5_freshestMan_39 (q := 40) rfl (by decide) ?_
        refine E_istore [(5, .int 0), (0, .ref (gB γ + k)), (1, .ref (gB γ + 3)), (2, .int p2), (3, .int v3), (4, .int v4)] dX5_freshestMan_40 (q := 42) rfl (Nat.le_of_ble_eq_true rfl) rfl ?_
        refine E_iload 0 dX5_freshestMan_42 (q := 44) rfl rfl ?_
        refine E_if_eq dX5_freshestMan_44 (t := 72) (by decide) (q := 47) rfl (fun _ => ?_) (fun c => absurd c (by decide))
        refine E_iinc 5 [(4, .int (v4 + 1)), (5, .int 0), (0, .ref (gB γ + k)), (1, .ref (gB γ + 3)), (2, .int p2), (3, .int v3)] dX5_freshestMan_72 (q := 75) rfl rfl rfl (Nat.le_of_ble_eq_true rfl) rfl ?_
        refine E_goto (q := 6) dX5_freshestMan_75 (by decide) ?_
        exact E_sub [2, 3, 4, 5, 0] rfl (hP _ (Option.some.inj hf).symm)
      · have hf := if_t c5 hf
        refine E_iconst (x := 1) dX5_freshestMan_35 (q := 36) rfl (by decide) ?_
        refine E_goto (q := 40) dX5_freshestMan_36 (by decide) ?_
        refine E_istore [(5, .int 1), (0, .ref (gB γ + k)), (1, .ref (gB γ + 3)), (2, .int p2), (3, .int v3), (4, .int v4)] dX5_freshestMan_40 (q := 42) rfl (Nat.le_of_ble_eq_true rfl) rfl ?_
        refine E_iload 0 dX5_freshestMan_42 (q := 44) rfl rfl ?_
        refine E_if_eq dX5_freshestMan_44 (t := 72) (by decide) (q := 47) rfl (fun c => absurd c (by decide)) (fun _ => ?_)
        refine E_iload_n 4 dX5_freshestMan_47 (q := 48) rfl rfl rfl ?_
        refine E_bipush (x := (-9)) dX5_freshestMan_48 (q := 50) rfl (by decide) ?_
        refine E_icmp_eq dX5_freshestMan_50 (t := 69) (by decide) (q := 53) rfl (fun c6 => ?_) (fun c6 => ?_)
        · have hf := if_t c6 hf
          refine E_iload 5 dX5_freshestMan_69 (q := 71) rfl rfl ?_
          refine E_istore_n [(3, .int v4), (5, .int 1), (0, .ref (gB γ + k)), (1, .ref (gB γ + 3)), (2, .int p2), (4, .int v4)] dX5_freshestMan_71 (q := 72) rfl rfl (Nat.le_of_ble_eq_true rfl) rfl ?_
          refine E_iinc 5 [(4, .int (v4 + 1)), (3, .int v4), (5, .int 1), (0, .ref (gB γ + k)), (1, .ref (gB γ + 3)), (2, .int p2)] dX5_freshestMan_72 (q := 75) rfl rfl rfl (Nat.le_of_ble_eq_true rfl) rfl ?_
          refine E_goto (q := 6) dX5_freshestMan_75 (by decide) ?_
          exact E_sub [3, 4, 5, 1, 0] rfl (hP _ (Option.some.inj hf).symm)
        · have hf := if_f c6 hf
          refine E_aload_n 1 dX5_freshestMan_53 (q := 54) rfl rfl rfl ?_
          refine E_get 1 dX5_freshestMan_54 (q := 57) rfl ckX5 (Nat.le_of_ble_eq_true rfl) fl_X5_9 (hH_w.at 0 rfl) (hH_w.lt 0 (Nat.le_of_ble_eq_true rfl)) rfl ?_
          refine E_iload 5 dX5_freshestMan_57 (q := 59) rfl rfl ?_
          obtain ⟨g7, hf⟩ := gd hf
          refine E_iald dX5_freshestMan_59 (q := 60) rfl (hH_w.at 1 rfl) (hH_w.lt 1 (Nat.le_of_ble_eq_true rfl)) g7 ?_
          refine E_aload_n 1 dX5_freshestMan_60 (q := 61) rfl rfl rfl ?_
          refine E_get 1 dX5_freshestMan_61 (q := 64) rfl ckX5 (Nat.le_of_ble_eq_true rfl) fl_X5_9 (hH_w.at 0 rfl) (hH_w.lt 0 (Nat.le_of_ble_eq_true rfl)) rfl ?_
          refine E_iload_n 4 dX5_freshestMan_64 (q := 65) rfl rfl rfl ?_
          obtain ⟨g8, hf⟩ := gd hf
          refine E_iald dX5_freshestMan_65 (q := 66) rfl (hH_w.at 1 rfl) (hH_w.lt 1 (Nat.le_of_ble_eq_true rfl)) g8 ?_
          refine E_icmp_ge dX5_freshestMan_66 (t := 72) (by decide) (q := 69) rfl (fun c9 => ?_) (fun c9 => ?_)
          · have hf := if_t c9 hf
            refine E_iinc 5 [(4, .int (v4 + 1)), (5, .int 1), (0, .ref (gB γ + k)), (1, .ref (gB γ + 3)), (2, .int p2), (3, .int v3)] dX5_freshestMan_72 (q := 75) rfl rfl rfl (Nat.le_of_ble_eq_true rfl) rfl ?_
            refine E_goto (q := 6) dX5_freshestMan_75 (by decide) ?_
            exact E_sub [2, 3, 4, 5, 0] rfl (hP _ (Option.some.inj hf).symm)
          · have hf := if_f c9 hf
            refine E_iload 5 dX5_freshestMan_69 (q := 71) rfl rfl ?_
            refine E_istore_n [(3, .int v4), (5, .int 1), (0, .ref (gB γ + k)), (1, .ref (gB γ + 3)), (2, .int p2), (4, .int v4)] dX5_freshestMan_71 (q := 72) rfl rfl (Nat.le_of_ble_eq_true rfl) rfl ?_
            refine E_iinc 5 [(4, .int (v4 + 1)), (3, .int v4), (5, .int 1), (0, .ref (gB γ + k)), (1, .ref (gB γ + 3)), (2, .int p2)] dX5_freshestMan_72 (q := 75) rfl rfl rfl (Nat.le_of_ble_eq_true rfl) rfl ?_
            refine E_goto (q := 6) dX5_freshestMan_75 (by decide) ?_
            exact E_sub [3, 4, 5, 1, 0] rfl (hP _ (Option.some.inj hf).symm)
set_option maxHeartbeats 4000000 in
set_option maxRecDepth 100000 in
theorem m_X5_freshestMan {γ : GX} {n : Nat} {N : Nat} {k : Nat} {h : HP} {a2 : Int32} {d_posts : Int32} {d_sees : FN} {d_cold : FN} {d_men : Int32} {d_debts : FN} {d_on : Int32} {d_stove : Int32} {w_hour : Int32} {w_debts : FN} {w_guards : FN} {w_stood : FN} {w_served : FN} (hk : 11 ≤ k) (hH_d : Has n 3 (dpB γ 3 d_posts d_sees d_cold d_men d_debts d_on d_stove) h) (hH_w : Has n k (wtB γ k w_hour w_debts w_guards w_stood w_served) h) {z : Int32} (hf : f_X5_freshestMan N a2 d_men w_debts w_guards = some z)  : Ct γ M_X5_freshestMan n h [.ref (gB γ + k), .ref (gB γ + 3), .int a2] (Done (some (.int z)) n h) := by
  refine Ct_of_Ev (by decide) (fun h => by cases h) (Nat.le_of_ble_eq_true rfl) ?_
  show Ev γ M_X5_freshestMan (0, 0) n h [(0, .ref (gB γ + k)), (1, .ref (gB γ + 3)), (2, .int a2)] 0 [] _
  unfold f_X5_freshestMan at hf
  refine E_bipush (x := (-9)) dX5_freshestMan_0 (q := 2) rfl (by decide) ?_
  refine E_istore_n [(3, .int (-9)), (0, .ref (gB γ + k)), (1, .ref (gB γ + 3)), (2, .int a2)] dX5_freshestMan_2 (q := 3) rfl rfl (Nat.le_of_ble_eq_true rfl) rfl ?_
  refine E_iconst (x := 0) dX5_freshestMan_3 (q := 4) rfl (by decide) ?_
  refine E_istore [(4, .int 0), (3, .int (-9)), (0, .ref (gB γ + k)), (1, .ref (gB γ + 3)), (2, .int a2)] dX5_freshestMan_4 (q := 6) rfl (Nat.le_of_ble_eq_true rfl) rfl ?_
  obtain ⟨t10, hxt10, hf⟩ := bnd hf
  refine E_sub [2, 3, 4, 1, 0] rfl ?_
  refine L_X5_freshestMan_1 hk hH_d hH_w hxt10 ?_
  show Ev γ M_X5_freshestMan _ n h [(3, .int t10)] 78 [] _
  refine E_iload_n 0 dX5_freshestMan_78 (q := 79) rfl rfl rfl ?_
  obtain rfl := Option.some.inj hf
  exact E_iret dX5_freshestMan_79 rfl ⟨rfl, rfl, rfl⟩

-- PostRelief$Watch.bringRelief(LPostRelief$Depot;II)I
def b_X5_bringRelief_1 (N : Nat) (p3 : Int32) (d_posts : Int32) (d_men : Int32) (d_on : Int32) (w_debts : FN) (v4 : Int32) (v5 : Int32) (v6 : Int32) (v7 : Int32) (w_guards : FN) (w_stood : FN) : Option ((Int32 × Int32 × Int32 × Int32 × FN × FN) ⊕ (Int32 × FN × FN)) :=
  (if d_posts ≤ v7 then some (.inr (v4, w_guards, w_stood)) else (if ix v6 5 = true then (if (w_guards (ci v6)) = (-9) then ((f_X0_nextPost N v6 p3 d_posts).bind fun z7 => some (.inl (v4, v5, z7, (v7 + 1), w_guards, w_stood))) else (if (w_stood (ci v6)) < d_on then ((f_X0_nextPost N v6 p3 d_posts).bind fun z9 => some (.inl (v4, v5, z9, (v7 + 1), w_guards, w_stood))) else ((f_X5_freshestMan N v5 d_men w_debts w_guards).bind fun z10 => (if z10 = (-9) then ((f_X0_nextPost N v6 p3 d_posts).bind fun z12 => some (.inl (v4, v5, z12, (v7 + 1), w_guards, w_stood))) else ((f_X5_place N z10 v6 w_guards w_stood).bind fun z13 => ((f_X0_nextPost N v6 p3 d_posts).bind fun z15 => some (.inl ((v4 + 1), (v5 ||| ((1 : Int32) <<< ((w_guards (ci v6)) &&& 31))), z15, (v7 + 1), z13.1, z13.2)))))))) else none))
def f_X5_bringRelief (N : Nat) (a2 : Int32) (a3 : Int32) (d_posts : Int32) (d_men : Int32) (d_on : Int32) (w_debts : FN) (w_guards : FN) (w_stood : FN) : Option (Int32 × FN × FN) :=
  ((lp (fun s => b_X5_bringRelief_1 N a3 d_posts d_men d_on w_debts s.1 s.2.1 s.2.2.1 s.2.2.2.1 s.2.2.2.2.1 s.2.2.2.2.2) N (0, 0, a2, 0, w_guards, w_stood)).bind fun t17 => some (t17.1, t17.2.1, t17.2.2))
set_option maxHeartbeats 4000000 in
set_option maxRecDepth 100000 in
theorem L_X5_bringRelief_1 {γ : GX} {n : Nat} {k : Nat} {h : HP} {Ψ : PS} {N : Nat} {p3 : Int32} {d_posts : Int32} {d_sees : FN} {d_cold : FN} {d_men : Int32} {d_debts : FN} {d_on : Int32} {d_stove : Int32} {w_hour : Int32} {w_debts : FN} {w_served : FN} (hk : 11 ≤ k) (hH_d : Has n 3 (dpB γ 3 d_posts d_sees d_cold d_men d_debts d_on d_stove) h) (hn_w : k + 5 ≤ n) {s0 : Int32 × Int32 × Int32 × Int32 × FN × FN} {t : Int32 × FN × FN} (hf : lp (fun s => b_X5_bringRelief_1 N p3 d_posts d_men d_on w_debts s.1 s.2.1 s.2.2.1 s.2.2.2.1 s.2.2.2.2.1 s.2.2.2.2.2) N s0 = some t) (K : Ev γ M_X5_bringRelief (0, 0) n (put k (wtB γ k w_hour w_debts t.2.1 t.2.2 w_served) h) [(4, .int t.1)] 107 [] Ψ) : Ev γ M_X5_bringRelief (0, 0) n (put k (wtB γ k w_hour w_debts s0.2.2.2.2.1 s0.2.2.2.2.2 w_served) h) [(0, .ref (gB γ + k)), (1, .ref (gB γ + 3)), (3, .int p3), (4, .int s0.1), (5, .int s0.2.1), (6, .int s0.2.2.1), (7, .int s0.2.2.2.1)] 12 [] Ψ := by
  refine E_lp (P := fun s => Ev γ M_X5_bringRelief (0, 0) n (put k (wtB γ k w_hour w_debts s.2.2.2.2.1 s.2.2.2.2.2 w_served) h) [(0, .ref (gB γ + k)), (1, .ref (gB γ + 3)), (3, .int p3), (4, .int s.1), (5, .int s.2.1), (6, .int s.2.2.1), (7, .int s.2.2.2.1)] 12 [] Ψ) (K := fun t => Ev γ M_X5_bringRelief (0, 0) n (put k (wtB γ k w_hour w_debts t.2.1 t.2.2 w_served) h) [(4, .int t.1)] 107 [] Ψ) ?_ N s0 t hf K
  intro s r hf hP hK
  obtain ⟨v4, v5, v6, v7, w_guards, w_stood⟩ := s
  change b_X5_bringRelief_1 N p3 d_posts d_men d_on w_debts v4 v5 v6 v7 w_guards w_stood = some r at hf
  unfold b_X5_bringRelief_1 at hf
  show Ev γ M_X5_bringRelief (0, 0) n (put k (wtB γ k w_hour w_debts w_guards w_stood w_served) h) [(0, .ref (gB γ + k)), (1, .ref (gB γ + 3)), (3, .int p3), (4, .int v4), (5, .int v5), (6, .int v6), (7, .int v7)] 12 [] Ψ
  refine E_iload 6 dX5_bringRelief_12 (q := 14) rfl rfl ?_
  refine E_aload_n 1 dX5_bringRelief_14 (q := 15) rfl rfl rfl ?_
  have hF2 : Has n 3 (dpB γ 3 d_posts d_sees d_cold d_men d_debts d_on d_stove) (put k (wtB γ k w_hour w_debts w_guards w_stood w_served) h) := (has_out hH_d (Or.inl (by show 3 + 4 ≤ k; omega)))
  refine E_get 0 dX5_bringRelief_15 (q := 18) rfl ckX0 (Nat.le_of_ble_eq_true rfl) fl_X5_79 (hF2.at 0 rfl) (hF2.lt 0 (Nat.le_of_ble_eq_true rfl)) rfl ?_
  refine E_icmp_ge dX5_bringRelief_18 (t := 107) (by decide) (q := 21) rfl (fun c3 => ?_) (fun c3 => ?_)
  · have hf := if_t c3 hf
    exact E_sub [3] rfl (hK _ (Option.some.inj hf).symm)
  · have hf := if_f c3 hf
    refine E_aload_n 0 dX5_bringRelief_21 (q := 22) rfl rfl rfl ?_
    have hF4 : Has n k (wtB γ k w_hour w_debts w_guards w_stood w_served) (put k (wtB γ k w_hour w_debts w_guards w_stood w_served) h) := (has_put hn_w)
    refine E_get 2 dX5_bringRelief_22 (q := 25) rfl ckX5 (Nat.le_of_ble_eq_true rfl) fl_X5_15 (hF4.at 0 rfl) (hF4.lt 0 (Nat.le_of_ble_eq_true rfl)) rfl ?_
    refine E_iload 5 dX5_bringRelief_25 (q := 27) rfl rfl ?_
    obtain ⟨g5, hf⟩ := gd hf
    refine E_iald dX5_bringRelief_27 (q := 28) rfl (hF4.at 2 rfl) (hF4.lt 2 (Nat.le_of_ble_eq_true rfl)) g5 ?_
    refine E_istore [(8, .int (w_guards (ci v6))), (0, .ref (gB γ + k)), (1, .ref (gB γ + 3)), (3, .int p3), (4, .int v4), (5, .int v5), (6, .int v6), (7, .int v7)] dX5_bringRelief_28 (q := 30) rfl (Nat.le_of_ble_eq_true rfl) rfl ?_
    refine E_iload 0 dX5_bringRelief_30 (q := 32) rfl rfl ?_
    refine E_bipush (x := (-9)) dX5_bringRelief_32 (q := 34) rfl (by decide) ?_
    refine E_icmp_eq dX5_bringRelief_34 (t := 61) (by decide) (q := 37) rfl (fun c6 => ?_) (fun c6 => ?_)
    · have hf := if_t c6 hf
      refine E_bipush (x := (-9)) dX5_bringRelief_61 (q := 63) rfl (by decide) ?_
      refine E_istore [(9, .int (-9)), (8, .int (w_guards (ci v6))), (0, .ref (gB γ + k)), (1, .ref (gB γ + 3)), (3, .int p3), (4, .int v4), (5, .int v5), (6, .int v6), (7, .int v7)] dX5_bringRelief_63 (q := 65) rfl (Nat.le_of_ble_eq_true rfl) rfl ?_
      refine E_iload 0 dX5_bringRelief_65 (q := 67) rfl rfl ?_
      refine E_bipush (x := (-9)) dX5_bringRelief_67 (q := 69) rfl (by decide) ?_
      refine E_icmp_eq dX5_bringRelief_69 (t := 92) (by decide) (q := 72) rfl (fun _ => ?_) (fun c => absurd c (by decide))
      refine E_aload_n 3 dX5_bringRelief_92 (q := 93) rfl rfl rfl ?_
      refine E_iload 7 dX5_bringRelief_93 (q := 95) rfl rfl ?_
      refine E_iload_n 4 dX5_bringRelief_95 (q := 96) rfl rfl rfl ?_
      obtain ⟨z7, hxz7, hf⟩ := bnd hf
      refine E_cV (as := [.int v6, .int p3]) (k := 3) (rest := []) (u' := (0, 0)) (st' := [.int z7]) dX5_bringRelief_96 (q := 99) rfl lkm_X0_nextPost lkv_X5_93 (Nat.le_of_ble_eq_true rfl) ckX0 (hF2.at 0 rfl) (hF2.lt 0 (Nat.le_of_ble_eq_true rfl)) ⟨Nat.le_refl _, Nat.le_refl _⟩ (Nat.le_of_ble_eq_true rfl) rfl rfl (m_X0_nextPost (N := N)  hF2 hxz7) rfl rfl rfl ?_
      refine E_istore [(6, .int z7), (9, .int (-9)), (8, .int (w_guards (ci v6))), (0, .ref (gB γ + k)), (1, .ref (gB γ + 3)), (3, .int p3), (4, .int v4), (5, .int v5), (7, .int v7)] dX5_bringRelief_99 (q := 101) rfl (Nat.le_of_ble_eq_true rfl) rfl ?_
      refine E_iinc 8 [(7, .int (v7 + 1)), (6, .int z7), (9, .int (-9)), (8, .int (w_guards (ci v6))), (0, .ref (gB γ + k)), (1, .ref (gB γ + 3)), (3, .int p3), (4, .int v4), (5, .int v5)] dX5_bringRelief_101 (q := 104) rfl rfl rfl (Nat.le_of_ble_eq_true rfl) rfl ?_
      refine E_goto (q := 12) dX5_bringRelief_104 (by decide) ?_
      exact E_sub [4, 5, 6, 7, 8, 1, 0] rfl (hP _ (Option.some.inj hf).symm)
    · have hf := if_f c6 hf
      refine E_aload_n 1 dX5_bringRelief_37 (q := 38) rfl rfl rfl ?_
      refine E_get 3 dX5_bringRelief_38 (q := 41) rfl ckX5 (Nat.le_of_ble_eq_true rfl) fl_X5_18 (hF4.at 0 rfl) (hF4.lt 0 (Nat.le_of_ble_eq_true rfl)) rfl ?_
      refine E_iload 6 dX5_bringRelief_41 (q := 43) rfl rfl ?_
      refine E_iald dX5_bringRelief_43 (q := 44) rfl (hF4.at 3 rfl) (hF4.lt 3 (Nat.le_of_ble_eq_true rfl)) g5 ?_
      refine E_aload_n 2 dX5_bringRelief_44 (q := 45) rfl rfl rfl ?_
      refine E_get 5 dX5_bringRelief_45 (q := 48) rfl ckX0 (Nat.le_of_ble_eq_true rfl) fl_X5_82 (hF2.at 0 rfl) (hF2.lt 0 (Nat.le_of_ble_eq_true rfl)) rfl ?_
      refine E_icmp_lt dX5_bringRelief_48 (t := 61) (by decide) (q := 51) rfl (fun c8 => ?_) (fun c8 => ?_)
      · have hf := if_t c8 hf
        refine E_bipush (x := (-9)) dX5_bringRelief_61 (q := 63) rfl (by decide) ?_
        refine E_istore [(9, .int (-9)), (8, .int (w_guards (ci v6))), (0, .ref (gB γ + k)), (1, .ref (gB γ + 3)), (3, .int p3), (4, .int v4), (5, .int v5), (6, .int v6), (7, .int v7)] dX5_bringRelief_63 (q := 65) rfl (Nat.le_of_ble_eq_true rfl) rfl ?_
        refine E_iload 0 dX5_bringRelief_65 (q := 67) rfl rfl ?_
        refine E_bipush (x := (-9)) dX5_bringRelief_67 (q := 69) rfl (by decide) ?_
        refine E_icmp_eq dX5_bringRelief_69 (t := 92) (by decide) (q := 72) rfl (fun _ => ?_) (fun c => absurd c (by decide))
        refine E_aload_n 3 dX5_bringRelief_92 (q := 93) rfl rfl rfl ?_
        refine E_iload 7 dX5_bringRelief_93 (q := 95) rfl rfl ?_
        refine E_iload_n 4 dX5_bringRelief_95 (q := 96) rfl rfl rfl ?_
        obtain ⟨z9, hxz9, hf⟩ := bnd hf
        refine E_cV (as := [.int v6, .int p3]) (k := 3) (rest := []) (u' := (0, 0)) (st' := [.int z9]) dX5_bringRelief_96 (q := 99) rfl lkm_X0_nextPost lkv_X5_93 (Nat.le_of_ble_eq_true rfl) ckX0 (hF2.at 0 rfl) (hF2.lt 0 (Nat.le_of_ble_eq_true rfl)) ⟨Nat.le_refl _, Nat.le_refl _⟩ (Nat.le_of_ble_eq_true rfl) rfl rfl (m_X0_nextPost (N := N)  hF2 hxz9) rfl rfl rfl ?_
        refine E_istore [(6, .int z9), (9, .int (-9)), (8, .int (w_guards (ci v6))), (0, .ref (gB γ + k)), (1, .ref (gB γ + 3)), (3, .int p3), (4, .int v4), (5, .int v5), (7, .int v7)] dX5_bringRelief_99 (q := 101) rfl (Nat.le_of_ble_eq_true rfl) rfl ?_
        refine E_iinc 8 [(7, .int (v7 + 1)), (6, .int z9), (9, .int (-9)), (8, .int (w_guards (ci v6))), (0, .ref (gB γ + k)), (1, .ref (gB γ + 3)), (3, .int p3), (4, .int v4), (5, .int v5)] dX5_bringRelief_101 (q := 104) rfl rfl rfl (Nat.le_of_ble_eq_true rfl) rfl ?_
        refine E_goto (q := 12) dX5_bringRelief_104 (by decide) ?_
        exact E_sub [4, 5, 6, 7, 8, 1, 0] rfl (hP _ (Option.some.inj hf).symm)
      · have hf := if_f c8 hf
        refine E_aload_n 1 dX5_bringRelief_51 (q := 52) rfl rfl rfl ?_
        refine E_aload_n 2 dX5_bringRelief_52 (q := 53) rfl rfl rfl ?_
        refine E_iload 5 dX5_bringRelief_53 (q := 55) rfl rfl ?_
        obtain ⟨z10, hxz10, hf⟩ := bnd hf
        refine E_cV (as := [.ref (gB γ + 3), .int v5]) (k := k) (rest := []) (u' := (0, 0)) (st' := [.int z10]) dX5_bringRelief_55 (q := 58) rfl lkm_X5_freshestMan lkv_X5_85 (Nat.le_of_ble_eq_true rfl) ckX5 (hF4.at 0 rfl) (hF4.lt 0 (Nat.le_of_ble_eq_true rfl)) ⟨Nat.le_refl _, Nat.le_refl _⟩ (Nat.le_of_ble_eq_true rfl) rfl rfl (m_X5_freshestMan (N := N)  hk hF2 hF4 hxz10) rfl rfl rfl ?_
        refine E_goto (q := 63) dX5_bringRelief_58 (by decide) ?_
        refine E_istore [(9, .int z10), (8, .int (w_guards (ci v6))), (0, .ref (gB γ + k)), (1, .ref (gB γ + 3)), (3, .int p3), (4, .int v4), (5, .int v5), (6, .int v6), (7, .int v7)] dX5_bringRelief_63 (q := 65) rfl (Nat.le_of_ble_eq_true rfl) rfl ?_
        refine E_iload 0 dX5_bringRelief_65 (q := 67) rfl rfl ?_
        refine E_bipush (x := (-9)) dX5_bringRelief_67 (q := 69) rfl (by decide) ?_
        refine E_icmp_eq dX5_bringRelief_69 (t := 92) (by decide) (q := 72) rfl (fun c11 => ?_) (fun c11 => ?_)
        · have hf := if_t c11 hf
          refine E_aload_n 3 dX5_bringRelief_92 (q := 93) rfl rfl rfl ?_
          refine E_iload 7 dX5_bringRelief_93 (q := 95) rfl rfl ?_
          refine E_iload_n 4 dX5_bringRelief_95 (q := 96) rfl rfl rfl ?_
          obtain ⟨z12, hxz12, hf⟩ := bnd hf
          refine E_cV (as := [.int v6, .int p3]) (k := 3) (rest := []) (u' := (0, 0)) (st' := [.int z12]) dX5_bringRelief_96 (q := 99) rfl lkm_X0_nextPost lkv_X5_93 (Nat.le_of_ble_eq_true rfl) ckX0 (hF2.at 0 rfl) (hF2.lt 0 (Nat.le_of_ble_eq_true rfl)) ⟨Nat.le_refl _, Nat.le_refl _⟩ (Nat.le_of_ble_eq_true rfl) rfl rfl (m_X0_nextPost (N := N)  hF2 hxz12) rfl rfl rfl ?_
          refine E_istore [(6, .int z12), (9, .int z10), (8, .int (w_guards (ci v6))), (0, .ref (gB γ + k)), (1, .ref (gB γ + 3)), (3, .int p3), (4, .int v4), (5, .int v5), (7, .int v7)] dX5_bringRelief_99 (q := 101) rfl (Nat.le_of_ble_eq_true rfl) rfl ?_
          refine E_iinc 8 [(7, .int (v7 + 1)), (6, .int z12), (9, .int z10), (8, .int (w_guards (ci v6))), (0, .ref (gB γ + k)), (1, .ref (gB γ + 3)), (3, .int p3), (4, .int v4), (5, .int v5)] dX5_bringRelief_101 (q := 104) rfl rfl rfl (Nat.le_of_ble_eq_true rfl) rfl ?_
          refine E_goto (q := 12) dX5_bringRelief_104 (by decide) ?_
          exact E_sub [4, 5, 6, 7, 8, 1, 0] rfl (hP _ (Option.some.inj hf).symm)
        · have hf := if_f c11 hf
          refine E_iload 6 dX5_bringRelief_72 (q := 74) rfl rfl ?_
          refine E_iconst (x := 1) dX5_bringRelief_74 (q := 75) rfl (by decide) ?_
          refine E_iload 1 dX5_bringRelief_75 (q := 77) rfl rfl ?_
          refine E_ishl dX5_bringRelief_77 (q := 78) rfl ?_
          refine E_ior dX5_bringRelief_78 (q := 79) rfl ?_
          refine E_istore [(5, .int (v5 ||| ((1 : Int32) <<< ((w_guards (ci v6)) &&& 31)))), (9, .int z10), (8, .int (w_guards (ci v6))), (0, .ref (gB γ + k)), (1, .ref (gB γ + 3)), (3, .int p3), (4, .int v4), (6, .int v6), (7, .int v7)] dX5_bringRelief_79 (q := 81) rfl (Nat.le_of_ble_eq_true rfl) rfl ?_
          refine E_aload_n 3 dX5_bringRelief_81 (q := 82) rfl rfl rfl ?_
          refine E_iload 1 dX5_bringRelief_82 (q := 84) rfl rfl ?_
          refine E_iload 7 dX5_bringRelief_84 (q := 86) rfl rfl ?_
          obtain ⟨z13, hxz13, hf⟩ := bnd hf
          refine E_cV (as := [.int z10, .int v6]) (k := k) (rest := []) (u' := (0, 0)) (st' := []) dX5_bringRelief_86 (q := 89) rfl lkm_X5_place lkv_X5_89 (Nat.le_of_ble_eq_true rfl) ckX5 (hF4.at 0 rfl) (hF4.lt 0 (Nat.le_of_ble_eq_true rfl)) ⟨Nat.le_refl _, Nat.le_refl _⟩ (Nat.le_of_ble_eq_true rfl) rfl rfl (m_X5_place (N := N)  hk hF4 hxz13) rfl rfl rfl ?_
          refine Ev.heap (put_put (k := k) (cs := (wtB γ k w_hour w_debts w_guards w_stood w_served)) (cs' := (wtB γ k w_hour w_debts z13.1 z13.2 w_served)) (show (5 : Nat) = 5 from rfl)) ?_
          refine E_iinc 6 [(4, .int (v4 + 1)), (5, .int (v5 ||| ((1 : Int32) <<< ((w_guards (ci v6)) &&& 31)))), (9, .int z10), (8, .int (w_guards (ci v6))), (0, .ref (gB γ + k)), (1, .ref (gB γ + 3)), (3, .int p3), (6, .int v6), (7, .int v7)] dX5_bringRelief_89 (q := 92) rfl rfl rfl (Nat.le_of_ble_eq_true rfl) rfl ?_
          refine E_aload_n 5 dX5_bringRelief_92 (q := 93) rfl rfl rfl ?_
          refine E_iload 7 dX5_bringRelief_93 (q := 95) rfl rfl ?_
          refine E_iload_n 6 dX5_bringRelief_95 (q := 96) rfl rfl rfl ?_
          obtain ⟨z15, hxz15, hf⟩ := bnd hf
          have hF16 : Has n 3 (dpB γ 3 d_posts d_sees d_cold d_men d_debts d_on d_stove) (put k (wtB γ k w_hour w_debts z13.1 z13.2 w_served) h) := (has_out hH_d (Or.inl (by show 3 + 4 ≤ k; omega)))
          refine E_cV (as := [.int v6, .int p3]) (k := 3) (rest := []) (u' := (0, 0)) (st' := [.int z15]) dX5_bringRelief_96 (q := 99) rfl lkm_X0_nextPost lkv_X5_93 (Nat.le_of_ble_eq_true rfl) ckX0 (hF16.at 0 rfl) (hF16.lt 0 (Nat.le_of_ble_eq_true rfl)) ⟨Nat.le_refl _, Nat.le_refl _⟩ (Nat.le_of_ble_eq_true rfl) rfl rfl (m_X0_nextPost (N := N)  hF16 hxz15) rfl rfl rfl ?_
          refine E_istore [(6, .int z15), (4, .int (v4 + 1)), (5, .int (v5 ||| ((1 : Int32) <<< ((w_guards (ci v6)) &&& 31)))), (9, .int z10), (8, .int (w_guards (ci v6))), (0, .ref (gB γ + k)), (1, .ref (gB γ + 3)), (3, .int p3), (7, .int v7)] dX5_bringRelief_99 (q := 101) rfl (Nat.le_of_ble_eq_true rfl) rfl ?_
          refine E_iinc 8 [(7, .int (v7 + 1)), (6, .int z15), (4, .int (v4 + 1)), (5, .int (v5 ||| ((1 : Int32) <<< ((w_guards (ci v6)) &&& 31)))), (9, .int z10), (8, .int (w_guards (ci v6))), (0, .ref (gB γ + k)), (1, .ref (gB γ + 3)), (3, .int p3)] dX5_bringRelief_101 (q := 104) rfl rfl rfl (Nat.le_of_ble_eq_true rfl) rfl ?_
          refine E_goto (q := 12) dX5_bringRelief_104 (by decide) ?_
          exact E_sub [6, 7, 8, 2, 3, 1, 0] rfl (hP _ (Option.some.inj hf).symm)
set_option maxHeartbeats 4000000 in
set_option maxRecDepth 100000 in
theorem m_X5_bringRelief {γ : GX} {n : Nat} {N : Nat} {k : Nat} {h : HP} {a2 : Int32} {a3 : Int32} {d_posts : Int32} {d_sees : FN} {d_cold : FN} {d_men : Int32} {d_debts : FN} {d_on : Int32} {d_stove : Int32} {w_hour : Int32} {w_debts : FN} {w_guards : FN} {w_stood : FN} {w_served : FN} (hk : 11 ≤ k) (hH_d : Has n 3 (dpB γ 3 d_posts d_sees d_cold d_men d_debts d_on d_stove) h) (hH_w : Has n k (wtB γ k w_hour w_debts w_guards w_stood w_served) h) {z : Int32 × FN × FN} (hf : f_X5_bringRelief N a2 a3 d_posts d_men d_on w_debts w_guards w_stood = some z)  : Ct γ M_X5_bringRelief n h [.ref (gB γ + k), .ref (gB γ + 3), .int a2, .int a3] (Done (some (.int z.1)) n (put k (wtB γ k w_hour w_debts z.2.1 z.2.2 w_served) h)) := by
  have hn_w : k + 5 ≤ n := hH_w.1
  refine Ct.heap (h := (put k (wtB γ k w_hour w_debts w_guards w_stood w_served) h)) (put_self hH_w).symm ?_
  refine Ct_of_Ev (by decide) (fun h => by cases h) (Nat.le_of_ble_eq_true rfl) ?_
  show Ev γ M_X5_bringRelief (0, 0) n (put k (wtB γ k w_hour w_debts w_guards w_stood w_served) h) [(0, .ref (gB γ + k)), (1, .ref (gB γ + 3)), (2, .int a2), (3, .int a3)] 0 [] _
  unfold f_X5_bringRelief at hf
  refine E_iconst (x := 0) dX5_bringRelief_0 (q := 1) rfl (by decide) ?_
  refine E_istore [(4, .int 0), (0, .ref (gB γ + k)), (1, .ref (gB γ + 3)), (2, .int a2), (3, .int a3)] dX5_bringRelief_1 (q := 3) rfl (Nat.le_of_ble_eq_true rfl) rfl ?_
  refine E_iconst (x := 0) dX5_bringRelief_3 (q := 4) rfl (by decide) ?_
  refine E_istore [(5, .int 0), (4, .int 0), (0, .ref (gB γ + k)), (1, .ref (gB γ + 3)), (2, .int a2), (3, .int a3)] dX5_bringRelief_4 (q := 6) rfl (Nat.le_of_ble_eq_true rfl) rfl ?_
  refine E_iload_n 4 dX5_bringRelief_6 (q := 7) rfl rfl rfl ?_
  refine E_istore [(6, .int a2), (5, .int 0), (4, .int 0), (0, .ref (gB γ + k)), (1, .ref (gB γ + 3)), (2, .int a2), (3, .int a3)] dX5_bringRelief_7 (q := 9) rfl (Nat.le_of_ble_eq_true rfl) rfl ?_
  refine E_iconst (x := 0) dX5_bringRelief_9 (q := 10) rfl (by decide) ?_
  refine E_istore [(7, .int 0), (6, .int a2), (5, .int 0), (4, .int 0), (0, .ref (gB γ + k)), (1, .ref (gB γ + 3)), (2, .int a2), (3, .int a3)] dX5_bringRelief_10 (q := 12) rfl (Nat.le_of_ble_eq_true rfl) rfl ?_
  obtain ⟨t17, hxt17, hf⟩ := bnd hf
  refine E_sub [4, 5, 7, 3, 2, 1, 0] rfl ?_
  refine L_X5_bringRelief_1 hk hH_d hn_w hxt17 ?_
  show Ev γ M_X5_bringRelief _ n (put k (wtB γ k w_hour w_debts t17.2.1 t17.2.2 w_served) h) [(4, .int t17.1)] 107 [] _
  refine E_iload 0 dX5_bringRelief_107 (q := 109) rfl rfl ?_
  obtain rfl := Option.some.inj hf
  exact E_iret dX5_bringRelief_109 rfl ⟨rfl, rfl, rfl⟩

-- PostRelief$Watch.advance(LPostRelief$Depot;I)V
def f_X5_advance (N : Nat) (a2 : Int32) (d_posts : Int32) (d_cold : FN) (d_men : Int32) (d_on : Int32) (d_stove : Int32) (w_hour : Int32) (w_debts : FN) (w_guards : FN) (w_stood : FN) (w_served : FN) : Option (Int32 × FN × FN × FN × FN) :=
  ((f_X5_passHour N d_cold d_men d_stove w_hour w_debts w_guards w_stood w_served).bind fun z1 => (if a2 = 1 then ((f_X5_bringRelief N 0 1 d_posts d_men d_on z1.2.1 w_guards z1.2.2.1).bind fun z6 => some (z1.1, z1.2.1, z6.2.1, z6.2.2, z1.2.2.2)) else some (z1.1, z1.2.1, w_guards, z1.2.2.1, z1.2.2.2)))
set_option maxHeartbeats 4000000 in
set_option maxRecDepth 100000 in
theorem m_X5_advance {γ : GX} {n : Nat} {N : Nat} {k : Nat} {h : HP} {a2 : Int32} {d_posts : Int32} {d_sees : FN} {d_cold : FN} {d_men : Int32} {d_debts : FN} {d_on : Int32} {d_stove : Int32} {w_hour : Int32} {w_debts : FN} {w_guards : FN} {w_stood : FN} {w_served : FN} (hk : 11 ≤ k) (hH_d : Has n 3 (dpB γ 3 d_posts d_sees d_cold d_men d_debts d_on d_stove) h) (hH_w : Has n k (wtB γ k w_hour w_debts w_guards w_stood w_served) h) {z : Int32 × FN × FN × FN × FN} (hf : f_X5_advance N a2 d_posts d_cold d_men d_on d_stove w_hour w_debts w_guards w_stood w_served = some z)  : Ct γ M_X5_advance n h [.ref (gB γ + k), .ref (gB γ + 3), .int a2] (Done none n (put k (wtB γ k z.1 z.2.1 z.2.2.1 z.2.2.2.1 z.2.2.2.2) h)) := by
  have hn_w : k + 5 ≤ n := hH_w.1
  refine Ct.heap (h := (put k (wtB γ k w_hour w_debts w_guards w_stood w_served) h)) (put_self hH_w).symm ?_
  refine Ct_of_Ev (by decide) (fun h => by cases h) (Nat.le_of_ble_eq_true rfl) ?_
  show Ev γ M_X5_advance (0, 0) n (put k (wtB γ k w_hour w_debts w_guards w_stood w_served) h) [(0, .ref (gB γ + k)), (1, .ref (gB γ + 3)), (2, .int a2)] 0 [] _
  unfold f_X5_advance at hf
  refine E_aload_n 0 dX5_advance_0 (q := 1) rfl rfl rfl ?_
  refine E_aload_n 1 dX5_advance_1 (q := 2) rfl rfl rfl ?_
  obtain ⟨z1, hxz1, hf⟩ := bnd hf
  have hF2 : Has n 3 (dpB γ 3 d_posts d_sees d_cold d_men d_debts d_on d_stove) (put k (wtB γ k w_hour w_debts w_guards w_stood w_served) h) := (has_out hH_d (Or.inl (by show 3 + 4 ≤ k; omega)))
  have hF3 : Has n k (wtB γ k w_hour w_debts w_guards w_stood w_served) (put k (wtB γ k w_hour w_debts w_guards w_stood w_served) h) := (has_put hn_w)
  refine E_cV (as := [.ref (gB γ + 3)]) (k := k) (rest := []) (u' := (0, 0)) (st' := []) dX5_advance_2 (q := 5) rfl lkm_X5_passHour lkv_X5_96 (Nat.le_of_ble_eq_true rfl) ckX5 (hF3.at 0 rfl) (hF3.lt 0 (Nat.le_of_ble_eq_true rfl)) ⟨Nat.le_refl _, Nat.le_refl _⟩ (Nat.le_of_ble_eq_true rfl) rfl rfl (m_X5_passHour (N := N)  hk hF2 hF3 hxz1) rfl rfl rfl ?_
  refine Ev.heap (put_put (k := k) (cs := (wtB γ k w_hour w_debts w_guards w_stood w_served)) (cs' := (wtB γ k z1.1 z1.2.1 w_guards z1.2.2.1 z1.2.2.2)) (show (5 : Nat) = 5 from rfl)) ?_
  refine E_iload_n 2 dX5_advance_5 (q := 6) rfl rfl rfl ?_
  refine E_iconst (x := 1) dX5_advance_6 (q := 7) rfl (by decide) ?_
  refine E_icmp_ne dX5_advance_7 (t := 18) (by decide) (q := 10) rfl (fun c5 => ?_) (fun c5 => ?_)
  · have hf := if_f c5 hf
    obtain rfl := Option.some.inj hf
    exact E_vret dX5_advance_18 rfl ⟨rfl, rfl, rfl⟩
  · have hf := if_t c5 hf
    refine E_aload_n 0 dX5_advance_10 (q := 11) rfl rfl rfl ?_
    refine E_aload_n 1 dX5_advance_11 (q := 12) rfl rfl rfl ?_
    refine E_iconst (x := 0) dX5_advance_12 (q := 13) rfl (by decide) ?_
    refine E_iconst (x := 1) dX5_advance_13 (q := 14) rfl (by decide) ?_
    obtain ⟨z6, hxz6, hf⟩ := bnd hf
    have hF7 : Has n 3 (dpB γ 3 d_posts d_sees d_cold d_men d_debts d_on d_stove) (put k (wtB γ k z1.1 z1.2.1 w_guards z1.2.2.1 z1.2.2.2) h) := (has_out hH_d (Or.inl (by show 3 + 4 ≤ k; omega)))
    have hF8 : Has n k (wtB γ k z1.1 z1.2.1 w_guards z1.2.2.1 z1.2.2.2) (put k (wtB γ k z1.1 z1.2.1 w_guards z1.2.2.1 z1.2.2.2) h) := (has_put hn_w)
    refine E_cV (as := [.ref (gB γ + 3), .int 0, .int 1]) (k := k) (rest := []) (u' := (0, 0)) (st' := [.int z6.1]) dX5_advance_14 (q := 17) rfl lkm_X5_bringRelief lkv_X5_100 (Nat.le_of_ble_eq_true rfl) ckX5 (hF8.at 0 rfl) (hF8.lt 0 (Nat.le_of_ble_eq_true rfl)) ⟨Nat.le_refl _, Nat.le_refl _⟩ (Nat.le_of_ble_eq_true rfl) rfl rfl (m_X5_bringRelief (N := N)  hk hF7 hF8 hxz6) rfl rfl rfl ?_
    refine Ev.heap (put_put (k := k) (cs := (wtB γ k z1.1 z1.2.1 w_guards z1.2.2.1 z1.2.2.2)) (cs' := (wtB γ k z1.1 z1.2.1 z6.2.1 z6.2.2 z1.2.2.2)) (show (5 : Nat) = 5 from rfl)) ?_
    refine E_pop dX5_advance_17 (q := 18) rfl rfl ?_
    obtain rfl := Option.some.inj hf
    exact E_vret dX5_advance_18 rfl ⟨rfl, rfl, rfl⟩

-- PostRelief$Watch.greatestDebt(LPostRelief$Depot;)I
def b_X5_greatestDebt_1 (N : Nat) (d_men : Int32) (w_debts : FN) (v2 : Int32) (v3 : Int32) : Option ((Int32 × Int32) ⊕ (Int32)) :=
  (if d_men ≤ v3 then some (.inr v2) else (if ix v3 6 = true then some (.inl ((if v2 < (w_debts (ci v3)) then (w_debts (ci v3)) else v2), (v3 + 1))) else none))
def f_X5_greatestDebt (N : Nat) (d_men : Int32) (w_debts : FN) : Option (Int32) :=
  ((lp (fun s => b_X5_greatestDebt_1 N d_men w_debts s.1 s.2) N (0, 0)).bind fun t4 => some t4)
set_option maxHeartbeats 4000000 in
set_option maxRecDepth 100000 in
theorem L_X5_greatestDebt_1 {γ : GX} {n : Nat} {k : Nat} {h : HP} {Ψ : PS} {N : Nat} {d_posts : Int32} {d_sees : FN} {d_cold : FN} {d_men : Int32} {d_debts : FN} {d_on : Int32} {d_stove : Int32} {w_hour : Int32} {w_debts : FN} {w_guards : FN} {w_stood : FN} {w_served : FN} (hk : 11 ≤ k) (hH_d : Has n 3 (dpB γ 3 d_posts d_sees d_cold d_men d_debts d_on d_stove) h) (hH_w : Has n k (wtB γ k w_hour w_debts w_guards w_stood w_served) h) {s0 : Int32 × Int32} {t : Int32} (hf : lp (fun s => b_X5_greatestDebt_1 N d_men w_debts s.1 s.2) N s0 = some t) (K : Ev γ M_X5_greatestDebt (0, 0) n h [(2, .int t)] 29 [] Ψ) : Ev γ M_X5_greatestDebt (0, 0) n h [(0, .ref (gB γ + k)), (1, .ref (gB γ + 3)), (2, .int s0.1), (3, .int s0.2)] 4 [] Ψ := by
  refine E_lp (P := fun s => Ev γ M_X5_greatestDebt (0, 0) n h [(0, .ref (gB γ + k)), (1, .ref (gB γ + 3)), (2, .int s.1), (3, .int s.2)] 4 [] Ψ) (K := fun t => Ev γ M_X5_greatestDebt (0, 0) n h [(2, .int t)] 29 [] Ψ) ?_ N s0 t hf K
  intro s r hf hP hK
  obtain ⟨v2, v3⟩ := s
  change b_X5_greatestDebt_1 N d_men w_debts v2 v3 = some r at hf
  unfold b_X5_greatestDebt_1 at hf
  show Ev γ M_X5_greatestDebt (0, 0) n h [(0, .ref (gB γ + k)), (1, .ref (gB γ + 3)), (2, .int v2), (3, .int v3)] 4 [] Ψ
  refine E_iload_n 3 dX5_greatestDebt_4 (q := 5) rfl rfl rfl ?_
  refine E_aload_n 1 dX5_greatestDebt_5 (q := 6) rfl rfl rfl ?_
  refine E_get 3 dX5_greatestDebt_6 (q := 9) rfl ckX0 (Nat.le_of_ble_eq_true rfl) fl_X5_58 (hH_d.at 0 rfl) (hH_d.lt 0 (Nat.le_of_ble_eq_true rfl)) rfl ?_
  refine E_icmp_ge dX5_greatestDebt_9 (t := 29) (by decide) (q := 12) rfl (fun c2 => ?_) (fun c2 => ?_)
  · have hf := if_t c2 hf
    exact E_sub [2] rfl (hK _ (Option.some.inj hf).symm)
  · have hf := if_f c2 hf
    refine E_iload_n 2 dX5_greatestDebt_12 (q := 13) rfl rfl rfl ?_
    refine E_aload_n 0 dX5_greatestDebt_13 (q := 14) rfl rfl rfl ?_
    refine E_get 1 dX5_greatestDebt_14 (q := 17) rfl ckX5 (Nat.le_of_ble_eq_true rfl) fl_X5_9 (hH_w.at 0 rfl) (hH_w.lt 0 (Nat.le_of_ble_eq_true rfl)) rfl ?_
    refine E_iload_n 3 dX5_greatestDebt_17 (q := 18) rfl rfl rfl ?_
    obtain ⟨g3, hf⟩ := gd hf
    refine E_iald dX5_greatestDebt_18 (q := 19) rfl (hH_w.at 1 rfl) (hH_w.lt 1 (Nat.le_of_ble_eq_true rfl)) g3 ?_
    refine E_max dX5_greatestDebt_19 (q := 22) rfl lkmax_X5_67 st_max in_math co_max (Nat.le_of_ble_eq_true rfl) (Nat.le_of_ble_eq_true rfl) ?_
    refine E_istore_n [(2, .int (if v2 < (w_debts (ci v3)) then (w_debts (ci v3)) else v2)), (0, .ref (gB γ + k)), (1, .ref (gB γ + 3)), (3, .int v3)] dX5_greatestDebt_22 (q := 23) rfl rfl (Nat.le_of_ble_eq_true rfl) rfl ?_
    refine E_iinc 3 [(3, .int (v3 + 1)), (2, .int (if v2 < (w_debts (ci v3)) then (w_debts (ci v3)) else v2)), (0, .ref (gB γ + k)), (1, .ref (gB γ + 3))] dX5_greatestDebt_23 (q := 26) rfl rfl rfl (Nat.le_of_ble_eq_true rfl) rfl ?_
    refine E_goto (q := 4) dX5_greatestDebt_26 (by decide) ?_
    exact E_sub [2, 3, 1, 0] rfl (hP _ (Option.some.inj hf).symm)
set_option maxHeartbeats 4000000 in
set_option maxRecDepth 100000 in
theorem m_X5_greatestDebt {γ : GX} {n : Nat} {N : Nat} {k : Nat} {h : HP} {d_posts : Int32} {d_sees : FN} {d_cold : FN} {d_men : Int32} {d_debts : FN} {d_on : Int32} {d_stove : Int32} {w_hour : Int32} {w_debts : FN} {w_guards : FN} {w_stood : FN} {w_served : FN} (hk : 11 ≤ k) (hH_d : Has n 3 (dpB γ 3 d_posts d_sees d_cold d_men d_debts d_on d_stove) h) (hH_w : Has n k (wtB γ k w_hour w_debts w_guards w_stood w_served) h) {z : Int32} (hf : f_X5_greatestDebt N d_men w_debts = some z)  : Ct γ M_X5_greatestDebt n h [.ref (gB γ + k), .ref (gB γ + 3)] (Done (some (.int z)) n h) := by
  refine Ct_of_Ev (by decide) (fun h => by cases h) (Nat.le_of_ble_eq_true rfl) ?_
  show Ev γ M_X5_greatestDebt (0, 0) n h [(0, .ref (gB γ + k)), (1, .ref (gB γ + 3))] 0 [] _
  unfold f_X5_greatestDebt at hf
  refine E_iconst (x := 0) dX5_greatestDebt_0 (q := 1) rfl (by decide) ?_
  refine E_istore_n [(2, .int 0), (0, .ref (gB γ + k)), (1, .ref (gB γ + 3))] dX5_greatestDebt_1 (q := 2) rfl rfl (Nat.le_of_ble_eq_true rfl) rfl ?_
  refine E_iconst (x := 0) dX5_greatestDebt_2 (q := 3) rfl (by decide) ?_
  refine E_istore_n [(3, .int 0), (2, .int 0), (0, .ref (gB γ + k)), (1, .ref (gB γ + 3))] dX5_greatestDebt_3 (q := 4) rfl rfl (Nat.le_of_ble_eq_true rfl) rfl ?_
  obtain ⟨t4, hxt4, hf⟩ := bnd hf
  refine E_sub [2, 3, 1, 0] rfl ?_
  refine L_X5_greatestDebt_1 hk hH_d hH_w hxt4 ?_
  show Ev γ M_X5_greatestDebt _ n h [(2, .int t4)] 29 [] _
  refine E_iload_n 0 dX5_greatestDebt_29 (q := 30) rfl rfl rfl ?_
  obtain rfl := Option.some.inj hf
  exact E_iret dX5_greatestDebt_30 rfl ⟨rfl, rfl, rfl⟩

-- PostRelief$Watch.debtOnPost()I
def b_X5_debtOnPost_1 (N : Nat) (w_debts : FN) (w_guards : FN) (v1 : Int32) (v2 : Int32) : Option ((Int32 × Int32) ⊕ (Int32)) :=
  (if 5 ≤ v2 then some (.inr v1) else (if ix v2 5 = true then (if (w_guards (ci v2)) = (-9) then some (.inl (v1, (v2 + 1))) else (if ix (w_guards (ci v2)) 6 = true then some (.inl ((v1 + (w_debts (ci (w_guards (ci v2))))), (v2 + 1))) else none)) else none))
def f_X5_debtOnPost (N : Nat) (w_debts : FN) (w_guards : FN) : Option (Int32) :=
  ((lp (fun s => b_X5_debtOnPost_1 N w_debts w_guards s.1 s.2) N (0, 0)).bind fun t6 => some t6)
set_option maxHeartbeats 4000000 in
set_option maxRecDepth 100000 in
theorem L_X5_debtOnPost_1 {γ : GX} {n : Nat} {k : Nat} {h : HP} {Ψ : PS} {N : Nat} {w_hour : Int32} {w_debts : FN} {w_guards : FN} {w_stood : FN} {w_served : FN} (hk : 11 ≤ k) (hH_w : Has n k (wtB γ k w_hour w_debts w_guards w_stood w_served) h) {s0 : Int32 × Int32} {t : Int32} (hf : lp (fun s => b_X5_debtOnPost_1 N w_debts w_guards s.1 s.2) N s0 = some t) (K : Ev γ M_X5_debtOnPost (0, 0) n h [(1, .int t)] 40 [] Ψ) : Ev γ M_X5_debtOnPost (0, 0) n h [(0, .ref (gB γ + k)), (1, .int s0.1), (2, .int s0.2)] 4 [] Ψ := by
  refine E_lp (P := fun s => Ev γ M_X5_debtOnPost (0, 0) n h [(0, .ref (gB γ + k)), (1, .int s.1), (2, .int s.2)] 4 [] Ψ) (K := fun t => Ev γ M_X5_debtOnPost (0, 0) n h [(1, .int t)] 40 [] Ψ) ?_ N s0 t hf K
  intro s r hf hP hK
  obtain ⟨v1, v2⟩ := s
  change b_X5_debtOnPost_1 N w_debts w_guards v1 v2 = some r at hf
  unfold b_X5_debtOnPost_1 at hf
  show Ev γ M_X5_debtOnPost (0, 0) n h [(0, .ref (gB γ + k)), (1, .int v1), (2, .int v2)] 4 [] Ψ
  refine E_iload_n 2 dX5_debtOnPost_4 (q := 5) rfl rfl rfl ?_
  refine E_iconst (x := 5) dX5_debtOnPost_5 (q := 6) rfl (by decide) ?_
  refine E_icmp_ge dX5_debtOnPost_6 (t := 40) (by decide) (q := 9) rfl (fun c2 => ?_) (fun c2 => ?_)
  · have hf := if_t c2 hf
    exact E_sub [1] rfl (hK _ (Option.some.inj hf).symm)
  · have hf := if_f c2 hf
    refine E_aload_n 0 dX5_debtOnPost_9 (q := 10) rfl rfl rfl ?_
    refine E_get 2 dX5_debtOnPost_10 (q := 13) rfl ckX5 (Nat.le_of_ble_eq_true rfl) fl_X5_15 (hH_w.at 0 rfl) (hH_w.lt 0 (Nat.le_of_ble_eq_true rfl)) rfl ?_
    refine E_iload_n 2 dX5_debtOnPost_13 (q := 14) rfl rfl rfl ?_
    obtain ⟨g3, hf⟩ := gd hf
    refine E_iald dX5_debtOnPost_14 (q := 15) rfl (hH_w.at 2 rfl) (hH_w.lt 2 (Nat.le_of_ble_eq_true rfl)) g3 ?_
    refine E_bipush (x := (-9)) dX5_debtOnPost_15 (q := 17) rfl (by decide) ?_
    refine E_icmp_eq dX5_debtOnPost_17 (t := 34) (by decide) (q := 20) rfl (fun c4 => ?_) (fun c4 => ?_)
    · have hf := if_t c4 hf
      refine E_iinc 2 [(2, .int (v2 + 1)), (0, .ref (gB γ + k)), (1, .int v1)] dX5_debtOnPost_34 (q := 37) rfl rfl rfl (Nat.le_of_ble_eq_true rfl) rfl ?_
      refine E_goto (q := 4) dX5_debtOnPost_37 (by decide) ?_
      exact E_sub [1, 2, 0] rfl (hP _ (Option.some.inj hf).symm)
    · have hf := if_f c4 hf
      refine E_iload_n 1 dX5_debtOnPost_20 (q := 21) rfl rfl rfl ?_
      refine E_aload_n 0 dX5_debtOnPost_21 (q := 22) rfl rfl rfl ?_
      refine E_get 1 dX5_debtOnPost_22 (q := 25) rfl ckX5 (Nat.le_of_ble_eq_true rfl) fl_X5_9 (hH_w.at 0 rfl) (hH_w.lt 0 (Nat.le_of_ble_eq_true rfl)) rfl ?_
      refine E_aload_n 0 dX5_debtOnPost_25 (q := 26) rfl rfl rfl ?_
      refine E_get 2 dX5_debtOnPost_26 (q := 29) rfl ckX5 (Nat.le_of_ble_eq_true rfl) fl_X5_15 (hH_w.at 0 rfl) (hH_w.lt 0 (Nat.le_of_ble_eq_true rfl)) rfl ?_
      refine E_iload_n 2 dX5_debtOnPost_29 (q := 30) rfl rfl rfl ?_
      refine E_iald dX5_debtOnPost_30 (q := 31) rfl (hH_w.at 2 rfl) (hH_w.lt 2 (Nat.le_of_ble_eq_true rfl)) g3 ?_
      obtain ⟨g5, hf⟩ := gd hf
      refine E_iald dX5_debtOnPost_31 (q := 32) rfl (hH_w.at 1 rfl) (hH_w.lt 1 (Nat.le_of_ble_eq_true rfl)) g5 ?_
      refine E_iadd dX5_debtOnPost_32 (q := 33) rfl ?_
      refine E_istore_n [(1, .int (v1 + (w_debts (ci (w_guards (ci v2)))))), (0, .ref (gB γ + k)), (2, .int v2)] dX5_debtOnPost_33 (q := 34) rfl rfl (Nat.le_of_ble_eq_true rfl) rfl ?_
      refine E_iinc 2 [(2, .int (v2 + 1)), (1, .int (v1 + (w_debts (ci (w_guards (ci v2)))))), (0, .ref (gB γ + k))] dX5_debtOnPost_34 (q := 37) rfl rfl rfl (Nat.le_of_ble_eq_true rfl) rfl ?_
      refine E_goto (q := 4) dX5_debtOnPost_37 (by decide) ?_
      exact E_sub [2, 1, 0] rfl (hP _ (Option.some.inj hf).symm)
set_option maxHeartbeats 4000000 in
set_option maxRecDepth 100000 in
theorem m_X5_debtOnPost {γ : GX} {n : Nat} {N : Nat} {k : Nat} {h : HP} {w_hour : Int32} {w_debts : FN} {w_guards : FN} {w_stood : FN} {w_served : FN} (hk : 11 ≤ k) (hH_w : Has n k (wtB γ k w_hour w_debts w_guards w_stood w_served) h) {z : Int32} (hf : f_X5_debtOnPost N w_debts w_guards = some z)  : Ct γ M_X5_debtOnPost n h [.ref (gB γ + k)] (Done (some (.int z)) n h) := by
  refine Ct_of_Ev (by decide) (fun h => by cases h) (Nat.le_of_ble_eq_true rfl) ?_
  show Ev γ M_X5_debtOnPost (0, 0) n h [(0, .ref (gB γ + k))] 0 [] _
  unfold f_X5_debtOnPost at hf
  refine E_iconst (x := 0) dX5_debtOnPost_0 (q := 1) rfl (by decide) ?_
  refine E_istore_n [(1, .int 0), (0, .ref (gB γ + k))] dX5_debtOnPost_1 (q := 2) rfl rfl (Nat.le_of_ble_eq_true rfl) rfl ?_
  refine E_iconst (x := 0) dX5_debtOnPost_2 (q := 3) rfl (by decide) ?_
  refine E_istore_n [(2, .int 0), (1, .int 0), (0, .ref (gB γ + k))] dX5_debtOnPost_3 (q := 4) rfl rfl (Nat.le_of_ble_eq_true rfl) rfl ?_
  obtain ⟨t6, hxt6, hf⟩ := bnd hf
  refine E_sub [2, 1, 0] rfl ?_
  refine L_X5_debtOnPost_1 hk hH_w hxt6 ?_
  show Ev γ M_X5_debtOnPost _ n h [(1, .int t6)] 40 [] _
  refine E_iload_n 0 dX5_debtOnPost_40 (q := 41) rfl rfl rfl ?_
  obtain rfl := Option.some.inj hf
  exact E_iret dX5_debtOnPost_41 rfl ⟨rfl, rfl, rfl⟩

-- PostRelief$Watch.coldOf(LPostRelief$Depot;I)I
def b_X5_coldOf_1 (N : Nat) (p2 : Int32) (d_posts : Int32) (d_cold : FN) (w_served : FN) (v3 : Int32) (v4 : Int32) : Option ((Int32 × Int32) ⊕ (Int32)) :=
  (if d_posts ≤ v4 then some (.inr v3) else (if ix ((p2 * 5) + v4) 30 = true then (if ix v4 5 = true then some (.inl ((v3 + ((w_served (ci ((p2 * 5) + v4))) * (d_cold (ci v4)))), (v4 + 1))) else none) else none))
def f_X5_coldOf (N : Nat) (a2 : Int32) (d_posts : Int32) (d_cold : FN) (w_served : FN) : Option (Int32) :=
  ((lp (fun s => b_X5_coldOf_1 N a2 d_posts d_cold w_served s.1 s.2) N (0, 0)).bind fun t5 => some t5)
set_option maxHeartbeats 4000000 in
set_option maxRecDepth 100000 in
theorem L_X5_coldOf_1 {γ : GX} {n : Nat} {k : Nat} {h : HP} {Ψ : PS} {N : Nat} {p2 : Int32} {d_posts : Int32} {d_sees : FN} {d_cold : FN} {d_men : Int32} {d_debts : FN} {d_on : Int32} {d_stove : Int32} {w_hour : Int32} {w_debts : FN} {w_guards : FN} {w_stood : FN} {w_served : FN} (hk : 11 ≤ k) (hH_d : Has n 3 (dpB γ 3 d_posts d_sees d_cold d_men d_debts d_on d_stove) h) (hH_w : Has n k (wtB γ k w_hour w_debts w_guards w_stood w_served) h) {s0 : Int32 × Int32} {t : Int32} (hf : lp (fun s => b_X5_coldOf_1 N p2 d_posts d_cold w_served s.1 s.2) N s0 = some t) (K : Ev γ M_X5_coldOf (0, 0) n h [(3, .int t)] 42 [] Ψ) : Ev γ M_X5_coldOf (0, 0) n h [(0, .ref (gB γ + k)), (1, .ref (gB γ + 3)), (2, .int p2), (3, .int s0.1), (4, .int s0.2)] 5 [] Ψ := by
  refine E_lp (P := fun s => Ev γ M_X5_coldOf (0, 0) n h [(0, .ref (gB γ + k)), (1, .ref (gB γ + 3)), (2, .int p2), (3, .int s.1), (4, .int s.2)] 5 [] Ψ) (K := fun t => Ev γ M_X5_coldOf (0, 0) n h [(3, .int t)] 42 [] Ψ) ?_ N s0 t hf K
  intro s r hf hP hK
  obtain ⟨v3, v4⟩ := s
  change b_X5_coldOf_1 N p2 d_posts d_cold w_served v3 v4 = some r at hf
  unfold b_X5_coldOf_1 at hf
  show Ev γ M_X5_coldOf (0, 0) n h [(0, .ref (gB γ + k)), (1, .ref (gB γ + 3)), (2, .int p2), (3, .int v3), (4, .int v4)] 5 [] Ψ
  refine E_iload 4 dX5_coldOf_5 (q := 7) rfl rfl ?_
  refine E_aload_n 1 dX5_coldOf_7 (q := 8) rfl rfl rfl ?_
  refine E_get 0 dX5_coldOf_8 (q := 11) rfl ckX0 (Nat.le_of_ble_eq_true rfl) fl_X5_79 (hH_d.at 0 rfl) (hH_d.lt 0 (Nat.le_of_ble_eq_true rfl)) rfl ?_
  refine E_icmp_ge dX5_coldOf_11 (t := 42) (by decide) (q := 14) rfl (fun c2 => ?_) (fun c2 => ?_)
  · have hf := if_t c2 hf
    exact E_sub [3] rfl (hK _ (Option.some.inj hf).symm)
  · have hf := if_f c2 hf
    refine E_iload_n 3 dX5_coldOf_14 (q := 15) rfl rfl rfl ?_
    refine E_aload_n 0 dX5_coldOf_15 (q := 16) rfl rfl rfl ?_
    refine E_get 4 dX5_coldOf_16 (q := 19) rfl ckX5 (Nat.le_of_ble_eq_true rfl) fl_X5_21 (hH_w.at 0 rfl) (hH_w.lt 0 (Nat.le_of_ble_eq_true rfl)) rfl ?_
    refine E_iload_n 2 dX5_coldOf_19 (q := 20) rfl rfl rfl ?_
    refine E_iconst (x := 5) dX5_coldOf_20 (q := 21) rfl (by decide) ?_
    refine E_imul dX5_coldOf_21 (q := 22) rfl ?_
    refine E_iload 4 dX5_coldOf_22 (q := 24) rfl rfl ?_
    refine E_iadd dX5_coldOf_24 (q := 25) rfl ?_
    obtain ⟨g3, hf⟩ := gd hf
    refine E_iald dX5_coldOf_25 (q := 26) rfl (hH_w.at 4 rfl) (hH_w.lt 4 (Nat.le_of_ble_eq_true rfl)) g3 ?_
    refine E_aload_n 1 dX5_coldOf_26 (q := 27) rfl rfl rfl ?_
    refine E_get 2 dX5_coldOf_27 (q := 30) rfl ckX0 (Nat.le_of_ble_eq_true rfl) fl_X5_104 (hH_d.at 0 rfl) (hH_d.lt 0 (Nat.le_of_ble_eq_true rfl)) rfl ?_
    refine E_iload 4 dX5_coldOf_30 (q := 32) rfl rfl ?_
    obtain ⟨g4, hf⟩ := gd hf
    refine E_iald dX5_coldOf_32 (q := 33) rfl (hH_d.at 2 rfl) (hH_d.lt 2 (Nat.le_of_ble_eq_true rfl)) g4 ?_
    refine E_imul dX5_coldOf_33 (q := 34) rfl ?_
    refine E_iadd dX5_coldOf_34 (q := 35) rfl ?_
    refine E_istore_n [(3, .int (v3 + ((w_served (ci ((p2 * 5) + v4))) * (d_cold (ci v4))))), (0, .ref (gB γ + k)), (1, .ref (gB γ + 3)), (2, .int p2), (4, .int v4)] dX5_coldOf_35 (q := 36) rfl rfl (Nat.le_of_ble_eq_true rfl) rfl ?_
    refine E_iinc 4 [(4, .int (v4 + 1)), (3, .int (v3 + ((w_served (ci ((p2 * 5) + v4))) * (d_cold (ci v4))))), (0, .ref (gB γ + k)), (1, .ref (gB γ + 3)), (2, .int p2)] dX5_coldOf_36 (q := 39) rfl rfl rfl (Nat.le_of_ble_eq_true rfl) rfl ?_
    refine E_goto (q := 5) dX5_coldOf_39 (by decide) ?_
    exact E_sub [2, 3, 4, 1, 0] rfl (hP _ (Option.some.inj hf).symm)
set_option maxHeartbeats 4000000 in
set_option maxRecDepth 100000 in
theorem m_X5_coldOf {γ : GX} {n : Nat} {N : Nat} {k : Nat} {h : HP} {a2 : Int32} {d_posts : Int32} {d_sees : FN} {d_cold : FN} {d_men : Int32} {d_debts : FN} {d_on : Int32} {d_stove : Int32} {w_hour : Int32} {w_debts : FN} {w_guards : FN} {w_stood : FN} {w_served : FN} (hk : 11 ≤ k) (hH_d : Has n 3 (dpB γ 3 d_posts d_sees d_cold d_men d_debts d_on d_stove) h) (hH_w : Has n k (wtB γ k w_hour w_debts w_guards w_stood w_served) h) {z : Int32} (hf : f_X5_coldOf N a2 d_posts d_cold w_served = some z)  : Ct γ M_X5_coldOf n h [.ref (gB γ + k), .ref (gB γ + 3), .int a2] (Done (some (.int z)) n h) := by
  refine Ct_of_Ev (by decide) (fun h => by cases h) (Nat.le_of_ble_eq_true rfl) ?_
  show Ev γ M_X5_coldOf (0, 0) n h [(0, .ref (gB γ + k)), (1, .ref (gB γ + 3)), (2, .int a2)] 0 [] _
  unfold f_X5_coldOf at hf
  refine E_iconst (x := 0) dX5_coldOf_0 (q := 1) rfl (by decide) ?_
  refine E_istore_n [(3, .int 0), (0, .ref (gB γ + k)), (1, .ref (gB γ + 3)), (2, .int a2)] dX5_coldOf_1 (q := 2) rfl rfl (Nat.le_of_ble_eq_true rfl) rfl ?_
  refine E_iconst (x := 0) dX5_coldOf_2 (q := 3) rfl (by decide) ?_
  refine E_istore [(4, .int 0), (3, .int 0), (0, .ref (gB γ + k)), (1, .ref (gB γ + 3)), (2, .int a2)] dX5_coldOf_3 (q := 5) rfl (Nat.le_of_ble_eq_true rfl) rfl ?_
  obtain ⟨t5, hxt5, hf⟩ := bnd hf
  refine E_sub [2, 3, 4, 1, 0] rfl ?_
  refine L_X5_coldOf_1 hk hH_d hH_w hxt5 ?_
  show Ev γ M_X5_coldOf _ n h [(3, .int t5)] 42 [] _
  refine E_iload_n 0 dX5_coldOf_42 (q := 43) rfl rfl rfl ?_
  obtain rfl := Option.some.inj hf
  exact E_iret dX5_coldOf_43 rfl ⟨rfl, rfl, rfl⟩
