def M_X6_isPost : MI := (yX6_isPost, cX6_isPost, 2, (some .boolean), false, 2, 0, 0)
theorem lkm_X6_isPost : LkM M_X6_isPost 1 := ⟨(lg_mem 50 (by decide +kernel) rfl), (lg_mem 372 (by decide +kernel) rfl), ⟨by decide, by decide, by decide +kernel⟩, (Nat.le_of_ble_eq_true rfl)⟩
def M_X6_isMan : MI := (yX6_isMan, cX6_isMan, 2, (some .boolean), false, 2, 0, 0)
theorem lkm_X6_isMan : LkM M_X6_isMan 1 := ⟨(lg_mem 50 (by decide +kernel) rfl), (lg_mem 388 (by decide +kernel) rfl), ⟨by decide, by decide, by decide +kernel⟩, (Nat.le_of_ble_eq_true rfl)⟩
def M_X6_beginAnew : MI := (yX6_beginAnew, cX6_beginAnew, 2, none, false, 3, 0, 0)
theorem lkm_X6_beginAnew : LkM M_X6_beginAnew 0 := ⟨(lg_mem 50 (by decide +kernel) rfl), (lg_mem 359 (by decide +kernel) rfl), ⟨by decide, by decide, by decide +kernel⟩, (Nat.le_of_ble_eq_true rfl)⟩
def M_X6_canBeLeft : MI := (yX6_canBeLeft, cX6_canBeLeft, 3, (some .boolean), false, 4, 0, 0)
theorem lkm_X6_canBeLeft : LkM M_X6_canBeLeft 1 := ⟨(lg_mem 50 (by decide +kernel) rfl), (lg_mem 542 (by decide +kernel) rfl), ⟨by decide, by decide, by decide +kernel⟩, (Nat.le_of_ble_eq_true rfl)⟩
def M_X6_seenOnlyFrom : MI := (yX6_seenOnlyFrom, cX6_seenOnlyFrom, 4, (some .int), false, 3, 0, 0)
theorem lkm_X6_seenOnlyFrom : LkM M_X6_seenOnlyFrom 1 := ⟨(lg_mem 50 (by decide +kernel) rfl), (lg_mem 551 (by decide +kernel) rfl), ⟨by decide, by decide, by decide +kernel⟩, (Nat.le_of_ble_eq_true rfl)⟩
def M_X6_hoursAsleep : MI := (yX6_hoursAsleep, cX6_hoursAsleep, 6, (some .int), false, 2, 0, 0)
theorem lkm_X6_hoursAsleep : LkM M_X6_hoursAsleep 2 := ⟨(lg_mem 50 (by decide +kernel) rfl), (lg_mem 599 (by decide +kernel) rfl), ⟨by decide, by decide, by decide +kernel⟩, (Nat.le_of_ble_eq_true rfl)⟩
def M_X6_rateOfPost : MI := (yX6_rateOfPost, cX6_rateOfPost, 2, (some .int), false, 1, 0, 0)
theorem lkm_X6_rateOfPost : LkM M_X6_rateOfPost 1 := ⟨(lg_mem 50 (by decide +kernel) rfl), (lg_mem 630 (by decide +kernel) rfl), ⟨by decide, by decide, by decide +kernel⟩, (Nat.le_of_ble_eq_true rfl)⟩
def M_X6_rateOfGate : MI := (yX6_rateOfGate, cX6_rateOfGate, 2, (some .int), false, 2, 0, 0)
theorem lkm_X6_rateOfGate : LkM M_X6_rateOfGate 1 := ⟨(lg_mem 50 (by decide +kernel) rfl), (lg_mem 634 (by decide +kernel) rfl), ⟨by decide, by decide, by decide +kernel⟩, (Nat.le_of_ble_eq_true rfl)⟩
def M_X6_rateOfPump : MI := (yX6_rateOfPump, cX6_rateOfPump, 3, (some .int), false, 2, 0, 0)
theorem lkm_X6_rateOfPump : LkM M_X6_rateOfPump 1 := ⟨(lg_mem 50 (by decide +kernel) rfl), (lg_mem 639 (by decide +kernel) rfl), ⟨by decide, by decide, by decide +kernel⟩, (Nat.le_of_ble_eq_true rfl)⟩
def M_X6_rateOfLane : MI := (yX6_rateOfLane, cX6_rateOfLane, 2, (some .int), false, 3, 0, 0)
theorem lkm_X6_rateOfLane : LkM M_X6_rateOfLane 1 := ⟨(lg_mem 50 (by decide +kernel) rfl), (lg_mem 644 (by decide +kernel) rfl), ⟨by decide, by decide, by decide +kernel⟩, (Nat.le_of_ble_eq_true rfl)⟩
def M_X6_rateOfYard : MI := (yX6_rateOfYard, cX6_rateOfYard, 2, (some .int), false, 3, 0, 0)
theorem lkm_X6_rateOfYard : LkM M_X6_rateOfYard 1 := ⟨(lg_mem 50 (by decide +kernel) rfl), (lg_mem 649 (by decide +kernel) rfl), ⟨by decide, by decide, by decide +kernel⟩, (Nat.le_of_ble_eq_true rfl)⟩
def M_X6_rateOfTower : MI := (yX6_rateOfTower, cX6_rateOfTower, 2, (some .int), false, 3, 0, 0)
theorem lkm_X6_rateOfTower : LkM M_X6_rateOfTower 1 := ⟨(lg_mem 50 (by decide +kernel) rfl), (lg_mem 654 (by decide +kernel) rfl), ⟨by decide, by decide, by decide +kernel⟩, (Nat.le_of_ble_eq_true rfl)⟩
def M_X6_type : MI := (yX6_type, cX6_type, 2, (some .int), false, 2, 0, 0)
theorem lkm_X6_type : LkM M_X6_type 1 := ⟨(lg_mem 50 (by decide +kernel) rfl), (lg_mem 283 (by decide +kernel) rfl), ⟨by decide, by decide, by decide +kernel⟩, (Nat.le_of_ble_eq_true rfl)⟩
def M_X6_clear : MI := (yX6_clear, cX6_clear, 2, (some .int), false, 1, 0, 0)
theorem lkm_X6_clear : LkM M_X6_clear 0 := ⟨(lg_mem 50 (by decide +kernel) rfl), (lg_mem 294 (by decide +kernel) rfl), ⟨by decide, by decide, by decide +kernel⟩, (Nat.le_of_ble_eq_true rfl)⟩
def M_X6_depot : MI := (yX6_depot, cX6_depot, 2, (some .int), false, 8, 0, 0)
theorem lkm_X6_depot : LkM M_X6_depot 0 := ⟨(lg_mem 50 (by decide +kernel) rfl), (lg_mem 298 (by decide +kernel) rfl), ⟨by decide, by decide, by decide +kernel⟩, (Nat.le_of_ble_eq_true rfl)⟩
def M_X6_post : MI := (yX6_post, cX6_post, 3, (some .int), false, 3, 0, 0)
theorem lkm_X6_post : LkM M_X6_post 2 := ⟨(lg_mem 50 (by decide +kernel) rfl), (lg_mem 368 (by decide +kernel) rfl), ⟨by decide, by decide, by decide +kernel⟩, (Nat.le_of_ble_eq_true rfl)⟩
def M_X6_man : MI := (yX6_man, cX6_man, 4, (some .int), false, 3, 0, 0)
theorem lkm_X6_man : LkM M_X6_man 2 := ⟨(lg_mem 50 (by decide +kernel) rfl), (lg_mem 384 (by decide +kernel) rfl), ⟨by decide, by decide, by decide +kernel⟩, (Nat.le_of_ble_eq_true rfl)⟩
def M_X6_now : MI := (yX6_now, cX6_now, 2, (some .int), false, 5, 0, 0)
theorem lkm_X6_now : LkM M_X6_now 1 := ⟨(lg_mem 50 (by decide +kernel) rfl), (lg_mem 400 (by decide +kernel) rfl), ⟨by decide, by decide, by decide +kernel⟩, (Nat.le_of_ble_eq_true rfl)⟩
def M_X6_sends : MI := (yX6_sends, cX6_sends, 3, (some .int), false, 3, 0, 0)
theorem lkm_X6_sends : LkM M_X6_sends 2 := ⟨(lg_mem 50 (by decide +kernel) rfl), (lg_mem 424 (by decide +kernel) rfl), ⟨by decide, by decide, by decide +kernel⟩, (Nat.le_of_ble_eq_true rfl)⟩
def M_X6_calls : MI := (yX6_calls, cX6_calls, 3, (some .int), false, 3, 0, 0)
theorem lkm_X6_calls : LkM M_X6_calls 1 := ⟨(lg_mem 50 (by decide +kernel) rfl), (lg_mem 447 (by decide +kernel) rfl), ⟨by decide, by decide, by decide +kernel⟩, (Nat.le_of_ble_eq_true rfl)⟩
def M_X6_hour : MI := (yX6_hour, cX6_hour, 1, (some .int), false, 3, 0, 0)
theorem lkm_X6_hour : LkM M_X6_hour 0 := ⟨(lg_mem 50 (by decide +kernel) rfl), (lg_mem 451 (by decide +kernel) rfl), ⟨by decide, by decide, by decide +kernel⟩, (Nat.le_of_ble_eq_true rfl)⟩
def M_X6_relieves : MI := (yX6_relieves, cX6_relieves, 3, (some .int), false, 4, 0, 0)
theorem lkm_X6_relieves : LkM M_X6_relieves 2 := ⟨(lg_mem 50 (by decide +kernel) rfl), (lg_mem 468 (by decide +kernel) rfl), ⟨by decide, by decide, by decide +kernel⟩, (Nat.le_of_ble_eq_true rfl)⟩
def M_X6_undo : MI := (yX6_undo, cX6_undo, 1, (some .int), false, 3, 0, 0)
theorem lkm_X6_undo : LkM M_X6_undo 0 := ⟨(lg_mem 50 (by decide +kernel) rfl), (lg_mem 485 (by decide +kernel) rfl), ⟨by decide, by decide, by decide +kernel⟩, (Nat.le_of_ble_eq_true rfl)⟩
theorem fl_X6_19 : Cond.fieldLink RX6 19 (TX6 1).1 (TX6 1).2.1 (TX6 1).2.2.1 ∈ lw_good := (lg_mem 247 (by decide +kernel) rfl)
theorem fl_X6_171 : Cond.fieldLink RX6 171 (TX0 0).1 (TX0 0).2.1 (TX0 0).2.2.1 ∈ lw_good := (lg_mem 113 (by decide +kernel) rfl)
theorem lks_X6_65 : LkS RX6 65 M_X6_within := ⟨(lg_mem 284 (by decide +kernel) rfl), (lg_mem 285 (by decide +kernel) rfl)⟩
theorem fl_X6_177 : Cond.fieldLink RX6 177 (TX0 3).1 (TX0 3).2.1 (TX0 3).2.2.1 ∈ lw_good := (lg_mem 124 (by decide +kernel) rfl)
theorem fl_X6_29 : Cond.fieldLink RX6 29 (TX6 3).1 (TX6 3).2.1 (TX6 3).2.2.1 ∈ lw_good := (lg_mem 249 (by decide +kernel) rfl)
theorem fl_X6_39 : Cond.fieldLink RX6 39 (TX6 5).1 (TX6 5).2.1 (TX6 5).2.2.1 ∈ lw_good := (lg_mem 251 (by decide +kernel) rfl)
theorem fl_X6_130 : Cond.fieldLink RX6 130 (TX2 2).1 (TX2 2).2.1 (TX2 2).2.2.1 ∈ lw_good := (lg_mem 196 (by decide +kernel) rfl)
theorem fl_X6_54 : Cond.fieldLink RX6 54 (TX6 8).1 (TX6 8).2.1 (TX6 8).2.2.1 ∈ lw_good := (lg_mem 254 (by decide +kernel) rfl)
theorem fl_X6_218 : Cond.fieldLink RX6 218 (TX1 0).1 (TX1 0).2.1 (TX1 0).2.2.1 ∈ lw_good := (lg_mem 211 (by decide +kernel) rfl)
theorem fl_X6_47 : Cond.fieldLink RX6 47 (TX6 7).1 (TX6 7).2.1 (TX6 7).2.2.1 ∈ lw_good := (lg_mem 253 (by decide +kernel) rfl)
theorem lkv_X6_267 : LkV RX6 267 M_X5_begin := ⟨(lg_mem 360 (by decide +kernel) rfl), (lg_mem 361 (by decide +kernel) rfl), (lg_mem 362 (by decide +kernel) rfl)⟩
theorem lkv_X6_190 : LkV RX6 190 M_X0_allPosts := ⟨(lg_mem 538 (by decide +kernel) rfl), (lg_mem 378 (by decide +kernel) rfl), (lg_mem 379 (by decide +kernel) rfl)⟩
theorem lkv_X6_199 : LkV RX6 199 M_X0_watchedBy := ⟨(lg_mem 543 (by decide +kernel) rfl), (lg_mem 417 (by decide +kernel) rfl), (lg_mem 418 (by decide +kernel) rfl)⟩
theorem lkv_X6_91 : LkV RX6 91 M_X0_seenFrom := ⟨(lg_mem 373 (by decide +kernel) rfl), (lg_mem 374 (by decide +kernel) rfl), (lg_mem 375 (by decide +kernel) rfl)⟩
theorem fl_X6_117 : Cond.fieldLink RX6 117 (TX5 0).1 (TX5 0).2.1 (TX5 0).2.2.1 ∈ lw_good := (lg_mem 163 (by decide +kernel) rfl)
theorem lkmin_X6_235 : Cond.methodLink RX6 235 Lib.Math.min.name ∈ lw_good := (lg_mem 601 (by decide +kernel) rfl)
theorem lkv_X6_273 : LkV RX6 273 M_X0_burden := ⟨(lg_mem 600 (by decide +kernel) rfl), (lg_mem 461 (by decide +kernel) rfl), (lg_mem 462 (by decide +kernel) rfl)⟩
theorem fl_X6_263 : Cond.fieldLink RX6 263 (TX6 10).1 (TX6 10).2.1 (TX6 10).2.2.1 ∈ lw_good := (lg_mem 256 (by decide +kernel) rfl)
theorem fl_X6_95 : Cond.fieldLink RX6 95 (TX0 2).1 (TX0 2).2.1 (TX0 2).2.2.1 ∈ lw_good := (lg_mem 118 (by decide +kernel) rfl)
theorem cw_X6_276 : Cond.constantLong RX6 276 10 ∈ lw_good := (lg_mem 635 (by decide +kernel) rfl)
theorem fl_X6_102 : Cond.fieldLink RX6 102 (TX5 3).1 (TX5 3).2.1 (TX5 3).2.2.1 ∈ lw_good := (lg_mem 170 (by decide +kernel) rfl)
theorem lkv_X6_239 : LkV RX6 239 M_X6_rateOfPost := ⟨(lg_mem 627 (by decide +kernel) rfl), (lg_mem 629 (by decide +kernel) rfl), (lg_mem 17 (by decide +kernel) rfl)⟩
theorem cw_X6_278 : Cond.constantLong RX6 278 100 ∈ lw_good := (lg_mem 640 (by decide +kernel) rfl)
theorem fl_X6_99 : Cond.fieldLink RX6 99 (TX5 2).1 (TX5 2).2.1 (TX5 2).2.2.1 ∈ lw_good := (lg_mem 168 (by decide +kernel) rfl)
theorem fl_X6_111 : Cond.fieldLink RX6 111 (TX5 1).1 (TX5 1).2.1 (TX5 1).2.2.1 ∈ lw_good := (lg_mem 166 (by decide +kernel) rfl)
theorem cw_X6_280 : Cond.constantLong RX6 280 1000 ∈ lw_good := (lg_mem 645 (by decide +kernel) rfl)
theorem lkv_X6_242 : LkV RX6 242 M_X6_rateOfGate := ⟨(lg_mem 631 (by decide +kernel) rfl), (lg_mem 633 (by decide +kernel) rfl), (lg_mem 18 (by decide +kernel) rfl)⟩
theorem cw_X6_282 : Cond.constantLong RX6 282 10000 ∈ lw_good := (lg_mem 650 (by decide +kernel) rfl)
theorem lkv_X6_245 : LkV RX6 245 M_X6_rateOfPump := ⟨(lg_mem 636 (by decide +kernel) rfl), (lg_mem 638 (by decide +kernel) rfl), (lg_mem 19 (by decide +kernel) rfl)⟩
theorem cw_X6_284 : Cond.constantLong RX6 284 100000 ∈ lw_good := (lg_mem 655 (by decide +kernel) rfl)
theorem fl_X6_10 : Cond.fieldLink RX6 10 (TX6 0).1 (TX6 0).2.1 (TX6 0).2.2.1 ∈ lw_good := (lg_mem 246 (by decide +kernel) rfl)
theorem fl_X6_73 : Cond.fieldLink RX6 73 (TX4 1).1 (TX4 1).2.1 (TX4 1).2.2.1 ∈ lw_good := (lg_mem 78 (by decide +kernel) rfl)
theorem lkv_X6_69 : LkV RX6 69 M_X4_take := ⟨(lg_mem 287 (by decide +kernel) rfl), (lg_mem 288 (by decide +kernel) rfl), (lg_mem 289 (by decide +kernel) rfl)⟩
theorem fl_X6_23 : Cond.fieldLink RX6 23 (TX6 2).1 (TX6 2).2.1 (TX6 2).2.2.1 ∈ lw_good := (lg_mem 248 (by decide +kernel) rfl)
theorem lkv_X6_77 : LkV RX6 77 M_X4_readInto := ⟨(lg_mem 299 (by decide +kernel) rfl), (lg_mem 300 (by decide +kernel) rfl), (lg_mem 301 (by decide +kernel) rfl)⟩
theorem lkv_X6_81 : LkV RX6 81 M_X0_become := ⟨(lg_mem 349 (by decide +kernel) rfl), (lg_mem 350 (by decide +kernel) rfl), (lg_mem 351 (by decide +kernel) rfl)⟩
theorem lkv_X6_85 : LkV RX6 85 M_X6_beginAnew := ⟨(lg_mem 356 (by decide +kernel) rfl), (lg_mem 358 (by decide +kernel) rfl), (lg_mem 9 (by decide +kernel) rfl)⟩
theorem lkv_X6_88 : LkV RX6 88 M_X6_isPost := ⟨(lg_mem 369 (by decide +kernel) rfl), (lg_mem 371 (by decide +kernel) rfl), (lg_mem 10 (by decide +kernel) rfl)⟩
theorem lkv_X6_105 : LkV RX6 105 M_X6_isMan := ⟨(lg_mem 385 (by decide +kernel) rfl), (lg_mem 387 (by decide +kernel) rfl), (lg_mem 11 (by decide +kernel) rfl)⟩
theorem lkv_X6_108 : LkV RX6 108 M_X5_placeOf := ⟨(lg_mem 389 (by decide +kernel) rfl), (lg_mem 390 (by decide +kernel) rfl), (lg_mem 391 (by decide +kernel) rfl)⟩
theorem lkv_X6_114 : LkV RX6 114 M_X5_sleepsAt := ⟨(lg_mem 393 (by decide +kernel) rfl), (lg_mem 394 (by decide +kernel) rfl), (lg_mem 395 (by decide +kernel) rfl)⟩
theorem lkv_X6_120 : LkV RX6 120 M_X5_mannedPosts := ⟨(lg_mem 401 (by decide +kernel) rfl), (lg_mem 402 (by decide +kernel) rfl), (lg_mem 403 (by decide +kernel) rfl)⟩
theorem lkv_X6_124 : LkV RX6 124 M_X5_sleepingPosts := ⟨(lg_mem 405 (by decide +kernel) rfl), (lg_mem 406 (by decide +kernel) rfl), (lg_mem 407 (by decide +kernel) rfl)⟩
theorem lkv_X6_127 : LkV RX6 127 M_X5_watchedPosts := ⟨(lg_mem 410 (by decide +kernel) rfl), (lg_mem 411 (by decide +kernel) rfl), (lg_mem 412 (by decide +kernel) rfl)⟩
theorem lkv_X6_133 : LkV RX6 133 M_X2_remember := ⟨(lg_mem 425 (by decide +kernel) rfl), (lg_mem 426 (by decide +kernel) rfl), (lg_mem 427 (by decide +kernel) rfl)⟩
theorem lkv_X6_137 : LkV RX6 137 M_X5_place := ⟨(lg_mem 434 (by decide +kernel) rfl), (lg_mem 435 (by decide +kernel) rfl), (lg_mem 436 (by decide +kernel) rfl)⟩
theorem lkv_X6_146 : LkV RX6 146 M_X5_passHour := ⟨(lg_mem 452 (by decide +kernel) rfl), (lg_mem 453 (by decide +kernel) rfl), (lg_mem 454 (by decide +kernel) rfl)⟩
theorem lkv_X6_149 : LkV RX6 149 M_X5_bringRelief := ⟨(lg_mem 469 (by decide +kernel) rfl), (lg_mem 470 (by decide +kernel) rfl), (lg_mem 471 (by decide +kernel) rfl)⟩
theorem lkv_X6_153 : LkV RX6 153 M_X2_restore := ⟨(lg_mem 486 (by decide +kernel) rfl), (lg_mem 487 (by decide +kernel) rfl), (lg_mem 488 (by decide +kernel) rfl)⟩
-- PostRelief.isPost(I)Z
def f_X6_isPost (N : Nat) (a1 : Int32) (d_posts : Int32) : Option (Int32) :=
  ((f_X6_within N a1 0 (d_posts - 1)).bind fun z1 => (if z1 &&& 1 = z1 then some z1 else none))
set_option maxHeartbeats 4000000 in
set_option maxRecDepth 100000 in
theorem m_X6_isPost {γ : GX} {n : Nat} {N : Nat} {h : HP} {a1 : Int32} {x_track : Int64} {d_posts : Int32} {d_sees : FN} {d_cold : FN} {d_men : Int32} {d_debts : FN} {d_on : Int32} {d_stove : Int32} (hH_x : Has n 0 (poB γ 0 x_track) h) (hH_d : Has n 3 (dpB γ 3 d_posts d_sees d_cold d_men d_debts d_on d_stove) h) {z : Int32} (hf : f_X6_isPost N a1 d_posts = some z)  : Ct γ M_X6_isPost n h [.ref (gB γ + 0), .int a1] (Done (some (.int z)) n h) := by
  refine Ct_of_Ev (by decide) (fun h => by cases h) (Nat.le_of_ble_eq_true rfl) ?_
  show Ev γ M_X6_isPost (0, 0) n h [(0, .ref (gB γ + 0)), (1, .int a1)] 0 [] _
  unfold f_X6_isPost at hf
  refine E_iload_n 1 dX6_isPost_0 (q := 1) rfl rfl rfl ?_
  refine E_iconst (x := 0) dX6_isPost_1 (q := 2) rfl (by decide) ?_
  refine E_aload_n 0 dX6_isPost_2 (q := 3) rfl rfl rfl ?_
  refine E_get 1 dX6_isPost_3 (q := 6) rfl ckX6 (Nat.le_of_ble_eq_true rfl) fl_X6_19 (hH_x.at 0 rfl) (hH_x.lt 0 (Nat.le_of_ble_eq_true rfl)) rfl ?_
  refine E_get 0 dX6_isPost_6 (q := 9) rfl ckX0 (Nat.le_of_ble_eq_true rfl) fl_X6_171 (hH_d.at 0 rfl) (hH_d.lt 0 (Nat.le_of_ble_eq_true rfl)) rfl ?_
  refine E_iconst (x := 1) dX6_isPost_9 (q := 10) rfl (by decide) ?_
  refine E_isub dX6_isPost_10 (q := 11) rfl ?_
  obtain ⟨z1, hxz1, hf⟩ := bnd hf
  refine E_cS (as := [.int a1, .int 0, .int (d_posts - 1)]) (rest := []) (u' := (0, 0)) (st' := [.int z1]) dX6_isPost_11 (q := 14) rfl lkm_X6_within lks_X6_65 (Nat.le_of_ble_eq_true rfl) ⟨Nat.le_refl _, Nat.le_refl _⟩ (Nat.le_of_ble_eq_true rfl) rfl rfl (m_X6_within (N := N)  hxz1) rfl rfl rfl ?_
  obtain ⟨g2, hf⟩ := gd hf
  obtain rfl := Option.some.inj hf
  exact E_zret dX6_isPost_14 rfl g2 ⟨rfl, rfl, rfl⟩

-- PostRelief.isMan(I)Z
def f_X6_isMan (N : Nat) (a1 : Int32) (d_men : Int32) : Option (Int32) :=
  ((f_X6_within N a1 0 (d_men - 1)).bind fun z1 => (if z1 &&& 1 = z1 then some z1 else none))
set_option maxHeartbeats 4000000 in
set_option maxRecDepth 100000 in
theorem m_X6_isMan {γ : GX} {n : Nat} {N : Nat} {h : HP} {a1 : Int32} {x_track : Int64} {d_posts : Int32} {d_sees : FN} {d_cold : FN} {d_men : Int32} {d_debts : FN} {d_on : Int32} {d_stove : Int32} (hH_x : Has n 0 (poB γ 0 x_track) h) (hH_d : Has n 3 (dpB γ 3 d_posts d_sees d_cold d_men d_debts d_on d_stove) h) {z : Int32} (hf : f_X6_isMan N a1 d_men = some z)  : Ct γ M_X6_isMan n h [.ref (gB γ + 0), .int a1] (Done (some (.int z)) n h) := by
  refine Ct_of_Ev (by decide) (fun h => by cases h) (Nat.le_of_ble_eq_true rfl) ?_
  show Ev γ M_X6_isMan (0, 0) n h [(0, .ref (gB γ + 0)), (1, .int a1)] 0 [] _
  unfold f_X6_isMan at hf
  refine E_iload_n 1 dX6_isMan_0 (q := 1) rfl rfl rfl ?_
  refine E_iconst (x := 0) dX6_isMan_1 (q := 2) rfl (by decide) ?_
  refine E_aload_n 0 dX6_isMan_2 (q := 3) rfl rfl rfl ?_
  refine E_get 1 dX6_isMan_3 (q := 6) rfl ckX6 (Nat.le_of_ble_eq_true rfl) fl_X6_19 (hH_x.at 0 rfl) (hH_x.lt 0 (Nat.le_of_ble_eq_true rfl)) rfl ?_
  refine E_get 3 dX6_isMan_6 (q := 9) rfl ckX0 (Nat.le_of_ble_eq_true rfl) fl_X6_177 (hH_d.at 0 rfl) (hH_d.lt 0 (Nat.le_of_ble_eq_true rfl)) rfl ?_
  refine E_iconst (x := 1) dX6_isMan_9 (q := 10) rfl (by decide) ?_
  refine E_isub dX6_isMan_10 (q := 11) rfl ?_
  obtain ⟨z1, hxz1, hf⟩ := bnd hf
  refine E_cS (as := [.int a1, .int 0, .int (d_men - 1)]) (rest := []) (u' := (0, 0)) (st' := [.int z1]) dX6_isMan_11 (q := 14) rfl lkm_X6_within lks_X6_65 (Nat.le_of_ble_eq_true rfl) ⟨Nat.le_refl _, Nat.le_refl _⟩ (Nat.le_of_ble_eq_true rfl) rfl rfl (m_X6_within (N := N)  hxz1) rfl rfl rfl ?_
  obtain ⟨g2, hf⟩ := gd hf
  obtain rfl := Option.some.inj hf
  exact E_zret dX6_isMan_14 rfl g2 ⟨rfl, rfl, rfl⟩

-- PostRelief.beginAnew()V
def b_X6_beginAnew_1 (N : Nat) (v1 : Int32) (kp_kept : FN) : Option ((Int32 × FN) ⊕ (FN)) :=
  (if 2 ≤ v1 then some (.inr kp_kept) else (if ix v1 2 = true then some (.inl ((v1 + 1), (upd kp_kept (ci v1) 0))) else none))
def f_X6_beginAnew (N : Nat) (d_debts : FN) (w_hour : Int32) (w_debts : FN) (w_guards : FN) (w_stood : FN) (w_served : FN) (p_known : Int32) (kp_kept : FN) (f_size : Int32) : Option (Int32 × FN × FN × FN × FN × Int32 × FN × Int32) :=
  ((f_X5_begin N d_debts w_hour w_debts w_guards w_stood w_served).bind fun z2 => ((lp (fun s => b_X6_beginAnew_1 N s.1 s.2) N (0, kp_kept)).bind fun t18 => some (z2.1, z2.2.1, z2.2.2.1, z2.2.2.2.1, z2.2.2.2.2, 0, t18, 0)))
set_option maxHeartbeats 4000000 in
set_option maxRecDepth 100000 in
theorem L_X6_beginAnew_1 {γ : GX} {n : Nat} {h : HP} {Ψ : PS} {N : Nat} {x_track : Int64} {d_posts : Int32} {d_sees : FN} {d_cold : FN} {d_men : Int32} {d_debts : FN} {d_on : Int32} {d_stove : Int32} {w_hour : Int32} {w_debts : FN} {w_guards : FN} {w_stood : FN} {w_served : FN} {p_next : Int32} {p_known : Int32} {f_size : Int32} {f_men : FN} {f_hours : FN} {f_asleep : FN} (hH_x : Has n 0 (poB γ 0 x_track) h) (hH_d : Has n 3 (dpB γ 3 d_posts d_sees d_cold d_men d_debts d_on d_stove) h) (hn_w : 11 + 5 ≤ n) (hn_p : 21 + 2 ≤ n) (hn_kp : 74 + 1 ≤ n) (hn_f : 75 + 4 ≤ n) {s0 : Int32 × FN} {t : FN} (hf : lp (fun s => b_X6_beginAnew_1 N s.1 s.2) N s0 = some t) (K : Ev γ M_X6_beginAnew (0, 0) n (put 11 (wtB γ 11 w_hour w_debts w_guards w_stood w_served) (put 21 (paB γ 21 p_next p_known) (put 74 (kpB γ 74 t) (put 75 (fiB γ 75 f_size f_men f_hours f_asleep) h)))) [] 47 [] Ψ) : Ev γ M_X6_beginAnew (0, 0) n (put 11 (wtB γ 11 w_hour w_debts w_guards w_stood w_served) (put 21 (paB γ 21 p_next p_known) (put 74 (kpB γ 74 s0.2) (put 75 (fiB γ 75 f_size f_men f_hours f_asleep) h)))) [(0, .ref (gB γ + 0)), (1, .int s0.1)] 29 [] Ψ := by
  refine E_lp (P := fun s => Ev γ M_X6_beginAnew (0, 0) n (put 11 (wtB γ 11 w_hour w_debts w_guards w_stood w_served) (put 21 (paB γ 21 p_next p_known) (put 74 (kpB γ 74 s.2) (put 75 (fiB γ 75 f_size f_men f_hours f_asleep) h)))) [(0, .ref (gB γ + 0)), (1, .int s.1)] 29 [] Ψ) (K := fun t => Ev γ M_X6_beginAnew (0, 0) n (put 11 (wtB γ 11 w_hour w_debts w_guards w_stood w_served) (put 21 (paB γ 21 p_next p_known) (put 74 (kpB γ 74 t) (put 75 (fiB γ 75 f_size f_men f_hours f_asleep) h)))) [] 47 [] Ψ) ?_ N s0 t hf K
  intro s r hf hP hK
  obtain ⟨v1, kp_kept⟩ := s
  change b_X6_beginAnew_1 N v1 kp_kept = some r at hf
  unfold b_X6_beginAnew_1 at hf
  show Ev γ M_X6_beginAnew (0, 0) n (put 11 (wtB γ 11 w_hour w_debts w_guards w_stood w_served) (put 21 (paB γ 21 p_next p_known) (put 74 (kpB γ 74 kp_kept) (put 75 (fiB γ 75 f_size f_men f_hours f_asleep) h)))) [(0, .ref (gB γ + 0)), (1, .int v1)] 29 [] Ψ
  refine E_iload_n 1 dX6_beginAnew_29 (q := 30) rfl rfl rfl ?_
  refine E_iconst (x := 2) dX6_beginAnew_30 (q := 31) rfl (by decide) ?_
  refine E_icmp_ge dX6_beginAnew_31 (t := 47) (by decide) (q := 34) rfl (fun c13 => ?_) (fun c13 => ?_)
  · have hf := if_t c13 hf
    exact E_sub [] rfl (hK _ (Option.some.inj hf).symm)
  · have hf := if_f c13 hf
    refine E_aload_n 0 dX6_beginAnew_34 (q := 35) rfl rfl rfl ?_
    have hF14 : Has n 0 (poB γ 0 x_track) (put 11 (wtB γ 11 w_hour w_debts w_guards w_stood w_served) (put 21 (paB γ 21 p_next p_known) (put 74 (kpB γ 74 kp_kept) (put 75 (fiB γ 75 f_size f_men f_hours f_asleep) h)))) := (has_out (has_out (has_out (has_out hH_x (Or.inl (Nat.le_of_ble_eq_true rfl))) (Or.inl (Nat.le_of_ble_eq_true rfl))) (Or.inl (Nat.le_of_ble_eq_true rfl))) (Or.inl (Nat.le_of_ble_eq_true rfl)))
    refine E_get 7 dX6_beginAnew_35 (q := 38) rfl ckX6 (Nat.le_of_ble_eq_true rfl) fl_X6_47 (hF14.at 0 rfl) (hF14.lt 0 (Nat.le_of_ble_eq_true rfl)) rfl ?_
    refine E_iload_n 1 dX6_beginAnew_38 (q := 39) rfl rfl rfl ?_
    refine E_iconst (x := 0) dX6_beginAnew_39 (q := 40) rfl (by decide) ?_
    obtain ⟨g15, hf⟩ := gd hf
    have hF16 : Has n 74 (kpB γ 74 kp_kept) (put 11 (wtB γ 11 w_hour w_debts w_guards w_stood w_served) (put 21 (paB γ 21 p_next p_known) (put 74 (kpB γ 74 kp_kept) (put 75 (fiB γ 75 f_size f_men f_hours f_asleep) h)))) := (has_out (has_out (has_put hn_kp) (Or.inr (Nat.le_of_ble_eq_true rfl))) (Or.inr (Nat.le_of_ble_eq_true rfl)))
    refine E_zast dX6_beginAnew_40 (q := 41) rfl (hF16.at 0 rfl) (hF16.lt 0 (Nat.le_of_ble_eq_true rfl)) g15 rfl ((up_put_out (Or.inr (Nat.le_of_ble_eq_true rfl))).trans (congrArg (put 11 (wtB γ 11 w_hour w_debts w_guards w_stood w_served)) ((up_put_out (Or.inr (Nat.le_of_ble_eq_true rfl))).trans (congrArg (put 21 (paB γ 21 p_next p_known)) (up_put (i := 0) (cs' := (kpB γ 74 (upd kp_kept (ci v1) 0))) (Nat.le_of_ble_eq_true rfl) rfl))))) ?_
    refine E_iinc 1 [(1, .int (v1 + 1)), (0, .ref (gB γ + 0))] dX6_beginAnew_41 (q := 44) rfl rfl rfl (Nat.le_of_ble_eq_true rfl) rfl ?_
    refine E_goto (q := 29) dX6_beginAnew_44 (by decide) ?_
    exact E_sub [1, 0] rfl (hP _ (Option.some.inj hf).symm)
set_option maxHeartbeats 4000000 in
set_option maxRecDepth 100000 in
theorem m_X6_beginAnew {γ : GX} {n : Nat} {N : Nat} {h : HP} {x_track : Int64} {d_posts : Int32} {d_sees : FN} {d_cold : FN} {d_men : Int32} {d_debts : FN} {d_on : Int32} {d_stove : Int32} {w_hour : Int32} {w_debts : FN} {w_guards : FN} {w_stood : FN} {w_served : FN} {p_next : Int32} {p_known : Int32} {kp_kept : FN} {f_size : Int32} {f_men : FN} {f_hours : FN} {f_asleep : FN} (hH_x : Has n 0 (poB γ 0 x_track) h) (hH_d : Has n 3 (dpB γ 3 d_posts d_sees d_cold d_men d_debts d_on d_stove) h) (hH_w : Has n 11 (wtB γ 11 w_hour w_debts w_guards w_stood w_served) h) (hH_p : Has n 21 (paB γ 21 p_next p_known) h) (hH_kp : Has n 74 (kpB γ 74 kp_kept) h) (hH_f : Has n 75 (fiB γ 75 f_size f_men f_hours f_asleep) h) {z : Int32 × FN × FN × FN × FN × Int32 × FN × Int32} (hf : f_X6_beginAnew N d_debts w_hour w_debts w_guards w_stood w_served p_known kp_kept f_size = some z)  : Ct γ M_X6_beginAnew n h [.ref (gB γ + 0)] (Done none n (put 11 (wtB γ 11 z.1 z.2.1 z.2.2.1 z.2.2.2.1 z.2.2.2.2.1) (put 21 (paB γ 21 p_next z.2.2.2.2.2.1) (put 74 (kpB γ 74 z.2.2.2.2.2.2.1) (put 75 (fiB γ 75 z.2.2.2.2.2.2.2 f_men f_hours f_asleep) h))))) := by
  have hn_w : 11 + 5 ≤ n := hH_w.1
  have hn_p : 21 + 2 ≤ n := hH_p.1
  have hn_kp : 74 + 1 ≤ n := hH_kp.1
  have hn_f : 75 + 4 ≤ n := hH_f.1
  refine Ct.heap (h := (put 11 (wtB γ 11 w_hour w_debts w_guards w_stood w_served) (put 21 (paB γ 21 p_next p_known) (put 74 (kpB γ 74 kp_kept) (put 75 (fiB γ 75 f_size f_men f_hours f_asleep) h))))) ((congrArg (put 11 (wtB γ 11 w_hour w_debts w_guards w_stood w_served)) ((congrArg (put 21 (paB γ 21 p_next p_known)) ((congrArg (put 74 (kpB γ 74 kp_kept)) (put_self hH_f)).trans (put_self hH_kp))).trans (put_self hH_p))).trans (put_self hH_w)).symm ?_
  refine Ct_of_Ev (by decide) (fun h => by cases h) (Nat.le_of_ble_eq_true rfl) ?_
  show Ev γ M_X6_beginAnew (0, 0) n (put 11 (wtB γ 11 w_hour w_debts w_guards w_stood w_served) (put 21 (paB γ 21 p_next p_known) (put 74 (kpB γ 74 kp_kept) (put 75 (fiB γ 75 f_size f_men f_hours f_asleep) h)))) [(0, .ref (gB γ + 0))] 0 [] _
  unfold f_X6_beginAnew at hf
  refine E_aload_n 0 dX6_beginAnew_0 (q := 1) rfl rfl rfl ?_
  have hF1 : Has n 0 (poB γ 0 x_track) (put 11 (wtB γ 11 w_hour w_debts w_guards w_stood w_served) (put 21 (paB γ 21 p_next p_known) (put 74 (kpB γ 74 kp_kept) (put 75 (fiB γ 75 f_size f_men f_hours f_asleep) h)))) := (has_out (has_out (has_out (has_out hH_x (Or.inl (Nat.le_of_ble_eq_true rfl))) (Or.inl (Nat.le_of_ble_eq_true rfl))) (Or.inl (Nat.le_of_ble_eq_true rfl))) (Or.inl (Nat.le_of_ble_eq_true rfl)))
  refine E_get 3 dX6_beginAnew_1 (q := 4) rfl ckX6 (Nat.le_of_ble_eq_true rfl) fl_X6_29 (hF1.at 0 rfl) (hF1.lt 0 (Nat.le_of_ble_eq_true rfl)) rfl ?_
  refine E_aload_n 0 dX6_beginAnew_4 (q := 5) rfl rfl rfl ?_
  refine E_get 1 dX6_beginAnew_5 (q := 8) rfl ckX6 (Nat.le_of_ble_eq_true rfl) fl_X6_19 (hF1.at 0 rfl) (hF1.lt 0 (Nat.le_of_ble_eq_true rfl)) rfl ?_
  obtain ⟨z2, hxz2, hf⟩ := bnd hf
  have hF3 : Has n 3 (dpB γ 3 d_posts d_sees d_cold d_men d_debts d_on d_stove) (put 11 (wtB γ 11 w_hour w_debts w_guards w_stood w_served) (put 21 (paB γ 21 p_next p_known) (put 74 (kpB γ 74 kp_kept) (put 75 (fiB γ 75 f_size f_men f_hours f_asleep) h)))) := (has_out (has_out (has_out (has_out hH_d (Or.inl (Nat.le_of_ble_eq_true rfl))) (Or.inl (Nat.le_of_ble_eq_true rfl))) (Or.inl (Nat.le_of_ble_eq_true rfl))) (Or.inl (Nat.le_of_ble_eq_true rfl)))
  have hF4 : Has n 11 (wtB γ 11 w_hour w_debts w_guards w_stood w_served) (put 11 (wtB γ 11 w_hour w_debts w_guards w_stood w_served) (put 21 (paB γ 21 p_next p_known) (put 74 (kpB γ 74 kp_kept) (put 75 (fiB γ 75 f_size f_men f_hours f_asleep) h)))) := (has_put hn_w)
  refine E_cV (as := [.ref (gB γ + 3)]) (k := 11) (rest := []) (u' := (0, 0)) (st' := []) dX6_beginAnew_8 (q := 11) rfl lkm_X5_begin lkv_X6_267 (Nat.le_of_ble_eq_true rfl) ckX5 (hF4.at 0 rfl) (hF4.lt 0 (Nat.le_of_ble_eq_true rfl)) ⟨Nat.le_refl _, Nat.le_refl _⟩ (Nat.le_of_ble_eq_true rfl) rfl rfl (m_X5_begin (N := N)  (Nat.le_of_ble_eq_true rfl) hF3 hF4 hxz2) rfl rfl rfl ?_
  refine Ev.heap (put_put (k := 11) (cs := (wtB γ 11 w_hour w_debts w_guards w_stood w_served)) (cs' := (wtB γ 11 z2.1 z2.2.1 z2.2.2.1 z2.2.2.2.1 z2.2.2.2.2)) (show (5 : Nat) = 5 from rfl)) ?_
  refine E_aload_n 0 dX6_beginAnew_11 (q := 12) rfl rfl rfl ?_
  have hF6 : Has n 0 (poB γ 0 x_track) (put 11 (wtB γ 11 z2.1 z2.2.1 z2.2.2.1 z2.2.2.2.1 z2.2.2.2.2) (put 21 (paB γ 21 p_next p_known) (put 74 (kpB γ 74 kp_kept) (put 75 (fiB γ 75 f_size f_men f_hours f_asleep) h)))) := (has_out (has_out (has_out (has_out hH_x (Or.inl (Nat.le_of_ble_eq_true rfl))) (Or.inl (Nat.le_of_ble_eq_true rfl))) (Or.inl (Nat.le_of_ble_eq_true rfl))) (Or.inl (Nat.le_of_ble_eq_true rfl)))
  refine E_get 5 dX6_beginAnew_12 (q := 15) rfl ckX6 (Nat.le_of_ble_eq_true rfl) fl_X6_39 (hF6.at 0 rfl) (hF6.lt 0 (Nat.le_of_ble_eq_true rfl)) rfl ?_
  refine E_iconst (x := 0) dX6_beginAnew_15 (q := 16) rfl (by decide) ?_
  have hF7 : Has n 21 (paB γ 21 p_next p_known) (put 11 (wtB γ 11 z2.1 z2.2.1 z2.2.2.1 z2.2.2.2.1 z2.2.2.2.2) (put 21 (paB γ 21 p_next p_known) (put 74 (kpB γ 74 kp_kept) (put 75 (fiB γ 75 f_size f_men f_hours f_asleep) h)))) := (has_out (has_put hn_p) (Or.inr (Nat.le_of_ble_eq_true rfl)))
  refine E_put 2 dX6_beginAnew_16 (q := 19) rfl ckX2 (Nat.le_of_ble_eq_true rfl) fl_X6_130 rfl rfl rfl (hF7.at 0 rfl) (hF7.lt 0 (Nat.le_of_ble_eq_true rfl)) (Nat.le_of_ble_eq_true rfl) ((up_put_out (Or.inr (Nat.le_of_ble_eq_true rfl))).trans (congrArg (put 11 (wtB γ 11 z2.1 z2.2.1 z2.2.2.1 z2.2.2.2.1 z2.2.2.2.2)) (up_put (i := 0) (cs' := (paB γ 21 p_next 0)) (Nat.le_of_ble_eq_true rfl) rfl))) ?_
  refine E_aload_n 0 dX6_beginAnew_19 (q := 20) rfl rfl rfl ?_
  have hF9 : Has n 0 (poB γ 0 x_track) (put 11 (wtB γ 11 z2.1 z2.2.1 z2.2.2.1 z2.2.2.2.1 z2.2.2.2.2) (put 21 (paB γ 21 p_next 0) (put 74 (kpB γ 74 kp_kept) (put 75 (fiB γ 75 f_size f_men f_hours f_asleep) h)))) := (has_out (has_out (has_out (has_out hH_x (Or.inl (Nat.le_of_ble_eq_true rfl))) (Or.inl (Nat.le_of_ble_eq_true rfl))) (Or.inl (Nat.le_of_ble_eq_true rfl))) (Or.inl (Nat.le_of_ble_eq_true rfl)))
  refine E_get 8 dX6_beginAnew_20 (q := 23) rfl ckX6 (Nat.le_of_ble_eq_true rfl) fl_X6_54 (hF9.at 0 rfl) (hF9.lt 0 (Nat.le_of_ble_eq_true rfl)) rfl ?_
  refine E_iconst (x := 0) dX6_beginAnew_23 (q := 24) rfl (by decide) ?_
  have hF10 : Has n 75 (fiB γ 75 f_size f_men f_hours f_asleep) (put 11 (wtB γ 11 z2.1 z2.2.1 z2.2.2.1 z2.2.2.2.1 z2.2.2.2.2) (put 21 (paB γ 21 p_next 0) (put 74 (kpB γ 74 kp_kept) (put 75 (fiB γ 75 f_size f_men f_hours f_asleep) h)))) := (has_out (has_out (has_out (has_put hn_f) (Or.inr (Nat.le_of_ble_eq_true rfl))) (Or.inr (Nat.le_of_ble_eq_true rfl))) (Or.inr (Nat.le_of_ble_eq_true rfl)))
  refine E_put 0 dX6_beginAnew_24 (q := 27) rfl ckX1 (Nat.le_of_ble_eq_true rfl) fl_X6_218 rfl rfl rfl (hF10.at 0 rfl) (hF10.lt 0 (Nat.le_of_ble_eq_true rfl)) (Nat.le_of_ble_eq_true rfl) ((up_put_out (Or.inr (Nat.le_of_ble_eq_true rfl))).trans (congrArg (put 11 (wtB γ 11 z2.1 z2.2.1 z2.2.2.1 z2.2.2.2.1 z2.2.2.2.2)) ((up_put_out (Or.inr (Nat.le_of_ble_eq_true rfl))).trans (congrArg (put 21 (paB γ 21 p_next 0)) ((up_put_out (Or.inr (Nat.le_of_ble_eq_true rfl))).trans (congrArg (put 74 (kpB γ 74 kp_kept)) (up_put (i := 0) (cs' := (fiB γ 75 0 f_men f_hours f_asleep)) (Nat.le_of_ble_eq_true rfl) rfl))))))) ?_
  refine E_iconst (x := 0) dX6_beginAnew_27 (q := 28) rfl (by decide) ?_
  refine E_istore_n [(1, .int 0), (0, .ref (gB γ + 0))] dX6_beginAnew_28 (q := 29) rfl rfl (Nat.le_of_ble_eq_true rfl) rfl ?_
  obtain ⟨t18, hxt18, hf⟩ := bnd hf
  refine E_sub [1, 0] rfl ?_
  refine L_X6_beginAnew_1 hH_x hH_d hn_w hn_p hn_kp hn_f hxt18 ?_
  show Ev γ M_X6_beginAnew _ n (put 11 (wtB γ 11 z2.1 z2.2.1 z2.2.2.1 z2.2.2.2.1 z2.2.2.2.2) (put 21 (paB γ 21 p_next 0) (put 74 (kpB γ 74 t18) (put 75 (fiB γ 75 0 f_men f_hours f_asleep) h)))) [] 47 [] _
  obtain rfl := Option.some.inj hf
  exact E_vret dX6_beginAnew_47 rfl ⟨rfl, rfl, rfl⟩

-- PostRelief.canBeLeft(I)Z
def f_X6_canBeLeft (N : Nat) (a1 : Int32) (d_posts : Int32) (d_sees : FN) : Option (Int32) :=
  ((f_X0_allPosts N d_posts).bind fun z1 => ((f_X0_watchedBy N (z1 &&& (a1 ^^^ (-1))) d_posts d_sees).bind fun z2 => ((f_X0_allPosts N d_posts).bind fun z3 => (if z2 = z3 then some 1 else some 0))))
set_option maxHeartbeats 4000000 in
set_option maxRecDepth 100000 in
theorem m_X6_canBeLeft {γ : GX} {n : Nat} {N : Nat} {h : HP} {a1 : Int32} {x_track : Int64} {d_posts : Int32} {d_sees : FN} {d_cold : FN} {d_men : Int32} {d_debts : FN} {d_on : Int32} {d_stove : Int32} (hH_x : Has n 0 (poB γ 0 x_track) h) (hH_d : Has n 3 (dpB γ 3 d_posts d_sees d_cold d_men d_debts d_on d_stove) h) {z : Int32} (hf : f_X6_canBeLeft N a1 d_posts d_sees = some z)  : Ct γ M_X6_canBeLeft n h [.ref (gB γ + 0), .int a1] (Done (some (.int z)) n h) := by
  refine Ct_of_Ev (by decide) (fun h => by cases h) (Nat.le_of_ble_eq_true rfl) ?_
  show Ev γ M_X6_canBeLeft (0, 0) n h [(0, .ref (gB γ + 0)), (1, .int a1)] 0 [] _
  unfold f_X6_canBeLeft at hf
  refine E_aload_n 0 dX6_canBeLeft_0 (q := 1) rfl rfl rfl ?_
  refine E_get 1 dX6_canBeLeft_1 (q := 4) rfl ckX6 (Nat.le_of_ble_eq_true rfl) fl_X6_19 (hH_x.at 0 rfl) (hH_x.lt 0 (Nat.le_of_ble_eq_true rfl)) rfl ?_
  obtain ⟨z1, hxz1, hf⟩ := bnd hf
  refine E_cV (as := []) (k := 3) (rest := []) (u' := (0, 0)) (st' := [.int z1]) dX6_canBeLeft_4 (q := 7) rfl lkm_X0_allPosts lkv_X6_190 (Nat.le_of_ble_eq_true rfl) ckX0 (hH_d.at 0 rfl) (hH_d.lt 0 (Nat.le_of_ble_eq_true rfl)) ⟨Nat.le_refl _, Nat.le_refl _⟩ (Nat.le_of_ble_eq_true rfl) rfl rfl (m_X0_allPosts (N := N)  hH_d hxz1) rfl rfl rfl ?_
  refine E_iload_n 1 dX6_canBeLeft_7 (q := 8) rfl rfl rfl ?_
  refine E_iconst (x := (-1)) dX6_canBeLeft_8 (q := 9) rfl (by decide) ?_
  refine E_ixor dX6_canBeLeft_9 (q := 10) rfl ?_
  refine E_iand dX6_canBeLeft_10 (q := 11) rfl ?_
  refine E_istore_n [(2, .int (z1 &&& (a1 ^^^ (-1)))), (0, .ref (gB γ + 0)), (1, .int a1)] dX6_canBeLeft_11 (q := 12) rfl rfl (Nat.le_of_ble_eq_true rfl) rfl ?_
  refine E_aload_n 1 dX6_canBeLeft_12 (q := 13) rfl rfl rfl ?_
  refine E_get 1 dX6_canBeLeft_13 (q := 16) rfl ckX6 (Nat.le_of_ble_eq_true rfl) fl_X6_19 (hH_x.at 0 rfl) (hH_x.lt 0 (Nat.le_of_ble_eq_true rfl)) rfl ?_
  refine E_iload_n 0 dX6_canBeLeft_16 (q := 17) rfl rfl rfl ?_
  obtain ⟨z2, hxz2, hf⟩ := bnd hf
  refine E_cV (as := [.int (z1 &&& (a1 ^^^ (-1)))]) (k := 3) (rest := []) (u' := (0, 0)) (st' := [.int z2]) dX6_canBeLeft_17 (q := 20) rfl lkm_X0_watchedBy lkv_X6_199 (Nat.le_of_ble_eq_true rfl) ckX0 (hH_d.at 0 rfl) (hH_d.lt 0 (Nat.le_of_ble_eq_true rfl)) ⟨Nat.le_refl _, Nat.le_refl _⟩ (Nat.le_of_ble_eq_true rfl) rfl rfl (m_X0_watchedBy (N := N)  hH_d hxz2) rfl rfl rfl ?_
  refine E_aload_n 1 dX6_canBeLeft_20 (q := 21) rfl rfl rfl ?_
  refine E_get 1 dX6_canBeLeft_21 (q := 24) rfl ckX6 (Nat.le_of_ble_eq_true rfl) fl_X6_19 (hH_x.at 0 rfl) (hH_x.lt 0 (Nat.le_of_ble_eq_true rfl)) rfl ?_
  obtain ⟨z3, hxz3, hf⟩ := bnd hf
  refine E_cV (as := []) (k := 3) (rest := [.int z2]) (u' := (0, 0)) (st' := [.int z3, .int z2]) dX6_canBeLeft_24 (q := 27) rfl lkm_X0_allPosts lkv_X6_190 (Nat.le_of_ble_eq_true rfl) ckX0 (hH_d.at 0 rfl) (hH_d.lt 0 (Nat.le_of_ble_eq_true rfl)) ⟨Nat.le_refl _, Nat.le_refl _⟩ (Nat.le_of_ble_eq_true rfl) rfl rfl (m_X0_allPosts (N := N)  hH_d hxz3) rfl rfl rfl ?_
  refine E_icmp_ne dX6_canBeLeft_27 (t := 34) (by decide) (q := 30) rfl (fun c4 => ?_) (fun c4 => ?_)
  · have hf := if_f c4 hf
    refine E_iconst (x := 0) dX6_canBeLeft_34 (q := 35) rfl (by decide) ?_
    obtain rfl := Option.some.inj hf
    exact E_zret dX6_canBeLeft_35 rfl rfl ⟨rfl, rfl, rfl⟩
  · have hf := if_t c4 hf
    refine E_iconst (x := 1) dX6_canBeLeft_30 (q := 31) rfl (by decide) ?_
    refine E_goto (q := 35) dX6_canBeLeft_31 (by decide) ?_
    obtain rfl := Option.some.inj hf
    exact E_zret dX6_canBeLeft_35 rfl rfl ⟨rfl, rfl, rfl⟩

-- PostRelief.seenOnlyFrom(I)I
def b_X6_seenOnlyFrom_1 (N : Nat) (p1 : Int32) (d_posts : Int32) (d_sees : FN) (v2 : Int32) (v3 : Int32) : Option ((Int32 × Int32) ⊕ (Int32)) :=
  (if d_posts ≤ v3 then some (.inr v2) else (if v3 = p1 then some (.inl (v2, (v3 + 1))) else ((f_X0_seenFrom N v3 d_posts d_sees).bind fun z5 => some (.inl ((v2 &&& (z5 ^^^ (-1))), (v3 + 1))))))
def f_X6_seenOnlyFrom (N : Nat) (a1 : Int32) (d_posts : Int32) (d_sees : FN) : Option (Int32) :=
  ((f_X0_seenFrom N a1 d_posts d_sees).bind fun z1 => ((lp (fun s => b_X6_seenOnlyFrom_1 N a1 d_posts d_sees s.1 s.2) N (z1, 0)).bind fun t6 => some t6))
set_option maxHeartbeats 4000000 in
set_option maxRecDepth 100000 in
theorem L_X6_seenOnlyFrom_1 {γ : GX} {n : Nat} {h : HP} {Ψ : PS} {N : Nat} {p1 : Int32} {x_track : Int64} {d_posts : Int32} {d_sees : FN} {d_cold : FN} {d_men : Int32} {d_debts : FN} {d_on : Int32} {d_stove : Int32} (hH_x : Has n 0 (poB γ 0 x_track) h) (hH_d : Has n 3 (dpB γ 3 d_posts d_sees d_cold d_men d_debts d_on d_stove) h) {s0 : Int32 × Int32} {t : Int32} (hf : lp (fun s => b_X6_seenOnlyFrom_1 N p1 d_posts d_sees s.1 s.2) N s0 = some t) (K : Ev γ M_X6_seenOnlyFrom (0, 0) n h [(2, .int t)] 46 [] Ψ) : Ev γ M_X6_seenOnlyFrom (0, 0) n h [(0, .ref (gB γ + 0)), (1, .int p1), (2, .int s0.1), (3, .int s0.2)] 11 [] Ψ := by
  refine E_lp (P := fun s => Ev γ M_X6_seenOnlyFrom (0, 0) n h [(0, .ref (gB γ + 0)), (1, .int p1), (2, .int s.1), (3, .int s.2)] 11 [] Ψ) (K := fun t => Ev γ M_X6_seenOnlyFrom (0, 0) n h [(2, .int t)] 46 [] Ψ) ?_ N s0 t hf K
  intro s r hf hP hK
  obtain ⟨v2, v3⟩ := s
  change b_X6_seenOnlyFrom_1 N p1 d_posts d_sees v2 v3 = some r at hf
  unfold b_X6_seenOnlyFrom_1 at hf
  show Ev γ M_X6_seenOnlyFrom (0, 0) n h [(0, .ref (gB γ + 0)), (1, .int p1), (2, .int v2), (3, .int v3)] 11 [] Ψ
  refine E_iload_n 3 dX6_seenOnlyFrom_11 (q := 12) rfl rfl rfl ?_
  refine E_aload_n 0 dX6_seenOnlyFrom_12 (q := 13) rfl rfl rfl ?_
  refine E_get 1 dX6_seenOnlyFrom_13 (q := 16) rfl ckX6 (Nat.le_of_ble_eq_true rfl) fl_X6_19 (hH_x.at 0 rfl) (hH_x.lt 0 (Nat.le_of_ble_eq_true rfl)) rfl ?_
  refine E_get 0 dX6_seenOnlyFrom_16 (q := 19) rfl ckX0 (Nat.le_of_ble_eq_true rfl) fl_X6_171 (hH_d.at 0 rfl) (hH_d.lt 0 (Nat.le_of_ble_eq_true rfl)) rfl ?_
  refine E_icmp_ge dX6_seenOnlyFrom_19 (t := 46) (by decide) (q := 22) rfl (fun c3 => ?_) (fun c3 => ?_)
  · have hf := if_t c3 hf
    exact E_sub [2] rfl (hK _ (Option.some.inj hf).symm)
  · have hf := if_f c3 hf
    refine E_iload_n 3 dX6_seenOnlyFrom_22 (q := 23) rfl rfl rfl ?_
    refine E_iload_n 1 dX6_seenOnlyFrom_23 (q := 24) rfl rfl rfl ?_
    refine E_icmp_eq dX6_seenOnlyFrom_24 (t := 40) (by decide) (q := 27) rfl (fun c4 => ?_) (fun c4 => ?_)
    · have hf := if_t c4 hf
      refine E_iinc 3 [(3, .int (v3 + 1)), (0, .ref (gB γ + 0)), (1, .int p1), (2, .int v2)] dX6_seenOnlyFrom_40 (q := 43) rfl rfl rfl (Nat.le_of_ble_eq_true rfl) rfl ?_
      refine E_goto (q := 11) dX6_seenOnlyFrom_43 (by decide) ?_
      exact E_sub [1, 2, 3, 0] rfl (hP _ (Option.some.inj hf).symm)
    · have hf := if_f c4 hf
      refine E_iload_n 2 dX6_seenOnlyFrom_27 (q := 28) rfl rfl rfl ?_
      refine E_aload_n 0 dX6_seenOnlyFrom_28 (q := 29) rfl rfl rfl ?_
      refine E_get 1 dX6_seenOnlyFrom_29 (q := 32) rfl ckX6 (Nat.le_of_ble_eq_true rfl) fl_X6_19 (hH_x.at 0 rfl) (hH_x.lt 0 (Nat.le_of_ble_eq_true rfl)) rfl ?_
      refine E_iload_n 3 dX6_seenOnlyFrom_32 (q := 33) rfl rfl rfl ?_
      obtain ⟨z5, hxz5, hf⟩ := bnd hf
      refine E_cV (as := [.int v3]) (k := 3) (rest := [.int v2]) (u' := (0, 0)) (st' := [.int z5, .int v2]) dX6_seenOnlyFrom_33 (q := 36) rfl lkm_X0_seenFrom lkv_X6_91 (Nat.le_of_ble_eq_true rfl) ckX0 (hH_d.at 0 rfl) (hH_d.lt 0 (Nat.le_of_ble_eq_true rfl)) ⟨Nat.le_refl _, Nat.le_refl _⟩ (Nat.le_of_ble_eq_true rfl) rfl rfl (m_X0_seenFrom (N := N)  hH_d hxz5) rfl rfl rfl ?_
      refine E_iconst (x := (-1)) dX6_seenOnlyFrom_36 (q := 37) rfl (by decide) ?_
      refine E_ixor dX6_seenOnlyFrom_37 (q := 38) rfl ?_
      refine E_iand dX6_seenOnlyFrom_38 (q := 39) rfl ?_
      refine E_istore_n [(2, .int (v2 &&& (z5 ^^^ (-1)))), (0, .ref (gB γ + 0)), (1, .int p1), (3, .int v3)] dX6_seenOnlyFrom_39 (q := 40) rfl rfl (Nat.le_of_ble_eq_true rfl) rfl ?_
      refine E_iinc 3 [(3, .int (v3 + 1)), (2, .int (v2 &&& (z5 ^^^ (-1)))), (0, .ref (gB γ + 0)), (1, .int p1)] dX6_seenOnlyFrom_40 (q := 43) rfl rfl rfl (Nat.le_of_ble_eq_true rfl) rfl ?_
      refine E_goto (q := 11) dX6_seenOnlyFrom_43 (by decide) ?_
      exact E_sub [2, 3, 1, 0] rfl (hP _ (Option.some.inj hf).symm)
set_option maxHeartbeats 4000000 in
set_option maxRecDepth 100000 in
theorem m_X6_seenOnlyFrom {γ : GX} {n : Nat} {N : Nat} {h : HP} {a1 : Int32} {x_track : Int64} {d_posts : Int32} {d_sees : FN} {d_cold : FN} {d_men : Int32} {d_debts : FN} {d_on : Int32} {d_stove : Int32} (hH_x : Has n 0 (poB γ 0 x_track) h) (hH_d : Has n 3 (dpB γ 3 d_posts d_sees d_cold d_men d_debts d_on d_stove) h) {z : Int32} (hf : f_X6_seenOnlyFrom N a1 d_posts d_sees = some z)  : Ct γ M_X6_seenOnlyFrom n h [.ref (gB γ + 0), .int a1] (Done (some (.int z)) n h) := by
  refine Ct_of_Ev (by decide) (fun h => by cases h) (Nat.le_of_ble_eq_true rfl) ?_
  show Ev γ M_X6_seenOnlyFrom (0, 0) n h [(0, .ref (gB γ + 0)), (1, .int a1)] 0 [] _
  unfold f_X6_seenOnlyFrom at hf
  refine E_aload_n 0 dX6_seenOnlyFrom_0 (q := 1) rfl rfl rfl ?_
  refine E_get 1 dX6_seenOnlyFrom_1 (q := 4) rfl ckX6 (Nat.le_of_ble_eq_true rfl) fl_X6_19 (hH_x.at 0 rfl) (hH_x.lt 0 (Nat.le_of_ble_eq_true rfl)) rfl ?_
  refine E_iload_n 1 dX6_seenOnlyFrom_4 (q := 5) rfl rfl rfl ?_
  obtain ⟨z1, hxz1, hf⟩ := bnd hf
  refine E_cV (as := [.int a1]) (k := 3) (rest := []) (u' := (0, 0)) (st' := [.int z1]) dX6_seenOnlyFrom_5 (q := 8) rfl lkm_X0_seenFrom lkv_X6_91 (Nat.le_of_ble_eq_true rfl) ckX0 (hH_d.at 0 rfl) (hH_d.lt 0 (Nat.le_of_ble_eq_true rfl)) ⟨Nat.le_refl _, Nat.le_refl _⟩ (Nat.le_of_ble_eq_true rfl) rfl rfl (m_X0_seenFrom (N := N)  hH_d hxz1) rfl rfl rfl ?_
  refine E_istore_n [(2, .int z1), (0, .ref (gB γ + 0)), (1, .int a1)] dX6_seenOnlyFrom_8 (q := 9) rfl rfl (Nat.le_of_ble_eq_true rfl) rfl ?_
  refine E_iconst (x := 0) dX6_seenOnlyFrom_9 (q := 10) rfl (by decide) ?_
  refine E_istore_n [(3, .int 0), (2, .int z1), (0, .ref (gB γ + 0)), (1, .int a1)] dX6_seenOnlyFrom_10 (q := 11) rfl rfl (Nat.le_of_ble_eq_true rfl) rfl ?_
  obtain ⟨t6, hxt6, hf⟩ := bnd hf
  refine E_sub [2, 3, 1, 0] rfl ?_
  refine L_X6_seenOnlyFrom_1 hH_x hH_d hxt6 ?_
  show Ev γ M_X6_seenOnlyFrom _ n h [(2, .int t6)] 46 [] _
  refine E_iload_n 0 dX6_seenOnlyFrom_46 (q := 47) rfl rfl rfl ?_
  obtain rfl := Option.some.inj hf
  exact E_iret dX6_seenOnlyFrom_47 rfl ⟨rfl, rfl, rfl⟩

-- PostRelief.hoursAsleep(II)I
def b_X6_hoursAsleep_1 (N : Nat) (p1 : Int32) (d_cold : FN) (w_hour : Int32) (v3 : Int32) (v4 : Int32) (v5 : Int32) : Option ((Int32 × Int32 × Int32) ⊕ (Int32)) :=
  (if 24 < v5 then some (.inr v3) else (if v4 < 40 then ((f_X0_burden N p1 (w_hour + v5) d_cold).bind fun z5 => some (.inl (v3, (if 60 < (v4 + z5) then 60 else (v4 + z5)), (v5 + 1)))) else ((f_X0_burden N p1 (w_hour + v5) d_cold).bind fun z6 => some (.inl ((v3 ||| ((1 : Int32) <<< (v5 &&& 31))), (if 60 < (v4 + z6) then 60 else (v4 + z6)), (v5 + 1))))))
def f_X6_hoursAsleep (N : Nat) (a1 : Int32) (a2 : Int32) (d_cold : FN) (w_hour : Int32) : Option (Int32) :=
  (if a1 = (-9) then some 0 else ((lp (fun s => b_X6_hoursAsleep_1 N a1 d_cold w_hour s.1 s.2.1 s.2.2) N (0, a2, 0)).bind fun t7 => some t7))
set_option maxHeartbeats 4000000 in
set_option maxRecDepth 100000 in
theorem L_X6_hoursAsleep_1 {γ : GX} {n : Nat} {h : HP} {Ψ : PS} {N : Nat} {p1 : Int32} {x_track : Int64} {d_posts : Int32} {d_sees : FN} {d_cold : FN} {d_men : Int32} {d_debts : FN} {d_on : Int32} {d_stove : Int32} {w_hour : Int32} {w_debts : FN} {w_guards : FN} {w_stood : FN} {w_served : FN} (hH_x : Has n 0 (poB γ 0 x_track) h) (hH_d : Has n 3 (dpB γ 3 d_posts d_sees d_cold d_men d_debts d_on d_stove) h) (hH_w : Has n 11 (wtB γ 11 w_hour w_debts w_guards w_stood w_served) h) {s0 : Int32 × Int32 × Int32} {t : Int32} (hf : lp (fun s => b_X6_hoursAsleep_1 N p1 d_cold w_hour s.1 s.2.1 s.2.2) N s0 = some t) (K : Ev γ M_X6_hoursAsleep (0, 0) n h [(3, .int t)] 71 [] Ψ) : Ev γ M_X6_hoursAsleep (0, 0) n h [(0, .ref (gB γ + 0)), (1, .int p1), (3, .int s0.1), (4, .int s0.2.1), (5, .int s0.2.2)] 16 [] Ψ := by
  refine E_lp (P := fun s => Ev γ M_X6_hoursAsleep (0, 0) n h [(0, .ref (gB γ + 0)), (1, .int p1), (3, .int s.1), (4, .int s.2.1), (5, .int s.2.2)] 16 [] Ψ) (K := fun t => Ev γ M_X6_hoursAsleep (0, 0) n h [(3, .int t)] 71 [] Ψ) ?_ N s0 t hf K
  intro s r hf hP hK
  obtain ⟨v3, v4, v5⟩ := s
  change b_X6_hoursAsleep_1 N p1 d_cold w_hour v3 v4 v5 = some r at hf
  unfold b_X6_hoursAsleep_1 at hf
  show Ev γ M_X6_hoursAsleep (0, 0) n h [(0, .ref (gB γ + 0)), (1, .int p1), (3, .int v3), (4, .int v4), (5, .int v5)] 16 [] Ψ
  refine E_iload 4 dX6_hoursAsleep_16 (q := 18) rfl rfl ?_
  refine E_bipush (x := 24) dX6_hoursAsleep_18 (q := 20) rfl (by decide) ?_
  refine E_icmp_gt dX6_hoursAsleep_20 (t := 71) (by decide) (q := 23) rfl (fun c3 => ?_) (fun c3 => ?_)
  · have hf := if_t c3 hf
    exact E_sub [2] rfl (hK _ (Option.some.inj hf).symm)
  · have hf := if_f c3 hf
    refine E_iload 3 dX6_hoursAsleep_23 (q := 25) rfl rfl ?_
    refine E_bipush (x := 40) dX6_hoursAsleep_25 (q := 27) rfl (by decide) ?_
    refine E_icmp_lt dX6_hoursAsleep_27 (t := 37) (by decide) (q := 30) rfl (fun c4 => ?_) (fun c4 => ?_)
    · have hf := if_t c4 hf
      refine E_bipush (x := 60) dX6_hoursAsleep_37 (q := 39) rfl (by decide) ?_
      refine E_iload 3 dX6_hoursAsleep_39 (q := 41) rfl rfl ?_
      refine E_aload_n 0 dX6_hoursAsleep_41 (q := 42) rfl rfl rfl ?_
      refine E_get 1 dX6_hoursAsleep_42 (q := 45) rfl ckX6 (Nat.le_of_ble_eq_true rfl) fl_X6_19 (hH_x.at 0 rfl) (hH_x.lt 0 (Nat.le_of_ble_eq_true rfl)) rfl ?_
      refine E_iload_n 1 dX6_hoursAsleep_45 (q := 46) rfl rfl rfl ?_
      refine E_aload_n 0 dX6_hoursAsleep_46 (q := 47) rfl rfl rfl ?_
      refine E_get 3 dX6_hoursAsleep_47 (q := 50) rfl ckX6 (Nat.le_of_ble_eq_true rfl) fl_X6_29 (hH_x.at 0 rfl) (hH_x.lt 0 (Nat.le_of_ble_eq_true rfl)) rfl ?_
      refine E_get 0 dX6_hoursAsleep_50 (q := 53) rfl ckX5 (Nat.le_of_ble_eq_true rfl) fl_X6_117 (hH_w.at 0 rfl) (hH_w.lt 0 (Nat.le_of_ble_eq_true rfl)) rfl ?_
      refine E_iload 4 dX6_hoursAsleep_53 (q := 55) rfl rfl ?_
      refine E_iadd dX6_hoursAsleep_55 (q := 56) rfl ?_
      obtain ⟨z5, hxz5, hf⟩ := bnd hf
      refine E_cV (as := [.int p1, .int (w_hour + v5)]) (k := 3) (rest := [.int v4, .int 60]) (u' := (0, 0)) (st' := [.int z5, .int v4, .int 60]) dX6_hoursAsleep_56 (q := 59) rfl lkm_X0_burden lkv_X6_273 (Nat.le_of_ble_eq_true rfl) ckX0 (hH_d.at 0 rfl) (hH_d.lt 0 (Nat.le_of_ble_eq_true rfl)) ⟨Nat.le_refl _, Nat.le_refl _⟩ (Nat.le_of_ble_eq_true rfl) rfl rfl (m_X0_burden (N := N)  hH_d hxz5) rfl rfl rfl ?_
      refine E_iadd dX6_hoursAsleep_59 (q := 60) rfl ?_
      refine E_min dX6_hoursAsleep_60 (q := 63) rfl lkmin_X6_235 st_min in_math co_min (Nat.le_of_ble_eq_true rfl) (Nat.le_of_ble_eq_true rfl) ?_
      refine E_istore [(4, .int (if 60 < (v4 + z5) then 60 else (v4 + z5))), (0, .ref (gB γ + 0)), (1, .int p1), (3, .int v3), (5, .int v5)] dX6_hoursAsleep_63 (q := 65) rfl (Nat.le_of_ble_eq_true rfl) rfl ?_
      refine E_iinc 4 [(5, .int (v5 + 1)), (4, .int (if 60 < (v4 + z5) then 60 else (v4 + z5))), (0, .ref (gB γ + 0)), (1, .int p1), (3, .int v3)] dX6_hoursAsleep_65 (q := 68) rfl rfl rfl (Nat.le_of_ble_eq_true rfl) rfl ?_
      refine E_goto (q := 16) dX6_hoursAsleep_68 (by decide) ?_
      exact E_sub [2, 3, 4, 1, 0] rfl (hP _ (Option.some.inj hf).symm)
    · have hf := if_f c4 hf
      refine E_iload_n 2 dX6_hoursAsleep_30 (q := 31) rfl rfl rfl ?_
      refine E_iconst (x := 1) dX6_hoursAsleep_31 (q := 32) rfl (by decide) ?_
      refine E_iload 4 dX6_hoursAsleep_32 (q := 34) rfl rfl ?_
      refine E_ishl dX6_hoursAsleep_34 (q := 35) rfl ?_
      refine E_ior dX6_hoursAsleep_35 (q := 36) rfl ?_
      refine E_istore_n [(3, .int (v3 ||| ((1 : Int32) <<< (v5 &&& 31)))), (0, .ref (gB γ + 0)), (1, .int p1), (4, .int v4), (5, .int v5)] dX6_hoursAsleep_36 (q := 37) rfl rfl (Nat.le_of_ble_eq_true rfl) rfl ?_
      refine E_bipush (x := 60) dX6_hoursAsleep_37 (q := 39) rfl (by decide) ?_
      refine E_iload 3 dX6_hoursAsleep_39 (q := 41) rfl rfl ?_
      refine E_aload_n 1 dX6_hoursAsleep_41 (q := 42) rfl rfl rfl ?_
      refine E_get 1 dX6_hoursAsleep_42 (q := 45) rfl ckX6 (Nat.le_of_ble_eq_true rfl) fl_X6_19 (hH_x.at 0 rfl) (hH_x.lt 0 (Nat.le_of_ble_eq_true rfl)) rfl ?_
      refine E_iload_n 2 dX6_hoursAsleep_45 (q := 46) rfl rfl rfl ?_
      refine E_aload_n 1 dX6_hoursAsleep_46 (q := 47) rfl rfl rfl ?_
      refine E_get 3 dX6_hoursAsleep_47 (q := 50) rfl ckX6 (Nat.le_of_ble_eq_true rfl) fl_X6_29 (hH_x.at 0 rfl) (hH_x.lt 0 (Nat.le_of_ble_eq_true rfl)) rfl ?_
      refine E_get 0 dX6_hoursAsleep_50 (q := 53) rfl ckX5 (Nat.le_of_ble_eq_true rfl) fl_X6_117 (hH_w.at 0 rfl) (hH_w.lt 0 (Nat.le_of_ble_eq_true rfl)) rfl ?_
      refine E_iload 4 dX6_hoursAsleep_53 (q := 55) rfl rfl ?_
      refine E_iadd dX6_hoursAsleep_55 (q := 56) rfl ?_
      obtain ⟨z6, hxz6, hf⟩ := bnd hf
      refine E_cV (as := [.int p1, .int (w_hour + v5)]) (k := 3) (rest := [.int v4, .int 60]) (u' := (0, 0)) (st' := [.int z6, .int v4, .int 60]) dX6_hoursAsleep_56 (q := 59) rfl lkm_X0_burden lkv_X6_273 (Nat.le_of_ble_eq_true rfl) ckX0 (hH_d.at 0 rfl) (hH_d.lt 0 (Nat.le_of_ble_eq_true rfl)) ⟨Nat.le_refl _, Nat.le_refl _⟩ (Nat.le_of_ble_eq_true rfl) rfl rfl (m_X0_burden (N := N)  hH_d hxz6) rfl rfl rfl ?_
      refine E_iadd dX6_hoursAsleep_59 (q := 60) rfl ?_
      refine E_min dX6_hoursAsleep_60 (q := 63) rfl lkmin_X6_235 st_min in_math co_min (Nat.le_of_ble_eq_true rfl) (Nat.le_of_ble_eq_true rfl) ?_
      refine E_istore [(4, .int (if 60 < (v4 + z6) then 60 else (v4 + z6))), (3, .int (v3 ||| ((1 : Int32) <<< (v5 &&& 31)))), (0, .ref (gB γ + 0)), (1, .int p1), (5, .int v5)] dX6_hoursAsleep_63 (q := 65) rfl (Nat.le_of_ble_eq_true rfl) rfl ?_
      refine E_iinc 4 [(5, .int (v5 + 1)), (4, .int (if 60 < (v4 + z6) then 60 else (v4 + z6))), (3, .int (v3 ||| ((1 : Int32) <<< (v5 &&& 31)))), (0, .ref (gB γ + 0)), (1, .int p1)] dX6_hoursAsleep_65 (q := 68) rfl rfl rfl (Nat.le_of_ble_eq_true rfl) rfl ?_
      refine E_goto (q := 16) dX6_hoursAsleep_68 (by decide) ?_
      exact E_sub [3, 4, 2, 1, 0] rfl (hP _ (Option.some.inj hf).symm)
set_option maxHeartbeats 4000000 in
set_option maxRecDepth 100000 in
theorem m_X6_hoursAsleep {γ : GX} {n : Nat} {N : Nat} {h : HP} {a1 : Int32} {a2 : Int32} {x_track : Int64} {d_posts : Int32} {d_sees : FN} {d_cold : FN} {d_men : Int32} {d_debts : FN} {d_on : Int32} {d_stove : Int32} {w_hour : Int32} {w_debts : FN} {w_guards : FN} {w_stood : FN} {w_served : FN} (hH_x : Has n 0 (poB γ 0 x_track) h) (hH_d : Has n 3 (dpB γ 3 d_posts d_sees d_cold d_men d_debts d_on d_stove) h) (hH_w : Has n 11 (wtB γ 11 w_hour w_debts w_guards w_stood w_served) h) {z : Int32} (hf : f_X6_hoursAsleep N a1 a2 d_cold w_hour = some z)  : Ct γ M_X6_hoursAsleep n h [.ref (gB γ + 0), .int a1, .int a2] (Done (some (.int z)) n h) := by
  refine Ct_of_Ev (by decide) (fun h => by cases h) (Nat.le_of_ble_eq_true rfl) ?_
  show Ev γ M_X6_hoursAsleep (0, 0) n h [(0, .ref (gB γ + 0)), (1, .int a1), (2, .int a2)] 0 [] _
  unfold f_X6_hoursAsleep at hf
  refine E_iload_n 1 dX6_hoursAsleep_0 (q := 1) rfl rfl rfl ?_
  refine E_bipush (x := (-9)) dX6_hoursAsleep_1 (q := 3) rfl (by decide) ?_
  refine E_icmp_ne dX6_hoursAsleep_3 (t := 8) (by decide) (q := 6) rfl (fun c1 => ?_) (fun c1 => ?_)
  · have hf := if_f c1 hf
    refine E_iconst (x := 0) dX6_hoursAsleep_8 (q := 9) rfl (by decide) ?_
    refine E_istore_n [(3, .int 0), (0, .ref (gB γ + 0)), (1, .int a1), (2, .int a2)] dX6_hoursAsleep_9 (q := 10) rfl rfl (Nat.le_of_ble_eq_true rfl) rfl ?_
    refine E_iload_n 3 dX6_hoursAsleep_10 (q := 11) rfl rfl rfl ?_
    refine E_istore [(4, .int a2), (3, .int 0), (0, .ref (gB γ + 0)), (1, .int a1), (2, .int a2)] dX6_hoursAsleep_11 (q := 13) rfl (Nat.le_of_ble_eq_true rfl) rfl ?_
    refine E_iconst (x := 0) dX6_hoursAsleep_13 (q := 14) rfl (by decide) ?_
    refine E_istore [(5, .int 0), (4, .int a2), (3, .int 0), (0, .ref (gB γ + 0)), (1, .int a1), (2, .int a2)] dX6_hoursAsleep_14 (q := 16) rfl (Nat.le_of_ble_eq_true rfl) rfl ?_
    obtain ⟨t7, hxt7, hf⟩ := bnd hf
    refine E_sub [3, 4, 2, 1, 0] rfl ?_
    refine L_X6_hoursAsleep_1 hH_x hH_d hH_w hxt7 ?_
    show Ev γ M_X6_hoursAsleep _ n h [(3, .int t7)] 71 [] _
    refine E_iload_n 0 dX6_hoursAsleep_71 (q := 72) rfl rfl rfl ?_
    obtain rfl := Option.some.inj hf
    exact E_iret dX6_hoursAsleep_72 rfl ⟨rfl, rfl, rfl⟩
  · have hf := if_t c1 hf
    refine E_iconst (x := 0) dX6_hoursAsleep_6 (q := 7) rfl (by decide) ?_
    obtain rfl := Option.some.inj hf
    exact E_iret dX6_hoursAsleep_7 rfl ⟨rfl, rfl, rfl⟩

-- PostRelief.rateOfPost(I)I
def f_X6_rateOfPost (N : Nat) (a1 : Int32) (x_track : Int64) (d_cold : FN) : Option (Int32 × Int64) :=
  (if ix a1 5 = true then some ((d_cold (ci a1)), (x_track + 1)) else none)
set_option maxHeartbeats 4000000 in
set_option maxRecDepth 100000 in
theorem m_X6_rateOfPost {γ : GX} {n : Nat} {N : Nat} {h : HP} {a1 : Int32} {x_track : Int64} {d_posts : Int32} {d_sees : FN} {d_cold : FN} {d_men : Int32} {d_debts : FN} {d_on : Int32} {d_stove : Int32} (hH_x : Has n 0 (poB γ 0 x_track) h) (hH_d : Has n 3 (dpB γ 3 d_posts d_sees d_cold d_men d_debts d_on d_stove) h) {z : Int32 × Int64} (hf : f_X6_rateOfPost N a1 x_track d_cold = some z)  : Ct γ M_X6_rateOfPost n h [.ref (gB γ + 0), .int a1] (Done (some (.int z.1)) n (put 0 (poB γ 0 z.2) h)) := by
  have hn_x : 0 + 1 ≤ n := hH_x.1
  refine Ct.heap (h := (put 0 (poB γ 0 x_track) h)) (put_self hH_x).symm ?_
  refine Ct_of_Ev (by decide) (fun h => by cases h) (Nat.le_of_ble_eq_true rfl) ?_
  show Ev γ M_X6_rateOfPost (0, 0) n (put 0 (poB γ 0 x_track) h) [(0, .ref (gB γ + 0)), (1, .int a1)] 0 [] _
  unfold f_X6_rateOfPost at hf
  refine E_aload_n 0 dX6_rateOfPost_0 (q := 1) rfl rfl rfl ?_
  refine E_dup dX6_rateOfPost_1 (q := 2) rfl rfl ?_
  have hF1 : Has n 0 (poB γ 0 x_track) (put 0 (poB γ 0 x_track) h) := (has_put hn_x)
  refine E_get 10 dX6_rateOfPost_2 (q := 5) rfl ckX6 (Nat.le_of_ble_eq_true rfl) fl_X6_263 (hF1.at 0 rfl) (hF1.lt 0 (Nat.le_of_ble_eq_true rfl)) rfl ?_
  refine E_lconst (x := 1) dX6_rateOfPost_5 (q := 6) rfl (by decide) ?_
  refine E_ladd dX6_rateOfPost_6 (q := 7) rfl ?_
  refine E_put 10 dX6_rateOfPost_7 (q := 10) rfl ckX6 (Nat.le_of_ble_eq_true rfl) fl_X6_263 rfl rfl rfl (hF1.at 0 rfl) (hF1.lt 0 (Nat.le_of_ble_eq_true rfl)) (Nat.le_of_ble_eq_true rfl) (up_put (i := 0) (cs' := (poB γ 0 (x_track + 1))) (Nat.le_of_ble_eq_true rfl) rfl) ?_
  refine E_aload_n 0 dX6_rateOfPost_10 (q := 11) rfl rfl rfl ?_
  have hF3 : Has n 0 (poB γ 0 (x_track + 1)) (put 0 (poB γ 0 (x_track + 1)) h) := (has_put hn_x)
  refine E_get 1 dX6_rateOfPost_11 (q := 14) rfl ckX6 (Nat.le_of_ble_eq_true rfl) fl_X6_19 (hF3.at 0 rfl) (hF3.lt 0 (Nat.le_of_ble_eq_true rfl)) rfl ?_
  have hF4 : Has n 3 (dpB γ 3 d_posts d_sees d_cold d_men d_debts d_on d_stove) (put 0 (poB γ 0 (x_track + 1)) h) := (has_out hH_d (Or.inr (Nat.le_of_ble_eq_true rfl)))
  refine E_get 2 dX6_rateOfPost_14 (q := 17) rfl ckX0 (Nat.le_of_ble_eq_true rfl) fl_X6_95 (hF4.at 0 rfl) (hF4.lt 0 (Nat.le_of_ble_eq_true rfl)) rfl ?_
  refine E_iload_n 1 dX6_rateOfPost_17 (q := 18) rfl rfl rfl ?_
  obtain ⟨g5, hf⟩ := gd hf
  refine E_iald dX6_rateOfPost_18 (q := 19) rfl (hF4.at 2 rfl) (hF4.lt 2 (Nat.le_of_ble_eq_true rfl)) g5 ?_
  obtain rfl := Option.some.inj hf
  exact E_iret dX6_rateOfPost_19 rfl ⟨rfl, rfl, rfl⟩

-- PostRelief.rateOfGate(I)I
def f_X6_rateOfGate (N : Nat) (a1 : Int32) (x_track : Int64) (d_cold : FN) (w_stood : FN) : Option (Int32 × Int64) :=
  ((f_X6_rateOfPost N a1 (x_track + 10) d_cold).bind fun z3 => (if ix a1 5 = true then some ((z3.1 + (w_stood (ci a1))), z3.2) else none))
set_option maxHeartbeats 4000000 in
set_option maxRecDepth 100000 in
theorem m_X6_rateOfGate {γ : GX} {n : Nat} {N : Nat} {h : HP} {a1 : Int32} {x_track : Int64} {d_posts : Int32} {d_sees : FN} {d_cold : FN} {d_men : Int32} {d_debts : FN} {d_on : Int32} {d_stove : Int32} {w_hour : Int32} {w_debts : FN} {w_guards : FN} {w_stood : FN} {w_served : FN} (hH_x : Has n 0 (poB γ 0 x_track) h) (hH_d : Has n 3 (dpB γ 3 d_posts d_sees d_cold d_men d_debts d_on d_stove) h) (hH_w : Has n 11 (wtB γ 11 w_hour w_debts w_guards w_stood w_served) h) {z : Int32 × Int64} (hf : f_X6_rateOfGate N a1 x_track d_cold w_stood = some z)  : Ct γ M_X6_rateOfGate n h [.ref (gB γ + 0), .int a1] (Done (some (.int z.1)) n (put 0 (poB γ 0 z.2) h)) := by
  have hn_x : 0 + 1 ≤ n := hH_x.1
  refine Ct.heap (h := (put 0 (poB γ 0 x_track) h)) (put_self hH_x).symm ?_
  refine Ct_of_Ev (by decide) (fun h => by cases h) (Nat.le_of_ble_eq_true rfl) ?_
  show Ev γ M_X6_rateOfGate (0, 0) n (put 0 (poB γ 0 x_track) h) [(0, .ref (gB γ + 0)), (1, .int a1)] 0 [] _
  unfold f_X6_rateOfGate at hf
  refine E_aload_n 0 dX6_rateOfGate_0 (q := 1) rfl rfl rfl ?_
  refine E_dup dX6_rateOfGate_1 (q := 2) rfl rfl ?_
  have hF1 : Has n 0 (poB γ 0 x_track) (put 0 (poB γ 0 x_track) h) := (has_put hn_x)
  refine E_get 10 dX6_rateOfGate_2 (q := 5) rfl ckX6 (Nat.le_of_ble_eq_true rfl) fl_X6_263 (hF1.at 0 rfl) (hF1.lt 0 (Nat.le_of_ble_eq_true rfl)) rfl ?_
  refine E_ldc2 dX6_rateOfGate_5 (q := 8) rfl cw_X6_276 ?_
  refine E_ladd dX6_rateOfGate_8 (q := 9) rfl ?_
  refine E_put 10 dX6_rateOfGate_9 (q := 12) rfl ckX6 (Nat.le_of_ble_eq_true rfl) fl_X6_263 rfl rfl rfl (hF1.at 0 rfl) (hF1.lt 0 (Nat.le_of_ble_eq_true rfl)) (Nat.le_of_ble_eq_true rfl) (up_put (i := 0) (cs' := (poB γ 0 (x_track + 10))) (Nat.le_of_ble_eq_true rfl) rfl) ?_
  refine E_aload_n 0 dX6_rateOfGate_12 (q := 13) rfl rfl rfl ?_
  refine E_iload_n 1 dX6_rateOfGate_13 (q := 14) rfl rfl rfl ?_
  obtain ⟨z3, hxz3, hf⟩ := bnd hf
  have hF4 : Has n 0 (poB γ 0 (x_track + 10)) (put 0 (poB γ 0 (x_track + 10)) h) := (has_put hn_x)
  have hF5 : Has n 3 (dpB γ 3 d_posts d_sees d_cold d_men d_debts d_on d_stove) (put 0 (poB γ 0 (x_track + 10)) h) := (has_out hH_d (Or.inr (Nat.le_of_ble_eq_true rfl)))
  refine E_cV (as := [.int a1]) (k := 0) (rest := []) (u' := (0, 0)) (st' := [.int z3.1]) dX6_rateOfGate_14 (q := 17) rfl lkm_X6_rateOfPost lkv_X6_239 (Nat.le_of_ble_eq_true rfl) ckX6 (hF4.at 0 rfl) (hF4.lt 0 (Nat.le_of_ble_eq_true rfl)) ⟨Nat.le_refl _, Nat.le_refl _⟩ (Nat.le_of_ble_eq_true rfl) rfl rfl (m_X6_rateOfPost (N := N)  hF4 hF5 hxz3) rfl rfl rfl ?_
  refine Ev.heap (put_put (k := 0) (cs := (poB γ 0 (x_track + 10))) (cs' := (poB γ 0 z3.2)) (show (1 : Nat) = 1 from rfl)) ?_
  refine E_aload_n 0 dX6_rateOfGate_17 (q := 18) rfl rfl rfl ?_
  have hF7 : Has n 0 (poB γ 0 z3.2) (put 0 (poB γ 0 z3.2) h) := (has_put hn_x)
  refine E_get 3 dX6_rateOfGate_18 (q := 21) rfl ckX6 (Nat.le_of_ble_eq_true rfl) fl_X6_29 (hF7.at 0 rfl) (hF7.lt 0 (Nat.le_of_ble_eq_true rfl)) rfl ?_
  have hF8 : Has n 11 (wtB γ 11 w_hour w_debts w_guards w_stood w_served) (put 0 (poB γ 0 z3.2) h) := (has_out hH_w (Or.inr (Nat.le_of_ble_eq_true rfl)))
  refine E_get 3 dX6_rateOfGate_21 (q := 24) rfl ckX5 (Nat.le_of_ble_eq_true rfl) fl_X6_102 (hF8.at 0 rfl) (hF8.lt 0 (Nat.le_of_ble_eq_true rfl)) rfl ?_
  refine E_iload_n 1 dX6_rateOfGate_24 (q := 25) rfl rfl rfl ?_
  obtain ⟨g9, hf⟩ := gd hf
  refine E_iald dX6_rateOfGate_25 (q := 26) rfl (hF8.at 3 rfl) (hF8.lt 3 (Nat.le_of_ble_eq_true rfl)) g9 ?_
  refine E_iadd dX6_rateOfGate_26 (q := 27) rfl ?_
  obtain rfl := Option.some.inj hf
  exact E_iret dX6_rateOfGate_27 rfl ⟨rfl, rfl, rfl⟩

-- PostRelief.rateOfPump(I)I
def f_X6_rateOfPump (N : Nat) (a1 : Int32) (x_track : Int64) (d_cold : FN) (w_debts : FN) (w_guards : FN) : Option (Int32 × Int64) :=
  (if ix a1 5 = true then ((f_X6_rateOfPost N a1 (x_track + 100) d_cold).bind fun z6 => (if (w_guards (ci a1)) = (-9) then some ((z6.1 - 0), z6.2) else (if ix (w_guards (ci a1)) 6 = true then some ((z6.1 - (w_debts (ci (w_guards (ci a1))))), z6.2) else none))) else none)
set_option maxHeartbeats 4000000 in
set_option maxRecDepth 100000 in
theorem m_X6_rateOfPump {γ : GX} {n : Nat} {N : Nat} {h : HP} {a1 : Int32} {x_track : Int64} {d_posts : Int32} {d_sees : FN} {d_cold : FN} {d_men : Int32} {d_debts : FN} {d_on : Int32} {d_stove : Int32} {w_hour : Int32} {w_debts : FN} {w_guards : FN} {w_stood : FN} {w_served : FN} (hH_x : Has n 0 (poB γ 0 x_track) h) (hH_d : Has n 3 (dpB γ 3 d_posts d_sees d_cold d_men d_debts d_on d_stove) h) (hH_w : Has n 11 (wtB γ 11 w_hour w_debts w_guards w_stood w_served) h) {z : Int32 × Int64} (hf : f_X6_rateOfPump N a1 x_track d_cold w_debts w_guards = some z)  : Ct γ M_X6_rateOfPump n h [.ref (gB γ + 0), .int a1] (Done (some (.int z.1)) n (put 0 (poB γ 0 z.2) h)) := by
  have hn_x : 0 + 1 ≤ n := hH_x.1
  refine Ct.heap (h := (put 0 (poB γ 0 x_track) h)) (put_self hH_x).symm ?_
  refine Ct_of_Ev (by decide) (fun h => by cases h) (Nat.le_of_ble_eq_true rfl) ?_
  show Ev γ M_X6_rateOfPump (0, 0) n (put 0 (poB γ 0 x_track) h) [(0, .ref (gB γ + 0)), (1, .int a1)] 0 [] _
  unfold f_X6_rateOfPump at hf
  refine E_aload_n 0 dX6_rateOfPump_0 (q := 1) rfl rfl rfl ?_
  refine E_dup dX6_rateOfPump_1 (q := 2) rfl rfl ?_
  have hF1 : Has n 0 (poB γ 0 x_track) (put 0 (poB γ 0 x_track) h) := (has_put hn_x)
  refine E_get 10 dX6_rateOfPump_2 (q := 5) rfl ckX6 (Nat.le_of_ble_eq_true rfl) fl_X6_263 (hF1.at 0 rfl) (hF1.lt 0 (Nat.le_of_ble_eq_true rfl)) rfl ?_
  refine E_ldc2 dX6_rateOfPump_5 (q := 8) rfl cw_X6_278 ?_
  refine E_ladd dX6_rateOfPump_8 (q := 9) rfl ?_
  refine E_put 10 dX6_rateOfPump_9 (q := 12) rfl ckX6 (Nat.le_of_ble_eq_true rfl) fl_X6_263 rfl rfl rfl (hF1.at 0 rfl) (hF1.lt 0 (Nat.le_of_ble_eq_true rfl)) (Nat.le_of_ble_eq_true rfl) (up_put (i := 0) (cs' := (poB γ 0 (x_track + 100))) (Nat.le_of_ble_eq_true rfl) rfl) ?_
  refine E_aload_n 0 dX6_rateOfPump_12 (q := 13) rfl rfl rfl ?_
  have hF3 : Has n 0 (poB γ 0 (x_track + 100)) (put 0 (poB γ 0 (x_track + 100)) h) := (has_put hn_x)
  refine E_get 3 dX6_rateOfPump_13 (q := 16) rfl ckX6 (Nat.le_of_ble_eq_true rfl) fl_X6_29 (hF3.at 0 rfl) (hF3.lt 0 (Nat.le_of_ble_eq_true rfl)) rfl ?_
  have hF4 : Has n 11 (wtB γ 11 w_hour w_debts w_guards w_stood w_served) (put 0 (poB γ 0 (x_track + 100)) h) := (has_out hH_w (Or.inr (Nat.le_of_ble_eq_true rfl)))
  refine E_get 2 dX6_rateOfPump_16 (q := 19) rfl ckX5 (Nat.le_of_ble_eq_true rfl) fl_X6_99 (hF4.at 0 rfl) (hF4.lt 0 (Nat.le_of_ble_eq_true rfl)) rfl ?_
  refine E_iload_n 1 dX6_rateOfPump_19 (q := 20) rfl rfl rfl ?_
  obtain ⟨g5, hf⟩ := gd hf
  refine E_iald dX6_rateOfPump_20 (q := 21) rfl (hF4.at 2 rfl) (hF4.lt 2 (Nat.le_of_ble_eq_true rfl)) g5 ?_
  refine E_istore_n [(2, .int (w_guards (ci a1))), (0, .ref (gB γ + 0)), (1, .int a1)] dX6_rateOfPump_21 (q := 22) rfl rfl (Nat.le_of_ble_eq_true rfl) rfl ?_
  refine E_aload_n 1 dX6_rateOfPump_22 (q := 23) rfl rfl rfl ?_
  refine E_iload_n 2 dX6_rateOfPump_23 (q := 24) rfl rfl rfl ?_
  obtain ⟨z6, hxz6, hf⟩ := bnd hf
  have hF7 : Has n 3 (dpB γ 3 d_posts d_sees d_cold d_men d_debts d_on d_stove) (put 0 (poB γ 0 (x_track + 100)) h) := (has_out hH_d (Or.inr (Nat.le_of_ble_eq_true rfl)))
  refine E_cV (as := [.int a1]) (k := 0) (rest := []) (u' := (0, 0)) (st' := [.int z6.1]) dX6_rateOfPump_24 (q := 27) rfl lkm_X6_rateOfPost lkv_X6_239 (Nat.le_of_ble_eq_true rfl) ckX6 (hF3.at 0 rfl) (hF3.lt 0 (Nat.le_of_ble_eq_true rfl)) ⟨Nat.le_refl _, Nat.le_refl _⟩ (Nat.le_of_ble_eq_true rfl) rfl rfl (m_X6_rateOfPost (N := N)  hF3 hF7 hxz6) rfl rfl rfl ?_
  refine Ev.heap (put_put (k := 0) (cs := (poB γ 0 (x_track + 100))) (cs' := (poB γ 0 z6.2)) (show (1 : Nat) = 1 from rfl)) ?_
  refine E_iload_n 0 dX6_rateOfPump_27 (q := 28) rfl rfl rfl ?_
  refine E_bipush (x := (-9)) dX6_rateOfPump_28 (q := 30) rfl (by decide) ?_
  refine E_icmp_ne dX6_rateOfPump_30 (t := 37) (by decide) (q := 33) rfl (fun c9 => ?_) (fun c9 => ?_)
  · have hf := if_f c9 hf
    refine E_aload_n 1 dX6_rateOfPump_37 (q := 38) rfl rfl rfl ?_
    have hF10 : Has n 0 (poB γ 0 z6.2) (put 0 (poB γ 0 z6.2) h) := (has_put hn_x)
    refine E_get 3 dX6_rateOfPump_38 (q := 41) rfl ckX6 (Nat.le_of_ble_eq_true rfl) fl_X6_29 (hF10.at 0 rfl) (hF10.lt 0 (Nat.le_of_ble_eq_true rfl)) rfl ?_
    have hF11 : Has n 11 (wtB γ 11 w_hour w_debts w_guards w_stood w_served) (put 0 (poB γ 0 z6.2) h) := (has_out hH_w (Or.inr (Nat.le_of_ble_eq_true rfl)))
    refine E_get 1 dX6_rateOfPump_41 (q := 44) rfl ckX5 (Nat.le_of_ble_eq_true rfl) fl_X6_111 (hF11.at 0 rfl) (hF11.lt 0 (Nat.le_of_ble_eq_true rfl)) rfl ?_
    refine E_iload_n 0 dX6_rateOfPump_44 (q := 45) rfl rfl rfl ?_
    obtain ⟨g12, hf⟩ := gd hf
    refine E_iald dX6_rateOfPump_45 (q := 46) rfl (hF11.at 1 rfl) (hF11.lt 1 (Nat.le_of_ble_eq_true rfl)) g12 ?_
    refine E_isub dX6_rateOfPump_46 (q := 47) rfl ?_
    obtain rfl := Option.some.inj hf
    exact E_iret dX6_rateOfPump_47 rfl ⟨rfl, rfl, rfl⟩
  · have hf := if_t c9 hf
    refine E_iconst (x := 0) dX6_rateOfPump_33 (q := 34) rfl (by decide) ?_
    refine E_goto (q := 46) dX6_rateOfPump_34 (by decide) ?_
    refine E_isub dX6_rateOfPump_46 (q := 47) rfl ?_
    obtain rfl := Option.some.inj hf
    exact E_iret dX6_rateOfPump_47 rfl ⟨rfl, rfl, rfl⟩

-- PostRelief.rateOfLane(I)I
def f_X6_rateOfLane (N : Nat) (a1 : Int32) (x_track : Int64) (d_cold : FN) (w_stood : FN) : Option (Int32 × Int64) :=
  ((f_X6_rateOfGate N a1 (x_track + 1000) d_cold w_stood).bind fun z3 => some ((2 * z3.1), z3.2))
set_option maxHeartbeats 4000000 in
set_option maxRecDepth 100000 in
theorem m_X6_rateOfLane {γ : GX} {n : Nat} {N : Nat} {h : HP} {a1 : Int32} {x_track : Int64} {d_posts : Int32} {d_sees : FN} {d_cold : FN} {d_men : Int32} {d_debts : FN} {d_on : Int32} {d_stove : Int32} {w_hour : Int32} {w_debts : FN} {w_guards : FN} {w_stood : FN} {w_served : FN} (hH_x : Has n 0 (poB γ 0 x_track) h) (hH_d : Has n 3 (dpB γ 3 d_posts d_sees d_cold d_men d_debts d_on d_stove) h) (hH_w : Has n 11 (wtB γ 11 w_hour w_debts w_guards w_stood w_served) h) {z : Int32 × Int64} (hf : f_X6_rateOfLane N a1 x_track d_cold w_stood = some z)  : Ct γ M_X6_rateOfLane n h [.ref (gB γ + 0), .int a1] (Done (some (.int z.1)) n (put 0 (poB γ 0 z.2) h)) := by
  have hn_x : 0 + 1 ≤ n := hH_x.1
  refine Ct.heap (h := (put 0 (poB γ 0 x_track) h)) (put_self hH_x).symm ?_
  refine Ct_of_Ev (by decide) (fun h => by cases h) (Nat.le_of_ble_eq_true rfl) ?_
  show Ev γ M_X6_rateOfLane (0, 0) n (put 0 (poB γ 0 x_track) h) [(0, .ref (gB γ + 0)), (1, .int a1)] 0 [] _
  unfold f_X6_rateOfLane at hf
  refine E_aload_n 0 dX6_rateOfLane_0 (q := 1) rfl rfl rfl ?_
  refine E_dup dX6_rateOfLane_1 (q := 2) rfl rfl ?_
  have hF1 : Has n 0 (poB γ 0 x_track) (put 0 (poB γ 0 x_track) h) := (has_put hn_x)
  refine E_get 10 dX6_rateOfLane_2 (q := 5) rfl ckX6 (Nat.le_of_ble_eq_true rfl) fl_X6_263 (hF1.at 0 rfl) (hF1.lt 0 (Nat.le_of_ble_eq_true rfl)) rfl ?_
  refine E_ldc2 dX6_rateOfLane_5 (q := 8) rfl cw_X6_280 ?_
  refine E_ladd dX6_rateOfLane_8 (q := 9) rfl ?_
  refine E_put 10 dX6_rateOfLane_9 (q := 12) rfl ckX6 (Nat.le_of_ble_eq_true rfl) fl_X6_263 rfl rfl rfl (hF1.at 0 rfl) (hF1.lt 0 (Nat.le_of_ble_eq_true rfl)) (Nat.le_of_ble_eq_true rfl) (up_put (i := 0) (cs' := (poB γ 0 (x_track + 1000))) (Nat.le_of_ble_eq_true rfl) rfl) ?_
  refine E_iconst (x := 2) dX6_rateOfLane_12 (q := 13) rfl (by decide) ?_
  refine E_aload_n 0 dX6_rateOfLane_13 (q := 14) rfl rfl rfl ?_
  refine E_iload_n 1 dX6_rateOfLane_14 (q := 15) rfl rfl rfl ?_
  obtain ⟨z3, hxz3, hf⟩ := bnd hf
  have hF4 : Has n 0 (poB γ 0 (x_track + 1000)) (put 0 (poB γ 0 (x_track + 1000)) h) := (has_put hn_x)
  have hF5 : Has n 3 (dpB γ 3 d_posts d_sees d_cold d_men d_debts d_on d_stove) (put 0 (poB γ 0 (x_track + 1000)) h) := (has_out hH_d (Or.inr (Nat.le_of_ble_eq_true rfl)))
  have hF6 : Has n 11 (wtB γ 11 w_hour w_debts w_guards w_stood w_served) (put 0 (poB γ 0 (x_track + 1000)) h) := (has_out hH_w (Or.inr (Nat.le_of_ble_eq_true rfl)))
  refine E_cV (as := [.int a1]) (k := 0) (rest := [.int 2]) (u' := (0, 0)) (st' := [.int z3.1, .int 2]) dX6_rateOfLane_15 (q := 18) rfl lkm_X6_rateOfGate lkv_X6_242 (Nat.le_of_ble_eq_true rfl) ckX6 (hF4.at 0 rfl) (hF4.lt 0 (Nat.le_of_ble_eq_true rfl)) ⟨Nat.le_refl _, Nat.le_refl _⟩ (Nat.le_of_ble_eq_true rfl) rfl rfl (m_X6_rateOfGate (N := N)  hF4 hF5 hF6 hxz3) rfl rfl rfl ?_
  refine Ev.heap (put_put (k := 0) (cs := (poB γ 0 (x_track + 1000))) (cs' := (poB γ 0 z3.2)) (show (1 : Nat) = 1 from rfl)) ?_
  refine E_imul dX6_rateOfLane_18 (q := 19) rfl ?_
  obtain rfl := Option.some.inj hf
  exact E_iret dX6_rateOfLane_19 rfl ⟨rfl, rfl, rfl⟩

-- PostRelief.rateOfYard(I)I
def f_X6_rateOfYard (N : Nat) (a1 : Int32) (x_track : Int64) (d_cold : FN) (w_debts : FN) (w_guards : FN) : Option (Int32 × Int64) :=
  ((f_X6_rateOfPump N a1 (x_track + 10000) d_cold w_debts w_guards).bind fun z3 => some ((z3.1 + a1), z3.2))
set_option maxHeartbeats 4000000 in
set_option maxRecDepth 100000 in
theorem m_X6_rateOfYard {γ : GX} {n : Nat} {N : Nat} {h : HP} {a1 : Int32} {x_track : Int64} {d_posts : Int32} {d_sees : FN} {d_cold : FN} {d_men : Int32} {d_debts : FN} {d_on : Int32} {d_stove : Int32} {w_hour : Int32} {w_debts : FN} {w_guards : FN} {w_stood : FN} {w_served : FN} (hH_x : Has n 0 (poB γ 0 x_track) h) (hH_d : Has n 3 (dpB γ 3 d_posts d_sees d_cold d_men d_debts d_on d_stove) h) (hH_w : Has n 11 (wtB γ 11 w_hour w_debts w_guards w_stood w_served) h) {z : Int32 × Int64} (hf : f_X6_rateOfYard N a1 x_track d_cold w_debts w_guards = some z)  : Ct γ M_X6_rateOfYard n h [.ref (gB γ + 0), .int a1] (Done (some (.int z.1)) n (put 0 (poB γ 0 z.2) h)) := by
  have hn_x : 0 + 1 ≤ n := hH_x.1
  refine Ct.heap (h := (put 0 (poB γ 0 x_track) h)) (put_self hH_x).symm ?_
  refine Ct_of_Ev (by decide) (fun h => by cases h) (Nat.le_of_ble_eq_true rfl) ?_
  show Ev γ M_X6_rateOfYard (0, 0) n (put 0 (poB γ 0 x_track) h) [(0, .ref (gB γ + 0)), (1, .int a1)] 0 [] _
  unfold f_X6_rateOfYard at hf
  refine E_aload_n 0 dX6_rateOfYard_0 (q := 1) rfl rfl rfl ?_
  refine E_dup dX6_rateOfYard_1 (q := 2) rfl rfl ?_
  have hF1 : Has n 0 (poB γ 0 x_track) (put 0 (poB γ 0 x_track) h) := (has_put hn_x)
  refine E_get 10 dX6_rateOfYard_2 (q := 5) rfl ckX6 (Nat.le_of_ble_eq_true rfl) fl_X6_263 (hF1.at 0 rfl) (hF1.lt 0 (Nat.le_of_ble_eq_true rfl)) rfl ?_
  refine E_ldc2 dX6_rateOfYard_5 (q := 8) rfl cw_X6_282 ?_
  refine E_ladd dX6_rateOfYard_8 (q := 9) rfl ?_
  refine E_put 10 dX6_rateOfYard_9 (q := 12) rfl ckX6 (Nat.le_of_ble_eq_true rfl) fl_X6_263 rfl rfl rfl (hF1.at 0 rfl) (hF1.lt 0 (Nat.le_of_ble_eq_true rfl)) (Nat.le_of_ble_eq_true rfl) (up_put (i := 0) (cs' := (poB γ 0 (x_track + 10000))) (Nat.le_of_ble_eq_true rfl) rfl) ?_
  refine E_aload_n 0 dX6_rateOfYard_12 (q := 13) rfl rfl rfl ?_
  refine E_iload_n 1 dX6_rateOfYard_13 (q := 14) rfl rfl rfl ?_
  obtain ⟨z3, hxz3, hf⟩ := bnd hf
  have hF4 : Has n 0 (poB γ 0 (x_track + 10000)) (put 0 (poB γ 0 (x_track + 10000)) h) := (has_put hn_x)
  have hF5 : Has n 3 (dpB γ 3 d_posts d_sees d_cold d_men d_debts d_on d_stove) (put 0 (poB γ 0 (x_track + 10000)) h) := (has_out hH_d (Or.inr (Nat.le_of_ble_eq_true rfl)))
  have hF6 : Has n 11 (wtB γ 11 w_hour w_debts w_guards w_stood w_served) (put 0 (poB γ 0 (x_track + 10000)) h) := (has_out hH_w (Or.inr (Nat.le_of_ble_eq_true rfl)))
  refine E_cV (as := [.int a1]) (k := 0) (rest := []) (u' := (0, 0)) (st' := [.int z3.1]) dX6_rateOfYard_14 (q := 17) rfl lkm_X6_rateOfPump lkv_X6_245 (Nat.le_of_ble_eq_true rfl) ckX6 (hF4.at 0 rfl) (hF4.lt 0 (Nat.le_of_ble_eq_true rfl)) ⟨Nat.le_refl _, Nat.le_refl _⟩ (Nat.le_of_ble_eq_true rfl) rfl rfl (m_X6_rateOfPump (N := N)  hF4 hF5 hF6 hxz3) rfl rfl rfl ?_
  refine Ev.heap (put_put (k := 0) (cs := (poB γ 0 (x_track + 10000))) (cs' := (poB γ 0 z3.2)) (show (1 : Nat) = 1 from rfl)) ?_
  refine E_iload_n 1 dX6_rateOfYard_17 (q := 18) rfl rfl rfl ?_
  refine E_iadd dX6_rateOfYard_18 (q := 19) rfl ?_
  obtain rfl := Option.some.inj hf
  exact E_iret dX6_rateOfYard_19 rfl ⟨rfl, rfl, rfl⟩

-- PostRelief.rateOfTower(I)I
def f_X6_rateOfTower (N : Nat) (a1 : Int32) (x_track : Int64) (d_posts : Int32) (d_sees : FN) (d_cold : FN) : Option (Int32 × Int64) :=
  ((f_X6_rateOfPost N a1 (x_track + 100000) d_cold).bind fun z3 => ((f_X0_seenFrom N a1 d_posts d_sees).bind fun z8 => ((f_J6_bitCount N z8).bind fun z10 => some ((z3.1 + z10), z3.2))))
set_option maxHeartbeats 4000000 in
set_option maxRecDepth 100000 in
theorem m_X6_rateOfTower {γ : GX} {n : Nat} {N : Nat} {h : HP} {a1 : Int32} {x_track : Int64} {d_posts : Int32} {d_sees : FN} {d_cold : FN} {d_men : Int32} {d_debts : FN} {d_on : Int32} {d_stove : Int32} (hH_x : Has n 0 (poB γ 0 x_track) h) (hH_d : Has n 3 (dpB γ 3 d_posts d_sees d_cold d_men d_debts d_on d_stove) h) {z : Int32 × Int64} (hf : f_X6_rateOfTower N a1 x_track d_posts d_sees d_cold = some z)  : Ct γ M_X6_rateOfTower n h [.ref (gB γ + 0), .int a1] (Done (some (.int z.1)) n (put 0 (poB γ 0 z.2) h)) := by
  have hn_x : 0 + 1 ≤ n := hH_x.1
  refine Ct.heap (h := (put 0 (poB γ 0 x_track) h)) (put_self hH_x).symm ?_
  refine Ct_of_Ev (by decide) (fun h => by cases h) (Nat.le_of_ble_eq_true rfl) ?_
  show Ev γ M_X6_rateOfTower (0, 0) n (put 0 (poB γ 0 x_track) h) [(0, .ref (gB γ + 0)), (1, .int a1)] 0 [] _
  unfold f_X6_rateOfTower at hf
  refine E_aload_n 0 dX6_rateOfTower_0 (q := 1) rfl rfl rfl ?_
  refine E_dup dX6_rateOfTower_1 (q := 2) rfl rfl ?_
  have hF1 : Has n 0 (poB γ 0 x_track) (put 0 (poB γ 0 x_track) h) := (has_put hn_x)
  refine E_get 10 dX6_rateOfTower_2 (q := 5) rfl ckX6 (Nat.le_of_ble_eq_true rfl) fl_X6_263 (hF1.at 0 rfl) (hF1.lt 0 (Nat.le_of_ble_eq_true rfl)) rfl ?_
  refine E_ldc2 dX6_rateOfTower_5 (q := 8) rfl cw_X6_284 ?_
  refine E_ladd dX6_rateOfTower_8 (q := 9) rfl ?_
  refine E_put 10 dX6_rateOfTower_9 (q := 12) rfl ckX6 (Nat.le_of_ble_eq_true rfl) fl_X6_263 rfl rfl rfl (hF1.at 0 rfl) (hF1.lt 0 (Nat.le_of_ble_eq_true rfl)) (Nat.le_of_ble_eq_true rfl) (up_put (i := 0) (cs' := (poB γ 0 (x_track + 100000))) (Nat.le_of_ble_eq_true rfl) rfl) ?_
  refine E_aload_n 0 dX6_rateOfTower_12 (q := 13) rfl rfl rfl ?_
  refine E_iload_n 1 dX6_rateOfTower_13 (q := 14) rfl rfl rfl ?_
  obtain ⟨z3, hxz3, hf⟩ := bnd hf
  have hF4 : Has n 0 (poB γ 0 (x_track + 100000)) (put 0 (poB γ 0 (x_track + 100000)) h) := (has_put hn_x)
  have hF5 : Has n 3 (dpB γ 3 d_posts d_sees d_cold d_men d_debts d_on d_stove) (put 0 (poB γ 0 (x_track + 100000)) h) := (has_out hH_d (Or.inr (Nat.le_of_ble_eq_true rfl)))
  refine E_cV (as := [.int a1]) (k := 0) (rest := []) (u' := (0, 0)) (st' := [.int z3.1]) dX6_rateOfTower_14 (q := 17) rfl lkm_X6_rateOfPost lkv_X6_239 (Nat.le_of_ble_eq_true rfl) ckX6 (hF4.at 0 rfl) (hF4.lt 0 (Nat.le_of_ble_eq_true rfl)) ⟨Nat.le_refl _, Nat.le_refl _⟩ (Nat.le_of_ble_eq_true rfl) rfl rfl (m_X6_rateOfPost (N := N)  hF4 hF5 hxz3) rfl rfl rfl ?_
  refine Ev.heap (put_put (k := 0) (cs := (poB γ 0 (x_track + 100000))) (cs' := (poB γ 0 z3.2)) (show (1 : Nat) = 1 from rfl)) ?_
  refine E_aload_n 0 dX6_rateOfTower_17 (q := 18) rfl rfl rfl ?_
  have hF7 : Has n 0 (poB γ 0 z3.2) (put 0 (poB γ 0 z3.2) h) := (has_put hn_x)
  refine E_get 1 dX6_rateOfTower_18 (q := 21) rfl ckX6 (Nat.le_of_ble_eq_true rfl) fl_X6_19 (hF7.at 0 rfl) (hF7.lt 0 (Nat.le_of_ble_eq_true rfl)) rfl ?_
  refine E_iload_n 1 dX6_rateOfTower_21 (q := 22) rfl rfl rfl ?_
  obtain ⟨z8, hxz8, hf⟩ := bnd hf
  have hF9 : Has n 3 (dpB γ 3 d_posts d_sees d_cold d_men d_debts d_on d_stove) (put 0 (poB γ 0 z3.2) h) := (has_out hH_d (Or.inr (Nat.le_of_ble_eq_true rfl)))
  refine E_cV (as := [.int a1]) (k := 3) (rest := [.int z3.1]) (u' := (0, 0)) (st' := [.int z8, .int z3.1]) dX6_rateOfTower_22 (q := 25) rfl lkm_X0_seenFrom lkv_X6_91 (Nat.le_of_ble_eq_true rfl) ckX0 (hF9.at 0 rfl) (hF9.lt 0 (Nat.le_of_ble_eq_true rfl)) ⟨Nat.le_refl _, Nat.le_refl _⟩ (Nat.le_of_ble_eq_true rfl) rfl rfl (m_X0_seenFrom (N := N)  hF9 hxz8) rfl rfl rfl ?_
  obtain ⟨z10, hxz10, hf⟩ := bnd hf
  refine E_cS (as := [.int z8]) (rest := [.int z3.1]) (u' := (0, 0)) (st' := [.int z10, .int z3.1]) dX6_rateOfTower_25 (q := 28) rfl lkm_J6_bitCount lks_X6_141 (Nat.le_of_ble_eq_true rfl) ⟨Nat.le_refl _, Nat.le_refl _⟩ (Nat.le_of_ble_eq_true rfl) rfl rfl (m_J6_bitCount (N := N)  hxz10) rfl rfl rfl ?_
  refine E_iadd dX6_rateOfTower_28 (q := 29) rfl ?_
  obtain rfl := Option.some.inj hf
  exact E_iret dX6_rateOfTower_29 rfl ⟨rfl, rfl, rfl⟩

-- PostRelief.type(I)I
def f_X6_type (N : Nat) (a1 : Int32) (t_letters : FN) (t_length : Int32) : Option (Int32 × FN × Int32) :=
  ((f_X6_within N a1 0 255).bind fun z1 => (if z1 = 0 then some ((-1), t_letters, t_length) else ((f_X4_take N a1 t_letters t_length).bind fun z4 => (if z4.1 = 0 then some ((-3), z4.2.1, z4.2.2) else some (z4.2.2, z4.2.1, z4.2.2)))))
set_option maxHeartbeats 4000000 in
set_option maxRecDepth 100000 in
theorem m_X6_type {γ : GX} {n : Nat} {N : Nat} {h : HP} {a1 : Int32} {x_track : Int64} {t_letters : FN} {t_length : Int32} {t_at : Int32} {t_start : Int32} {t_token : Int32} {t_value : Int32} {t_onTold : Int32} {t_stoveTold : Int32} (hH_x : Has n 0 (poB γ 0 x_track) h) (hH_t : Has n 1 (txB γ 1 t_letters t_length t_at t_start t_token t_value t_onTold t_stoveTold) h) {z : Int32 × FN × Int32} (hf : f_X6_type N a1 t_letters t_length = some z)  : Ct γ M_X6_type n h [.ref (gB γ + 0), .int a1] (Done (some (.int z.1)) n (put 1 (txB γ 1 z.2.1 z.2.2 t_at t_start t_token t_value t_onTold t_stoveTold) h)) := by
  have hn_t : 1 + 2 ≤ n := hH_t.1
  refine Ct.heap (h := (put 1 (txB γ 1 t_letters t_length t_at t_start t_token t_value t_onTold t_stoveTold) h)) (put_self hH_t).symm ?_
  refine Ct_of_Ev (by decide) (fun h => by cases h) (Nat.le_of_ble_eq_true rfl) ?_
  show Ev γ M_X6_type (0, 0) n (put 1 (txB γ 1 t_letters t_length t_at t_start t_token t_value t_onTold t_stoveTold) h) [(0, .ref (gB γ + 0)), (1, .int a1)] 0 [] _
  unfold f_X6_type at hf
  refine E_iload_n 1 dX6_type_0 (q := 1) rfl rfl rfl ?_
  refine E_iconst (x := 0) dX6_type_1 (q := 2) rfl (by decide) ?_
  refine E_sipush (x := 255) dX6_type_2 (q := 5) rfl (by decide) ?_
  obtain ⟨z1, hxz1, hf⟩ := bnd hf
  refine E_cS (as := [.int a1, .int 0, .int 255]) (rest := []) (u' := (0, 0)) (st' := [.int z1]) dX6_type_5 (q := 8) rfl lkm_X6_within lks_X6_65 (Nat.le_of_ble_eq_true rfl) ⟨Nat.le_refl _, Nat.le_refl _⟩ (Nat.le_of_ble_eq_true rfl) rfl rfl (m_X6_within (N := N)  hxz1) rfl rfl rfl ?_
  refine E_if_ne dX6_type_8 (t := 13) (by decide) (q := 11) rfl (fun c2 => ?_) (fun c2 => ?_)
  · have hf := if_f c2 hf
    refine E_aload_n 0 dX6_type_13 (q := 14) rfl rfl rfl ?_
    have hF3 : Has n 0 (poB γ 0 x_track) (put 1 (txB γ 1 t_letters t_length t_at t_start t_token t_value t_onTold t_stoveTold) h) := (has_out hH_x (Or.inl (Nat.le_of_ble_eq_true rfl)))
    refine E_get 0 dX6_type_14 (q := 17) rfl ckX6 (Nat.le_of_ble_eq_true rfl) fl_X6_10 (hF3.at 0 rfl) (hF3.lt 0 (Nat.le_of_ble_eq_true rfl)) rfl ?_
    refine E_iload_n 1 dX6_type_17 (q := 18) rfl rfl rfl ?_
    obtain ⟨z4, hxz4, hf⟩ := bnd hf
    have hF5 : Has n 1 (txB γ 1 t_letters t_length t_at t_start t_token t_value t_onTold t_stoveTold) (put 1 (txB γ 1 t_letters t_length t_at t_start t_token t_value t_onTold t_stoveTold) h) := (has_put hn_t)
    refine E_cV (as := [.int a1]) (k := 1) (rest := []) (u' := (0, 0)) (st' := [.int z4.1]) dX6_type_18 (q := 21) rfl lkm_X4_take lkv_X6_69 (Nat.le_of_ble_eq_true rfl) ckX4 (hF5.at 0 rfl) (hF5.lt 0 (Nat.le_of_ble_eq_true rfl)) ⟨Nat.le_refl _, Nat.le_refl _⟩ (Nat.le_of_ble_eq_true rfl) rfl rfl (m_X4_take (N := N)  hF5 hxz4) rfl rfl rfl ?_
    refine Ev.heap (put_put (k := 1) (cs := (txB γ 1 t_letters t_length t_at t_start t_token t_value t_onTold t_stoveTold)) (cs' := (txB γ 1 z4.2.1 z4.2.2 t_at t_start t_token t_value t_onTold t_stoveTold)) (show (2 : Nat) = 2 from rfl)) ?_
    refine E_if_eq dX6_type_21 (t := 34) (by decide) (q := 24) rfl (fun c7 => ?_) (fun c7 => ?_)
    · have hf := if_t c7 hf
      refine E_bipush (x := (-3)) dX6_type_34 (q := 36) rfl (by decide) ?_
      obtain rfl := Option.some.inj hf
      exact E_iret dX6_type_36 rfl ⟨rfl, rfl, rfl⟩
    · have hf := if_f c7 hf
      refine E_aload_n 0 dX6_type_24 (q := 25) rfl rfl rfl ?_
      have hF8 : Has n 0 (poB γ 0 x_track) (put 1 (txB γ 1 z4.2.1 z4.2.2 t_at t_start t_token t_value t_onTold t_stoveTold) h) := (has_out hH_x (Or.inl (Nat.le_of_ble_eq_true rfl)))
      refine E_get 0 dX6_type_25 (q := 28) rfl ckX6 (Nat.le_of_ble_eq_true rfl) fl_X6_10 (hF8.at 0 rfl) (hF8.lt 0 (Nat.le_of_ble_eq_true rfl)) rfl ?_
      have hF9 : Has n 1 (txB γ 1 z4.2.1 z4.2.2 t_at t_start t_token t_value t_onTold t_stoveTold) (put 1 (txB γ 1 z4.2.1 z4.2.2 t_at t_start t_token t_value t_onTold t_stoveTold) h) := (has_put hn_t)
      refine E_get 1 dX6_type_28 (q := 31) rfl ckX4 (Nat.le_of_ble_eq_true rfl) fl_X6_73 (hF9.at 0 rfl) (hF9.lt 0 (Nat.le_of_ble_eq_true rfl)) rfl ?_
      refine E_goto (q := 36) dX6_type_31 (by decide) ?_
      obtain rfl := Option.some.inj hf
      exact E_iret dX6_type_36 rfl ⟨rfl, rfl, rfl⟩
  · have hf := if_t c2 hf
    refine E_iconst (x := (-1)) dX6_type_11 (q := 12) rfl (by decide) ?_
    obtain rfl := Option.some.inj hf
    exact E_iret dX6_type_12 rfl ⟨rfl, rfl, rfl⟩

-- PostRelief.clear()I
def f_X6_clear (N : Nat) (t_length : Int32) : Option (Int32 × Int32) :=
  some (t_length, 0)
set_option maxHeartbeats 4000000 in
set_option maxRecDepth 100000 in
theorem m_X6_clear {γ : GX} {n : Nat} {N : Nat} {h : HP} {x_track : Int64} {t_letters : FN} {t_length : Int32} {t_at : Int32} {t_start : Int32} {t_token : Int32} {t_value : Int32} {t_onTold : Int32} {t_stoveTold : Int32} (hH_x : Has n 0 (poB γ 0 x_track) h) (hH_t : Has n 1 (txB γ 1 t_letters t_length t_at t_start t_token t_value t_onTold t_stoveTold) h) {z : Int32 × Int32} (hf : f_X6_clear N t_length = some z)  : Ct γ M_X6_clear n h [.ref (gB γ + 0)] (Done (some (.int z.1)) n (put 1 (txB γ 1 t_letters z.2 t_at t_start t_token t_value t_onTold t_stoveTold) h)) := by
  have hn_t : 1 + 2 ≤ n := hH_t.1
  refine Ct.heap (h := (put 1 (txB γ 1 t_letters t_length t_at t_start t_token t_value t_onTold t_stoveTold) h)) (put_self hH_t).symm ?_
  refine Ct_of_Ev (by decide) (fun h => by cases h) (Nat.le_of_ble_eq_true rfl) ?_
  show Ev γ M_X6_clear (0, 0) n (put 1 (txB γ 1 t_letters t_length t_at t_start t_token t_value t_onTold t_stoveTold) h) [(0, .ref (gB γ + 0))] 0 [] _
  unfold f_X6_clear at hf
  refine E_aload_n 0 dX6_clear_0 (q := 1) rfl rfl rfl ?_
  have hF1 : Has n 0 (poB γ 0 x_track) (put 1 (txB γ 1 t_letters t_length t_at t_start t_token t_value t_onTold t_stoveTold) h) := (has_out hH_x (Or.inl (Nat.le_of_ble_eq_true rfl)))
  refine E_get 0 dX6_clear_1 (q := 4) rfl ckX6 (Nat.le_of_ble_eq_true rfl) fl_X6_10 (hF1.at 0 rfl) (hF1.lt 0 (Nat.le_of_ble_eq_true rfl)) rfl ?_
  have hF2 : Has n 1 (txB γ 1 t_letters t_length t_at t_start t_token t_value t_onTold t_stoveTold) (put 1 (txB γ 1 t_letters t_length t_at t_start t_token t_value t_onTold t_stoveTold) h) := (has_put hn_t)
  refine E_get 1 dX6_clear_4 (q := 7) rfl ckX4 (Nat.le_of_ble_eq_true rfl) fl_X6_73 (hF2.at 0 rfl) (hF2.lt 0 (Nat.le_of_ble_eq_true rfl)) rfl ?_
  refine E_istore_n [(1, .int t_length), (0, .ref (gB γ + 0))] dX6_clear_7 (q := 8) rfl rfl (Nat.le_of_ble_eq_true rfl) rfl ?_
  refine E_aload_n 1 dX6_clear_8 (q := 9) rfl rfl rfl ?_
  refine E_get 0 dX6_clear_9 (q := 12) rfl ckX6 (Nat.le_of_ble_eq_true rfl) fl_X6_10 (hF1.at 0 rfl) (hF1.lt 0 (Nat.le_of_ble_eq_true rfl)) rfl ?_
  refine E_iconst (x := 0) dX6_clear_12 (q := 13) rfl (by decide) ?_
  refine E_put 1 dX6_clear_13 (q := 16) rfl ckX4 (Nat.le_of_ble_eq_true rfl) fl_X6_73 rfl rfl rfl (hF2.at 0 rfl) (hF2.lt 0 (Nat.le_of_ble_eq_true rfl)) (Nat.le_of_ble_eq_true rfl) (up_put (i := 0) (cs' := (txB γ 1 t_letters 0 t_at t_start t_token t_value t_onTold t_stoveTold)) (Nat.le_of_ble_eq_true rfl) rfl) ?_
  refine E_iload_n 0 dX6_clear_16 (q := 17) rfl rfl rfl ?_
  obtain rfl := Option.some.inj hf
  exact E_iret dX6_clear_17 rfl ⟨rfl, rfl, rfl⟩

-- PostRelief.depot()I
def f_X6_depot (N : Nat) (t_letters : FN) (t_length : Int32) (t_at : Int32) (t_start : Int32) (t_token : Int32) (t_value : Int32) (t_onTold : Int32) (t_stoveTold : Int32) (d_posts : Int32) (d_sees : FN) (d_cold : FN) (d_men : Int32) (d_debts : FN) (d_on : Int32) (d_stove : Int32) (g_posts : Int32) (g_sees : FN) (g_cold : FN) (g_men : Int32) (g_debts : FN) (g_on : Int32) (g_stove : Int32) (w_hour : Int32) (w_debts : FN) (w_guards : FN) (w_stood : FN) (w_served : FN) (p_known : Int32) (kp_kept : FN) (f_size : Int32) : Option (Int32 × Int32 × Int32 × Int32 × Int32 × Int32 × Int32 × Int32 × Int32 × FN × FN × Int32 × FN × Int32 × Int32 × Int32 × FN × FN × Int32 × FN × Int32 × Int32 × Int32 × FN × FN × FN × FN × Int32 × FN × Int32) :=
  ((f_X4_readInto N t_letters t_length t_at t_start t_token t_value t_onTold t_stoveTold g_posts g_sees g_cold g_men g_debts g_on g_stove).bind fun z2 => (if z2.1 < 0 then some (z2.1, t_length, z2.2.1, z2.2.2.1, z2.2.2.2.1, z2.2.2.2.2.1, z2.2.2.2.2.2.1, z2.2.2.2.2.2.2.1, d_posts, d_sees, d_cold, d_men, d_debts, d_on, d_stove, z2.2.2.2.2.2.2.2.1, z2.2.2.2.2.2.2.2.2.1, z2.2.2.2.2.2.2.2.2.2.1, z2.2.2.2.2.2.2.2.2.2.2.1, z2.2.2.2.2.2.2.2.2.2.2.2.1, z2.2.2.2.2.2.2.2.2.2.2.2.2.1, z2.2.2.2.2.2.2.2.2.2.2.2.2.2, w_hour, w_debts, w_guards, w_stood, w_served, p_known, kp_kept, f_size) else ((f_X0_become N d_posts d_sees d_cold d_men d_debts d_on d_stove z2.2.2.2.2.2.2.2.1 z2.2.2.2.2.2.2.2.2.1 z2.2.2.2.2.2.2.2.2.2.1 z2.2.2.2.2.2.2.2.2.2.2.1 z2.2.2.2.2.2.2.2.2.2.2.2.1 z2.2.2.2.2.2.2.2.2.2.2.2.2.1 z2.2.2.2.2.2.2.2.2.2.2.2.2.2).bind fun z8 => ((f_X6_beginAnew N z8.2.2.2.2.1 w_hour w_debts w_guards w_stood w_served p_known kp_kept f_size).bind fun z15 => some (z2.1, 0, z2.2.1, z2.2.2.1, z2.2.2.2.1, z2.2.2.2.2.1, z2.2.2.2.2.2.1, z2.2.2.2.2.2.2.1, z8.1, z8.2.1, z8.2.2.1, z8.2.2.2.1, z8.2.2.2.2.1, z8.2.2.2.2.2.1, z8.2.2.2.2.2.2, z2.2.2.2.2.2.2.2.1, z2.2.2.2.2.2.2.2.2.1, z2.2.2.2.2.2.2.2.2.2.1, z2.2.2.2.2.2.2.2.2.2.2.1, z2.2.2.2.2.2.2.2.2.2.2.2.1, z2.2.2.2.2.2.2.2.2.2.2.2.2.1, z2.2.2.2.2.2.2.2.2.2.2.2.2.2, z15.1, z15.2.1, z15.2.2.1, z15.2.2.2.1, z15.2.2.2.2.1, z15.2.2.2.2.2.1, z15.2.2.2.2.2.2.1, z15.2.2.2.2.2.2.2)))))
set_option maxHeartbeats 4000000 in
set_option maxRecDepth 100000 in
theorem m_X6_depot {γ : GX} {n : Nat} {N : Nat} {h : HP} {x_track : Int64} {t_letters : FN} {t_length : Int32} {t_at : Int32} {t_start : Int32} {t_token : Int32} {t_value : Int32} {t_onTold : Int32} {t_stoveTold : Int32} {d_posts : Int32} {d_sees : FN} {d_cold : FN} {d_men : Int32} {d_debts : FN} {d_on : Int32} {d_stove : Int32} {g_posts : Int32} {g_sees : FN} {g_cold : FN} {g_men : Int32} {g_debts : FN} {g_on : Int32} {g_stove : Int32} {w_hour : Int32} {w_debts : FN} {w_guards : FN} {w_stood : FN} {w_served : FN} {p_next : Int32} {p_known : Int32} {kp_kept : FN} {f_size : Int32} {f_men : FN} {f_hours : FN} {f_asleep : FN} (hH_x : Has n 0 (poB γ 0 x_track) h) (hH_t : Has n 1 (txB γ 1 t_letters t_length t_at t_start t_token t_value t_onTold t_stoveTold) h) (hH_d : Has n 3 (dpB γ 3 d_posts d_sees d_cold d_men d_debts d_on d_stove) h) (hH_g : Has n 7 (dpB γ 7 g_posts g_sees g_cold g_men g_debts g_on g_stove) h) (hH_w : Has n 11 (wtB γ 11 w_hour w_debts w_guards w_stood w_served) h) (hH_p : Has n 21 (paB γ 21 p_next p_known) h) (hH_kp : Has n 74 (kpB γ 74 kp_kept) h) (hH_f : Has n 75 (fiB γ 75 f_size f_men f_hours f_asleep) h) {z : Int32 × Int32 × Int32 × Int32 × Int32 × Int32 × Int32 × Int32 × Int32 × FN × FN × Int32 × FN × Int32 × Int32 × Int32 × FN × FN × Int32 × FN × Int32 × Int32 × Int32 × FN × FN × FN × FN × Int32 × FN × Int32} (hf : f_X6_depot N t_letters t_length t_at t_start t_token t_value t_onTold t_stoveTold d_posts d_sees d_cold d_men d_debts d_on d_stove g_posts g_sees g_cold g_men g_debts g_on g_stove w_hour w_debts w_guards w_stood w_served p_known kp_kept f_size = some z)  : Ct γ M_X6_depot n h [.ref (gB γ + 0)] (Done (some (.int z.1)) n (put 1 (txB γ 1 t_letters z.2.1 z.2.2.1 z.2.2.2.1 z.2.2.2.2.1 z.2.2.2.2.2.1 z.2.2.2.2.2.2.1 z.2.2.2.2.2.2.2.1) (put 3 (dpB γ 3 z.2.2.2.2.2.2.2.2.1 z.2.2.2.2.2.2.2.2.2.1 z.2.2.2.2.2.2.2.2.2.2.1 z.2.2.2.2.2.2.2.2.2.2.2.1 z.2.2.2.2.2.2.2.2.2.2.2.2.1 z.2.2.2.2.2.2.2.2.2.2.2.2.2.1 z.2.2.2.2.2.2.2.2.2.2.2.2.2.2.1) (put 7 (dpB γ 7 z.2.2.2.2.2.2.2.2.2.2.2.2.2.2.2.1 z.2.2.2.2.2.2.2.2.2.2.2.2.2.2.2.2.1 z.2.2.2.2.2.2.2.2.2.2.2.2.2.2.2.2.2.1 z.2.2.2.2.2.2.2.2.2.2.2.2.2.2.2.2.2.2.1 z.2.2.2.2.2.2.2.2.2.2.2.2.2.2.2.2.2.2.2.1 z.2.2.2.2.2.2.2.2.2.2.2.2.2.2.2.2.2.2.2.2.1 z.2.2.2.2.2.2.2.2.2.2.2.2.2.2.2.2.2.2.2.2.2.1) (put 11 (wtB γ 11 z.2.2.2.2.2.2.2.2.2.2.2.2.2.2.2.2.2.2.2.2.2.2.1 z.2.2.2.2.2.2.2.2.2.2.2.2.2.2.2.2.2.2.2.2.2.2.2.1 z.2.2.2.2.2.2.2.2.2.2.2.2.2.2.2.2.2.2.2.2.2.2.2.2.1 z.2.2.2.2.2.2.2.2.2.2.2.2.2.2.2.2.2.2.2.2.2.2.2.2.2.1 z.2.2.2.2.2.2.2.2.2.2.2.2.2.2.2.2.2.2.2.2.2.2.2.2.2.2.1) (put 21 (paB γ 21 p_next z.2.2.2.2.2.2.2.2.2.2.2.2.2.2.2.2.2.2.2.2.2.2.2.2.2.2.2.1) (put 74 (kpB γ 74 z.2.2.2.2.2.2.2.2.2.2.2.2.2.2.2.2.2.2.2.2.2.2.2.2.2.2.2.2.1) (put 75 (fiB γ 75 z.2.2.2.2.2.2.2.2.2.2.2.2.2.2.2.2.2.2.2.2.2.2.2.2.2.2.2.2.2 f_men f_hours f_asleep) h)))))))) := by
  have hn_t : 1 + 2 ≤ n := hH_t.1
  have hn_d : 3 + 4 ≤ n := hH_d.1
  have hn_g : 7 + 4 ≤ n := hH_g.1
  have hn_w : 11 + 5 ≤ n := hH_w.1
  have hn_p : 21 + 2 ≤ n := hH_p.1
  have hn_kp : 74 + 1 ≤ n := hH_kp.1
  have hn_f : 75 + 4 ≤ n := hH_f.1
  refine Ct.heap (h := (put 1 (txB γ 1 t_letters t_length t_at t_start t_token t_value t_onTold t_stoveTold) (put 3 (dpB γ 3 d_posts d_sees d_cold d_men d_debts d_on d_stove) (put 7 (dpB γ 7 g_posts g_sees g_cold g_men g_debts g_on g_stove) (put 11 (wtB γ 11 w_hour w_debts w_guards w_stood w_served) (put 21 (paB γ 21 p_next p_known) (put 74 (kpB γ 74 kp_kept) (put 75 (fiB γ 75 f_size f_men f_hours f_asleep) h)))))))) ((congrArg (put 1 (txB γ 1 t_letters t_length t_at t_start t_token t_value t_onTold t_stoveTold)) ((congrArg (put 3 (dpB γ 3 d_posts d_sees d_cold d_men d_debts d_on d_stove)) ((congrArg (put 7 (dpB γ 7 g_posts g_sees g_cold g_men g_debts g_on g_stove)) ((congrArg (put 11 (wtB γ 11 w_hour w_debts w_guards w_stood w_served)) ((congrArg (put 21 (paB γ 21 p_next p_known)) ((congrArg (put 74 (kpB γ 74 kp_kept)) (put_self hH_f)).trans (put_self hH_kp))).trans (put_self hH_p))).trans (put_self hH_w))).trans (put_self hH_g))).trans (put_self hH_d))).trans (put_self hH_t)).symm ?_
  refine Ct_of_Ev (by decide) (fun h => by cases h) (Nat.le_of_ble_eq_true rfl) ?_
  show Ev γ M_X6_depot (0, 0) n (put 1 (txB γ 1 t_letters t_length t_at t_start t_token t_value t_onTold t_stoveTold) (put 3 (dpB γ 3 d_posts d_sees d_cold d_men d_debts d_on d_stove) (put 7 (dpB γ 7 g_posts g_sees g_cold g_men g_debts g_on g_stove) (put 11 (wtB γ 11 w_hour w_debts w_guards w_stood w_served) (put 21 (paB γ 21 p_next p_known) (put 74 (kpB γ 74 kp_kept) (put 75 (fiB γ 75 f_size f_men f_hours f_asleep) h))))))) [(0, .ref (gB γ + 0))] 0 [] _
  unfold f_X6_depot at hf
  refine E_aload_n 0 dX6_depot_0 (q := 1) rfl rfl rfl ?_
  have hF1 : Has n 0 (poB γ 0 x_track) (put 1 (txB γ 1 t_letters t_length t_at t_start t_token t_value t_onTold t_stoveTold) (put 3 (dpB γ 3 d_posts d_sees d_cold d_men d_debts d_on d_stove) (put 7 (dpB γ 7 g_posts g_sees g_cold g_men g_debts g_on g_stove) (put 11 (wtB γ 11 w_hour w_debts w_guards w_stood w_served) (put 21 (paB γ 21 p_next p_known) (put 74 (kpB γ 74 kp_kept) (put 75 (fiB γ 75 f_size f_men f_hours f_asleep) h))))))) := (has_out (has_out (has_out (has_out (has_out (has_out (has_out hH_x (Or.inl (Nat.le_of_ble_eq_true rfl))) (Or.inl (Nat.le_of_ble_eq_true rfl))) (Or.inl (Nat.le_of_ble_eq_true rfl))) (Or.inl (Nat.le_of_ble_eq_true rfl))) (Or.inl (Nat.le_of_ble_eq_true rfl))) (Or.inl (Nat.le_of_ble_eq_true rfl))) (Or.inl (Nat.le_of_ble_eq_true rfl)))
  refine E_get 0 dX6_depot_1 (q := 4) rfl ckX6 (Nat.le_of_ble_eq_true rfl) fl_X6_10 (hF1.at 0 rfl) (hF1.lt 0 (Nat.le_of_ble_eq_true rfl)) rfl ?_
  refine E_aload_n 0 dX6_depot_4 (q := 5) rfl rfl rfl ?_
  refine E_get 2 dX6_depot_5 (q := 8) rfl ckX6 (Nat.le_of_ble_eq_true rfl) fl_X6_23 (hF1.at 0 rfl) (hF1.lt 0 (Nat.le_of_ble_eq_true rfl)) rfl ?_
  obtain ⟨z2, hxz2, hf⟩ := bnd hf
  have hF3 : Has n 1 (txB γ 1 t_letters t_length t_at t_start t_token t_value t_onTold t_stoveTold) (put 1 (txB γ 1 t_letters t_length t_at t_start t_token t_value t_onTold t_stoveTold) (put 3 (dpB γ 3 d_posts d_sees d_cold d_men d_debts d_on d_stove) (put 7 (dpB γ 7 g_posts g_sees g_cold g_men g_debts g_on g_stove) (put 11 (wtB γ 11 w_hour w_debts w_guards w_stood w_served) (put 21 (paB γ 21 p_next p_known) (put 74 (kpB γ 74 kp_kept) (put 75 (fiB γ 75 f_size f_men f_hours f_asleep) h))))))) := (has_put hn_t)
  have hF4 : Has n 7 (dpB γ 7 g_posts g_sees g_cold g_men g_debts g_on g_stove) (put 1 (txB γ 1 t_letters t_length t_at t_start t_token t_value t_onTold t_stoveTold) (put 3 (dpB γ 3 d_posts d_sees d_cold d_men d_debts d_on d_stove) (put 7 (dpB γ 7 g_posts g_sees g_cold g_men g_debts g_on g_stove) (put 11 (wtB γ 11 w_hour w_debts w_guards w_stood w_served) (put 21 (paB γ 21 p_next p_known) (put 74 (kpB γ 74 kp_kept) (put 75 (fiB γ 75 f_size f_men f_hours f_asleep) h))))))) := (has_out (has_out (has_put hn_g) (Or.inr (Nat.le_of_ble_eq_true rfl))) (Or.inr (Nat.le_of_ble_eq_true rfl)))
  refine E_cV (as := [.ref (gB γ + 7)]) (k := 1) (rest := []) (u' := (0, 0)) (st' := [.int z2.1]) dX6_depot_8 (q := 11) rfl lkm_X4_readInto lkv_X6_77 (Nat.le_of_ble_eq_true rfl) ckX4 (hF3.at 0 rfl) (hF3.lt 0 (Nat.le_of_ble_eq_true rfl)) ⟨Nat.le_refl _, Nat.le_refl _⟩ (Nat.le_of_ble_eq_true rfl) rfl rfl (m_X4_readInto (N := N)  hF3 hF4 hxz2) rfl rfl rfl ?_
  refine Ev.heap ((congrArg (put 1 (txB γ 1 t_letters t_length z2.2.1 z2.2.2.1 z2.2.2.2.1 z2.2.2.2.2.1 z2.2.2.2.2.2.1 z2.2.2.2.2.2.2.1)) ((put_comm (Or.inr (Nat.le_of_ble_eq_true rfl))).trans (congrArg (put 1 (txB γ 1 t_letters t_length t_at t_start t_token t_value t_onTold t_stoveTold)) ((put_comm (Or.inr (Nat.le_of_ble_eq_true rfl))).trans (congrArg (put 3 (dpB γ 3 d_posts d_sees d_cold d_men d_debts d_on d_stove)) (put_put (k := 7) (cs := (dpB γ 7 g_posts g_sees g_cold g_men g_debts g_on g_stove)) (cs' := (dpB γ 7 z2.2.2.2.2.2.2.2.1 z2.2.2.2.2.2.2.2.2.1 z2.2.2.2.2.2.2.2.2.2.1 z2.2.2.2.2.2.2.2.2.2.2.1 z2.2.2.2.2.2.2.2.2.2.2.2.1 z2.2.2.2.2.2.2.2.2.2.2.2.2.1 z2.2.2.2.2.2.2.2.2.2.2.2.2.2)) (show (4 : Nat) = 4 from rfl))))))).trans (put_put (k := 1) (cs := (txB γ 1 t_letters t_length t_at t_start t_token t_value t_onTold t_stoveTold)) (cs' := (txB γ 1 t_letters t_length z2.2.1 z2.2.2.1 z2.2.2.2.1 z2.2.2.2.2.1 z2.2.2.2.2.2.1 z2.2.2.2.2.2.2.1)) (show (2 : Nat) = 2 from rfl))) ?_
  refine E_istore_n [(1, .int z2.1), (0, .ref (gB γ + 0))] dX6_depot_11 (q := 12) rfl rfl (Nat.le_of_ble_eq_true rfl) rfl ?_
  refine E_iload_n 0 dX6_depot_12 (q := 13) rfl rfl rfl ?_
  refine E_if_lt dX6_depot_13 (t := 39) (by decide) (q := 16) rfl (fun c6 => ?_) (fun c6 => ?_)
  · have hf := if_t c6 hf
    refine E_iload_n 0 dX6_depot_39 (q := 40) rfl rfl rfl ?_
    obtain rfl := Option.some.inj hf
    exact E_iret dX6_depot_40 rfl ⟨rfl, rfl, rfl⟩
  · have hf := if_f c6 hf
    refine E_aload_n 1 dX6_depot_16 (q := 17) rfl rfl rfl ?_
    have hF7 : Has n 0 (poB γ 0 x_track) (put 1 (txB γ 1 t_letters t_length z2.2.1 z2.2.2.1 z2.2.2.2.1 z2.2.2.2.2.1 z2.2.2.2.2.2.1 z2.2.2.2.2.2.2.1) (put 3 (dpB γ 3 d_posts d_sees d_cold d_men d_debts d_on d_stove) (put 7 (dpB γ 7 z2.2.2.2.2.2.2.2.1 z2.2.2.2.2.2.2.2.2.1 z2.2.2.2.2.2.2.2.2.2.1 z2.2.2.2.2.2.2.2.2.2.2.1 z2.2.2.2.2.2.2.2.2.2.2.2.1 z2.2.2.2.2.2.2.2.2.2.2.2.2.1 z2.2.2.2.2.2.2.2.2.2.2.2.2.2) (put 11 (wtB γ 11 w_hour w_debts w_guards w_stood w_served) (put 21 (paB γ 21 p_next p_known) (put 74 (kpB γ 74 kp_kept) (put 75 (fiB γ 75 f_size f_men f_hours f_asleep) h))))))) := (has_out (has_out (has_out (has_out (has_out (has_out (has_out hH_x (Or.inl (Nat.le_of_ble_eq_true rfl))) (Or.inl (Nat.le_of_ble_eq_true rfl))) (Or.inl (Nat.le_of_ble_eq_true rfl))) (Or.inl (Nat.le_of_ble_eq_true rfl))) (Or.inl (Nat.le_of_ble_eq_true rfl))) (Or.inl (Nat.le_of_ble_eq_true rfl))) (Or.inl (Nat.le_of_ble_eq_true rfl)))
    refine E_get 1 dX6_depot_17 (q := 20) rfl ckX6 (Nat.le_of_ble_eq_true rfl) fl_X6_19 (hF7.at 0 rfl) (hF7.lt 0 (Nat.le_of_ble_eq_true rfl)) rfl ?_
    refine E_aload_n 1 dX6_depot_20 (q := 21) rfl rfl rfl ?_
    refine E_get 2 dX6_depot_21 (q := 24) rfl ckX6 (Nat.le_of_ble_eq_true rfl) fl_X6_23 (hF7.at 0 rfl) (hF7.lt 0 (Nat.le_of_ble_eq_true rfl)) rfl ?_
    obtain ⟨z8, hxz8, hf⟩ := bnd hf
    have hF9 : Has n 3 (dpB γ 3 d_posts d_sees d_cold d_men d_debts d_on d_stove) (put 1 (txB γ 1 t_letters t_length z2.2.1 z2.2.2.1 z2.2.2.2.1 z2.2.2.2.2.1 z2.2.2.2.2.2.1 z2.2.2.2.2.2.2.1) (put 3 (dpB γ 3 d_posts d_sees d_cold d_men d_debts d_on d_stove) (put 7 (dpB γ 7 z2.2.2.2.2.2.2.2.1 z2.2.2.2.2.2.2.2.2.1 z2.2.2.2.2.2.2.2.2.2.1 z2.2.2.2.2.2.2.2.2.2.2.1 z2.2.2.2.2.2.2.2.2.2.2.2.1 z2.2.2.2.2.2.2.2.2.2.2.2.2.1 z2.2.2.2.2.2.2.2.2.2.2.2.2.2) (put 11 (wtB γ 11 w_hour w_debts w_guards w_stood w_served) (put 21 (paB γ 21 p_next p_known) (put 74 (kpB γ 74 kp_kept) (put 75 (fiB γ 75 f_size f_men f_hours f_asleep) h))))))) := (has_out (has_put hn_d) (Or.inr (Nat.le_of_ble_eq_true rfl)))
    have hF10 : Has n 7 (dpB γ 7 z2.2.2.2.2.2.2.2.1 z2.2.2.2.2.2.2.2.2.1 z2.2.2.2.2.2.2.2.2.2.1 z2.2.2.2.2.2.2.2.2.2.2.1 z2.2.2.2.2.2.2.2.2.2.2.2.1 z2.2.2.2.2.2.2.2.2.2.2.2.2.1 z2.2.2.2.2.2.2.2.2.2.2.2.2.2) (put 1 (txB γ 1 t_letters t_length z2.2.1 z2.2.2.1 z2.2.2.2.1 z2.2.2.2.2.1 z2.2.2.2.2.2.1 z2.2.2.2.2.2.2.1) (put 3 (dpB γ 3 d_posts d_sees d_cold d_men d_debts d_on d_stove) (put 7 (dpB γ 7 z2.2.2.2.2.2.2.2.1 z2.2.2.2.2.2.2.2.2.1 z2.2.2.2.2.2.2.2.2.2.1 z2.2.2.2.2.2.2.2.2.2.2.1 z2.2.2.2.2.2.2.2.2.2.2.2.1 z2.2.2.2.2.2.2.2.2.2.2.2.2.1 z2.2.2.2.2.2.2.2.2.2.2.2.2.2) (put 11 (wtB γ 11 w_hour w_debts w_guards w_stood w_served) (put 21 (paB γ 21 p_next p_known) (put 74 (kpB γ 74 kp_kept) (put 75 (fiB γ 75 f_size f_men f_hours f_asleep) h))))))) := (has_out (has_out (has_put hn_g) (Or.inr (Nat.le_of_ble_eq_true rfl))) (Or.inr (Nat.le_of_ble_eq_true rfl)))
    refine E_cV (as := [.ref (gB γ + 7)]) (k := 3) (rest := []) (u' := (0, 0)) (st' := []) dX6_depot_24 (q := 27) rfl lkm_X0_become lkv_X6_81 (Nat.le_of_ble_eq_true rfl) ckX0 (hF9.at 0 rfl) (hF9.lt 0 (Nat.le_of_ble_eq_true rfl)) ⟨Nat.le_refl _, Nat.le_refl _⟩ (Nat.le_of_ble_eq_true rfl) rfl rfl (m_X0_become (N := N)  hF9 hF10 hxz8) rfl rfl rfl ?_
    refine Ev.heap ((put_comm (Or.inr (Nat.le_of_ble_eq_true rfl))).trans (congrArg (put 1 (txB γ 1 t_letters t_length z2.2.1 z2.2.2.1 z2.2.2.2.1 z2.2.2.2.2.1 z2.2.2.2.2.2.1 z2.2.2.2.2.2.2.1)) (put_put (k := 3) (cs := (dpB γ 3 d_posts d_sees d_cold d_men d_debts d_on d_stove)) (cs' := (dpB γ 3 z8.1 z8.2.1 z8.2.2.1 z8.2.2.2.1 z8.2.2.2.2.1 z8.2.2.2.2.2.1 z8.2.2.2.2.2.2)) (show (4 : Nat) = 4 from rfl)))) ?_
    refine E_aload_n 1 dX6_depot_27 (q := 28) rfl rfl rfl ?_
    have hF12 : Has n 0 (poB γ 0 x_track) (put 1 (txB γ 1 t_letters t_length z2.2.1 z2.2.2.1 z2.2.2.2.1 z2.2.2.2.2.1 z2.2.2.2.2.2.1 z2.2.2.2.2.2.2.1) (put 3 (dpB γ 3 z8.1 z8.2.1 z8.2.2.1 z8.2.2.2.1 z8.2.2.2.2.1 z8.2.2.2.2.2.1 z8.2.2.2.2.2.2) (put 7 (dpB γ 7 z2.2.2.2.2.2.2.2.1 z2.2.2.2.2.2.2.2.2.1 z2.2.2.2.2.2.2.2.2.2.1 z2.2.2.2.2.2.2.2.2.2.2.1 z2.2.2.2.2.2.2.2.2.2.2.2.1 z2.2.2.2.2.2.2.2.2.2.2.2.2.1 z2.2.2.2.2.2.2.2.2.2.2.2.2.2) (put 11 (wtB γ 11 w_hour w_debts w_guards w_stood w_served) (put 21 (paB γ 21 p_next p_known) (put 74 (kpB γ 74 kp_kept) (put 75 (fiB γ 75 f_size f_men f_hours f_asleep) h))))))) := (has_out (has_out (has_out (has_out (has_out (has_out (has_out hH_x (Or.inl (Nat.le_of_ble_eq_true rfl))) (Or.inl (Nat.le_of_ble_eq_true rfl))) (Or.inl (Nat.le_of_ble_eq_true rfl))) (Or.inl (Nat.le_of_ble_eq_true rfl))) (Or.inl (Nat.le_of_ble_eq_true rfl))) (Or.inl (Nat.le_of_ble_eq_true rfl))) (Or.inl (Nat.le_of_ble_eq_true rfl)))
    refine E_get 0 dX6_depot_28 (q := 31) rfl ckX6 (Nat.le_of_ble_eq_true rfl) fl_X6_10 (hF12.at 0 rfl) (hF12.lt 0 (Nat.le_of_ble_eq_true rfl)) rfl ?_
    refine E_iconst (x := 0) dX6_depot_31 (q := 32) rfl (by decide) ?_
    have hF13 : Has n 1 (txB γ 1 t_letters t_length z2.2.1 z2.2.2.1 z2.2.2.2.1 z2.2.2.2.2.1 z2.2.2.2.2.2.1 z2.2.2.2.2.2.2.1) (put 1 (txB γ 1 t_letters t_length z2.2.1 z2.2.2.1 z2.2.2.2.1 z2.2.2.2.2.1 z2.2.2.2.2.2.1 z2.2.2.2.2.2.2.1) (put 3 (dpB γ 3 z8.1 z8.2.1 z8.2.2.1 z8.2.2.2.1 z8.2.2.2.2.1 z8.2.2.2.2.2.1 z8.2.2.2.2.2.2) (put 7 (dpB γ 7 z2.2.2.2.2.2.2.2.1 z2.2.2.2.2.2.2.2.2.1 z2.2.2.2.2.2.2.2.2.2.1 z2.2.2.2.2.2.2.2.2.2.2.1 z2.2.2.2.2.2.2.2.2.2.2.2.1 z2.2.2.2.2.2.2.2.2.2.2.2.2.1 z2.2.2.2.2.2.2.2.2.2.2.2.2.2) (put 11 (wtB γ 11 w_hour w_debts w_guards w_stood w_served) (put 21 (paB γ 21 p_next p_known) (put 74 (kpB γ 74 kp_kept) (put 75 (fiB γ 75 f_size f_men f_hours f_asleep) h))))))) := (has_put hn_t)
    refine E_put 1 dX6_depot_32 (q := 35) rfl ckX4 (Nat.le_of_ble_eq_true rfl) fl_X6_73 rfl rfl rfl (hF13.at 0 rfl) (hF13.lt 0 (Nat.le_of_ble_eq_true rfl)) (Nat.le_of_ble_eq_true rfl) (up_put (i := 0) (cs' := (txB γ 1 t_letters 0 z2.2.1 z2.2.2.1 z2.2.2.2.1 z2.2.2.2.2.1 z2.2.2.2.2.2.1 z2.2.2.2.2.2.2.1)) (Nat.le_of_ble_eq_true rfl) rfl) ?_
    refine E_aload_n 1 dX6_depot_35 (q := 36) rfl rfl rfl ?_
    obtain ⟨z15, hxz15, hf⟩ := bnd hf
    have hF16 : Has n 0 (poB γ 0 x_track) (put 1 (txB γ 1 t_letters 0 z2.2.1 z2.2.2.1 z2.2.2.2.1 z2.2.2.2.2.1 z2.2.2.2.2.2.1 z2.2.2.2.2.2.2.1) (put 3 (dpB γ 3 z8.1 z8.2.1 z8.2.2.1 z8.2.2.2.1 z8.2.2.2.2.1 z8.2.2.2.2.2.1 z8.2.2.2.2.2.2) (put 7 (dpB γ 7 z2.2.2.2.2.2.2.2.1 z2.2.2.2.2.2.2.2.2.1 z2.2.2.2.2.2.2.2.2.2.1 z2.2.2.2.2.2.2.2.2.2.2.1 z2.2.2.2.2.2.2.2.2.2.2.2.1 z2.2.2.2.2.2.2.2.2.2.2.2.2.1 z2.2.2.2.2.2.2.2.2.2.2.2.2.2) (put 11 (wtB γ 11 w_hour w_debts w_guards w_stood w_served) (put 21 (paB γ 21 p_next p_known) (put 74 (kpB γ 74 kp_kept) (put 75 (fiB γ 75 f_size f_men f_hours f_asleep) h))))))) := (has_out (has_out (has_out (has_out (has_out (has_out (has_out hH_x (Or.inl (Nat.le_of_ble_eq_true rfl))) (Or.inl (Nat.le_of_ble_eq_true rfl))) (Or.inl (Nat.le_of_ble_eq_true rfl))) (Or.inl (Nat.le_of_ble_eq_true rfl))) (Or.inl (Nat.le_of_ble_eq_true rfl))) (Or.inl (Nat.le_of_ble_eq_true rfl))) (Or.inl (Nat.le_of_ble_eq_true rfl)))
    have hF17 : Has n 3 (dpB γ 3 z8.1 z8.2.1 z8.2.2.1 z8.2.2.2.1 z8.2.2.2.2.1 z8.2.2.2.2.2.1 z8.2.2.2.2.2.2) (put 1 (txB γ 1 t_letters 0 z2.2.1 z2.2.2.1 z2.2.2.2.1 z2.2.2.2.2.1 z2.2.2.2.2.2.1 z2.2.2.2.2.2.2.1) (put 3 (dpB γ 3 z8.1 z8.2.1 z8.2.2.1 z8.2.2.2.1 z8.2.2.2.2.1 z8.2.2.2.2.2.1 z8.2.2.2.2.2.2) (put 7 (dpB γ 7 z2.2.2.2.2.2.2.2.1 z2.2.2.2.2.2.2.2.2.1 z2.2.2.2.2.2.2.2.2.2.1 z2.2.2.2.2.2.2.2.2.2.2.1 z2.2.2.2.2.2.2.2.2.2.2.2.1 z2.2.2.2.2.2.2.2.2.2.2.2.2.1 z2.2.2.2.2.2.2.2.2.2.2.2.2.2) (put 11 (wtB γ 11 w_hour w_debts w_guards w_stood w_served) (put 21 (paB γ 21 p_next p_known) (put 74 (kpB γ 74 kp_kept) (put 75 (fiB γ 75 f_size f_men f_hours f_asleep) h))))))) := (has_out (has_put hn_d) (Or.inr (Nat.le_of_ble_eq_true rfl)))
    have hF18 : Has n 11 (wtB γ 11 w_hour w_debts w_guards w_stood w_served) (put 1 (txB γ 1 t_letters 0 z2.2.1 z2.2.2.1 z2.2.2.2.1 z2.2.2.2.2.1 z2.2.2.2.2.2.1 z2.2.2.2.2.2.2.1) (put 3 (dpB γ 3 z8.1 z8.2.1 z8.2.2.1 z8.2.2.2.1 z8.2.2.2.2.1 z8.2.2.2.2.2.1 z8.2.2.2.2.2.2) (put 7 (dpB γ 7 z2.2.2.2.2.2.2.2.1 z2.2.2.2.2.2.2.2.2.1 z2.2.2.2.2.2.2.2.2.2.1 z2.2.2.2.2.2.2.2.2.2.2.1 z2.2.2.2.2.2.2.2.2.2.2.2.1 z2.2.2.2.2.2.2.2.2.2.2.2.2.1 z2.2.2.2.2.2.2.2.2.2.2.2.2.2) (put 11 (wtB γ 11 w_hour w_debts w_guards w_stood w_served) (put 21 (paB γ 21 p_next p_known) (put 74 (kpB γ 74 kp_kept) (put 75 (fiB γ 75 f_size f_men f_hours f_asleep) h))))))) := (has_out (has_out (has_out (has_put hn_w) (Or.inr (Nat.le_of_ble_eq_true rfl))) (Or.inr (Nat.le_of_ble_eq_true rfl))) (Or.inr (Nat.le_of_ble_eq_true rfl)))
    have hF19 : Has n 21 (paB γ 21 p_next p_known) (put 1 (txB γ 1 t_letters 0 z2.2.1 z2.2.2.1 z2.2.2.2.1 z2.2.2.2.2.1 z2.2.2.2.2.2.1 z2.2.2.2.2.2.2.1) (put 3 (dpB γ 3 z8.1 z8.2.1 z8.2.2.1 z8.2.2.2.1 z8.2.2.2.2.1 z8.2.2.2.2.2.1 z8.2.2.2.2.2.2) (put 7 (dpB γ 7 z2.2.2.2.2.2.2.2.1 z2.2.2.2.2.2.2.2.2.1 z2.2.2.2.2.2.2.2.2.2.1 z2.2.2.2.2.2.2.2.2.2.2.1 z2.2.2.2.2.2.2.2.2.2.2.2.1 z2.2.2.2.2.2.2.2.2.2.2.2.2.1 z2.2.2.2.2.2.2.2.2.2.2.2.2.2) (put 11 (wtB γ 11 w_hour w_debts w_guards w_stood w_served) (put 21 (paB γ 21 p_next p_known) (put 74 (kpB γ 74 kp_kept) (put 75 (fiB γ 75 f_size f_men f_hours f_asleep) h))))))) := (has_out (has_out (has_out (has_out (has_put hn_p) (Or.inr (Nat.le_of_ble_eq_true rfl))) (Or.inr (Nat.le_of_ble_eq_true rfl))) (Or.inr (Nat.le_of_ble_eq_true rfl))) (Or.inr (Nat.le_of_ble_eq_true rfl)))
    have hF20 : Has n 74 (kpB γ 74 kp_kept) (put 1 (txB γ 1 t_letters 0 z2.2.1 z2.2.2.1 z2.2.2.2.1 z2.2.2.2.2.1 z2.2.2.2.2.2.1 z2.2.2.2.2.2.2.1) (put 3 (dpB γ 3 z8.1 z8.2.1 z8.2.2.1 z8.2.2.2.1 z8.2.2.2.2.1 z8.2.2.2.2.2.1 z8.2.2.2.2.2.2) (put 7 (dpB γ 7 z2.2.2.2.2.2.2.2.1 z2.2.2.2.2.2.2.2.2.1 z2.2.2.2.2.2.2.2.2.2.1 z2.2.2.2.2.2.2.2.2.2.2.1 z2.2.2.2.2.2.2.2.2.2.2.2.1 z2.2.2.2.2.2.2.2.2.2.2.2.2.1 z2.2.2.2.2.2.2.2.2.2.2.2.2.2) (put 11 (wtB γ 11 w_hour w_debts w_guards w_stood w_served) (put 21 (paB γ 21 p_next p_known) (put 74 (kpB γ 74 kp_kept) (put 75 (fiB γ 75 f_size f_men f_hours f_asleep) h))))))) := (has_out (has_out (has_out (has_out (has_out (has_put hn_kp) (Or.inr (Nat.le_of_ble_eq_true rfl))) (Or.inr (Nat.le_of_ble_eq_true rfl))) (Or.inr (Nat.le_of_ble_eq_true rfl))) (Or.inr (Nat.le_of_ble_eq_true rfl))) (Or.inr (Nat.le_of_ble_eq_true rfl)))
    have hF21 : Has n 75 (fiB γ 75 f_size f_men f_hours f_asleep) (put 1 (txB γ 1 t_letters 0 z2.2.1 z2.2.2.1 z2.2.2.2.1 z2.2.2.2.2.1 z2.2.2.2.2.2.1 z2.2.2.2.2.2.2.1) (put 3 (dpB γ 3 z8.1 z8.2.1 z8.2.2.1 z8.2.2.2.1 z8.2.2.2.2.1 z8.2.2.2.2.2.1 z8.2.2.2.2.2.2) (put 7 (dpB γ 7 z2.2.2.2.2.2.2.2.1 z2.2.2.2.2.2.2.2.2.1 z2.2.2.2.2.2.2.2.2.2.1 z2.2.2.2.2.2.2.2.2.2.2.1 z2.2.2.2.2.2.2.2.2.2.2.2.1 z2.2.2.2.2.2.2.2.2.2.2.2.2.1 z2.2.2.2.2.2.2.2.2.2.2.2.2.2) (put 11 (wtB γ 11 w_hour w_debts w_guards w_stood w_served) (put 21 (paB γ 21 p_next p_known) (put 74 (kpB γ 74 kp_kept) (put 75 (fiB γ 75 f_size f_men f_hours f_asleep) h))))))) := (has_out (has_out (has_out (has_out (has_out (has_out (has_put hn_f) (Or.inr (Nat.le_of_ble_eq_true rfl))) (Or.inr (Nat.le_of_ble_eq_true rfl))) (Or.inr (Nat.le_of_ble_eq_true rfl))) (Or.inr (Nat.le_of_ble_eq_true rfl))) (Or.inr (Nat.le_of_ble_eq_true rfl))) (Or.inr (Nat.le_of_ble_eq_true rfl)))
    refine E_cV (as := []) (k := 0) (rest := []) (u' := (0, 0)) (st' := []) dX6_depot_36 (q := 39) rfl lkm_X6_beginAnew lkv_X6_85 (Nat.le_of_ble_eq_true rfl) ckX6 (hF16.at 0 rfl) (hF16.lt 0 (Nat.le_of_ble_eq_true rfl)) ⟨Nat.le_refl _, Nat.le_refl _⟩ (Nat.le_of_ble_eq_true rfl) rfl rfl (m_X6_beginAnew (N := N)  hF16 hF17 hF18 hF19 hF20 hF21 hxz15) rfl rfl rfl ?_
    refine Ev.heap ((congrArg (put 11 (wtB γ 11 z15.1 z15.2.1 z15.2.2.1 z15.2.2.2.1 z15.2.2.2.2.1)) ((congrArg (put 21 (paB γ 21 p_next z15.2.2.2.2.2.1)) ((congrArg (put 74 (kpB γ 74 z15.2.2.2.2.2.2.1)) ((put_comm (Or.inr (Nat.le_of_ble_eq_true rfl))).trans (congrArg (put 1 (txB γ 1 t_letters 0 z2.2.1 z2.2.2.1 z2.2.2.2.1 z2.2.2.2.2.1 z2.2.2.2.2.2.1 z2.2.2.2.2.2.2.1)) ((put_comm (Or.inr (Nat.le_of_ble_eq_true rfl))).trans (congrArg (put 3 (dpB γ 3 z8.1 z8.2.1 z8.2.2.1 z8.2.2.2.1 z8.2.2.2.2.1 z8.2.2.2.2.2.1 z8.2.2.2.2.2.2)) ((put_comm (Or.inr (Nat.le_of_ble_eq_true rfl))).trans (congrArg (put 7 (dpB γ 7 z2.2.2.2.2.2.2.2.1 z2.2.2.2.2.2.2.2.2.1 z2.2.2.2.2.2.2.2.2.2.1 z2.2.2.2.2.2.2.2.2.2.2.1 z2.2.2.2.2.2.2.2.2.2.2.2.1 z2.2.2.2.2.2.2.2.2.2.2.2.2.1 z2.2.2.2.2.2.2.2.2.2.2.2.2.2)) ((put_comm (Or.inr (Nat.le_of_ble_eq_true rfl))).trans (congrArg (put 11 (wtB γ 11 w_hour w_debts w_guards w_stood w_served)) ((put_comm (Or.inr (Nat.le_of_ble_eq_true rfl))).trans (congrArg (put 21 (paB γ 21 p_next p_known)) ((put_comm (Or.inr (Nat.le_of_ble_eq_true rfl))).trans (congrArg (put 74 (kpB γ 74 kp_kept)) (put_put (k := 75) (cs := (fiB γ 75 f_size f_men f_hours f_asleep)) (cs' := (fiB γ 75 z15.2.2.2.2.2.2.2 f_men f_hours f_asleep)) (show (4 : Nat) = 4 from rfl))))))))))))))).trans ((put_comm (Or.inr (Nat.le_of_ble_eq_true rfl))).trans (congrArg (put 1 (txB γ 1 t_letters 0 z2.2.1 z2.2.2.1 z2.2.2.2.1 z2.2.2.2.2.1 z2.2.2.2.2.2.1 z2.2.2.2.2.2.2.1)) ((put_comm (Or.inr (Nat.le_of_ble_eq_true rfl))).trans (congrArg (put 3 (dpB γ 3 z8.1 z8.2.1 z8.2.2.1 z8.2.2.2.1 z8.2.2.2.2.1 z8.2.2.2.2.2.1 z8.2.2.2.2.2.2)) ((put_comm (Or.inr (Nat.le_of_ble_eq_true rfl))).trans (congrArg (put 7 (dpB γ 7 z2.2.2.2.2.2.2.2.1 z2.2.2.2.2.2.2.2.2.1 z2.2.2.2.2.2.2.2.2.2.1 z2.2.2.2.2.2.2.2.2.2.2.1 z2.2.2.2.2.2.2.2.2.2.2.2.1 z2.2.2.2.2.2.2.2.2.2.2.2.2.1 z2.2.2.2.2.2.2.2.2.2.2.2.2.2)) ((put_comm (Or.inr (Nat.le_of_ble_eq_true rfl))).trans (congrArg (put 11 (wtB γ 11 w_hour w_debts w_guards w_stood w_served)) ((put_comm (Or.inr (Nat.le_of_ble_eq_true rfl))).trans (congrArg (put 21 (paB γ 21 p_next p_known)) (put_put (k := 74) (cs := (kpB γ 74 kp_kept)) (cs' := (kpB γ 74 z15.2.2.2.2.2.2.1)) (show (1 : Nat) = 1 from rfl)))))))))))))).trans ((put_comm (Or.inr (Nat.le_of_ble_eq_true rfl))).trans (congrArg (put 1 (txB γ 1 t_letters 0 z2.2.1 z2.2.2.1 z2.2.2.2.1 z2.2.2.2.2.1 z2.2.2.2.2.2.1 z2.2.2.2.2.2.2.1)) ((put_comm (Or.inr (Nat.le_of_ble_eq_true rfl))).trans (congrArg (put 3 (dpB γ 3 z8.1 z8.2.1 z8.2.2.1 z8.2.2.2.1 z8.2.2.2.2.1 z8.2.2.2.2.2.1 z8.2.2.2.2.2.2)) ((put_comm (Or.inr (Nat.le_of_ble_eq_true rfl))).trans (congrArg (put 7 (dpB γ 7 z2.2.2.2.2.2.2.2.1 z2.2.2.2.2.2.2.2.2.1 z2.2.2.2.2.2.2.2.2.2.1 z2.2.2.2.2.2.2.2.2.2.2.1 z2.2.2.2.2.2.2.2.2.2.2.2.1 z2.2.2.2.2.2.2.2.2.2.2.2.2.1 z2.2.2.2.2.2.2.2.2.2.2.2.2.2)) ((put_comm (Or.inr (Nat.le_of_ble_eq_true rfl))).trans (congrArg (put 11 (wtB γ 11 w_hour w_debts w_guards w_stood w_served)) (put_put (k := 21) (cs := (paB γ 21 p_next p_known)) (cs' := (paB γ 21 p_next z15.2.2.2.2.2.1)) (show (2 : Nat) = 2 from rfl)))))))))))).trans ((put_comm (Or.inr (Nat.le_of_ble_eq_true rfl))).trans (congrArg (put 1 (txB γ 1 t_letters 0 z2.2.1 z2.2.2.1 z2.2.2.2.1 z2.2.2.2.2.1 z2.2.2.2.2.2.1 z2.2.2.2.2.2.2.1)) ((put_comm (Or.inr (Nat.le_of_ble_eq_true rfl))).trans (congrArg (put 3 (dpB γ 3 z8.1 z8.2.1 z8.2.2.1 z8.2.2.2.1 z8.2.2.2.2.1 z8.2.2.2.2.2.1 z8.2.2.2.2.2.2)) ((put_comm (Or.inr (Nat.le_of_ble_eq_true rfl))).trans (congrArg (put 7 (dpB γ 7 z2.2.2.2.2.2.2.2.1 z2.2.2.2.2.2.2.2.2.1 z2.2.2.2.2.2.2.2.2.2.1 z2.2.2.2.2.2.2.2.2.2.2.1 z2.2.2.2.2.2.2.2.2.2.2.2.1 z2.2.2.2.2.2.2.2.2.2.2.2.2.1 z2.2.2.2.2.2.2.2.2.2.2.2.2.2)) (put_put (k := 11) (cs := (wtB γ 11 w_hour w_debts w_guards w_stood w_served)) (cs' := (wtB γ 11 z15.1 z15.2.1 z15.2.2.1 z15.2.2.2.1 z15.2.2.2.2.1)) (show (5 : Nat) = 5 from rfl))))))))) ?_
    refine E_iload_n 0 dX6_depot_39 (q := 40) rfl rfl rfl ?_
    obtain rfl := Option.some.inj hf
    exact E_iret dX6_depot_40 rfl ⟨rfl, rfl, rfl⟩

-- PostRelief.post(II)I
def f_X6_post (N : Nat) (a1 : Int32) (a2 : Int32) (d_posts : Int32) (d_sees : FN) (d_cold : FN) (w_guards : FN) (w_stood : FN) : Option (Int32) :=
  ((f_X6_isPost N a1 d_posts).bind fun z1 => (if z1 = 0 then some (-1) else (if a2 = 0 then ((f_X0_seenFrom N a1 d_posts d_sees).bind fun z4 => some z4) else (if a2 = 1 then (if ix a1 5 = true then some (d_cold (ci a1)) else none) else (if a2 = 2 then (if ix a1 5 = true then some (w_guards (ci a1)) else none) else (if a2 = 3 then (if ix a1 5 = true then some (w_stood (ci a1)) else none) else some (-1)))))))
set_option maxHeartbeats 4000000 in
set_option maxRecDepth 100000 in
theorem m_X6_post {γ : GX} {n : Nat} {N : Nat} {h : HP} {a1 : Int32} {a2 : Int32} {x_track : Int64} {d_posts : Int32} {d_sees : FN} {d_cold : FN} {d_men : Int32} {d_debts : FN} {d_on : Int32} {d_stove : Int32} {w_hour : Int32} {w_debts : FN} {w_guards : FN} {w_stood : FN} {w_served : FN} (hH_x : Has n 0 (poB γ 0 x_track) h) (hH_d : Has n 3 (dpB γ 3 d_posts d_sees d_cold d_men d_debts d_on d_stove) h) (hH_w : Has n 11 (wtB γ 11 w_hour w_debts w_guards w_stood w_served) h) {z : Int32} (hf : f_X6_post N a1 a2 d_posts d_sees d_cold w_guards w_stood = some z)  : Ct γ M_X6_post n h [.ref (gB γ + 0), .int a1, .int a2] (Done (some (.int z)) n h) := by
  refine Ct_of_Ev (by decide) (fun h => by cases h) (Nat.le_of_ble_eq_true rfl) ?_
  show Ev γ M_X6_post (0, 0) n h [(0, .ref (gB γ + 0)), (1, .int a1), (2, .int a2)] 0 [] _
  unfold f_X6_post at hf
  refine E_aload_n 0 dX6_post_0 (q := 1) rfl rfl rfl ?_
  refine E_iload_n 1 dX6_post_1 (q := 2) rfl rfl rfl ?_
  obtain ⟨z1, hxz1, hf⟩ := bnd hf
  refine E_cV (as := [.int a1]) (k := 0) (rest := []) (u' := (0, 0)) (st' := [.int z1]) dX6_post_2 (q := 5) rfl lkm_X6_isPost lkv_X6_88 (Nat.le_of_ble_eq_true rfl) ckX6 (hH_x.at 0 rfl) (hH_x.lt 0 (Nat.le_of_ble_eq_true rfl)) ⟨Nat.le_refl _, Nat.le_refl _⟩ (Nat.le_of_ble_eq_true rfl) rfl rfl (m_X6_isPost (N := N)  hH_x hH_d hxz1) rfl rfl rfl ?_
  refine E_if_ne dX6_post_5 (t := 10) (by decide) (q := 8) rfl (fun c2 => ?_) (fun c2 => ?_)
  · have hf := if_f c2 hf
    refine E_iload_n 2 dX6_post_10 (q := 11) rfl rfl rfl ?_
    by_cases c3 : a2 = 0
    · have hf := if_t c3 hf
      refine E_tabIn (t := 40) dX6_post_11 (by rw [c3]; decide) (by rw [c3]; decide) (by rw [c3]; rfl) (by decide) ?_
      refine E_aload_n 0 dX6_post_40 (q := 41) rfl rfl rfl ?_
      refine E_get 1 dX6_post_41 (q := 44) rfl ckX6 (Nat.le_of_ble_eq_true rfl) fl_X6_19 (hH_x.at 0 rfl) (hH_x.lt 0 (Nat.le_of_ble_eq_true rfl)) rfl ?_
      refine E_iload_n 1 dX6_post_44 (q := 45) rfl rfl rfl ?_
      obtain ⟨z4, hxz4, hf⟩ := bnd hf
      refine E_cV (as := [.int a1]) (k := 3) (rest := []) (u' := (0, 0)) (st' := [.int z4]) dX6_post_45 (q := 48) rfl lkm_X0_seenFrom lkv_X6_91 (Nat.le_of_ble_eq_true rfl) ckX0 (hH_d.at 0 rfl) (hH_d.lt 0 (Nat.le_of_ble_eq_true rfl)) ⟨Nat.le_refl _, Nat.le_refl _⟩ (Nat.le_of_ble_eq_true rfl) rfl rfl (m_X0_seenFrom (N := N)  hH_d hxz4) rfl rfl rfl ?_
      obtain rfl := Option.some.inj hf
      exact E_iret dX6_post_48 rfl ⟨rfl, rfl, rfl⟩
    · have hf := if_f c3 hf
      by_cases c5 : a2 = 1
      · have hf := if_t c5 hf
        refine E_tabIn (t := 49) dX6_post_11 (by rw [c5]; decide) (by rw [c5]; decide) (by rw [c5]; rfl) (by decide) ?_
        refine E_aload_n 0 dX6_post_49 (q := 50) rfl rfl rfl ?_
        refine E_get 1 dX6_post_50 (q := 53) rfl ckX6 (Nat.le_of_ble_eq_true rfl) fl_X6_19 (hH_x.at 0 rfl) (hH_x.lt 0 (Nat.le_of_ble_eq_true rfl)) rfl ?_
        refine E_get 2 dX6_post_53 (q := 56) rfl ckX0 (Nat.le_of_ble_eq_true rfl) fl_X6_95 (hH_d.at 0 rfl) (hH_d.lt 0 (Nat.le_of_ble_eq_true rfl)) rfl ?_
        refine E_iload_n 1 dX6_post_56 (q := 57) rfl rfl rfl ?_
        obtain ⟨g6, hf⟩ := gd hf
        refine E_iald dX6_post_57 (q := 58) rfl (hH_d.at 2 rfl) (hH_d.lt 2 (Nat.le_of_ble_eq_true rfl)) g6 ?_
        obtain rfl := Option.some.inj hf
        exact E_iret dX6_post_58 rfl ⟨rfl, rfl, rfl⟩
      · have hf := if_f c5 hf
        by_cases c7 : a2 = 2
        · have hf := if_t c7 hf
          refine E_tabIn (t := 59) dX6_post_11 (by rw [c7]; decide) (by rw [c7]; decide) (by rw [c7]; rfl) (by decide) ?_
          refine E_aload_n 0 dX6_post_59 (q := 60) rfl rfl rfl ?_
          refine E_get 3 dX6_post_60 (q := 63) rfl ckX6 (Nat.le_of_ble_eq_true rfl) fl_X6_29 (hH_x.at 0 rfl) (hH_x.lt 0 (Nat.le_of_ble_eq_true rfl)) rfl ?_
          refine E_get 2 dX6_post_63 (q := 66) rfl ckX5 (Nat.le_of_ble_eq_true rfl) fl_X6_99 (hH_w.at 0 rfl) (hH_w.lt 0 (Nat.le_of_ble_eq_true rfl)) rfl ?_
          refine E_iload_n 1 dX6_post_66 (q := 67) rfl rfl rfl ?_
          obtain ⟨g8, hf⟩ := gd hf
          refine E_iald dX6_post_67 (q := 68) rfl (hH_w.at 2 rfl) (hH_w.lt 2 (Nat.le_of_ble_eq_true rfl)) g8 ?_
          obtain rfl := Option.some.inj hf
          exact E_iret dX6_post_68 rfl ⟨rfl, rfl, rfl⟩
        · have hf := if_f c7 hf
          by_cases c9 : a2 = 3
          · have hf := if_t c9 hf
            refine E_tabIn (t := 69) dX6_post_11 (by rw [c9]; decide) (by rw [c9]; decide) (by rw [c9]; rfl) (by decide) ?_
            refine E_aload_n 0 dX6_post_69 (q := 70) rfl rfl rfl ?_
            refine E_get 3 dX6_post_70 (q := 73) rfl ckX6 (Nat.le_of_ble_eq_true rfl) fl_X6_29 (hH_x.at 0 rfl) (hH_x.lt 0 (Nat.le_of_ble_eq_true rfl)) rfl ?_
            refine E_get 3 dX6_post_73 (q := 76) rfl ckX5 (Nat.le_of_ble_eq_true rfl) fl_X6_102 (hH_w.at 0 rfl) (hH_w.lt 0 (Nat.le_of_ble_eq_true rfl)) rfl ?_
            refine E_iload_n 1 dX6_post_76 (q := 77) rfl rfl rfl ?_
            obtain ⟨g10, hf⟩ := gd hf
            refine E_iald dX6_post_77 (q := 78) rfl (hH_w.at 3 rfl) (hH_w.lt 3 (Nat.le_of_ble_eq_true rfl)) g10 ?_
            obtain rfl := Option.some.inj hf
            exact E_iret dX6_post_78 rfl ⟨rfl, rfl, rfl⟩
          · have hf := if_f c9 hf
            refine E_tabOut (t := 79) dX6_post_11 (by have g0 := ne_toInt (z := 0) (by decide) c3; have g1 := ne_toInt (z := 1) (by decide) c5; have g2 := ne_toInt (z := 2) (by decide) c7; have g3 := ne_toInt (z := 3) (by decide) c9; omega) (by decide) ?_
            refine E_iconst (x := (-1)) dX6_post_79 (q := 80) rfl (by decide) ?_
            obtain rfl := Option.some.inj hf
            exact E_iret dX6_post_80 rfl ⟨rfl, rfl, rfl⟩
  · have hf := if_t c2 hf
    refine E_iconst (x := (-1)) dX6_post_8 (q := 9) rfl (by decide) ?_
    obtain rfl := Option.some.inj hf
    exact E_iret dX6_post_9 rfl ⟨rfl, rfl, rfl⟩

-- PostRelief.man(II)I
def f_X6_man (N : Nat) (a1 : Int32) (a2 : Int32) (d_men : Int32) (w_debts : FN) (w_guards : FN) : Option (Int32) :=
  ((f_X6_isMan N a1 d_men).bind fun z1 => (if z1 = 0 then some (-1) else ((f_X5_placeOf N a1 w_guards).bind fun z3 => (if a2 = 0 then (if ix a1 6 = true then some (w_debts (ci a1)) else none) else (if a2 = 1 then some z3 else (if a2 = 2 then (if z3 = (-9) then some 0 else ((f_X5_sleepsAt N z3 w_debts w_guards).bind fun z9 => (if z9 = 0 then some 0 else some 1))) else some (-1)))))))
set_option maxHeartbeats 4000000 in
set_option maxRecDepth 100000 in
theorem m_X6_man {γ : GX} {n : Nat} {N : Nat} {h : HP} {a1 : Int32} {a2 : Int32} {x_track : Int64} {d_posts : Int32} {d_sees : FN} {d_cold : FN} {d_men : Int32} {d_debts : FN} {d_on : Int32} {d_stove : Int32} {w_hour : Int32} {w_debts : FN} {w_guards : FN} {w_stood : FN} {w_served : FN} (hH_x : Has n 0 (poB γ 0 x_track) h) (hH_d : Has n 3 (dpB γ 3 d_posts d_sees d_cold d_men d_debts d_on d_stove) h) (hH_w : Has n 11 (wtB γ 11 w_hour w_debts w_guards w_stood w_served) h) {z : Int32} (hf : f_X6_man N a1 a2 d_men w_debts w_guards = some z)  : Ct γ M_X6_man n h [.ref (gB γ + 0), .int a1, .int a2] (Done (some (.int z)) n h) := by
  refine Ct_of_Ev (by decide) (fun h => by cases h) (Nat.le_of_ble_eq_true rfl) ?_
  show Ev γ M_X6_man (0, 0) n h [(0, .ref (gB γ + 0)), (1, .int a1), (2, .int a2)] 0 [] _
  unfold f_X6_man at hf
  refine E_aload_n 0 dX6_man_0 (q := 1) rfl rfl rfl ?_
  refine E_iload_n 1 dX6_man_1 (q := 2) rfl rfl rfl ?_
  obtain ⟨z1, hxz1, hf⟩ := bnd hf
  refine E_cV (as := [.int a1]) (k := 0) (rest := []) (u' := (0, 0)) (st' := [.int z1]) dX6_man_2 (q := 5) rfl lkm_X6_isMan lkv_X6_105 (Nat.le_of_ble_eq_true rfl) ckX6 (hH_x.at 0 rfl) (hH_x.lt 0 (Nat.le_of_ble_eq_true rfl)) ⟨Nat.le_refl _, Nat.le_refl _⟩ (Nat.le_of_ble_eq_true rfl) rfl rfl (m_X6_isMan (N := N)  hH_x hH_d hxz1) rfl rfl rfl ?_
  refine E_if_ne dX6_man_5 (t := 10) (by decide) (q := 8) rfl (fun c2 => ?_) (fun c2 => ?_)
  · have hf := if_f c2 hf
    refine E_aload_n 0 dX6_man_10 (q := 11) rfl rfl rfl ?_
    refine E_get 3 dX6_man_11 (q := 14) rfl ckX6 (Nat.le_of_ble_eq_true rfl) fl_X6_29 (hH_x.at 0 rfl) (hH_x.lt 0 (Nat.le_of_ble_eq_true rfl)) rfl ?_
    refine E_iload_n 1 dX6_man_14 (q := 15) rfl rfl rfl ?_
    obtain ⟨z3, hxz3, hf⟩ := bnd hf
    refine E_cV (as := [.int a1]) (k := 11) (rest := []) (u' := (0, 0)) (st' := [.int z3]) dX6_man_15 (q := 18) rfl lkm_X5_placeOf lkv_X6_108 (Nat.le_of_ble_eq_true rfl) ckX5 (hH_w.at 0 rfl) (hH_w.lt 0 (Nat.le_of_ble_eq_true rfl)) ⟨Nat.le_refl _, Nat.le_refl _⟩ (Nat.le_of_ble_eq_true rfl) rfl rfl (m_X5_placeOf (N := N)  (Nat.le_of_ble_eq_true rfl) hH_w hxz3) rfl rfl rfl ?_
    refine E_istore_n [(3, .int z3), (0, .ref (gB γ + 0)), (1, .int a1), (2, .int a2)] dX6_man_18 (q := 19) rfl rfl (Nat.le_of_ble_eq_true rfl) rfl ?_
    refine E_iload_n 3 dX6_man_19 (q := 20) rfl rfl rfl ?_
    by_cases c4 : a2 = 0
    · have hf := if_t c4 hf
      refine E_tabIn (t := 48) dX6_man_20 (by rw [c4]; decide) (by rw [c4]; decide) (by rw [c4]; rfl) (by decide) ?_
      refine E_aload_n 1 dX6_man_48 (q := 49) rfl rfl rfl ?_
      refine E_get 3 dX6_man_49 (q := 52) rfl ckX6 (Nat.le_of_ble_eq_true rfl) fl_X6_29 (hH_x.at 0 rfl) (hH_x.lt 0 (Nat.le_of_ble_eq_true rfl)) rfl ?_
      refine E_get 1 dX6_man_52 (q := 55) rfl ckX5 (Nat.le_of_ble_eq_true rfl) fl_X6_111 (hH_w.at 0 rfl) (hH_w.lt 0 (Nat.le_of_ble_eq_true rfl)) rfl ?_
      refine E_iload_n 2 dX6_man_55 (q := 56) rfl rfl rfl ?_
      obtain ⟨g5, hf⟩ := gd hf
      refine E_iald dX6_man_56 (q := 57) rfl (hH_w.at 1 rfl) (hH_w.lt 1 (Nat.le_of_ble_eq_true rfl)) g5 ?_
      obtain rfl := Option.some.inj hf
      exact E_iret dX6_man_57 rfl ⟨rfl, rfl, rfl⟩
    · have hf := if_f c4 hf
      by_cases c6 : a2 = 1
      · have hf := if_t c6 hf
        refine E_tabIn (t := 58) dX6_man_20 (by rw [c6]; decide) (by rw [c6]; decide) (by rw [c6]; rfl) (by decide) ?_
        refine E_iload_n 0 dX6_man_58 (q := 59) rfl rfl rfl ?_
        obtain rfl := Option.some.inj hf
        exact E_iret dX6_man_59 rfl ⟨rfl, rfl, rfl⟩
      · have hf := if_f c6 hf
        by_cases c7 : a2 = 2
        · have hf := if_t c7 hf
          refine E_tabIn (t := 60) dX6_man_20 (by rw [c7]; decide) (by rw [c7]; decide) (by rw [c7]; rfl) (by decide) ?_
          refine E_iload_n 0 dX6_man_60 (q := 61) rfl rfl rfl ?_
          refine E_bipush (x := (-9)) dX6_man_61 (q := 63) rfl (by decide) ?_
          refine E_icmp_eq dX6_man_63 (t := 81) (by decide) (q := 66) rfl (fun c8 => ?_) (fun c8 => ?_)
          · have hf := if_t c8 hf
            refine E_iconst (x := 0) dX6_man_81 (q := 82) rfl (by decide) ?_
            obtain rfl := Option.some.inj hf
            exact E_iret dX6_man_82 rfl ⟨rfl, rfl, rfl⟩
          · have hf := if_f c8 hf
            refine E_aload_n 1 dX6_man_66 (q := 67) rfl rfl rfl ?_
            refine E_get 3 dX6_man_67 (q := 70) rfl ckX6 (Nat.le_of_ble_eq_true rfl) fl_X6_29 (hH_x.at 0 rfl) (hH_x.lt 0 (Nat.le_of_ble_eq_true rfl)) rfl ?_
            refine E_iload_n 0 dX6_man_70 (q := 71) rfl rfl rfl ?_
            obtain ⟨z9, hxz9, hf⟩ := bnd hf
            refine E_cV (as := [.int z3]) (k := 11) (rest := []) (u' := (0, 0)) (st' := [.int z9]) dX6_man_71 (q := 74) rfl lkm_X5_sleepsAt lkv_X6_114 (Nat.le_of_ble_eq_true rfl) ckX5 (hH_w.at 0 rfl) (hH_w.lt 0 (Nat.le_of_ble_eq_true rfl)) ⟨Nat.le_refl _, Nat.le_refl _⟩ (Nat.le_of_ble_eq_true rfl) rfl rfl (m_X5_sleepsAt (N := N)  (Nat.le_of_ble_eq_true rfl) hH_w hxz9) rfl rfl rfl ?_
            refine E_if_eq dX6_man_74 (t := 81) (by decide) (q := 77) rfl (fun c10 => ?_) (fun c10 => ?_)
            · have hf := if_t c10 hf
              refine E_iconst (x := 0) dX6_man_81 (q := 82) rfl (by decide) ?_
              obtain rfl := Option.some.inj hf
              exact E_iret dX6_man_82 rfl ⟨rfl, rfl, rfl⟩
            · have hf := if_f c10 hf
              refine E_iconst (x := 1) dX6_man_77 (q := 78) rfl (by decide) ?_
              refine E_goto (q := 82) dX6_man_78 (by decide) ?_
              obtain rfl := Option.some.inj hf
              exact E_iret dX6_man_82 rfl ⟨rfl, rfl, rfl⟩
        · have hf := if_f c7 hf
          refine E_tabOut (t := 83) dX6_man_20 (by have g0 := ne_toInt (z := 0) (by decide) c4; have g1 := ne_toInt (z := 1) (by decide) c6; have g2 := ne_toInt (z := 2) (by decide) c7; omega) (by decide) ?_
          refine E_iconst (x := (-1)) dX6_man_83 (q := 84) rfl (by decide) ?_
          obtain rfl := Option.some.inj hf
          exact E_iret dX6_man_84 rfl ⟨rfl, rfl, rfl⟩
  · have hf := if_t c2 hf
    refine E_iconst (x := (-1)) dX6_man_8 (q := 9) rfl (by decide) ?_
    obtain rfl := Option.some.inj hf
    exact E_iret dX6_man_9 rfl ⟨rfl, rfl, rfl⟩

-- PostRelief.now(I)I
def f_X6_now (N : Nat) (a1 : Int32) (d_posts : Int32) (d_sees : FN) (w_hour : Int32) (w_debts : FN) (w_guards : FN) (p_known : Int32) : Option (Int32) :=
  (if a1 = 0 then some w_hour else (if a1 = 1 then ((f_X5_mannedPosts N w_guards).bind fun z3 => some z3) else (if a1 = 2 then ((f_X5_sleepingPosts N w_debts w_guards).bind fun z5 => some z5) else (if a1 = 3 then ((f_X5_watchedPosts N d_posts d_sees w_debts w_guards).bind fun z7 => some z7) else (if a1 = 4 then some p_known else some (-1))))))
set_option maxHeartbeats 4000000 in
set_option maxRecDepth 100000 in
theorem m_X6_now {γ : GX} {n : Nat} {N : Nat} {h : HP} {a1 : Int32} {x_track : Int64} {d_posts : Int32} {d_sees : FN} {d_cold : FN} {d_men : Int32} {d_debts : FN} {d_on : Int32} {d_stove : Int32} {w_hour : Int32} {w_debts : FN} {w_guards : FN} {w_stood : FN} {w_served : FN} {p_next : Int32} {p_known : Int32} (hH_x : Has n 0 (poB γ 0 x_track) h) (hH_d : Has n 3 (dpB γ 3 d_posts d_sees d_cold d_men d_debts d_on d_stove) h) (hH_w : Has n 11 (wtB γ 11 w_hour w_debts w_guards w_stood w_served) h) (hH_p : Has n 21 (paB γ 21 p_next p_known) h) {z : Int32} (hf : f_X6_now N a1 d_posts d_sees w_hour w_debts w_guards p_known = some z)  : Ct γ M_X6_now n h [.ref (gB γ + 0), .int a1] (Done (some (.int z)) n h) := by
  refine Ct_of_Ev (by decide) (fun h => by cases h) (Nat.le_of_ble_eq_true rfl) ?_
  show Ev γ M_X6_now (0, 0) n h [(0, .ref (gB γ + 0)), (1, .int a1)] 0 [] _
  unfold f_X6_now at hf
  refine E_iload_n 1 dX6_now_0 (q := 1) rfl rfl rfl ?_
  by_cases c1 : a1 = 0
  · have hf := if_t c1 hf
    refine E_tabIn (t := 36) dX6_now_1 (by rw [c1]; decide) (by rw [c1]; decide) (by rw [c1]; rfl) (by decide) ?_
    refine E_aload_n 0 dX6_now_36 (q := 37) rfl rfl rfl ?_
    refine E_get 3 dX6_now_37 (q := 40) rfl ckX6 (Nat.le_of_ble_eq_true rfl) fl_X6_29 (hH_x.at 0 rfl) (hH_x.lt 0 (Nat.le_of_ble_eq_true rfl)) rfl ?_
    refine E_get 0 dX6_now_40 (q := 43) rfl ckX5 (Nat.le_of_ble_eq_true rfl) fl_X6_117 (hH_w.at 0 rfl) (hH_w.lt 0 (Nat.le_of_ble_eq_true rfl)) rfl ?_
    obtain rfl := Option.some.inj hf
    exact E_iret dX6_now_43 rfl ⟨rfl, rfl, rfl⟩
  · have hf := if_f c1 hf
    by_cases c2 : a1 = 1
    · have hf := if_t c2 hf
      refine E_tabIn (t := 44) dX6_now_1 (by rw [c2]; decide) (by rw [c2]; decide) (by rw [c2]; rfl) (by decide) ?_
      refine E_aload_n 0 dX6_now_44 (q := 45) rfl rfl rfl ?_
      refine E_get 3 dX6_now_45 (q := 48) rfl ckX6 (Nat.le_of_ble_eq_true rfl) fl_X6_29 (hH_x.at 0 rfl) (hH_x.lt 0 (Nat.le_of_ble_eq_true rfl)) rfl ?_
      obtain ⟨z3, hxz3, hf⟩ := bnd hf
      refine E_cV (as := []) (k := 11) (rest := []) (u' := (0, 0)) (st' := [.int z3]) dX6_now_48 (q := 51) rfl lkm_X5_mannedPosts lkv_X6_120 (Nat.le_of_ble_eq_true rfl) ckX5 (hH_w.at 0 rfl) (hH_w.lt 0 (Nat.le_of_ble_eq_true rfl)) ⟨Nat.le_refl _, Nat.le_refl _⟩ (Nat.le_of_ble_eq_true rfl) rfl rfl (m_X5_mannedPosts (N := N)  (Nat.le_of_ble_eq_true rfl) hH_w hxz3) rfl rfl rfl ?_
      obtain rfl := Option.some.inj hf
      exact E_iret dX6_now_51 rfl ⟨rfl, rfl, rfl⟩
    · have hf := if_f c2 hf
      by_cases c4 : a1 = 2
      · have hf := if_t c4 hf
        refine E_tabIn (t := 52) dX6_now_1 (by rw [c4]; decide) (by rw [c4]; decide) (by rw [c4]; rfl) (by decide) ?_
        refine E_aload_n 0 dX6_now_52 (q := 53) rfl rfl rfl ?_
        refine E_get 3 dX6_now_53 (q := 56) rfl ckX6 (Nat.le_of_ble_eq_true rfl) fl_X6_29 (hH_x.at 0 rfl) (hH_x.lt 0 (Nat.le_of_ble_eq_true rfl)) rfl ?_
        obtain ⟨z5, hxz5, hf⟩ := bnd hf
        refine E_cV (as := []) (k := 11) (rest := []) (u' := (0, 0)) (st' := [.int z5]) dX6_now_56 (q := 59) rfl lkm_X5_sleepingPosts lkv_X6_124 (Nat.le_of_ble_eq_true rfl) ckX5 (hH_w.at 0 rfl) (hH_w.lt 0 (Nat.le_of_ble_eq_true rfl)) ⟨Nat.le_refl _, Nat.le_refl _⟩ (Nat.le_of_ble_eq_true rfl) rfl rfl (m_X5_sleepingPosts (N := N)  (Nat.le_of_ble_eq_true rfl) hH_w hxz5) rfl rfl rfl ?_
        obtain rfl := Option.some.inj hf
        exact E_iret dX6_now_59 rfl ⟨rfl, rfl, rfl⟩
      · have hf := if_f c4 hf
        by_cases c6 : a1 = 3
        · have hf := if_t c6 hf
          refine E_tabIn (t := 60) dX6_now_1 (by rw [c6]; decide) (by rw [c6]; decide) (by rw [c6]; rfl) (by decide) ?_
          refine E_aload_n 0 dX6_now_60 (q := 61) rfl rfl rfl ?_
          refine E_get 3 dX6_now_61 (q := 64) rfl ckX6 (Nat.le_of_ble_eq_true rfl) fl_X6_29 (hH_x.at 0 rfl) (hH_x.lt 0 (Nat.le_of_ble_eq_true rfl)) rfl ?_
          refine E_aload_n 0 dX6_now_64 (q := 65) rfl rfl rfl ?_
          refine E_get 1 dX6_now_65 (q := 68) rfl ckX6 (Nat.le_of_ble_eq_true rfl) fl_X6_19 (hH_x.at 0 rfl) (hH_x.lt 0 (Nat.le_of_ble_eq_true rfl)) rfl ?_
          obtain ⟨z7, hxz7, hf⟩ := bnd hf
          refine E_cV (as := [.ref (gB γ + 3)]) (k := 11) (rest := []) (u' := (0, 0)) (st' := [.int z7]) dX6_now_68 (q := 71) rfl lkm_X5_watchedPosts lkv_X6_127 (Nat.le_of_ble_eq_true rfl) ckX5 (hH_w.at 0 rfl) (hH_w.lt 0 (Nat.le_of_ble_eq_true rfl)) ⟨Nat.le_refl _, Nat.le_refl _⟩ (Nat.le_of_ble_eq_true rfl) rfl rfl (m_X5_watchedPosts (N := N)  (Nat.le_of_ble_eq_true rfl) hH_d hH_w hxz7) rfl rfl rfl ?_
          obtain rfl := Option.some.inj hf
          exact E_iret dX6_now_71 rfl ⟨rfl, rfl, rfl⟩
        · have hf := if_f c6 hf
          by_cases c8 : a1 = 4
          · have hf := if_t c8 hf
            refine E_tabIn (t := 72) dX6_now_1 (by rw [c8]; decide) (by rw [c8]; decide) (by rw [c8]; rfl) (by decide) ?_
            refine E_aload_n 0 dX6_now_72 (q := 73) rfl rfl rfl ?_
            refine E_get 5 dX6_now_73 (q := 76) rfl ckX6 (Nat.le_of_ble_eq_true rfl) fl_X6_39 (hH_x.at 0 rfl) (hH_x.lt 0 (Nat.le_of_ble_eq_true rfl)) rfl ?_
            refine E_get 2 dX6_now_76 (q := 79) rfl ckX2 (Nat.le_of_ble_eq_true rfl) fl_X6_130 (hH_p.at 0 rfl) (hH_p.lt 0 (Nat.le_of_ble_eq_true rfl)) rfl ?_
            obtain rfl := Option.some.inj hf
            exact E_iret dX6_now_79 rfl ⟨rfl, rfl, rfl⟩
          · have hf := if_f c8 hf
            refine E_tabOut (t := 80) dX6_now_1 (by have g0 := ne_toInt (z := 0) (by decide) c1; have g1 := ne_toInt (z := 1) (by decide) c2; have g2 := ne_toInt (z := 2) (by decide) c4; have g3 := ne_toInt (z := 3) (by decide) c6; have g4 := ne_toInt (z := 4) (by decide) c8; omega) (by decide) ?_
            refine E_iconst (x := (-1)) dX6_now_80 (q := 81) rfl (by decide) ?_
            obtain rfl := Option.some.inj hf
            exact E_iret dX6_now_81 rfl ⟨rfl, rfl, rfl⟩

-- PostRelief.sends(II)I
def f_X6_sends (N : Nat) (a1 : Int32) (a2 : Int32) (d_posts : Int32) (d_men : Int32) (w_hour : Int32) (w_debts : FN) (w_guards : FN) (w_stood : FN) (w_served : FN) (p_next : Int32) (p_known : Int32) (P_pw : (Nat → WtT)) : Option (Int32 × FN × FN × Int32 × Int32 × (Nat → WtT)) :=
  ((f_X6_isMan N a1 d_men).bind fun z1 => (if z1 = 0 then some ((-1), w_guards, w_stood, p_next, p_known, P_pw) else ((f_X6_isPost N a2 d_posts).bind fun z5 => (if z5 = 0 then some ((-1), w_guards, w_stood, p_next, p_known, P_pw) else (if ix a2 5 = true then (if (w_guards (ci a2)) = (-9) then ((f_X5_placeOf N a1 w_guards).bind fun z10 => (if z10 = (-9) then ((f_X2_remember N w_hour w_debts w_guards w_stood w_served p_next p_known P_pw).bind fun z12 => ((f_X5_place N a1 a2 w_guards w_stood).bind fun z17 => ((f_X5_mannedPosts N z17.1).bind fun z21 => ((f_J6_bitCount N z21).bind fun z23 => some (z23, z17.1, z17.2, z12.1, z12.2.1, z12.2.2))))) else some ((-2), w_guards, w_stood, p_next, p_known, P_pw))) else some ((-2), w_guards, w_stood, p_next, p_known, P_pw)) else none)))))
set_option maxHeartbeats 4000000 in
set_option maxRecDepth 100000 in
theorem m_X6_sends {γ : GX} {n : Nat} {N : Nat} {h : HP} {a1 : Int32} {a2 : Int32} {x_track : Int64} {d_posts : Int32} {d_sees : FN} {d_cold : FN} {d_men : Int32} {d_debts : FN} {d_on : Int32} {d_stove : Int32} {w_hour : Int32} {w_debts : FN} {w_guards : FN} {w_stood : FN} {w_served : FN} {p_next : Int32} {p_known : Int32} {P_pw : (Nat → WtT)} (hH_x : Has n 0 (poB γ 0 x_track) h) (hH_d : Has n 3 (dpB γ 3 d_posts d_sees d_cold d_men d_debts d_on d_stove) h) (hH_w : Has n 11 (wtB γ 11 w_hour w_debts w_guards w_stood w_served) h) (hH_p : Has n 21 (paB γ 21 p_next p_known) h) (hH_P : Has n 23 (pwB γ 23 P_pw) h) {z : Int32 × FN × FN × Int32 × Int32 × (Nat → WtT)} (hf : f_X6_sends N a1 a2 d_posts d_men w_hour w_debts w_guards w_stood w_served p_next p_known P_pw = some z)  : Ct γ M_X6_sends n h [.ref (gB γ + 0), .int a1, .int a2] (Done (some (.int z.1)) n (put 11 (wtB γ 11 w_hour w_debts z.2.1 z.2.2.1 w_served) (put 21 (paB γ 21 z.2.2.2.1 z.2.2.2.2.1) (put 23 (pwB γ 23 z.2.2.2.2.2) h)))) := by
  have hn_w : 11 + 5 ≤ n := hH_w.1
  have hn_p : 21 + 2 ≤ n := hH_p.1
  have hn_P : 23 + 50 ≤ n := hH_P.1
  refine Ct.heap (h := (put 11 (wtB γ 11 w_hour w_debts w_guards w_stood w_served) (put 21 (paB γ 21 p_next p_known) (put 23 (pwB γ 23 P_pw) h)))) ((congrArg (put 11 (wtB γ 11 w_hour w_debts w_guards w_stood w_served)) ((congrArg (put 21 (paB γ 21 p_next p_known)) (put_self hH_P)).trans (put_self hH_p))).trans (put_self hH_w)).symm ?_
  refine Ct_of_Ev (by decide) (fun h => by cases h) (Nat.le_of_ble_eq_true rfl) ?_
  show Ev γ M_X6_sends (0, 0) n (put 11 (wtB γ 11 w_hour w_debts w_guards w_stood w_served) (put 21 (paB γ 21 p_next p_known) (put 23 (pwB γ 23 P_pw) h))) [(0, .ref (gB γ + 0)), (1, .int a1), (2, .int a2)] 0 [] _
  unfold f_X6_sends at hf
  refine E_aload_n 0 dX6_sends_0 (q := 1) rfl rfl rfl ?_
  refine E_iload_n 1 dX6_sends_1 (q := 2) rfl rfl rfl ?_
  obtain ⟨z1, hxz1, hf⟩ := bnd hf
  have hF2 : Has n 0 (poB γ 0 x_track) (put 11 (wtB γ 11 w_hour w_debts w_guards w_stood w_served) (put 21 (paB γ 21 p_next p_known) (put 23 (pwB γ 23 P_pw) h))) := (has_out (has_out (has_out hH_x (Or.inl (Nat.le_of_ble_eq_true rfl))) (Or.inl (Nat.le_of_ble_eq_true rfl))) (Or.inl (Nat.le_of_ble_eq_true rfl)))
  have hF3 : Has n 3 (dpB γ 3 d_posts d_sees d_cold d_men d_debts d_on d_stove) (put 11 (wtB γ 11 w_hour w_debts w_guards w_stood w_served) (put 21 (paB γ 21 p_next p_known) (put 23 (pwB γ 23 P_pw) h))) := (has_out (has_out (has_out hH_d (Or.inl (Nat.le_of_ble_eq_true rfl))) (Or.inl (Nat.le_of_ble_eq_true rfl))) (Or.inl (Nat.le_of_ble_eq_true rfl)))
  refine E_cV (as := [.int a1]) (k := 0) (rest := []) (u' := (0, 0)) (st' := [.int z1]) dX6_sends_2 (q := 5) rfl lkm_X6_isMan lkv_X6_105 (Nat.le_of_ble_eq_true rfl) ckX6 (hF2.at 0 rfl) (hF2.lt 0 (Nat.le_of_ble_eq_true rfl)) ⟨Nat.le_refl _, Nat.le_refl _⟩ (Nat.le_of_ble_eq_true rfl) rfl rfl (m_X6_isMan (N := N)  hF2 hF3 hxz1) rfl rfl rfl ?_
  refine E_if_eq dX6_sends_5 (t := 16) (by decide) (q := 8) rfl (fun c4 => ?_) (fun c4 => ?_)
  · have hf := if_t c4 hf
    refine E_iconst (x := (-1)) dX6_sends_16 (q := 17) rfl (by decide) ?_
    obtain rfl := Option.some.inj hf
    exact E_iret dX6_sends_17 rfl ⟨rfl, rfl, rfl⟩
  · have hf := if_f c4 hf
    refine E_aload_n 0 dX6_sends_8 (q := 9) rfl rfl rfl ?_
    refine E_iload_n 2 dX6_sends_9 (q := 10) rfl rfl rfl ?_
    obtain ⟨z5, hxz5, hf⟩ := bnd hf
    refine E_cV (as := [.int a2]) (k := 0) (rest := []) (u' := (0, 0)) (st' := [.int z5]) dX6_sends_10 (q := 13) rfl lkm_X6_isPost lkv_X6_88 (Nat.le_of_ble_eq_true rfl) ckX6 (hF2.at 0 rfl) (hF2.lt 0 (Nat.le_of_ble_eq_true rfl)) ⟨Nat.le_refl _, Nat.le_refl _⟩ (Nat.le_of_ble_eq_true rfl) rfl rfl (m_X6_isPost (N := N)  hF2 hF3 hxz5) rfl rfl rfl ?_
    refine E_if_ne dX6_sends_13 (t := 18) (by decide) (q := 16) rfl (fun c6 => ?_) (fun c6 => ?_)
    · have hf := if_f c6 hf
      refine E_aload_n 0 dX6_sends_18 (q := 19) rfl rfl rfl ?_
      refine E_get 3 dX6_sends_19 (q := 22) rfl ckX6 (Nat.le_of_ble_eq_true rfl) fl_X6_29 (hF2.at 0 rfl) (hF2.lt 0 (Nat.le_of_ble_eq_true rfl)) rfl ?_
      have hF7 : Has n 11 (wtB γ 11 w_hour w_debts w_guards w_stood w_served) (put 11 (wtB γ 11 w_hour w_debts w_guards w_stood w_served) (put 21 (paB γ 21 p_next p_known) (put 23 (pwB γ 23 P_pw) h))) := (has_put hn_w)
      refine E_get 2 dX6_sends_22 (q := 25) rfl ckX5 (Nat.le_of_ble_eq_true rfl) fl_X6_99 (hF7.at 0 rfl) (hF7.lt 0 (Nat.le_of_ble_eq_true rfl)) rfl ?_
      refine E_iload_n 2 dX6_sends_25 (q := 26) rfl rfl rfl ?_
      obtain ⟨g8, hf⟩ := gd hf
      refine E_iald dX6_sends_26 (q := 27) rfl (hF7.at 2 rfl) (hF7.lt 2 (Nat.le_of_ble_eq_true rfl)) g8 ?_
      refine E_bipush (x := (-9)) dX6_sends_27 (q := 29) rfl (by decide) ?_
      refine E_icmp_ne dX6_sends_29 (t := 45) (by decide) (q := 32) rfl (fun c9 => ?_) (fun c9 => ?_)
      · have hf := if_f c9 hf
        refine E_bipush (x := (-2)) dX6_sends_45 (q := 47) rfl (by decide) ?_
        obtain rfl := Option.some.inj hf
        exact E_iret dX6_sends_47 rfl ⟨rfl, rfl, rfl⟩
      · have hf := if_t c9 hf
        refine E_aload_n 0 dX6_sends_32 (q := 33) rfl rfl rfl ?_
        refine E_get 3 dX6_sends_33 (q := 36) rfl ckX6 (Nat.le_of_ble_eq_true rfl) fl_X6_29 (hF2.at 0 rfl) (hF2.lt 0 (Nat.le_of_ble_eq_true rfl)) rfl ?_
        refine E_iload_n 1 dX6_sends_36 (q := 37) rfl rfl rfl ?_
        obtain ⟨z10, hxz10, hf⟩ := bnd hf
        refine E_cV (as := [.int a1]) (k := 11) (rest := []) (u' := (0, 0)) (st' := [.int z10]) dX6_sends_37 (q := 40) rfl lkm_X5_placeOf lkv_X6_108 (Nat.le_of_ble_eq_true rfl) ckX5 (hF7.at 0 rfl) (hF7.lt 0 (Nat.le_of_ble_eq_true rfl)) ⟨Nat.le_refl _, Nat.le_refl _⟩ (Nat.le_of_ble_eq_true rfl) rfl rfl (m_X5_placeOf (N := N)  (Nat.le_of_ble_eq_true rfl) hF7 hxz10) rfl rfl rfl ?_
        refine E_bipush (x := (-9)) dX6_sends_40 (q := 42) rfl (by decide) ?_
        refine E_icmp_eq dX6_sends_42 (t := 48) (by decide) (q := 45) rfl (fun c11 => ?_) (fun c11 => ?_)
        · have hf := if_t c11 hf
          refine E_aload_n 0 dX6_sends_48 (q := 49) rfl rfl rfl ?_
          refine E_get 5 dX6_sends_49 (q := 52) rfl ckX6 (Nat.le_of_ble_eq_true rfl) fl_X6_39 (hF2.at 0 rfl) (hF2.lt 0 (Nat.le_of_ble_eq_true rfl)) rfl ?_
          refine E_aload_n 0 dX6_sends_52 (q := 53) rfl rfl rfl ?_
          refine E_get 3 dX6_sends_53 (q := 56) rfl ckX6 (Nat.le_of_ble_eq_true rfl) fl_X6_29 (hF2.at 0 rfl) (hF2.lt 0 (Nat.le_of_ble_eq_true rfl)) rfl ?_
          obtain ⟨z12, hxz12, hf⟩ := bnd hf
          have hF13 : Has n 21 (paB γ 21 p_next p_known) (put 11 (wtB γ 11 w_hour w_debts w_guards w_stood w_served) (put 21 (paB γ 21 p_next p_known) (put 23 (pwB γ 23 P_pw) h))) := (has_out (has_put hn_p) (Or.inr (Nat.le_of_ble_eq_true rfl)))
          have hF14 : Has n 23 (pwB γ 23 P_pw) (put 11 (wtB γ 11 w_hour w_debts w_guards w_stood w_served) (put 21 (paB γ 21 p_next p_known) (put 23 (pwB γ 23 P_pw) h))) := (has_out (has_out (has_put hn_P) (Or.inr (Nat.le_of_ble_eq_true rfl))) (Or.inr (Nat.le_of_ble_eq_true rfl)))
          refine E_cV (as := [.ref (gB γ + 11)]) (k := 21) (rest := []) (u' := (0, 0)) (st' := []) dX6_sends_56 (q := 59) rfl lkm_X2_remember lkv_X6_133 (Nat.le_of_ble_eq_true rfl) ckX2 (hF13.at 0 rfl) (hF13.lt 0 (Nat.le_of_ble_eq_true rfl)) ⟨Nat.le_refl _, Nat.le_refl _⟩ (Nat.le_of_ble_eq_true rfl) rfl rfl (m_X2_remember (N := N)  hF7 hF13 hF14 hxz12) rfl rfl rfl ?_
          refine Ev.heap ((congrArg (put 21 (paB γ 21 z12.1 z12.2.1)) ((put_comm (Or.inr (Nat.le_of_ble_eq_true rfl))).trans (congrArg (put 11 (wtB γ 11 w_hour w_debts w_guards w_stood w_served)) ((put_comm (Or.inr (Nat.le_of_ble_eq_true rfl))).trans (congrArg (put 21 (paB γ 21 p_next p_known)) (put_put (k := 23) (cs := (pwB γ 23 P_pw)) (cs' := (pwB γ 23 z12.2.2)) (show (50 : Nat) = 50 from rfl))))))).trans ((put_comm (Or.inr (Nat.le_of_ble_eq_true rfl))).trans (congrArg (put 11 (wtB γ 11 w_hour w_debts w_guards w_stood w_served)) (put_put (k := 21) (cs := (paB γ 21 p_next p_known)) (cs' := (paB γ 21 z12.1 z12.2.1)) (show (2 : Nat) = 2 from rfl))))) ?_
          refine E_aload_n 0 dX6_sends_59 (q := 60) rfl rfl rfl ?_
          have hF16 : Has n 0 (poB γ 0 x_track) (put 11 (wtB γ 11 w_hour w_debts w_guards w_stood w_served) (put 21 (paB γ 21 z12.1 z12.2.1) (put 23 (pwB γ 23 z12.2.2) h))) := (has_out (has_out (has_out hH_x (Or.inl (Nat.le_of_ble_eq_true rfl))) (Or.inl (Nat.le_of_ble_eq_true rfl))) (Or.inl (Nat.le_of_ble_eq_true rfl)))
          refine E_get 3 dX6_sends_60 (q := 63) rfl ckX6 (Nat.le_of_ble_eq_true rfl) fl_X6_29 (hF16.at 0 rfl) (hF16.lt 0 (Nat.le_of_ble_eq_true rfl)) rfl ?_
          refine E_iload_n 1 dX6_sends_63 (q := 64) rfl rfl rfl ?_
          refine E_iload_n 2 dX6_sends_64 (q := 65) rfl rfl rfl ?_
          obtain ⟨z17, hxz17, hf⟩ := bnd hf
          have hF18 : Has n 11 (wtB γ 11 w_hour w_debts w_guards w_stood w_served) (put 11 (wtB γ 11 w_hour w_debts w_guards w_stood w_served) (put 21 (paB γ 21 z12.1 z12.2.1) (put 23 (pwB γ 23 z12.2.2) h))) := (has_put hn_w)
          refine E_cV (as := [.int a1, .int a2]) (k := 11) (rest := []) (u' := (0, 0)) (st' := []) dX6_sends_65 (q := 68) rfl lkm_X5_place lkv_X6_137 (Nat.le_of_ble_eq_true rfl) ckX5 (hF18.at 0 rfl) (hF18.lt 0 (Nat.le_of_ble_eq_true rfl)) ⟨Nat.le_refl _, Nat.le_refl _⟩ (Nat.le_of_ble_eq_true rfl) rfl rfl (m_X5_place (N := N)  (Nat.le_of_ble_eq_true rfl) hF18 hxz17) rfl rfl rfl ?_
          refine Ev.heap (put_put (k := 11) (cs := (wtB γ 11 w_hour w_debts w_guards w_stood w_served)) (cs' := (wtB γ 11 w_hour w_debts z17.1 z17.2 w_served)) (show (5 : Nat) = 5 from rfl)) ?_
          refine E_aload_n 0 dX6_sends_68 (q := 69) rfl rfl rfl ?_
          have hF20 : Has n 0 (poB γ 0 x_track) (put 11 (wtB γ 11 w_hour w_debts z17.1 z17.2 w_served) (put 21 (paB γ 21 z12.1 z12.2.1) (put 23 (pwB γ 23 z12.2.2) h))) := (has_out (has_out (has_out hH_x (Or.inl (Nat.le_of_ble_eq_true rfl))) (Or.inl (Nat.le_of_ble_eq_true rfl))) (Or.inl (Nat.le_of_ble_eq_true rfl)))
          refine E_get 3 dX6_sends_69 (q := 72) rfl ckX6 (Nat.le_of_ble_eq_true rfl) fl_X6_29 (hF20.at 0 rfl) (hF20.lt 0 (Nat.le_of_ble_eq_true rfl)) rfl ?_
          obtain ⟨z21, hxz21, hf⟩ := bnd hf
          have hF22 : Has n 11 (wtB γ 11 w_hour w_debts z17.1 z17.2 w_served) (put 11 (wtB γ 11 w_hour w_debts z17.1 z17.2 w_served) (put 21 (paB γ 21 z12.1 z12.2.1) (put 23 (pwB γ 23 z12.2.2) h))) := (has_put hn_w)
          refine E_cV (as := []) (k := 11) (rest := []) (u' := (0, 0)) (st' := [.int z21]) dX6_sends_72 (q := 75) rfl lkm_X5_mannedPosts lkv_X6_120 (Nat.le_of_ble_eq_true rfl) ckX5 (hF22.at 0 rfl) (hF22.lt 0 (Nat.le_of_ble_eq_true rfl)) ⟨Nat.le_refl _, Nat.le_refl _⟩ (Nat.le_of_ble_eq_true rfl) rfl rfl (m_X5_mannedPosts (N := N)  (Nat.le_of_ble_eq_true rfl) hF22 hxz21) rfl rfl rfl ?_
          obtain ⟨z23, hxz23, hf⟩ := bnd hf
          refine E_cS (as := [.int z21]) (rest := []) (u' := (0, 0)) (st' := [.int z23]) dX6_sends_75 (q := 78) rfl lkm_J6_bitCount lks_X6_141 (Nat.le_of_ble_eq_true rfl) ⟨Nat.le_refl _, Nat.le_refl _⟩ (Nat.le_of_ble_eq_true rfl) rfl rfl (m_J6_bitCount (N := N)  hxz23) rfl rfl rfl ?_
          obtain rfl := Option.some.inj hf
          exact E_iret dX6_sends_78 rfl ⟨rfl, rfl, rfl⟩
        · have hf := if_f c11 hf
          refine E_bipush (x := (-2)) dX6_sends_45 (q := 47) rfl (by decide) ?_
          obtain rfl := Option.some.inj hf
          exact E_iret dX6_sends_47 rfl ⟨rfl, rfl, rfl⟩
    · have hf := if_t c6 hf
      refine E_iconst (x := (-1)) dX6_sends_16 (q := 17) rfl (by decide) ?_
      obtain rfl := Option.some.inj hf
      exact E_iret dX6_sends_17 rfl ⟨rfl, rfl, rfl⟩

-- PostRelief.calls(I)I
def f_X6_calls (N : Nat) (a1 : Int32) (d_posts : Int32) (w_hour : Int32) (w_debts : FN) (w_guards : FN) (w_stood : FN) (w_served : FN) (p_next : Int32) (p_known : Int32) (P_pw : (Nat → WtT)) : Option (Int32 × FN × FN × Int32 × Int32 × (Nat → WtT)) :=
  ((f_X6_isPost N a1 d_posts).bind fun z1 => (if z1 = 0 then some ((-1), w_guards, w_stood, p_next, p_known, P_pw) else (if ix a1 5 = true then (if (w_guards (ci a1)) = (-9) then some ((-2), w_guards, w_stood, p_next, p_known, P_pw) else ((f_X2_remember N w_hour w_debts w_guards w_stood w_served p_next p_known P_pw).bind fun z8 => ((f_X5_place N (-9) a1 w_guards w_stood).bind fun z13 => some ((w_guards (ci a1)), z13.1, z13.2, z8.1, z8.2.1, z8.2.2)))) else none)))
set_option maxHeartbeats 4000000 in
set_option maxRecDepth 100000 in
theorem m_X6_calls {γ : GX} {n : Nat} {N : Nat} {h : HP} {a1 : Int32} {x_track : Int64} {d_posts : Int32} {d_sees : FN} {d_cold : FN} {d_men : Int32} {d_debts : FN} {d_on : Int32} {d_stove : Int32} {w_hour : Int32} {w_debts : FN} {w_guards : FN} {w_stood : FN} {w_served : FN} {p_next : Int32} {p_known : Int32} {P_pw : (Nat → WtT)} (hH_x : Has n 0 (poB γ 0 x_track) h) (hH_d : Has n 3 (dpB γ 3 d_posts d_sees d_cold d_men d_debts d_on d_stove) h) (hH_w : Has n 11 (wtB γ 11 w_hour w_debts w_guards w_stood w_served) h) (hH_p : Has n 21 (paB γ 21 p_next p_known) h) (hH_P : Has n 23 (pwB γ 23 P_pw) h) {z : Int32 × FN × FN × Int32 × Int32 × (Nat → WtT)} (hf : f_X6_calls N a1 d_posts w_hour w_debts w_guards w_stood w_served p_next p_known P_pw = some z)  : Ct γ M_X6_calls n h [.ref (gB γ + 0), .int a1] (Done (some (.int z.1)) n (put 11 (wtB γ 11 w_hour w_debts z.2.1 z.2.2.1 w_served) (put 21 (paB γ 21 z.2.2.2.1 z.2.2.2.2.1) (put 23 (pwB γ 23 z.2.2.2.2.2) h)))) := by
  have hn_w : 11 + 5 ≤ n := hH_w.1
  have hn_p : 21 + 2 ≤ n := hH_p.1
  have hn_P : 23 + 50 ≤ n := hH_P.1
  refine Ct.heap (h := (put 11 (wtB γ 11 w_hour w_debts w_guards w_stood w_served) (put 21 (paB γ 21 p_next p_known) (put 23 (pwB γ 23 P_pw) h)))) ((congrArg (put 11 (wtB γ 11 w_hour w_debts w_guards w_stood w_served)) ((congrArg (put 21 (paB γ 21 p_next p_known)) (put_self hH_P)).trans (put_self hH_p))).trans (put_self hH_w)).symm ?_
  refine Ct_of_Ev (by decide) (fun h => by cases h) (Nat.le_of_ble_eq_true rfl) ?_
  show Ev γ M_X6_calls (0, 0) n (put 11 (wtB γ 11 w_hour w_debts w_guards w_stood w_served) (put 21 (paB γ 21 p_next p_known) (put 23 (pwB γ 23 P_pw) h))) [(0, .ref (gB γ + 0)), (1, .int a1)] 0 [] _
  unfold f_X6_calls at hf
  refine E_aload_n 0 dX6_calls_0 (q := 1) rfl rfl rfl ?_
  refine E_iload_n 1 dX6_calls_1 (q := 2) rfl rfl rfl ?_
  obtain ⟨z1, hxz1, hf⟩ := bnd hf
  have hF2 : Has n 0 (poB γ 0 x_track) (put 11 (wtB γ 11 w_hour w_debts w_guards w_stood w_served) (put 21 (paB γ 21 p_next p_known) (put 23 (pwB γ 23 P_pw) h))) := (has_out (has_out (has_out hH_x (Or.inl (Nat.le_of_ble_eq_true rfl))) (Or.inl (Nat.le_of_ble_eq_true rfl))) (Or.inl (Nat.le_of_ble_eq_true rfl)))
  have hF3 : Has n 3 (dpB γ 3 d_posts d_sees d_cold d_men d_debts d_on d_stove) (put 11 (wtB γ 11 w_hour w_debts w_guards w_stood w_served) (put 21 (paB γ 21 p_next p_known) (put 23 (pwB γ 23 P_pw) h))) := (has_out (has_out (has_out hH_d (Or.inl (Nat.le_of_ble_eq_true rfl))) (Or.inl (Nat.le_of_ble_eq_true rfl))) (Or.inl (Nat.le_of_ble_eq_true rfl)))
  refine E_cV (as := [.int a1]) (k := 0) (rest := []) (u' := (0, 0)) (st' := [.int z1]) dX6_calls_2 (q := 5) rfl lkm_X6_isPost lkv_X6_88 (Nat.le_of_ble_eq_true rfl) ckX6 (hF2.at 0 rfl) (hF2.lt 0 (Nat.le_of_ble_eq_true rfl)) ⟨Nat.le_refl _, Nat.le_refl _⟩ (Nat.le_of_ble_eq_true rfl) rfl rfl (m_X6_isPost (N := N)  hF2 hF3 hxz1) rfl rfl rfl ?_
  refine E_if_ne dX6_calls_5 (t := 10) (by decide) (q := 8) rfl (fun c4 => ?_) (fun c4 => ?_)
  · have hf := if_f c4 hf
    refine E_aload_n 0 dX6_calls_10 (q := 11) rfl rfl rfl ?_
    refine E_get 3 dX6_calls_11 (q := 14) rfl ckX6 (Nat.le_of_ble_eq_true rfl) fl_X6_29 (hF2.at 0 rfl) (hF2.lt 0 (Nat.le_of_ble_eq_true rfl)) rfl ?_
    have hF5 : Has n 11 (wtB γ 11 w_hour w_debts w_guards w_stood w_served) (put 11 (wtB γ 11 w_hour w_debts w_guards w_stood w_served) (put 21 (paB γ 21 p_next p_known) (put 23 (pwB γ 23 P_pw) h))) := (has_put hn_w)
    refine E_get 2 dX6_calls_14 (q := 17) rfl ckX5 (Nat.le_of_ble_eq_true rfl) fl_X6_99 (hF5.at 0 rfl) (hF5.lt 0 (Nat.le_of_ble_eq_true rfl)) rfl ?_
    refine E_iload_n 1 dX6_calls_17 (q := 18) rfl rfl rfl ?_
    obtain ⟨g6, hf⟩ := gd hf
    refine E_iald dX6_calls_18 (q := 19) rfl (hF5.at 2 rfl) (hF5.lt 2 (Nat.le_of_ble_eq_true rfl)) g6 ?_
    refine E_istore_n [(2, .int (w_guards (ci a1))), (0, .ref (gB γ + 0)), (1, .int a1)] dX6_calls_19 (q := 20) rfl rfl (Nat.le_of_ble_eq_true rfl) rfl ?_
    refine E_iload_n 0 dX6_calls_20 (q := 21) rfl rfl rfl ?_
    refine E_bipush (x := (-9)) dX6_calls_21 (q := 23) rfl (by decide) ?_
    refine E_icmp_ne dX6_calls_23 (t := 29) (by decide) (q := 26) rfl (fun c7 => ?_) (fun c7 => ?_)
    · have hf := if_f c7 hf
      refine E_aload_n 1 dX6_calls_29 (q := 30) rfl rfl rfl ?_
      refine E_get 5 dX6_calls_30 (q := 33) rfl ckX6 (Nat.le_of_ble_eq_true rfl) fl_X6_39 (hF2.at 0 rfl) (hF2.lt 0 (Nat.le_of_ble_eq_true rfl)) rfl ?_
      refine E_aload_n 1 dX6_calls_33 (q := 34) rfl rfl rfl ?_
      refine E_get 3 dX6_calls_34 (q := 37) rfl ckX6 (Nat.le_of_ble_eq_true rfl) fl_X6_29 (hF2.at 0 rfl) (hF2.lt 0 (Nat.le_of_ble_eq_true rfl)) rfl ?_
      obtain ⟨z8, hxz8, hf⟩ := bnd hf
      have hF9 : Has n 21 (paB γ 21 p_next p_known) (put 11 (wtB γ 11 w_hour w_debts w_guards w_stood w_served) (put 21 (paB γ 21 p_next p_known) (put 23 (pwB γ 23 P_pw) h))) := (has_out (has_put hn_p) (Or.inr (Nat.le_of_ble_eq_true rfl)))
      have hF10 : Has n 23 (pwB γ 23 P_pw) (put 11 (wtB γ 11 w_hour w_debts w_guards w_stood w_served) (put 21 (paB γ 21 p_next p_known) (put 23 (pwB γ 23 P_pw) h))) := (has_out (has_out (has_put hn_P) (Or.inr (Nat.le_of_ble_eq_true rfl))) (Or.inr (Nat.le_of_ble_eq_true rfl)))
      refine E_cV (as := [.ref (gB γ + 11)]) (k := 21) (rest := []) (u' := (0, 0)) (st' := []) dX6_calls_37 (q := 40) rfl lkm_X2_remember lkv_X6_133 (Nat.le_of_ble_eq_true rfl) ckX2 (hF9.at 0 rfl) (hF9.lt 0 (Nat.le_of_ble_eq_true rfl)) ⟨Nat.le_refl _, Nat.le_refl _⟩ (Nat.le_of_ble_eq_true rfl) rfl rfl (m_X2_remember (N := N)  hF5 hF9 hF10 hxz8) rfl rfl rfl ?_
      refine Ev.heap ((congrArg (put 21 (paB γ 21 z8.1 z8.2.1)) ((put_comm (Or.inr (Nat.le_of_ble_eq_true rfl))).trans (congrArg (put 11 (wtB γ 11 w_hour w_debts w_guards w_stood w_served)) ((put_comm (Or.inr (Nat.le_of_ble_eq_true rfl))).trans (congrArg (put 21 (paB γ 21 p_next p_known)) (put_put (k := 23) (cs := (pwB γ 23 P_pw)) (cs' := (pwB γ 23 z8.2.2)) (show (50 : Nat) = 50 from rfl))))))).trans ((put_comm (Or.inr (Nat.le_of_ble_eq_true rfl))).trans (congrArg (put 11 (wtB γ 11 w_hour w_debts w_guards w_stood w_served)) (put_put (k := 21) (cs := (paB γ 21 p_next p_known)) (cs' := (paB γ 21 z8.1 z8.2.1)) (show (2 : Nat) = 2 from rfl))))) ?_
      refine E_aload_n 1 dX6_calls_40 (q := 41) rfl rfl rfl ?_
      have hF12 : Has n 0 (poB γ 0 x_track) (put 11 (wtB γ 11 w_hour w_debts w_guards w_stood w_served) (put 21 (paB γ 21 z8.1 z8.2.1) (put 23 (pwB γ 23 z8.2.2) h))) := (has_out (has_out (has_out hH_x (Or.inl (Nat.le_of_ble_eq_true rfl))) (Or.inl (Nat.le_of_ble_eq_true rfl))) (Or.inl (Nat.le_of_ble_eq_true rfl)))
      refine E_get 3 dX6_calls_41 (q := 44) rfl ckX6 (Nat.le_of_ble_eq_true rfl) fl_X6_29 (hF12.at 0 rfl) (hF12.lt 0 (Nat.le_of_ble_eq_true rfl)) rfl ?_
      refine E_bipush (x := (-9)) dX6_calls_44 (q := 46) rfl (by decide) ?_
      refine E_iload_n 2 dX6_calls_46 (q := 47) rfl rfl rfl ?_
      obtain ⟨z13, hxz13, hf⟩ := bnd hf
      have hF14 : Has n 11 (wtB γ 11 w_hour w_debts w_guards w_stood w_served) (put 11 (wtB γ 11 w_hour w_debts w_guards w_stood w_served) (put 21 (paB γ 21 z8.1 z8.2.1) (put 23 (pwB γ 23 z8.2.2) h))) := (has_put hn_w)
      refine E_cV (as := [.int (-9), .int a1]) (k := 11) (rest := []) (u' := (0, 0)) (st' := []) dX6_calls_47 (q := 50) rfl lkm_X5_place lkv_X6_137 (Nat.le_of_ble_eq_true rfl) ckX5 (hF14.at 0 rfl) (hF14.lt 0 (Nat.le_of_ble_eq_true rfl)) ⟨Nat.le_refl _, Nat.le_refl _⟩ (Nat.le_of_ble_eq_true rfl) rfl rfl (m_X5_place (N := N)  (Nat.le_of_ble_eq_true rfl) hF14 hxz13) rfl rfl rfl ?_
      refine Ev.heap (put_put (k := 11) (cs := (wtB γ 11 w_hour w_debts w_guards w_stood w_served)) (cs' := (wtB γ 11 w_hour w_debts z13.1 z13.2 w_served)) (show (5 : Nat) = 5 from rfl)) ?_
      refine E_iload_n 0 dX6_calls_50 (q := 51) rfl rfl rfl ?_
      obtain rfl := Option.some.inj hf
      exact E_iret dX6_calls_51 rfl ⟨rfl, rfl, rfl⟩
    · have hf := if_t c7 hf
      refine E_bipush (x := (-2)) dX6_calls_26 (q := 28) rfl (by decide) ?_
      obtain rfl := Option.some.inj hf
      exact E_iret dX6_calls_28 rfl ⟨rfl, rfl, rfl⟩
  · have hf := if_t c4 hf
    refine E_iconst (x := (-1)) dX6_calls_8 (q := 9) rfl (by decide) ?_
    obtain rfl := Option.some.inj hf
    exact E_iret dX6_calls_9 rfl ⟨rfl, rfl, rfl⟩

-- PostRelief.hour()I
def f_X6_hour (N : Nat) (d_cold : FN) (d_men : Int32) (d_stove : Int32) (w_hour : Int32) (w_debts : FN) (w_guards : FN) (w_stood : FN) (w_served : FN) (p_next : Int32) (p_known : Int32) (P_pw : (Nat → WtT)) : Option (Int32 × Int32 × FN × FN × FN × Int32 × Int32 × (Nat → WtT)) :=
  (if w_hour < 200 then ((f_X2_remember N w_hour w_debts w_guards w_stood w_served p_next p_known P_pw).bind fun z4 => ((f_X5_passHour N d_cold d_men d_stove w_hour w_debts w_guards w_stood w_served).bind fun z9 => ((f_X5_sleepingPosts N z9.2.1 w_guards).bind fun z14 => some (z14, z9.1, z9.2.1, z9.2.2.1, z9.2.2.2, z4.1, z4.2.1, z4.2.2)))) else some ((-2), w_hour, w_debts, w_stood, w_served, p_next, p_known, P_pw))
set_option maxHeartbeats 4000000 in
set_option maxRecDepth 100000 in
theorem m_X6_hour {γ : GX} {n : Nat} {N : Nat} {h : HP} {x_track : Int64} {d_posts : Int32} {d_sees : FN} {d_cold : FN} {d_men : Int32} {d_debts : FN} {d_on : Int32} {d_stove : Int32} {w_hour : Int32} {w_debts : FN} {w_guards : FN} {w_stood : FN} {w_served : FN} {p_next : Int32} {p_known : Int32} {P_pw : (Nat → WtT)} (hH_x : Has n 0 (poB γ 0 x_track) h) (hH_d : Has n 3 (dpB γ 3 d_posts d_sees d_cold d_men d_debts d_on d_stove) h) (hH_w : Has n 11 (wtB γ 11 w_hour w_debts w_guards w_stood w_served) h) (hH_p : Has n 21 (paB γ 21 p_next p_known) h) (hH_P : Has n 23 (pwB γ 23 P_pw) h) {z : Int32 × Int32 × FN × FN × FN × Int32 × Int32 × (Nat → WtT)} (hf : f_X6_hour N d_cold d_men d_stove w_hour w_debts w_guards w_stood w_served p_next p_known P_pw = some z)  : Ct γ M_X6_hour n h [.ref (gB γ + 0)] (Done (some (.int z.1)) n (put 11 (wtB γ 11 z.2.1 z.2.2.1 w_guards z.2.2.2.1 z.2.2.2.2.1) (put 21 (paB γ 21 z.2.2.2.2.2.1 z.2.2.2.2.2.2.1) (put 23 (pwB γ 23 z.2.2.2.2.2.2.2) h)))) := by
  have hn_w : 11 + 5 ≤ n := hH_w.1
  have hn_p : 21 + 2 ≤ n := hH_p.1
  have hn_P : 23 + 50 ≤ n := hH_P.1
  refine Ct.heap (h := (put 11 (wtB γ 11 w_hour w_debts w_guards w_stood w_served) (put 21 (paB γ 21 p_next p_known) (put 23 (pwB γ 23 P_pw) h)))) ((congrArg (put 11 (wtB γ 11 w_hour w_debts w_guards w_stood w_served)) ((congrArg (put 21 (paB γ 21 p_next p_known)) (put_self hH_P)).trans (put_self hH_p))).trans (put_self hH_w)).symm ?_
  refine Ct_of_Ev (by decide) (fun h => by cases h) (Nat.le_of_ble_eq_true rfl) ?_
  show Ev γ M_X6_hour (0, 0) n (put 11 (wtB γ 11 w_hour w_debts w_guards w_stood w_served) (put 21 (paB γ 21 p_next p_known) (put 23 (pwB γ 23 P_pw) h))) [(0, .ref (gB γ + 0))] 0 [] _
  unfold f_X6_hour at hf
  refine E_aload_n 0 dX6_hour_0 (q := 1) rfl rfl rfl ?_
  have hF1 : Has n 0 (poB γ 0 x_track) (put 11 (wtB γ 11 w_hour w_debts w_guards w_stood w_served) (put 21 (paB γ 21 p_next p_known) (put 23 (pwB γ 23 P_pw) h))) := (has_out (has_out (has_out hH_x (Or.inl (Nat.le_of_ble_eq_true rfl))) (Or.inl (Nat.le_of_ble_eq_true rfl))) (Or.inl (Nat.le_of_ble_eq_true rfl)))
  refine E_get 3 dX6_hour_1 (q := 4) rfl ckX6 (Nat.le_of_ble_eq_true rfl) fl_X6_29 (hF1.at 0 rfl) (hF1.lt 0 (Nat.le_of_ble_eq_true rfl)) rfl ?_
  have hF2 : Has n 11 (wtB γ 11 w_hour w_debts w_guards w_stood w_served) (put 11 (wtB γ 11 w_hour w_debts w_guards w_stood w_served) (put 21 (paB γ 21 p_next p_known) (put 23 (pwB γ 23 P_pw) h))) := (has_put hn_w)
  refine E_get 0 dX6_hour_4 (q := 7) rfl ckX5 (Nat.le_of_ble_eq_true rfl) fl_X6_117 (hF2.at 0 rfl) (hF2.lt 0 (Nat.le_of_ble_eq_true rfl)) rfl ?_
  refine E_sipush (x := 200) dX6_hour_7 (q := 10) rfl (by decide) ?_
  refine E_icmp_lt dX6_hour_10 (t := 16) (by decide) (q := 13) rfl (fun c3 => ?_) (fun c3 => ?_)
  · have hf := if_t c3 hf
    refine E_aload_n 0 dX6_hour_16 (q := 17) rfl rfl rfl ?_
    refine E_get 5 dX6_hour_17 (q := 20) rfl ckX6 (Nat.le_of_ble_eq_true rfl) fl_X6_39 (hF1.at 0 rfl) (hF1.lt 0 (Nat.le_of_ble_eq_true rfl)) rfl ?_
    refine E_aload_n 0 dX6_hour_20 (q := 21) rfl rfl rfl ?_
    refine E_get 3 dX6_hour_21 (q := 24) rfl ckX6 (Nat.le_of_ble_eq_true rfl) fl_X6_29 (hF1.at 0 rfl) (hF1.lt 0 (Nat.le_of_ble_eq_true rfl)) rfl ?_
    obtain ⟨z4, hxz4, hf⟩ := bnd hf
    have hF5 : Has n 21 (paB γ 21 p_next p_known) (put 11 (wtB γ 11 w_hour w_debts w_guards w_stood w_served) (put 21 (paB γ 21 p_next p_known) (put 23 (pwB γ 23 P_pw) h))) := (has_out (has_put hn_p) (Or.inr (Nat.le_of_ble_eq_true rfl)))
    have hF6 : Has n 23 (pwB γ 23 P_pw) (put 11 (wtB γ 11 w_hour w_debts w_guards w_stood w_served) (put 21 (paB γ 21 p_next p_known) (put 23 (pwB γ 23 P_pw) h))) := (has_out (has_out (has_put hn_P) (Or.inr (Nat.le_of_ble_eq_true rfl))) (Or.inr (Nat.le_of_ble_eq_true rfl)))
    refine E_cV (as := [.ref (gB γ + 11)]) (k := 21) (rest := []) (u' := (0, 0)) (st' := []) dX6_hour_24 (q := 27) rfl lkm_X2_remember lkv_X6_133 (Nat.le_of_ble_eq_true rfl) ckX2 (hF5.at 0 rfl) (hF5.lt 0 (Nat.le_of_ble_eq_true rfl)) ⟨Nat.le_refl _, Nat.le_refl _⟩ (Nat.le_of_ble_eq_true rfl) rfl rfl (m_X2_remember (N := N)  hF2 hF5 hF6 hxz4) rfl rfl rfl ?_
    refine Ev.heap ((congrArg (put 21 (paB γ 21 z4.1 z4.2.1)) ((put_comm (Or.inr (Nat.le_of_ble_eq_true rfl))).trans (congrArg (put 11 (wtB γ 11 w_hour w_debts w_guards w_stood w_served)) ((put_comm (Or.inr (Nat.le_of_ble_eq_true rfl))).trans (congrArg (put 21 (paB γ 21 p_next p_known)) (put_put (k := 23) (cs := (pwB γ 23 P_pw)) (cs' := (pwB γ 23 z4.2.2)) (show (50 : Nat) = 50 from rfl))))))).trans ((put_comm (Or.inr (Nat.le_of_ble_eq_true rfl))).trans (congrArg (put 11 (wtB γ 11 w_hour w_debts w_guards w_stood w_served)) (put_put (k := 21) (cs := (paB γ 21 p_next p_known)) (cs' := (paB γ 21 z4.1 z4.2.1)) (show (2 : Nat) = 2 from rfl))))) ?_
    refine E_aload_n 0 dX6_hour_27 (q := 28) rfl rfl rfl ?_
    have hF8 : Has n 0 (poB γ 0 x_track) (put 11 (wtB γ 11 w_hour w_debts w_guards w_stood w_served) (put 21 (paB γ 21 z4.1 z4.2.1) (put 23 (pwB γ 23 z4.2.2) h))) := (has_out (has_out (has_out hH_x (Or.inl (Nat.le_of_ble_eq_true rfl))) (Or.inl (Nat.le_of_ble_eq_true rfl))) (Or.inl (Nat.le_of_ble_eq_true rfl)))
    refine E_get 3 dX6_hour_28 (q := 31) rfl ckX6 (Nat.le_of_ble_eq_true rfl) fl_X6_29 (hF8.at 0 rfl) (hF8.lt 0 (Nat.le_of_ble_eq_true rfl)) rfl ?_
    refine E_aload_n 0 dX6_hour_31 (q := 32) rfl rfl rfl ?_
    refine E_get 1 dX6_hour_32 (q := 35) rfl ckX6 (Nat.le_of_ble_eq_true rfl) fl_X6_19 (hF8.at 0 rfl) (hF8.lt 0 (Nat.le_of_ble_eq_true rfl)) rfl ?_
    obtain ⟨z9, hxz9, hf⟩ := bnd hf
    have hF10 : Has n 3 (dpB γ 3 d_posts d_sees d_cold d_men d_debts d_on d_stove) (put 11 (wtB γ 11 w_hour w_debts w_guards w_stood w_served) (put 21 (paB γ 21 z4.1 z4.2.1) (put 23 (pwB γ 23 z4.2.2) h))) := (has_out (has_out (has_out hH_d (Or.inl (Nat.le_of_ble_eq_true rfl))) (Or.inl (Nat.le_of_ble_eq_true rfl))) (Or.inl (Nat.le_of_ble_eq_true rfl)))
    have hF11 : Has n 11 (wtB γ 11 w_hour w_debts w_guards w_stood w_served) (put 11 (wtB γ 11 w_hour w_debts w_guards w_stood w_served) (put 21 (paB γ 21 z4.1 z4.2.1) (put 23 (pwB γ 23 z4.2.2) h))) := (has_put hn_w)
    refine E_cV (as := [.ref (gB γ + 3)]) (k := 11) (rest := []) (u' := (0, 0)) (st' := []) dX6_hour_35 (q := 38) rfl lkm_X5_passHour lkv_X6_146 (Nat.le_of_ble_eq_true rfl) ckX5 (hF11.at 0 rfl) (hF11.lt 0 (Nat.le_of_ble_eq_true rfl)) ⟨Nat.le_refl _, Nat.le_refl _⟩ (Nat.le_of_ble_eq_true rfl) rfl rfl (m_X5_passHour (N := N)  (Nat.le_of_ble_eq_true rfl) hF10 hF11 hxz9) rfl rfl rfl ?_
    refine Ev.heap (put_put (k := 11) (cs := (wtB γ 11 w_hour w_debts w_guards w_stood w_served)) (cs' := (wtB γ 11 z9.1 z9.2.1 w_guards z9.2.2.1 z9.2.2.2)) (show (5 : Nat) = 5 from rfl)) ?_
    refine E_aload_n 0 dX6_hour_38 (q := 39) rfl rfl rfl ?_
    have hF13 : Has n 0 (poB γ 0 x_track) (put 11 (wtB γ 11 z9.1 z9.2.1 w_guards z9.2.2.1 z9.2.2.2) (put 21 (paB γ 21 z4.1 z4.2.1) (put 23 (pwB γ 23 z4.2.2) h))) := (has_out (has_out (has_out hH_x (Or.inl (Nat.le_of_ble_eq_true rfl))) (Or.inl (Nat.le_of_ble_eq_true rfl))) (Or.inl (Nat.le_of_ble_eq_true rfl)))
    refine E_get 3 dX6_hour_39 (q := 42) rfl ckX6 (Nat.le_of_ble_eq_true rfl) fl_X6_29 (hF13.at 0 rfl) (hF13.lt 0 (Nat.le_of_ble_eq_true rfl)) rfl ?_
    obtain ⟨z14, hxz14, hf⟩ := bnd hf
    have hF15 : Has n 11 (wtB γ 11 z9.1 z9.2.1 w_guards z9.2.2.1 z9.2.2.2) (put 11 (wtB γ 11 z9.1 z9.2.1 w_guards z9.2.2.1 z9.2.2.2) (put 21 (paB γ 21 z4.1 z4.2.1) (put 23 (pwB γ 23 z4.2.2) h))) := (has_put hn_w)
    refine E_cV (as := []) (k := 11) (rest := []) (u' := (0, 0)) (st' := [.int z14]) dX6_hour_42 (q := 45) rfl lkm_X5_sleepingPosts lkv_X6_124 (Nat.le_of_ble_eq_true rfl) ckX5 (hF15.at 0 rfl) (hF15.lt 0 (Nat.le_of_ble_eq_true rfl)) ⟨Nat.le_refl _, Nat.le_refl _⟩ (Nat.le_of_ble_eq_true rfl) rfl rfl (m_X5_sleepingPosts (N := N)  (Nat.le_of_ble_eq_true rfl) hF15 hxz14) rfl rfl rfl ?_
    obtain rfl := Option.some.inj hf
    exact E_iret dX6_hour_45 rfl ⟨rfl, rfl, rfl⟩
  · have hf := if_f c3 hf
    refine E_bipush (x := (-2)) dX6_hour_13 (q := 15) rfl (by decide) ?_
    obtain rfl := Option.some.inj hf
    exact E_iret dX6_hour_15 rfl ⟨rfl, rfl, rfl⟩

-- PostRelief.relieves(II)I
def f_X6_relieves (N : Nat) (a1 : Int32) (a2 : Int32) (d_posts : Int32) (d_men : Int32) (d_on : Int32) (w_hour : Int32) (w_debts : FN) (w_guards : FN) (w_stood : FN) (w_served : FN) (p_next : Int32) (p_known : Int32) (P_pw : (Nat → WtT)) : Option (Int32 × FN × FN × Int32 × Int32 × (Nat → WtT)) :=
  ((f_X6_isPost N a1 d_posts).bind fun z1 => (if z1 = 0 then some ((-1), w_guards, w_stood, p_next, p_known, P_pw) else ((f_X6_within N a2 0 1).bind fun z5 => (if z5 = 0 then some ((-1), w_guards, w_stood, p_next, p_known, P_pw) else ((f_X2_remember N w_hour w_debts w_guards w_stood w_served p_next p_known P_pw).bind fun z7 => ((f_X5_bringRelief N a1 a2 d_posts d_men d_on w_debts w_guards w_stood).bind fun z13 => some (z13.1, z13.2.1, z13.2.2, z7.1, z7.2.1, z7.2.2)))))))
set_option maxHeartbeats 4000000 in
set_option maxRecDepth 100000 in
theorem m_X6_relieves {γ : GX} {n : Nat} {N : Nat} {h : HP} {a1 : Int32} {a2 : Int32} {x_track : Int64} {d_posts : Int32} {d_sees : FN} {d_cold : FN} {d_men : Int32} {d_debts : FN} {d_on : Int32} {d_stove : Int32} {w_hour : Int32} {w_debts : FN} {w_guards : FN} {w_stood : FN} {w_served : FN} {p_next : Int32} {p_known : Int32} {P_pw : (Nat → WtT)} (hH_x : Has n 0 (poB γ 0 x_track) h) (hH_d : Has n 3 (dpB γ 3 d_posts d_sees d_cold d_men d_debts d_on d_stove) h) (hH_w : Has n 11 (wtB γ 11 w_hour w_debts w_guards w_stood w_served) h) (hH_p : Has n 21 (paB γ 21 p_next p_known) h) (hH_P : Has n 23 (pwB γ 23 P_pw) h) {z : Int32 × FN × FN × Int32 × Int32 × (Nat → WtT)} (hf : f_X6_relieves N a1 a2 d_posts d_men d_on w_hour w_debts w_guards w_stood w_served p_next p_known P_pw = some z)  : Ct γ M_X6_relieves n h [.ref (gB γ + 0), .int a1, .int a2] (Done (some (.int z.1)) n (put 11 (wtB γ 11 w_hour w_debts z.2.1 z.2.2.1 w_served) (put 21 (paB γ 21 z.2.2.2.1 z.2.2.2.2.1) (put 23 (pwB γ 23 z.2.2.2.2.2) h)))) := by
  have hn_w : 11 + 5 ≤ n := hH_w.1
  have hn_p : 21 + 2 ≤ n := hH_p.1
  have hn_P : 23 + 50 ≤ n := hH_P.1
  refine Ct.heap (h := (put 11 (wtB γ 11 w_hour w_debts w_guards w_stood w_served) (put 21 (paB γ 21 p_next p_known) (put 23 (pwB γ 23 P_pw) h)))) ((congrArg (put 11 (wtB γ 11 w_hour w_debts w_guards w_stood w_served)) ((congrArg (put 21 (paB γ 21 p_next p_known)) (put_self hH_P)).trans (put_self hH_p))).trans (put_self hH_w)).symm ?_
  refine Ct_of_Ev (by decide) (fun h => by cases h) (Nat.le_of_ble_eq_true rfl) ?_
  show Ev γ M_X6_relieves (0, 0) n (put 11 (wtB γ 11 w_hour w_debts w_guards w_stood w_served) (put 21 (paB γ 21 p_next p_known) (put 23 (pwB γ 23 P_pw) h))) [(0, .ref (gB γ + 0)), (1, .int a1), (2, .int a2)] 0 [] _
  unfold f_X6_relieves at hf
  refine E_aload_n 0 dX6_relieves_0 (q := 1) rfl rfl rfl ?_
  refine E_iload_n 1 dX6_relieves_1 (q := 2) rfl rfl rfl ?_
  obtain ⟨z1, hxz1, hf⟩ := bnd hf
  have hF2 : Has n 0 (poB γ 0 x_track) (put 11 (wtB γ 11 w_hour w_debts w_guards w_stood w_served) (put 21 (paB γ 21 p_next p_known) (put 23 (pwB γ 23 P_pw) h))) := (has_out (has_out (has_out hH_x (Or.inl (Nat.le_of_ble_eq_true rfl))) (Or.inl (Nat.le_of_ble_eq_true rfl))) (Or.inl (Nat.le_of_ble_eq_true rfl)))
  have hF3 : Has n 3 (dpB γ 3 d_posts d_sees d_cold d_men d_debts d_on d_stove) (put 11 (wtB γ 11 w_hour w_debts w_guards w_stood w_served) (put 21 (paB γ 21 p_next p_known) (put 23 (pwB γ 23 P_pw) h))) := (has_out (has_out (has_out hH_d (Or.inl (Nat.le_of_ble_eq_true rfl))) (Or.inl (Nat.le_of_ble_eq_true rfl))) (Or.inl (Nat.le_of_ble_eq_true rfl)))
  refine E_cV (as := [.int a1]) (k := 0) (rest := []) (u' := (0, 0)) (st' := [.int z1]) dX6_relieves_2 (q := 5) rfl lkm_X6_isPost lkv_X6_88 (Nat.le_of_ble_eq_true rfl) ckX6 (hF2.at 0 rfl) (hF2.lt 0 (Nat.le_of_ble_eq_true rfl)) ⟨Nat.le_refl _, Nat.le_refl _⟩ (Nat.le_of_ble_eq_true rfl) rfl rfl (m_X6_isPost (N := N)  hF2 hF3 hxz1) rfl rfl rfl ?_
  refine E_if_eq dX6_relieves_5 (t := 17) (by decide) (q := 8) rfl (fun c4 => ?_) (fun c4 => ?_)
  · have hf := if_t c4 hf
    refine E_iconst (x := (-1)) dX6_relieves_17 (q := 18) rfl (by decide) ?_
    obtain rfl := Option.some.inj hf
    exact E_iret dX6_relieves_18 rfl ⟨rfl, rfl, rfl⟩
  · have hf := if_f c4 hf
    refine E_iload_n 2 dX6_relieves_8 (q := 9) rfl rfl rfl ?_
    refine E_iconst (x := 0) dX6_relieves_9 (q := 10) rfl (by decide) ?_
    refine E_iconst (x := 1) dX6_relieves_10 (q := 11) rfl (by decide) ?_
    obtain ⟨z5, hxz5, hf⟩ := bnd hf
    refine E_cS (as := [.int a2, .int 0, .int 1]) (rest := []) (u' := (0, 0)) (st' := [.int z5]) dX6_relieves_11 (q := 14) rfl lkm_X6_within lks_X6_65 (Nat.le_of_ble_eq_true rfl) ⟨Nat.le_refl _, Nat.le_refl _⟩ (Nat.le_of_ble_eq_true rfl) rfl rfl (m_X6_within (N := N)  hxz5) rfl rfl rfl ?_
    refine E_if_ne dX6_relieves_14 (t := 19) (by decide) (q := 17) rfl (fun c6 => ?_) (fun c6 => ?_)
    · have hf := if_f c6 hf
      refine E_aload_n 0 dX6_relieves_19 (q := 20) rfl rfl rfl ?_
      refine E_get 5 dX6_relieves_20 (q := 23) rfl ckX6 (Nat.le_of_ble_eq_true rfl) fl_X6_39 (hF2.at 0 rfl) (hF2.lt 0 (Nat.le_of_ble_eq_true rfl)) rfl ?_
      refine E_aload_n 0 dX6_relieves_23 (q := 24) rfl rfl rfl ?_
      refine E_get 3 dX6_relieves_24 (q := 27) rfl ckX6 (Nat.le_of_ble_eq_true rfl) fl_X6_29 (hF2.at 0 rfl) (hF2.lt 0 (Nat.le_of_ble_eq_true rfl)) rfl ?_
      obtain ⟨z7, hxz7, hf⟩ := bnd hf
      have hF8 : Has n 11 (wtB γ 11 w_hour w_debts w_guards w_stood w_served) (put 11 (wtB γ 11 w_hour w_debts w_guards w_stood w_served) (put 21 (paB γ 21 p_next p_known) (put 23 (pwB γ 23 P_pw) h))) := (has_put hn_w)
      have hF9 : Has n 21 (paB γ 21 p_next p_known) (put 11 (wtB γ 11 w_hour w_debts w_guards w_stood w_served) (put 21 (paB γ 21 p_next p_known) (put 23 (pwB γ 23 P_pw) h))) := (has_out (has_put hn_p) (Or.inr (Nat.le_of_ble_eq_true rfl)))
      have hF10 : Has n 23 (pwB γ 23 P_pw) (put 11 (wtB γ 11 w_hour w_debts w_guards w_stood w_served) (put 21 (paB γ 21 p_next p_known) (put 23 (pwB γ 23 P_pw) h))) := (has_out (has_out (has_put hn_P) (Or.inr (Nat.le_of_ble_eq_true rfl))) (Or.inr (Nat.le_of_ble_eq_true rfl)))
      refine E_cV (as := [.ref (gB γ + 11)]) (k := 21) (rest := []) (u' := (0, 0)) (st' := []) dX6_relieves_27 (q := 30) rfl lkm_X2_remember lkv_X6_133 (Nat.le_of_ble_eq_true rfl) ckX2 (hF9.at 0 rfl) (hF9.lt 0 (Nat.le_of_ble_eq_true rfl)) ⟨Nat.le_refl _, Nat.le_refl _⟩ (Nat.le_of_ble_eq_true rfl) rfl rfl (m_X2_remember (N := N)  hF8 hF9 hF10 hxz7) rfl rfl rfl ?_
      refine Ev.heap ((congrArg (put 21 (paB γ 21 z7.1 z7.2.1)) ((put_comm (Or.inr (Nat.le_of_ble_eq_true rfl))).trans (congrArg (put 11 (wtB γ 11 w_hour w_debts w_guards w_stood w_served)) ((put_comm (Or.inr (Nat.le_of_ble_eq_true rfl))).trans (congrArg (put 21 (paB γ 21 p_next p_known)) (put_put (k := 23) (cs := (pwB γ 23 P_pw)) (cs' := (pwB γ 23 z7.2.2)) (show (50 : Nat) = 50 from rfl))))))).trans ((put_comm (Or.inr (Nat.le_of_ble_eq_true rfl))).trans (congrArg (put 11 (wtB γ 11 w_hour w_debts w_guards w_stood w_served)) (put_put (k := 21) (cs := (paB γ 21 p_next p_known)) (cs' := (paB γ 21 z7.1 z7.2.1)) (show (2 : Nat) = 2 from rfl))))) ?_
      refine E_aload_n 0 dX6_relieves_30 (q := 31) rfl rfl rfl ?_
      have hF12 : Has n 0 (poB γ 0 x_track) (put 11 (wtB γ 11 w_hour w_debts w_guards w_stood w_served) (put 21 (paB γ 21 z7.1 z7.2.1) (put 23 (pwB γ 23 z7.2.2) h))) := (has_out (has_out (has_out hH_x (Or.inl (Nat.le_of_ble_eq_true rfl))) (Or.inl (Nat.le_of_ble_eq_true rfl))) (Or.inl (Nat.le_of_ble_eq_true rfl)))
      refine E_get 3 dX6_relieves_31 (q := 34) rfl ckX6 (Nat.le_of_ble_eq_true rfl) fl_X6_29 (hF12.at 0 rfl) (hF12.lt 0 (Nat.le_of_ble_eq_true rfl)) rfl ?_
      refine E_aload_n 0 dX6_relieves_34 (q := 35) rfl rfl rfl ?_
      refine E_get 1 dX6_relieves_35 (q := 38) rfl ckX6 (Nat.le_of_ble_eq_true rfl) fl_X6_19 (hF12.at 0 rfl) (hF12.lt 0 (Nat.le_of_ble_eq_true rfl)) rfl ?_
      refine E_iload_n 1 dX6_relieves_38 (q := 39) rfl rfl rfl ?_
      refine E_iload_n 2 dX6_relieves_39 (q := 40) rfl rfl rfl ?_
      obtain ⟨z13, hxz13, hf⟩ := bnd hf
      have hF14 : Has n 3 (dpB γ 3 d_posts d_sees d_cold d_men d_debts d_on d_stove) (put 11 (wtB γ 11 w_hour w_debts w_guards w_stood w_served) (put 21 (paB γ 21 z7.1 z7.2.1) (put 23 (pwB γ 23 z7.2.2) h))) := (has_out (has_out (has_out hH_d (Or.inl (Nat.le_of_ble_eq_true rfl))) (Or.inl (Nat.le_of_ble_eq_true rfl))) (Or.inl (Nat.le_of_ble_eq_true rfl)))
      have hF15 : Has n 11 (wtB γ 11 w_hour w_debts w_guards w_stood w_served) (put 11 (wtB γ 11 w_hour w_debts w_guards w_stood w_served) (put 21 (paB γ 21 z7.1 z7.2.1) (put 23 (pwB γ 23 z7.2.2) h))) := (has_put hn_w)
      refine E_cV (as := [.ref (gB γ + 3), .int a1, .int a2]) (k := 11) (rest := []) (u' := (0, 0)) (st' := [.int z13.1]) dX6_relieves_40 (q := 43) rfl lkm_X5_bringRelief lkv_X6_149 (Nat.le_of_ble_eq_true rfl) ckX5 (hF15.at 0 rfl) (hF15.lt 0 (Nat.le_of_ble_eq_true rfl)) ⟨Nat.le_refl _, Nat.le_refl _⟩ (Nat.le_of_ble_eq_true rfl) rfl rfl (m_X5_bringRelief (N := N)  (Nat.le_of_ble_eq_true rfl) hF14 hF15 hxz13) rfl rfl rfl ?_
      refine Ev.heap (put_put (k := 11) (cs := (wtB γ 11 w_hour w_debts w_guards w_stood w_served)) (cs' := (wtB γ 11 w_hour w_debts z13.2.1 z13.2.2 w_served)) (show (5 : Nat) = 5 from rfl)) ?_
      obtain rfl := Option.some.inj hf
      exact E_iret dX6_relieves_43 rfl ⟨rfl, rfl, rfl⟩
    · have hf := if_t c6 hf
      refine E_iconst (x := (-1)) dX6_relieves_17 (q := 18) rfl (by decide) ?_
      obtain rfl := Option.some.inj hf
      exact E_iret dX6_relieves_18 rfl ⟨rfl, rfl, rfl⟩

-- PostRelief.undo()I
def f_X6_undo (N : Nat) (w_hour : Int32) (w_debts : FN) (w_guards : FN) (w_stood : FN) (w_served : FN) (p_next : Int32) (p_known : Int32) (P_pw : (Nat → WtT)) : Option (Int32 × Int32 × FN × FN × FN × FN × Int32 × Int32) :=
  (if p_known = 0 then some ((-2), w_hour, w_debts, w_guards, w_stood, w_served, p_next, p_known) else ((f_X2_restore N w_hour w_debts w_guards w_stood w_served p_next p_known P_pw).bind fun z4 => some (z4.2.2.2.2.2.2, z4.1, z4.2.1, z4.2.2.1, z4.2.2.2.1, z4.2.2.2.2.1, z4.2.2.2.2.2.1, z4.2.2.2.2.2.2)))
set_option maxHeartbeats 4000000 in
set_option maxRecDepth 100000 in
theorem m_X6_undo {γ : GX} {n : Nat} {N : Nat} {h : HP} {x_track : Int64} {w_hour : Int32} {w_debts : FN} {w_guards : FN} {w_stood : FN} {w_served : FN} {p_next : Int32} {p_known : Int32} {P_pw : (Nat → WtT)} (hH_x : Has n 0 (poB γ 0 x_track) h) (hH_w : Has n 11 (wtB γ 11 w_hour w_debts w_guards w_stood w_served) h) (hH_p : Has n 21 (paB γ 21 p_next p_known) h) (hH_P : Has n 23 (pwB γ 23 P_pw) h) {z : Int32 × Int32 × FN × FN × FN × FN × Int32 × Int32} (hf : f_X6_undo N w_hour w_debts w_guards w_stood w_served p_next p_known P_pw = some z)  : Ct γ M_X6_undo n h [.ref (gB γ + 0)] (Done (some (.int z.1)) n (put 11 (wtB γ 11 z.2.1 z.2.2.1 z.2.2.2.1 z.2.2.2.2.1 z.2.2.2.2.2.1) (put 21 (paB γ 21 z.2.2.2.2.2.2.1 z.2.2.2.2.2.2.2) h))) := by
  have hn_w : 11 + 5 ≤ n := hH_w.1
  have hn_p : 21 + 2 ≤ n := hH_p.1
  refine Ct.heap (h := (put 11 (wtB γ 11 w_hour w_debts w_guards w_stood w_served) (put 21 (paB γ 21 p_next p_known) h))) ((congrArg (put 11 (wtB γ 11 w_hour w_debts w_guards w_stood w_served)) (put_self hH_p)).trans (put_self hH_w)).symm ?_
  refine Ct_of_Ev (by decide) (fun h => by cases h) (Nat.le_of_ble_eq_true rfl) ?_
  show Ev γ M_X6_undo (0, 0) n (put 11 (wtB γ 11 w_hour w_debts w_guards w_stood w_served) (put 21 (paB γ 21 p_next p_known) h)) [(0, .ref (gB γ + 0))] 0 [] _
  unfold f_X6_undo at hf
  refine E_aload_n 0 dX6_undo_0 (q := 1) rfl rfl rfl ?_
  have hF1 : Has n 0 (poB γ 0 x_track) (put 11 (wtB γ 11 w_hour w_debts w_guards w_stood w_served) (put 21 (paB γ 21 p_next p_known) h)) := (has_out (has_out hH_x (Or.inl (Nat.le_of_ble_eq_true rfl))) (Or.inl (Nat.le_of_ble_eq_true rfl)))
  refine E_get 5 dX6_undo_1 (q := 4) rfl ckX6 (Nat.le_of_ble_eq_true rfl) fl_X6_39 (hF1.at 0 rfl) (hF1.lt 0 (Nat.le_of_ble_eq_true rfl)) rfl ?_
  have hF2 : Has n 21 (paB γ 21 p_next p_known) (put 11 (wtB γ 11 w_hour w_debts w_guards w_stood w_served) (put 21 (paB γ 21 p_next p_known) h)) := (has_out (has_put hn_p) (Or.inr (Nat.le_of_ble_eq_true rfl)))
  refine E_get 2 dX6_undo_4 (q := 7) rfl ckX2 (Nat.le_of_ble_eq_true rfl) fl_X6_130 (hF2.at 0 rfl) (hF2.lt 0 (Nat.le_of_ble_eq_true rfl)) rfl ?_
  refine E_if_ne dX6_undo_7 (t := 13) (by decide) (q := 10) rfl (fun c3 => ?_) (fun c3 => ?_)
  · have hf := if_f c3 hf
    refine E_aload_n 0 dX6_undo_13 (q := 14) rfl rfl rfl ?_
    refine E_get 5 dX6_undo_14 (q := 17) rfl ckX6 (Nat.le_of_ble_eq_true rfl) fl_X6_39 (hF1.at 0 rfl) (hF1.lt 0 (Nat.le_of_ble_eq_true rfl)) rfl ?_
    refine E_aload_n 0 dX6_undo_17 (q := 18) rfl rfl rfl ?_
    refine E_get 3 dX6_undo_18 (q := 21) rfl ckX6 (Nat.le_of_ble_eq_true rfl) fl_X6_29 (hF1.at 0 rfl) (hF1.lt 0 (Nat.le_of_ble_eq_true rfl)) rfl ?_
    obtain ⟨z4, hxz4, hf⟩ := bnd hf
    have hF5 : Has n 11 (wtB γ 11 w_hour w_debts w_guards w_stood w_served) (put 11 (wtB γ 11 w_hour w_debts w_guards w_stood w_served) (put 21 (paB γ 21 p_next p_known) h)) := (has_put hn_w)
    have hF6 : Has n 23 (pwB γ 23 P_pw) (put 11 (wtB γ 11 w_hour w_debts w_guards w_stood w_served) (put 21 (paB γ 21 p_next p_known) h)) := (has_out (has_out hH_P (Or.inr (Nat.le_of_ble_eq_true rfl))) (Or.inr (Nat.le_of_ble_eq_true rfl)))
    refine E_cV (as := [.ref (gB γ + 11)]) (k := 21) (rest := []) (u' := (0, 0)) (st' := []) dX6_undo_21 (q := 24) rfl lkm_X2_restore lkv_X6_153 (Nat.le_of_ble_eq_true rfl) ckX2 (hF2.at 0 rfl) (hF2.lt 0 (Nat.le_of_ble_eq_true rfl)) ⟨Nat.le_refl _, Nat.le_refl _⟩ (Nat.le_of_ble_eq_true rfl) rfl rfl (m_X2_restore (N := N)  hF5 hF2 hF6 hxz4) rfl rfl rfl ?_
    refine Ev.heap ((congrArg (put 11 (wtB γ 11 z4.1 z4.2.1 z4.2.2.1 z4.2.2.2.1 z4.2.2.2.2.1)) ((put_comm (Or.inr (Nat.le_of_ble_eq_true rfl))).trans (congrArg (put 11 (wtB γ 11 w_hour w_debts w_guards w_stood w_served)) (put_put (k := 21) (cs := (paB γ 21 p_next p_known)) (cs' := (paB γ 21 z4.2.2.2.2.2.1 z4.2.2.2.2.2.2)) (show (2 : Nat) = 2 from rfl))))).trans (put_put (k := 11) (cs := (wtB γ 11 w_hour w_debts w_guards w_stood w_served)) (cs' := (wtB γ 11 z4.1 z4.2.1 z4.2.2.1 z4.2.2.2.1 z4.2.2.2.2.1)) (show (5 : Nat) = 5 from rfl))) ?_
    refine E_aload_n 0 dX6_undo_24 (q := 25) rfl rfl rfl ?_
    have hF8 : Has n 0 (poB γ 0 x_track) (put 11 (wtB γ 11 z4.1 z4.2.1 z4.2.2.1 z4.2.2.2.1 z4.2.2.2.2.1) (put 21 (paB γ 21 z4.2.2.2.2.2.1 z4.2.2.2.2.2.2) h)) := (has_out (has_out hH_x (Or.inl (Nat.le_of_ble_eq_true rfl))) (Or.inl (Nat.le_of_ble_eq_true rfl)))
    refine E_get 5 dX6_undo_25 (q := 28) rfl ckX6 (Nat.le_of_ble_eq_true rfl) fl_X6_39 (hF8.at 0 rfl) (hF8.lt 0 (Nat.le_of_ble_eq_true rfl)) rfl ?_
    have hF9 : Has n 21 (paB γ 21 z4.2.2.2.2.2.1 z4.2.2.2.2.2.2) (put 11 (wtB γ 11 z4.1 z4.2.1 z4.2.2.1 z4.2.2.2.1 z4.2.2.2.2.1) (put 21 (paB γ 21 z4.2.2.2.2.2.1 z4.2.2.2.2.2.2) h)) := (has_out (has_put hn_p) (Or.inr (Nat.le_of_ble_eq_true rfl)))
    refine E_get 2 dX6_undo_28 (q := 31) rfl ckX2 (Nat.le_of_ble_eq_true rfl) fl_X6_130 (hF9.at 0 rfl) (hF9.lt 0 (Nat.le_of_ble_eq_true rfl)) rfl ?_
    obtain rfl := Option.some.inj hf
    exact E_iret dX6_undo_31 rfl ⟨rfl, rfl, rfl⟩
  · have hf := if_t c3 hf
    refine E_bipush (x := (-2)) dX6_undo_10 (q := 12) rfl (by decide) ?_
    obtain rfl := Option.some.inj hf
    exact E_iret dX6_undo_12 rfl ⟨rfl, rfl, rfl⟩
