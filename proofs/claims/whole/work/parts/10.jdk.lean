def M_J6_bitCount : MI := (yJ6_bitCount_0f7a4, cJ6_bitCount_0f7a4, 1, (some .int), false, 1, 0, 0)
theorem lkm_J6_bitCount : LkM M_J6_bitCount 1 := ⟨(lg_mem 61 (by decide +kernel) rfl), (lg_mem 440 (by decide +kernel) rfl), ⟨by decide, by decide, by decide +kernel⟩, (Nat.le_of_ble_eq_true rfl)⟩
def M_J6_numberOfTrailingZeros : MI := (yJ6_numberOfTrailingZeros_0f7a4, cJ6_numberOfTrailingZeros_0f7a4, 2, (some .int), false, 1, 0, 0)
theorem lkm_J6_numberOfTrailingZeros : LkM M_J6_numberOfTrailingZeros 1 := ⟨(lg_mem 61 (by decide +kernel) rfl), (lg_mem 578 (by decide +kernel) rfl), ⟨by decide, by decide, by decide +kernel⟩, (Nat.le_of_ble_eq_true rfl)⟩
def M_X6_within : MI := (yX6_within, cX6_within, 3, (some .boolean), false, 1, 0, 0)
theorem lkm_X6_within : LkM M_X6_within 3 := ⟨(lg_mem 50 (by decide +kernel) rfl), (lg_mem 286 (by decide +kernel) rfl), ⟨by decide, by decide, by decide +kernel⟩, (Nat.le_of_ble_eq_true rfl)⟩
def M_X6_power : MI := (yX6_power, cX6_power, 4, (some .int), false, 1, 0, 0)
theorem lkm_X6_power : LkM M_X6_power 2 := ⟨(lg_mem 50 (by decide +kernel) rfl), (lg_mem 565 (by decide +kernel) rfl), ⟨by decide, by decide, by decide +kernel⟩, (Nat.le_of_ble_eq_true rfl)⟩
def M_X6_commonDivisor : MI := (yX6_commonDivisor, cX6_commonDivisor, 6, (some .int), false, 1, 0, 0)
theorem lkm_X6_commonDivisor : LkM M_X6_commonDivisor 2 := ⟨(lg_mem 50 (by decide +kernel) rfl), (lg_mem 571 (by decide +kernel) rfl), ⟨by decide, by decide, by decide +kernel⟩, (Nat.le_of_ble_eq_true rfl)⟩
def M_X6_leastTerms : MI := (yX6_leastTerms, cX6_leastTerms, 4, (some .int), false, 2, 0, 0)
theorem lkm_X6_leastTerms : LkM M_X6_leastTerms 3 := ⟨(lg_mem 50 (by decide +kernel) rfl), (lg_mem 568 (by decide +kernel) rfl), ⟨by decide, by decide, by decide +kernel⟩, (Nat.le_of_ble_eq_true rfl)⟩
def M_X6_weightOfWaking : MI := (yX6_weightOfWaking, cX6_weightOfWaking, 3, (some .int), false, 2, 0, 0)
theorem lkm_X6_weightOfWaking : LkM M_X6_weightOfWaking 3 := ⟨(lg_mem 50 (by decide +kernel) rfl), (lg_mem 562 (by decide +kernel) rfl), ⟨by decide, by decide, by decide +kernel⟩, (Nat.le_of_ble_eq_true rfl)⟩
def M_X0_empty : MI := (yX0_empty, cX0_empty, 1, none, false, 1, 0, 0)
theorem lkm_X0_empty : LkM M_X0_empty 0 := ⟨(lg_mem 52 (by decide +kernel) rfl), (lg_mem 306 (by decide +kernel) rfl), ⟨by decide, by decide, by decide +kernel⟩, (Nat.le_of_ble_eq_true rfl)⟩
def M_X0_become : MI := (yX0_become, cX0_become, 2, none, false, 1, 0, 0)
theorem lkm_X0_become : LkM M_X0_become 1 := ⟨(lg_mem 52 (by decide +kernel) rfl), (lg_mem 352 (by decide +kernel) rfl), ⟨by decide, by decide, by decide +kernel⟩, (Nat.le_of_ble_eq_true rfl)⟩
def M_X0_allPosts : MI := (yX0_allPosts, cX0_allPosts, 1, (some .int), false, 1, 0, 0)
theorem lkm_X0_allPosts : LkM M_X0_allPosts 0 := ⟨(lg_mem 52 (by decide +kernel) rfl), (lg_mem 380 (by decide +kernel) rfl), ⟨by decide, by decide, by decide +kernel⟩, (Nat.le_of_ble_eq_true rfl)⟩
def M_X0_seenFrom : MI := (yX0_seenFrom, cX0_seenFrom, 2, (some .int), false, 2, 0, 0)
theorem lkm_X0_seenFrom : LkM M_X0_seenFrom 1 := ⟨(lg_mem 52 (by decide +kernel) rfl), (lg_mem 376 (by decide +kernel) rfl), ⟨by decide, by decide, by decide +kernel⟩, (Nat.le_of_ble_eq_true rfl)⟩
def M_X0_watchedBy : MI := (yX0_watchedBy, cX0_watchedBy, 4, (some .int), false, 3, 0, 0)
theorem lkm_X0_watchedBy : LkM M_X0_watchedBy 1 := ⟨(lg_mem 52 (by decide +kernel) rfl), (lg_mem 419 (by decide +kernel) rfl), ⟨by decide, by decide, by decide +kernel⟩, (Nat.le_of_ble_eq_true rfl)⟩
def M_X0_burden : MI := (yX0_burden, cX0_burden, 5, (some .int), false, 1, 0, 0)
theorem lkm_X0_burden : LkM M_X0_burden 2 := ⟨(lg_mem 52 (by decide +kernel) rfl), (lg_mem 463 (by decide +kernel) rfl), ⟨by decide, by decide, by decide +kernel⟩, (Nat.le_of_ble_eq_true rfl)⟩
def M_X0_nextPost : MI := (yX0_nextPost, cX0_nextPost, 3, (some .int), false, 1, 0, 0)
theorem lkm_X0_nextPost : LkM M_X0_nextPost 2 := ⟨(lg_mem 52 (by decide +kernel) rfl), (lg_mem 481 (by decide +kernel) rfl), ⟨by decide, by decide, by decide +kernel⟩, (Nat.le_of_ble_eq_true rfl)⟩
def M_X1_add : MI := (yX1_add, cX1_add, 4, (some .boolean), false, 1, 0, 0)
theorem lkm_X1_add : LkM M_X1_add 3 := ⟨(lg_mem 56 (by decide +kernel) rfl), (lg_mem 587 (by decide +kernel) rfl), ⟨by decide, by decide, by decide +kernel⟩, (Nat.le_of_ble_eq_true rfl)⟩
def M_X1_agree : MI := (yX1_agree, cX1_agree, 4, (some .boolean), false, 1, 0, 0)
theorem lkm_X1_agree : LkM M_X1_agree 2 := ⟨(lg_mem 56 (by decide +kernel) rfl), (lg_mem 605 (by decide +kernel) rfl), ⟨by decide, by decide, by decide +kernel⟩, (Nat.le_of_ble_eq_true rfl)⟩
theorem cw_J6_265 : Cond.constant RJ6 265 1431655765 ∈ lw_good := (lg_mem 441 (by decide +kernel) rfl)
theorem cw_J6_266 : Cond.constant RJ6 266 858993459 ∈ lw_good := (lg_mem 442 (by decide +kernel) rfl)
theorem cw_J6_267 : Cond.constant RJ6 267 252645135 ∈ lw_good := (lg_mem 443 (by decide +kernel) rfl)
theorem cw_J6_264 : Cond.constant RJ6 264 65536 ∈ lw_good := (lg_mem 579 (by decide +kernel) rfl)
theorem lkmax_X6_162 : Cond.methodLink RX6 162 Lib.Math.max.name ∈ lw_good := (lg_mem 501 (by decide +kernel) rfl)
theorem st_max : Cond.static Lib.Math.max.name ∈ lw_good := (lg_mem 458 (by decide +kernel) rfl)
theorem in_math : Cond.initialized "java/lang/Math" ∈ lw_good := (lg_mem 59 (by decide +kernel) rfl)
theorem co_max : Cond.code Lib.Math.max.name Lib.Math.max.code 2 (some .int) ∈ lw_good := (lg_mem 459 (by decide +kernel) rfl)
theorem lks_X6_270 : LkS RX6 270 M_X6_commonDivisor := ⟨(lg_mem 569 (by decide +kernel) rfl), (lg_mem 570 (by decide +kernel) rfl)⟩
theorem lks_X6_141 : LkS RX6 141 M_J6_bitCount := ⟨(lg_mem 438 (by decide +kernel) rfl), (lg_mem 439 (by decide +kernel) rfl)⟩
theorem lks_X6_206 : LkS RX6 206 M_X6_power := ⟨(lg_mem 563 (by decide +kernel) rfl), (lg_mem 564 (by decide +kernel) rfl)⟩
theorem fl_X0_28 : Cond.fieldLink RX0 28 (TX0 0).1 (TX0 0).2.1 (TX0 0).2.2.1 ∈ lw_good := (lg_mem 109 (by decide +kernel) rfl)
theorem fl_X0_31 : Cond.fieldLink RX0 31 (TX0 3).1 (TX0 3).2.1 (TX0 3).2.2.1 ∈ lw_good := (lg_mem 120 (by decide +kernel) rfl)
theorem fl_X0_21 : Cond.fieldLink RX0 21 (TX0 5).1 (TX0 5).2.1 (TX0 5).2.2.1 ∈ lw_good := (lg_mem 128 (by decide +kernel) rfl)
theorem fl_X0_25 : Cond.fieldLink RX0 25 (TX0 6).1 (TX0 6).2.1 (TX0 6).2.2.1 ∈ lw_good := (lg_mem 133 (by decide +kernel) rfl)
theorem fl_X0_9 : Cond.fieldLink RX0 9 (TX0 1).1 (TX0 1).2.1 (TX0 1).2.2.1 ∈ lw_good := (lg_mem 114 (by decide +kernel) rfl)
theorem lkcp_X0_34 : Cond.methodLink RX0 34 arraycopyName ∈ lw_good := (lg_mem 353 (by decide +kernel) rfl)
theorem na_cp : Cond.native arraycopyName ∈ lw_good := (lg_mem 355 (by decide +kernel) rfl)
theorem st_cp : Cond.static arraycopyName ∈ lw_good := (lg_mem 354 (by decide +kernel) rfl)
theorem in_sys : Cond.initialized "java/lang/System" ∈ lw_good := (lg_mem 60 (by decide +kernel) rfl)
theorem fl_X0_15 : Cond.fieldLink RX0 15 (TX0 2).1 (TX0 2).2.1 (TX0 2).2.2.1 ∈ lw_good := (lg_mem 116 (by decide +kernel) rfl)
theorem fl_X0_18 : Cond.fieldLink RX0 18 (TX0 4).1 (TX0 4).2.1 (TX0 4).2.2.1 ∈ lw_good := (lg_mem 125 (by decide +kernel) rfl)
theorem lkv_X0_40 : LkV RX0 40 M_X0_allPosts := ⟨(lg_mem 377 (by decide +kernel) rfl), (lg_mem 378 (by decide +kernel) rfl), (lg_mem 379 (by decide +kernel) rfl)⟩
theorem lkv_X0_44 : LkV RX0 44 M_X0_seenFrom := ⟨(lg_mem 420 (by decide +kernel) rfl), (lg_mem 374 (by decide +kernel) rfl), (lg_mem 375 (by decide +kernel) rfl)⟩
theorem fl_X1_21 : Cond.fieldLink RX1 21 (TX1 0).1 (TX1 0).2.1 (TX1 0).2.2.1 ∈ lw_good := (lg_mem 210 (by decide +kernel) rfl)
theorem fl_X1_9 : Cond.fieldLink RX1 9 (TX1 1).1 (TX1 1).2.1 (TX1 1).2.2.1 ∈ lw_good := (lg_mem 212 (by decide +kernel) rfl)
theorem fl_X1_15 : Cond.fieldLink RX1 15 (TX1 2).1 (TX1 2).2.1 (TX1 2).2.2.1 ∈ lw_good := (lg_mem 213 (by decide +kernel) rfl)
theorem fl_X1_18 : Cond.fieldLink RX1 18 (TX1 3).1 (TX1 3).2.1 (TX1 3).2.2.1 ∈ lw_good := (lg_mem 214 (by decide +kernel) rfl)
-- java/lang/Integer.bitCount(I)I
def f_J6_bitCount (N : Nat) (a0 : Int32) : Option (Int32) :=
  some ((((((((a0 - (((a0).toUInt32 >>> ((1 : Int32).toUInt32 &&& Int32.toUInt32 31)).toInt32 &&& 1431655765)) &&& 858993459) + ((((a0 - (((a0).toUInt32 >>> ((1 : Int32).toUInt32 &&& Int32.toUInt32 31)).toInt32 &&& 1431655765))).toUInt32 >>> ((2 : Int32).toUInt32 &&& Int32.toUInt32 31)).toInt32 &&& 858993459)) + (((((a0 - (((a0).toUInt32 >>> ((1 : Int32).toUInt32 &&& Int32.toUInt32 31)).toInt32 &&& 1431655765)) &&& 858993459) + ((((a0 - (((a0).toUInt32 >>> ((1 : Int32).toUInt32 &&& Int32.toUInt32 31)).toInt32 &&& 1431655765))).toUInt32 >>> ((2 : Int32).toUInt32 &&& Int32.toUInt32 31)).toInt32 &&& 858993459))).toUInt32 >>> ((4 : Int32).toUInt32 &&& Int32.toUInt32 31)).toInt32) &&& 252645135) + (((((((a0 - (((a0).toUInt32 >>> ((1 : Int32).toUInt32 &&& Int32.toUInt32 31)).toInt32 &&& 1431655765)) &&& 858993459) + ((((a0 - (((a0).toUInt32 >>> ((1 : Int32).toUInt32 &&& Int32.toUInt32 31)).toInt32 &&& 1431655765))).toUInt32 >>> ((2 : Int32).toUInt32 &&& Int32.toUInt32 31)).toInt32 &&& 858993459)) + (((((a0 - (((a0).toUInt32 >>> ((1 : Int32).toUInt32 &&& Int32.toUInt32 31)).toInt32 &&& 1431655765)) &&& 858993459) + ((((a0 - (((a0).toUInt32 >>> ((1 : Int32).toUInt32 &&& Int32.toUInt32 31)).toInt32 &&& 1431655765))).toUInt32 >>> ((2 : Int32).toUInt32 &&& Int32.toUInt32 31)).toInt32 &&& 858993459))).toUInt32 >>> ((4 : Int32).toUInt32 &&& Int32.toUInt32 31)).toInt32) &&& 252645135)).toUInt32 >>> ((8 : Int32).toUInt32 &&& Int32.toUInt32 31)).toInt32) + ((((((((a0 - (((a0).toUInt32 >>> ((1 : Int32).toUInt32 &&& Int32.toUInt32 31)).toInt32 &&& 1431655765)) &&& 858993459) + ((((a0 - (((a0).toUInt32 >>> ((1 : Int32).toUInt32 &&& Int32.toUInt32 31)).toInt32 &&& 1431655765))).toUInt32 >>> ((2 : Int32).toUInt32 &&& Int32.toUInt32 31)).toInt32 &&& 858993459)) + (((((a0 - (((a0).toUInt32 >>> ((1 : Int32).toUInt32 &&& Int32.toUInt32 31)).toInt32 &&& 1431655765)) &&& 858993459) + ((((a0 - (((a0).toUInt32 >>> ((1 : Int32).toUInt32 &&& Int32.toUInt32 31)).toInt32 &&& 1431655765))).toUInt32 >>> ((2 : Int32).toUInt32 &&& Int32.toUInt32 31)).toInt32 &&& 858993459))).toUInt32 >>> ((4 : Int32).toUInt32 &&& Int32.toUInt32 31)).toInt32) &&& 252645135) + (((((((a0 - (((a0).toUInt32 >>> ((1 : Int32).toUInt32 &&& Int32.toUInt32 31)).toInt32 &&& 1431655765)) &&& 858993459) + ((((a0 - (((a0).toUInt32 >>> ((1 : Int32).toUInt32 &&& Int32.toUInt32 31)).toInt32 &&& 1431655765))).toUInt32 >>> ((2 : Int32).toUInt32 &&& Int32.toUInt32 31)).toInt32 &&& 858993459)) + (((((a0 - (((a0).toUInt32 >>> ((1 : Int32).toUInt32 &&& Int32.toUInt32 31)).toInt32 &&& 1431655765)) &&& 858993459) + ((((a0 - (((a0).toUInt32 >>> ((1 : Int32).toUInt32 &&& Int32.toUInt32 31)).toInt32 &&& 1431655765))).toUInt32 >>> ((2 : Int32).toUInt32 &&& Int32.toUInt32 31)).toInt32 &&& 858993459))).toUInt32 >>> ((4 : Int32).toUInt32 &&& Int32.toUInt32 31)).toInt32) &&& 252645135)).toUInt32 >>> ((8 : Int32).toUInt32 &&& Int32.toUInt32 31)).toInt32)).toUInt32 >>> ((16 : Int32).toUInt32 &&& Int32.toUInt32 31)).toInt32) &&& 63)
set_option maxHeartbeats 4000000 in
set_option maxRecDepth 100000 in
theorem m_J6_bitCount {γ : GX} {n : Nat} {N : Nat} {h : HP} {a0 : Int32}   {z : Int32} (hf : f_J6_bitCount N a0 = some z)  : Ct γ M_J6_bitCount n h [.int a0] (Done (some (.int z)) n h) := by
  refine Ct_of_Ev (by decide) (fun h => by cases h) (Nat.le_of_ble_eq_true rfl) ?_
  show Ev γ M_J6_bitCount (0, 0) n h [(0, .int a0)] 0 [] _
  unfold f_J6_bitCount at hf
  refine E_iload_n 0 dJ6_bitCount_0f7a4_0 (q := 1) rfl rfl rfl ?_
  refine E_iload_n 0 dJ6_bitCount_0f7a4_1 (q := 2) rfl rfl rfl ?_
  refine E_iconst (x := 1) dJ6_bitCount_0f7a4_2 (q := 3) rfl (by decide) ?_
  refine E_iushr dJ6_bitCount_0f7a4_3 (q := 4) rfl ?_
  refine E_ldcw dJ6_bitCount_0f7a4_4 (q := 7) rfl cw_J6_265 ?_
  refine E_iand dJ6_bitCount_0f7a4_7 (q := 8) rfl ?_
  refine E_isub dJ6_bitCount_0f7a4_8 (q := 9) rfl ?_
  refine E_istore_n [(0, .int (a0 - (((a0).toUInt32 >>> ((1 : Int32).toUInt32 &&& Int32.toUInt32 31)).toInt32 &&& 1431655765)))] dJ6_bitCount_0f7a4_9 (q := 10) rfl rfl (Nat.le_of_ble_eq_true rfl) rfl ?_
  refine E_iload_n 0 dJ6_bitCount_0f7a4_10 (q := 11) rfl rfl rfl ?_
  refine E_ldcw dJ6_bitCount_0f7a4_11 (q := 14) rfl cw_J6_266 ?_
  refine E_iand dJ6_bitCount_0f7a4_14 (q := 15) rfl ?_
  refine E_iload_n 0 dJ6_bitCount_0f7a4_15 (q := 16) rfl rfl rfl ?_
  refine E_iconst (x := 2) dJ6_bitCount_0f7a4_16 (q := 17) rfl (by decide) ?_
  refine E_iushr dJ6_bitCount_0f7a4_17 (q := 18) rfl ?_
  refine E_ldcw dJ6_bitCount_0f7a4_18 (q := 21) rfl cw_J6_266 ?_
  refine E_iand dJ6_bitCount_0f7a4_21 (q := 22) rfl ?_
  refine E_iadd dJ6_bitCount_0f7a4_22 (q := 23) rfl ?_
  refine E_istore_n [(0, .int (((a0 - (((a0).toUInt32 >>> ((1 : Int32).toUInt32 &&& Int32.toUInt32 31)).toInt32 &&& 1431655765)) &&& 858993459) + ((((a0 - (((a0).toUInt32 >>> ((1 : Int32).toUInt32 &&& Int32.toUInt32 31)).toInt32 &&& 1431655765))).toUInt32 >>> ((2 : Int32).toUInt32 &&& Int32.toUInt32 31)).toInt32 &&& 858993459)))] dJ6_bitCount_0f7a4_23 (q := 24) rfl rfl (Nat.le_of_ble_eq_true rfl) rfl ?_
  refine E_iload_n 0 dJ6_bitCount_0f7a4_24 (q := 25) rfl rfl rfl ?_
  refine E_iload_n 0 dJ6_bitCount_0f7a4_25 (q := 26) rfl rfl rfl ?_
  refine E_iconst (x := 4) dJ6_bitCount_0f7a4_26 (q := 27) rfl (by decide) ?_
  refine E_iushr dJ6_bitCount_0f7a4_27 (q := 28) rfl ?_
  refine E_iadd dJ6_bitCount_0f7a4_28 (q := 29) rfl ?_
  refine E_ldcw dJ6_bitCount_0f7a4_29 (q := 32) rfl cw_J6_267 ?_
  refine E_iand dJ6_bitCount_0f7a4_32 (q := 33) rfl ?_
  refine E_istore_n [(0, .int (((((a0 - (((a0).toUInt32 >>> ((1 : Int32).toUInt32 &&& Int32.toUInt32 31)).toInt32 &&& 1431655765)) &&& 858993459) + ((((a0 - (((a0).toUInt32 >>> ((1 : Int32).toUInt32 &&& Int32.toUInt32 31)).toInt32 &&& 1431655765))).toUInt32 >>> ((2 : Int32).toUInt32 &&& Int32.toUInt32 31)).toInt32 &&& 858993459)) + (((((a0 - (((a0).toUInt32 >>> ((1 : Int32).toUInt32 &&& Int32.toUInt32 31)).toInt32 &&& 1431655765)) &&& 858993459) + ((((a0 - (((a0).toUInt32 >>> ((1 : Int32).toUInt32 &&& Int32.toUInt32 31)).toInt32 &&& 1431655765))).toUInt32 >>> ((2 : Int32).toUInt32 &&& Int32.toUInt32 31)).toInt32 &&& 858993459))).toUInt32 >>> ((4 : Int32).toUInt32 &&& Int32.toUInt32 31)).toInt32) &&& 252645135))] dJ6_bitCount_0f7a4_33 (q := 34) rfl rfl (Nat.le_of_ble_eq_true rfl) rfl ?_
  refine E_iload_n 0 dJ6_bitCount_0f7a4_34 (q := 35) rfl rfl rfl ?_
  refine E_iload_n 0 dJ6_bitCount_0f7a4_35 (q := 36) rfl rfl rfl ?_
  refine E_bipush (x := 8) dJ6_bitCount_0f7a4_36 (q := 38) rfl (by decide) ?_
  refine E_iushr dJ6_bitCount_0f7a4_38 (q := 39) rfl ?_
  refine E_iadd dJ6_bitCount_0f7a4_39 (q := 40) rfl ?_
  refine E_istore_n [(0, .int ((((((a0 - (((a0).toUInt32 >>> ((1 : Int32).toUInt32 &&& Int32.toUInt32 31)).toInt32 &&& 1431655765)) &&& 858993459) + ((((a0 - (((a0).toUInt32 >>> ((1 : Int32).toUInt32 &&& Int32.toUInt32 31)).toInt32 &&& 1431655765))).toUInt32 >>> ((2 : Int32).toUInt32 &&& Int32.toUInt32 31)).toInt32 &&& 858993459)) + (((((a0 - (((a0).toUInt32 >>> ((1 : Int32).toUInt32 &&& Int32.toUInt32 31)).toInt32 &&& 1431655765)) &&& 858993459) + ((((a0 - (((a0).toUInt32 >>> ((1 : Int32).toUInt32 &&& Int32.toUInt32 31)).toInt32 &&& 1431655765))).toUInt32 >>> ((2 : Int32).toUInt32 &&& Int32.toUInt32 31)).toInt32 &&& 858993459))).toUInt32 >>> ((4 : Int32).toUInt32 &&& Int32.toUInt32 31)).toInt32) &&& 252645135) + (((((((a0 - (((a0).toUInt32 >>> ((1 : Int32).toUInt32 &&& Int32.toUInt32 31)).toInt32 &&& 1431655765)) &&& 858993459) + ((((a0 - (((a0).toUInt32 >>> ((1 : Int32).toUInt32 &&& Int32.toUInt32 31)).toInt32 &&& 1431655765))).toUInt32 >>> ((2 : Int32).toUInt32 &&& Int32.toUInt32 31)).toInt32 &&& 858993459)) + (((((a0 - (((a0).toUInt32 >>> ((1 : Int32).toUInt32 &&& Int32.toUInt32 31)).toInt32 &&& 1431655765)) &&& 858993459) + ((((a0 - (((a0).toUInt32 >>> ((1 : Int32).toUInt32 &&& Int32.toUInt32 31)).toInt32 &&& 1431655765))).toUInt32 >>> ((2 : Int32).toUInt32 &&& Int32.toUInt32 31)).toInt32 &&& 858993459))).toUInt32 >>> ((4 : Int32).toUInt32 &&& Int32.toUInt32 31)).toInt32) &&& 252645135)).toUInt32 >>> ((8 : Int32).toUInt32 &&& Int32.toUInt32 31)).toInt32))] dJ6_bitCount_0f7a4_40 (q := 41) rfl rfl (Nat.le_of_ble_eq_true rfl) rfl ?_
  refine E_iload_n 0 dJ6_bitCount_0f7a4_41 (q := 42) rfl rfl rfl ?_
  refine E_iload_n 0 dJ6_bitCount_0f7a4_42 (q := 43) rfl rfl rfl ?_
  refine E_bipush (x := 16) dJ6_bitCount_0f7a4_43 (q := 45) rfl (by decide) ?_
  refine E_iushr dJ6_bitCount_0f7a4_45 (q := 46) rfl ?_
  refine E_iadd dJ6_bitCount_0f7a4_46 (q := 47) rfl ?_
  refine E_istore_n [(0, .int (((((((a0 - (((a0).toUInt32 >>> ((1 : Int32).toUInt32 &&& Int32.toUInt32 31)).toInt32 &&& 1431655765)) &&& 858993459) + ((((a0 - (((a0).toUInt32 >>> ((1 : Int32).toUInt32 &&& Int32.toUInt32 31)).toInt32 &&& 1431655765))).toUInt32 >>> ((2 : Int32).toUInt32 &&& Int32.toUInt32 31)).toInt32 &&& 858993459)) + (((((a0 - (((a0).toUInt32 >>> ((1 : Int32).toUInt32 &&& Int32.toUInt32 31)).toInt32 &&& 1431655765)) &&& 858993459) + ((((a0 - (((a0).toUInt32 >>> ((1 : Int32).toUInt32 &&& Int32.toUInt32 31)).toInt32 &&& 1431655765))).toUInt32 >>> ((2 : Int32).toUInt32 &&& Int32.toUInt32 31)).toInt32 &&& 858993459))).toUInt32 >>> ((4 : Int32).toUInt32 &&& Int32.toUInt32 31)).toInt32) &&& 252645135) + (((((((a0 - (((a0).toUInt32 >>> ((1 : Int32).toUInt32 &&& Int32.toUInt32 31)).toInt32 &&& 1431655765)) &&& 858993459) + ((((a0 - (((a0).toUInt32 >>> ((1 : Int32).toUInt32 &&& Int32.toUInt32 31)).toInt32 &&& 1431655765))).toUInt32 >>> ((2 : Int32).toUInt32 &&& Int32.toUInt32 31)).toInt32 &&& 858993459)) + (((((a0 - (((a0).toUInt32 >>> ((1 : Int32).toUInt32 &&& Int32.toUInt32 31)).toInt32 &&& 1431655765)) &&& 858993459) + ((((a0 - (((a0).toUInt32 >>> ((1 : Int32).toUInt32 &&& Int32.toUInt32 31)).toInt32 &&& 1431655765))).toUInt32 >>> ((2 : Int32).toUInt32 &&& Int32.toUInt32 31)).toInt32 &&& 858993459))).toUInt32 >>> ((4 : Int32).toUInt32 &&& Int32.toUInt32 31)).toInt32) &&& 252645135)).toUInt32 >>> ((8 : Int32).toUInt32 &&& Int32.toUInt32 31)).toInt32) + ((((((((a0 - (((a0).toUInt32 >>> ((1 : Int32).toUInt32 &&& Int32.toUInt32 31)).toInt32 &&& 1431655765)) &&& 858993459) + ((((a0 - (((a0).toUInt32 >>> ((1 : Int32).toUInt32 &&& Int32.toUInt32 31)).toInt32 &&& 1431655765))).toUInt32 >>> ((2 : Int32).toUInt32 &&& Int32.toUInt32 31)).toInt32 &&& 858993459)) + (((((a0 - (((a0).toUInt32 >>> ((1 : Int32).toUInt32 &&& Int32.toUInt32 31)).toInt32 &&& 1431655765)) &&& 858993459) + ((((a0 - (((a0).toUInt32 >>> ((1 : Int32).toUInt32 &&& Int32.toUInt32 31)).toInt32 &&& 1431655765))).toUInt32 >>> ((2 : Int32).toUInt32 &&& Int32.toUInt32 31)).toInt32 &&& 858993459))).toUInt32 >>> ((4 : Int32).toUInt32 &&& Int32.toUInt32 31)).toInt32) &&& 252645135) + (((((((a0 - (((a0).toUInt32 >>> ((1 : Int32).toUInt32 &&& Int32.toUInt32 31)).toInt32 &&& 1431655765)) &&& 858993459) + ((((a0 - (((a0).toUInt32 >>> ((1 : Int32).toUInt32 &&& Int32.toUInt32 31)).toInt32 &&& 1431655765))).toUInt32 >>> ((2 : Int32).toUInt32 &&& Int32.toUInt32 31)).toInt32 &&& 858993459)) + (((((a0 - (((a0).toUInt32 >>> ((1 : Int32).toUInt32 &&& Int32.toUInt32 31)).toInt32 &&& 1431655765)) &&& 858993459) + ((((a0 - (((a0).toUInt32 >>> ((1 : Int32).toUInt32 &&& Int32.toUInt32 31)).toInt32 &&& 1431655765))).toUInt32 >>> ((2 : Int32).toUInt32 &&& Int32.toUInt32 31)).toInt32 &&& 858993459))).toUInt32 >>> ((4 : Int32).toUInt32 &&& Int32.toUInt32 31)).toInt32) &&& 252645135)).toUInt32 >>> ((8 : Int32).toUInt32 &&& Int32.toUInt32 31)).toInt32)).toUInt32 >>> ((16 : Int32).toUInt32 &&& Int32.toUInt32 31)).toInt32))] dJ6_bitCount_0f7a4_47 (q := 48) rfl rfl (Nat.le_of_ble_eq_true rfl) rfl ?_
  refine E_iload_n 0 dJ6_bitCount_0f7a4_48 (q := 49) rfl rfl rfl ?_
  refine E_bipush (x := 63) dJ6_bitCount_0f7a4_49 (q := 51) rfl (by decide) ?_
  refine E_iand dJ6_bitCount_0f7a4_51 (q := 52) rfl ?_
  obtain rfl := Option.some.inj hf
  exact E_iret dJ6_bitCount_0f7a4_52 rfl ⟨rfl, rfl, rfl⟩

-- java/lang/Integer.numberOfTrailingZeros(I)I
def f_J6_numberOfTrailingZeros (N : Nat) (a0 : Int32) : Option (Int32) :=
  (if 0 < ((a0 ^^^ (-1)) &&& (a0 - 1)) then (if ((a0 ^^^ (-1)) &&& (a0 - 1)) ≤ 65536 then (if ((a0 ^^^ (-1)) &&& (a0 - 1)) ≤ 256 then (if ((a0 ^^^ (-1)) &&& (a0 - 1)) ≤ 16 then (if ((a0 ^^^ (-1)) &&& (a0 - 1)) ≤ 4 then some (1 + ((((a0 ^^^ (-1)) &&& (a0 - 1))).toUInt32 >>> ((1 : Int32).toUInt32 &&& Int32.toUInt32 31)).toInt32) else some ((1 + 2) + ((((((a0 ^^^ (-1)) &&& (a0 - 1))).toUInt32 >>> ((2 : Int32).toUInt32 &&& Int32.toUInt32 31)).toInt32).toUInt32 >>> ((1 : Int32).toUInt32 &&& Int32.toUInt32 31)).toInt32)) else (if (((((a0 ^^^ (-1)) &&& (a0 - 1))).toUInt32 >>> ((4 : Int32).toUInt32 &&& Int32.toUInt32 31)).toInt32) ≤ 4 then some ((1 + 4) + ((((((a0 ^^^ (-1)) &&& (a0 - 1))).toUInt32 >>> ((4 : Int32).toUInt32 &&& Int32.toUInt32 31)).toInt32).toUInt32 >>> ((1 : Int32).toUInt32 &&& Int32.toUInt32 31)).toInt32) else some (((1 + 4) + 2) + ((((((((a0 ^^^ (-1)) &&& (a0 - 1))).toUInt32 >>> ((4 : Int32).toUInt32 &&& Int32.toUInt32 31)).toInt32).toUInt32 >>> ((2 : Int32).toUInt32 &&& Int32.toUInt32 31)).toInt32).toUInt32 >>> ((1 : Int32).toUInt32 &&& Int32.toUInt32 31)).toInt32))) else (if (((((a0 ^^^ (-1)) &&& (a0 - 1))).toUInt32 >>> ((8 : Int32).toUInt32 &&& Int32.toUInt32 31)).toInt32) ≤ 16 then (if (((((a0 ^^^ (-1)) &&& (a0 - 1))).toUInt32 >>> ((8 : Int32).toUInt32 &&& Int32.toUInt32 31)).toInt32) ≤ 4 then some ((1 + 8) + ((((((a0 ^^^ (-1)) &&& (a0 - 1))).toUInt32 >>> ((8 : Int32).toUInt32 &&& Int32.toUInt32 31)).toInt32).toUInt32 >>> ((1 : Int32).toUInt32 &&& Int32.toUInt32 31)).toInt32) else some (((1 + 8) + 2) + ((((((((a0 ^^^ (-1)) &&& (a0 - 1))).toUInt32 >>> ((8 : Int32).toUInt32 &&& Int32.toUInt32 31)).toInt32).toUInt32 >>> ((2 : Int32).toUInt32 &&& Int32.toUInt32 31)).toInt32).toUInt32 >>> ((1 : Int32).toUInt32 &&& Int32.toUInt32 31)).toInt32)) else (if (((((((a0 ^^^ (-1)) &&& (a0 - 1))).toUInt32 >>> ((8 : Int32).toUInt32 &&& Int32.toUInt32 31)).toInt32).toUInt32 >>> ((4 : Int32).toUInt32 &&& Int32.toUInt32 31)).toInt32) ≤ 4 then some (((1 + 8) + 4) + ((((((((a0 ^^^ (-1)) &&& (a0 - 1))).toUInt32 >>> ((8 : Int32).toUInt32 &&& Int32.toUInt32 31)).toInt32).toUInt32 >>> ((4 : Int32).toUInt32 &&& Int32.toUInt32 31)).toInt32).toUInt32 >>> ((1 : Int32).toUInt32 &&& Int32.toUInt32 31)).toInt32) else some ((((1 + 8) + 4) + 2) + ((((((((((a0 ^^^ (-1)) &&& (a0 - 1))).toUInt32 >>> ((8 : Int32).toUInt32 &&& Int32.toUInt32 31)).toInt32).toUInt32 >>> ((4 : Int32).toUInt32 &&& Int32.toUInt32 31)).toInt32).toUInt32 >>> ((2 : Int32).toUInt32 &&& Int32.toUInt32 31)).toInt32).toUInt32 >>> ((1 : Int32).toUInt32 &&& Int32.toUInt32 31)).toInt32)))) else (if (((((a0 ^^^ (-1)) &&& (a0 - 1))).toUInt32 >>> ((16 : Int32).toUInt32 &&& Int32.toUInt32 31)).toInt32) ≤ 256 then (if (((((a0 ^^^ (-1)) &&& (a0 - 1))).toUInt32 >>> ((16 : Int32).toUInt32 &&& Int32.toUInt32 31)).toInt32) ≤ 16 then (if (((((a0 ^^^ (-1)) &&& (a0 - 1))).toUInt32 >>> ((16 : Int32).toUInt32 &&& Int32.toUInt32 31)).toInt32) ≤ 4 then some ((1 + 16) + ((((((a0 ^^^ (-1)) &&& (a0 - 1))).toUInt32 >>> ((16 : Int32).toUInt32 &&& Int32.toUInt32 31)).toInt32).toUInt32 >>> ((1 : Int32).toUInt32 &&& Int32.toUInt32 31)).toInt32) else some (((1 + 16) + 2) + ((((((((a0 ^^^ (-1)) &&& (a0 - 1))).toUInt32 >>> ((16 : Int32).toUInt32 &&& Int32.toUInt32 31)).toInt32).toUInt32 >>> ((2 : Int32).toUInt32 &&& Int32.toUInt32 31)).toInt32).toUInt32 >>> ((1 : Int32).toUInt32 &&& Int32.toUInt32 31)).toInt32)) else (if (((((((a0 ^^^ (-1)) &&& (a0 - 1))).toUInt32 >>> ((16 : Int32).toUInt32 &&& Int32.toUInt32 31)).toInt32).toUInt32 >>> ((4 : Int32).toUInt32 &&& Int32.toUInt32 31)).toInt32) ≤ 4 then some (((1 + 16) + 4) + ((((((((a0 ^^^ (-1)) &&& (a0 - 1))).toUInt32 >>> ((16 : Int32).toUInt32 &&& Int32.toUInt32 31)).toInt32).toUInt32 >>> ((4 : Int32).toUInt32 &&& Int32.toUInt32 31)).toInt32).toUInt32 >>> ((1 : Int32).toUInt32 &&& Int32.toUInt32 31)).toInt32) else some ((((1 + 16) + 4) + 2) + ((((((((((a0 ^^^ (-1)) &&& (a0 - 1))).toUInt32 >>> ((16 : Int32).toUInt32 &&& Int32.toUInt32 31)).toInt32).toUInt32 >>> ((4 : Int32).toUInt32 &&& Int32.toUInt32 31)).toInt32).toUInt32 >>> ((2 : Int32).toUInt32 &&& Int32.toUInt32 31)).toInt32).toUInt32 >>> ((1 : Int32).toUInt32 &&& Int32.toUInt32 31)).toInt32))) else (if (((((((a0 ^^^ (-1)) &&& (a0 - 1))).toUInt32 >>> ((16 : Int32).toUInt32 &&& Int32.toUInt32 31)).toInt32).toUInt32 >>> ((8 : Int32).toUInt32 &&& Int32.toUInt32 31)).toInt32) ≤ 16 then (if (((((((a0 ^^^ (-1)) &&& (a0 - 1))).toUInt32 >>> ((16 : Int32).toUInt32 &&& Int32.toUInt32 31)).toInt32).toUInt32 >>> ((8 : Int32).toUInt32 &&& Int32.toUInt32 31)).toInt32) ≤ 4 then some (((1 + 16) + 8) + ((((((((a0 ^^^ (-1)) &&& (a0 - 1))).toUInt32 >>> ((16 : Int32).toUInt32 &&& Int32.toUInt32 31)).toInt32).toUInt32 >>> ((8 : Int32).toUInt32 &&& Int32.toUInt32 31)).toInt32).toUInt32 >>> ((1 : Int32).toUInt32 &&& Int32.toUInt32 31)).toInt32) else some ((((1 + 16) + 8) + 2) + ((((((((((a0 ^^^ (-1)) &&& (a0 - 1))).toUInt32 >>> ((16 : Int32).toUInt32 &&& Int32.toUInt32 31)).toInt32).toUInt32 >>> ((8 : Int32).toUInt32 &&& Int32.toUInt32 31)).toInt32).toUInt32 >>> ((2 : Int32).toUInt32 &&& Int32.toUInt32 31)).toInt32).toUInt32 >>> ((1 : Int32).toUInt32 &&& Int32.toUInt32 31)).toInt32)) else (if (((((((((a0 ^^^ (-1)) &&& (a0 - 1))).toUInt32 >>> ((16 : Int32).toUInt32 &&& Int32.toUInt32 31)).toInt32).toUInt32 >>> ((8 : Int32).toUInt32 &&& Int32.toUInt32 31)).toInt32).toUInt32 >>> ((4 : Int32).toUInt32 &&& Int32.toUInt32 31)).toInt32) ≤ 4 then some ((((1 + 16) + 8) + 4) + ((((((((((a0 ^^^ (-1)) &&& (a0 - 1))).toUInt32 >>> ((16 : Int32).toUInt32 &&& Int32.toUInt32 31)).toInt32).toUInt32 >>> ((8 : Int32).toUInt32 &&& Int32.toUInt32 31)).toInt32).toUInt32 >>> ((4 : Int32).toUInt32 &&& Int32.toUInt32 31)).toInt32).toUInt32 >>> ((1 : Int32).toUInt32 &&& Int32.toUInt32 31)).toInt32) else some (((((1 + 16) + 8) + 4) + 2) + ((((((((((((a0 ^^^ (-1)) &&& (a0 - 1))).toUInt32 >>> ((16 : Int32).toUInt32 &&& Int32.toUInt32 31)).toInt32).toUInt32 >>> ((8 : Int32).toUInt32 &&& Int32.toUInt32 31)).toInt32).toUInt32 >>> ((4 : Int32).toUInt32 &&& Int32.toUInt32 31)).toInt32).toUInt32 >>> ((2 : Int32).toUInt32 &&& Int32.toUInt32 31)).toInt32).toUInt32 >>> ((1 : Int32).toUInt32 &&& Int32.toUInt32 31)).toInt32))))) else some (((a0 ^^^ (-1)) &&& (a0 - 1)) &&& 32))
set_option maxHeartbeats 4000000 in
set_option maxRecDepth 100000 in
theorem m_J6_numberOfTrailingZeros {γ : GX} {n : Nat} {N : Nat} {h : HP} {a0 : Int32}   {z : Int32} (hf : f_J6_numberOfTrailingZeros N a0 = some z)  : Ct γ M_J6_numberOfTrailingZeros n h [.int a0] (Done (some (.int z)) n h) := by
  refine Ct_of_Ev (by decide) (fun h => by cases h) (Nat.le_of_ble_eq_true rfl) ?_
  show Ev γ M_J6_numberOfTrailingZeros (0, 0) n h [(0, .int a0)] 0 [] _
  unfold f_J6_numberOfTrailingZeros at hf
  refine E_iload_n 0 dJ6_numberOfTrailingZeros_0f7a4_0 (q := 1) rfl rfl rfl ?_
  refine E_iconst (x := (-1)) dJ6_numberOfTrailingZeros_0f7a4_1 (q := 2) rfl (by decide) ?_
  refine E_ixor dJ6_numberOfTrailingZeros_0f7a4_2 (q := 3) rfl ?_
  refine E_iload_n 0 dJ6_numberOfTrailingZeros_0f7a4_3 (q := 4) rfl rfl rfl ?_
  refine E_iconst (x := 1) dJ6_numberOfTrailingZeros_0f7a4_4 (q := 5) rfl (by decide) ?_
  refine E_isub dJ6_numberOfTrailingZeros_0f7a4_5 (q := 6) rfl ?_
  refine E_iand dJ6_numberOfTrailingZeros_0f7a4_6 (q := 7) rfl ?_
  refine E_istore_n [(0, .int ((a0 ^^^ (-1)) &&& (a0 - 1)))] dJ6_numberOfTrailingZeros_0f7a4_7 (q := 8) rfl rfl (Nat.le_of_ble_eq_true rfl) rfl ?_
  refine E_iload_n 0 dJ6_numberOfTrailingZeros_0f7a4_8 (q := 9) rfl rfl rfl ?_
  refine E_if_gt dJ6_numberOfTrailingZeros_0f7a4_9 (t := 17) (by decide) (q := 12) rfl (fun c1 => ?_) (fun c1 => ?_)
  · have hf := if_t c1 hf
    refine E_iconst (x := 1) dJ6_numberOfTrailingZeros_0f7a4_17 (q := 18) rfl (by decide) ?_
    refine E_istore_n [(1, .int 1), (0, .int ((a0 ^^^ (-1)) &&& (a0 - 1)))] dJ6_numberOfTrailingZeros_0f7a4_18 (q := 19) rfl rfl (Nat.le_of_ble_eq_true rfl) rfl ?_
    refine E_iload_n 1 dJ6_numberOfTrailingZeros_0f7a4_19 (q := 20) rfl rfl rfl ?_
    refine E_ldcw dJ6_numberOfTrailingZeros_0f7a4_20 (q := 23) rfl cw_J6_264 ?_
    refine E_icmp_le dJ6_numberOfTrailingZeros_0f7a4_23 (t := 34) (by decide) (q := 26) rfl (fun c2 => ?_) (fun c2 => ?_)
    · have hf := if_t c2 hf
      refine E_iload_n 1 dJ6_numberOfTrailingZeros_0f7a4_34 (q := 35) rfl rfl rfl ?_
      refine E_sipush (x := 256) dJ6_numberOfTrailingZeros_0f7a4_35 (q := 38) rfl (by decide) ?_
      refine E_icmp_le dJ6_numberOfTrailingZeros_0f7a4_38 (t := 49) (by decide) (q := 41) rfl (fun c3 => ?_) (fun c3 => ?_)
      · have hf := if_t c3 hf
        refine E_iload_n 1 dJ6_numberOfTrailingZeros_0f7a4_49 (q := 50) rfl rfl rfl ?_
        refine E_bipush (x := 16) dJ6_numberOfTrailingZeros_0f7a4_50 (q := 52) rfl (by decide) ?_
        refine E_icmp_le dJ6_numberOfTrailingZeros_0f7a4_52 (t := 62) (by decide) (q := 55) rfl (fun c4 => ?_) (fun c4 => ?_)
        · have hf := if_t c4 hf
          refine E_iload_n 1 dJ6_numberOfTrailingZeros_0f7a4_62 (q := 63) rfl rfl rfl ?_
          refine E_iconst (x := 4) dJ6_numberOfTrailingZeros_0f7a4_63 (q := 64) rfl (by decide) ?_
          refine E_icmp_le dJ6_numberOfTrailingZeros_0f7a4_64 (t := 74) (by decide) (q := 67) rfl (fun c5 => ?_) (fun c5 => ?_)
          · have hf := if_t c5 hf
            refine E_iload_n 0 dJ6_numberOfTrailingZeros_0f7a4_74 (q := 75) rfl rfl rfl ?_
            refine E_iload_n 1 dJ6_numberOfTrailingZeros_0f7a4_75 (q := 76) rfl rfl rfl ?_
            refine E_iconst (x := 1) dJ6_numberOfTrailingZeros_0f7a4_76 (q := 77) rfl (by decide) ?_
            refine E_iushr dJ6_numberOfTrailingZeros_0f7a4_77 (q := 78) rfl ?_
            refine E_iadd dJ6_numberOfTrailingZeros_0f7a4_78 (q := 79) rfl ?_
            obtain rfl := Option.some.inj hf
            exact E_iret dJ6_numberOfTrailingZeros_0f7a4_79 rfl ⟨rfl, rfl, rfl⟩
          · have hf := if_f c5 hf
            refine E_iinc 0 [(1, .int (1 + 2)), (0, .int ((a0 ^^^ (-1)) &&& (a0 - 1)))] dJ6_numberOfTrailingZeros_0f7a4_67 (q := 70) rfl rfl rfl (Nat.le_of_ble_eq_true rfl) rfl ?_
            refine E_iload_n 1 dJ6_numberOfTrailingZeros_0f7a4_70 (q := 71) rfl rfl rfl ?_
            refine E_iconst (x := 2) dJ6_numberOfTrailingZeros_0f7a4_71 (q := 72) rfl (by decide) ?_
            refine E_iushr dJ6_numberOfTrailingZeros_0f7a4_72 (q := 73) rfl ?_
            refine E_istore_n [(0, .int (((((a0 ^^^ (-1)) &&& (a0 - 1))).toUInt32 >>> ((2 : Int32).toUInt32 &&& Int32.toUInt32 31)).toInt32)), (1, .int (1 + 2))] dJ6_numberOfTrailingZeros_0f7a4_73 (q := 74) rfl rfl (Nat.le_of_ble_eq_true rfl) rfl ?_
            refine E_iload_n 1 dJ6_numberOfTrailingZeros_0f7a4_74 (q := 75) rfl rfl rfl ?_
            refine E_iload_n 0 dJ6_numberOfTrailingZeros_0f7a4_75 (q := 76) rfl rfl rfl ?_
            refine E_iconst (x := 1) dJ6_numberOfTrailingZeros_0f7a4_76 (q := 77) rfl (by decide) ?_
            refine E_iushr dJ6_numberOfTrailingZeros_0f7a4_77 (q := 78) rfl ?_
            refine E_iadd dJ6_numberOfTrailingZeros_0f7a4_78 (q := 79) rfl ?_
            obtain rfl := Option.some.inj hf
            exact E_iret dJ6_numberOfTrailingZeros_0f7a4_79 rfl ⟨rfl, rfl, rfl⟩
        · have hf := if_f c4 hf
          refine E_iinc 0 [(1, .int (1 + 4)), (0, .int ((a0 ^^^ (-1)) &&& (a0 - 1)))] dJ6_numberOfTrailingZeros_0f7a4_55 (q := 58) rfl rfl rfl (Nat.le_of_ble_eq_true rfl) rfl ?_
          refine E_iload_n 1 dJ6_numberOfTrailingZeros_0f7a4_58 (q := 59) rfl rfl rfl ?_
          refine E_iconst (x := 4) dJ6_numberOfTrailingZeros_0f7a4_59 (q := 60) rfl (by decide) ?_
          refine E_iushr dJ6_numberOfTrailingZeros_0f7a4_60 (q := 61) rfl ?_
          refine E_istore_n [(0, .int (((((a0 ^^^ (-1)) &&& (a0 - 1))).toUInt32 >>> ((4 : Int32).toUInt32 &&& Int32.toUInt32 31)).toInt32)), (1, .int (1 + 4))] dJ6_numberOfTrailingZeros_0f7a4_61 (q := 62) rfl rfl (Nat.le_of_ble_eq_true rfl) rfl ?_
          refine E_iload_n 0 dJ6_numberOfTrailingZeros_0f7a4_62 (q := 63) rfl rfl rfl ?_
          refine E_iconst (x := 4) dJ6_numberOfTrailingZeros_0f7a4_63 (q := 64) rfl (by decide) ?_
          refine E_icmp_le dJ6_numberOfTrailingZeros_0f7a4_64 (t := 74) (by decide) (q := 67) rfl (fun c6 => ?_) (fun c6 => ?_)
          · have hf := if_t c6 hf
            refine E_iload_n 1 dJ6_numberOfTrailingZeros_0f7a4_74 (q := 75) rfl rfl rfl ?_
            refine E_iload_n 0 dJ6_numberOfTrailingZeros_0f7a4_75 (q := 76) rfl rfl rfl ?_
            refine E_iconst (x := 1) dJ6_numberOfTrailingZeros_0f7a4_76 (q := 77) rfl (by decide) ?_
            refine E_iushr dJ6_numberOfTrailingZeros_0f7a4_77 (q := 78) rfl ?_
            refine E_iadd dJ6_numberOfTrailingZeros_0f7a4_78 (q := 79) rfl ?_
            obtain rfl := Option.some.inj hf
            exact E_iret dJ6_numberOfTrailingZeros_0f7a4_79 rfl ⟨rfl, rfl, rfl⟩
          · have hf := if_f c6 hf
            refine E_iinc 1 [(1, .int ((1 + 4) + 2)), (0, .int (((((a0 ^^^ (-1)) &&& (a0 - 1))).toUInt32 >>> ((4 : Int32).toUInt32 &&& Int32.toUInt32 31)).toInt32))] dJ6_numberOfTrailingZeros_0f7a4_67 (q := 70) rfl rfl rfl (Nat.le_of_ble_eq_true rfl) rfl ?_
            refine E_iload_n 1 dJ6_numberOfTrailingZeros_0f7a4_70 (q := 71) rfl rfl rfl ?_
            refine E_iconst (x := 2) dJ6_numberOfTrailingZeros_0f7a4_71 (q := 72) rfl (by decide) ?_
            refine E_iushr dJ6_numberOfTrailingZeros_0f7a4_72 (q := 73) rfl ?_
            refine E_istore_n [(0, .int (((((((a0 ^^^ (-1)) &&& (a0 - 1))).toUInt32 >>> ((4 : Int32).toUInt32 &&& Int32.toUInt32 31)).toInt32).toUInt32 >>> ((2 : Int32).toUInt32 &&& Int32.toUInt32 31)).toInt32)), (1, .int ((1 + 4) + 2))] dJ6_numberOfTrailingZeros_0f7a4_73 (q := 74) rfl rfl (Nat.le_of_ble_eq_true rfl) rfl ?_
            refine E_iload_n 1 dJ6_numberOfTrailingZeros_0f7a4_74 (q := 75) rfl rfl rfl ?_
            refine E_iload_n 0 dJ6_numberOfTrailingZeros_0f7a4_75 (q := 76) rfl rfl rfl ?_
            refine E_iconst (x := 1) dJ6_numberOfTrailingZeros_0f7a4_76 (q := 77) rfl (by decide) ?_
            refine E_iushr dJ6_numberOfTrailingZeros_0f7a4_77 (q := 78) rfl ?_
            refine E_iadd dJ6_numberOfTrailingZeros_0f7a4_78 (q := 79) rfl ?_
            obtain rfl := Option.some.inj hf
            exact E_iret dJ6_numberOfTrailingZeros_0f7a4_79 rfl ⟨rfl, rfl, rfl⟩
      · have hf := if_f c3 hf
        refine E_iinc 0 [(1, .int (1 + 8)), (0, .int ((a0 ^^^ (-1)) &&& (a0 - 1)))] dJ6_numberOfTrailingZeros_0f7a4_41 (q := 44) rfl rfl rfl (Nat.le_of_ble_eq_true rfl) rfl ?_
        refine E_iload_n 1 dJ6_numberOfTrailingZeros_0f7a4_44 (q := 45) rfl rfl rfl ?_
        refine E_bipush (x := 8) dJ6_numberOfTrailingZeros_0f7a4_45 (q := 47) rfl (by decide) ?_
        refine E_iushr dJ6_numberOfTrailingZeros_0f7a4_47 (q := 48) rfl ?_
        refine E_istore_n [(0, .int (((((a0 ^^^ (-1)) &&& (a0 - 1))).toUInt32 >>> ((8 : Int32).toUInt32 &&& Int32.toUInt32 31)).toInt32)), (1, .int (1 + 8))] dJ6_numberOfTrailingZeros_0f7a4_48 (q := 49) rfl rfl (Nat.le_of_ble_eq_true rfl) rfl ?_
        refine E_iload_n 0 dJ6_numberOfTrailingZeros_0f7a4_49 (q := 50) rfl rfl rfl ?_
        refine E_bipush (x := 16) dJ6_numberOfTrailingZeros_0f7a4_50 (q := 52) rfl (by decide) ?_
        refine E_icmp_le dJ6_numberOfTrailingZeros_0f7a4_52 (t := 62) (by decide) (q := 55) rfl (fun c7 => ?_) (fun c7 => ?_)
        · have hf := if_t c7 hf
          refine E_iload_n 0 dJ6_numberOfTrailingZeros_0f7a4_62 (q := 63) rfl rfl rfl ?_
          refine E_iconst (x := 4) dJ6_numberOfTrailingZeros_0f7a4_63 (q := 64) rfl (by decide) ?_
          refine E_icmp_le dJ6_numberOfTrailingZeros_0f7a4_64 (t := 74) (by decide) (q := 67) rfl (fun c8 => ?_) (fun c8 => ?_)
          · have hf := if_t c8 hf
            refine E_iload_n 1 dJ6_numberOfTrailingZeros_0f7a4_74 (q := 75) rfl rfl rfl ?_
            refine E_iload_n 0 dJ6_numberOfTrailingZeros_0f7a4_75 (q := 76) rfl rfl rfl ?_
            refine E_iconst (x := 1) dJ6_numberOfTrailingZeros_0f7a4_76 (q := 77) rfl (by decide) ?_
            refine E_iushr dJ6_numberOfTrailingZeros_0f7a4_77 (q := 78) rfl ?_
            refine E_iadd dJ6_numberOfTrailingZeros_0f7a4_78 (q := 79) rfl ?_
            obtain rfl := Option.some.inj hf
            exact E_iret dJ6_numberOfTrailingZeros_0f7a4_79 rfl ⟨rfl, rfl, rfl⟩
          · have hf := if_f c8 hf
            refine E_iinc 1 [(1, .int ((1 + 8) + 2)), (0, .int (((((a0 ^^^ (-1)) &&& (a0 - 1))).toUInt32 >>> ((8 : Int32).toUInt32 &&& Int32.toUInt32 31)).toInt32))] dJ6_numberOfTrailingZeros_0f7a4_67 (q := 70) rfl rfl rfl (Nat.le_of_ble_eq_true rfl) rfl ?_
            refine E_iload_n 1 dJ6_numberOfTrailingZeros_0f7a4_70 (q := 71) rfl rfl rfl ?_
            refine E_iconst (x := 2) dJ6_numberOfTrailingZeros_0f7a4_71 (q := 72) rfl (by decide) ?_
            refine E_iushr dJ6_numberOfTrailingZeros_0f7a4_72 (q := 73) rfl ?_
            refine E_istore_n [(0, .int (((((((a0 ^^^ (-1)) &&& (a0 - 1))).toUInt32 >>> ((8 : Int32).toUInt32 &&& Int32.toUInt32 31)).toInt32).toUInt32 >>> ((2 : Int32).toUInt32 &&& Int32.toUInt32 31)).toInt32)), (1, .int ((1 + 8) + 2))] dJ6_numberOfTrailingZeros_0f7a4_73 (q := 74) rfl rfl (Nat.le_of_ble_eq_true rfl) rfl ?_
            refine E_iload_n 1 dJ6_numberOfTrailingZeros_0f7a4_74 (q := 75) rfl rfl rfl ?_
            refine E_iload_n 0 dJ6_numberOfTrailingZeros_0f7a4_75 (q := 76) rfl rfl rfl ?_
            refine E_iconst (x := 1) dJ6_numberOfTrailingZeros_0f7a4_76 (q := 77) rfl (by decide) ?_
            refine E_iushr dJ6_numberOfTrailingZeros_0f7a4_77 (q := 78) rfl ?_
            refine E_iadd dJ6_numberOfTrailingZeros_0f7a4_78 (q := 79) rfl ?_
            obtain rfl := Option.some.inj hf
            exact E_iret dJ6_numberOfTrailingZeros_0f7a4_79 rfl ⟨rfl, rfl, rfl⟩
        · have hf := if_f c7 hf
          refine E_iinc 1 [(1, .int ((1 + 8) + 4)), (0, .int (((((a0 ^^^ (-1)) &&& (a0 - 1))).toUInt32 >>> ((8 : Int32).toUInt32 &&& Int32.toUInt32 31)).toInt32))] dJ6_numberOfTrailingZeros_0f7a4_55 (q := 58) rfl rfl rfl (Nat.le_of_ble_eq_true rfl) rfl ?_
          refine E_iload_n 1 dJ6_numberOfTrailingZeros_0f7a4_58 (q := 59) rfl rfl rfl ?_
          refine E_iconst (x := 4) dJ6_numberOfTrailingZeros_0f7a4_59 (q := 60) rfl (by decide) ?_
          refine E_iushr dJ6_numberOfTrailingZeros_0f7a4_60 (q := 61) rfl ?_
          refine E_istore_n [(0, .int (((((((a0 ^^^ (-1)) &&& (a0 - 1))).toUInt32 >>> ((8 : Int32).toUInt32 &&& Int32.toUInt32 31)).toInt32).toUInt32 >>> ((4 : Int32).toUInt32 &&& Int32.toUInt32 31)).toInt32)), (1, .int ((1 + 8) + 4))] dJ6_numberOfTrailingZeros_0f7a4_61 (q := 62) rfl rfl (Nat.le_of_ble_eq_true rfl) rfl ?_
          refine E_iload_n 0 dJ6_numberOfTrailingZeros_0f7a4_62 (q := 63) rfl rfl rfl ?_
          refine E_iconst (x := 4) dJ6_numberOfTrailingZeros_0f7a4_63 (q := 64) rfl (by decide) ?_
          refine E_icmp_le dJ6_numberOfTrailingZeros_0f7a4_64 (t := 74) (by decide) (q := 67) rfl (fun c9 => ?_) (fun c9 => ?_)
          · have hf := if_t c9 hf
            refine E_iload_n 1 dJ6_numberOfTrailingZeros_0f7a4_74 (q := 75) rfl rfl rfl ?_
            refine E_iload_n 0 dJ6_numberOfTrailingZeros_0f7a4_75 (q := 76) rfl rfl rfl ?_
            refine E_iconst (x := 1) dJ6_numberOfTrailingZeros_0f7a4_76 (q := 77) rfl (by decide) ?_
            refine E_iushr dJ6_numberOfTrailingZeros_0f7a4_77 (q := 78) rfl ?_
            refine E_iadd dJ6_numberOfTrailingZeros_0f7a4_78 (q := 79) rfl ?_
            obtain rfl := Option.some.inj hf
            exact E_iret dJ6_numberOfTrailingZeros_0f7a4_79 rfl ⟨rfl, rfl, rfl⟩
          · have hf := if_f c9 hf
            refine E_iinc 1 [(1, .int (((1 + 8) + 4) + 2)), (0, .int (((((((a0 ^^^ (-1)) &&& (a0 - 1))).toUInt32 >>> ((8 : Int32).toUInt32 &&& Int32.toUInt32 31)).toInt32).toUInt32 >>> ((4 : Int32).toUInt32 &&& Int32.toUInt32 31)).toInt32))] dJ6_numberOfTrailingZeros_0f7a4_67 (q := 70) rfl rfl rfl (Nat.le_of_ble_eq_true rfl) rfl ?_
            refine E_iload_n 1 dJ6_numberOfTrailingZeros_0f7a4_70 (q := 71) rfl rfl rfl ?_
            refine E_iconst (x := 2) dJ6_numberOfTrailingZeros_0f7a4_71 (q := 72) rfl (by decide) ?_
            refine E_iushr dJ6_numberOfTrailingZeros_0f7a4_72 (q := 73) rfl ?_
            refine E_istore_n [(0, .int (((((((((a0 ^^^ (-1)) &&& (a0 - 1))).toUInt32 >>> ((8 : Int32).toUInt32 &&& Int32.toUInt32 31)).toInt32).toUInt32 >>> ((4 : Int32).toUInt32 &&& Int32.toUInt32 31)).toInt32).toUInt32 >>> ((2 : Int32).toUInt32 &&& Int32.toUInt32 31)).toInt32)), (1, .int (((1 + 8) + 4) + 2))] dJ6_numberOfTrailingZeros_0f7a4_73 (q := 74) rfl rfl (Nat.le_of_ble_eq_true rfl) rfl ?_
            refine E_iload_n 1 dJ6_numberOfTrailingZeros_0f7a4_74 (q := 75) rfl rfl rfl ?_
            refine E_iload_n 0 dJ6_numberOfTrailingZeros_0f7a4_75 (q := 76) rfl rfl rfl ?_
            refine E_iconst (x := 1) dJ6_numberOfTrailingZeros_0f7a4_76 (q := 77) rfl (by decide) ?_
            refine E_iushr dJ6_numberOfTrailingZeros_0f7a4_77 (q := 78) rfl ?_
            refine E_iadd dJ6_numberOfTrailingZeros_0f7a4_78 (q := 79) rfl ?_
            obtain rfl := Option.some.inj hf
            exact E_iret dJ6_numberOfTrailingZeros_0f7a4_79 rfl ⟨rfl, rfl, rfl⟩
    · have hf := if_f c2 hf
      refine E_iinc 0 [(1, .int (1 + 16)), (0, .int ((a0 ^^^ (-1)) &&& (a0 - 1)))] dJ6_numberOfTrailingZeros_0f7a4_26 (q := 29) rfl rfl rfl (Nat.le_of_ble_eq_true rfl) rfl ?_
      refine E_iload_n 1 dJ6_numberOfTrailingZeros_0f7a4_29 (q := 30) rfl rfl rfl ?_
      refine E_bipush (x := 16) dJ6_numberOfTrailingZeros_0f7a4_30 (q := 32) rfl (by decide) ?_
      refine E_iushr dJ6_numberOfTrailingZeros_0f7a4_32 (q := 33) rfl ?_
      refine E_istore_n [(0, .int (((((a0 ^^^ (-1)) &&& (a0 - 1))).toUInt32 >>> ((16 : Int32).toUInt32 &&& Int32.toUInt32 31)).toInt32)), (1, .int (1 + 16))] dJ6_numberOfTrailingZeros_0f7a4_33 (q := 34) rfl rfl (Nat.le_of_ble_eq_true rfl) rfl ?_
      refine E_iload_n 0 dJ6_numberOfTrailingZeros_0f7a4_34 (q := 35) rfl rfl rfl ?_
      refine E_sipush (x := 256) dJ6_numberOfTrailingZeros_0f7a4_35 (q := 38) rfl (by decide) ?_
      refine E_icmp_le dJ6_numberOfTrailingZeros_0f7a4_38 (t := 49) (by decide) (q := 41) rfl (fun c10 => ?_) (fun c10 => ?_)
      · have hf := if_t c10 hf
        refine E_iload_n 0 dJ6_numberOfTrailingZeros_0f7a4_49 (q := 50) rfl rfl rfl ?_
        refine E_bipush (x := 16) dJ6_numberOfTrailingZeros_0f7a4_50 (q := 52) rfl (by decide) ?_
        refine E_icmp_le dJ6_numberOfTrailingZeros_0f7a4_52 (t := 62) (by decide) (q := 55) rfl (fun c11 => ?_) (fun c11 => ?_)
        · have hf := if_t c11 hf
          refine E_iload_n 0 dJ6_numberOfTrailingZeros_0f7a4_62 (q := 63) rfl rfl rfl ?_
          refine E_iconst (x := 4) dJ6_numberOfTrailingZeros_0f7a4_63 (q := 64) rfl (by decide) ?_
          refine E_icmp_le dJ6_numberOfTrailingZeros_0f7a4_64 (t := 74) (by decide) (q := 67) rfl (fun c12 => ?_) (fun c12 => ?_)
          · have hf := if_t c12 hf
            refine E_iload_n 1 dJ6_numberOfTrailingZeros_0f7a4_74 (q := 75) rfl rfl rfl ?_
            refine E_iload_n 0 dJ6_numberOfTrailingZeros_0f7a4_75 (q := 76) rfl rfl rfl ?_
            refine E_iconst (x := 1) dJ6_numberOfTrailingZeros_0f7a4_76 (q := 77) rfl (by decide) ?_
            refine E_iushr dJ6_numberOfTrailingZeros_0f7a4_77 (q := 78) rfl ?_
            refine E_iadd dJ6_numberOfTrailingZeros_0f7a4_78 (q := 79) rfl ?_
            obtain rfl := Option.some.inj hf
            exact E_iret dJ6_numberOfTrailingZeros_0f7a4_79 rfl ⟨rfl, rfl, rfl⟩
          · have hf := if_f c12 hf
            refine E_iinc 1 [(1, .int ((1 + 16) + 2)), (0, .int (((((a0 ^^^ (-1)) &&& (a0 - 1))).toUInt32 >>> ((16 : Int32).toUInt32 &&& Int32.toUInt32 31)).toInt32))] dJ6_numberOfTrailingZeros_0f7a4_67 (q := 70) rfl rfl rfl (Nat.le_of_ble_eq_true rfl) rfl ?_
            refine E_iload_n 1 dJ6_numberOfTrailingZeros_0f7a4_70 (q := 71) rfl rfl rfl ?_
            refine E_iconst (x := 2) dJ6_numberOfTrailingZeros_0f7a4_71 (q := 72) rfl (by decide) ?_
            refine E_iushr dJ6_numberOfTrailingZeros_0f7a4_72 (q := 73) rfl ?_
            refine E_istore_n [(0, .int (((((((a0 ^^^ (-1)) &&& (a0 - 1))).toUInt32 >>> ((16 : Int32).toUInt32 &&& Int32.toUInt32 31)).toInt32).toUInt32 >>> ((2 : Int32).toUInt32 &&& Int32.toUInt32 31)).toInt32)), (1, .int ((1 + 16) + 2))] dJ6_numberOfTrailingZeros_0f7a4_73 (q := 74) rfl rfl (Nat.le_of_ble_eq_true rfl) rfl ?_
            refine E_iload_n 1 dJ6_numberOfTrailingZeros_0f7a4_74 (q := 75) rfl rfl rfl ?_
            refine E_iload_n 0 dJ6_numberOfTrailingZeros_0f7a4_75 (q := 76) rfl rfl rfl ?_
            refine E_iconst (x := 1) dJ6_numberOfTrailingZeros_0f7a4_76 (q := 77) rfl (by decide) ?_
            refine E_iushr dJ6_numberOfTrailingZeros_0f7a4_77 (q := 78) rfl ?_
            refine E_iadd dJ6_numberOfTrailingZeros_0f7a4_78 (q := 79) rfl ?_
            obtain rfl := Option.some.inj hf
            exact E_iret dJ6_numberOfTrailingZeros_0f7a4_79 rfl ⟨rfl, rfl, rfl⟩
        · have hf := if_f c11 hf
          refine E_iinc 1 [(1, .int ((1 + 16) + 4)), (0, .int (((((a0 ^^^ (-1)) &&& (a0 - 1))).toUInt32 >>> ((16 : Int32).toUInt32 &&& Int32.toUInt32 31)).toInt32))] dJ6_numberOfTrailingZeros_0f7a4_55 (q := 58) rfl rfl rfl (Nat.le_of_ble_eq_true rfl) rfl ?_
          refine E_iload_n 1 dJ6_numberOfTrailingZeros_0f7a4_58 (q := 59) rfl rfl rfl ?_
          refine E_iconst (x := 4) dJ6_numberOfTrailingZeros_0f7a4_59 (q := 60) rfl (by decide) ?_
          refine E_iushr dJ6_numberOfTrailingZeros_0f7a4_60 (q := 61) rfl ?_
          refine E_istore_n [(0, .int (((((((a0 ^^^ (-1)) &&& (a0 - 1))).toUInt32 >>> ((16 : Int32).toUInt32 &&& Int32.toUInt32 31)).toInt32).toUInt32 >>> ((4 : Int32).toUInt32 &&& Int32.toUInt32 31)).toInt32)), (1, .int ((1 + 16) + 4))] dJ6_numberOfTrailingZeros_0f7a4_61 (q := 62) rfl rfl (Nat.le_of_ble_eq_true rfl) rfl ?_
          refine E_iload_n 0 dJ6_numberOfTrailingZeros_0f7a4_62 (q := 63) rfl rfl rfl ?_
          refine E_iconst (x := 4) dJ6_numberOfTrailingZeros_0f7a4_63 (q := 64) rfl (by decide) ?_
          refine E_icmp_le dJ6_numberOfTrailingZeros_0f7a4_64 (t := 74) (by decide) (q := 67) rfl (fun c13 => ?_) (fun c13 => ?_)
          · have hf := if_t c13 hf
            refine E_iload_n 1 dJ6_numberOfTrailingZeros_0f7a4_74 (q := 75) rfl rfl rfl ?_
            refine E_iload_n 0 dJ6_numberOfTrailingZeros_0f7a4_75 (q := 76) rfl rfl rfl ?_
            refine E_iconst (x := 1) dJ6_numberOfTrailingZeros_0f7a4_76 (q := 77) rfl (by decide) ?_
            refine E_iushr dJ6_numberOfTrailingZeros_0f7a4_77 (q := 78) rfl ?_
            refine E_iadd dJ6_numberOfTrailingZeros_0f7a4_78 (q := 79) rfl ?_
            obtain rfl := Option.some.inj hf
            exact E_iret dJ6_numberOfTrailingZeros_0f7a4_79 rfl ⟨rfl, rfl, rfl⟩
          · have hf := if_f c13 hf
            refine E_iinc 1 [(1, .int (((1 + 16) + 4) + 2)), (0, .int (((((((a0 ^^^ (-1)) &&& (a0 - 1))).toUInt32 >>> ((16 : Int32).toUInt32 &&& Int32.toUInt32 31)).toInt32).toUInt32 >>> ((4 : Int32).toUInt32 &&& Int32.toUInt32 31)).toInt32))] dJ6_numberOfTrailingZeros_0f7a4_67 (q := 70) rfl rfl rfl (Nat.le_of_ble_eq_true rfl) rfl ?_
            refine E_iload_n 1 dJ6_numberOfTrailingZeros_0f7a4_70 (q := 71) rfl rfl rfl ?_
            refine E_iconst (x := 2) dJ6_numberOfTrailingZeros_0f7a4_71 (q := 72) rfl (by decide) ?_
            refine E_iushr dJ6_numberOfTrailingZeros_0f7a4_72 (q := 73) rfl ?_
            refine E_istore_n [(0, .int (((((((((a0 ^^^ (-1)) &&& (a0 - 1))).toUInt32 >>> ((16 : Int32).toUInt32 &&& Int32.toUInt32 31)).toInt32).toUInt32 >>> ((4 : Int32).toUInt32 &&& Int32.toUInt32 31)).toInt32).toUInt32 >>> ((2 : Int32).toUInt32 &&& Int32.toUInt32 31)).toInt32)), (1, .int (((1 + 16) + 4) + 2))] dJ6_numberOfTrailingZeros_0f7a4_73 (q := 74) rfl rfl (Nat.le_of_ble_eq_true rfl) rfl ?_
            refine E_iload_n 1 dJ6_numberOfTrailingZeros_0f7a4_74 (q := 75) rfl rfl rfl ?_
            refine E_iload_n 0 dJ6_numberOfTrailingZeros_0f7a4_75 (q := 76) rfl rfl rfl ?_
            refine E_iconst (x := 1) dJ6_numberOfTrailingZeros_0f7a4_76 (q := 77) rfl (by decide) ?_
            refine E_iushr dJ6_numberOfTrailingZeros_0f7a4_77 (q := 78) rfl ?_
            refine E_iadd dJ6_numberOfTrailingZeros_0f7a4_78 (q := 79) rfl ?_
            obtain rfl := Option.some.inj hf
            exact E_iret dJ6_numberOfTrailingZeros_0f7a4_79 rfl ⟨rfl, rfl, rfl⟩
      · have hf := if_f c10 hf
        refine E_iinc 1 [(1, .int ((1 + 16) + 8)), (0, .int (((((a0 ^^^ (-1)) &&& (a0 - 1))).toUInt32 >>> ((16 : Int32).toUInt32 &&& Int32.toUInt32 31)).toInt32))] dJ6_numberOfTrailingZeros_0f7a4_41 (q := 44) rfl rfl rfl (Nat.le_of_ble_eq_true rfl) rfl ?_
        refine E_iload_n 1 dJ6_numberOfTrailingZeros_0f7a4_44 (q := 45) rfl rfl rfl ?_
        refine E_bipush (x := 8) dJ6_numberOfTrailingZeros_0f7a4_45 (q := 47) rfl (by decide) ?_
        refine E_iushr dJ6_numberOfTrailingZeros_0f7a4_47 (q := 48) rfl ?_
        refine E_istore_n [(0, .int (((((((a0 ^^^ (-1)) &&& (a0 - 1))).toUInt32 >>> ((16 : Int32).toUInt32 &&& Int32.toUInt32 31)).toInt32).toUInt32 >>> ((8 : Int32).toUInt32 &&& Int32.toUInt32 31)).toInt32)), (1, .int ((1 + 16) + 8))] dJ6_numberOfTrailingZeros_0f7a4_48 (q := 49) rfl rfl (Nat.le_of_ble_eq_true rfl) rfl ?_
        refine E_iload_n 0 dJ6_numberOfTrailingZeros_0f7a4_49 (q := 50) rfl rfl rfl ?_
        refine E_bipush (x := 16) dJ6_numberOfTrailingZeros_0f7a4_50 (q := 52) rfl (by decide) ?_
        refine E_icmp_le dJ6_numberOfTrailingZeros_0f7a4_52 (t := 62) (by decide) (q := 55) rfl (fun c14 => ?_) (fun c14 => ?_)
        · have hf := if_t c14 hf
          refine E_iload_n 0 dJ6_numberOfTrailingZeros_0f7a4_62 (q := 63) rfl rfl rfl ?_
          refine E_iconst (x := 4) dJ6_numberOfTrailingZeros_0f7a4_63 (q := 64) rfl (by decide) ?_
          refine E_icmp_le dJ6_numberOfTrailingZeros_0f7a4_64 (t := 74) (by decide) (q := 67) rfl (fun c15 => ?_) (fun c15 => ?_)
          · have hf := if_t c15 hf
            refine E_iload_n 1 dJ6_numberOfTrailingZeros_0f7a4_74 (q := 75) rfl rfl rfl ?_
            refine E_iload_n 0 dJ6_numberOfTrailingZeros_0f7a4_75 (q := 76) rfl rfl rfl ?_
            refine E_iconst (x := 1) dJ6_numberOfTrailingZeros_0f7a4_76 (q := 77) rfl (by decide) ?_
            refine E_iushr dJ6_numberOfTrailingZeros_0f7a4_77 (q := 78) rfl ?_
            refine E_iadd dJ6_numberOfTrailingZeros_0f7a4_78 (q := 79) rfl ?_
            obtain rfl := Option.some.inj hf
            exact E_iret dJ6_numberOfTrailingZeros_0f7a4_79 rfl ⟨rfl, rfl, rfl⟩
          · have hf := if_f c15 hf
            refine E_iinc 1 [(1, .int (((1 + 16) + 8) + 2)), (0, .int (((((((a0 ^^^ (-1)) &&& (a0 - 1))).toUInt32 >>> ((16 : Int32).toUInt32 &&& Int32.toUInt32 31)).toInt32).toUInt32 >>> ((8 : Int32).toUInt32 &&& Int32.toUInt32 31)).toInt32))] dJ6_numberOfTrailingZeros_0f7a4_67 (q := 70) rfl rfl rfl (Nat.le_of_ble_eq_true rfl) rfl ?_
            refine E_iload_n 1 dJ6_numberOfTrailingZeros_0f7a4_70 (q := 71) rfl rfl rfl ?_
            refine E_iconst (x := 2) dJ6_numberOfTrailingZeros_0f7a4_71 (q := 72) rfl (by decide) ?_
            refine E_iushr dJ6_numberOfTrailingZeros_0f7a4_72 (q := 73) rfl ?_
            refine E_istore_n [(0, .int (((((((((a0 ^^^ (-1)) &&& (a0 - 1))).toUInt32 >>> ((16 : Int32).toUInt32 &&& Int32.toUInt32 31)).toInt32).toUInt32 >>> ((8 : Int32).toUInt32 &&& Int32.toUInt32 31)).toInt32).toUInt32 >>> ((2 : Int32).toUInt32 &&& Int32.toUInt32 31)).toInt32)), (1, .int (((1 + 16) + 8) + 2))] dJ6_numberOfTrailingZeros_0f7a4_73 (q := 74) rfl rfl (Nat.le_of_ble_eq_true rfl) rfl ?_
            refine E_iload_n 1 dJ6_numberOfTrailingZeros_0f7a4_74 (q := 75) rfl rfl rfl ?_
            refine E_iload_n 0 dJ6_numberOfTrailingZeros_0f7a4_75 (q := 76) rfl rfl rfl ?_
            refine E_iconst (x := 1) dJ6_numberOfTrailingZeros_0f7a4_76 (q := 77) rfl (by decide) ?_
            refine E_iushr dJ6_numberOfTrailingZeros_0f7a4_77 (q := 78) rfl ?_
            refine E_iadd dJ6_numberOfTrailingZeros_0f7a4_78 (q := 79) rfl ?_
            obtain rfl := Option.some.inj hf
            exact E_iret dJ6_numberOfTrailingZeros_0f7a4_79 rfl ⟨rfl, rfl, rfl⟩
        · have hf := if_f c14 hf
          refine E_iinc 1 [(1, .int (((1 + 16) + 8) + 4)), (0, .int (((((((a0 ^^^ (-1)) &&& (a0 - 1))).toUInt32 >>> ((16 : Int32).toUInt32 &&& Int32.toUInt32 31)).toInt32).toUInt32 >>> ((8 : Int32).toUInt32 &&& Int32.toUInt32 31)).toInt32))] dJ6_numberOfTrailingZeros_0f7a4_55 (q := 58) rfl rfl rfl (Nat.le_of_ble_eq_true rfl) rfl ?_
          refine E_iload_n 1 dJ6_numberOfTrailingZeros_0f7a4_58 (q := 59) rfl rfl rfl ?_
          refine E_iconst (x := 4) dJ6_numberOfTrailingZeros_0f7a4_59 (q := 60) rfl (by decide) ?_
          refine E_iushr dJ6_numberOfTrailingZeros_0f7a4_60 (q := 61) rfl ?_
          refine E_istore_n [(0, .int (((((((((a0 ^^^ (-1)) &&& (a0 - 1))).toUInt32 >>> ((16 : Int32).toUInt32 &&& Int32.toUInt32 31)).toInt32).toUInt32 >>> ((8 : Int32).toUInt32 &&& Int32.toUInt32 31)).toInt32).toUInt32 >>> ((4 : Int32).toUInt32 &&& Int32.toUInt32 31)).toInt32)), (1, .int (((1 + 16) + 8) + 4))] dJ6_numberOfTrailingZeros_0f7a4_61 (q := 62) rfl rfl (Nat.le_of_ble_eq_true rfl) rfl ?_
          refine E_iload_n 0 dJ6_numberOfTrailingZeros_0f7a4_62 (q := 63) rfl rfl rfl ?_
          refine E_iconst (x := 4) dJ6_numberOfTrailingZeros_0f7a4_63 (q := 64) rfl (by decide) ?_
          refine E_icmp_le dJ6_numberOfTrailingZeros_0f7a4_64 (t := 74) (by decide) (q := 67) rfl (fun c16 => ?_) (fun c16 => ?_)
          · have hf := if_t c16 hf
            refine E_iload_n 1 dJ6_numberOfTrailingZeros_0f7a4_74 (q := 75) rfl rfl rfl ?_
            refine E_iload_n 0 dJ6_numberOfTrailingZeros_0f7a4_75 (q := 76) rfl rfl rfl ?_
            refine E_iconst (x := 1) dJ6_numberOfTrailingZeros_0f7a4_76 (q := 77) rfl (by decide) ?_
            refine E_iushr dJ6_numberOfTrailingZeros_0f7a4_77 (q := 78) rfl ?_
            refine E_iadd dJ6_numberOfTrailingZeros_0f7a4_78 (q := 79) rfl ?_
            obtain rfl := Option.some.inj hf
            exact E_iret dJ6_numberOfTrailingZeros_0f7a4_79 rfl ⟨rfl, rfl, rfl⟩
          · have hf := if_f c16 hf
            refine E_iinc 1 [(1, .int ((((1 + 16) + 8) + 4) + 2)), (0, .int (((((((((a0 ^^^ (-1)) &&& (a0 - 1))).toUInt32 >>> ((16 : Int32).toUInt32 &&& Int32.toUInt32 31)).toInt32).toUInt32 >>> ((8 : Int32).toUInt32 &&& Int32.toUInt32 31)).toInt32).toUInt32 >>> ((4 : Int32).toUInt32 &&& Int32.toUInt32 31)).toInt32))] dJ6_numberOfTrailingZeros_0f7a4_67 (q := 70) rfl rfl rfl (Nat.le_of_ble_eq_true rfl) rfl ?_
            refine E_iload_n 1 dJ6_numberOfTrailingZeros_0f7a4_70 (q := 71) rfl rfl rfl ?_
            refine E_iconst (x := 2) dJ6_numberOfTrailingZeros_0f7a4_71 (q := 72) rfl (by decide) ?_
            refine E_iushr dJ6_numberOfTrailingZeros_0f7a4_72 (q := 73) rfl ?_
            refine E_istore_n [(0, .int (((((((((((a0 ^^^ (-1)) &&& (a0 - 1))).toUInt32 >>> ((16 : Int32).toUInt32 &&& Int32.toUInt32 31)).toInt32).toUInt32 >>> ((8 : Int32).toUInt32 &&& Int32.toUInt32 31)).toInt32).toUInt32 >>> ((4 : Int32).toUInt32 &&& Int32.toUInt32 31)).toInt32).toUInt32 >>> ((2 : Int32).toUInt32 &&& Int32.toUInt32 31)).toInt32)), (1, .int ((((1 + 16) + 8) + 4) + 2))] dJ6_numberOfTrailingZeros_0f7a4_73 (q := 74) rfl rfl (Nat.le_of_ble_eq_true rfl) rfl ?_
            refine E_iload_n 1 dJ6_numberOfTrailingZeros_0f7a4_74 (q := 75) rfl rfl rfl ?_
            refine E_iload_n 0 dJ6_numberOfTrailingZeros_0f7a4_75 (q := 76) rfl rfl rfl ?_
            refine E_iconst (x := 1) dJ6_numberOfTrailingZeros_0f7a4_76 (q := 77) rfl (by decide) ?_
            refine E_iushr dJ6_numberOfTrailingZeros_0f7a4_77 (q := 78) rfl ?_
            refine E_iadd dJ6_numberOfTrailingZeros_0f7a4_78 (q := 79) rfl ?_
            obtain rfl := Option.some.inj hf
            exact E_iret dJ6_numberOfTrailingZeros_0f7a4_79 rfl ⟨rfl, rfl, rfl⟩
  · have hf := if_f c1 hf
    refine E_iload_n 0 dJ6_numberOfTrailingZeros_0f7a4_12 (q := 13) rfl rfl rfl ?_
    refine E_bipush (x := 32) dJ6_numberOfTrailingZeros_0f7a4_13 (q := 15) rfl (by decide) ?_
    refine E_iand dJ6_numberOfTrailingZeros_0f7a4_15 (q := 16) rfl ?_
    obtain rfl := Option.some.inj hf
    exact E_iret dJ6_numberOfTrailingZeros_0f7a4_16 rfl ⟨rfl, rfl, rfl⟩

-- PostRelief.within(III)Z
def f_X6_within (N : Nat) (a0 : Int32) (a1 : Int32) (a2 : Int32) : Option (Int32) :=
  (if a0 < a1 then some 0 else (if a2 < a0 then some 0 else some 1))
set_option maxHeartbeats 4000000 in
set_option maxRecDepth 100000 in
theorem m_X6_within {γ : GX} {n : Nat} {N : Nat} {h : HP} {a0 : Int32} {a1 : Int32} {a2 : Int32}   {z : Int32} (hf : f_X6_within N a0 a1 a2 = some z)  : Ct γ M_X6_within n h [.int a0, .int a1, .int a2] (Done (some (.int z)) n h) := by
  refine Ct_of_Ev (by decide) (fun h => by cases h) (Nat.le_of_ble_eq_true rfl) ?_
  show Ev γ M_X6_within (0, 0) n h [(0, .int a0), (1, .int a1), (2, .int a2)] 0 [] _
  unfold f_X6_within at hf
  refine E_iload_n 0 dX6_within_0 (q := 1) rfl rfl rfl ?_
  refine E_iload_n 1 dX6_within_1 (q := 2) rfl rfl rfl ?_
  refine E_icmp_lt dX6_within_2 (t := 14) (by decide) (q := 5) rfl (fun c1 => ?_) (fun c1 => ?_)
  · have hf := if_t c1 hf
    refine E_iconst (x := 0) dX6_within_14 (q := 15) rfl (by decide) ?_
    obtain rfl := Option.some.inj hf
    exact E_zret dX6_within_15 rfl rfl ⟨rfl, rfl, rfl⟩
  · have hf := if_f c1 hf
    refine E_iload_n 0 dX6_within_5 (q := 6) rfl rfl rfl ?_
    refine E_iload_n 2 dX6_within_6 (q := 7) rfl rfl rfl ?_
    refine E_icmp_gt dX6_within_7 (t := 14) (by decide) (q := 10) rfl (fun c2 => ?_) (fun c2 => ?_)
    · have hf := if_t c2 hf
      refine E_iconst (x := 0) dX6_within_14 (q := 15) rfl (by decide) ?_
      obtain rfl := Option.some.inj hf
      exact E_zret dX6_within_15 rfl rfl ⟨rfl, rfl, rfl⟩
    · have hf := if_f c2 hf
      refine E_iconst (x := 1) dX6_within_10 (q := 11) rfl (by decide) ?_
      refine E_goto (q := 15) dX6_within_11 (by decide) ?_
      obtain rfl := Option.some.inj hf
      exact E_zret dX6_within_15 rfl rfl ⟨rfl, rfl, rfl⟩

-- PostRelief.power(II)I
def b_X6_power_1 (N : Nat) (p0 : Int32) (p1 : Int32) (v2 : Int32) (v3 : Int32) : Option ((Int32 × Int32) ⊕ (Int32)) :=
  (if p1 ≤ v3 then some (.inr v2) else some (.inl ((v2 * p0), (v3 + 1))))
def f_X6_power (N : Nat) (a0 : Int32) (a1 : Int32) : Option (Int32) :=
  ((lp (fun s => b_X6_power_1 N a0 a1 s.1 s.2) N (1, 0)).bind fun t3 => some t3)
set_option maxHeartbeats 4000000 in
set_option maxRecDepth 100000 in
theorem L_X6_power_1 {γ : GX} {n : Nat} {h : HP} {Ψ : PS} {N : Nat} {p0 : Int32} {p1 : Int32}   {s0 : Int32 × Int32} {t : Int32} (hf : lp (fun s => b_X6_power_1 N p0 p1 s.1 s.2) N s0 = some t) (K : Ev γ M_X6_power (0, 0) n h [(2, .int t)] 19 [] Ψ) : Ev γ M_X6_power (0, 0) n h [(0, .int p0), (1, .int p1), (2, .int s0.1), (3, .int s0.2)] 4 [] Ψ := by
  refine E_lp (P := fun s => Ev γ M_X6_power (0, 0) n h [(0, .int p0), (1, .int p1), (2, .int s.1), (3, .int s.2)] 4 [] Ψ) (K := fun t => Ev γ M_X6_power (0, 0) n h [(2, .int t)] 19 [] Ψ) ?_ N s0 t hf K
  intro s r hf hP hK
  obtain ⟨v2, v3⟩ := s
  change b_X6_power_1 N p0 p1 v2 v3 = some r at hf
  unfold b_X6_power_1 at hf
  show Ev γ M_X6_power (0, 0) n h [(0, .int p0), (1, .int p1), (2, .int v2), (3, .int v3)] 4 [] Ψ
  refine E_iload_n 3 dX6_power_4 (q := 5) rfl rfl rfl ?_
  refine E_iload_n 1 dX6_power_5 (q := 6) rfl rfl rfl ?_
  refine E_icmp_ge dX6_power_6 (t := 19) (by decide) (q := 9) rfl (fun c2 => ?_) (fun c2 => ?_)
  · have hf := if_t c2 hf
    exact E_sub [2] rfl (hK _ (Option.some.inj hf).symm)
  · have hf := if_f c2 hf
    refine E_iload_n 2 dX6_power_9 (q := 10) rfl rfl rfl ?_
    refine E_iload_n 0 dX6_power_10 (q := 11) rfl rfl rfl ?_
    refine E_imul dX6_power_11 (q := 12) rfl ?_
    refine E_istore_n [(2, .int (v2 * p0)), (0, .int p0), (1, .int p1), (3, .int v3)] dX6_power_12 (q := 13) rfl rfl (Nat.le_of_ble_eq_true rfl) rfl ?_
    refine E_iinc 3 [(3, .int (v3 + 1)), (2, .int (v2 * p0)), (0, .int p0), (1, .int p1)] dX6_power_13 (q := 16) rfl rfl rfl (Nat.le_of_ble_eq_true rfl) rfl ?_
    refine E_goto (q := 4) dX6_power_16 (by decide) ?_
    exact E_sub [2, 3, 1, 0] rfl (hP _ (Option.some.inj hf).symm)
set_option maxHeartbeats 4000000 in
set_option maxRecDepth 100000 in
theorem m_X6_power {γ : GX} {n : Nat} {N : Nat} {h : HP} {a0 : Int32} {a1 : Int32}   {z : Int32} (hf : f_X6_power N a0 a1 = some z)  : Ct γ M_X6_power n h [.int a0, .int a1] (Done (some (.int z)) n h) := by
  refine Ct_of_Ev (by decide) (fun h => by cases h) (Nat.le_of_ble_eq_true rfl) ?_
  show Ev γ M_X6_power (0, 0) n h [(0, .int a0), (1, .int a1)] 0 [] _
  unfold f_X6_power at hf
  refine E_iconst (x := 1) dX6_power_0 (q := 1) rfl (by decide) ?_
  refine E_istore_n [(2, .int 1), (0, .int a0), (1, .int a1)] dX6_power_1 (q := 2) rfl rfl (Nat.le_of_ble_eq_true rfl) rfl ?_
  refine E_iconst (x := 0) dX6_power_2 (q := 3) rfl (by decide) ?_
  refine E_istore_n [(3, .int 0), (2, .int 1), (0, .int a0), (1, .int a1)] dX6_power_3 (q := 4) rfl rfl (Nat.le_of_ble_eq_true rfl) rfl ?_
  obtain ⟨t3, hxt3, hf⟩ := bnd hf
  refine E_sub [2, 3, 1, 0] rfl ?_
  refine L_X6_power_1  hxt3 ?_
  show Ev γ M_X6_power _ n h [(2, .int t3)] 19 [] _
  refine E_iload_n 0 dX6_power_19 (q := 20) rfl rfl rfl ?_
  obtain rfl := Option.some.inj hf
  exact E_iret dX6_power_20 rfl ⟨rfl, rfl, rfl⟩

-- PostRelief.commonDivisor(II)I
def b_X6_commonDivisor_1 (N : Nat) (v2 : Int32) (v3 : Int32) (v4 : Int32) : Option ((Int32 × Int32 × Int32) ⊕ (Int32)) :=
  (if 64 ≤ v4 then some (.inr v2) else (if v3 = 0 then some (.inr v2) else (if ¬ v3 = 0 then some (.inl (v3, (v2 % v3), (v4 + 1))) else none)))
def f_X6_commonDivisor (N : Nat) (a0 : Int32) (a1 : Int32) : Option (Int32) :=
  ((lp (fun s => b_X6_commonDivisor_1 N s.1 s.2.1 s.2.2) N (a0, a1, 0)).bind fun t5 => some t5)
set_option maxHeartbeats 4000000 in
set_option maxRecDepth 100000 in
theorem L_X6_commonDivisor_1 {γ : GX} {n : Nat} {h : HP} {Ψ : PS} {N : Nat}   {s0 : Int32 × Int32 × Int32} {t : Int32} (hf : lp (fun s => b_X6_commonDivisor_1 N s.1 s.2.1 s.2.2) N s0 = some t) (K : Ev γ M_X6_commonDivisor (0, 0) n h [(2, .int t)] 34 [] Ψ) : Ev γ M_X6_commonDivisor (0, 0) n h [(2, .int s0.1), (3, .int s0.2.1), (4, .int s0.2.2)] 7 [] Ψ := by
  refine E_lp (P := fun s => Ev γ M_X6_commonDivisor (0, 0) n h [(2, .int s.1), (3, .int s.2.1), (4, .int s.2.2)] 7 [] Ψ) (K := fun t => Ev γ M_X6_commonDivisor (0, 0) n h [(2, .int t)] 34 [] Ψ) ?_ N s0 t hf K
  intro s r hf hP hK
  obtain ⟨v2, v3, v4⟩ := s
  change b_X6_commonDivisor_1 N v2 v3 v4 = some r at hf
  unfold b_X6_commonDivisor_1 at hf
  show Ev γ M_X6_commonDivisor (0, 0) n h [(2, .int v2), (3, .int v3), (4, .int v4)] 7 [] Ψ
  refine E_iload 2 dX6_commonDivisor_7 (q := 9) rfl rfl ?_
  refine E_bipush (x := 64) dX6_commonDivisor_9 (q := 11) rfl (by decide) ?_
  refine E_icmp_ge dX6_commonDivisor_11 (t := 34) (by decide) (q := 14) rfl (fun c2 => ?_) (fun c2 => ?_)
  · have hf := if_t c2 hf
    exact E_sub [0] rfl (hK _ (Option.some.inj hf).symm)
  · have hf := if_f c2 hf
    refine E_iload_n 1 dX6_commonDivisor_14 (q := 15) rfl rfl rfl ?_
    refine E_if_eq dX6_commonDivisor_15 (t := 34) (by decide) (q := 18) rfl (fun c3 => ?_) (fun c3 => ?_)
    · have hf := if_t c3 hf
      exact E_sub [0] rfl (hK _ (Option.some.inj hf).symm)
    · have hf := if_f c3 hf
      refine E_iload_n 0 dX6_commonDivisor_18 (q := 19) rfl rfl rfl ?_
      refine E_iload_n 1 dX6_commonDivisor_19 (q := 20) rfl rfl rfl ?_
      obtain ⟨g4, hf⟩ := gd hf
      refine E_irem dX6_commonDivisor_20 (q := 21) rfl g4 ?_
      refine E_istore [(5, .int (v2 % v3)), (2, .int v2), (3, .int v3), (4, .int v4)] dX6_commonDivisor_21 (q := 23) rfl (Nat.le_of_ble_eq_true rfl) rfl ?_
      refine E_iload_n 2 dX6_commonDivisor_23 (q := 24) rfl rfl rfl ?_
      refine E_istore_n [(2, .int v3), (5, .int (v2 % v3)), (3, .int v3), (4, .int v4)] dX6_commonDivisor_24 (q := 25) rfl rfl (Nat.le_of_ble_eq_true rfl) rfl ?_
      refine E_iload 1 dX6_commonDivisor_25 (q := 27) rfl rfl ?_
      refine E_istore_n [(3, .int (v2 % v3)), (2, .int v3), (5, .int (v2 % v3)), (4, .int v4)] dX6_commonDivisor_27 (q := 28) rfl rfl (Nat.le_of_ble_eq_true rfl) rfl ?_
      refine E_iinc 3 [(4, .int (v4 + 1)), (3, .int (v2 % v3)), (2, .int v3), (5, .int (v2 % v3))] dX6_commonDivisor_28 (q := 31) rfl rfl rfl (Nat.le_of_ble_eq_true rfl) rfl ?_
      refine E_goto (q := 7) dX6_commonDivisor_31 (by decide) ?_
      exact E_sub [2, 1, 0] rfl (hP _ (Option.some.inj hf).symm)
set_option maxHeartbeats 4000000 in
set_option maxRecDepth 100000 in
theorem m_X6_commonDivisor {γ : GX} {n : Nat} {N : Nat} {h : HP} {a0 : Int32} {a1 : Int32}   {z : Int32} (hf : f_X6_commonDivisor N a0 a1 = some z)  : Ct γ M_X6_commonDivisor n h [.int a0, .int a1] (Done (some (.int z)) n h) := by
  refine Ct_of_Ev (by decide) (fun h => by cases h) (Nat.le_of_ble_eq_true rfl) ?_
  show Ev γ M_X6_commonDivisor (0, 0) n h [(0, .int a0), (1, .int a1)] 0 [] _
  unfold f_X6_commonDivisor at hf
  refine E_iload_n 0 dX6_commonDivisor_0 (q := 1) rfl rfl rfl ?_
  refine E_istore_n [(2, .int a0), (0, .int a0), (1, .int a1)] dX6_commonDivisor_1 (q := 2) rfl rfl (Nat.le_of_ble_eq_true rfl) rfl ?_
  refine E_iload_n 2 dX6_commonDivisor_2 (q := 3) rfl rfl rfl ?_
  refine E_istore_n [(3, .int a1), (2, .int a0), (0, .int a0), (1, .int a1)] dX6_commonDivisor_3 (q := 4) rfl rfl (Nat.le_of_ble_eq_true rfl) rfl ?_
  refine E_iconst (x := 0) dX6_commonDivisor_4 (q := 5) rfl (by decide) ?_
  refine E_istore [(4, .int 0), (3, .int a1), (2, .int a0), (0, .int a0), (1, .int a1)] dX6_commonDivisor_5 (q := 7) rfl (Nat.le_of_ble_eq_true rfl) rfl ?_
  obtain ⟨t5, hxt5, hf⟩ := bnd hf
  refine E_sub [2, 1, 0] rfl ?_
  refine L_X6_commonDivisor_1  hxt5 ?_
  show Ev γ M_X6_commonDivisor _ n h [(2, .int t5)] 34 [] _
  refine E_iload_n 0 dX6_commonDivisor_34 (q := 35) rfl rfl rfl ?_
  obtain rfl := Option.some.inj hf
  exact E_iret dX6_commonDivisor_35 rfl ⟨rfl, rfl, rfl⟩

-- PostRelief.leastTerms(III)I
def f_X6_leastTerms (N : Nat) (a0 : Int32) (a1 : Int32) (a2 : Int32) : Option (Int32) :=
  ((f_X6_commonDivisor N a0 a1).bind fun z1 => (if a2 = 0 then (if ¬ (if 1 < z1 then z1 else 1) = 0 then some (a0 / (if 1 < z1 then z1 else 1)) else none) else (if ¬ (if 1 < z1 then z1 else 1) = 0 then some (a1 / (if 1 < z1 then z1 else 1)) else none)))
set_option maxHeartbeats 4000000 in
set_option maxRecDepth 100000 in
theorem m_X6_leastTerms {γ : GX} {n : Nat} {N : Nat} {h : HP} {a0 : Int32} {a1 : Int32} {a2 : Int32}   {z : Int32} (hf : f_X6_leastTerms N a0 a1 a2 = some z)  : Ct γ M_X6_leastTerms n h [.int a0, .int a1, .int a2] (Done (some (.int z)) n h) := by
  refine Ct_of_Ev (by decide) (fun h => by cases h) (Nat.le_of_ble_eq_true rfl) ?_
  show Ev γ M_X6_leastTerms (0, 0) n h [(0, .int a0), (1, .int a1), (2, .int a2)] 0 [] _
  unfold f_X6_leastTerms at hf
  refine E_iconst (x := 1) dX6_leastTerms_0 (q := 1) rfl (by decide) ?_
  refine E_iload_n 0 dX6_leastTerms_1 (q := 2) rfl rfl rfl ?_
  refine E_iload_n 1 dX6_leastTerms_2 (q := 3) rfl rfl rfl ?_
  obtain ⟨z1, hxz1, hf⟩ := bnd hf
  refine E_cS (as := [.int a0, .int a1]) (rest := [.int 1]) (u' := (0, 0)) (st' := [.int z1, .int 1]) dX6_leastTerms_3 (q := 6) rfl lkm_X6_commonDivisor lks_X6_270 (Nat.le_of_ble_eq_true rfl) ⟨Nat.le_refl _, Nat.le_refl _⟩ (Nat.le_of_ble_eq_true rfl) rfl rfl (m_X6_commonDivisor (N := N)  hxz1) rfl rfl rfl ?_
  refine E_max dX6_leastTerms_6 (q := 9) rfl lkmax_X6_162 st_max in_math co_max (Nat.le_of_ble_eq_true rfl) (Nat.le_of_ble_eq_true rfl) ?_
  refine E_istore_n [(3, .int (if 1 < z1 then z1 else 1)), (0, .int a0), (1, .int a1), (2, .int a2)] dX6_leastTerms_9 (q := 10) rfl rfl (Nat.le_of_ble_eq_true rfl) rfl ?_
  refine E_iload_n 3 dX6_leastTerms_10 (q := 11) rfl rfl rfl ?_
  refine E_if_ne dX6_leastTerms_11 (t := 18) (by decide) (q := 14) rfl (fun c2 => ?_) (fun c2 => ?_)
  · have hf := if_f c2 hf
    refine E_iload_n 2 dX6_leastTerms_18 (q := 19) rfl rfl rfl ?_
    refine E_iload_n 0 dX6_leastTerms_19 (q := 20) rfl rfl rfl ?_
    obtain ⟨g4, hf⟩ := gd hf
    refine E_idiv dX6_leastTerms_20 (q := 21) rfl g4 ?_
    obtain rfl := Option.some.inj hf
    exact E_iret dX6_leastTerms_21 rfl ⟨rfl, rfl, rfl⟩
  · have hf := if_t c2 hf
    refine E_iload_n 1 dX6_leastTerms_14 (q := 15) rfl rfl rfl ?_
    refine E_goto (q := 19) dX6_leastTerms_15 (by decide) ?_
    refine E_iload_n 0 dX6_leastTerms_19 (q := 20) rfl rfl rfl ?_
    obtain ⟨g3, hf⟩ := gd hf
    refine E_idiv dX6_leastTerms_20 (q := 21) rfl g3 ?_
    obtain rfl := Option.some.inj hf
    exact E_iret dX6_leastTerms_21 rfl ⟨rfl, rfl, rfl⟩

-- PostRelief.weightOfWaking(III)I
def f_X6_weightOfWaking (N : Nat) (a0 : Int32) (a1 : Int32) (a2 : Int32) : Option (Int32) :=
  ((f_J6_bitCount N a0).bind fun z1 => ((f_X6_power N a2 z1).bind fun z2 => ((f_J6_bitCount N (a1 &&& (a0 ^^^ (-1)))).bind fun z3 => ((f_X6_power N (10 - a2) z3).bind fun z4 => some (z2 * z4)))))
set_option maxHeartbeats 4000000 in
set_option maxRecDepth 100000 in
theorem m_X6_weightOfWaking {γ : GX} {n : Nat} {N : Nat} {h : HP} {a0 : Int32} {a1 : Int32} {a2 : Int32}   {z : Int32} (hf : f_X6_weightOfWaking N a0 a1 a2 = some z)  : Ct γ M_X6_weightOfWaking n h [.int a0, .int a1, .int a2] (Done (some (.int z)) n h) := by
  refine Ct_of_Ev (by decide) (fun h => by cases h) (Nat.le_of_ble_eq_true rfl) ?_
  show Ev γ M_X6_weightOfWaking (0, 0) n h [(0, .int a0), (1, .int a1), (2, .int a2)] 0 [] _
  unfold f_X6_weightOfWaking at hf
  refine E_iload_n 2 dX6_weightOfWaking_0 (q := 1) rfl rfl rfl ?_
  refine E_iload_n 0 dX6_weightOfWaking_1 (q := 2) rfl rfl rfl ?_
  obtain ⟨z1, hxz1, hf⟩ := bnd hf
  refine E_cS (as := [.int a0]) (rest := [.int a2]) (u' := (0, 0)) (st' := [.int z1, .int a2]) dX6_weightOfWaking_2 (q := 5) rfl lkm_J6_bitCount lks_X6_141 (Nat.le_of_ble_eq_true rfl) ⟨Nat.le_refl _, Nat.le_refl _⟩ (Nat.le_of_ble_eq_true rfl) rfl rfl (m_J6_bitCount (N := N)  hxz1) rfl rfl rfl ?_
  obtain ⟨z2, hxz2, hf⟩ := bnd hf
  refine E_cS (as := [.int a2, .int z1]) (rest := []) (u' := (0, 0)) (st' := [.int z2]) dX6_weightOfWaking_5 (q := 8) rfl lkm_X6_power lks_X6_206 (Nat.le_of_ble_eq_true rfl) ⟨Nat.le_refl _, Nat.le_refl _⟩ (Nat.le_of_ble_eq_true rfl) rfl rfl (m_X6_power (N := N)  hxz2) rfl rfl rfl ?_
  refine E_bipush (x := 10) dX6_weightOfWaking_8 (q := 10) rfl (by decide) ?_
  refine E_iload_n 2 dX6_weightOfWaking_10 (q := 11) rfl rfl rfl ?_
  refine E_isub dX6_weightOfWaking_11 (q := 12) rfl ?_
  refine E_iload_n 1 dX6_weightOfWaking_12 (q := 13) rfl rfl rfl ?_
  refine E_iload_n 0 dX6_weightOfWaking_13 (q := 14) rfl rfl rfl ?_
  refine E_iconst (x := (-1)) dX6_weightOfWaking_14 (q := 15) rfl (by decide) ?_
  refine E_ixor dX6_weightOfWaking_15 (q := 16) rfl ?_
  refine E_iand dX6_weightOfWaking_16 (q := 17) rfl ?_
  obtain ⟨z3, hxz3, hf⟩ := bnd hf
  refine E_cS (as := [.int (a1 &&& (a0 ^^^ (-1)))]) (rest := [.int (10 - a2), .int z2]) (u' := (0, 0)) (st' := [.int z3, .int (10 - a2), .int z2]) dX6_weightOfWaking_17 (q := 20) rfl lkm_J6_bitCount lks_X6_141 (Nat.le_of_ble_eq_true rfl) ⟨Nat.le_refl _, Nat.le_refl _⟩ (Nat.le_of_ble_eq_true rfl) rfl rfl (m_J6_bitCount (N := N)  hxz3) rfl rfl rfl ?_
  obtain ⟨z4, hxz4, hf⟩ := bnd hf
  refine E_cS (as := [.int (10 - a2), .int z3]) (rest := [.int z2]) (u' := (0, 0)) (st' := [.int z4, .int z2]) dX6_weightOfWaking_20 (q := 23) rfl lkm_X6_power lks_X6_206 (Nat.le_of_ble_eq_true rfl) ⟨Nat.le_refl _, Nat.le_refl _⟩ (Nat.le_of_ble_eq_true rfl) rfl rfl (m_X6_power (N := N)  hxz4) rfl rfl rfl ?_
  refine E_imul dX6_weightOfWaking_23 (q := 24) rfl ?_
  obtain rfl := Option.some.inj hf
  exact E_iret dX6_weightOfWaking_24 rfl ⟨rfl, rfl, rfl⟩

-- PostRelief$Depot.empty()V
def f_X0_empty (N : Nat) (g_posts : Int32) (g_men : Int32) (g_on : Int32) (g_stove : Int32) : Option (Int32 × Int32 × Int32 × Int32) :=
  some (0, 0, 2, 3)
set_option maxHeartbeats 4000000 in
set_option maxRecDepth 100000 in
theorem m_X0_empty {γ : GX} {n : Nat} {N : Nat} {h : HP} {g_posts : Int32} {g_sees : FN} {g_cold : FN} {g_men : Int32} {g_debts : FN} {g_on : Int32} {g_stove : Int32} (hH_g : Has n 7 (dpB γ 7 g_posts g_sees g_cold g_men g_debts g_on g_stove) h) {z : Int32 × Int32 × Int32 × Int32} (hf : f_X0_empty N g_posts g_men g_on g_stove = some z)  : Ct γ M_X0_empty n h [.ref (gB γ + 7)] (Done none n (put 7 (dpB γ 7 z.1 g_sees g_cold z.2.1 g_debts z.2.2.1 z.2.2.2) h)) := by
  have hn_g : 7 + 4 ≤ n := hH_g.1
  refine Ct.heap (h := (put 7 (dpB γ 7 g_posts g_sees g_cold g_men g_debts g_on g_stove) h)) (put_self hH_g).symm ?_
  refine Ct_of_Ev (by decide) (fun h => by cases h) (Nat.le_of_ble_eq_true rfl) ?_
  show Ev γ M_X0_empty (0, 0) n (put 7 (dpB γ 7 g_posts g_sees g_cold g_men g_debts g_on g_stove) h) [(0, .ref (gB γ + 7))] 0 [] _
  unfold f_X0_empty at hf
  refine E_aload_n 0 dX0_empty_0 (q := 1) rfl rfl rfl ?_
  refine E_iconst (x := 0) dX0_empty_1 (q := 2) rfl (by decide) ?_
  have hF1 : Has n 7 (dpB γ 7 g_posts g_sees g_cold g_men g_debts g_on g_stove) (put 7 (dpB γ 7 g_posts g_sees g_cold g_men g_debts g_on g_stove) h) := (has_put hn_g)
  refine E_put 0 dX0_empty_2 (q := 5) rfl ckX0 (Nat.le_of_ble_eq_true rfl) fl_X0_28 rfl rfl rfl (hF1.at 0 rfl) (hF1.lt 0 (Nat.le_of_ble_eq_true rfl)) (Nat.le_of_ble_eq_true rfl) (up_put (i := 0) (cs' := (dpB γ 7 0 g_sees g_cold g_men g_debts g_on g_stove)) (Nat.le_of_ble_eq_true rfl) rfl) ?_
  refine E_aload_n 0 dX0_empty_5 (q := 6) rfl rfl rfl ?_
  refine E_iconst (x := 0) dX0_empty_6 (q := 7) rfl (by decide) ?_
  have hF3 : Has n 7 (dpB γ 7 0 g_sees g_cold g_men g_debts g_on g_stove) (put 7 (dpB γ 7 0 g_sees g_cold g_men g_debts g_on g_stove) h) := (has_put hn_g)
  refine E_put 3 dX0_empty_7 (q := 10) rfl ckX0 (Nat.le_of_ble_eq_true rfl) fl_X0_31 rfl rfl rfl (hF3.at 0 rfl) (hF3.lt 0 (Nat.le_of_ble_eq_true rfl)) (Nat.le_of_ble_eq_true rfl) (up_put (i := 0) (cs' := (dpB γ 7 0 g_sees g_cold 0 g_debts g_on g_stove)) (Nat.le_of_ble_eq_true rfl) rfl) ?_
  refine E_aload_n 0 dX0_empty_10 (q := 11) rfl rfl rfl ?_
  refine E_iconst (x := 2) dX0_empty_11 (q := 12) rfl (by decide) ?_
  have hF5 : Has n 7 (dpB γ 7 0 g_sees g_cold 0 g_debts g_on g_stove) (put 7 (dpB γ 7 0 g_sees g_cold 0 g_debts g_on g_stove) h) := (has_put hn_g)
  refine E_put 5 dX0_empty_12 (q := 15) rfl ckX0 (Nat.le_of_ble_eq_true rfl) fl_X0_21 rfl rfl rfl (hF5.at 0 rfl) (hF5.lt 0 (Nat.le_of_ble_eq_true rfl)) (Nat.le_of_ble_eq_true rfl) (up_put (i := 0) (cs' := (dpB γ 7 0 g_sees g_cold 0 g_debts 2 g_stove)) (Nat.le_of_ble_eq_true rfl) rfl) ?_
  refine E_aload_n 0 dX0_empty_15 (q := 16) rfl rfl rfl ?_
  refine E_iconst (x := 3) dX0_empty_16 (q := 17) rfl (by decide) ?_
  have hF7 : Has n 7 (dpB γ 7 0 g_sees g_cold 0 g_debts 2 g_stove) (put 7 (dpB γ 7 0 g_sees g_cold 0 g_debts 2 g_stove) h) := (has_put hn_g)
  refine E_put 6 dX0_empty_17 (q := 20) rfl ckX0 (Nat.le_of_ble_eq_true rfl) fl_X0_25 rfl rfl rfl (hF7.at 0 rfl) (hF7.lt 0 (Nat.le_of_ble_eq_true rfl)) (Nat.le_of_ble_eq_true rfl) (up_put (i := 0) (cs' := (dpB γ 7 0 g_sees g_cold 0 g_debts 2 3)) (Nat.le_of_ble_eq_true rfl) rfl) ?_
  obtain rfl := Option.some.inj hf
  exact E_vret dX0_empty_20 rfl ⟨rfl, rfl, rfl⟩

-- PostRelief$Depot.become(LPostRelief$Depot;)V
def f_X0_become (N : Nat) (d_posts : Int32) (d_sees : FN) (d_cold : FN) (d_men : Int32) (d_debts : FN) (d_on : Int32) (d_stove : Int32) (g_posts : Int32) (g_sees : FN) (g_cold : FN) (g_men : Int32) (g_debts : FN) (g_on : Int32) (g_stove : Int32) : Option (Int32 × FN × FN × Int32 × FN × Int32 × Int32) :=
  some (g_posts, (va_cpy g_sees d_sees (ci 0) (ci 0) (ci 5)), (va_cpy g_cold d_cold (ci 0) (ci 0) (ci 5)), g_men, (va_cpy g_debts d_debts (ci 0) (ci 0) (ci 6)), g_on, g_stove)
set_option maxHeartbeats 4000000 in
set_option maxRecDepth 100000 in
theorem m_X0_become {γ : GX} {n : Nat} {N : Nat} {h : HP} {d_posts : Int32} {d_sees : FN} {d_cold : FN} {d_men : Int32} {d_debts : FN} {d_on : Int32} {d_stove : Int32} {g_posts : Int32} {g_sees : FN} {g_cold : FN} {g_men : Int32} {g_debts : FN} {g_on : Int32} {g_stove : Int32} (hH_d : Has n 3 (dpB γ 3 d_posts d_sees d_cold d_men d_debts d_on d_stove) h) (hH_g : Has n 7 (dpB γ 7 g_posts g_sees g_cold g_men g_debts g_on g_stove) h) {z : Int32 × FN × FN × Int32 × FN × Int32 × Int32} (hf : f_X0_become N d_posts d_sees d_cold d_men d_debts d_on d_stove g_posts g_sees g_cold g_men g_debts g_on g_stove = some z)  : Ct γ M_X0_become n h [.ref (gB γ + 3), .ref (gB γ + 7)] (Done none n (put 3 (dpB γ 3 z.1 z.2.1 z.2.2.1 z.2.2.2.1 z.2.2.2.2.1 z.2.2.2.2.2.1 z.2.2.2.2.2.2) h)) := by
  have hn_d : 3 + 4 ≤ n := hH_d.1
  refine Ct.heap (h := (put 3 (dpB γ 3 d_posts d_sees d_cold d_men d_debts d_on d_stove) h)) (put_self hH_d).symm ?_
  refine Ct_of_Ev (by decide) (fun h => by cases h) (Nat.le_of_ble_eq_true rfl) ?_
  show Ev γ M_X0_become (0, 0) n (put 3 (dpB γ 3 d_posts d_sees d_cold d_men d_debts d_on d_stove) h) [(0, .ref (gB γ + 3)), (1, .ref (gB γ + 7))] 0 [] _
  unfold f_X0_become at hf
  refine E_aload_n 0 dX0_become_0 (q := 1) rfl rfl rfl ?_
  refine E_aload_n 1 dX0_become_1 (q := 2) rfl rfl rfl ?_
  have hF1 : Has n 7 (dpB γ 7 g_posts g_sees g_cold g_men g_debts g_on g_stove) (put 3 (dpB γ 3 d_posts d_sees d_cold d_men d_debts d_on d_stove) h) := (has_out hH_g (Or.inr (Nat.le_of_ble_eq_true rfl)))
  refine E_get 0 dX0_become_2 (q := 5) rfl ckX0 (Nat.le_of_ble_eq_true rfl) fl_X0_28 (hF1.at 0 rfl) (hF1.lt 0 (Nat.le_of_ble_eq_true rfl)) rfl ?_
  have hF2 : Has n 3 (dpB γ 3 d_posts d_sees d_cold d_men d_debts d_on d_stove) (put 3 (dpB γ 3 d_posts d_sees d_cold d_men d_debts d_on d_stove) h) := (has_put hn_d)
  refine E_put 0 dX0_become_5 (q := 8) rfl ckX0 (Nat.le_of_ble_eq_true rfl) fl_X0_28 rfl rfl rfl (hF2.at 0 rfl) (hF2.lt 0 (Nat.le_of_ble_eq_true rfl)) (Nat.le_of_ble_eq_true rfl) (up_put (i := 0) (cs' := (dpB γ 3 g_posts d_sees d_cold d_men d_debts d_on d_stove)) (Nat.le_of_ble_eq_true rfl) rfl) ?_
  refine E_aload_n 1 dX0_become_8 (q := 9) rfl rfl rfl ?_
  have hF4 : Has n 7 (dpB γ 7 g_posts g_sees g_cold g_men g_debts g_on g_stove) (put 3 (dpB γ 3 g_posts d_sees d_cold d_men d_debts d_on d_stove) h) := (has_out hH_g (Or.inr (Nat.le_of_ble_eq_true rfl)))
  refine E_get 1 dX0_become_9 (q := 12) rfl ckX0 (Nat.le_of_ble_eq_true rfl) fl_X0_9 (hF4.at 0 rfl) (hF4.lt 0 (Nat.le_of_ble_eq_true rfl)) rfl ?_
  refine E_iconst (x := 0) dX0_become_12 (q := 13) rfl (by decide) ?_
  refine E_aload_n 0 dX0_become_13 (q := 14) rfl rfl rfl ?_
  have hF5 : Has n 3 (dpB γ 3 g_posts d_sees d_cold d_men d_debts d_on d_stove) (put 3 (dpB γ 3 g_posts d_sees d_cold d_men d_debts d_on d_stove) h) := (has_put hn_d)
  refine E_get 1 dX0_become_14 (q := 17) rfl ckX0 (Nat.le_of_ble_eq_true rfl) fl_X0_9 (hF5.at 0 rfl) (hF5.lt 0 (Nat.le_of_ble_eq_true rfl)) rfl ?_
  refine E_iconst (x := 0) dX0_become_17 (q := 18) rfl (by decide) ?_
  refine E_iconst (x := 5) dX0_become_18 (q := 19) rfl (by decide) ?_
  refine E_copy dX0_become_19 (q := 22) rfl lkcp_X0_34 na_cp st_cp in_sys (hF4.at 1 rfl) (hF4.lt 1 (Nat.le_of_ble_eq_true rfl)) (hF5.at 1 rfl) (hF5.lt 1 (Nat.le_of_ble_eq_true rfl)) (by decide) (by decide) (by decide) (by decide) (by decide) (Nat.le_of_ble_eq_true rfl) (Nat.le_of_ble_eq_true rfl) (up_put (i := 1) (cs' := (dpB γ 3 g_posts (va_cpy g_sees d_sees (ci 0) (ci 0) (ci 5)) d_cold d_men d_debts d_on d_stove)) (Nat.le_of_ble_eq_true rfl) rfl) ?_
  refine E_aload_n 1 dX0_become_22 (q := 23) rfl rfl rfl ?_
  have hF7 : Has n 7 (dpB γ 7 g_posts g_sees g_cold g_men g_debts g_on g_stove) (put 3 (dpB γ 3 g_posts (va_cpy g_sees d_sees (ci 0) (ci 0) (ci 5)) d_cold d_men d_debts d_on d_stove) h) := (has_out hH_g (Or.inr (Nat.le_of_ble_eq_true rfl)))
  refine E_get 2 dX0_become_23 (q := 26) rfl ckX0 (Nat.le_of_ble_eq_true rfl) fl_X0_15 (hF7.at 0 rfl) (hF7.lt 0 (Nat.le_of_ble_eq_true rfl)) rfl ?_
  refine E_iconst (x := 0) dX0_become_26 (q := 27) rfl (by decide) ?_
  refine E_aload_n 0 dX0_become_27 (q := 28) rfl rfl rfl ?_
  have hF8 : Has n 3 (dpB γ 3 g_posts (va_cpy g_sees d_sees (ci 0) (ci 0) (ci 5)) d_cold d_men d_debts d_on d_stove) (put 3 (dpB γ 3 g_posts (va_cpy g_sees d_sees (ci 0) (ci 0) (ci 5)) d_cold d_men d_debts d_on d_stove) h) := (has_put hn_d)
  refine E_get 2 dX0_become_28 (q := 31) rfl ckX0 (Nat.le_of_ble_eq_true rfl) fl_X0_15 (hF8.at 0 rfl) (hF8.lt 0 (Nat.le_of_ble_eq_true rfl)) rfl ?_
  refine E_iconst (x := 0) dX0_become_31 (q := 32) rfl (by decide) ?_
  refine E_iconst (x := 5) dX0_become_32 (q := 33) rfl (by decide) ?_
  refine E_copy dX0_become_33 (q := 36) rfl lkcp_X0_34 na_cp st_cp in_sys (hF7.at 2 rfl) (hF7.lt 2 (Nat.le_of_ble_eq_true rfl)) (hF8.at 2 rfl) (hF8.lt 2 (Nat.le_of_ble_eq_true rfl)) (by decide) (by decide) (by decide) (by decide) (by decide) (Nat.le_of_ble_eq_true rfl) (Nat.le_of_ble_eq_true rfl) (up_put (i := 2) (cs' := (dpB γ 3 g_posts (va_cpy g_sees d_sees (ci 0) (ci 0) (ci 5)) (va_cpy g_cold d_cold (ci 0) (ci 0) (ci 5)) d_men d_debts d_on d_stove)) (Nat.le_of_ble_eq_true rfl) rfl) ?_
  refine E_aload_n 0 dX0_become_36 (q := 37) rfl rfl rfl ?_
  refine E_aload_n 1 dX0_become_37 (q := 38) rfl rfl rfl ?_
  have hF10 : Has n 7 (dpB γ 7 g_posts g_sees g_cold g_men g_debts g_on g_stove) (put 3 (dpB γ 3 g_posts (va_cpy g_sees d_sees (ci 0) (ci 0) (ci 5)) (va_cpy g_cold d_cold (ci 0) (ci 0) (ci 5)) d_men d_debts d_on d_stove) h) := (has_out hH_g (Or.inr (Nat.le_of_ble_eq_true rfl)))
  refine E_get 3 dX0_become_38 (q := 41) rfl ckX0 (Nat.le_of_ble_eq_true rfl) fl_X0_31 (hF10.at 0 rfl) (hF10.lt 0 (Nat.le_of_ble_eq_true rfl)) rfl ?_
  have hF11 : Has n 3 (dpB γ 3 g_posts (va_cpy g_sees d_sees (ci 0) (ci 0) (ci 5)) (va_cpy g_cold d_cold (ci 0) (ci 0) (ci 5)) d_men d_debts d_on d_stove) (put 3 (dpB γ 3 g_posts (va_cpy g_sees d_sees (ci 0) (ci 0) (ci 5)) (va_cpy g_cold d_cold (ci 0) (ci 0) (ci 5)) d_men d_debts d_on d_stove) h) := (has_put hn_d)
  refine E_put 3 dX0_become_41 (q := 44) rfl ckX0 (Nat.le_of_ble_eq_true rfl) fl_X0_31 rfl rfl rfl (hF11.at 0 rfl) (hF11.lt 0 (Nat.le_of_ble_eq_true rfl)) (Nat.le_of_ble_eq_true rfl) (up_put (i := 0) (cs' := (dpB γ 3 g_posts (va_cpy g_sees d_sees (ci 0) (ci 0) (ci 5)) (va_cpy g_cold d_cold (ci 0) (ci 0) (ci 5)) g_men d_debts d_on d_stove)) (Nat.le_of_ble_eq_true rfl) rfl) ?_
  refine E_aload_n 1 dX0_become_44 (q := 45) rfl rfl rfl ?_
  have hF13 : Has n 7 (dpB γ 7 g_posts g_sees g_cold g_men g_debts g_on g_stove) (put 3 (dpB γ 3 g_posts (va_cpy g_sees d_sees (ci 0) (ci 0) (ci 5)) (va_cpy g_cold d_cold (ci 0) (ci 0) (ci 5)) g_men d_debts d_on d_stove) h) := (has_out hH_g (Or.inr (Nat.le_of_ble_eq_true rfl)))
  refine E_get 4 dX0_become_45 (q := 48) rfl ckX0 (Nat.le_of_ble_eq_true rfl) fl_X0_18 (hF13.at 0 rfl) (hF13.lt 0 (Nat.le_of_ble_eq_true rfl)) rfl ?_
  refine E_iconst (x := 0) dX0_become_48 (q := 49) rfl (by decide) ?_
  refine E_aload_n 0 dX0_become_49 (q := 50) rfl rfl rfl ?_
  have hF14 : Has n 3 (dpB γ 3 g_posts (va_cpy g_sees d_sees (ci 0) (ci 0) (ci 5)) (va_cpy g_cold d_cold (ci 0) (ci 0) (ci 5)) g_men d_debts d_on d_stove) (put 3 (dpB γ 3 g_posts (va_cpy g_sees d_sees (ci 0) (ci 0) (ci 5)) (va_cpy g_cold d_cold (ci 0) (ci 0) (ci 5)) g_men d_debts d_on d_stove) h) := (has_put hn_d)
  refine E_get 4 dX0_become_50 (q := 53) rfl ckX0 (Nat.le_of_ble_eq_true rfl) fl_X0_18 (hF14.at 0 rfl) (hF14.lt 0 (Nat.le_of_ble_eq_true rfl)) rfl ?_
  refine E_iconst (x := 0) dX0_become_53 (q := 54) rfl (by decide) ?_
  refine E_bipush (x := 6) dX0_become_54 (q := 56) rfl (by decide) ?_
  refine E_copy dX0_become_56 (q := 59) rfl lkcp_X0_34 na_cp st_cp in_sys (hF13.at 3 rfl) (hF13.lt 3 (Nat.le_of_ble_eq_true rfl)) (hF14.at 3 rfl) (hF14.lt 3 (Nat.le_of_ble_eq_true rfl)) (by decide) (by decide) (by decide) (by decide) (by decide) (Nat.le_of_ble_eq_true rfl) (Nat.le_of_ble_eq_true rfl) (up_put (i := 3) (cs' := (dpB γ 3 g_posts (va_cpy g_sees d_sees (ci 0) (ci 0) (ci 5)) (va_cpy g_cold d_cold (ci 0) (ci 0) (ci 5)) g_men (va_cpy g_debts d_debts (ci 0) (ci 0) (ci 6)) d_on d_stove)) (Nat.le_of_ble_eq_true rfl) rfl) ?_
  refine E_aload_n 0 dX0_become_59 (q := 60) rfl rfl rfl ?_
  refine E_aload_n 1 dX0_become_60 (q := 61) rfl rfl rfl ?_
  have hF16 : Has n 7 (dpB γ 7 g_posts g_sees g_cold g_men g_debts g_on g_stove) (put 3 (dpB γ 3 g_posts (va_cpy g_sees d_sees (ci 0) (ci 0) (ci 5)) (va_cpy g_cold d_cold (ci 0) (ci 0) (ci 5)) g_men (va_cpy g_debts d_debts (ci 0) (ci 0) (ci 6)) d_on d_stove) h) := (has_out hH_g (Or.inr (Nat.le_of_ble_eq_true rfl)))
  refine E_get 5 dX0_become_61 (q := 64) rfl ckX0 (Nat.le_of_ble_eq_true rfl) fl_X0_21 (hF16.at 0 rfl) (hF16.lt 0 (Nat.le_of_ble_eq_true rfl)) rfl ?_
  have hF17 : Has n 3 (dpB γ 3 g_posts (va_cpy g_sees d_sees (ci 0) (ci 0) (ci 5)) (va_cpy g_cold d_cold (ci 0) (ci 0) (ci 5)) g_men (va_cpy g_debts d_debts (ci 0) (ci 0) (ci 6)) d_on d_stove) (put 3 (dpB γ 3 g_posts (va_cpy g_sees d_sees (ci 0) (ci 0) (ci 5)) (va_cpy g_cold d_cold (ci 0) (ci 0) (ci 5)) g_men (va_cpy g_debts d_debts (ci 0) (ci 0) (ci 6)) d_on d_stove) h) := (has_put hn_d)
  refine E_put 5 dX0_become_64 (q := 67) rfl ckX0 (Nat.le_of_ble_eq_true rfl) fl_X0_21 rfl rfl rfl (hF17.at 0 rfl) (hF17.lt 0 (Nat.le_of_ble_eq_true rfl)) (Nat.le_of_ble_eq_true rfl) (up_put (i := 0) (cs' := (dpB γ 3 g_posts (va_cpy g_sees d_sees (ci 0) (ci 0) (ci 5)) (va_cpy g_cold d_cold (ci 0) (ci 0) (ci 5)) g_men (va_cpy g_debts d_debts (ci 0) (ci 0) (ci 6)) g_on d_stove)) (Nat.le_of_ble_eq_true rfl) rfl) ?_
  refine E_aload_n 0 dX0_become_67 (q := 68) rfl rfl rfl ?_
  refine E_aload_n 1 dX0_become_68 (q := 69) rfl rfl rfl ?_
  have hF19 : Has n 7 (dpB γ 7 g_posts g_sees g_cold g_men g_debts g_on g_stove) (put 3 (dpB γ 3 g_posts (va_cpy g_sees d_sees (ci 0) (ci 0) (ci 5)) (va_cpy g_cold d_cold (ci 0) (ci 0) (ci 5)) g_men (va_cpy g_debts d_debts (ci 0) (ci 0) (ci 6)) g_on d_stove) h) := (has_out hH_g (Or.inr (Nat.le_of_ble_eq_true rfl)))
  refine E_get 6 dX0_become_69 (q := 72) rfl ckX0 (Nat.le_of_ble_eq_true rfl) fl_X0_25 (hF19.at 0 rfl) (hF19.lt 0 (Nat.le_of_ble_eq_true rfl)) rfl ?_
  have hF20 : Has n 3 (dpB γ 3 g_posts (va_cpy g_sees d_sees (ci 0) (ci 0) (ci 5)) (va_cpy g_cold d_cold (ci 0) (ci 0) (ci 5)) g_men (va_cpy g_debts d_debts (ci 0) (ci 0) (ci 6)) g_on d_stove) (put 3 (dpB γ 3 g_posts (va_cpy g_sees d_sees (ci 0) (ci 0) (ci 5)) (va_cpy g_cold d_cold (ci 0) (ci 0) (ci 5)) g_men (va_cpy g_debts d_debts (ci 0) (ci 0) (ci 6)) g_on d_stove) h) := (has_put hn_d)
  refine E_put 6 dX0_become_72 (q := 75) rfl ckX0 (Nat.le_of_ble_eq_true rfl) fl_X0_25 rfl rfl rfl (hF20.at 0 rfl) (hF20.lt 0 (Nat.le_of_ble_eq_true rfl)) (Nat.le_of_ble_eq_true rfl) (up_put (i := 0) (cs' := (dpB γ 3 g_posts (va_cpy g_sees d_sees (ci 0) (ci 0) (ci 5)) (va_cpy g_cold d_cold (ci 0) (ci 0) (ci 5)) g_men (va_cpy g_debts d_debts (ci 0) (ci 0) (ci 6)) g_on g_stove)) (Nat.le_of_ble_eq_true rfl) rfl) ?_
  obtain rfl := Option.some.inj hf
  exact E_vret dX0_become_75 rfl ⟨rfl, rfl, rfl⟩

-- PostRelief$Depot.allPosts()I
def f_X0_allPosts (N : Nat) (d_posts : Int32) : Option (Int32) :=
  some (((1 : Int32) <<< (d_posts &&& 31)) - 1)
set_option maxHeartbeats 4000000 in
set_option maxRecDepth 100000 in
theorem m_X0_allPosts {γ : GX} {n : Nat} {N : Nat} {h : HP} {d_posts : Int32} {d_sees : FN} {d_cold : FN} {d_men : Int32} {d_debts : FN} {d_on : Int32} {d_stove : Int32} (hH_d : Has n 3 (dpB γ 3 d_posts d_sees d_cold d_men d_debts d_on d_stove) h) {z : Int32} (hf : f_X0_allPosts N d_posts = some z)  : Ct γ M_X0_allPosts n h [.ref (gB γ + 3)] (Done (some (.int z)) n h) := by
  refine Ct_of_Ev (by decide) (fun h => by cases h) (Nat.le_of_ble_eq_true rfl) ?_
  show Ev γ M_X0_allPosts (0, 0) n h [(0, .ref (gB γ + 3))] 0 [] _
  unfold f_X0_allPosts at hf
  refine E_iconst (x := 1) dX0_allPosts_0 (q := 1) rfl (by decide) ?_
  refine E_aload_n 0 dX0_allPosts_1 (q := 2) rfl rfl rfl ?_
  refine E_get 0 dX0_allPosts_2 (q := 5) rfl ckX0 (Nat.le_of_ble_eq_true rfl) fl_X0_28 (hH_d.at 0 rfl) (hH_d.lt 0 (Nat.le_of_ble_eq_true rfl)) rfl ?_
  refine E_ishl dX0_allPosts_5 (q := 6) rfl ?_
  refine E_iconst (x := 1) dX0_allPosts_6 (q := 7) rfl (by decide) ?_
  refine E_isub dX0_allPosts_7 (q := 8) rfl ?_
  obtain rfl := Option.some.inj hf
  exact E_iret dX0_allPosts_8 rfl ⟨rfl, rfl, rfl⟩

-- PostRelief$Depot.seenFrom(I)I
def f_X0_seenFrom (N : Nat) (a1 : Int32) (d_posts : Int32) (d_sees : FN) : Option (Int32) :=
  (if ix a1 5 = true then ((f_X0_allPosts N d_posts).bind fun z2 => some (((d_sees (ci a1)) &&& z2) &&& (((1 : Int32) <<< (a1 &&& 31)) ^^^ (-1)))) else none)
set_option maxHeartbeats 4000000 in
set_option maxRecDepth 100000 in
theorem m_X0_seenFrom {γ : GX} {n : Nat} {N : Nat} {h : HP} {a1 : Int32} {d_posts : Int32} {d_sees : FN} {d_cold : FN} {d_men : Int32} {d_debts : FN} {d_on : Int32} {d_stove : Int32} (hH_d : Has n 3 (dpB γ 3 d_posts d_sees d_cold d_men d_debts d_on d_stove) h) {z : Int32} (hf : f_X0_seenFrom N a1 d_posts d_sees = some z)  : Ct γ M_X0_seenFrom n h [.ref (gB γ + 3), .int a1] (Done (some (.int z)) n h) := by
  refine Ct_of_Ev (by decide) (fun h => by cases h) (Nat.le_of_ble_eq_true rfl) ?_
  show Ev γ M_X0_seenFrom (0, 0) n h [(0, .ref (gB γ + 3)), (1, .int a1)] 0 [] _
  unfold f_X0_seenFrom at hf
  refine E_aload_n 0 dX0_seenFrom_0 (q := 1) rfl rfl rfl ?_
  refine E_get 1 dX0_seenFrom_1 (q := 4) rfl ckX0 (Nat.le_of_ble_eq_true rfl) fl_X0_9 (hH_d.at 0 rfl) (hH_d.lt 0 (Nat.le_of_ble_eq_true rfl)) rfl ?_
  refine E_iload_n 1 dX0_seenFrom_4 (q := 5) rfl rfl rfl ?_
  obtain ⟨g1, hf⟩ := gd hf
  refine E_iald dX0_seenFrom_5 (q := 6) rfl (hH_d.at 1 rfl) (hH_d.lt 1 (Nat.le_of_ble_eq_true rfl)) g1 ?_
  refine E_aload_n 0 dX0_seenFrom_6 (q := 7) rfl rfl rfl ?_
  obtain ⟨z2, hxz2, hf⟩ := bnd hf
  refine E_cV (as := []) (k := 3) (rest := [.int (d_sees (ci a1))]) (u' := (0, 0)) (st' := [.int z2, .int (d_sees (ci a1))]) dX0_seenFrom_7 (q := 10) rfl lkm_X0_allPosts lkv_X0_40 (Nat.le_of_ble_eq_true rfl) ckX0 (hH_d.at 0 rfl) (hH_d.lt 0 (Nat.le_of_ble_eq_true rfl)) ⟨Nat.le_refl _, Nat.le_refl _⟩ (Nat.le_of_ble_eq_true rfl) rfl rfl (m_X0_allPosts (N := N)  hH_d hxz2) rfl rfl rfl ?_
  refine E_iand dX0_seenFrom_10 (q := 11) rfl ?_
  refine E_iconst (x := 1) dX0_seenFrom_11 (q := 12) rfl (by decide) ?_
  refine E_iload_n 1 dX0_seenFrom_12 (q := 13) rfl rfl rfl ?_
  refine E_ishl dX0_seenFrom_13 (q := 14) rfl ?_
  refine E_iconst (x := (-1)) dX0_seenFrom_14 (q := 15) rfl (by decide) ?_
  refine E_ixor dX0_seenFrom_15 (q := 16) rfl ?_
  refine E_iand dX0_seenFrom_16 (q := 17) rfl ?_
  obtain rfl := Option.some.inj hf
  exact E_iret dX0_seenFrom_17 rfl ⟨rfl, rfl, rfl⟩

-- PostRelief$Depot.watchedBy(I)I
def b_X0_watchedBy_1 (N : Nat) (p1 : Int32) (d_posts : Int32) (d_sees : FN) (v2 : Int32) (v3 : Int32) : Option ((Int32 × Int32) ⊕ (Int32)) :=
  (if d_posts ≤ v3 then some (.inr v2) else (if ((p1 >>> (v3 &&& 31)) &&& 1) = 1 then ((f_X0_seenFrom N v3 d_posts d_sees).bind fun z4 => some (.inl ((v2 ||| z4), (v3 + 1)))) else some (.inl (v2, (v3 + 1)))))
def f_X0_watchedBy (N : Nat) (a1 : Int32) (d_posts : Int32) (d_sees : FN) : Option (Int32) :=
  ((lp (fun s => b_X0_watchedBy_1 N a1 d_posts d_sees s.1 s.2) N (a1, 0)).bind fun t5 => some t5)
set_option maxHeartbeats 4000000 in
set_option maxRecDepth 100000 in
theorem L_X0_watchedBy_1 {γ : GX} {n : Nat} {h : HP} {Ψ : PS} {N : Nat} {p1 : Int32} {d_posts : Int32} {d_sees : FN} {d_cold : FN} {d_men : Int32} {d_debts : FN} {d_on : Int32} {d_stove : Int32} (hH_d : Has n 3 (dpB γ 3 d_posts d_sees d_cold d_men d_debts d_on d_stove) h) {s0 : Int32 × Int32} {t : Int32} (hf : lp (fun s => b_X0_watchedBy_1 N p1 d_posts d_sees s.1 s.2) N s0 = some t) (K : Ev γ M_X0_watchedBy (0, 0) n h [(2, .int t)] 35 [] Ψ) : Ev γ M_X0_watchedBy (0, 0) n h [(0, .ref (gB γ + 3)), (1, .int p1), (2, .int s0.1), (3, .int s0.2)] 4 [] Ψ := by
  refine E_lp (P := fun s => Ev γ M_X0_watchedBy (0, 0) n h [(0, .ref (gB γ + 3)), (1, .int p1), (2, .int s.1), (3, .int s.2)] 4 [] Ψ) (K := fun t => Ev γ M_X0_watchedBy (0, 0) n h [(2, .int t)] 35 [] Ψ) ?_ N s0 t hf K
  intro s r hf hP hK
  obtain ⟨v2, v3⟩ := s
  change b_X0_watchedBy_1 N p1 d_posts d_sees v2 v3 = some r at hf
  unfold b_X0_watchedBy_1 at hf
  show Ev γ M_X0_watchedBy (0, 0) n h [(0, .ref (gB γ + 3)), (1, .int p1), (2, .int v2), (3, .int v3)] 4 [] Ψ
  refine E_iload_n 3 dX0_watchedBy_4 (q := 5) rfl rfl rfl ?_
  refine E_aload_n 0 dX0_watchedBy_5 (q := 6) rfl rfl rfl ?_
  refine E_get 0 dX0_watchedBy_6 (q := 9) rfl ckX0 (Nat.le_of_ble_eq_true rfl) fl_X0_28 (hH_d.at 0 rfl) (hH_d.lt 0 (Nat.le_of_ble_eq_true rfl)) rfl ?_
  refine E_icmp_ge dX0_watchedBy_9 (t := 35) (by decide) (q := 12) rfl (fun c2 => ?_) (fun c2 => ?_)
  · have hf := if_t c2 hf
    exact E_sub [2] rfl (hK _ (Option.some.inj hf).symm)
  · have hf := if_f c2 hf
    refine E_iload_n 1 dX0_watchedBy_12 (q := 13) rfl rfl rfl ?_
    refine E_iload_n 3 dX0_watchedBy_13 (q := 14) rfl rfl rfl ?_
    refine E_ishr dX0_watchedBy_14 (q := 15) rfl ?_
    refine E_iconst (x := 1) dX0_watchedBy_15 (q := 16) rfl (by decide) ?_
    refine E_iand dX0_watchedBy_16 (q := 17) rfl ?_
    refine E_iconst (x := 1) dX0_watchedBy_17 (q := 18) rfl (by decide) ?_
    refine E_icmp_ne dX0_watchedBy_18 (t := 29) (by decide) (q := 21) rfl (fun c3 => ?_) (fun c3 => ?_)
    · have hf := if_f c3 hf
      refine E_iinc 3 [(3, .int (v3 + 1)), (0, .ref (gB γ + 3)), (1, .int p1), (2, .int v2)] dX0_watchedBy_29 (q := 32) rfl rfl rfl (Nat.le_of_ble_eq_true rfl) rfl ?_
      refine E_goto (q := 4) dX0_watchedBy_32 (by decide) ?_
      exact E_sub [1, 2, 3, 0] rfl (hP _ (Option.some.inj hf).symm)
    · have hf := if_t c3 hf
      refine E_iload_n 2 dX0_watchedBy_21 (q := 22) rfl rfl rfl ?_
      refine E_aload_n 0 dX0_watchedBy_22 (q := 23) rfl rfl rfl ?_
      refine E_iload_n 3 dX0_watchedBy_23 (q := 24) rfl rfl rfl ?_
      obtain ⟨z4, hxz4, hf⟩ := bnd hf
      refine E_cV (as := [.int v3]) (k := 3) (rest := [.int v2]) (u' := (0, 0)) (st' := [.int z4, .int v2]) dX0_watchedBy_24 (q := 27) rfl lkm_X0_seenFrom lkv_X0_44 (Nat.le_of_ble_eq_true rfl) ckX0 (hH_d.at 0 rfl) (hH_d.lt 0 (Nat.le_of_ble_eq_true rfl)) ⟨Nat.le_refl _, Nat.le_refl _⟩ (Nat.le_of_ble_eq_true rfl) rfl rfl (m_X0_seenFrom (N := N)  hH_d hxz4) rfl rfl rfl ?_
      refine E_ior dX0_watchedBy_27 (q := 28) rfl ?_
      refine E_istore_n [(2, .int (v2 ||| z4)), (0, .ref (gB γ + 3)), (1, .int p1), (3, .int v3)] dX0_watchedBy_28 (q := 29) rfl rfl (Nat.le_of_ble_eq_true rfl) rfl ?_
      refine E_iinc 3 [(3, .int (v3 + 1)), (2, .int (v2 ||| z4)), (0, .ref (gB γ + 3)), (1, .int p1)] dX0_watchedBy_29 (q := 32) rfl rfl rfl (Nat.le_of_ble_eq_true rfl) rfl ?_
      refine E_goto (q := 4) dX0_watchedBy_32 (by decide) ?_
      exact E_sub [2, 3, 1, 0] rfl (hP _ (Option.some.inj hf).symm)
set_option maxHeartbeats 4000000 in
set_option maxRecDepth 100000 in
theorem m_X0_watchedBy {γ : GX} {n : Nat} {N : Nat} {h : HP} {a1 : Int32} {d_posts : Int32} {d_sees : FN} {d_cold : FN} {d_men : Int32} {d_debts : FN} {d_on : Int32} {d_stove : Int32} (hH_d : Has n 3 (dpB γ 3 d_posts d_sees d_cold d_men d_debts d_on d_stove) h) {z : Int32} (hf : f_X0_watchedBy N a1 d_posts d_sees = some z)  : Ct γ M_X0_watchedBy n h [.ref (gB γ + 3), .int a1] (Done (some (.int z)) n h) := by
  refine Ct_of_Ev (by decide) (fun h => by cases h) (Nat.le_of_ble_eq_true rfl) ?_
  show Ev γ M_X0_watchedBy (0, 0) n h [(0, .ref (gB γ + 3)), (1, .int a1)] 0 [] _
  unfold f_X0_watchedBy at hf
  refine E_iload_n 1 dX0_watchedBy_0 (q := 1) rfl rfl rfl ?_
  refine E_istore_n [(2, .int a1), (0, .ref (gB γ + 3)), (1, .int a1)] dX0_watchedBy_1 (q := 2) rfl rfl (Nat.le_of_ble_eq_true rfl) rfl ?_
  refine E_iconst (x := 0) dX0_watchedBy_2 (q := 3) rfl (by decide) ?_
  refine E_istore_n [(3, .int 0), (2, .int a1), (0, .ref (gB γ + 3)), (1, .int a1)] dX0_watchedBy_3 (q := 4) rfl rfl (Nat.le_of_ble_eq_true rfl) rfl ?_
  obtain ⟨t5, hxt5, hf⟩ := bnd hf
  refine E_sub [2, 3, 1, 0] rfl ?_
  refine L_X0_watchedBy_1 hH_d hxt5 ?_
  show Ev γ M_X0_watchedBy _ n h [(2, .int t5)] 35 [] _
  refine E_iload_n 0 dX0_watchedBy_35 (q := 36) rfl rfl rfl ?_
  obtain rfl := Option.some.inj hf
  exact E_iret dX0_watchedBy_36 rfl ⟨rfl, rfl, rfl⟩

-- PostRelief$Depot.burden(II)I
def f_X0_burden (N : Nat) (a1 : Int32) (a2 : Int32) (d_cold : FN) : Option (Int32) :=
  (if (a2 % 12) < 2 then (if ix a1 5 = true then some ((4 + 0) + ((d_cold (ci a1)) / 3)) else none) else (if 4 < (a2 % 12) then (if ix a1 5 = true then some ((4 + 0) + ((d_cold (ci a1)) / 3)) else none) else (if ix a1 5 = true then some ((4 + 2) + ((d_cold (ci a1)) / 3)) else none)))
set_option maxHeartbeats 4000000 in
set_option maxRecDepth 100000 in
theorem m_X0_burden {γ : GX} {n : Nat} {N : Nat} {h : HP} {a1 : Int32} {a2 : Int32} {d_posts : Int32} {d_sees : FN} {d_cold : FN} {d_men : Int32} {d_debts : FN} {d_on : Int32} {d_stove : Int32} (hH_d : Has n 3 (dpB γ 3 d_posts d_sees d_cold d_men d_debts d_on d_stove) h) {z : Int32} (hf : f_X0_burden N a1 a2 d_cold = some z)  : Ct γ M_X0_burden n h [.ref (gB γ + 3), .int a1, .int a2] (Done (some (.int z)) n h) := by
  refine Ct_of_Ev (by decide) (fun h => by cases h) (Nat.le_of_ble_eq_true rfl) ?_
  show Ev γ M_X0_burden (0, 0) n h [(0, .ref (gB γ + 3)), (1, .int a1), (2, .int a2)] 0 [] _
  unfold f_X0_burden at hf
  refine E_iload_n 2 dX0_burden_0 (q := 1) rfl rfl rfl ?_
  refine E_bipush (x := 12) dX0_burden_1 (q := 3) rfl (by decide) ?_
  refine E_irem dX0_burden_3 (q := 4) rfl (by decide) ?_
  refine E_istore_n [(3, .int (a2 % 12)), (0, .ref (gB γ + 3)), (1, .int a1), (2, .int a2)] dX0_burden_4 (q := 5) rfl rfl (Nat.le_of_ble_eq_true rfl) rfl ?_
  refine E_iload_n 0 dX0_burden_5 (q := 6) rfl rfl rfl ?_
  refine E_iconst (x := 2) dX0_burden_6 (q := 7) rfl (by decide) ?_
  refine E_icmp_lt dX0_burden_7 (t := 19) (by decide) (q := 10) rfl (fun c1 => ?_) (fun c1 => ?_)
  · have hf := if_t c1 hf
    refine E_iconst (x := 0) dX0_burden_19 (q := 20) rfl (by decide) ?_
    refine E_istore [(4, .int 0), (3, .int (a2 % 12)), (0, .ref (gB γ + 3)), (1, .int a1), (2, .int a2)] dX0_burden_20 (q := 22) rfl (Nat.le_of_ble_eq_true rfl) rfl ?_
    refine E_iconst (x := 4) dX0_burden_22 (q := 23) rfl (by decide) ?_
    refine E_iload 0 dX0_burden_23 (q := 25) rfl rfl ?_
    refine E_iadd dX0_burden_25 (q := 26) rfl ?_
    refine E_aload_n 2 dX0_burden_26 (q := 27) rfl rfl rfl ?_
    refine E_get 2 dX0_burden_27 (q := 30) rfl ckX0 (Nat.le_of_ble_eq_true rfl) fl_X0_15 (hH_d.at 0 rfl) (hH_d.lt 0 (Nat.le_of_ble_eq_true rfl)) rfl ?_
    refine E_iload_n 3 dX0_burden_30 (q := 31) rfl rfl rfl ?_
    obtain ⟨g2, hf⟩ := gd hf
    refine E_iald dX0_burden_31 (q := 32) rfl (hH_d.at 2 rfl) (hH_d.lt 2 (Nat.le_of_ble_eq_true rfl)) g2 ?_
    refine E_iconst (x := 3) dX0_burden_32 (q := 33) rfl (by decide) ?_
    refine E_idiv dX0_burden_33 (q := 34) rfl (by decide) ?_
    refine E_iadd dX0_burden_34 (q := 35) rfl ?_
    obtain rfl := Option.some.inj hf
    exact E_iret dX0_burden_35 rfl ⟨rfl, rfl, rfl⟩
  · have hf := if_f c1 hf
    refine E_iload_n 0 dX0_burden_10 (q := 11) rfl rfl rfl ?_
    refine E_iconst (x := 4) dX0_burden_11 (q := 12) rfl (by decide) ?_
    refine E_icmp_gt dX0_burden_12 (t := 19) (by decide) (q := 15) rfl (fun c3 => ?_) (fun c3 => ?_)
    · have hf := if_t c3 hf
      refine E_iconst (x := 0) dX0_burden_19 (q := 20) rfl (by decide) ?_
      refine E_istore [(4, .int 0), (3, .int (a2 % 12)), (0, .ref (gB γ + 3)), (1, .int a1), (2, .int a2)] dX0_burden_20 (q := 22) rfl (Nat.le_of_ble_eq_true rfl) rfl ?_
      refine E_iconst (x := 4) dX0_burden_22 (q := 23) rfl (by decide) ?_
      refine E_iload 0 dX0_burden_23 (q := 25) rfl rfl ?_
      refine E_iadd dX0_burden_25 (q := 26) rfl ?_
      refine E_aload_n 2 dX0_burden_26 (q := 27) rfl rfl rfl ?_
      refine E_get 2 dX0_burden_27 (q := 30) rfl ckX0 (Nat.le_of_ble_eq_true rfl) fl_X0_15 (hH_d.at 0 rfl) (hH_d.lt 0 (Nat.le_of_ble_eq_true rfl)) rfl ?_
      refine E_iload_n 3 dX0_burden_30 (q := 31) rfl rfl rfl ?_
      obtain ⟨g4, hf⟩ := gd hf
      refine E_iald dX0_burden_31 (q := 32) rfl (hH_d.at 2 rfl) (hH_d.lt 2 (Nat.le_of_ble_eq_true rfl)) g4 ?_
      refine E_iconst (x := 3) dX0_burden_32 (q := 33) rfl (by decide) ?_
      refine E_idiv dX0_burden_33 (q := 34) rfl (by decide) ?_
      refine E_iadd dX0_burden_34 (q := 35) rfl ?_
      obtain rfl := Option.some.inj hf
      exact E_iret dX0_burden_35 rfl ⟨rfl, rfl, rfl⟩
    · have hf := if_f c3 hf
      refine E_iconst (x := 2) dX0_burden_15 (q := 16) rfl (by decide) ?_
      refine E_goto (q := 20) dX0_burden_16 (by decide) ?_
      refine E_istore [(4, .int 2), (3, .int (a2 % 12)), (0, .ref (gB γ + 3)), (1, .int a1), (2, .int a2)] dX0_burden_20 (q := 22) rfl (Nat.le_of_ble_eq_true rfl) rfl ?_
      refine E_iconst (x := 4) dX0_burden_22 (q := 23) rfl (by decide) ?_
      refine E_iload 0 dX0_burden_23 (q := 25) rfl rfl ?_
      refine E_iadd dX0_burden_25 (q := 26) rfl ?_
      refine E_aload_n 2 dX0_burden_26 (q := 27) rfl rfl rfl ?_
      refine E_get 2 dX0_burden_27 (q := 30) rfl ckX0 (Nat.le_of_ble_eq_true rfl) fl_X0_15 (hH_d.at 0 rfl) (hH_d.lt 0 (Nat.le_of_ble_eq_true rfl)) rfl ?_
      refine E_iload_n 3 dX0_burden_30 (q := 31) rfl rfl rfl ?_
      obtain ⟨g5, hf⟩ := gd hf
      refine E_iald dX0_burden_31 (q := 32) rfl (hH_d.at 2 rfl) (hH_d.lt 2 (Nat.le_of_ble_eq_true rfl)) g5 ?_
      refine E_iconst (x := 3) dX0_burden_32 (q := 33) rfl (by decide) ?_
      refine E_idiv dX0_burden_33 (q := 34) rfl (by decide) ?_
      refine E_iadd dX0_burden_34 (q := 35) rfl ?_
      obtain rfl := Option.some.inj hf
      exact E_iret dX0_burden_35 rfl ⟨rfl, rfl, rfl⟩

-- PostRelief$Depot.nextPost(II)I
def f_X0_nextPost (N : Nat) (a1 : Int32) (a2 : Int32) (d_posts : Int32) : Option (Int32) :=
  (if a2 = 1 then (if d_posts ≤ (a1 + 1) then some 0 else some (a1 + 1)) else (if a1 ≤ 0 then some (d_posts - 1) else some (a1 - 1)))
set_option maxHeartbeats 4000000 in
set_option maxRecDepth 100000 in
theorem m_X0_nextPost {γ : GX} {n : Nat} {N : Nat} {h : HP} {a1 : Int32} {a2 : Int32} {d_posts : Int32} {d_sees : FN} {d_cold : FN} {d_men : Int32} {d_debts : FN} {d_on : Int32} {d_stove : Int32} (hH_d : Has n 3 (dpB γ 3 d_posts d_sees d_cold d_men d_debts d_on d_stove) h) {z : Int32} (hf : f_X0_nextPost N a1 a2 d_posts = some z)  : Ct γ M_X0_nextPost n h [.ref (gB γ + 3), .int a1, .int a2] (Done (some (.int z)) n h) := by
  refine Ct_of_Ev (by decide) (fun h => by cases h) (Nat.le_of_ble_eq_true rfl) ?_
  show Ev γ M_X0_nextPost (0, 0) n h [(0, .ref (gB γ + 3)), (1, .int a1), (2, .int a2)] 0 [] _
  unfold f_X0_nextPost at hf
  refine E_iload_n 2 dX0_nextPost_0 (q := 1) rfl rfl rfl ?_
  refine E_iconst (x := 1) dX0_nextPost_1 (q := 2) rfl (by decide) ?_
  refine E_icmp_ne dX0_nextPost_2 (t := 23) (by decide) (q := 5) rfl (fun c1 => ?_) (fun c1 => ?_)
  · have hf := if_f c1 hf
    refine E_iload_n 1 dX0_nextPost_23 (q := 24) rfl rfl rfl ?_
    refine E_if_le dX0_nextPost_24 (t := 33) (by decide) (q := 27) rfl (fun c3 => ?_) (fun c3 => ?_)
    · have hf := if_t c3 hf
      refine E_aload_n 0 dX0_nextPost_33 (q := 34) rfl rfl rfl ?_
      refine E_get 0 dX0_nextPost_34 (q := 37) rfl ckX0 (Nat.le_of_ble_eq_true rfl) fl_X0_28 (hH_d.at 0 rfl) (hH_d.lt 0 (Nat.le_of_ble_eq_true rfl)) rfl ?_
      refine E_iconst (x := 1) dX0_nextPost_37 (q := 38) rfl (by decide) ?_
      refine E_isub dX0_nextPost_38 (q := 39) rfl ?_
      obtain rfl := Option.some.inj hf
      exact E_iret dX0_nextPost_39 rfl ⟨rfl, rfl, rfl⟩
    · have hf := if_f c3 hf
      refine E_iload_n 1 dX0_nextPost_27 (q := 28) rfl rfl rfl ?_
      refine E_iconst (x := 1) dX0_nextPost_28 (q := 29) rfl (by decide) ?_
      refine E_isub dX0_nextPost_29 (q := 30) rfl ?_
      refine E_goto (q := 39) dX0_nextPost_30 (by decide) ?_
      obtain rfl := Option.some.inj hf
      exact E_iret dX0_nextPost_39 rfl ⟨rfl, rfl, rfl⟩
  · have hf := if_t c1 hf
    refine E_iload_n 1 dX0_nextPost_5 (q := 6) rfl rfl rfl ?_
    refine E_iconst (x := 1) dX0_nextPost_6 (q := 7) rfl (by decide) ?_
    refine E_iadd dX0_nextPost_7 (q := 8) rfl ?_
    refine E_aload_n 0 dX0_nextPost_8 (q := 9) rfl rfl rfl ?_
    refine E_get 0 dX0_nextPost_9 (q := 12) rfl ckX0 (Nat.le_of_ble_eq_true rfl) fl_X0_28 (hH_d.at 0 rfl) (hH_d.lt 0 (Nat.le_of_ble_eq_true rfl)) rfl ?_
    refine E_icmp_ge dX0_nextPost_12 (t := 21) (by decide) (q := 15) rfl (fun c2 => ?_) (fun c2 => ?_)
    · have hf := if_t c2 hf
      refine E_iconst (x := 0) dX0_nextPost_21 (q := 22) rfl (by decide) ?_
      obtain rfl := Option.some.inj hf
      exact E_iret dX0_nextPost_22 rfl ⟨rfl, rfl, rfl⟩
    · have hf := if_f c2 hf
      refine E_iload_n 1 dX0_nextPost_15 (q := 16) rfl rfl rfl ?_
      refine E_iconst (x := 1) dX0_nextPost_16 (q := 17) rfl (by decide) ?_
      refine E_iadd dX0_nextPost_17 (q := 18) rfl ?_
      refine E_goto (q := 22) dX0_nextPost_18 (by decide) ?_
      obtain rfl := Option.some.inj hf
      exact E_iret dX0_nextPost_22 rfl ⟨rfl, rfl, rfl⟩

-- PostRelief$Findings.add(III)Z
def f_X1_add (N : Nat) (a1 : Int32) (a2 : Int32) (a3 : Int32) (f_size : Int32) (f_men : FN) (f_hours : FN) (f_asleep : FN) : Option (Int32 × Int32 × FN × FN × FN) :=
  (if f_size < 6 then (if ix f_size 6 = true then some (1, (f_size + 1), (upd f_men (ci f_size) a1), (upd f_hours (ci f_size) a2), (upd f_asleep (ci f_size) a3)) else none) else some (0, f_size, f_men, f_hours, f_asleep))
set_option maxHeartbeats 4000000 in
set_option maxRecDepth 100000 in
theorem m_X1_add {γ : GX} {n : Nat} {N : Nat} {h : HP} {a1 : Int32} {a2 : Int32} {a3 : Int32} {f_size : Int32} {f_men : FN} {f_hours : FN} {f_asleep : FN} (hH_f : Has n 75 (fiB γ 75 f_size f_men f_hours f_asleep) h) {z : Int32 × Int32 × FN × FN × FN} (hf : f_X1_add N a1 a2 a3 f_size f_men f_hours f_asleep = some z)  : Ct γ M_X1_add n h [.ref (gB γ + 75), .int a1, .int a2, .int a3] (Done (some (.int z.1)) n (put 75 (fiB γ 75 z.2.1 z.2.2.1 z.2.2.2.1 z.2.2.2.2) h)) := by
  have hn_f : 75 + 4 ≤ n := hH_f.1
  refine Ct.heap (h := (put 75 (fiB γ 75 f_size f_men f_hours f_asleep) h)) (put_self hH_f).symm ?_
  refine Ct_of_Ev (by decide) (fun h => by cases h) (Nat.le_of_ble_eq_true rfl) ?_
  show Ev γ M_X1_add (0, 0) n (put 75 (fiB γ 75 f_size f_men f_hours f_asleep) h) [(0, .ref (gB γ + 75)), (1, .int a1), (2, .int a2), (3, .int a3)] 0 [] _
  unfold f_X1_add at hf
  refine E_aload_n 0 dX1_add_0 (q := 1) rfl rfl rfl ?_
  have hF1 : Has n 75 (fiB γ 75 f_size f_men f_hours f_asleep) (put 75 (fiB γ 75 f_size f_men f_hours f_asleep) h) := (has_put hn_f)
  refine E_get 0 dX1_add_1 (q := 4) rfl ckX1 (Nat.le_of_ble_eq_true rfl) fl_X1_21 (hF1.at 0 rfl) (hF1.lt 0 (Nat.le_of_ble_eq_true rfl)) rfl ?_
  refine E_bipush (x := 6) dX1_add_4 (q := 6) rfl (by decide) ?_
  refine E_icmp_lt dX1_add_6 (t := 11) (by decide) (q := 9) rfl (fun c2 => ?_) (fun c2 => ?_)
  · have hf := if_t c2 hf
    refine E_aload_n 0 dX1_add_11 (q := 12) rfl rfl rfl ?_
    refine E_get 1 dX1_add_12 (q := 15) rfl ckX1 (Nat.le_of_ble_eq_true rfl) fl_X1_9 (hF1.at 0 rfl) (hF1.lt 0 (Nat.le_of_ble_eq_true rfl)) rfl ?_
    refine E_aload_n 0 dX1_add_15 (q := 16) rfl rfl rfl ?_
    refine E_get 0 dX1_add_16 (q := 19) rfl ckX1 (Nat.le_of_ble_eq_true rfl) fl_X1_21 (hF1.at 0 rfl) (hF1.lt 0 (Nat.le_of_ble_eq_true rfl)) rfl ?_
    refine E_iload_n 1 dX1_add_19 (q := 20) rfl rfl rfl ?_
    obtain ⟨g3, hf⟩ := gd hf
    refine E_iast dX1_add_20 (q := 21) rfl (hF1.at 1 rfl) (hF1.lt 1 (Nat.le_of_ble_eq_true rfl)) g3 (up_put (i := 1) (cs' := (fiB γ 75 f_size (upd f_men (ci f_size) a1) f_hours f_asleep)) (Nat.le_of_ble_eq_true rfl) rfl) ?_
    refine E_aload_n 0 dX1_add_21 (q := 22) rfl rfl rfl ?_
    have hF5 : Has n 75 (fiB γ 75 f_size (upd f_men (ci f_size) a1) f_hours f_asleep) (put 75 (fiB γ 75 f_size (upd f_men (ci f_size) a1) f_hours f_asleep) h) := (has_put hn_f)
    refine E_get 2 dX1_add_22 (q := 25) rfl ckX1 (Nat.le_of_ble_eq_true rfl) fl_X1_15 (hF5.at 0 rfl) (hF5.lt 0 (Nat.le_of_ble_eq_true rfl)) rfl ?_
    refine E_aload_n 0 dX1_add_25 (q := 26) rfl rfl rfl ?_
    refine E_get 0 dX1_add_26 (q := 29) rfl ckX1 (Nat.le_of_ble_eq_true rfl) fl_X1_21 (hF5.at 0 rfl) (hF5.lt 0 (Nat.le_of_ble_eq_true rfl)) rfl ?_
    refine E_iload_n 2 dX1_add_29 (q := 30) rfl rfl rfl ?_
    refine E_iast dX1_add_30 (q := 31) rfl (hF5.at 2 rfl) (hF5.lt 2 (Nat.le_of_ble_eq_true rfl)) g3 (up_put (i := 2) (cs' := (fiB γ 75 f_size (upd f_men (ci f_size) a1) (upd f_hours (ci f_size) a2) f_asleep)) (Nat.le_of_ble_eq_true rfl) rfl) ?_
    refine E_aload_n 0 dX1_add_31 (q := 32) rfl rfl rfl ?_
    have hF7 : Has n 75 (fiB γ 75 f_size (upd f_men (ci f_size) a1) (upd f_hours (ci f_size) a2) f_asleep) (put 75 (fiB γ 75 f_size (upd f_men (ci f_size) a1) (upd f_hours (ci f_size) a2) f_asleep) h) := (has_put hn_f)
    refine E_get 3 dX1_add_32 (q := 35) rfl ckX1 (Nat.le_of_ble_eq_true rfl) fl_X1_18 (hF7.at 0 rfl) (hF7.lt 0 (Nat.le_of_ble_eq_true rfl)) rfl ?_
    refine E_aload_n 0 dX1_add_35 (q := 36) rfl rfl rfl ?_
    refine E_get 0 dX1_add_36 (q := 39) rfl ckX1 (Nat.le_of_ble_eq_true rfl) fl_X1_21 (hF7.at 0 rfl) (hF7.lt 0 (Nat.le_of_ble_eq_true rfl)) rfl ?_
    refine E_iload_n 3 dX1_add_39 (q := 40) rfl rfl rfl ?_
    refine E_iast dX1_add_40 (q := 41) rfl (hF7.at 3 rfl) (hF7.lt 3 (Nat.le_of_ble_eq_true rfl)) g3 (up_put (i := 3) (cs' := (fiB γ 75 f_size (upd f_men (ci f_size) a1) (upd f_hours (ci f_size) a2) (upd f_asleep (ci f_size) a3))) (Nat.le_of_ble_eq_true rfl) rfl) ?_
    refine E_aload_n 0 dX1_add_41 (q := 42) rfl rfl rfl ?_
    refine E_dup dX1_add_42 (q := 43) rfl rfl ?_
    have hF9 : Has n 75 (fiB γ 75 f_size (upd f_men (ci f_size) a1) (upd f_hours (ci f_size) a2) (upd f_asleep (ci f_size) a3)) (put 75 (fiB γ 75 f_size (upd f_men (ci f_size) a1) (upd f_hours (ci f_size) a2) (upd f_asleep (ci f_size) a3)) h) := (has_put hn_f)
    refine E_get 0 dX1_add_43 (q := 46) rfl ckX1 (Nat.le_of_ble_eq_true rfl) fl_X1_21 (hF9.at 0 rfl) (hF9.lt 0 (Nat.le_of_ble_eq_true rfl)) rfl ?_
    refine E_iconst (x := 1) dX1_add_46 (q := 47) rfl (by decide) ?_
    refine E_iadd dX1_add_47 (q := 48) rfl ?_
    refine E_put 0 dX1_add_48 (q := 51) rfl ckX1 (Nat.le_of_ble_eq_true rfl) fl_X1_21 rfl rfl rfl (hF9.at 0 rfl) (hF9.lt 0 (Nat.le_of_ble_eq_true rfl)) (Nat.le_of_ble_eq_true rfl) (up_put (i := 0) (cs' := (fiB γ 75 (f_size + 1) (upd f_men (ci f_size) a1) (upd f_hours (ci f_size) a2) (upd f_asleep (ci f_size) a3))) (Nat.le_of_ble_eq_true rfl) rfl) ?_
    refine E_iconst (x := 1) dX1_add_51 (q := 52) rfl (by decide) ?_
    obtain rfl := Option.some.inj hf
    exact E_zret dX1_add_52 rfl rfl ⟨rfl, rfl, rfl⟩
  · have hf := if_f c2 hf
    refine E_iconst (x := 0) dX1_add_9 (q := 10) rfl (by decide) ?_
    obtain rfl := Option.some.inj hf
    exact E_zret dX1_add_10 rfl rfl ⟨rfl, rfl, rfl⟩

-- PostRelief$Findings.agree(II)Z
def b_X1_agree_1 (N : Nat) (p1 : Int32) (p2 : Int32) (f_size : Int32) (f_men : FN) (f_hours : FN) (f_asleep : FN) (v3 : Int32) : Option ((Int32) ⊕ ((Unit) ⊕ (Int32))) :=
  (if f_size ≤ v3 then some (.inr (.inl ())) else (if ix v3 6 = true then (if (f_men (ci v3)) = p1 then (if ((p2 >>> ((f_hours (ci v3)) &&& 31)) &&& 1) = (f_asleep (ci v3)) then some (.inl (v3 + 1)) else some (.inr (.inr 0))) else some (.inl (v3 + 1))) else none))
def f_X1_agree (N : Nat) (a1 : Int32) (a2 : Int32) (f_size : Int32) (f_men : FN) (f_hours : FN) (f_asleep : FN) : Option (Int32) :=
  ((lp (fun s => b_X1_agree_1 N a1 a2 f_size f_men f_hours f_asleep s) N 0).bind (Sum.elim (fun t6e => some 1) (fun r_ => some r_)))
set_option maxHeartbeats 4000000 in
set_option maxRecDepth 100000 in
theorem L_X1_agree_1 {γ : GX} {n : Nat} {h : HP} {Ψ : PS} {N : Nat} {p1 : Int32} {p2 : Int32} {f_size : Int32} {f_men : FN} {f_hours : FN} {f_asleep : FN} (hH_f : Has n 75 (fiB γ 75 f_size f_men f_hours f_asleep) h) {s0 : Int32} {t : (Unit) ⊕ (Int32)} (hf : lp (fun s => b_X1_agree_1 N p1 p2 f_size f_men f_hours f_asleep s) N s0 = some t) (K : Sum.elim (fun e_ => Ev γ M_X1_agree (0, 0) n h [] 47 [] Ψ) (fun r_ => Ψ (some (.int r_)) n h) t) : Ev γ M_X1_agree (0, 0) n h [(0, .ref (gB γ + 75)), (1, .int p1), (2, .int p2), (3, .int s0)] 2 [] Ψ := by
  refine E_lp (P := fun s => Ev γ M_X1_agree (0, 0) n h [(0, .ref (gB γ + 75)), (1, .int p1), (2, .int p2), (3, .int s)] 2 [] Ψ) (K := fun t => Sum.elim (fun e_ => Ev γ M_X1_agree (0, 0) n h [] 47 [] Ψ) (fun r_ => Ψ (some (.int r_)) n h) t) ?_ N s0 t hf K
  intro s r hf hP hK
  obtain ⟨v3, hs⟩ : ∃ z, z = s := ⟨s, rfl⟩; subst hs
  change b_X1_agree_1 N p1 p2 f_size f_men f_hours f_asleep v3 = some r at hf
  unfold b_X1_agree_1 at hf
  show Ev γ M_X1_agree (0, 0) n h [(0, .ref (gB γ + 75)), (1, .int p1), (2, .int p2), (3, .int v3)] 2 [] Ψ
  refine E_iload_n 3 dX1_agree_2 (q := 3) rfl rfl rfl ?_
  refine E_aload_n 0 dX1_agree_3 (q := 4) rfl rfl rfl ?_
  refine E_get 0 dX1_agree_4 (q := 7) rfl ckX1 (Nat.le_of_ble_eq_true rfl) fl_X1_21 (hH_f.at 0 rfl) (hH_f.lt 0 (Nat.le_of_ble_eq_true rfl)) rfl ?_
  refine E_icmp_ge dX1_agree_7 (t := 47) (by decide) (q := 10) rfl (fun c2 => ?_) (fun c2 => ?_)
  · have hf := if_t c2 hf
    exact E_sub [] rfl (hK _ (Option.some.inj hf).symm)
  · have hf := if_f c2 hf
    refine E_aload_n 0 dX1_agree_10 (q := 11) rfl rfl rfl ?_
    refine E_get 1 dX1_agree_11 (q := 14) rfl ckX1 (Nat.le_of_ble_eq_true rfl) fl_X1_9 (hH_f.at 0 rfl) (hH_f.lt 0 (Nat.le_of_ble_eq_true rfl)) rfl ?_
    refine E_iload_n 3 dX1_agree_14 (q := 15) rfl rfl rfl ?_
    obtain ⟨g3, hf⟩ := gd hf
    refine E_iald dX1_agree_15 (q := 16) rfl (hH_f.at 1 rfl) (hH_f.lt 1 (Nat.le_of_ble_eq_true rfl)) g3 ?_
    refine E_iload_n 1 dX1_agree_16 (q := 17) rfl rfl rfl ?_
    refine E_icmp_ne dX1_agree_17 (t := 41) (by decide) (q := 20) rfl (fun c4 => ?_) (fun c4 => ?_)
    · have hf := if_f c4 hf
      refine E_iinc 3 [(3, .int (v3 + 1)), (0, .ref (gB γ + 75)), (1, .int p1), (2, .int p2)] dX1_agree_41 (q := 44) rfl rfl rfl (Nat.le_of_ble_eq_true rfl) rfl ?_
      refine E_goto (q := 2) dX1_agree_44 (by decide) ?_
      exact E_sub [1, 2, 3, 0] rfl (hP _ (Option.some.inj hf).symm)
    · have hf := if_t c4 hf
      refine E_iload_n 2 dX1_agree_20 (q := 21) rfl rfl rfl ?_
      refine E_aload_n 0 dX1_agree_21 (q := 22) rfl rfl rfl ?_
      refine E_get 2 dX1_agree_22 (q := 25) rfl ckX1 (Nat.le_of_ble_eq_true rfl) fl_X1_15 (hH_f.at 0 rfl) (hH_f.lt 0 (Nat.le_of_ble_eq_true rfl)) rfl ?_
      refine E_iload_n 3 dX1_agree_25 (q := 26) rfl rfl rfl ?_
      refine E_iald dX1_agree_26 (q := 27) rfl (hH_f.at 2 rfl) (hH_f.lt 2 (Nat.le_of_ble_eq_true rfl)) g3 ?_
      refine E_ishr dX1_agree_27 (q := 28) rfl ?_
      refine E_iconst (x := 1) dX1_agree_28 (q := 29) rfl (by decide) ?_
      refine E_iand dX1_agree_29 (q := 30) rfl ?_
      refine E_aload_n 0 dX1_agree_30 (q := 31) rfl rfl rfl ?_
      refine E_get 3 dX1_agree_31 (q := 34) rfl ckX1 (Nat.le_of_ble_eq_true rfl) fl_X1_18 (hH_f.at 0 rfl) (hH_f.lt 0 (Nat.le_of_ble_eq_true rfl)) rfl ?_
      refine E_iload_n 3 dX1_agree_34 (q := 35) rfl rfl rfl ?_
      refine E_iald dX1_agree_35 (q := 36) rfl (hH_f.at 3 rfl) (hH_f.lt 3 (Nat.le_of_ble_eq_true rfl)) g3 ?_
      refine E_icmp_eq dX1_agree_36 (t := 41) (by decide) (q := 39) rfl (fun c5 => ?_) (fun c5 => ?_)
      · have hf := if_t c5 hf
        refine E_iinc 3 [(3, .int (v3 + 1)), (0, .ref (gB γ + 75)), (1, .int p1), (2, .int p2)] dX1_agree_41 (q := 44) rfl rfl rfl (Nat.le_of_ble_eq_true rfl) rfl ?_
        refine E_goto (q := 2) dX1_agree_44 (by decide) ?_
        exact E_sub [1, 2, 3, 0] rfl (hP _ (Option.some.inj hf).symm)
      · have hf := if_f c5 hf
        refine E_iconst (x := 0) dX1_agree_39 (q := 40) rfl (by decide) ?_
        exact E_zret dX1_agree_40 rfl rfl (hK _ (Option.some.inj hf).symm)
set_option maxHeartbeats 4000000 in
set_option maxRecDepth 100000 in
theorem m_X1_agree {γ : GX} {n : Nat} {N : Nat} {h : HP} {a1 : Int32} {a2 : Int32} {f_size : Int32} {f_men : FN} {f_hours : FN} {f_asleep : FN} (hH_f : Has n 75 (fiB γ 75 f_size f_men f_hours f_asleep) h) {z : Int32} (hf : f_X1_agree N a1 a2 f_size f_men f_hours f_asleep = some z)  : Ct γ M_X1_agree n h [.ref (gB γ + 75), .int a1, .int a2] (Done (some (.int z)) n h) := by
  refine Ct_of_Ev (by decide) (fun h => by cases h) (Nat.le_of_ble_eq_true rfl) ?_
  show Ev γ M_X1_agree (0, 0) n h [(0, .ref (gB γ + 75)), (1, .int a1), (2, .int a2)] 0 [] _
  unfold f_X1_agree at hf
  refine E_iconst (x := 0) dX1_agree_0 (q := 1) rfl (by decide) ?_
  refine E_istore_n [(3, .int 0), (0, .ref (gB γ + 75)), (1, .int a1), (2, .int a2)] dX1_agree_1 (q := 2) rfl rfl (Nat.le_of_ble_eq_true rfl) rfl ?_
  obtain ⟨t6, hxt6, hf⟩ := bnd hf
  rcases t6 with t6e | t6r
  · replace hf := sum_l hf
    refine E_sub [1, 2, 3, 0] rfl ?_
    refine L_X1_agree_1 hH_f hxt6 ?_
    show Ev γ M_X1_agree _ n h [] 47 [] _
    refine E_iconst (x := 1) dX1_agree_47 (q := 48) rfl (by decide) ?_
    obtain rfl := Option.some.inj hf
    exact E_zret dX1_agree_48 rfl rfl ⟨rfl, rfl, rfl⟩
  · replace hf := sum_r hf
    obtain rfl := Option.some.inj hf
    refine E_sub [1, 2, 3, 0] rfl ?_
    refine L_X1_agree_1 hH_f hxt6 ?_
    exact ⟨rfl, rfl, rfl⟩
