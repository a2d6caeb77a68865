def M_X6_inHours : MI := (yX6_inHours, cX6_inHours, 6, (some .int), false, 5, 0, 0)
theorem lkm_X6_inHours : LkM M_X6_inHours 3 := ⟨(lg_mem 50 (by decide +kernel) rfl), (lg_mem 493 (by decide +kernel) rfl), ⟨by decide, by decide, by decide +kernel⟩, (Nat.le_of_ble_eq_true rfl)⟩
def M_X6_round : MI := (yX6_round, cX6_round, 7, (some .int), false, 4, 0, 0)
theorem lkm_X6_round : LkM M_X6_round 1 := ⟨(lg_mem 50 (by decide +kernel) rfl), (lg_mem 509 (by decide +kernel) rfl), ⟨by decide, by decide, by decide +kernel⟩, (Nat.le_of_ble_eq_true rfl)⟩
def M_X6_rota : MI := (yX6_rota, cX6_rota, 2, (some .int), false, 11, 0, 0)
theorem lkm_X6_rota : LkM M_X6_rota 1 := ⟨(lg_mem 50 (by decide +kernel) rfl), (lg_mem 517 (by decide +kernel) rfl), ⟨by decide, by decide, by decide +kernel⟩, (Nat.le_of_ble_eq_true rfl)⟩
def M_X6_leave : MI := (yX6_leave, cX6_leave, 3, (some .int), false, 5, 0, 0)
theorem lkm_X6_leave : LkM M_X6_leave 0 := ⟨(lg_mem 50 (by decide +kernel) rfl), (lg_mem 537 (by decide +kernel) rfl), ⟨by decide, by decide, by decide +kernel⟩, (Nat.le_of_ble_eq_true rfl)⟩
def M_X6_two : MI := (yX6_two, cX6_two, 5, (some .int), false, 4, 0, 0)
theorem lkm_X6_two : LkM M_X6_two 0 := ⟨(lg_mem 50 (by decide +kernel) rfl), (lg_mem 547 (by decide +kernel) rfl), ⟨by decide, by decide, by decide +kernel⟩, (Nat.le_of_ble_eq_true rfl)⟩
def M_X6_unseen : MI := (yX6_unseen, cX6_unseen, 4, (some .int), false, 5, 0, 0)
theorem lkm_X6_unseen : LkM M_X6_unseen 2 := ⟨(lg_mem 50 (by decide +kernel) rfl), (lg_mem 555 (by decide +kernel) rfl), ⟨by decide, by decide, by decide +kernel⟩, (Nat.le_of_ble_eq_true rfl)⟩
def M_X6_odds : MI := (yX6_odds, cX6_odds, 8, (some .int), false, 4, 0, 0)
theorem lkm_X6_odds : LkM M_X6_odds 2 := ⟨(lg_mem 50 (by decide +kernel) rfl), (lg_mem 559 (by decide +kernel) rfl), ⟨by decide, by decide, by decide +kernel⟩, (Nat.le_of_ble_eq_true rfl)⟩
def M_X6_creep : MI := (yX6_creep, cX6_creep, 5, (some .int), false, 5, 0, 0)
theorem lkm_X6_creep : LkM M_X6_creep 2 := ⟨(lg_mem 50 (by decide +kernel) rfl), (lg_mem 575 (by decide +kernel) rfl), ⟨by decide, by decide, by decide +kernel⟩, (Nat.le_of_ble_eq_true rfl)⟩
def M_X6_found : MI := (yX6_found, cX6_found, 4, (some .int), false, 3, 0, 0)
theorem lkm_X6_found : LkM M_X6_found 3 := ⟨(lg_mem 50 (by decide +kernel) rfl), (lg_mem 583 (by decide +kernel) rfl), ⟨by decide, by decide, by decide +kernel⟩, (Nat.le_of_ble_eq_true rfl)⟩
def M_X6_forget : MI := (yX6_forget, cX6_forget, 2, (some .int), false, 1, 0, 0)
theorem lkm_X6_forget : LkM M_X6_forget 0 := ⟨(lg_mem 50 (by decide +kernel) rfl), (lg_mem 591 (by decide +kernel) rfl), ⟨by decide, by decide, by decide +kernel⟩, (Nat.le_of_ble_eq_true rfl)⟩
def M_X6_fits : MI := (yX6_fits, cX6_fits, 7, (some .int), false, 3, 0, 0)
theorem lkm_X6_fits : LkM M_X6_fits 2 := ⟨(lg_mem 50 (by decide +kernel) rfl), (lg_mem 595 (by decide +kernel) rfl), ⟨by decide, by decide, by decide +kernel⟩, (Nat.le_of_ble_eq_true rfl)⟩
def M_X6_had : MI := (yX6_had, cX6_had, 3, (some .int), false, 3, 0, 0)
theorem lkm_X6_had : LkM M_X6_had 2 := ⟨(lg_mem 50 (by decide +kernel) rfl), (lg_mem 609 (by decide +kernel) rfl), ⟨by decide, by decide, by decide +kernel⟩, (Nat.le_of_ble_eq_true rfl)⟩
def M_X6_fair : MI := (yX6_fair, cX6_fair, 5, (some .int), false, 2, 0, 0)
theorem lkm_X6_fair : LkM M_X6_fair 0 := ⟨(lg_mem 50 (by decide +kernel) rfl), (lg_mem 613 (by decide +kernel) rfl), ⟨by decide, by decide, by decide +kernel⟩, (Nat.le_of_ble_eq_true rfl)⟩
def M_X6_cow : MI := (yX6_cow, cX6_cow, 6, (some .int), false, 3, 0, 0)
theorem lkm_X6_cow : LkM M_X6_cow 3 := ⟨(lg_mem 50 (by decide +kernel) rfl), (lg_mem 621 (by decide +kernel) rfl), ⟨by decide, by decide, by decide +kernel⟩, (Nat.le_of_ble_eq_true rfl)⟩
def M_X6_rate : MI := (yX6_rate, cX6_rate, 3, (some .int), false, 4, 0, 0)
theorem lkm_X6_rate : LkM M_X6_rate 2 := ⟨(lg_mem 50 (by decide +kernel) rfl), (lg_mem 625 (by decide +kernel) rfl), ⟨by decide, by decide, by decide +kernel⟩, (Nat.le_of_ble_eq_true rfl)⟩
def M_X6_keep : MI := (yX6_keep, cX6_keep, 2, (some .int), false, 2, 0, 0)
theorem lkm_X6_keep : LkM M_X6_keep 1 := ⟨(lg_mem 50 (by decide +kernel) rfl), (lg_mem 659 (by decide +kernel) rfl), ⟨by decide, by decide, by decide +kernel⟩, (Nat.le_of_ble_eq_true rfl)⟩
def M_X6_back : MI := (yX6_back, cX6_back, 2, (some .int), false, 2, 0, 0)
theorem lkm_X6_back : LkM M_X6_back 1 := ⟨(lg_mem 50 (by decide +kernel) rfl), (lg_mem 663 (by decide +kernel) rfl), ⟨by decide, by decide, by decide +kernel⟩, (Nat.le_of_ble_eq_true rfl)⟩
def M_X6_count : MI := (yX6_count, cX6_count, 2, (some .int), false, 1, 0, 0)
theorem lkm_X6_count : LkM M_X6_count 1 := ⟨(lg_mem 50 (by decide +kernel) rfl), (lg_mem 667 (by decide +kernel) rfl), ⟨by decide, by decide, by decide +kernel⟩, (Nat.le_of_ble_eq_true rfl)⟩
def M_X6_trace : MI := (yX6_trace, cX6_trace, 1, (some .long), false, 1, 0, 0)
theorem lkm_X6_trace : LkM M_X6_trace 0 := ⟨(lg_mem 50 (by decide +kernel) rfl), (lg_mem 671 (by decide +kernel) rfl), ⟨by decide, by decide, by decide +kernel⟩, (Nat.le_of_ble_eq_true rfl)⟩
theorem fl_X6_33 : Cond.fieldLink RX6 33 (TX6 4).1 (TX6 4).2.1 (TX6 4).2.2.1 ∈ lw_good := (lg_mem 250 (by decide +kernel) rfl)
theorem lkv_X6_156 : LkV RX6 156 M_X5_become := ⟨(lg_mem 494 (by decide +kernel) rfl), (lg_mem 430 (by decide +kernel) rfl), (lg_mem 431 (by decide +kernel) rfl)⟩
theorem lkv_X6_158 : LkV RX6 158 M_X5_advance := ⟨(lg_mem 495 (by decide +kernel) rfl), (lg_mem 496 (by decide +kernel) rfl), (lg_mem 497 (by decide +kernel) rfl)⟩
theorem lkv_X6_168 : LkV RX6 168 M_X5_greatestDebt := ⟨(lg_mem 502 (by decide +kernel) rfl), (lg_mem 503 (by decide +kernel) rfl), (lg_mem 504 (by decide +kernel) rfl)⟩
theorem lkv_X6_174 : LkV RX6 174 M_X5_debtOnPost := ⟨(lg_mem 510 (by decide +kernel) rfl), (lg_mem 511 (by decide +kernel) rfl), (lg_mem 512 (by decide +kernel) rfl)⟩
theorem fl_X6_61 : Cond.fieldLink RX6 61 (TX6 9).1 (TX6 9).2.1 (TX6 9).2.2.1 ∈ lw_good := (lg_mem 255 (by decide +kernel) rfl)
theorem fl_X6_184 : Cond.fieldLink RX6 184 (TX3 0).1 (TX3 0).2.1 (TX3 0).2.2.1 ∈ lw_good := (lg_mem 232 (by decide +kernel) rfl)
theorem fl_X6_187 : Cond.fieldLink RX6 187 (TX3 1).1 (TX3 1).2.1 (TX3 1).2.2.1 ∈ lw_good := (lg_mem 234 (by decide +kernel) rfl)
theorem lkv_X6_180 : LkV RX6 180 M_X3_search := ⟨(lg_mem 518 (by decide +kernel) rfl), (lg_mem 519 (by decide +kernel) rfl), (lg_mem 520 (by decide +kernel) rfl)⟩
theorem lkv_X6_193 : LkV RX6 193 M_X6_canBeLeft := ⟨(lg_mem 539 (by decide +kernel) rfl), (lg_mem 541 (by decide +kernel) rfl), (lg_mem 14 (by decide +kernel) rfl)⟩
theorem lkv_X6_196 : LkV RX6 196 M_X6_seenOnlyFrom := ⟨(lg_mem 548 (by decide +kernel) rfl), (lg_mem 550 (by decide +kernel) rfl), (lg_mem 15 (by decide +kernel) rfl)⟩
theorem lks_X6_202 : LkS RX6 202 M_X6_weightOfWaking := ⟨(lg_mem 560 (by decide +kernel) rfl), (lg_mem 561 (by decide +kernel) rfl)⟩
theorem lks_X6_209 : LkS RX6 209 M_X6_leastTerms := ⟨(lg_mem 566 (by decide +kernel) rfl), (lg_mem 567 (by decide +kernel) rfl)⟩
theorem lks_X6_212 : LkS RX6 212 M_J6_numberOfTrailingZeros := ⟨(lg_mem 576 (by decide +kernel) rfl), (lg_mem 577 (by decide +kernel) rfl)⟩
theorem lkv_X6_215 : LkV RX6 215 M_X1_add := ⟨(lg_mem 584 (by decide +kernel) rfl), (lg_mem 585 (by decide +kernel) rfl), (lg_mem 586 (by decide +kernel) rfl)⟩
theorem lkv_X6_221 : LkV RX6 221 M_X6_hoursAsleep := ⟨(lg_mem 596 (by decide +kernel) rfl), (lg_mem 598 (by decide +kernel) rfl), (lg_mem 16 (by decide +kernel) rfl)⟩
theorem lkv_X6_224 : LkV RX6 224 M_X1_agree := ⟨(lg_mem 602 (by decide +kernel) rfl), (lg_mem 603 (by decide +kernel) rfl), (lg_mem 604 (by decide +kernel) rfl)⟩
theorem fl_X6_228 : Cond.fieldLink RX6 228 (TX5 4).1 (TX5 4).2.1 (TX5 4).2.2.1 ∈ lw_good := (lg_mem 172 (by decide +kernel) rfl)
theorem lkv_X6_231 : LkV RX6 231 M_X5_coldOf := ⟨(lg_mem 614 (by decide +kernel) rfl), (lg_mem 615 (by decide +kernel) rfl), (lg_mem 616 (by decide +kernel) rfl)⟩
theorem cw_X6_238 : Cond.constant RX6 238 (-1000000) ∈ lw_good := (lg_mem 626 (by decide +kernel) rfl)
theorem lkv_X6_248 : LkV RX6 248 M_X6_rateOfLane := ⟨(lg_mem 641 (by decide +kernel) rfl), (lg_mem 643 (by decide +kernel) rfl), (lg_mem 20 (by decide +kernel) rfl)⟩
theorem lkv_X6_251 : LkV RX6 251 M_X6_rateOfYard := ⟨(lg_mem 646 (by decide +kernel) rfl), (lg_mem 648 (by decide +kernel) rfl), (lg_mem 21 (by decide +kernel) rfl)⟩
theorem lkv_X6_254 : LkV RX6 254 M_X6_rateOfTower := ⟨(lg_mem 651 (by decide +kernel) rfl), (lg_mem 653 (by decide +kernel) rfl), (lg_mem 22 (by decide +kernel) rfl)⟩
theorem fl_X6_43 : Cond.fieldLink RX6 43 (TX6 6).1 (TX6 6).2.1 (TX6 6).2.2.1 ∈ lw_good := (lg_mem 252 (by decide +kernel) rfl)
theorem fl_X6_257 : Cond.fieldLink RX6 257 (TX0 5).1 (TX0 5).2.1 (TX0 5).2.2.1 ∈ lw_good := (lg_mem 132 (by decide +kernel) rfl)
theorem fl_X6_260 : Cond.fieldLink RX6 260 (TX0 6).1 (TX0 6).2.1 (TX0 6).2.2.1 ∈ lw_good := (lg_mem 136 (by decide +kernel) rfl)
-- PostRelief.inHours(III)I
def b_X6_inHours_1 (N : Nat) (p1 : Int32) (p2 : Int32) (p3 : Int32) (d_posts : Int32) (d_cold : FN) (d_men : Int32) (d_on : Int32) (d_stove : Int32) (v4 : Int32) (v5 : Int32) (a_hour : Int32) (a_debts : FN) (a_guards : FN) (a_stood : FN) (a_served : FN) : Option ((Int32 × Int32 × Int32 × FN × FN × FN × FN) ⊕ (Int32 × Int32 × FN × FN × FN × FN)) :=
  (if p1 ≤ v5 then some (.inr (v4, a_hour, a_debts, a_guards, a_stood, a_served)) else ((f_X5_advance N p2 d_posts d_cold d_men d_on d_stove a_hour a_debts a_guards a_stood a_served).bind fun z19 => ((f_X5_sleepingPosts N z19.2.1 z19.2.2.1).bind fun z24 => ((f_J6_bitCount N z24).bind fun z26 => some (.inl ((if v4 < z26 then z26 else v4), (v5 + 1), z19.1, z19.2.1, z19.2.2.1, z19.2.2.2.1, z19.2.2.2.2))))))
def f_X6_inHours (N : Nat) (a1 : Int32) (a2 : Int32) (a3 : Int32) (d_posts : Int32) (d_cold : FN) (d_men : Int32) (d_on : Int32) (d_stove : Int32) (w_hour : Int32) (w_debts : FN) (w_guards : FN) (w_stood : FN) (w_served : FN) (a_hour : Int32) (a_debts : FN) (a_guards : FN) (a_stood : FN) (a_served : FN) : Option (Int32 × Int32 × FN × FN × FN × FN) :=
  ((f_X6_within N a1 0 60).bind fun z1 => (if z1 = 0 then some ((-1), a_hour, a_debts, a_guards, a_stood, a_served) else ((f_X6_within N a2 0 1).bind fun z3 => (if z3 = 0 then some ((-1), a_hour, a_debts, a_guards, a_stood, a_served) else ((f_X6_within N a3 0 2).bind fun z5 => (if z5 = 0 then some ((-1), a_hour, a_debts, a_guards, a_stood, a_served) else ((f_X5_become N a_hour a_debts a_guards a_stood a_served w_hour w_debts w_guards w_stood w_served).bind fun z8 => ((f_X5_sleepingPosts N z8.2.1 z8.2.2.1).bind fun z13 => ((f_J6_bitCount N z13).bind fun z15 => ((lp (fun s => b_X6_inHours_1 N a1 a2 a3 d_posts d_cold d_men d_on d_stove s.1 s.2.1 s.2.2.1 s.2.2.2.1 s.2.2.2.2.1 s.2.2.2.2.2.1 s.2.2.2.2.2.2) N (z15, 0, z8.1, z8.2.1, z8.2.2.1, z8.2.2.2.1, z8.2.2.2.2)).bind fun t27 => (if a3 = 0 then ((f_X5_sleepingPosts N t27.2.2.1 t27.2.2.2.1).bind fun z31 => some (z31, t27.2.1, t27.2.2.1, t27.2.2.2.1, t27.2.2.2.2.1, t27.2.2.2.2.2)) else (if a3 = 1 then some (t27.1, t27.2.1, t27.2.2.1, t27.2.2.2.1, t27.2.2.2.2.1, t27.2.2.2.2.2) else ((f_X5_greatestDebt N d_men t27.2.2.1).bind fun z35 => some (z35, t27.2.1, t27.2.2.1, t27.2.2.2.1, t27.2.2.2.2.1, t27.2.2.2.2.2))))))))))))))
set_option maxHeartbeats 4000000 in
set_option maxRecDepth 100000 in
theorem L_X6_inHours_1 {γ : GX} {n : Nat} {h : HP} {Ψ : PS} {N : Nat} {p1 : Int32} {p2 : Int32} {p3 : Int32} {x_track : Int64} {d_posts : Int32} {d_sees : FN} {d_cold : FN} {d_men : Int32} {d_debts : FN} {d_on : Int32} {d_stove : Int32} {w_hour : Int32} {w_debts : FN} {w_guards : FN} {w_stood : FN} {w_served : FN} (hH_x : Has n 0 (poB γ 0 x_track) h) (hH_d : Has n 3 (dpB γ 3 d_posts d_sees d_cold d_men d_debts d_on d_stove) h) (hH_w : Has n 11 (wtB γ 11 w_hour w_debts w_guards w_stood w_served) h) (hn_a : 16 + 5 ≤ n) {s0 : Int32 × Int32 × Int32 × FN × FN × FN × FN} {t : Int32 × Int32 × FN × FN × FN × FN} (hf : lp (fun s => b_X6_inHours_1 N p1 p2 p3 d_posts d_cold d_men d_on d_stove s.1 s.2.1 s.2.2.1 s.2.2.2.1 s.2.2.2.2.1 s.2.2.2.2.2.1 s.2.2.2.2.2.2) N s0 = some t) (K : Ev γ M_X6_inHours (0, 0) n (put 16 (wtB γ 16 t.2.1 t.2.2.1 t.2.2.2.1 t.2.2.2.2.1 t.2.2.2.2.2) h) [(0, .ref (gB γ + 0)), (3, .int p3), (4, .int t.1)] 97 [] Ψ) : Ev γ M_X6_inHours (0, 0) n (put 16 (wtB γ 16 s0.2.2.1 s0.2.2.2.1 s0.2.2.2.2.1 s0.2.2.2.2.2.1 s0.2.2.2.2.2.2) h) [(0, .ref (gB γ + 0)), (1, .int p1), (2, .int p2), (3, .int p3), (4, .int s0.1), (5, .int s0.2.1)] 56 [] Ψ := by
  refine E_lp (P := fun s => Ev γ M_X6_inHours (0, 0) n (put 16 (wtB γ 16 s.2.2.1 s.2.2.2.1 s.2.2.2.2.1 s.2.2.2.2.2.1 s.2.2.2.2.2.2) h) [(0, .ref (gB γ + 0)), (1, .int p1), (2, .int p2), (3, .int p3), (4, .int s.1), (5, .int s.2.1)] 56 [] Ψ) (K := fun t => Ev γ M_X6_inHours (0, 0) n (put 16 (wtB γ 16 t.2.1 t.2.2.1 t.2.2.2.1 t.2.2.2.2.1 t.2.2.2.2.2) h) [(0, .ref (gB γ + 0)), (3, .int p3), (4, .int t.1)] 97 [] Ψ) ?_ N s0 t hf K
  intro s r hf hP hK
  obtain ⟨v4, v5, a_hour, a_debts, a_guards, a_stood, a_served⟩ := s
  change b_X6_inHours_1 N p1 p2 p3 d_posts d_cold d_men d_on d_stove v4 v5 a_hour a_debts a_guards a_stood a_served = some r at hf
  unfold b_X6_inHours_1 at hf
  show Ev γ M_X6_inHours (0, 0) n (put 16 (wtB γ 16 a_hour a_debts a_guards a_stood a_served) h) [(0, .ref (gB γ + 0)), (1, .int p1), (2, .int p2), (3, .int p3), (4, .int v4), (5, .int v5)] 56 [] Ψ
  refine E_iload 5 dX6_inHours_56 (q := 58) rfl rfl ?_
  refine E_iload_n 1 dX6_inHours_58 (q := 59) rfl rfl rfl ?_
  refine E_icmp_ge dX6_inHours_59 (t := 97) (by decide) (q := 62) rfl (fun c17 => ?_) (fun c17 => ?_)
  · have hf := if_t c17 hf
    exact E_sub [0, 3, 4] rfl (hK _ (Option.some.inj hf).symm)
  · have hf := if_f c17 hf
    refine E_aload_n 0 dX6_inHours_62 (q := 63) rfl rfl rfl ?_
    have hF18 : Has n 0 (poB γ 0 x_track) (put 16 (wtB γ 16 a_hour a_debts a_guards a_stood a_served) h) := (has_out hH_x (Or.inl (Nat.le_of_ble_eq_true rfl)))
    refine E_get 4 dX6_inHours_63 (q := 66) rfl ckX6 (Nat.le_of_ble_eq_true rfl) fl_X6_33 (hF18.at 0 rfl) (hF18.lt 0 (Nat.le_of_ble_eq_true rfl)) rfl ?_
    refine E_aload_n 0 dX6_inHours_66 (q := 67) rfl rfl rfl ?_
    refine E_get 1 dX6_inHours_67 (q := 70) rfl ckX6 (Nat.le_of_ble_eq_true rfl) fl_X6_19 (hF18.at 0 rfl) (hF18.lt 0 (Nat.le_of_ble_eq_true rfl)) rfl ?_
    refine E_iload_n 2 dX6_inHours_70 (q := 71) rfl rfl rfl ?_
    obtain ⟨z19, hxz19, hf⟩ := bnd hf
    have hF20 : Has n 3 (dpB γ 3 d_posts d_sees d_cold d_men d_debts d_on d_stove) (put 16 (wtB γ 16 a_hour a_debts a_guards a_stood a_served) h) := (has_out hH_d (Or.inl (Nat.le_of_ble_eq_true rfl)))
    have hF21 : Has n 16 (wtB γ 16 a_hour a_debts a_guards a_stood a_served) (put 16 (wtB γ 16 a_hour a_debts a_guards a_stood a_served) h) := (has_put hn_a)
    refine E_cV (as := [.ref (gB γ + 3), .int p2]) (k := 16) (rest := []) (u' := (0, 0)) (st' := []) dX6_inHours_71 (q := 74) rfl lkm_X5_advance lkv_X6_158 (Nat.le_of_ble_eq_true rfl) ckX5 (hF21.at 0 rfl) (hF21.lt 0 (Nat.le_of_ble_eq_true rfl)) ⟨Nat.le_refl _, Nat.le_refl _⟩ (Nat.le_of_ble_eq_true rfl) rfl rfl (m_X5_advance (N := N)  (Nat.le_of_ble_eq_true rfl) hF20 hF21 hxz19) rfl rfl rfl ?_
    refine Ev.heap (put_put (k := 16) (cs := (wtB γ 16 a_hour a_debts a_guards a_stood a_served)) (cs' := (wtB γ 16 z19.1 z19.2.1 z19.2.2.1 z19.2.2.2.1 z19.2.2.2.2)) (show (5 : Nat) = 5 from rfl)) ?_
    refine E_iload 4 dX6_inHours_74 (q := 76) rfl rfl ?_
    refine E_aload_n 0 dX6_inHours_76 (q := 77) rfl rfl rfl ?_
    have hF23 : Has n 0 (poB γ 0 x_track) (put 16 (wtB γ 16 z19.1 z19.2.1 z19.2.2.1 z19.2.2.2.1 z19.2.2.2.2) h) := (has_out hH_x (Or.inl (Nat.le_of_ble_eq_true rfl)))
    refine E_get 4 dX6_inHours_77 (q := 80) rfl ckX6 (Nat.le_of_ble_eq_true rfl) fl_X6_33 (hF23.at 0 rfl) (hF23.lt 0 (Nat.le_of_ble_eq_true rfl)) rfl ?_
    obtain ⟨z24, hxz24, hf⟩ := bnd hf
    have hF25 : Has n 16 (wtB γ 16 z19.1 z19.2.1 z19.2.2.1 z19.2.2.2.1 z19.2.2.2.2) (put 16 (wtB γ 16 z19.1 z19.2.1 z19.2.2.1 z19.2.2.2.1 z19.2.2.2.2) h) := (has_put hn_a)
    refine E_cV (as := []) (k := 16) (rest := [.int v4]) (u' := (0, 0)) (st' := [.int z24, .int v4]) dX6_inHours_80 (q := 83) rfl lkm_X5_sleepingPosts lkv_X6_124 (Nat.le_of_ble_eq_true rfl) ckX5 (hF25.at 0 rfl) (hF25.lt 0 (Nat.le_of_ble_eq_true rfl)) ⟨Nat.le_refl _, Nat.le_refl _⟩ (Nat.le_of_ble_eq_true rfl) rfl rfl (m_X5_sleepingPosts (N := N)  (Nat.le_of_ble_eq_true rfl) hF25 hxz24) rfl rfl rfl ?_
    obtain ⟨z26, hxz26, hf⟩ := bnd hf
    refine E_cS (as := [.int z24]) (rest := [.int v4]) (u' := (0, 0)) (st' := [.int z26, .int v4]) dX6_inHours_83 (q := 86) rfl lkm_J6_bitCount lks_X6_141 (Nat.le_of_ble_eq_true rfl) ⟨Nat.le_refl _, Nat.le_refl _⟩ (Nat.le_of_ble_eq_true rfl) rfl rfl (m_J6_bitCount (N := N)  hxz26) rfl rfl rfl ?_
    refine E_max dX6_inHours_86 (q := 89) rfl lkmax_X6_162 st_max in_math co_max (Nat.le_of_ble_eq_true rfl) (Nat.le_of_ble_eq_true rfl) ?_
    refine E_istore [(4, .int (if v4 < z26 then z26 else v4)), (0, .ref (gB γ + 0)), (1, .int p1), (2, .int p2), (3, .int p3), (5, .int v5)] dX6_inHours_89 (q := 91) rfl (Nat.le_of_ble_eq_true rfl) rfl ?_
    refine E_iinc 5 [(5, .int (v5 + 1)), (4, .int (if v4 < z26 then z26 else v4)), (0, .ref (gB γ + 0)), (1, .int p1), (2, .int p2), (3, .int p3)] dX6_inHours_91 (q := 94) rfl rfl rfl (Nat.le_of_ble_eq_true rfl) rfl ?_
    refine E_goto (q := 56) dX6_inHours_94 (by decide) ?_
    exact E_sub [2, 3, 4, 5, 1, 0] rfl (hP _ (Option.some.inj hf).symm)
set_option maxHeartbeats 4000000 in
set_option maxRecDepth 100000 in
theorem m_X6_inHours {γ : GX} {n : Nat} {N : Nat} {h : HP} {a1 : Int32} {a2 : Int32} {a3 : Int32} {x_track : Int64} {d_posts : Int32} {d_sees : FN} {d_cold : FN} {d_men : Int32} {d_debts : FN} {d_on : Int32} {d_stove : Int32} {w_hour : Int32} {w_debts : FN} {w_guards : FN} {w_stood : FN} {w_served : FN} {a_hour : Int32} {a_debts : FN} {a_guards : FN} {a_stood : FN} {a_served : FN} (hH_x : Has n 0 (poB γ 0 x_track) h) (hH_d : Has n 3 (dpB γ 3 d_posts d_sees d_cold d_men d_debts d_on d_stove) h) (hH_w : Has n 11 (wtB γ 11 w_hour w_debts w_guards w_stood w_served) h) (hH_a : Has n 16 (wtB γ 16 a_hour a_debts a_guards a_stood a_served) h) {z : Int32 × Int32 × FN × FN × FN × FN} (hf : f_X6_inHours N a1 a2 a3 d_posts d_cold d_men d_on d_stove w_hour w_debts w_guards w_stood w_served a_hour a_debts a_guards a_stood a_served = some z)  : Ct γ M_X6_inHours n h [.ref (gB γ + 0), .int a1, .int a2, .int a3] (Done (some (.int z.1)) n (put 16 (wtB γ 16 z.2.1 z.2.2.1 z.2.2.2.1 z.2.2.2.2.1 z.2.2.2.2.2) h)) := by
  have hn_a : 16 + 5 ≤ n := hH_a.1
  refine Ct.heap (h := (put 16 (wtB γ 16 a_hour a_debts a_guards a_stood a_served) h)) (put_self hH_a).symm ?_
  refine Ct_of_Ev (by decide) (fun h => by cases h) (Nat.le_of_ble_eq_true rfl) ?_
  show Ev γ M_X6_inHours (0, 0) n (put 16 (wtB γ 16 a_hour a_debts a_guards a_stood a_served) h) [(0, .ref (gB γ + 0)), (1, .int a1), (2, .int a2), (3, .int a3)] 0 [] _
  unfold f_X6_inHours at hf
  refine E_iload_n 1 dX6_inHours_0 (q := 1) rfl rfl rfl ?_
  refine E_iconst (x := 0) dX6_inHours_1 (q := 2) rfl (by decide) ?_
  refine E_bipush (x := 60) dX6_inHours_2 (q := 4) rfl (by decide) ?_
  obtain ⟨z1, hxz1, hf⟩ := bnd hf
  refine E_cS (as := [.int a1, .int 0, .int 60]) (rest := []) (u' := (0, 0)) (st' := [.int z1]) dX6_inHours_4 (q := 7) rfl lkm_X6_within lks_X6_65 (Nat.le_of_ble_eq_true rfl) ⟨Nat.le_refl _, Nat.le_refl _⟩ (Nat.le_of_ble_eq_true rfl) rfl rfl (m_X6_within (N := N)  hxz1) rfl rfl rfl ?_
  refine E_if_eq dX6_inHours_7 (t := 28) (by decide) (q := 10) rfl (fun c2 => ?_) (fun c2 => ?_)
  · have hf := if_t c2 hf
    refine E_iconst (x := (-1)) dX6_inHours_28 (q := 29) rfl (by decide) ?_
    obtain rfl := Option.some.inj hf
    exact E_iret dX6_inHours_29 rfl ⟨rfl, rfl, rfl⟩
  · have hf := if_f c2 hf
    refine E_iload_n 2 dX6_inHours_10 (q := 11) rfl rfl rfl ?_
    refine E_iconst (x := 0) dX6_inHours_11 (q := 12) rfl (by decide) ?_
    refine E_iconst (x := 1) dX6_inHours_12 (q := 13) rfl (by decide) ?_
    obtain ⟨z3, hxz3, hf⟩ := bnd hf
    refine E_cS (as := [.int a2, .int 0, .int 1]) (rest := []) (u' := (0, 0)) (st' := [.int z3]) dX6_inHours_13 (q := 16) rfl lkm_X6_within lks_X6_65 (Nat.le_of_ble_eq_true rfl) ⟨Nat.le_refl _, Nat.le_refl _⟩ (Nat.le_of_ble_eq_true rfl) rfl rfl (m_X6_within (N := N)  hxz3) rfl rfl rfl ?_
    refine E_if_eq dX6_inHours_16 (t := 28) (by decide) (q := 19) rfl (fun c4 => ?_) (fun c4 => ?_)
    · have hf := if_t c4 hf
      refine E_iconst (x := (-1)) dX6_inHours_28 (q := 29) rfl (by decide) ?_
      obtain rfl := Option.some.inj hf
      exact E_iret dX6_inHours_29 rfl ⟨rfl, rfl, rfl⟩
    · have hf := if_f c4 hf
      refine E_iload_n 3 dX6_inHours_19 (q := 20) rfl rfl rfl ?_
      refine E_iconst (x := 0) dX6_inHours_20 (q := 21) rfl (by decide) ?_
      refine E_iconst (x := 2) dX6_inHours_21 (q := 22) rfl (by decide) ?_
      obtain ⟨z5, hxz5, hf⟩ := bnd hf
      refine E_cS (as := [.int a3, .int 0, .int 2]) (rest := []) (u' := (0, 0)) (st' := [.int z5]) dX6_inHours_22 (q := 25) rfl lkm_X6_within lks_X6_65 (Nat.le_of_ble_eq_true rfl) ⟨Nat.le_refl _, Nat.le_refl _⟩ (Nat.le_of_ble_eq_true rfl) rfl rfl (m_X6_within (N := N)  hxz5) rfl rfl rfl ?_
      refine E_if_ne dX6_inHours_25 (t := 30) (by decide) (q := 28) rfl (fun c6 => ?_) (fun c6 => ?_)
      · have hf := if_f c6 hf
        refine E_aload_n 0 dX6_inHours_30 (q := 31) rfl rfl rfl ?_
        have hF7 : Has n 0 (poB γ 0 x_track) (put 16 (wtB γ 16 a_hour a_debts a_guards a_stood a_served) h) := (has_out hH_x (Or.inl (Nat.le_of_ble_eq_true rfl)))
        refine E_get 4 dX6_inHours_31 (q := 34) rfl ckX6 (Nat.le_of_ble_eq_true rfl) fl_X6_33 (hF7.at 0 rfl) (hF7.lt 0 (Nat.le_of_ble_eq_true rfl)) rfl ?_
        refine E_aload_n 0 dX6_inHours_34 (q := 35) rfl rfl rfl ?_
        refine E_get 3 dX6_inHours_35 (q := 38) rfl ckX6 (Nat.le_of_ble_eq_true rfl) fl_X6_29 (hF7.at 0 rfl) (hF7.lt 0 (Nat.le_of_ble_eq_true rfl)) rfl ?_
        obtain ⟨z8, hxz8, hf⟩ := bnd hf
        have hF9 : Has n 16 (wtB γ 16 a_hour a_debts a_guards a_stood a_served) (put 16 (wtB γ 16 a_hour a_debts a_guards a_stood a_served) h) := (has_put hn_a)
        have hF10 : Has n 11 (wtB γ 11 w_hour w_debts w_guards w_stood w_served) (put 16 (wtB γ 16 a_hour a_debts a_guards a_stood a_served) h) := (has_out hH_w (Or.inl (Nat.le_of_ble_eq_true rfl)))
        refine E_cV (as := [.ref (gB γ + 11)]) (k := 16) (rest := []) (u' := (0, 0)) (st' := []) dX6_inHours_38 (q := 41) rfl lkm_X5_become lkv_X6_156 (Nat.le_of_ble_eq_true rfl) ckX5 (hF9.at 0 rfl) (hF9.lt 0 (Nat.le_of_ble_eq_true rfl)) ⟨Nat.le_refl _, Nat.le_refl _⟩ (Nat.le_of_ble_eq_true rfl) rfl rfl (m_X5_become (N := N)  (Nat.le_of_ble_eq_true rfl) (by omega) hF9 hF10 hxz8) rfl rfl rfl ?_
        refine Ev.heap (put_put (k := 16) (cs := (wtB γ 16 a_hour a_debts a_guards a_stood a_served)) (cs' := (wtB γ 16 z8.1 z8.2.1 z8.2.2.1 z8.2.2.2.1 z8.2.2.2.2)) (show (5 : Nat) = 5 from rfl)) ?_
        refine E_aload_n 0 dX6_inHours_41 (q := 42) rfl rfl rfl ?_
        have hF12 : Has n 0 (poB γ 0 x_track) (put 16 (wtB γ 16 z8.1 z8.2.1 z8.2.2.1 z8.2.2.2.1 z8.2.2.2.2) h) := (has_out hH_x (Or.inl (Nat.le_of_ble_eq_true rfl)))
        refine E_get 4 dX6_inHours_42 (q := 45) rfl ckX6 (Nat.le_of_ble_eq_true rfl) fl_X6_33 (hF12.at 0 rfl) (hF12.lt 0 (Nat.le_of_ble_eq_true rfl)) rfl ?_
        obtain ⟨z13, hxz13, hf⟩ := bnd hf
        have hF14 : Has n 16 (wtB γ 16 z8.1 z8.2.1 z8.2.2.1 z8.2.2.2.1 z8.2.2.2.2) (put 16 (wtB γ 16 z8.1 z8.2.1 z8.2.2.1 z8.2.2.2.1 z8.2.2.2.2) h) := (has_put hn_a)
        refine E_cV (as := []) (k := 16) (rest := []) (u' := (0, 0)) (st' := [.int z13]) dX6_inHours_45 (q := 48) rfl lkm_X5_sleepingPosts lkv_X6_124 (Nat.le_of_ble_eq_true rfl) ckX5 (hF14.at 0 rfl) (hF14.lt 0 (Nat.le_of_ble_eq_true rfl)) ⟨Nat.le_refl _, Nat.le_refl _⟩ (Nat.le_of_ble_eq_true rfl) rfl rfl (m_X5_sleepingPosts (N := N)  (Nat.le_of_ble_eq_true rfl) hF14 hxz13) rfl rfl rfl ?_
        obtain ⟨z15, hxz15, hf⟩ := bnd hf
        refine E_cS (as := [.int z13]) (rest := []) (u' := (0, 0)) (st' := [.int z15]) dX6_inHours_48 (q := 51) rfl lkm_J6_bitCount lks_X6_141 (Nat.le_of_ble_eq_true rfl) ⟨Nat.le_refl _, Nat.le_refl _⟩ (Nat.le_of_ble_eq_true rfl) rfl rfl (m_J6_bitCount (N := N)  hxz15) rfl rfl rfl ?_
        refine E_istore [(4, .int z15), (0, .ref (gB γ + 0)), (1, .int a1), (2, .int a2), (3, .int a3)] dX6_inHours_51 (q := 53) rfl (Nat.le_of_ble_eq_true rfl) rfl ?_
        refine E_iconst (x := 0) dX6_inHours_53 (q := 54) rfl (by decide) ?_
        refine E_istore [(5, .int 0), (4, .int z15), (0, .ref (gB γ + 0)), (1, .int a1), (2, .int a2), (3, .int a3)] dX6_inHours_54 (q := 56) rfl (Nat.le_of_ble_eq_true rfl) rfl ?_
        obtain ⟨t27, hxt27, hf⟩ := bnd hf
        refine E_sub [2, 3, 4, 5, 1, 0] rfl ?_
        refine L_X6_inHours_1 hH_x hH_d hH_w hn_a hxt27 ?_
        show Ev γ M_X6_inHours _ n (put 16 (wtB γ 16 t27.2.1 t27.2.2.1 t27.2.2.2.1 t27.2.2.2.2.1 t27.2.2.2.2.2) h) [(0, .ref (gB γ + 0)), (3, .int a3), (4, .int t27.1)] 97 [] _
        refine E_iload_n 1 dX6_inHours_97 (q := 98) rfl rfl rfl ?_
        refine E_if_ne dX6_inHours_98 (t := 109) (by decide) (q := 101) rfl (fun c29 => ?_) (fun c29 => ?_)
        · have hf := if_f c29 hf
          refine E_iload_n 1 dX6_inHours_109 (q := 110) rfl rfl rfl ?_
          refine E_iconst (x := 1) dX6_inHours_110 (q := 111) rfl (by decide) ?_
          refine E_icmp_ne dX6_inHours_111 (t := 119) (by decide) (q := 114) rfl (fun c33 => ?_) (fun c33 => ?_)
          · have hf := if_f c33 hf
            refine E_aload_n 0 dX6_inHours_119 (q := 120) rfl rfl rfl ?_
            have hF34 : Has n 0 (poB γ 0 x_track) (put 16 (wtB γ 16 t27.2.1 t27.2.2.1 t27.2.2.2.1 t27.2.2.2.2.1 t27.2.2.2.2.2) h) := (has_out hH_x (Or.inl (Nat.le_of_ble_eq_true rfl)))
            refine E_get 4 dX6_inHours_120 (q := 123) rfl ckX6 (Nat.le_of_ble_eq_true rfl) fl_X6_33 (hF34.at 0 rfl) (hF34.lt 0 (Nat.le_of_ble_eq_true rfl)) rfl ?_
            refine E_aload_n 0 dX6_inHours_123 (q := 124) rfl rfl rfl ?_
            refine E_get 1 dX6_inHours_124 (q := 127) rfl ckX6 (Nat.le_of_ble_eq_true rfl) fl_X6_19 (hF34.at 0 rfl) (hF34.lt 0 (Nat.le_of_ble_eq_true rfl)) rfl ?_
            obtain ⟨z35, hxz35, hf⟩ := bnd hf
            have hF36 : Has n 3 (dpB γ 3 d_posts d_sees d_cold d_men d_debts d_on d_stove) (put 16 (wtB γ 16 t27.2.1 t27.2.2.1 t27.2.2.2.1 t27.2.2.2.2.1 t27.2.2.2.2.2) h) := (has_out hH_d (Or.inl (Nat.le_of_ble_eq_true rfl)))
            have hF37 : Has n 16 (wtB γ 16 t27.2.1 t27.2.2.1 t27.2.2.2.1 t27.2.2.2.2.1 t27.2.2.2.2.2) (put 16 (wtB γ 16 t27.2.1 t27.2.2.1 t27.2.2.2.1 t27.2.2.2.2.1 t27.2.2.2.2.2) h) := (has_put hn_a)
            refine E_cV (as := [.ref (gB γ + 3)]) (k := 16) (rest := []) (u' := (0, 0)) (st' := [.int z35]) dX6_inHours_127 (q := 130) rfl lkm_X5_greatestDebt lkv_X6_168 (Nat.le_of_ble_eq_true rfl) ckX5 (hF37.at 0 rfl) (hF37.lt 0 (Nat.le_of_ble_eq_true rfl)) ⟨Nat.le_refl _, Nat.le_refl _⟩ (Nat.le_of_ble_eq_true rfl) rfl rfl (m_X5_greatestDebt (N := N)  (Nat.le_of_ble_eq_true rfl) hF36 hF37 hxz35) rfl rfl rfl ?_
            obtain rfl := Option.some.inj hf
            exact E_iret dX6_inHours_130 rfl ⟨rfl, rfl, rfl⟩
          · have hf := if_t c33 hf
            refine E_iload 2 dX6_inHours_114 (q := 116) rfl rfl ?_
            refine E_goto (q := 130) dX6_inHours_116 (by decide) ?_
            obtain rfl := Option.some.inj hf
            exact E_iret dX6_inHours_130 rfl ⟨rfl, rfl, rfl⟩
        · have hf := if_t c29 hf
          refine E_aload_n 0 dX6_inHours_101 (q := 102) rfl rfl rfl ?_
          have hF30 : Has n 0 (poB γ 0 x_track) (put 16 (wtB γ 16 t27.2.1 t27.2.2.1 t27.2.2.2.1 t27.2.2.2.2.1 t27.2.2.2.2.2) h) := (has_out hH_x (Or.inl (Nat.le_of_ble_eq_true rfl)))
          refine E_get 4 dX6_inHours_102 (q := 105) rfl ckX6 (Nat.le_of_ble_eq_true rfl) fl_X6_33 (hF30.at 0 rfl) (hF30.lt 0 (Nat.le_of_ble_eq_true rfl)) rfl ?_
          obtain ⟨z31, hxz31, hf⟩ := bnd hf
          have hF32 : Has n 16 (wtB γ 16 t27.2.1 t27.2.2.1 t27.2.2.2.1 t27.2.2.2.2.1 t27.2.2.2.2.2) (put 16 (wtB γ 16 t27.2.1 t27.2.2.1 t27.2.2.2.1 t27.2.2.2.2.1 t27.2.2.2.2.2) h) := (has_put hn_a)
          refine E_cV (as := []) (k := 16) (rest := []) (u' := (0, 0)) (st' := [.int z31]) dX6_inHours_105 (q := 108) rfl lkm_X5_sleepingPosts lkv_X6_124 (Nat.le_of_ble_eq_true rfl) ckX5 (hF32.at 0 rfl) (hF32.lt 0 (Nat.le_of_ble_eq_true rfl)) ⟨Nat.le_refl _, Nat.le_refl _⟩ (Nat.le_of_ble_eq_true rfl) rfl rfl (m_X5_sleepingPosts (N := N)  (Nat.le_of_ble_eq_true rfl) hF32 hxz31) rfl rfl rfl ?_
          obtain rfl := Option.some.inj hf
          exact E_iret dX6_inHours_108 rfl ⟨rfl, rfl, rfl⟩
      · have hf := if_t c6 hf
        refine E_iconst (x := (-1)) dX6_inHours_28 (q := 29) rfl (by decide) ?_
        obtain rfl := Option.some.inj hf
        exact E_iret dX6_inHours_29 rfl ⟨rfl, rfl, rfl⟩

-- PostRelief.round(I)I
def b_X6_round_2 (N : Nat) (p1 : Int32) (p4 : Int32) (d_posts : Int32) (d_men : Int32) (d_on : Int32) (w_hour : Int32) (w_debts : FN) (w_guards : FN) (w_stood : FN) (w_served : FN) (v2 : Int32) (v3 : Int32) (v5 : Int32) (a_hour : Int32) (a_debts : FN) (a_guards : FN) (a_stood : FN) (a_served : FN) : Option ((Int32 × Int32 × Int32 × Int32 × FN × FN × FN × FN) ⊕ (Int32 × Int32 × Int32 × FN × FN × FN × FN)) :=
  (if d_posts ≤ v5 then some (.inr (v2, v3, a_hour, a_debts, a_guards, a_stood, a_served)) else ((f_X5_become N a_hour a_debts a_guards a_stood a_served w_hour w_debts w_guards w_stood w_served).bind fun z9 => ((f_X5_bringRelief N v5 p4 d_posts d_men d_on z9.2.1 z9.2.2.1 z9.2.2.2.1).bind fun z14 => ((f_X5_debtOnPost N z9.2.1 z14.2.1).bind fun z19 => (if v2 = (-9) then some (.inl (((10 * p4) + v5), z19, (v5 + 1), z9.1, z9.2.1, z14.2.1, z14.2.2, z9.2.2.2.2)) else (if v3 ≤ z19 then some (.inl (v2, v3, (v5 + 1), z9.1, z9.2.1, z14.2.1, z14.2.2, z9.2.2.2.2)) else some (.inl (((10 * p4) + v5), z19, (v5 + 1), z9.1, z9.2.1, z14.2.1, z14.2.2, z9.2.2.2.2))))))))
def b_X6_round_1 (N : Nat) (p1 : Int32) (d_posts : Int32) (d_men : Int32) (d_on : Int32) (w_hour : Int32) (w_debts : FN) (w_guards : FN) (w_stood : FN) (w_served : FN) (v2 : Int32) (v3 : Int32) (v4 : Int32) (a_hour : Int32) (a_debts : FN) (a_guards : FN) (a_stood : FN) (a_served : FN) : Option ((Int32 × Int32 × Int32 × Int32 × FN × FN × FN × FN) ⊕ (Int32 × Int32 × Int32 × FN × FN × FN × FN)) :=
  (if v4 < 0 then some (.inr (v2, v3, a_hour, a_debts, a_guards, a_stood, a_served)) else ((lp (fun s => b_X6_round_2 N p1 v4 d_posts d_men d_on w_hour w_debts w_guards w_stood w_served s.1 s.2.1 s.2.2.1 s.2.2.2.1 s.2.2.2.2.1 s.2.2.2.2.2.1 s.2.2.2.2.2.2.1 s.2.2.2.2.2.2.2) N (v2, v3, 0, a_hour, a_debts, a_guards, a_stood, a_served)).bind fun t23 => ((some (v4 + (-1))).bind fun y25 => some (.inl (t23.1, t23.2.1, y25, t23.2.2.1, t23.2.2.2.1, t23.2.2.2.2.1, t23.2.2.2.2.2.1, t23.2.2.2.2.2.2)))))
def f_X6_round (N : Nat) (a1 : Int32) (d_posts : Int32) (d_men : Int32) (d_on : Int32) (w_hour : Int32) (w_debts : FN) (w_guards : FN) (w_stood : FN) (w_served : FN) (a_hour : Int32) (a_debts : FN) (a_guards : FN) (a_stood : FN) (a_served : FN) : Option (Int32 × Int32 × FN × FN × FN × FN) :=
  ((f_X6_within N a1 0 1).bind fun z1 => (if z1 = 0 then some ((-1), a_hour, a_debts, a_guards, a_stood, a_served) else ((lp (fun s => b_X6_round_1 N a1 d_posts d_men d_on w_hour w_debts w_guards w_stood w_served s.1 s.2.1 s.2.2.1 s.2.2.2.1 s.2.2.2.2.1 s.2.2.2.2.2.1 s.2.2.2.2.2.2.1 s.2.2.2.2.2.2.2) N ((-9), (-9), 1, a_hour, a_debts, a_guards, a_stood, a_served)).bind fun t26 => (if a1 = 0 then some (t26.1, t26.2.2.1, t26.2.2.2.1, t26.2.2.2.2.1, t26.2.2.2.2.2.1, t26.2.2.2.2.2.2) else some (t26.2.1, t26.2.2.1, t26.2.2.2.1, t26.2.2.2.2.1, t26.2.2.2.2.2.1, t26.2.2.2.2.2.2)))))
set_option maxHeartbeats 4000000 in
set_option maxRecDepth 100000 in
theorem L_X6_round_2 {γ : GX} {n : Nat} {h : HP} {Ψ : PS} {N : Nat} {p1 : Int32} {p4 : Int32} {x_track : Int64} {d_posts : Int32} {d_sees : FN} {d_cold : FN} {d_men : Int32} {d_debts : FN} {d_on : Int32} {d_stove : Int32} {w_hour : Int32} {w_debts : FN} {w_guards : FN} {w_stood : FN} {w_served : FN} (hH_x : Has n 0 (poB γ 0 x_track) h) (hH_d : Has n 3 (dpB γ 3 d_posts d_sees d_cold d_men d_debts d_on d_stove) h) (hH_w : Has n 11 (wtB γ 11 w_hour w_debts w_guards w_stood w_served) h) (hn_a : 16 + 5 ≤ n) {s0 : Int32 × Int32 × Int32 × Int32 × FN × FN × FN × FN} {t : Int32 × Int32 × Int32 × FN × FN × FN × FN} (hf : lp (fun s => b_X6_round_2 N p1 p4 d_posts d_men d_on w_hour w_debts w_guards w_stood w_served s.1 s.2.1 s.2.2.1 s.2.2.2.1 s.2.2.2.2.1 s.2.2.2.2.2.1 s.2.2.2.2.2.2.1 s.2.2.2.2.2.2.2) N s0 = some t) (K : Ev γ M_X6_round (0, 0) n (put 16 (wtB γ 16 t.2.2.1 t.2.2.2.1 t.2.2.2.2.1 t.2.2.2.2.2.1 t.2.2.2.2.2.2) h) [(0, .ref (gB γ + 0)), (1, .int p1), (2, .int t.1), (3, .int t.2.1), (4, .int p4)] 106 [] Ψ) : Ev γ M_X6_round (0, 0) n (put 16 (wtB γ 16 s0.2.2.2.1 s0.2.2.2.2.1 s0.2.2.2.2.2.1 s0.2.2.2.2.2.2.1 s0.2.2.2.2.2.2.2) h) [(0, .ref (gB γ + 0)), (1, .int p1), (2, .int s0.1), (3, .int s0.2.1), (4, .int p4), (5, .int s0.2.2.1)] 28 [] Ψ := by
  refine E_lp (P := fun s => Ev γ M_X6_round (0, 0) n (put 16 (wtB γ 16 s.2.2.2.1 s.2.2.2.2.1 s.2.2.2.2.2.1 s.2.2.2.2.2.2.1 s.2.2.2.2.2.2.2) h) [(0, .ref (gB γ + 0)), (1, .int p1), (2, .int s.1), (3, .int s.2.1), (4, .int p4), (5, .int s.2.2.1)] 28 [] Ψ) (K := fun t => Ev γ M_X6_round (0, 0) n (put 16 (wtB γ 16 t.2.2.1 t.2.2.2.1 t.2.2.2.2.1 t.2.2.2.2.2.1 t.2.2.2.2.2.2) h) [(0, .ref (gB γ + 0)), (1, .int p1), (2, .int t.1), (3, .int t.2.1), (4, .int p4)] 106 [] Ψ) ?_ N s0 t hf K
  intro s r hf hP hK
  obtain ⟨v2, v3, v5, a_hour, a_debts, a_guards, a_stood, a_served⟩ := s
  change b_X6_round_2 N p1 p4 d_posts d_men d_on w_hour w_debts w_guards w_stood w_served v2 v3 v5 a_hour a_debts a_guards a_stood a_served = some r at hf
  unfold b_X6_round_2 at hf
  show Ev γ M_X6_round (0, 0) n (put 16 (wtB γ 16 a_hour a_debts a_guards a_stood a_served) h) [(0, .ref (gB γ + 0)), (1, .int p1), (2, .int v2), (3, .int v3), (4, .int p4), (5, .int v5)] 28 [] Ψ
  refine E_iload 5 dX6_round_28 (q := 30) rfl rfl ?_
  refine E_aload_n 0 dX6_round_30 (q := 31) rfl rfl rfl ?_
  have hF6 : Has n 0 (poB γ 0 x_track) (put 16 (wtB γ 16 a_hour a_debts a_guards a_stood a_served) h) := (has_out hH_x (Or.inl (Nat.le_of_ble_eq_true rfl)))
  refine E_get 1 dX6_round_31 (q := 34) rfl ckX6 (Nat.le_of_ble_eq_true rfl) fl_X6_19 (hF6.at 0 rfl) (hF6.lt 0 (Nat.le_of_ble_eq_true rfl)) rfl ?_
  have hF7 : Has n 3 (dpB γ 3 d_posts d_sees d_cold d_men d_debts d_on d_stove) (put 16 (wtB γ 16 a_hour a_debts a_guards a_stood a_served) h) := (has_out hH_d (Or.inl (Nat.le_of_ble_eq_true rfl)))
  refine E_get 0 dX6_round_34 (q := 37) rfl ckX0 (Nat.le_of_ble_eq_true rfl) fl_X6_171 (hF7.at 0 rfl) (hF7.lt 0 (Nat.le_of_ble_eq_true rfl)) rfl ?_
  refine E_icmp_ge dX6_round_37 (t := 106) (by decide) (q := 40) rfl (fun c8 => ?_) (fun c8 => ?_)
  · have hf := if_t c8 hf
    exact E_sub [0, 1, 2, 3, 4] rfl (hK _ (Option.some.inj hf).symm)
  · have hf := if_f c8 hf
    refine E_aload_n 0 dX6_round_40 (q := 41) rfl rfl rfl ?_
    refine E_get 4 dX6_round_41 (q := 44) rfl ckX6 (Nat.le_of_ble_eq_true rfl) fl_X6_33 (hF6.at 0 rfl) (hF6.lt 0 (Nat.le_of_ble_eq_true rfl)) rfl ?_
    refine E_aload_n 0 dX6_round_44 (q := 45) rfl rfl rfl ?_
    refine E_get 3 dX6_round_45 (q := 48) rfl ckX6 (Nat.le_of_ble_eq_true rfl) fl_X6_29 (hF6.at 0 rfl) (hF6.lt 0 (Nat.le_of_ble_eq_true rfl)) rfl ?_
    obtain ⟨z9, hxz9, hf⟩ := bnd hf
    have hF10 : Has n 16 (wtB γ 16 a_hour a_debts a_guards a_stood a_served) (put 16 (wtB γ 16 a_hour a_debts a_guards a_stood a_served) h) := (has_put hn_a)
    have hF11 : Has n 11 (wtB γ 11 w_hour w_debts w_guards w_stood w_served) (put 16 (wtB γ 16 a_hour a_debts a_guards a_stood a_served) h) := (has_out hH_w (Or.inl (Nat.le_of_ble_eq_true rfl)))
    refine E_cV (as := [.ref (gB γ + 11)]) (k := 16) (rest := []) (u' := (0, 0)) (st' := []) dX6_round_48 (q := 51) rfl lkm_X5_become lkv_X6_156 (Nat.le_of_ble_eq_true rfl) ckX5 (hF10.at 0 rfl) (hF10.lt 0 (Nat.le_of_ble_eq_true rfl)) ⟨Nat.le_refl _, Nat.le_refl _⟩ (Nat.le_of_ble_eq_true rfl) rfl rfl (m_X5_become (N := N)  (Nat.le_of_ble_eq_true rfl) (by omega) hF10 hF11 hxz9) rfl rfl rfl ?_
    refine Ev.heap (put_put (k := 16) (cs := (wtB γ 16 a_hour a_debts a_guards a_stood a_served)) (cs' := (wtB γ 16 z9.1 z9.2.1 z9.2.2.1 z9.2.2.2.1 z9.2.2.2.2)) (show (5 : Nat) = 5 from rfl)) ?_
    refine E_aload_n 0 dX6_round_51 (q := 52) rfl rfl rfl ?_
    have hF13 : Has n 0 (poB γ 0 x_track) (put 16 (wtB γ 16 z9.1 z9.2.1 z9.2.2.1 z9.2.2.2.1 z9.2.2.2.2) h) := (has_out hH_x (Or.inl (Nat.le_of_ble_eq_true rfl)))
    refine E_get 4 dX6_round_52 (q := 55) rfl ckX6 (Nat.le_of_ble_eq_true rfl) fl_X6_33 (hF13.at 0 rfl) (hF13.lt 0 (Nat.le_of_ble_eq_true rfl)) rfl ?_
    refine E_aload_n 0 dX6_round_55 (q := 56) rfl rfl rfl ?_
    refine E_get 1 dX6_round_56 (q := 59) rfl ckX6 (Nat.le_of_ble_eq_true rfl) fl_X6_19 (hF13.at 0 rfl) (hF13.lt 0 (Nat.le_of_ble_eq_true rfl)) rfl ?_
    refine E_iload 5 dX6_round_59 (q := 61) rfl rfl ?_
    refine E_iload 4 dX6_round_61 (q := 63) rfl rfl ?_
    obtain ⟨z14, hxz14, hf⟩ := bnd hf
    have hF15 : Has n 3 (dpB γ 3 d_posts d_sees d_cold d_men d_debts d_on d_stove) (put 16 (wtB γ 16 z9.1 z9.2.1 z9.2.2.1 z9.2.2.2.1 z9.2.2.2.2) h) := (has_out hH_d (Or.inl (Nat.le_of_ble_eq_true rfl)))
    have hF16 : Has n 16 (wtB γ 16 z9.1 z9.2.1 z9.2.2.1 z9.2.2.2.1 z9.2.2.2.2) (put 16 (wtB γ 16 z9.1 z9.2.1 z9.2.2.1 z9.2.2.2.1 z9.2.2.2.2) h) := (has_put hn_a)
    refine E_cV (as := [.ref (gB γ + 3), .int v5, .int p4]) (k := 16) (rest := []) (u' := (0, 0)) (st' := [.int z14.1]) dX6_round_63 (q := 66) rfl lkm_X5_bringRelief lkv_X6_149 (Nat.le_of_ble_eq_true rfl) ckX5 (hF16.at 0 rfl) (hF16.lt 0 (Nat.le_of_ble_eq_true rfl)) ⟨Nat.le_refl _, Nat.le_refl _⟩ (Nat.le_of_ble_eq_true rfl) rfl rfl (m_X5_bringRelief (N := N)  (Nat.le_of_ble_eq_true rfl) hF15 hF16 hxz14) rfl rfl rfl ?_
    refine Ev.heap (put_put (k := 16) (cs := (wtB γ 16 z9.1 z9.2.1 z9.2.2.1 z9.2.2.2.1 z9.2.2.2.2)) (cs' := (wtB γ 16 z9.1 z9.2.1 z14.2.1 z14.2.2 z9.2.2.2.2)) (show (5 : Nat) = 5 from rfl)) ?_
    refine E_pop dX6_round_66 (q := 67) rfl rfl ?_
    refine E_aload_n 0 dX6_round_67 (q := 68) rfl rfl rfl ?_
    have hF18 : Has n 0 (poB γ 0 x_track) (put 16 (wtB γ 16 z9.1 z9.2.1 z14.2.1 z14.2.2 z9.2.2.2.2) h) := (has_out hH_x (Or.inl (Nat.le_of_ble_eq_true rfl)))
    refine E_get 4 dX6_round_68 (q := 71) rfl ckX6 (Nat.le_of_ble_eq_true rfl) fl_X6_33 (hF18.at 0 rfl) (hF18.lt 0 (Nat.le_of_ble_eq_true rfl)) rfl ?_
    obtain ⟨z19, hxz19, hf⟩ := bnd hf
    have hF20 : Has n 16 (wtB γ 16 z9.1 z9.2.1 z14.2.1 z14.2.2 z9.2.2.2.2) (put 16 (wtB γ 16 z9.1 z9.2.1 z14.2.1 z14.2.2 z9.2.2.2.2) h) := (has_put hn_a)
    refine E_cV (as := []) (k := 16) (rest := []) (u' := (0, 0)) (st' := [.int z19]) dX6_round_71 (q := 74) rfl lkm_X5_debtOnPost lkv_X6_174 (Nat.le_of_ble_eq_true rfl) ckX5 (hF20.at 0 rfl) (hF20.lt 0 (Nat.le_of_ble_eq_true rfl)) ⟨Nat.le_refl _, Nat.le_refl _⟩ (Nat.le_of_ble_eq_true rfl) rfl rfl (m_X5_debtOnPost (N := N)  (Nat.le_of_ble_eq_true rfl) hF20 hxz19) rfl rfl rfl ?_
    refine E_istore [(6, .int z19), (0, .ref (gB γ + 0)), (1, .int p1), (2, .int v2), (3, .int v3), (4, .int p4), (5, .int v5)] dX6_round_74 (q := 76) rfl (Nat.le_of_ble_eq_true rfl) rfl ?_
    refine E_iload_n 3 dX6_round_76 (q := 77) rfl rfl rfl ?_
    refine E_bipush (x := (-9)) dX6_round_77 (q := 79) rfl (by decide) ?_
    refine E_icmp_eq dX6_round_79 (t := 88) (by decide) (q := 82) rfl (fun c21 => ?_) (fun c21 => ?_)
    · have hf := if_t c21 hf
      refine E_bipush (x := 10) dX6_round_88 (q := 90) rfl (by decide) ?_
      refine E_iload 5 dX6_round_90 (q := 92) rfl rfl ?_
      refine E_imul dX6_round_92 (q := 93) rfl ?_
      refine E_iload 6 dX6_round_93 (q := 95) rfl rfl ?_
      refine E_iadd dX6_round_95 (q := 96) rfl ?_
      refine E_istore_n [(2, .int ((10 * p4) + v5)), (6, .int z19), (0, .ref (gB γ + 0)), (1, .int p1), (3, .int v3), (4, .int p4), (5, .int v5)] dX6_round_96 (q := 97) rfl rfl (Nat.le_of_ble_eq_true rfl) rfl ?_
      refine E_iload 1 dX6_round_97 (q := 99) rfl rfl ?_
      refine E_istore_n [(3, .int z19), (2, .int ((10 * p4) + v5)), (6, .int z19), (0, .ref (gB γ + 0)), (1, .int p1), (4, .int p4), (5, .int v5)] dX6_round_99 (q := 100) rfl rfl (Nat.le_of_ble_eq_true rfl) rfl ?_
      refine E_iinc 6 [(5, .int (v5 + 1)), (3, .int z19), (2, .int ((10 * p4) + v5)), (6, .int z19), (0, .ref (gB γ + 0)), (1, .int p1), (4, .int p4)] dX6_round_100 (q := 103) rfl rfl rfl (Nat.le_of_ble_eq_true rfl) rfl ?_
      refine E_goto (q := 28) dX6_round_103 (by decide) ?_
      exact E_sub [4, 5, 2, 1, 6, 0] rfl (hP _ (Option.some.inj hf).symm)
    · have hf := if_f c21 hf
      refine E_iload 0 dX6_round_82 (q := 84) rfl rfl ?_
      refine E_iload_n 4 dX6_round_84 (q := 85) rfl rfl rfl ?_
      refine E_icmp_ge dX6_round_85 (t := 100) (by decide) (q := 88) rfl (fun c22 => ?_) (fun c22 => ?_)
      · have hf := if_t c22 hf
        refine E_iinc 6 [(5, .int (v5 + 1)), (6, .int z19), (0, .ref (gB γ + 0)), (1, .int p1), (2, .int v2), (3, .int v3), (4, .int p4)] dX6_round_100 (q := 103) rfl rfl rfl (Nat.le_of_ble_eq_true rfl) rfl ?_
        refine E_goto (q := 28) dX6_round_103 (by decide) ?_
        exact E_sub [2, 3, 4, 5, 6, 0] rfl (hP _ (Option.some.inj hf).symm)
      · have hf := if_f c22 hf
        refine E_bipush (x := 10) dX6_round_88 (q := 90) rfl (by decide) ?_
        refine E_iload 5 dX6_round_90 (q := 92) rfl rfl ?_
        refine E_imul dX6_round_92 (q := 93) rfl ?_
        refine E_iload 6 dX6_round_93 (q := 95) rfl rfl ?_
        refine E_iadd dX6_round_95 (q := 96) rfl ?_
        refine E_istore_n [(2, .int ((10 * p4) + v5)), (6, .int z19), (0, .ref (gB γ + 0)), (1, .int p1), (3, .int v3), (4, .int p4), (5, .int v5)] dX6_round_96 (q := 97) rfl rfl (Nat.le_of_ble_eq_true rfl) rfl ?_
        refine E_iload 1 dX6_round_97 (q := 99) rfl rfl ?_
        refine E_istore_n [(3, .int z19), (2, .int ((10 * p4) + v5)), (6, .int z19), (0, .ref (gB γ + 0)), (1, .int p1), (4, .int p4), (5, .int v5)] dX6_round_99 (q := 100) rfl rfl (Nat.le_of_ble_eq_true rfl) rfl ?_
        refine E_iinc 6 [(5, .int (v5 + 1)), (3, .int z19), (2, .int ((10 * p4) + v5)), (6, .int z19), (0, .ref (gB γ + 0)), (1, .int p1), (4, .int p4)] dX6_round_100 (q := 103) rfl rfl rfl (Nat.le_of_ble_eq_true rfl) rfl ?_
        refine E_goto (q := 28) dX6_round_103 (by decide) ?_
        exact E_sub [4, 5, 2, 1, 6, 0] rfl (hP _ (Option.some.inj hf).symm)
set_option maxHeartbeats 4000000 in
set_option maxRecDepth 100000 in
theorem L_X6_round_1 {γ : GX} {n : Nat} {h : HP} {Ψ : PS} {N : Nat} {p1 : Int32} {x_track : Int64} {d_posts : Int32} {d_sees : FN} {d_cold : FN} {d_men : Int32} {d_debts : FN} {d_on : Int32} {d_stove : Int32} {w_hour : Int32} {w_debts : FN} {w_guards : FN} {w_stood : FN} {w_served : FN} (hH_x : Has n 0 (poB γ 0 x_track) h) (hH_d : Has n 3 (dpB γ 3 d_posts d_sees d_cold d_men d_debts d_on d_stove) h) (hH_w : Has n 11 (wtB γ 11 w_hour w_debts w_guards w_stood w_served) h) (hn_a : 16 + 5 ≤ n) {s0 : Int32 × Int32 × Int32 × Int32 × FN × FN × FN × FN} {t : Int32 × Int32 × Int32 × FN × FN × FN × FN} (hf : lp (fun s => b_X6_round_1 N p1 d_posts d_men d_on w_hour w_debts w_guards w_stood w_served s.1 s.2.1 s.2.2.1 s.2.2.2.1 s.2.2.2.2.1 s.2.2.2.2.2.1 s.2.2.2.2.2.2.1 s.2.2.2.2.2.2.2) N s0 = some t) (K : Ev γ M_X6_round (0, 0) n (put 16 (wtB γ 16 t.2.2.1 t.2.2.2.1 t.2.2.2.2.1 t.2.2.2.2.2.1 t.2.2.2.2.2.2) h) [(1, .int p1), (2, .int t.1), (3, .int t.2.1)] 112 [] Ψ) : Ev γ M_X6_round (0, 0) n (put 16 (wtB γ 16 s0.2.2.2.1 s0.2.2.2.2.1 s0.2.2.2.2.2.1 s0.2.2.2.2.2.2.1 s0.2.2.2.2.2.2.2) h) [(0, .ref (gB γ + 0)), (1, .int p1), (2, .int s0.1), (3, .int s0.2.1), (4, .int s0.2.2.1)] 20 [] Ψ := by
  refine E_lp (P := fun s => Ev γ M_X6_round (0, 0) n (put 16 (wtB γ 16 s.2.2.2.1 s.2.2.2.2.1 s.2.2.2.2.2.1 s.2.2.2.2.2.2.1 s.2.2.2.2.2.2.2) h) [(0, .ref (gB γ + 0)), (1, .int p1), (2, .int s.1), (3, .int s.2.1), (4, .int s.2.2.1)] 20 [] Ψ) (K := fun t => Ev γ M_X6_round (0, 0) n (put 16 (wtB γ 16 t.2.2.1 t.2.2.2.1 t.2.2.2.2.1 t.2.2.2.2.2.1 t.2.2.2.2.2.2) h) [(1, .int p1), (2, .int t.1), (3, .int t.2.1)] 112 [] Ψ) ?_ N s0 t hf K
  intro s r hf hP hK
  obtain ⟨v2, v3, v4, a_hour, a_debts, a_guards, a_stood, a_served⟩ := s
  change b_X6_round_1 N p1 d_posts d_men d_on w_hour w_debts w_guards w_stood w_served v2 v3 v4 a_hour a_debts a_guards a_stood a_served = some r at hf
  unfold b_X6_round_1 at hf
  show Ev γ M_X6_round (0, 0) n (put 16 (wtB γ 16 a_hour a_debts a_guards a_stood a_served) h) [(0, .ref (gB γ + 0)), (1, .int p1), (2, .int v2), (3, .int v3), (4, .int v4)] 20 [] Ψ
  refine E_iload 4 dX6_round_20 (q := 22) rfl rfl ?_
  refine E_if_lt dX6_round_22 (t := 112) (by decide) (q := 25) rfl (fun c4 => ?_) (fun c4 => ?_)
  · have hf := if_t c4 hf
    exact E_sub [1, 2, 3] rfl (hK _ (Option.some.inj hf).symm)
  · have hf := if_f c4 hf
    refine E_iconst (x := 0) dX6_round_25 (q := 26) rfl (by decide) ?_
    refine E_istore [(5, .int 0), (0, .ref (gB γ + 0)), (1, .int p1), (2, .int v2), (3, .int v3), (4, .int v4)] dX6_round_26 (q := 28) rfl (Nat.le_of_ble_eq_true rfl) rfl ?_
    obtain ⟨t23, hxt23, hf⟩ := bnd hf
    refine E_sub [1, 2, 3, 4, 5, 0] rfl ?_
    refine L_X6_round_2 hH_x hH_d hH_w hn_a hxt23 ?_
    show Ev γ M_X6_round _ n (put 16 (wtB γ 16 t23.2.2.1 t23.2.2.2.1 t23.2.2.2.2.1 t23.2.2.2.2.2.1 t23.2.2.2.2.2.2) h) [(0, .ref (gB γ + 0)), (1, .int p1), (2, .int t23.1), (3, .int t23.2.1), (4, .int v4)] 106 [] _
    obtain ⟨y25, hy25, hf⟩ := bnd hf
    refine E_iinc 4 [(4, .int y25), (0, .ref (gB γ + 0)), (1, .int p1), (2, .int t23.1), (3, .int t23.2.1)] dX6_round_106 (q := 109) rfl rfl ((congrArg (fun z => v4 + z) (show Int32.ofInt (-1) = (-1) by decide)).trans (Option.some.inj hy25)) (Nat.le_of_ble_eq_true rfl) rfl ?_
    refine E_goto (q := 20) dX6_round_109 (by decide) ?_
    exact E_sub [1, 2, 3, 4, 0] rfl (hP _ (Option.some.inj hf).symm)
set_option maxHeartbeats 4000000 in
set_option maxRecDepth 100000 in
theorem m_X6_round {γ : GX} {n : Nat} {N : Nat} {h : HP} {a1 : Int32} {x_track : Int64} {d_posts : Int32} {d_sees : FN} {d_cold : FN} {d_men : Int32} {d_debts : FN} {d_on : Int32} {d_stove : Int32} {w_hour : Int32} {w_debts : FN} {w_guards : FN} {w_stood : FN} {w_served : FN} {a_hour : Int32} {a_debts : FN} {a_guards : FN} {a_stood : FN} {a_served : FN} (hH_x : Has n 0 (poB γ 0 x_track) h) (hH_d : Has n 3 (dpB γ 3 d_posts d_sees d_cold d_men d_debts d_on d_stove) h) (hH_w : Has n 11 (wtB γ 11 w_hour w_debts w_guards w_stood w_served) h) (hH_a : Has n 16 (wtB γ 16 a_hour a_debts a_guards a_stood a_served) h) {z : Int32 × Int32 × FN × FN × FN × FN} (hf : f_X6_round N a1 d_posts d_men d_on w_hour w_debts w_guards w_stood w_served a_hour a_debts a_guards a_stood a_served = some z)  : Ct γ M_X6_round n h [.ref (gB γ + 0), .int a1] (Done (some (.int z.1)) n (put 16 (wtB γ 16 z.2.1 z.2.2.1 z.2.2.2.1 z.2.2.2.2.1 z.2.2.2.2.2) h)) := by
  have hn_a : 16 + 5 ≤ n := hH_a.1
  refine Ct.heap (h := (put 16 (wtB γ 16 a_hour a_debts a_guards a_stood a_served) h)) (put_self hH_a).symm ?_
  refine Ct_of_Ev (by decide) (fun h => by cases h) (Nat.le_of_ble_eq_true rfl) ?_
  show Ev γ M_X6_round (0, 0) n (put 16 (wtB γ 16 a_hour a_debts a_guards a_stood a_served) h) [(0, .ref (gB γ + 0)), (1, .int a1)] 0 [] _
  unfold f_X6_round at hf
  refine E_iload_n 1 dX6_round_0 (q := 1) rfl rfl rfl ?_
  refine E_iconst (x := 0) dX6_round_1 (q := 2) rfl (by decide) ?_
  refine E_iconst (x := 1) dX6_round_2 (q := 3) rfl (by decide) ?_
  obtain ⟨z1, hxz1, hf⟩ := bnd hf
  refine E_cS (as := [.int a1, .int 0, .int 1]) (rest := []) (u' := (0, 0)) (st' := [.int z1]) dX6_round_3 (q := 6) rfl lkm_X6_within lks_X6_65 (Nat.le_of_ble_eq_true rfl) ⟨Nat.le_refl _, Nat.le_refl _⟩ (Nat.le_of_ble_eq_true rfl) rfl rfl (m_X6_within (N := N)  hxz1) rfl rfl rfl ?_
  refine E_if_ne dX6_round_6 (t := 11) (by decide) (q := 9) rfl (fun c2 => ?_) (fun c2 => ?_)
  · have hf := if_f c2 hf
    refine E_bipush (x := (-9)) dX6_round_11 (q := 13) rfl (by decide) ?_
    refine E_istore_n [(2, .int (-9)), (0, .ref (gB γ + 0)), (1, .int a1)] dX6_round_13 (q := 14) rfl rfl (Nat.le_of_ble_eq_true rfl) rfl ?_
    refine E_bipush (x := (-9)) dX6_round_14 (q := 16) rfl (by decide) ?_
    refine E_istore_n [(3, .int (-9)), (2, .int (-9)), (0, .ref (gB γ + 0)), (1, .int a1)] dX6_round_16 (q := 17) rfl rfl (Nat.le_of_ble_eq_true rfl) rfl ?_
    refine E_iconst (x := 1) dX6_round_17 (q := 18) rfl (by decide) ?_
    refine E_istore [(4, .int 1), (3, .int (-9)), (2, .int (-9)), (0, .ref (gB γ + 0)), (1, .int a1)] dX6_round_18 (q := 20) rfl (Nat.le_of_ble_eq_true rfl) rfl ?_
    obtain ⟨t26, hxt26, hf⟩ := bnd hf
    refine E_sub [3, 4, 2, 1, 0] rfl ?_
    refine L_X6_round_1 hH_x hH_d hH_w hn_a hxt26 ?_
    show Ev γ M_X6_round _ n (put 16 (wtB γ 16 t26.2.2.1 t26.2.2.2.1 t26.2.2.2.2.1 t26.2.2.2.2.2.1 t26.2.2.2.2.2.2) h) [(1, .int a1), (2, .int t26.1), (3, .int t26.2.1)] 112 [] _
    refine E_iload_n 0 dX6_round_112 (q := 113) rfl rfl rfl ?_
    refine E_if_ne dX6_round_113 (t := 120) (by decide) (q := 116) rfl (fun c28 => ?_) (fun c28 => ?_)
    · have hf := if_f c28 hf
      refine E_iload_n 2 dX6_round_120 (q := 121) rfl rfl rfl ?_
      obtain rfl := Option.some.inj hf
      exact E_iret dX6_round_121 rfl ⟨rfl, rfl, rfl⟩
    · have hf := if_t c28 hf
      refine E_iload_n 1 dX6_round_116 (q := 117) rfl rfl rfl ?_
      refine E_goto (q := 121) dX6_round_117 (by decide) ?_
      obtain rfl := Option.some.inj hf
      exact E_iret dX6_round_121 rfl ⟨rfl, rfl, rfl⟩
  · have hf := if_t c2 hf
    refine E_iconst (x := (-1)) dX6_round_9 (q := 10) rfl (by decide) ?_
    obtain rfl := Option.some.inj hf
    exact E_iret dX6_round_10 rfl ⟨rfl, rfl, rfl⟩

-- PostRelief.rota(I)I
def f_X6_rota (N : Nat) (a1 : Int32) (d_posts : Int32) (d_cold : FN) (d_men : Int32) (d_on : Int32) (w_hour : Int32) (w_debts : FN) (l_least : Int32) (l_chosen : FN) (l_trial : FN) (l_debtThen : FN) : Option (Int32 × Int32 × FN × FN × FN) :=
  (if a1 = (-1) then (if d_posts = 0 then some ((-9), l_least, l_chosen, l_trial, l_debtThen) else (if d_posts ≤ d_men then ((f_X3_search N d_posts d_cold d_men d_on w_hour w_debts l_least l_chosen l_trial l_debtThen).bind fun z6 => some (z6.1, z6.1, z6.2.1, z6.2.2.1, z6.2.2.2)) else some ((-9), l_least, l_chosen, l_trial, l_debtThen))) else ((f_X6_isPost N a1 d_posts).bind fun z12 => (if z12 = 0 then some ((-1), l_least, l_chosen, l_trial, l_debtThen) else (if d_posts = 0 then some ((-9), l_least, l_chosen, l_trial, l_debtThen) else (if d_posts ≤ d_men then ((f_X3_search N d_posts d_cold d_men d_on w_hour w_debts l_least l_chosen l_trial l_debtThen).bind fun z18 => (if ix a1 5 = true then some ((z18.2.1 (ci a1)), z18.1, z18.2.1, z18.2.2.1, z18.2.2.2) else none)) else some ((-9), l_least, l_chosen, l_trial, l_debtThen))))))
set_option maxHeartbeats 4000000 in
set_option maxRecDepth 100000 in
theorem m_X6_rota {γ : GX} {n : Nat} {N : Nat} {h : HP} {a1 : Int32} {x_track : Int64} {d_posts : Int32} {d_sees : FN} {d_cold : FN} {d_men : Int32} {d_debts : FN} {d_on : Int32} {d_stove : Int32} {w_hour : Int32} {w_debts : FN} {w_guards : FN} {w_stood : FN} {w_served : FN} {l_least : Int32} {l_chosen : FN} {l_trial : FN} {l_debtThen : FN} (hH_x : Has n 0 (poB γ 0 x_track) h) (hH_d : Has n 3 (dpB γ 3 d_posts d_sees d_cold d_men d_debts d_on d_stove) h) (hH_w : Has n 11 (wtB γ 11 w_hour w_debts w_guards w_stood w_served) h) (hH_l : Has n 79 (plB γ 79 l_least l_chosen l_trial l_debtThen) h) {z : Int32 × Int32 × FN × FN × FN} (hf : f_X6_rota N a1 d_posts d_cold d_men d_on w_hour w_debts l_least l_chosen l_trial l_debtThen = some z)  : Ct γ M_X6_rota n h [.ref (gB γ + 0), .int a1] (Done (some (.int z.1)) n (put 79 (plB γ 79 z.2.1 z.2.2.1 z.2.2.2.1 z.2.2.2.2) h)) := by
  have hn_l : 79 + 4 ≤ n := hH_l.1
  refine Ct.heap (h := (put 79 (plB γ 79 l_least l_chosen l_trial l_debtThen) h)) (put_self hH_l).symm ?_
  refine Ct_of_Ev (by decide) (fun h => by cases h) (Nat.le_of_ble_eq_true rfl) ?_
  show Ev γ M_X6_rota (0, 0) n (put 79 (plB γ 79 l_least l_chosen l_trial l_debtThen) h) [(0, .ref (gB γ + 0)), (1, .int a1)] 0 [] _
  unfold f_X6_rota at hf
  refine E_iload_n 1 dX6_rota_0 (q := 1) rfl rfl rfl ?_
  refine E_iconst (x := (-1)) dX6_rota_1 (q := 2) rfl (by decide) ?_
  refine E_icmp_eq dX6_rota_2 (t := 15) (by decide) (q := 5) rfl (fun c1 => ?_) (fun c1 => ?_)
  · have hf := if_t c1 hf
    refine E_aload_n 0 dX6_rota_15 (q := 16) rfl rfl rfl ?_
    have hF2 : Has n 0 (poB γ 0 x_track) (put 79 (plB γ 79 l_least l_chosen l_trial l_debtThen) h) := (has_out hH_x (Or.inl (Nat.le_of_ble_eq_true rfl)))
    refine E_get 1 dX6_rota_16 (q := 19) rfl ckX6 (Nat.le_of_ble_eq_true rfl) fl_X6_19 (hF2.at 0 rfl) (hF2.lt 0 (Nat.le_of_ble_eq_true rfl)) rfl ?_
    have hF3 : Has n 3 (dpB γ 3 d_posts d_sees d_cold d_men d_debts d_on d_stove) (put 79 (plB γ 79 l_least l_chosen l_trial l_debtThen) h) := (has_out hH_d (Or.inl (Nat.le_of_ble_eq_true rfl)))
    refine E_get 0 dX6_rota_19 (q := 22) rfl ckX0 (Nat.le_of_ble_eq_true rfl) fl_X6_171 (hF3.at 0 rfl) (hF3.lt 0 (Nat.le_of_ble_eq_true rfl)) rfl ?_
    refine E_if_eq dX6_rota_22 (t := 42) (by decide) (q := 25) rfl (fun c4 => ?_) (fun c4 => ?_)
    · have hf := if_t c4 hf
      refine E_bipush (x := (-9)) dX6_rota_42 (q := 44) rfl (by decide) ?_
      obtain rfl := Option.some.inj hf
      exact E_iret dX6_rota_44 rfl ⟨rfl, rfl, rfl⟩
    · have hf := if_f c4 hf
      refine E_aload_n 0 dX6_rota_25 (q := 26) rfl rfl rfl ?_
      refine E_get 1 dX6_rota_26 (q := 29) rfl ckX6 (Nat.le_of_ble_eq_true rfl) fl_X6_19 (hF2.at 0 rfl) (hF2.lt 0 (Nat.le_of_ble_eq_true rfl)) rfl ?_
      refine E_get 3 dX6_rota_29 (q := 32) rfl ckX0 (Nat.le_of_ble_eq_true rfl) fl_X6_177 (hF3.at 0 rfl) (hF3.lt 0 (Nat.le_of_ble_eq_true rfl)) rfl ?_
      refine E_aload_n 0 dX6_rota_32 (q := 33) rfl rfl rfl ?_
      refine E_get 1 dX6_rota_33 (q := 36) rfl ckX6 (Nat.le_of_ble_eq_true rfl) fl_X6_19 (hF2.at 0 rfl) (hF2.lt 0 (Nat.le_of_ble_eq_true rfl)) rfl ?_
      refine E_get 0 dX6_rota_36 (q := 39) rfl ckX0 (Nat.le_of_ble_eq_true rfl) fl_X6_171 (hF3.at 0 rfl) (hF3.lt 0 (Nat.le_of_ble_eq_true rfl)) rfl ?_
      refine E_icmp_ge dX6_rota_39 (t := 45) (by decide) (q := 42) rfl (fun c5 => ?_) (fun c5 => ?_)
      · have hf := if_t c5 hf
        refine E_aload_n 0 dX6_rota_45 (q := 46) rfl rfl rfl ?_
        refine E_get 9 dX6_rota_46 (q := 49) rfl ckX6 (Nat.le_of_ble_eq_true rfl) fl_X6_61 (hF2.at 0 rfl) (hF2.lt 0 (Nat.le_of_ble_eq_true rfl)) rfl ?_
        refine E_aload_n 0 dX6_rota_49 (q := 50) rfl rfl rfl ?_
        refine E_get 1 dX6_rota_50 (q := 53) rfl ckX6 (Nat.le_of_ble_eq_true rfl) fl_X6_19 (hF2.at 0 rfl) (hF2.lt 0 (Nat.le_of_ble_eq_true rfl)) rfl ?_
        refine E_aload_n 0 dX6_rota_53 (q := 54) rfl rfl rfl ?_
        refine E_get 3 dX6_rota_54 (q := 57) rfl ckX6 (Nat.le_of_ble_eq_true rfl) fl_X6_29 (hF2.at 0 rfl) (hF2.lt 0 (Nat.le_of_ble_eq_true rfl)) rfl ?_
        obtain ⟨z6, hxz6, hf⟩ := bnd hf
        have hF7 : Has n 11 (wtB γ 11 w_hour w_debts w_guards w_stood w_served) (put 79 (plB γ 79 l_least l_chosen l_trial l_debtThen) h) := (has_out hH_w (Or.inl (Nat.le_of_ble_eq_true rfl)))
        have hF8 : Has n 79 (plB γ 79 l_least l_chosen l_trial l_debtThen) (put 79 (plB γ 79 l_least l_chosen l_trial l_debtThen) h) := (has_put hn_l)
        refine E_cV (as := [.ref (gB γ + 3), .ref (gB γ + 11)]) (k := 79) (rest := []) (u' := (0, 0)) (st' := []) dX6_rota_57 (q := 60) rfl lkm_X3_search lkv_X6_180 (Nat.le_of_ble_eq_true rfl) ckX3 (hF8.at 0 rfl) (hF8.lt 0 (Nat.le_of_ble_eq_true rfl)) ⟨Nat.le_refl _, Nat.le_refl _⟩ (Nat.le_of_ble_eq_true rfl) rfl rfl (m_X3_search (N := N)  hF3 hF7 hF8 hxz6) rfl rfl rfl ?_
        refine Ev.heap (put_put (k := 79) (cs := (plB γ 79 l_least l_chosen l_trial l_debtThen)) (cs' := (plB γ 79 z6.1 z6.2.1 z6.2.2.1 z6.2.2.2)) (show (4 : Nat) = 4 from rfl)) ?_
        refine E_iload_n 1 dX6_rota_60 (q := 61) rfl rfl rfl ?_
        refine E_iconst (x := (-1)) dX6_rota_61 (q := 62) rfl (by decide) ?_
        refine E_icmp_ne dX6_rota_62 (t := 75) (by decide) (q := 65) rfl (fun c => absurd c1 c) (fun _ => ?_)
        refine E_aload_n 0 dX6_rota_65 (q := 66) rfl rfl rfl ?_
        have hF10 : Has n 0 (poB γ 0 x_track) (put 79 (plB γ 79 z6.1 z6.2.1 z6.2.2.1 z6.2.2.2) h) := (has_out hH_x (Or.inl (Nat.le_of_ble_eq_true rfl)))
        refine E_get 9 dX6_rota_66 (q := 69) rfl ckX6 (Nat.le_of_ble_eq_true rfl) fl_X6_61 (hF10.at 0 rfl) (hF10.lt 0 (Nat.le_of_ble_eq_true rfl)) rfl ?_
        have hF11 : Has n 79 (plB γ 79 z6.1 z6.2.1 z6.2.2.1 z6.2.2.2) (put 79 (plB γ 79 z6.1 z6.2.1 z6.2.2.1 z6.2.2.2) h) := (has_put hn_l)
        refine E_get 0 dX6_rota_69 (q := 72) rfl ckX3 (Nat.le_of_ble_eq_true rfl) fl_X6_184 (hF11.at 0 rfl) (hF11.lt 0 (Nat.le_of_ble_eq_true rfl)) rfl ?_
        refine E_goto (q := 84) dX6_rota_72 (by decide) ?_
        obtain rfl := Option.some.inj hf
        exact E_iret dX6_rota_84 rfl ⟨rfl, rfl, rfl⟩
      · have hf := if_f c5 hf
        refine E_bipush (x := (-9)) dX6_rota_42 (q := 44) rfl (by decide) ?_
        obtain rfl := Option.some.inj hf
        exact E_iret dX6_rota_44 rfl ⟨rfl, rfl, rfl⟩
  · have hf := if_f c1 hf
    refine E_aload_n 0 dX6_rota_5 (q := 6) rfl rfl rfl ?_
    refine E_iload_n 1 dX6_rota_6 (q := 7) rfl rfl rfl ?_
    obtain ⟨z12, hxz12, hf⟩ := bnd hf
    have hF13 : Has n 0 (poB γ 0 x_track) (put 79 (plB γ 79 l_least l_chosen l_trial l_debtThen) h) := (has_out hH_x (Or.inl (Nat.le_of_ble_eq_true rfl)))
    have hF14 : Has n 3 (dpB γ 3 d_posts d_sees d_cold d_men d_debts d_on d_stove) (put 79 (plB γ 79 l_least l_chosen l_trial l_debtThen) h) := (has_out hH_d (Or.inl (Nat.le_of_ble_eq_true rfl)))
    refine E_cV (as := [.int a1]) (k := 0) (rest := []) (u' := (0, 0)) (st' := [.int z12]) dX6_rota_7 (q := 10) rfl lkm_X6_isPost lkv_X6_88 (Nat.le_of_ble_eq_true rfl) ckX6 (hF13.at 0 rfl) (hF13.lt 0 (Nat.le_of_ble_eq_true rfl)) ⟨Nat.le_refl _, Nat.le_refl _⟩ (Nat.le_of_ble_eq_true rfl) rfl rfl (m_X6_isPost (N := N)  hF13 hF14 hxz12) rfl rfl rfl ?_
    refine E_if_ne dX6_rota_10 (t := 15) (by decide) (q := 13) rfl (fun c15 => ?_) (fun c15 => ?_)
    · have hf := if_f c15 hf
      refine E_aload_n 0 dX6_rota_15 (q := 16) rfl rfl rfl ?_
      refine E_get 1 dX6_rota_16 (q := 19) rfl ckX6 (Nat.le_of_ble_eq_true rfl) fl_X6_19 (hF13.at 0 rfl) (hF13.lt 0 (Nat.le_of_ble_eq_true rfl)) rfl ?_
      refine E_get 0 dX6_rota_19 (q := 22) rfl ckX0 (Nat.le_of_ble_eq_true rfl) fl_X6_171 (hF14.at 0 rfl) (hF14.lt 0 (Nat.le_of_ble_eq_true rfl)) rfl ?_
      refine E_if_eq dX6_rota_22 (t := 42) (by decide) (q := 25) rfl (fun c16 => ?_) (fun c16 => ?_)
      · have hf := if_t c16 hf
        refine E_bipush (x := (-9)) dX6_rota_42 (q := 44) rfl (by decide) ?_
        obtain rfl := Option.some.inj hf
        exact E_iret dX6_rota_44 rfl ⟨rfl, rfl, rfl⟩
      · have hf := if_f c16 hf
        refine E_aload_n 0 dX6_rota_25 (q := 26) rfl rfl rfl ?_
        refine E_get 1 dX6_rota_26 (q := 29) rfl ckX6 (Nat.le_of_ble_eq_true rfl) fl_X6_19 (hF13.at 0 rfl) (hF13.lt 0 (Nat.le_of_ble_eq_true rfl)) rfl ?_
        refine E_get 3 dX6_rota_29 (q := 32) rfl ckX0 (Nat.le_of_ble_eq_true rfl) fl_X6_177 (hF14.at 0 rfl) (hF14.lt 0 (Nat.le_of_ble_eq_true rfl)) rfl ?_
        refine E_aload_n 0 dX6_rota_32 (q := 33) rfl rfl rfl ?_
        refine E_get 1 dX6_rota_33 (q := 36) rfl ckX6 (Nat.le_of_ble_eq_true rfl) fl_X6_19 (hF13.at 0 rfl) (hF13.lt 0 (Nat.le_of_ble_eq_true rfl)) rfl ?_
        refine E_get 0 dX6_rota_36 (q := 39) rfl ckX0 (Nat.le_of_ble_eq_true rfl) fl_X6_171 (hF14.at 0 rfl) (hF14.lt 0 (Nat.le_of_ble_eq_true rfl)) rfl ?_
        refine E_icmp_ge dX6_rota_39 (t := 45) (by decide) (q := 42) rfl (fun c17 => ?_) (fun c17 => ?_)
        · have hf := if_t c17 hf
          refine E_aload_n 0 dX6_rota_45 (q := 46) rfl rfl rfl ?_
          refine E_get 9 dX6_rota_46 (q := 49) rfl ckX6 (Nat.le_of_ble_eq_true rfl) fl_X6_61 (hF13.at 0 rfl) (hF13.lt 0 (Nat.le_of_ble_eq_true rfl)) rfl ?_
          refine E_aload_n 0 dX6_rota_49 (q := 50) rfl rfl rfl ?_
          refine E_get 1 dX6_rota_50 (q := 53) rfl ckX6 (Nat.le_of_ble_eq_true rfl) fl_X6_19 (hF13.at 0 rfl) (hF13.lt 0 (Nat.le_of_ble_eq_true rfl)) rfl ?_
          refine E_aload_n 0 dX6_rota_53 (q := 54) rfl rfl rfl ?_
          refine E_get 3 dX6_rota_54 (q := 57) rfl ckX6 (Nat.le_of_ble_eq_true rfl) fl_X6_29 (hF13.at 0 rfl) (hF13.lt 0 (Nat.le_of_ble_eq_true rfl)) rfl ?_
          obtain ⟨z18, hxz18, hf⟩ := bnd hf
          have hF19 : Has n 11 (wtB γ 11 w_hour w_debts w_guards w_stood w_served) (put 79 (plB γ 79 l_least l_chosen l_trial l_debtThen) h) := (has_out hH_w (Or.inl (Nat.le_of_ble_eq_true rfl)))
          have hF20 : Has n 79 (plB γ 79 l_least l_chosen l_trial l_debtThen) (put 79 (plB γ 79 l_least l_chosen l_trial l_debtThen) h) := (has_put hn_l)
          refine E_cV (as := [.ref (gB γ + 3), .ref (gB γ + 11)]) (k := 79) (rest := []) (u' := (0, 0)) (st' := []) dX6_rota_57 (q := 60) rfl lkm_X3_search lkv_X6_180 (Nat.le_of_ble_eq_true rfl) ckX3 (hF20.at 0 rfl) (hF20.lt 0 (Nat.le_of_ble_eq_true rfl)) ⟨Nat.le_refl _, Nat.le_refl _⟩ (Nat.le_of_ble_eq_true rfl) rfl rfl (m_X3_search (N := N)  hF14 hF19 hF20 hxz18) rfl rfl rfl ?_
          refine Ev.heap (put_put (k := 79) (cs := (plB γ 79 l_least l_chosen l_trial l_debtThen)) (cs' := (plB γ 79 z18.1 z18.2.1 z18.2.2.1 z18.2.2.2)) (show (4 : Nat) = 4 from rfl)) ?_
          refine E_iload_n 1 dX6_rota_60 (q := 61) rfl rfl rfl ?_
          refine E_iconst (x := (-1)) dX6_rota_61 (q := 62) rfl (by decide) ?_
          refine E_icmp_ne dX6_rota_62 (t := 75) (by decide) (q := 65) rfl (fun _ => ?_) (fun c => absurd c c1)
          refine E_aload_n 0 dX6_rota_75 (q := 76) rfl rfl rfl ?_
          have hF22 : Has n 0 (poB γ 0 x_track) (put 79 (plB γ 79 z18.1 z18.2.1 z18.2.2.1 z18.2.2.2) h) := (has_out hH_x (Or.inl (Nat.le_of_ble_eq_true rfl)))
          refine E_get 9 dX6_rota_76 (q := 79) rfl ckX6 (Nat.le_of_ble_eq_true rfl) fl_X6_61 (hF22.at 0 rfl) (hF22.lt 0 (Nat.le_of_ble_eq_true rfl)) rfl ?_
          have hF23 : Has n 79 (plB γ 79 z18.1 z18.2.1 z18.2.2.1 z18.2.2.2) (put 79 (plB γ 79 z18.1 z18.2.1 z18.2.2.1 z18.2.2.2) h) := (has_put hn_l)
          refine E_get 1 dX6_rota_79 (q := 82) rfl ckX3 (Nat.le_of_ble_eq_true rfl) fl_X6_187 (hF23.at 0 rfl) (hF23.lt 0 (Nat.le_of_ble_eq_true rfl)) rfl ?_
          refine E_iload_n 1 dX6_rota_82 (q := 83) rfl rfl rfl ?_
          obtain ⟨g24, hf⟩ := gd hf
          refine E_iald dX6_rota_83 (q := 84) rfl (hF23.at 1 rfl) (hF23.lt 1 (Nat.le_of_ble_eq_true rfl)) g24 ?_
          obtain rfl := Option.some.inj hf
          exact E_iret dX6_rota_84 rfl ⟨rfl, rfl, rfl⟩
        · have hf := if_f c17 hf
          refine E_bipush (x := (-9)) dX6_rota_42 (q := 44) rfl (by decide) ?_
          obtain rfl := Option.some.inj hf
          exact E_iret dX6_rota_44 rfl ⟨rfl, rfl, rfl⟩
    · have hf := if_t c15 hf
      refine E_iconst (x := (-1)) dX6_rota_13 (q := 14) rfl (by decide) ?_
      obtain rfl := Option.some.inj hf
      exact E_iret dX6_rota_14 rfl ⟨rfl, rfl, rfl⟩

-- PostRelief.leave()I
def b_X6_leave_1 (N : Nat) (d_posts : Int32) (d_sees : FN) (v1 : Int32) (v2 : Int32) : Option ((Int32 × Int32) ⊕ (Int32)) :=
  ((f_X0_allPosts N d_posts).bind fun z2 => (if z2 < v2 then some (.inr v1) else ((f_J6_bitCount N v2).bind fun z4 => ((f_J6_bitCount N v1).bind fun z5 => (if z4 ≤ z5 then some (.inl (v1, (v2 + 1))) else ((f_X6_canBeLeft N v2 d_posts d_sees).bind fun z7 => (if z7 = 0 then some (.inl (v1, (v2 + 1))) else some (.inl (v2, (v2 + 1))))))))))
def f_X6_leave (N : Nat) (d_posts : Int32) (d_sees : FN) : Option (Int32) :=
  ((lp (fun s => b_X6_leave_1 N d_posts d_sees s.1 s.2) N (0, 1)).bind fun t9 => some t9)
set_option maxHeartbeats 4000000 in
set_option maxRecDepth 100000 in
theorem L_X6_leave_1 {γ : GX} {n : Nat} {h : HP} {Ψ : PS} {N : Nat} {x_track : Int64} {d_posts : Int32} {d_sees : FN} {d_cold : FN} {d_men : Int32} {d_debts : FN} {d_on : Int32} {d_stove : Int32} (hH_x : Has n 0 (poB γ 0 x_track) h) (hH_d : Has n 3 (dpB γ 3 d_posts d_sees d_cold d_men d_debts d_on d_stove) h) {s0 : Int32 × Int32} {t : Int32} (hf : lp (fun s => b_X6_leave_1 N d_posts d_sees s.1 s.2) N s0 = some t) (K : Ev γ M_X6_leave (0, 0) n h [(1, .int t)] 42 [] Ψ) : Ev γ M_X6_leave (0, 0) n h [(0, .ref (gB γ + 0)), (1, .int s0.1), (2, .int s0.2)] 4 [] Ψ := by
  refine E_lp (P := fun s => Ev γ M_X6_leave (0, 0) n h [(0, .ref (gB γ + 0)), (1, .int s.1), (2, .int s.2)] 4 [] Ψ) (K := fun t => Ev γ M_X6_leave (0, 0) n h [(1, .int t)] 42 [] Ψ) ?_ N s0 t hf K
  intro s r hf hP hK
  obtain ⟨v1, v2⟩ := s
  change b_X6_leave_1 N d_posts d_sees v1 v2 = some r at hf
  unfold b_X6_leave_1 at hf
  show Ev γ M_X6_leave (0, 0) n h [(0, .ref (gB γ + 0)), (1, .int v1), (2, .int v2)] 4 [] Ψ
  refine E_iload_n 2 dX6_leave_4 (q := 5) rfl rfl rfl ?_
  refine E_aload_n 0 dX6_leave_5 (q := 6) rfl rfl rfl ?_
  refine E_get 1 dX6_leave_6 (q := 9) rfl ckX6 (Nat.le_of_ble_eq_true rfl) fl_X6_19 (hH_x.at 0 rfl) (hH_x.lt 0 (Nat.le_of_ble_eq_true rfl)) rfl ?_
  obtain ⟨z2, hxz2, hf⟩ := bnd hf
  refine E_cV (as := []) (k := 3) (rest := [.int v2]) (u' := (0, 0)) (st' := [.int z2, .int v2]) dX6_leave_9 (q := 12) rfl lkm_X0_allPosts lkv_X6_190 (Nat.le_of_ble_eq_true rfl) ckX0 (hH_d.at 0 rfl) (hH_d.lt 0 (Nat.le_of_ble_eq_true rfl)) ⟨Nat.le_refl _, Nat.le_refl _⟩ (Nat.le_of_ble_eq_true rfl) rfl rfl (m_X0_allPosts (N := N)  hH_d hxz2) rfl rfl rfl ?_
  refine E_icmp_gt dX6_leave_12 (t := 42) (by decide) (q := 15) rfl (fun c3 => ?_) (fun c3 => ?_)
  · have hf := if_t c3 hf
    exact E_sub [1] rfl (hK _ (Option.some.inj hf).symm)
  · have hf := if_f c3 hf
    refine E_iload_n 2 dX6_leave_15 (q := 16) rfl rfl rfl ?_
    obtain ⟨z4, hxz4, hf⟩ := bnd hf
    refine E_cS (as := [.int v2]) (rest := []) (u' := (0, 0)) (st' := [.int z4]) dX6_leave_16 (q := 19) rfl lkm_J6_bitCount lks_X6_141 (Nat.le_of_ble_eq_true rfl) ⟨Nat.le_refl _, Nat.le_refl _⟩ (Nat.le_of_ble_eq_true rfl) rfl rfl (m_J6_bitCount (N := N)  hxz4) rfl rfl rfl ?_
    refine E_iload_n 1 dX6_leave_19 (q := 20) rfl rfl rfl ?_
    obtain ⟨z5, hxz5, hf⟩ := bnd hf
    refine E_cS (as := [.int v1]) (rest := [.int z4]) (u' := (0, 0)) (st' := [.int z5, .int z4]) dX6_leave_20 (q := 23) rfl lkm_J6_bitCount lks_X6_141 (Nat.le_of_ble_eq_true rfl) ⟨Nat.le_refl _, Nat.le_refl _⟩ (Nat.le_of_ble_eq_true rfl) rfl rfl (m_J6_bitCount (N := N)  hxz5) rfl rfl rfl ?_
    refine E_icmp_le dX6_leave_23 (t := 36) (by decide) (q := 26) rfl (fun c6 => ?_) (fun c6 => ?_)
    · have hf := if_t c6 hf
      refine E_iinc 2 [(2, .int (v2 + 1)), (0, .ref (gB γ + 0)), (1, .int v1)] dX6_leave_36 (q := 39) rfl rfl rfl (Nat.le_of_ble_eq_true rfl) rfl ?_
      refine E_goto (q := 4) dX6_leave_39 (by decide) ?_
      exact E_sub [1, 2, 0] rfl (hP _ (Option.some.inj hf).symm)
    · have hf := if_f c6 hf
      refine E_aload_n 0 dX6_leave_26 (q := 27) rfl rfl rfl ?_
      refine E_iload_n 2 dX6_leave_27 (q := 28) rfl rfl rfl ?_
      obtain ⟨z7, hxz7, hf⟩ := bnd hf
      refine E_cV (as := [.int v2]) (k := 0) (rest := []) (u' := (0, 0)) (st' := [.int z7]) dX6_leave_28 (q := 31) rfl lkm_X6_canBeLeft lkv_X6_193 (Nat.le_of_ble_eq_true rfl) ckX6 (hH_x.at 0 rfl) (hH_x.lt 0 (Nat.le_of_ble_eq_true rfl)) ⟨Nat.le_refl _, Nat.le_refl _⟩ (Nat.le_of_ble_eq_true rfl) rfl rfl (m_X6_canBeLeft (N := N)  hH_x hH_d hxz7) rfl rfl rfl ?_
      refine E_if_eq dX6_leave_31 (t := 36) (by decide) (q := 34) rfl (fun c8 => ?_) (fun c8 => ?_)
      · have hf := if_t c8 hf
        refine E_iinc 2 [(2, .int (v2 + 1)), (0, .ref (gB γ + 0)), (1, .int v1)] dX6_leave_36 (q := 39) rfl rfl rfl (Nat.le_of_ble_eq_true rfl) rfl ?_
        refine E_goto (q := 4) dX6_leave_39 (by decide) ?_
        exact E_sub [1, 2, 0] rfl (hP _ (Option.some.inj hf).symm)
      · have hf := if_f c8 hf
        refine E_iload_n 2 dX6_leave_34 (q := 35) rfl rfl rfl ?_
        refine E_istore_n [(1, .int v2), (0, .ref (gB γ + 0)), (2, .int v2)] dX6_leave_35 (q := 36) rfl rfl (Nat.le_of_ble_eq_true rfl) rfl ?_
        refine E_iinc 2 [(2, .int (v2 + 1)), (1, .int v2), (0, .ref (gB γ + 0))] dX6_leave_36 (q := 39) rfl rfl rfl (Nat.le_of_ble_eq_true rfl) rfl ?_
        refine E_goto (q := 4) dX6_leave_39 (by decide) ?_
        exact E_sub [2, 1, 0] rfl (hP _ (Option.some.inj hf).symm)
set_option maxHeartbeats 4000000 in
set_option maxRecDepth 100000 in
theorem m_X6_leave {γ : GX} {n : Nat} {N : Nat} {h : HP} {x_track : Int64} {d_posts : Int32} {d_sees : FN} {d_cold : FN} {d_men : Int32} {d_debts : FN} {d_on : Int32} {d_stove : Int32} (hH_x : Has n 0 (poB γ 0 x_track) h) (hH_d : Has n 3 (dpB γ 3 d_posts d_sees d_cold d_men d_debts d_on d_stove) h) {z : Int32} (hf : f_X6_leave N d_posts d_sees = some z)  : Ct γ M_X6_leave n h [.ref (gB γ + 0)] (Done (some (.int z)) n h) := by
  refine Ct_of_Ev (by decide) (fun h => by cases h) (Nat.le_of_ble_eq_true rfl) ?_
  show Ev γ M_X6_leave (0, 0) n h [(0, .ref (gB γ + 0))] 0 [] _
  unfold f_X6_leave at hf
  refine E_iconst (x := 0) dX6_leave_0 (q := 1) rfl (by decide) ?_
  refine E_istore_n [(1, .int 0), (0, .ref (gB γ + 0))] dX6_leave_1 (q := 2) rfl rfl (Nat.le_of_ble_eq_true rfl) rfl ?_
  refine E_iconst (x := 1) dX6_leave_2 (q := 3) rfl (by decide) ?_
  refine E_istore_n [(2, .int 1), (1, .int 0), (0, .ref (gB γ + 0))] dX6_leave_3 (q := 4) rfl rfl (Nat.le_of_ble_eq_true rfl) rfl ?_
  obtain ⟨t9, hxt9, hf⟩ := bnd hf
  refine E_sub [2, 1, 0] rfl ?_
  refine L_X6_leave_1 hH_x hH_d hxt9 ?_
  show Ev γ M_X6_leave _ n h [(1, .int t9)] 42 [] _
  refine E_iload_n 0 dX6_leave_42 (q := 43) rfl rfl rfl ?_
  obtain rfl := Option.some.inj hf
  exact E_iret dX6_leave_43 rfl ⟨rfl, rfl, rfl⟩

-- PostRelief.two()I
def b_X6_two_1 (N : Nat) (d_posts : Int32) (d_sees : FN) (v1 : Int32) (v2 : Int32) (v3 : Int32) : Option ((Int32 × Int32 × Int32) ⊕ (Int32)) :=
  (if d_posts ≤ v3 then some (.inr v1) else ((f_X6_seenOnlyFrom N v3 d_posts d_sees).bind fun z3 => ((f_J6_bitCount N z3).bind fun z4 => (if z4 ≤ v2 then some (.inl (v1, v2, (v3 + 1))) else some (.inl (v3, z4, (v3 + 1)))))))
def f_X6_two (N : Nat) (d_posts : Int32) (d_sees : FN) : Option (Int32) :=
  ((lp (fun s => b_X6_two_1 N d_posts d_sees s.1 s.2.1 s.2.2) N ((-9), (-1), 0)).bind fun t6 => some t6)
set_option maxHeartbeats 4000000 in
set_option maxRecDepth 100000 in
theorem L_X6_two_1 {γ : GX} {n : Nat} {h : HP} {Ψ : PS} {N : Nat} {x_track : Int64} {d_posts : Int32} {d_sees : FN} {d_cold : FN} {d_men : Int32} {d_debts : FN} {d_on : Int32} {d_stove : Int32} (hH_x : Has n 0 (poB γ 0 x_track) h) (hH_d : Has n 3 (dpB γ 3 d_posts d_sees d_cold d_men d_debts d_on d_stove) h) {s0 : Int32 × Int32 × Int32} {t : Int32} (hf : lp (fun s => b_X6_two_1 N d_posts d_sees s.1 s.2.1 s.2.2) N s0 = some t) (K : Ev γ M_X6_two (0, 0) n h [(1, .int t)] 45 [] Ψ) : Ev γ M_X6_two (0, 0) n h [(0, .ref (gB γ + 0)), (1, .int s0.1), (2, .int s0.2.1), (3, .int s0.2.2)] 7 [] Ψ := by
  refine E_lp (P := fun s => Ev γ M_X6_two (0, 0) n h [(0, .ref (gB γ + 0)), (1, .int s.1), (2, .int s.2.1), (3, .int s.2.2)] 7 [] Ψ) (K := fun t => Ev γ M_X6_two (0, 0) n h [(1, .int t)] 45 [] Ψ) ?_ N s0 t hf K
  intro s r hf hP hK
  obtain ⟨v1, v2, v3⟩ := s
  change b_X6_two_1 N d_posts d_sees v1 v2 v3 = some r at hf
  unfold b_X6_two_1 at hf
  show Ev γ M_X6_two (0, 0) n h [(0, .ref (gB γ + 0)), (1, .int v1), (2, .int v2), (3, .int v3)] 7 [] Ψ
  refine E_iload_n 3 dX6_two_7 (q := 8) rfl rfl rfl ?_
  refine E_aload_n 0 dX6_two_8 (q := 9) rfl rfl rfl ?_
  refine E_get 1 dX6_two_9 (q := 12) rfl ckX6 (Nat.le_of_ble_eq_true rfl) fl_X6_19 (hH_x.at 0 rfl) (hH_x.lt 0 (Nat.le_of_ble_eq_true rfl)) rfl ?_
  refine E_get 0 dX6_two_12 (q := 15) rfl ckX0 (Nat.le_of_ble_eq_true rfl) fl_X6_171 (hH_d.at 0 rfl) (hH_d.lt 0 (Nat.le_of_ble_eq_true rfl)) rfl ?_
  refine E_icmp_ge dX6_two_15 (t := 45) (by decide) (q := 18) rfl (fun c2 => ?_) (fun c2 => ?_)
  · have hf := if_t c2 hf
    exact E_sub [1] rfl (hK _ (Option.some.inj hf).symm)
  · have hf := if_f c2 hf
    refine E_aload_n 0 dX6_two_18 (q := 19) rfl rfl rfl ?_
    refine E_iload_n 3 dX6_two_19 (q := 20) rfl rfl rfl ?_
    obtain ⟨z3, hxz3, hf⟩ := bnd hf
    refine E_cV (as := [.int v3]) (k := 0) (rest := []) (u' := (0, 0)) (st' := [.int z3]) dX6_two_20 (q := 23) rfl lkm_X6_seenOnlyFrom lkv_X6_196 (Nat.le_of_ble_eq_true rfl) ckX6 (hH_x.at 0 rfl) (hH_x.lt 0 (Nat.le_of_ble_eq_true rfl)) ⟨Nat.le_refl _, Nat.le_refl _⟩ (Nat.le_of_ble_eq_true rfl) rfl rfl (m_X6_seenOnlyFrom (N := N)  hH_x hH_d hxz3) rfl rfl rfl ?_
    obtain ⟨z4, hxz4, hf⟩ := bnd hf
    refine E_cS (as := [.int z3]) (rest := []) (u' := (0, 0)) (st' := [.int z4]) dX6_two_23 (q := 26) rfl lkm_J6_bitCount lks_X6_141 (Nat.le_of_ble_eq_true rfl) ⟨Nat.le_refl _, Nat.le_refl _⟩ (Nat.le_of_ble_eq_true rfl) rfl rfl (m_J6_bitCount (N := N)  hxz4) rfl rfl rfl ?_
    refine E_istore [(4, .int z4), (0, .ref (gB γ + 0)), (1, .int v1), (2, .int v2), (3, .int v3)] dX6_two_26 (q := 28) rfl (Nat.le_of_ble_eq_true rfl) rfl ?_
    refine E_iload 0 dX6_two_28 (q := 30) rfl rfl ?_
    refine E_iload_n 3 dX6_two_30 (q := 31) rfl rfl rfl ?_
    refine E_icmp_le dX6_two_31 (t := 39) (by decide) (q := 34) rfl (fun c5 => ?_) (fun c5 => ?_)
    · have hf := if_t c5 hf
      refine E_iinc 4 [(3, .int (v3 + 1)), (4, .int z4), (0, .ref (gB γ + 0)), (1, .int v1), (2, .int v2)] dX6_two_39 (q := 42) rfl rfl rfl (Nat.le_of_ble_eq_true rfl) rfl ?_
      refine E_goto (q := 7) dX6_two_42 (by decide) ?_
      exact E_sub [2, 3, 4, 0] rfl (hP _ (Option.some.inj hf).symm)
    · have hf := if_f c5 hf
      refine E_iload 0 dX6_two_34 (q := 36) rfl rfl ?_
      refine E_istore_n [(2, .int z4), (4, .int z4), (0, .ref (gB γ + 0)), (1, .int v1), (3, .int v3)] dX6_two_36 (q := 37) rfl rfl (Nat.le_of_ble_eq_true rfl) rfl ?_
      refine E_iload_n 4 dX6_two_37 (q := 38) rfl rfl rfl ?_
      refine E_istore_n [(1, .int v3), (2, .int z4), (4, .int z4), (0, .ref (gB γ + 0)), (3, .int v3)] dX6_two_38 (q := 39) rfl rfl (Nat.le_of_ble_eq_true rfl) rfl ?_
      refine E_iinc 4 [(3, .int (v3 + 1)), (1, .int v3), (2, .int z4), (4, .int z4), (0, .ref (gB γ + 0))] dX6_two_39 (q := 42) rfl rfl rfl (Nat.le_of_ble_eq_true rfl) rfl ?_
      refine E_goto (q := 7) dX6_two_42 (by decide) ?_
      exact E_sub [4, 1, 2, 0] rfl (hP _ (Option.some.inj hf).symm)
set_option maxHeartbeats 4000000 in
set_option maxRecDepth 100000 in
theorem m_X6_two {γ : GX} {n : Nat} {N : Nat} {h : HP} {x_track : Int64} {d_posts : Int32} {d_sees : FN} {d_cold : FN} {d_men : Int32} {d_debts : FN} {d_on : Int32} {d_stove : Int32} (hH_x : Has n 0 (poB γ 0 x_track) h) (hH_d : Has n 3 (dpB γ 3 d_posts d_sees d_cold d_men d_debts d_on d_stove) h) {z : Int32} (hf : f_X6_two N d_posts d_sees = some z)  : Ct γ M_X6_two n h [.ref (gB γ + 0)] (Done (some (.int z)) n h) := by
  refine Ct_of_Ev (by decide) (fun h => by cases h) (Nat.le_of_ble_eq_true rfl) ?_
  show Ev γ M_X6_two (0, 0) n h [(0, .ref (gB γ + 0))] 0 [] _
  unfold f_X6_two at hf
  refine E_bipush (x := (-9)) dX6_two_0 (q := 2) rfl (by decide) ?_
  refine E_istore_n [(1, .int (-9)), (0, .ref (gB γ + 0))] dX6_two_2 (q := 3) rfl rfl (Nat.le_of_ble_eq_true rfl) rfl ?_
  refine E_iconst (x := (-1)) dX6_two_3 (q := 4) rfl (by decide) ?_
  refine E_istore_n [(2, .int (-1)), (1, .int (-9)), (0, .ref (gB γ + 0))] dX6_two_4 (q := 5) rfl rfl (Nat.le_of_ble_eq_true rfl) rfl ?_
  refine E_iconst (x := 0) dX6_two_5 (q := 6) rfl (by decide) ?_
  refine E_istore_n [(3, .int 0), (2, .int (-1)), (1, .int (-9)), (0, .ref (gB γ + 0))] dX6_two_6 (q := 7) rfl rfl (Nat.le_of_ble_eq_true rfl) rfl ?_
  obtain ⟨t6, hxt6, hf⟩ := bnd hf
  refine E_sub [3, 2, 1, 0] rfl ?_
  refine L_X6_two_1 hH_x hH_d hxt6 ?_
  show Ev γ M_X6_two _ n h [(1, .int t6)] 45 [] _
  refine E_iload_n 0 dX6_two_45 (q := 46) rfl rfl rfl ?_
  obtain rfl := Option.some.inj hf
  exact E_iret dX6_two_46 rfl ⟨rfl, rfl, rfl⟩

-- PostRelief.unseen(II)I
def b_X6_unseen_1 (N : Nat) (p1 : Int32) (p2 : Int32) (d_posts : Int32) (d_sees : FN) (d_cold : FN) (d_men : Int32) (d_on : Int32) (d_stove : Int32) (v3 : Int32) (a_hour : Int32) (a_debts : FN) (a_guards : FN) (a_stood : FN) (a_served : FN) : Option ((Int32 × Int32 × FN × FN × FN × FN) ⊕ ((Int32 × FN × FN × FN × FN) ⊕ (Int32 × Int32 × FN × FN × FN × FN))) :=
  (if p2 ≤ v3 then some (.inr (.inl (a_hour, a_debts, a_guards, a_stood, a_served))) else ((f_X5_advance N 0 d_posts d_cold d_men d_on d_stove a_hour a_debts a_guards a_stood a_served).bind fun z14 => ((f_X5_watchedPosts N d_posts d_sees z14.2.1 z14.2.2.1).bind fun z19 => (if ((z19 >>> (p1 &&& 31)) &&& 1) = 1 then some (.inr (.inr (0, z14.1, z14.2.1, z14.2.2.1, z14.2.2.2.1, z14.2.2.2.2))) else some (.inl ((v3 + 1), z14.1, z14.2.1, z14.2.2.1, z14.2.2.2.1, z14.2.2.2.2))))))
def f_X6_unseen (N : Nat) (a1 : Int32) (a2 : Int32) (d_posts : Int32) (d_sees : FN) (d_cold : FN) (d_men : Int32) (d_on : Int32) (d_stove : Int32) (w_hour : Int32) (w_debts : FN) (w_guards : FN) (w_stood : FN) (w_served : FN) (a_hour : Int32) (a_debts : FN) (a_guards : FN) (a_stood : FN) (a_served : FN) : Option (Int32 × Int32 × FN × FN × FN × FN) :=
  ((f_X6_isPost N a1 d_posts).bind fun z1 => (if z1 = 0 then some ((-1), a_hour, a_debts, a_guards, a_stood, a_served) else ((f_X6_within N a2 1 12).bind fun z5 => (if z5 = 0 then some ((-1), a_hour, a_debts, a_guards, a_stood, a_served) else ((f_X5_become N a_hour a_debts a_guards a_stood a_served w_hour w_debts w_guards w_stood w_served).bind fun z7 => ((lp (fun s => b_X6_unseen_1 N a1 a2 d_posts d_sees d_cold d_men d_on d_stove s.1 s.2.1 s.2.2.1 s.2.2.2.1 s.2.2.2.2.1 s.2.2.2.2.2) N (0, z7.1, z7.2.1, z7.2.2.1, z7.2.2.2.1, z7.2.2.2.2)).bind (Sum.elim (fun t23e => some (1, t23e.1, t23e.2.1, t23e.2.2.1, t23e.2.2.2.1, t23e.2.2.2.2)) (fun r_ => some r_))))))))
set_option maxHeartbeats 4000000 in
set_option maxRecDepth 100000 in
theorem L_X6_unseen_1 {γ : GX} {n : Nat} {h : HP} {Ψ : PS} {N : Nat} {p1 : Int32} {p2 : Int32} {x_track : Int64} {d_posts : Int32} {d_sees : FN} {d_cold : FN} {d_men : Int32} {d_debts : FN} {d_on : Int32} {d_stove : Int32} {w_hour : Int32} {w_debts : FN} {w_guards : FN} {w_stood : FN} {w_served : FN} (hH_x : Has n 0 (poB γ 0 x_track) h) (hH_d : Has n 3 (dpB γ 3 d_posts d_sees d_cold d_men d_debts d_on d_stove) h) (hH_w : Has n 11 (wtB γ 11 w_hour w_debts w_guards w_stood w_served) h) (hn_a : 16 + 5 ≤ n) {s0 : Int32 × Int32 × FN × FN × FN × FN} {t : (Int32 × FN × FN × FN × FN) ⊕ (Int32 × Int32 × FN × FN × FN × FN)} (hf : lp (fun s => b_X6_unseen_1 N p1 p2 d_posts d_sees d_cold d_men d_on d_stove s.1 s.2.1 s.2.2.1 s.2.2.2.1 s.2.2.2.2.1 s.2.2.2.2.2) N s0 = some t) (K : Sum.elim (fun e_ => Ev γ M_X6_unseen (0, 0) n (put 16 (wtB γ 16 e_.1 e_.2.1 e_.2.2.1 e_.2.2.2.1 e_.2.2.2.2) h) [] 77 [] Ψ) (fun r_ => Ψ (some (.int r_.1)) n (put 16 (wtB γ 16 r_.2.1 r_.2.2.1 r_.2.2.2.1 r_.2.2.2.2.1 r_.2.2.2.2.2) h)) t) : Ev γ M_X6_unseen (0, 0) n (put 16 (wtB γ 16 s0.2.1 s0.2.2.1 s0.2.2.2.1 s0.2.2.2.2.1 s0.2.2.2.2.2) h) [(0, .ref (gB γ + 0)), (1, .int p1), (2, .int p2), (3, .int s0.1)] 33 [] Ψ := by
  refine E_lp (P := fun s => Ev γ M_X6_unseen (0, 0) n (put 16 (wtB γ 16 s.2.1 s.2.2.1 s.2.2.2.1 s.2.2.2.2.1 s.2.2.2.2.2) h) [(0, .ref (gB γ + 0)), (1, .int p1), (2, .int p2), (3, .int s.1)] 33 [] Ψ) (K := fun t => Sum.elim (fun e_ => Ev γ M_X6_unseen (0, 0) n (put 16 (wtB γ 16 e_.1 e_.2.1 e_.2.2.1 e_.2.2.2.1 e_.2.2.2.2) h) [] 77 [] Ψ) (fun r_ => Ψ (some (.int r_.1)) n (put 16 (wtB γ 16 r_.2.1 r_.2.2.1 r_.2.2.2.1 r_.2.2.2.2.1 r_.2.2.2.2.2) h)) t) ?_ N s0 t hf K
  intro s r hf hP hK
  obtain ⟨v3, a_hour, a_debts, a_guards, a_stood, a_served⟩ := s
  change b_X6_unseen_1 N p1 p2 d_posts d_sees d_cold d_men d_on d_stove v3 a_hour a_debts a_guards a_stood a_served = some r at hf
  unfold b_X6_unseen_1 at hf
  show Ev γ M_X6_unseen (0, 0) n (put 16 (wtB γ 16 a_hour a_debts a_guards a_stood a_served) h) [(0, .ref (gB γ + 0)), (1, .int p1), (2, .int p2), (3, .int v3)] 33 [] Ψ
  refine E_iload_n 3 dX6_unseen_33 (q := 34) rfl rfl rfl ?_
  refine E_iload_n 2 dX6_unseen_34 (q := 35) rfl rfl rfl ?_
  refine E_icmp_ge dX6_unseen_35 (t := 77) (by decide) (q := 38) rfl (fun c12 => ?_) (fun c12 => ?_)
  · have hf := if_t c12 hf
    exact E_sub [] rfl (hK _ (Option.some.inj hf).symm)
  · have hf := if_f c12 hf
    refine E_aload_n 0 dX6_unseen_38 (q := 39) rfl rfl rfl ?_
    have hF13 : Has n 0 (poB γ 0 x_track) (put 16 (wtB γ 16 a_hour a_debts a_guards a_stood a_served) h) := (has_out hH_x (Or.inl (Nat.le_of_ble_eq_true rfl)))
    refine E_get 4 dX6_unseen_39 (q := 42) rfl ckX6 (Nat.le_of_ble_eq_true rfl) fl_X6_33 (hF13.at 0 rfl) (hF13.lt 0 (Nat.le_of_ble_eq_true rfl)) rfl ?_
    refine E_aload_n 0 dX6_unseen_42 (q := 43) rfl rfl rfl ?_
    refine E_get 1 dX6_unseen_43 (q := 46) rfl ckX6 (Nat.le_of_ble_eq_true rfl) fl_X6_19 (hF13.at 0 rfl) (hF13.lt 0 (Nat.le_of_ble_eq_true rfl)) rfl ?_
    refine E_iconst (x := 0) dX6_unseen_46 (q := 47) rfl (by decide) ?_
    obtain ⟨z14, hxz14, hf⟩ := bnd hf
    have hF15 : Has n 3 (dpB γ 3 d_posts d_sees d_cold d_men d_debts d_on d_stove) (put 16 (wtB γ 16 a_hour a_debts a_guards a_stood a_served) h) := (has_out hH_d (Or.inl (Nat.le_of_ble_eq_true rfl)))
    have hF16 : Has n 16 (wtB γ 16 a_hour a_debts a_guards a_stood a_served) (put 16 (wtB γ 16 a_hour a_debts a_guards a_stood a_served) h) := (has_put hn_a)
    refine E_cV (as := [.ref (gB γ + 3), .int 0]) (k := 16) (rest := []) (u' := (0, 0)) (st' := []) dX6_unseen_47 (q := 50) rfl lkm_X5_advance lkv_X6_158 (Nat.le_of_ble_eq_true rfl) ckX5 (hF16.at 0 rfl) (hF16.lt 0 (Nat.le_of_ble_eq_true rfl)) ⟨Nat.le_refl _, Nat.le_refl _⟩ (Nat.le_of_ble_eq_true rfl) rfl rfl (m_X5_advance (N := N)  (Nat.le_of_ble_eq_true rfl) hF15 hF16 hxz14) rfl rfl rfl ?_
    refine Ev.heap (put_put (k := 16) (cs := (wtB γ 16 a_hour a_debts a_guards a_stood a_served)) (cs' := (wtB γ 16 z14.1 z14.2.1 z14.2.2.1 z14.2.2.2.1 z14.2.2.2.2)) (show (5 : Nat) = 5 from rfl)) ?_
    refine E_aload_n 0 dX6_unseen_50 (q := 51) rfl rfl rfl ?_
    have hF18 : Has n 0 (poB γ 0 x_track) (put 16 (wtB γ 16 z14.1 z14.2.1 z14.2.2.1 z14.2.2.2.1 z14.2.2.2.2) h) := (has_out hH_x (Or.inl (Nat.le_of_ble_eq_true rfl)))
    refine E_get 4 dX6_unseen_51 (q := 54) rfl ckX6 (Nat.le_of_ble_eq_true rfl) fl_X6_33 (hF18.at 0 rfl) (hF18.lt 0 (Nat.le_of_ble_eq_true rfl)) rfl ?_
    refine E_aload_n 0 dX6_unseen_54 (q := 55) rfl rfl rfl ?_
    refine E_get 1 dX6_unseen_55 (q := 58) rfl ckX6 (Nat.le_of_ble_eq_true rfl) fl_X6_19 (hF18.at 0 rfl) (hF18.lt 0 (Nat.le_of_ble_eq_true rfl)) rfl ?_
    obtain ⟨z19, hxz19, hf⟩ := bnd hf
    have hF20 : Has n 3 (dpB γ 3 d_posts d_sees d_cold d_men d_debts d_on d_stove) (put 16 (wtB γ 16 z14.1 z14.2.1 z14.2.2.1 z14.2.2.2.1 z14.2.2.2.2) h) := (has_out hH_d (Or.inl (Nat.le_of_ble_eq_true rfl)))
    have hF21 : Has n 16 (wtB γ 16 z14.1 z14.2.1 z14.2.2.1 z14.2.2.2.1 z14.2.2.2.2) (put 16 (wtB γ 16 z14.1 z14.2.1 z14.2.2.1 z14.2.2.2.1 z14.2.2.2.2) h) := (has_put hn_a)
    refine E_cV (as := [.ref (gB γ + 3)]) (k := 16) (rest := []) (u' := (0, 0)) (st' := [.int z19]) dX6_unseen_58 (q := 61) rfl lkm_X5_watchedPosts lkv_X6_127 (Nat.le_of_ble_eq_true rfl) ckX5 (hF21.at 0 rfl) (hF21.lt 0 (Nat.le_of_ble_eq_true rfl)) ⟨Nat.le_refl _, Nat.le_refl _⟩ (Nat.le_of_ble_eq_true rfl) rfl rfl (m_X5_watchedPosts (N := N)  (Nat.le_of_ble_eq_true rfl) hF20 hF21 hxz19) rfl rfl rfl ?_
    refine E_iload_n 1 dX6_unseen_61 (q := 62) rfl rfl rfl ?_
    refine E_ishr dX6_unseen_62 (q := 63) rfl ?_
    refine E_iconst (x := 1) dX6_unseen_63 (q := 64) rfl (by decide) ?_
    refine E_iand dX6_unseen_64 (q := 65) rfl ?_
    refine E_iconst (x := 1) dX6_unseen_65 (q := 66) rfl (by decide) ?_
    refine E_icmp_ne dX6_unseen_66 (t := 71) (by decide) (q := 69) rfl (fun c22 => ?_) (fun c22 => ?_)
    · have hf := if_f c22 hf
      refine E_iinc 3 [(3, .int (v3 + 1)), (0, .ref (gB γ + 0)), (1, .int p1), (2, .int p2)] dX6_unseen_71 (q := 74) rfl rfl rfl (Nat.le_of_ble_eq_true rfl) rfl ?_
      refine E_goto (q := 33) dX6_unseen_74 (by decide) ?_
      exact E_sub [1, 2, 3, 0] rfl (hP _ (Option.some.inj hf).symm)
    · have hf := if_t c22 hf
      refine E_iconst (x := 0) dX6_unseen_69 (q := 70) rfl (by decide) ?_
      exact E_iret dX6_unseen_70 rfl (hK _ (Option.some.inj hf).symm)
set_option maxHeartbeats 4000000 in
set_option maxRecDepth 100000 in
theorem m_X6_unseen {γ : GX} {n : Nat} {N : Nat} {h : HP} {a1 : Int32} {a2 : Int32} {x_track : Int64} {d_posts : Int32} {d_sees : FN} {d_cold : FN} {d_men : Int32} {d_debts : FN} {d_on : Int32} {d_stove : Int32} {w_hour : Int32} {w_debts : FN} {w_guards : FN} {w_stood : FN} {w_served : FN} {a_hour : Int32} {a_debts : FN} {a_guards : FN} {a_stood : FN} {a_served : FN} (hH_x : Has n 0 (poB γ 0 x_track) h) (hH_d : Has n 3 (dpB γ 3 d_posts d_sees d_cold d_men d_debts d_on d_stove) h) (hH_w : Has n 11 (wtB γ 11 w_hour w_debts w_guards w_stood w_served) h) (hH_a : Has n 16 (wtB γ 16 a_hour a_debts a_guards a_stood a_served) h) {z : Int32 × Int32 × FN × FN × FN × FN} (hf : f_X6_unseen N a1 a2 d_posts d_sees d_cold d_men d_on d_stove w_hour w_debts w_guards w_stood w_served a_hour a_debts a_guards a_stood a_served = some z)  : Ct γ M_X6_unseen n h [.ref (gB γ + 0), .int a1, .int a2] (Done (some (.int z.1)) n (put 16 (wtB γ 16 z.2.1 z.2.2.1 z.2.2.2.1 z.2.2.2.2.1 z.2.2.2.2.2) h)) := by
  have hn_a : 16 + 5 ≤ n := hH_a.1
  refine Ct.heap (h := (put 16 (wtB γ 16 a_hour a_debts a_guards a_stood a_served) h)) (put_self hH_a).symm ?_
  refine Ct_of_Ev (by decide) (fun h => by cases h) (Nat.le_of_ble_eq_true rfl) ?_
  show Ev γ M_X6_unseen (0, 0) n (put 16 (wtB γ 16 a_hour a_debts a_guards a_stood a_served) h) [(0, .ref (gB γ + 0)), (1, .int a1), (2, .int a2)] 0 [] _
  unfold f_X6_unseen at hf
  refine E_aload_n 0 dX6_unseen_0 (q := 1) rfl rfl rfl ?_
  refine E_iload_n 1 dX6_unseen_1 (q := 2) rfl rfl rfl ?_
  obtain ⟨z1, hxz1, hf⟩ := bnd hf
  have hF2 : Has n 0 (poB γ 0 x_track) (put 16 (wtB γ 16 a_hour a_debts a_guards a_stood a_served) h) := (has_out hH_x (Or.inl (Nat.le_of_ble_eq_true rfl)))
  have hF3 : Has n 3 (dpB γ 3 d_posts d_sees d_cold d_men d_debts d_on d_stove) (put 16 (wtB γ 16 a_hour a_debts a_guards a_stood a_served) h) := (has_out hH_d (Or.inl (Nat.le_of_ble_eq_true rfl)))
  refine E_cV (as := [.int a1]) (k := 0) (rest := []) (u' := (0, 0)) (st' := [.int z1]) dX6_unseen_2 (q := 5) rfl lkm_X6_isPost lkv_X6_88 (Nat.le_of_ble_eq_true rfl) ckX6 (hF2.at 0 rfl) (hF2.lt 0 (Nat.le_of_ble_eq_true rfl)) ⟨Nat.le_refl _, Nat.le_refl _⟩ (Nat.le_of_ble_eq_true rfl) rfl rfl (m_X6_isPost (N := N)  hF2 hF3 hxz1) rfl rfl rfl ?_
  refine E_if_eq dX6_unseen_5 (t := 18) (by decide) (q := 8) rfl (fun c4 => ?_) (fun c4 => ?_)
  · have hf := if_t c4 hf
    refine E_iconst (x := (-1)) dX6_unseen_18 (q := 19) rfl (by decide) ?_
    obtain rfl := Option.some.inj hf
    exact E_iret dX6_unseen_19 rfl ⟨rfl, rfl, rfl⟩
  · have hf := if_f c4 hf
    refine E_iload_n 2 dX6_unseen_8 (q := 9) rfl rfl rfl ?_
    refine E_iconst (x := 1) dX6_unseen_9 (q := 10) rfl (by decide) ?_
    refine E_bipush (x := 12) dX6_unseen_10 (q := 12) rfl (by decide) ?_
    obtain ⟨z5, hxz5, hf⟩ := bnd hf
    refine E_cS (as := [.int a2, .int 1, .int 12]) (rest := []) (u' := (0, 0)) (st' := [.int z5]) dX6_unseen_12 (q := 15) rfl lkm_X6_within lks_X6_65 (Nat.le_of_ble_eq_true rfl) ⟨Nat.le_refl _, Nat.le_refl _⟩ (Nat.le_of_ble_eq_true rfl) rfl rfl (m_X6_within (N := N)  hxz5) rfl rfl rfl ?_
    refine E_if_ne dX6_unseen_15 (t := 20) (by decide) (q := 18) rfl (fun c6 => ?_) (fun c6 => ?_)
    · have hf := if_f c6 hf
      refine E_aload_n 0 dX6_unseen_20 (q := 21) rfl rfl rfl ?_
      refine E_get 4 dX6_unseen_21 (q := 24) rfl ckX6 (Nat.le_of_ble_eq_true rfl) fl_X6_33 (hF2.at 0 rfl) (hF2.lt 0 (Nat.le_of_ble_eq_true rfl)) rfl ?_
      refine E_aload_n 0 dX6_unseen_24 (q := 25) rfl rfl rfl ?_
      refine E_get 3 dX6_unseen_25 (q := 28) rfl ckX6 (Nat.le_of_ble_eq_true rfl) fl_X6_29 (hF2.at 0 rfl) (hF2.lt 0 (Nat.le_of_ble_eq_true rfl)) rfl ?_
      obtain ⟨z7, hxz7, hf⟩ := bnd hf
      have hF8 : Has n 16 (wtB γ 16 a_hour a_debts a_guards a_stood a_served) (put 16 (wtB γ 16 a_hour a_debts a_guards a_stood a_served) h) := (has_put hn_a)
      have hF9 : Has n 11 (wtB γ 11 w_hour w_debts w_guards w_stood w_served) (put 16 (wtB γ 16 a_hour a_debts a_guards a_stood a_served) h) := (has_out hH_w (Or.inl (Nat.le_of_ble_eq_true rfl)))
      refine E_cV (as := [.ref (gB γ + 11)]) (k := 16) (rest := []) (u' := (0, 0)) (st' := []) dX6_unseen_28 (q := 31) rfl lkm_X5_become lkv_X6_156 (Nat.le_of_ble_eq_true rfl) ckX5 (hF8.at 0 rfl) (hF8.lt 0 (Nat.le_of_ble_eq_true rfl)) ⟨Nat.le_refl _, Nat.le_refl _⟩ (Nat.le_of_ble_eq_true rfl) rfl rfl (m_X5_become (N := N)  (Nat.le_of_ble_eq_true rfl) (by omega) hF8 hF9 hxz7) rfl rfl rfl ?_
      refine Ev.heap (put_put (k := 16) (cs := (wtB γ 16 a_hour a_debts a_guards a_stood a_served)) (cs' := (wtB γ 16 z7.1 z7.2.1 z7.2.2.1 z7.2.2.2.1 z7.2.2.2.2)) (show (5 : Nat) = 5 from rfl)) ?_
      refine E_iconst (x := 0) dX6_unseen_31 (q := 32) rfl (by decide) ?_
      refine E_istore_n [(3, .int 0), (0, .ref (gB γ + 0)), (1, .int a1), (2, .int a2)] dX6_unseen_32 (q := 33) rfl rfl (Nat.le_of_ble_eq_true rfl) rfl ?_
      obtain ⟨t23, hxt23, hf⟩ := bnd hf
      rcases t23 with t23e | t23r
      · replace hf := sum_l hf
        refine E_sub [1, 2, 3, 0] rfl ?_
        refine L_X6_unseen_1 hH_x hH_d hH_w hn_a hxt23 ?_
        show Ev γ M_X6_unseen _ n (put 16 (wtB γ 16 t23e.1 t23e.2.1 t23e.2.2.1 t23e.2.2.2.1 t23e.2.2.2.2) h) [] 77 [] _
        refine E_iconst (x := 1) dX6_unseen_77 (q := 78) rfl (by decide) ?_
        obtain rfl := Option.some.inj hf
        exact E_iret dX6_unseen_78 rfl ⟨rfl, rfl, rfl⟩
      · replace hf := sum_r hf
        obtain rfl := Option.some.inj hf
        refine E_sub [1, 2, 3, 0] rfl ?_
        refine L_X6_unseen_1 hH_x hH_d hH_w hn_a hxt23 ?_
        exact ⟨rfl, rfl, rfl⟩
    · have hf := if_t c6 hf
      refine E_iconst (x := (-1)) dX6_unseen_18 (q := 19) rfl (by decide) ?_
      obtain rfl := Option.some.inj hf
      exact E_iret dX6_unseen_19 rfl ⟨rfl, rfl, rfl⟩

-- PostRelief.odds(II)I
def b_X6_odds_1 (N : Nat) (p1 : Int32) (p2 : Int32) (p3 : Int32) (p4 : Int32) (d_posts : Int32) (d_sees : FN) (v5 : Int32) (v6 : Int32) : Option ((Int32 × Int32) ⊕ (Int32)) :=
  ((f_X0_allPosts N d_posts).bind fun z8 => (if z8 < v6 then some (.inr v5) else (if (v6 &&& (p3 ^^^ (-1))) = 0 then ((f_X0_watchedBy N (p4 ||| v6) d_posts d_sees).bind fun z11 => ((f_X0_allPosts N d_posts).bind fun z12 => (if z11 = z12 then ((f_X6_weightOfWaking N v6 p3 p1).bind fun z14 => some (.inl ((v5 + z14), (v6 + 1)))) else some (.inl (v5, (v6 + 1)))))) else some (.inl (v5, (v6 + 1))))))
def f_X6_odds (N : Nat) (a1 : Int32) (a2 : Int32) (d_posts : Int32) (d_sees : FN) (w_debts : FN) (w_guards : FN) : Option (Int32) :=
  ((f_X6_within N a1 0 10).bind fun z1 => (if z1 = 0 then some (-1) else ((f_X6_within N a2 0 1).bind fun z3 => (if z3 = 0 then some (-1) else ((f_X5_sleepingPosts N w_debts w_guards).bind fun z5 => ((f_X5_mannedPosts N w_guards).bind fun z6 => ((lp (fun s => b_X6_odds_1 N a1 a2 z5 (z6 &&& (z5 ^^^ (-1))) d_posts d_sees s.1 s.2) N (0, 0)).bind fun t15 => ((f_J6_bitCount N z5).bind fun z17 => ((f_X6_power N 10 z17).bind fun z18 => ((f_X6_leastTerms N t15 z18 a2).bind fun z19 => some z19))))))))))
set_option maxHeartbeats 4000000 in
set_option maxRecDepth 100000 in
theorem L_X6_odds_1 {γ : GX} {n : Nat} {h : HP} {Ψ : PS} {N : Nat} {p1 : Int32} {p2 : Int32} {p3 : Int32} {p4 : Int32} {x_track : Int64} {d_posts : Int32} {d_sees : FN} {d_cold : FN} {d_men : Int32} {d_debts : FN} {d_on : Int32} {d_stove : Int32} {w_hour : Int32} {w_debts : FN} {w_guards : FN} {w_stood : FN} {w_served : FN} (hH_x : Has n 0 (poB γ 0 x_track) h) (hH_d : Has n 3 (dpB γ 3 d_posts d_sees d_cold d_men d_debts d_on d_stove) h) (hH_w : Has n 11 (wtB γ 11 w_hour w_debts w_guards w_stood w_served) h) {s0 : Int32 × Int32} {t : Int32} (hf : lp (fun s => b_X6_odds_1 N p1 p2 p3 p4 d_posts d_sees s.1 s.2) N s0 = some t) (K : Ev γ M_X6_odds (0, 0) n h [(2, .int p2), (3, .int p3), (5, .int t)] 121 [] Ψ) : Ev γ M_X6_odds (0, 0) n h [(0, .ref (gB γ + 0)), (1, .int p1), (2, .int p2), (3, .int p3), (4, .int p4), (5, .int s0.1), (6, .int s0.2)] 48 [] Ψ := by
  refine E_lp (P := fun s => Ev γ M_X6_odds (0, 0) n h [(0, .ref (gB γ + 0)), (1, .int p1), (2, .int p2), (3, .int p3), (4, .int p4), (5, .int s.1), (6, .int s.2)] 48 [] Ψ) (K := fun t => Ev γ M_X6_odds (0, 0) n h [(2, .int p2), (3, .int p3), (5, .int t)] 121 [] Ψ) ?_ N s0 t hf K
  intro s r hf hP hK
  obtain ⟨v5, v6⟩ := s
  change b_X6_odds_1 N p1 p2 p3 p4 d_posts d_sees v5 v6 = some r at hf
  unfold b_X6_odds_1 at hf
  show Ev γ M_X6_odds (0, 0) n h [(0, .ref (gB γ + 0)), (1, .int p1), (2, .int p2), (3, .int p3), (4, .int p4), (5, .int v5), (6, .int v6)] 48 [] Ψ
  refine E_iload 6 dX6_odds_48 (q := 50) rfl rfl ?_
  refine E_aload_n 0 dX6_odds_50 (q := 51) rfl rfl rfl ?_
  refine E_get 1 dX6_odds_51 (q := 54) rfl ckX6 (Nat.le_of_ble_eq_true rfl) fl_X6_19 (hH_x.at 0 rfl) (hH_x.lt 0 (Nat.le_of_ble_eq_true rfl)) rfl ?_
  obtain ⟨z8, hxz8, hf⟩ := bnd hf
  refine E_cV (as := []) (k := 3) (rest := [.int v6]) (u' := (0, 0)) (st' := [.int z8, .int v6]) dX6_odds_54 (q := 57) rfl lkm_X0_allPosts lkv_X6_190 (Nat.le_of_ble_eq_true rfl) ckX0 (hH_d.at 0 rfl) (hH_d.lt 0 (Nat.le_of_ble_eq_true rfl)) ⟨Nat.le_refl _, Nat.le_refl _⟩ (Nat.le_of_ble_eq_true rfl) rfl rfl (m_X0_allPosts (N := N)  hH_d hxz8) rfl rfl rfl ?_
  refine E_icmp_gt dX6_odds_57 (t := 121) (by decide) (q := 60) rfl (fun c9 => ?_) (fun c9 => ?_)
  · have hf := if_t c9 hf
    exact E_sub [2, 3, 5] rfl (hK _ (Option.some.inj hf).symm)
  · have hf := if_f c9 hf
    refine E_iload 6 dX6_odds_60 (q := 62) rfl rfl ?_
    refine E_iload_n 3 dX6_odds_62 (q := 63) rfl rfl rfl ?_
    refine E_iconst (x := (-1)) dX6_odds_63 (q := 64) rfl (by decide) ?_
    refine E_ixor dX6_odds_64 (q := 65) rfl ?_
    refine E_iand dX6_odds_65 (q := 66) rfl ?_
    refine E_if_ne dX6_odds_66 (t := 73) (by decide) (q := 69) rfl (fun c10 => ?_) (fun c10 => ?_)
    · have hf := if_f c10 hf
      refine E_iconst (x := 0) dX6_odds_73 (q := 74) rfl (by decide) ?_
      refine E_istore [(7, .int 0), (0, .ref (gB γ + 0)), (1, .int p1), (2, .int p2), (3, .int p3), (4, .int p4), (5, .int v5), (6, .int v6)] dX6_odds_74 (q := 76) rfl (Nat.le_of_ble_eq_true rfl) rfl ?_
      refine E_iload 0 dX6_odds_76 (q := 78) rfl rfl ?_
      refine E_if_eq dX6_odds_78 (t := 115) (by decide) (q := 81) rfl (fun _ => ?_) (fun c => absurd c (by decide))
      refine E_iinc 7 [(6, .int (v6 + 1)), (7, .int 0), (0, .ref (gB γ + 0)), (1, .int p1), (2, .int p2), (3, .int p3), (4, .int p4), (5, .int v5)] dX6_odds_115 (q := 118) rfl rfl rfl (Nat.le_of_ble_eq_true rfl) rfl ?_
      refine E_goto (q := 48) dX6_odds_118 (by decide) ?_
      exact E_sub [2, 3, 4, 5, 6, 7, 0] rfl (hP _ (Option.some.inj hf).symm)
    · have hf := if_t c10 hf
      refine E_iconst (x := 1) dX6_odds_69 (q := 70) rfl (by decide) ?_
      refine E_goto (q := 74) dX6_odds_70 (by decide) ?_
      refine E_istore [(7, .int 1), (0, .ref (gB γ + 0)), (1, .int p1), (2, .int p2), (3, .int p3), (4, .int p4), (5, .int v5), (6, .int v6)] dX6_odds_74 (q := 76) rfl (Nat.le_of_ble_eq_true rfl) rfl ?_
      refine E_iload 0 dX6_odds_76 (q := 78) rfl rfl ?_
      refine E_if_eq dX6_odds_78 (t := 115) (by decide) (q := 81) rfl (fun c => absurd c (by decide)) (fun _ => ?_)
      refine E_aload_n 1 dX6_odds_81 (q := 82) rfl rfl rfl ?_
      refine E_get 1 dX6_odds_82 (q := 85) rfl ckX6 (Nat.le_of_ble_eq_true rfl) fl_X6_19 (hH_x.at 0 rfl) (hH_x.lt 0 (Nat.le_of_ble_eq_true rfl)) rfl ?_
      refine E_iload 5 dX6_odds_85 (q := 87) rfl rfl ?_
      refine E_iload 7 dX6_odds_87 (q := 89) rfl rfl ?_
      refine E_ior dX6_odds_89 (q := 90) rfl ?_
      obtain ⟨z11, hxz11, hf⟩ := bnd hf
      refine E_cV (as := [.int (p4 ||| v6)]) (k := 3) (rest := []) (u' := (0, 0)) (st' := [.int z11]) dX6_odds_90 (q := 93) rfl lkm_X0_watchedBy lkv_X6_199 (Nat.le_of_ble_eq_true rfl) ckX0 (hH_d.at 0 rfl) (hH_d.lt 0 (Nat.le_of_ble_eq_true rfl)) ⟨Nat.le_refl _, Nat.le_refl _⟩ (Nat.le_of_ble_eq_true rfl) rfl rfl (m_X0_watchedBy (N := N)  hH_d hxz11) rfl rfl rfl ?_
      refine E_aload_n 1 dX6_odds_93 (q := 94) rfl rfl rfl ?_
      refine E_get 1 dX6_odds_94 (q := 97) rfl ckX6 (Nat.le_of_ble_eq_true rfl) fl_X6_19 (hH_x.at 0 rfl) (hH_x.lt 0 (Nat.le_of_ble_eq_true rfl)) rfl ?_
      obtain ⟨z12, hxz12, hf⟩ := bnd hf
      refine E_cV (as := []) (k := 3) (rest := [.int z11]) (u' := (0, 0)) (st' := [.int z12, .int z11]) dX6_odds_97 (q := 100) rfl lkm_X0_allPosts lkv_X6_190 (Nat.le_of_ble_eq_true rfl) ckX0 (hH_d.at 0 rfl) (hH_d.lt 0 (Nat.le_of_ble_eq_true rfl)) ⟨Nat.le_refl _, Nat.le_refl _⟩ (Nat.le_of_ble_eq_true rfl) rfl rfl (m_X0_allPosts (N := N)  hH_d hxz12) rfl rfl rfl ?_
      refine E_icmp_ne dX6_odds_100 (t := 115) (by decide) (q := 103) rfl (fun c13 => ?_) (fun c13 => ?_)
      · have hf := if_f c13 hf
        refine E_iinc 7 [(6, .int (v6 + 1)), (7, .int 1), (0, .ref (gB γ + 0)), (1, .int p1), (2, .int p2), (3, .int p3), (4, .int p4), (5, .int v5)] dX6_odds_115 (q := 118) rfl rfl rfl (Nat.le_of_ble_eq_true rfl) rfl ?_
        refine E_goto (q := 48) dX6_odds_118 (by decide) ?_
        exact E_sub [2, 3, 4, 5, 6, 7, 0] rfl (hP _ (Option.some.inj hf).symm)
      · have hf := if_t c13 hf
        refine E_iload 6 dX6_odds_103 (q := 105) rfl rfl ?_
        refine E_iload 7 dX6_odds_105 (q := 107) rfl rfl ?_
        refine E_iload_n 4 dX6_odds_107 (q := 108) rfl rfl rfl ?_
        refine E_iload_n 2 dX6_odds_108 (q := 109) rfl rfl rfl ?_
        obtain ⟨z14, hxz14, hf⟩ := bnd hf
        refine E_cS (as := [.int v6, .int p3, .int p1]) (rest := [.int v5]) (u' := (0, 0)) (st' := [.int z14, .int v5]) dX6_odds_109 (q := 112) rfl lkm_X6_weightOfWaking lks_X6_202 (Nat.le_of_ble_eq_true rfl) ⟨Nat.le_refl _, Nat.le_refl _⟩ (Nat.le_of_ble_eq_true rfl) rfl rfl (m_X6_weightOfWaking (N := N)  hxz14) rfl rfl rfl ?_
        refine E_iadd dX6_odds_112 (q := 113) rfl ?_
        refine E_istore [(5, .int (v5 + z14)), (7, .int 1), (0, .ref (gB γ + 0)), (1, .int p1), (2, .int p2), (3, .int p3), (4, .int p4), (6, .int v6)] dX6_odds_113 (q := 115) rfl (Nat.le_of_ble_eq_true rfl) rfl ?_
        refine E_iinc 7 [(6, .int (v6 + 1)), (5, .int (v5 + z14)), (7, .int 1), (0, .ref (gB γ + 0)), (1, .int p1), (2, .int p2), (3, .int p3), (4, .int p4)] dX6_odds_115 (q := 118) rfl rfl rfl (Nat.le_of_ble_eq_true rfl) rfl ?_
        refine E_goto (q := 48) dX6_odds_118 (by decide) ?_
        exact E_sub [3, 4, 5, 6, 7, 1, 0] rfl (hP _ (Option.some.inj hf).symm)
set_option maxHeartbeats 4000000 in
set_option maxRecDepth 100000 in
theorem m_X6_odds {γ : GX} {n : Nat} {N : Nat} {h : HP} {a1 : Int32} {a2 : Int32} {x_track : Int64} {d_posts : Int32} {d_sees : FN} {d_cold : FN} {d_men : Int32} {d_debts : FN} {d_on : Int32} {d_stove : Int32} {w_hour : Int32} {w_debts : FN} {w_guards : FN} {w_stood : FN} {w_served : FN} (hH_x : Has n 0 (poB γ 0 x_track) h) (hH_d : Has n 3 (dpB γ 3 d_posts d_sees d_cold d_men d_debts d_on d_stove) h) (hH_w : Has n 11 (wtB γ 11 w_hour w_debts w_guards w_stood w_served) h) {z : Int32} (hf : f_X6_odds N a1 a2 d_posts d_sees w_debts w_guards = some z)  : Ct γ M_X6_odds n h [.ref (gB γ + 0), .int a1, .int a2] (Done (some (.int z)) n h) := by
  refine Ct_of_Ev (by decide) (fun h => by cases h) (Nat.le_of_ble_eq_true rfl) ?_
  show Ev γ M_X6_odds (0, 0) n h [(0, .ref (gB γ + 0)), (1, .int a1), (2, .int a2)] 0 [] _
  unfold f_X6_odds at hf
  refine E_iload_n 1 dX6_odds_0 (q := 1) rfl rfl rfl ?_
  refine E_iconst (x := 0) dX6_odds_1 (q := 2) rfl (by decide) ?_
  refine E_bipush (x := 10) dX6_odds_2 (q := 4) rfl (by decide) ?_
  obtain ⟨z1, hxz1, hf⟩ := bnd hf
  refine E_cS (as := [.int a1, .int 0, .int 10]) (rest := []) (u' := (0, 0)) (st' := [.int z1]) dX6_odds_4 (q := 7) rfl lkm_X6_within lks_X6_65 (Nat.le_of_ble_eq_true rfl) ⟨Nat.le_refl _, Nat.le_refl _⟩ (Nat.le_of_ble_eq_true rfl) rfl rfl (m_X6_within (N := N)  hxz1) rfl rfl rfl ?_
  refine E_if_eq dX6_odds_7 (t := 19) (by decide) (q := 10) rfl (fun c2 => ?_) (fun c2 => ?_)
  · have hf := if_t c2 hf
    refine E_iconst (x := (-1)) dX6_odds_19 (q := 20) rfl (by decide) ?_
    obtain rfl := Option.some.inj hf
    exact E_iret dX6_odds_20 rfl ⟨rfl, rfl, rfl⟩
  · have hf := if_f c2 hf
    refine E_iload_n 2 dX6_odds_10 (q := 11) rfl rfl rfl ?_
    refine E_iconst (x := 0) dX6_odds_11 (q := 12) rfl (by decide) ?_
    refine E_iconst (x := 1) dX6_odds_12 (q := 13) rfl (by decide) ?_
    obtain ⟨z3, hxz3, hf⟩ := bnd hf
    refine E_cS (as := [.int a2, .int 0, .int 1]) (rest := []) (u' := (0, 0)) (st' := [.int z3]) dX6_odds_13 (q := 16) rfl lkm_X6_within lks_X6_65 (Nat.le_of_ble_eq_true rfl) ⟨Nat.le_refl _, Nat.le_refl _⟩ (Nat.le_of_ble_eq_true rfl) rfl rfl (m_X6_within (N := N)  hxz3) rfl rfl rfl ?_
    refine E_if_ne dX6_odds_16 (t := 21) (by decide) (q := 19) rfl (fun c4 => ?_) (fun c4 => ?_)
    · have hf := if_f c4 hf
      refine E_aload_n 0 dX6_odds_21 (q := 22) rfl rfl rfl ?_
      refine E_get 3 dX6_odds_22 (q := 25) rfl ckX6 (Nat.le_of_ble_eq_true rfl) fl_X6_29 (hH_x.at 0 rfl) (hH_x.lt 0 (Nat.le_of_ble_eq_true rfl)) rfl ?_
      obtain ⟨z5, hxz5, hf⟩ := bnd hf
      refine E_cV (as := []) (k := 11) (rest := []) (u' := (0, 0)) (st' := [.int z5]) dX6_odds_25 (q := 28) rfl lkm_X5_sleepingPosts lkv_X6_124 (Nat.le_of_ble_eq_true rfl) ckX5 (hH_w.at 0 rfl) (hH_w.lt 0 (Nat.le_of_ble_eq_true rfl)) ⟨Nat.le_refl _, Nat.le_refl _⟩ (Nat.le_of_ble_eq_true rfl) rfl rfl (m_X5_sleepingPosts (N := N)  (Nat.le_of_ble_eq_true rfl) hH_w hxz5) rfl rfl rfl ?_
      refine E_istore_n [(3, .int z5), (0, .ref (gB γ + 0)), (1, .int a1), (2, .int a2)] dX6_odds_28 (q := 29) rfl rfl (Nat.le_of_ble_eq_true rfl) rfl ?_
      refine E_aload_n 1 dX6_odds_29 (q := 30) rfl rfl rfl ?_
      refine E_get 3 dX6_odds_30 (q := 33) rfl ckX6 (Nat.le_of_ble_eq_true rfl) fl_X6_29 (hH_x.at 0 rfl) (hH_x.lt 0 (Nat.le_of_ble_eq_true rfl)) rfl ?_
      obtain ⟨z6, hxz6, hf⟩ := bnd hf
      refine E_cV (as := []) (k := 11) (rest := []) (u' := (0, 0)) (st' := [.int z6]) dX6_odds_33 (q := 36) rfl lkm_X5_mannedPosts lkv_X6_120 (Nat.le_of_ble_eq_true rfl) ckX5 (hH_w.at 0 rfl) (hH_w.lt 0 (Nat.le_of_ble_eq_true rfl)) ⟨Nat.le_refl _, Nat.le_refl _⟩ (Nat.le_of_ble_eq_true rfl) rfl rfl (m_X5_mannedPosts (N := N)  (Nat.le_of_ble_eq_true rfl) hH_w hxz6) rfl rfl rfl ?_
      refine E_iload_n 0 dX6_odds_36 (q := 37) rfl rfl rfl ?_
      refine E_iconst (x := (-1)) dX6_odds_37 (q := 38) rfl (by decide) ?_
      refine E_ixor dX6_odds_38 (q := 39) rfl ?_
      refine E_iand dX6_odds_39 (q := 40) rfl ?_
      refine E_istore [(4, .int (z6 &&& (z5 ^^^ (-1)))), (3, .int z5), (0, .ref (gB γ + 0)), (1, .int a1), (2, .int a2)] dX6_odds_40 (q := 42) rfl (Nat.le_of_ble_eq_true rfl) rfl ?_
      refine E_iconst (x := 0) dX6_odds_42 (q := 43) rfl (by decide) ?_
      refine E_istore [(5, .int 0), (4, .int (z6 &&& (z5 ^^^ (-1)))), (3, .int z5), (0, .ref (gB γ + 0)), (1, .int a1), (2, .int a2)] dX6_odds_43 (q := 45) rfl (Nat.le_of_ble_eq_true rfl) rfl ?_
      refine E_iconst (x := 0) dX6_odds_45 (q := 46) rfl (by decide) ?_
      refine E_istore [(6, .int 0), (5, .int 0), (4, .int (z6 &&& (z5 ^^^ (-1)))), (3, .int z5), (0, .ref (gB γ + 0)), (1, .int a1), (2, .int a2)] dX6_odds_46 (q := 48) rfl (Nat.le_of_ble_eq_true rfl) rfl ?_
      obtain ⟨t15, hxt15, hf⟩ := bnd hf
      refine E_sub [4, 5, 6, 3, 2, 1, 0] rfl ?_
      refine L_X6_odds_1 hH_x hH_d hH_w hxt15 ?_
      show Ev γ M_X6_odds _ n h [(2, .int a2), (3, .int z5), (5, .int t15)] 121 [] _
      refine E_iload 2 dX6_odds_121 (q := 123) rfl rfl ?_
      refine E_bipush (x := 10) dX6_odds_123 (q := 125) rfl (by decide) ?_
      refine E_iload_n 1 dX6_odds_125 (q := 126) rfl rfl rfl ?_
      obtain ⟨z17, hxz17, hf⟩ := bnd hf
      refine E_cS (as := [.int z5]) (rest := [.int 10, .int t15]) (u' := (0, 0)) (st' := [.int z17, .int 10, .int t15]) dX6_odds_126 (q := 129) rfl lkm_J6_bitCount lks_X6_141 (Nat.le_of_ble_eq_true rfl) ⟨Nat.le_refl _, Nat.le_refl _⟩ (Nat.le_of_ble_eq_true rfl) rfl rfl (m_J6_bitCount (N := N)  hxz17) rfl rfl rfl ?_
      obtain ⟨z18, hxz18, hf⟩ := bnd hf
      refine E_cS (as := [.int 10, .int z17]) (rest := [.int t15]) (u' := (0, 0)) (st' := [.int z18, .int t15]) dX6_odds_129 (q := 132) rfl lkm_X6_power lks_X6_206 (Nat.le_of_ble_eq_true rfl) ⟨Nat.le_refl _, Nat.le_refl _⟩ (Nat.le_of_ble_eq_true rfl) rfl rfl (m_X6_power (N := N)  hxz18) rfl rfl rfl ?_
      refine E_iload_n 0 dX6_odds_132 (q := 133) rfl rfl rfl ?_
      obtain ⟨z19, hxz19, hf⟩ := bnd hf
      refine E_cS (as := [.int t15, .int z18, .int a2]) (rest := []) (u' := (0, 0)) (st' := [.int z19]) dX6_odds_133 (q := 136) rfl lkm_X6_leastTerms lks_X6_209 (Nat.le_of_ble_eq_true rfl) ⟨Nat.le_refl _, Nat.le_refl _⟩ (Nat.le_of_ble_eq_true rfl) rfl rfl (m_X6_leastTerms (N := N)  hxz19) rfl rfl rfl ?_
      obtain rfl := Option.some.inj hf
      exact E_iret dX6_odds_136 rfl ⟨rfl, rfl, rfl⟩
    · have hf := if_t c4 hf
      refine E_iconst (x := (-1)) dX6_odds_19 (q := 20) rfl (by decide) ?_
      obtain rfl := Option.some.inj hf
      exact E_iret dX6_odds_20 rfl ⟨rfl, rfl, rfl⟩

-- PostRelief.creep(II)I
def b_X6_creep_1 (N : Nat) (p1 : Int32) (p2 : Int32) (d_posts : Int32) (d_cold : FN) (d_men : Int32) (d_on : Int32) (d_stove : Int32) (v3 : Int32) (a_hour : Int32) (a_debts : FN) (a_guards : FN) (a_stood : FN) (a_served : FN) : Option ((Int32 × Int32 × FN × FN × FN × FN) ⊕ ((Int32 × FN × FN × FN × FN) ⊕ (Int32 × Int32 × FN × FN × FN × FN))) :=
  (if p1 < v3 then some (.inr (.inl (a_hour, a_debts, a_guards, a_stood, a_served))) else ((f_X5_sleepingPosts N a_debts a_guards).bind fun z13 => (if z13 = 0 then ((f_X5_advance N 1 d_posts d_cold d_men d_on d_stove a_hour a_debts a_guards a_stood a_served).bind fun z16 => some (.inl ((v3 + 1), z16.1, z16.2.1, z16.2.2.1, z16.2.2.2.1, z16.2.2.2.2))) else (if p2 = 0 then some (.inr (.inr (v3, a_hour, a_debts, a_guards, a_stood, a_served))) else ((f_J6_numberOfTrailingZeros N z13).bind fun z20 => some (.inr (.inr (z20, a_hour, a_debts, a_guards, a_stood, a_served))))))))
def f_X6_creep (N : Nat) (a1 : Int32) (a2 : Int32) (d_posts : Int32) (d_cold : FN) (d_men : Int32) (d_on : Int32) (d_stove : Int32) (w_hour : Int32) (w_debts : FN) (w_guards : FN) (w_stood : FN) (w_served : FN) (a_hour : Int32) (a_debts : FN) (a_guards : FN) (a_stood : FN) (a_served : FN) : Option (Int32 × Int32 × FN × FN × FN × FN) :=
  ((f_X6_within N a1 1 24).bind fun z1 => (if z1 = 0 then some ((-1), a_hour, a_debts, a_guards, a_stood, a_served) else ((f_X6_within N a2 0 1).bind fun z3 => (if z3 = 0 then some ((-1), a_hour, a_debts, a_guards, a_stood, a_served) else ((f_X5_become N a_hour a_debts a_guards a_stood a_served w_hour w_debts w_guards w_stood w_served).bind fun z6 => ((lp (fun s => b_X6_creep_1 N a1 a2 d_posts d_cold d_men d_on d_stove s.1 s.2.1 s.2.2.1 s.2.2.2.1 s.2.2.2.2.1 s.2.2.2.2.2) N (0, z6.1, z6.2.1, z6.2.2.1, z6.2.2.2.1, z6.2.2.2.2)).bind (Sum.elim (fun t21e => some ((-9), t21e.1, t21e.2.1, t21e.2.2.1, t21e.2.2.2.1, t21e.2.2.2.2)) (fun r_ => some r_))))))))
set_option maxHeartbeats 4000000 in
set_option maxRecDepth 100000 in
theorem L_X6_creep_1 {γ : GX} {n : Nat} {h : HP} {Ψ : PS} {N : Nat} {p1 : Int32} {p2 : Int32} {x_track : Int64} {d_posts : Int32} {d_sees : FN} {d_cold : FN} {d_men : Int32} {d_debts : FN} {d_on : Int32} {d_stove : Int32} {w_hour : Int32} {w_debts : FN} {w_guards : FN} {w_stood : FN} {w_served : FN} (hH_x : Has n 0 (poB γ 0 x_track) h) (hH_d : Has n 3 (dpB γ 3 d_posts d_sees d_cold d_men d_debts d_on d_stove) h) (hH_w : Has n 11 (wtB γ 11 w_hour w_debts w_guards w_stood w_served) h) (hn_a : 16 + 5 ≤ n) {s0 : Int32 × Int32 × FN × FN × FN × FN} {t : (Int32 × FN × FN × FN × FN) ⊕ (Int32 × Int32 × FN × FN × FN × FN)} (hf : lp (fun s => b_X6_creep_1 N p1 p2 d_posts d_cold d_men d_on d_stove s.1 s.2.1 s.2.2.1 s.2.2.2.1 s.2.2.2.2.1 s.2.2.2.2.2) N s0 = some t) (K : Sum.elim (fun e_ => Ev γ M_X6_creep (0, 0) n (put 16 (wtB γ 16 e_.1 e_.2.1 e_.2.2.1 e_.2.2.2.1 e_.2.2.2.2) h) [] 85 [] Ψ) (fun r_ => Ψ (some (.int r_.1)) n (put 16 (wtB γ 16 r_.2.1 r_.2.2.1 r_.2.2.2.1 r_.2.2.2.2.1 r_.2.2.2.2.2) h)) t) : Ev γ M_X6_creep (0, 0) n (put 16 (wtB γ 16 s0.2.1 s0.2.2.1 s0.2.2.2.1 s0.2.2.2.2.1 s0.2.2.2.2.2) h) [(0, .ref (gB γ + 0)), (1, .int p1), (2, .int p2), (3, .int s0.1)] 34 [] Ψ := by
  refine E_lp (P := fun s => Ev γ M_X6_creep (0, 0) n (put 16 (wtB γ 16 s.2.1 s.2.2.1 s.2.2.2.1 s.2.2.2.2.1 s.2.2.2.2.2) h) [(0, .ref (gB γ + 0)), (1, .int p1), (2, .int p2), (3, .int s.1)] 34 [] Ψ) (K := fun t => Sum.elim (fun e_ => Ev γ M_X6_creep (0, 0) n (put 16 (wtB γ 16 e_.1 e_.2.1 e_.2.2.1 e_.2.2.2.1 e_.2.2.2.2) h) [] 85 [] Ψ) (fun r_ => Ψ (some (.int r_.1)) n (put 16 (wtB γ 16 r_.2.1 r_.2.2.1 r_.2.2.2.1 r_.2.2.2.2.1 r_.2.2.2.2.2) h)) t) ?_ N s0 t hf K
  intro s r hf hP hK
  obtain ⟨v3, a_hour, a_debts, a_guards, a_stood, a_served⟩ := s
  change b_X6_creep_1 N p1 p2 d_posts d_cold d_men d_on d_stove v3 a_hour a_debts a_guards a_stood a_served = some r at hf
  unfold b_X6_creep_1 at hf
  show Ev γ M_X6_creep (0, 0) n (put 16 (wtB γ 16 a_hour a_debts a_guards a_stood a_served) h) [(0, .ref (gB γ + 0)), (1, .int p1), (2, .int p2), (3, .int v3)] 34 [] Ψ
  refine E_iload_n 3 dX6_creep_34 (q := 35) rfl rfl rfl ?_
  refine E_iload_n 1 dX6_creep_35 (q := 36) rfl rfl rfl ?_
  refine E_icmp_gt dX6_creep_36 (t := 85) (by decide) (q := 39) rfl (fun c11 => ?_) (fun c11 => ?_)
  · have hf := if_t c11 hf
    exact E_sub [] rfl (hK _ (Option.some.inj hf).symm)
  · have hf := if_f c11 hf
    refine E_aload_n 0 dX6_creep_39 (q := 40) rfl rfl rfl ?_
    have hF12 : Has n 0 (poB γ 0 x_track) (put 16 (wtB γ 16 a_hour a_debts a_guards a_stood a_served) h) := (has_out hH_x (Or.inl (Nat.le_of_ble_eq_true rfl)))
    refine E_get 4 dX6_creep_40 (q := 43) rfl ckX6 (Nat.le_of_ble_eq_true rfl) fl_X6_33 (hF12.at 0 rfl) (hF12.lt 0 (Nat.le_of_ble_eq_true rfl)) rfl ?_
    obtain ⟨z13, hxz13, hf⟩ := bnd hf
    have hF14 : Has n 16 (wtB γ 16 a_hour a_debts a_guards a_stood a_served) (put 16 (wtB γ 16 a_hour a_debts a_guards a_stood a_served) h) := (has_put hn_a)
    refine E_cV (as := []) (k := 16) (rest := []) (u' := (0, 0)) (st' := [.int z13]) dX6_creep_43 (q := 46) rfl lkm_X5_sleepingPosts lkv_X6_124 (Nat.le_of_ble_eq_true rfl) ckX5 (hF14.at 0 rfl) (hF14.lt 0 (Nat.le_of_ble_eq_true rfl)) ⟨Nat.le_refl _, Nat.le_refl _⟩ (Nat.le_of_ble_eq_true rfl) rfl rfl (m_X5_sleepingPosts (N := N)  (Nat.le_of_ble_eq_true rfl) hF14 hxz13) rfl rfl rfl ?_
    refine E_istore [(4, .int z13), (0, .ref (gB γ + 0)), (1, .int p1), (2, .int p2), (3, .int v3)] dX6_creep_46 (q := 48) rfl (Nat.le_of_ble_eq_true rfl) rfl ?_
    refine E_iload 0 dX6_creep_48 (q := 50) rfl rfl ?_
    refine E_if_eq dX6_creep_50 (t := 67) (by decide) (q := 53) rfl (fun c15 => ?_) (fun c15 => ?_)
    · have hf := if_t c15 hf
      refine E_aload_n 1 dX6_creep_67 (q := 68) rfl rfl rfl ?_
      refine E_get 4 dX6_creep_68 (q := 71) rfl ckX6 (Nat.le_of_ble_eq_true rfl) fl_X6_33 (hF12.at 0 rfl) (hF12.lt 0 (Nat.le_of_ble_eq_true rfl)) rfl ?_
      refine E_aload_n 1 dX6_creep_71 (q := 72) rfl rfl rfl ?_
      refine E_get 1 dX6_creep_72 (q := 75) rfl ckX6 (Nat.le_of_ble_eq_true rfl) fl_X6_19 (hF12.at 0 rfl) (hF12.lt 0 (Nat.le_of_ble_eq_true rfl)) rfl ?_
      refine E_iconst (x := 1) dX6_creep_75 (q := 76) rfl (by decide) ?_
      obtain ⟨z16, hxz16, hf⟩ := bnd hf
      have hF17 : Has n 3 (dpB γ 3 d_posts d_sees d_cold d_men d_debts d_on d_stove) (put 16 (wtB γ 16 a_hour a_debts a_guards a_stood a_served) h) := (has_out hH_d (Or.inl (Nat.le_of_ble_eq_true rfl)))
      refine E_cV (as := [.ref (gB γ + 3), .int 1]) (k := 16) (rest := []) (u' := (0, 0)) (st' := []) dX6_creep_76 (q := 79) rfl lkm_X5_advance lkv_X6_158 (Nat.le_of_ble_eq_true rfl) ckX5 (hF14.at 0 rfl) (hF14.lt 0 (Nat.le_of_ble_eq_true rfl)) ⟨Nat.le_refl _, Nat.le_refl _⟩ (Nat.le_of_ble_eq_true rfl) rfl rfl (m_X5_advance (N := N)  (Nat.le_of_ble_eq_true rfl) hF17 hF14 hxz16) rfl rfl rfl ?_
      refine Ev.heap (put_put (k := 16) (cs := (wtB γ 16 a_hour a_debts a_guards a_stood a_served)) (cs' := (wtB γ 16 z16.1 z16.2.1 z16.2.2.1 z16.2.2.2.1 z16.2.2.2.2)) (show (5 : Nat) = 5 from rfl)) ?_
      refine E_iinc 4 [(3, .int (v3 + 1)), (4, .int z13), (0, .ref (gB γ + 0)), (1, .int p1), (2, .int p2)] dX6_creep_79 (q := 82) rfl rfl rfl (Nat.le_of_ble_eq_true rfl) rfl ?_
      refine E_goto (q := 34) dX6_creep_82 (by decide) ?_
      exact E_sub [2, 3, 4, 0] rfl (hP _ (Option.some.inj hf).symm)
    · have hf := if_f c15 hf
      refine E_iload_n 3 dX6_creep_53 (q := 54) rfl rfl rfl ?_
      refine E_if_ne dX6_creep_54 (t := 61) (by decide) (q := 57) rfl (fun c19 => ?_) (fun c19 => ?_)
      · have hf := if_f c19 hf
        refine E_iload 0 dX6_creep_61 (q := 63) rfl rfl ?_
        obtain ⟨z20, hxz20, hf⟩ := bnd hf
        refine E_cS (as := [.int z13]) (rest := []) (u' := (0, 0)) (st' := [.int z20]) dX6_creep_63 (q := 66) rfl lkm_J6_numberOfTrailingZeros lks_X6_212 (Nat.le_of_ble_eq_true rfl) ⟨Nat.le_refl _, Nat.le_refl _⟩ (Nat.le_of_ble_eq_true rfl) rfl rfl (m_J6_numberOfTrailingZeros (N := N)  hxz20) rfl rfl rfl ?_
        exact E_iret dX6_creep_66 rfl (hK _ (Option.some.inj hf).symm)
      · have hf := if_t c19 hf
        refine E_iload_n 4 dX6_creep_57 (q := 58) rfl rfl rfl ?_
        refine E_goto (q := 66) dX6_creep_58 (by decide) ?_
        exact E_iret dX6_creep_66 rfl (hK _ (Option.some.inj hf).symm)
set_option maxHeartbeats 4000000 in
set_option maxRecDepth 100000 in
theorem m_X6_creep {γ : GX} {n : Nat} {N : Nat} {h : HP} {a1 : Int32} {a2 : Int32} {x_track : Int64} {d_posts : Int32} {d_sees : FN} {d_cold : FN} {d_men : Int32} {d_debts : FN} {d_on : Int32} {d_stove : Int32} {w_hour : Int32} {w_debts : FN} {w_guards : FN} {w_stood : FN} {w_served : FN} {a_hour : Int32} {a_debts : FN} {a_guards : FN} {a_stood : FN} {a_served : FN} (hH_x : Has n 0 (poB γ 0 x_track) h) (hH_d : Has n 3 (dpB γ 3 d_posts d_sees d_cold d_men d_debts d_on d_stove) h) (hH_w : Has n 11 (wtB γ 11 w_hour w_debts w_guards w_stood w_served) h) (hH_a : Has n 16 (wtB γ 16 a_hour a_debts a_guards a_stood a_served) h) {z : Int32 × Int32 × FN × FN × FN × FN} (hf : f_X6_creep N a1 a2 d_posts d_cold d_men d_on d_stove w_hour w_debts w_guards w_stood w_served a_hour a_debts a_guards a_stood a_served = some z)  : Ct γ M_X6_creep n h [.ref (gB γ + 0), .int a1, .int a2] (Done (some (.int z.1)) n (put 16 (wtB γ 16 z.2.1 z.2.2.1 z.2.2.2.1 z.2.2.2.2.1 z.2.2.2.2.2) h)) := by
  have hn_a : 16 + 5 ≤ n := hH_a.1
  refine Ct.heap (h := (put 16 (wtB γ 16 a_hour a_debts a_guards a_stood a_served) h)) (put_self hH_a).symm ?_
  refine Ct_of_Ev (by decide) (fun h => by cases h) (Nat.le_of_ble_eq_true rfl) ?_
  show Ev γ M_X6_creep (0, 0) n (put 16 (wtB γ 16 a_hour a_debts a_guards a_stood a_served) h) [(0, .ref (gB γ + 0)), (1, .int a1), (2, .int a2)] 0 [] _
  unfold f_X6_creep at hf
  refine E_iload_n 1 dX6_creep_0 (q := 1) rfl rfl rfl ?_
  refine E_iconst (x := 1) dX6_creep_1 (q := 2) rfl (by decide) ?_
  refine E_bipush (x := 24) dX6_creep_2 (q := 4) rfl (by decide) ?_
  obtain ⟨z1, hxz1, hf⟩ := bnd hf
  refine E_cS (as := [.int a1, .int 1, .int 24]) (rest := []) (u' := (0, 0)) (st' := [.int z1]) dX6_creep_4 (q := 7) rfl lkm_X6_within lks_X6_65 (Nat.le_of_ble_eq_true rfl) ⟨Nat.le_refl _, Nat.le_refl _⟩ (Nat.le_of_ble_eq_true rfl) rfl rfl (m_X6_within (N := N)  hxz1) rfl rfl rfl ?_
  refine E_if_eq dX6_creep_7 (t := 19) (by decide) (q := 10) rfl (fun c2 => ?_) (fun c2 => ?_)
  · have hf := if_t c2 hf
    refine E_iconst (x := (-1)) dX6_creep_19 (q := 20) rfl (by decide) ?_
    obtain rfl := Option.some.inj hf
    exact E_iret dX6_creep_20 rfl ⟨rfl, rfl, rfl⟩
  · have hf := if_f c2 hf
    refine E_iload_n 2 dX6_creep_10 (q := 11) rfl rfl rfl ?_
    refine E_iconst (x := 0) dX6_creep_11 (q := 12) rfl (by decide) ?_
    refine E_iconst (x := 1) dX6_creep_12 (q := 13) rfl (by decide) ?_
    obtain ⟨z3, hxz3, hf⟩ := bnd hf
    refine E_cS (as := [.int a2, .int 0, .int 1]) (rest := []) (u' := (0, 0)) (st' := [.int z3]) dX6_creep_13 (q := 16) rfl lkm_X6_within lks_X6_65 (Nat.le_of_ble_eq_true rfl) ⟨Nat.le_refl _, Nat.le_refl _⟩ (Nat.le_of_ble_eq_true rfl) rfl rfl (m_X6_within (N := N)  hxz3) rfl rfl rfl ?_
    refine E_if_ne dX6_creep_16 (t := 21) (by decide) (q := 19) rfl (fun c4 => ?_) (fun c4 => ?_)
    · have hf := if_f c4 hf
      refine E_aload_n 0 dX6_creep_21 (q := 22) rfl rfl rfl ?_
      have hF5 : Has n 0 (poB γ 0 x_track) (put 16 (wtB γ 16 a_hour a_debts a_guards a_stood a_served) h) := (has_out hH_x (Or.inl (Nat.le_of_ble_eq_true rfl)))
      refine E_get 4 dX6_creep_22 (q := 25) rfl ckX6 (Nat.le_of_ble_eq_true rfl) fl_X6_33 (hF5.at 0 rfl) (hF5.lt 0 (Nat.le_of_ble_eq_true rfl)) rfl ?_
      refine E_aload_n 0 dX6_creep_25 (q := 26) rfl rfl rfl ?_
      refine E_get 3 dX6_creep_26 (q := 29) rfl ckX6 (Nat.le_of_ble_eq_true rfl) fl_X6_29 (hF5.at 0 rfl) (hF5.lt 0 (Nat.le_of_ble_eq_true rfl)) rfl ?_
      obtain ⟨z6, hxz6, hf⟩ := bnd hf
      have hF7 : Has n 16 (wtB γ 16 a_hour a_debts a_guards a_stood a_served) (put 16 (wtB γ 16 a_hour a_debts a_guards a_stood a_served) h) := (has_put hn_a)
      have hF8 : Has n 11 (wtB γ 11 w_hour w_debts w_guards w_stood w_served) (put 16 (wtB γ 16 a_hour a_debts a_guards a_stood a_served) h) := (has_out hH_w (Or.inl (Nat.le_of_ble_eq_true rfl)))
      refine E_cV (as := [.ref (gB γ + 11)]) (k := 16) (rest := []) (u' := (0, 0)) (st' := []) dX6_creep_29 (q := 32) rfl lkm_X5_become lkv_X6_156 (Nat.le_of_ble_eq_true rfl) ckX5 (hF7.at 0 rfl) (hF7.lt 0 (Nat.le_of_ble_eq_true rfl)) ⟨Nat.le_refl _, Nat.le_refl _⟩ (Nat.le_of_ble_eq_true rfl) rfl rfl (m_X5_become (N := N)  (Nat.le_of_ble_eq_true rfl) (by omega) hF7 hF8 hxz6) rfl rfl rfl ?_
      refine Ev.heap (put_put (k := 16) (cs := (wtB γ 16 a_hour a_debts a_guards a_stood a_served)) (cs' := (wtB γ 16 z6.1 z6.2.1 z6.2.2.1 z6.2.2.2.1 z6.2.2.2.2)) (show (5 : Nat) = 5 from rfl)) ?_
      refine E_iconst (x := 0) dX6_creep_32 (q := 33) rfl (by decide) ?_
      refine E_istore_n [(3, .int 0), (0, .ref (gB γ + 0)), (1, .int a1), (2, .int a2)] dX6_creep_33 (q := 34) rfl rfl (Nat.le_of_ble_eq_true rfl) rfl ?_
      obtain ⟨t21, hxt21, hf⟩ := bnd hf
      rcases t21 with t21e | t21r
      · replace hf := sum_l hf
        refine E_sub [1, 2, 3, 0] rfl ?_
        refine L_X6_creep_1 hH_x hH_d hH_w hn_a hxt21 ?_
        show Ev γ M_X6_creep _ n (put 16 (wtB γ 16 t21e.1 t21e.2.1 t21e.2.2.1 t21e.2.2.2.1 t21e.2.2.2.2) h) [] 85 [] _
        refine E_bipush (x := (-9)) dX6_creep_85 (q := 87) rfl (by decide) ?_
        obtain rfl := Option.some.inj hf
        exact E_iret dX6_creep_87 rfl ⟨rfl, rfl, rfl⟩
      · replace hf := sum_r hf
        obtain rfl := Option.some.inj hf
        refine E_sub [1, 2, 3, 0] rfl ?_
        refine L_X6_creep_1 hH_x hH_d hH_w hn_a hxt21 ?_
        exact ⟨rfl, rfl, rfl⟩
    · have hf := if_t c4 hf
      refine E_iconst (x := (-1)) dX6_creep_19 (q := 20) rfl (by decide) ?_
      obtain rfl := Option.some.inj hf
      exact E_iret dX6_creep_20 rfl ⟨rfl, rfl, rfl⟩

-- PostRelief.found(III)I
def f_X6_found (N : Nat) (a1 : Int32) (a2 : Int32) (a3 : Int32) (d_men : Int32) (f_size : Int32) (f_men : FN) (f_hours : FN) (f_asleep : FN) : Option (Int32 × Int32 × FN × FN × FN) :=
  ((f_X6_isMan N a1 d_men).bind fun z1 => (if z1 = 0 then some ((-1), f_size, f_men, f_hours, f_asleep) else ((f_X6_within N a2 0 24).bind fun z5 => (if z5 = 0 then some ((-1), f_size, f_men, f_hours, f_asleep) else ((f_X6_within N a3 0 1).bind fun z7 => (if z7 = 0 then some ((-1), f_size, f_men, f_hours, f_asleep) else ((f_X1_add N a1 a2 a3 f_size f_men f_hours f_asleep).bind fun z9 => (if z9.1 = 0 then some ((-3), z9.2.1, z9.2.2.1, z9.2.2.2.1, z9.2.2.2.2) else some (z9.2.1, z9.2.1, z9.2.2.1, z9.2.2.2.1, z9.2.2.2.2)))))))))
set_option maxHeartbeats 4000000 in
set_option maxRecDepth 100000 in
theorem m_X6_found {γ : GX} {n : Nat} {N : Nat} {h : HP} {a1 : Int32} {a2 : Int32} {a3 : Int32} {x_track : Int64} {d_posts : Int32} {d_sees : FN} {d_cold : FN} {d_men : Int32} {d_debts : FN} {d_on : Int32} {d_stove : Int32} {f_size : Int32} {f_men : FN} {f_hours : FN} {f_asleep : FN} (hH_x : Has n 0 (poB γ 0 x_track) h) (hH_d : Has n 3 (dpB γ 3 d_posts d_sees d_cold d_men d_debts d_on d_stove) h) (hH_f : Has n 75 (fiB γ 75 f_size f_men f_hours f_asleep) h) {z : Int32 × Int32 × FN × FN × FN} (hf : f_X6_found N a1 a2 a3 d_men f_size f_men f_hours f_asleep = some z)  : Ct γ M_X6_found n h [.ref (gB γ + 0), .int a1, .int a2, .int a3] (Done (some (.int z.1)) n (put 75 (fiB γ 75 z.2.1 z.2.2.1 z.2.2.2.1 z.2.2.2.2) h)) := by
  have hn_f : 75 + 4 ≤ n := hH_f.1
  refine Ct.heap (h := (put 75 (fiB γ 75 f_size f_men f_hours f_asleep) h)) (put_self hH_f).symm ?_
  refine Ct_of_Ev (by decide) (fun h => by cases h) (Nat.le_of_ble_eq_true rfl) ?_
  show Ev γ M_X6_found (0, 0) n (put 75 (fiB γ 75 f_size f_men f_hours f_asleep) h) [(0, .ref (gB γ + 0)), (1, .int a1), (2, .int a2), (3, .int a3)] 0 [] _
  unfold f_X6_found at hf
  refine E_aload_n 0 dX6_found_0 (q := 1) rfl rfl rfl ?_
  refine E_iload_n 1 dX6_found_1 (q := 2) rfl rfl rfl ?_
  obtain ⟨z1, hxz1, hf⟩ := bnd hf
  have hF2 : Has n 0 (poB γ 0 x_track) (put 75 (fiB γ 75 f_size f_men f_hours f_asleep) h) := (has_out hH_x (Or.inl (Nat.le_of_ble_eq_true rfl)))
  have hF3 : Has n 3 (dpB γ 3 d_posts d_sees d_cold d_men d_debts d_on d_stove) (put 75 (fiB γ 75 f_size f_men f_hours f_asleep) h) := (has_out hH_d (Or.inl (Nat.le_of_ble_eq_true rfl)))
  refine E_cV (as := [.int a1]) (k := 0) (rest := []) (u' := (0, 0)) (st' := [.int z1]) dX6_found_2 (q := 5) rfl lkm_X6_isMan lkv_X6_105 (Nat.le_of_ble_eq_true rfl) ckX6 (hF2.at 0 rfl) (hF2.lt 0 (Nat.le_of_ble_eq_true rfl)) ⟨Nat.le_refl _, Nat.le_refl _⟩ (Nat.le_of_ble_eq_true rfl) rfl rfl (m_X6_isMan (N := N)  hF2 hF3 hxz1) rfl rfl rfl ?_
  refine E_if_eq dX6_found_5 (t := 27) (by decide) (q := 8) rfl (fun c4 => ?_) (fun c4 => ?_)
  · have hf := if_t c4 hf
    refine E_iconst (x := (-1)) dX6_found_27 (q := 28) rfl (by decide) ?_
    obtain rfl := Option.some.inj hf
    exact E_iret dX6_found_28 rfl ⟨rfl, rfl, rfl⟩
  · have hf := if_f c4 hf
    refine E_iload_n 2 dX6_found_8 (q := 9) rfl rfl rfl ?_
    refine E_iconst (x := 0) dX6_found_9 (q := 10) rfl (by decide) ?_
    refine E_bipush (x := 24) dX6_found_10 (q := 12) rfl (by decide) ?_
    obtain ⟨z5, hxz5, hf⟩ := bnd hf
    refine E_cS (as := [.int a2, .int 0, .int 24]) (rest := []) (u' := (0, 0)) (st' := [.int z5]) dX6_found_12 (q := 15) rfl lkm_X6_within lks_X6_65 (Nat.le_of_ble_eq_true rfl) ⟨Nat.le_refl _, Nat.le_refl _⟩ (Nat.le_of_ble_eq_true rfl) rfl rfl (m_X6_within (N := N)  hxz5) rfl rfl rfl ?_
    refine E_if_eq dX6_found_15 (t := 27) (by decide) (q := 18) rfl (fun c6 => ?_) (fun c6 => ?_)
    · have hf := if_t c6 hf
      refine E_iconst (x := (-1)) dX6_found_27 (q := 28) rfl (by decide) ?_
      obtain rfl := Option.some.inj hf
      exact E_iret dX6_found_28 rfl ⟨rfl, rfl, rfl⟩
    · have hf := if_f c6 hf
      refine E_iload_n 3 dX6_found_18 (q := 19) rfl rfl rfl ?_
      refine E_iconst (x := 0) dX6_found_19 (q := 20) rfl (by decide) ?_
      refine E_iconst (x := 1) dX6_found_20 (q := 21) rfl (by decide) ?_
      obtain ⟨z7, hxz7, hf⟩ := bnd hf
      refine E_cS (as := [.int a3, .int 0, .int 1]) (rest := []) (u' := (0, 0)) (st' := [.int z7]) dX6_found_21 (q := 24) rfl lkm_X6_within lks_X6_65 (Nat.le_of_ble_eq_true rfl) ⟨Nat.le_refl _, Nat.le_refl _⟩ (Nat.le_of_ble_eq_true rfl) rfl rfl (m_X6_within (N := N)  hxz7) rfl rfl rfl ?_
      refine E_if_ne dX6_found_24 (t := 29) (by decide) (q := 27) rfl (fun c8 => ?_) (fun c8 => ?_)
      · have hf := if_f c8 hf
        refine E_aload_n 0 dX6_found_29 (q := 30) rfl rfl rfl ?_
        refine E_get 8 dX6_found_30 (q := 33) rfl ckX6 (Nat.le_of_ble_eq_true rfl) fl_X6_54 (hF2.at 0 rfl) (hF2.lt 0 (Nat.le_of_ble_eq_true rfl)) rfl ?_
        refine E_iload_n 1 dX6_found_33 (q := 34) rfl rfl rfl ?_
        refine E_iload_n 2 dX6_found_34 (q := 35) rfl rfl rfl ?_
        refine E_iload_n 3 dX6_found_35 (q := 36) rfl rfl rfl ?_
        obtain ⟨z9, hxz9, hf⟩ := bnd hf
        have hF10 : Has n 75 (fiB γ 75 f_size f_men f_hours f_asleep) (put 75 (fiB γ 75 f_size f_men f_hours f_asleep) h) := (has_put hn_f)
        refine E_cV (as := [.int a1, .int a2, .int a3]) (k := 75) (rest := []) (u' := (0, 0)) (st' := [.int z9.1]) dX6_found_36 (q := 39) rfl lkm_X1_add lkv_X6_215 (Nat.le_of_ble_eq_true rfl) ckX1 (hF10.at 0 rfl) (hF10.lt 0 (Nat.le_of_ble_eq_true rfl)) ⟨Nat.le_refl _, Nat.le_refl _⟩ (Nat.le_of_ble_eq_true rfl) rfl rfl (m_X1_add (N := N)  hF10 hxz9) rfl rfl rfl ?_
        refine Ev.heap (put_put (k := 75) (cs := (fiB γ 75 f_size f_men f_hours f_asleep)) (cs' := (fiB γ 75 z9.2.1 z9.2.2.1 z9.2.2.2.1 z9.2.2.2.2)) (show (4 : Nat) = 4 from rfl)) ?_
        refine E_if_eq dX6_found_39 (t := 52) (by decide) (q := 42) rfl (fun c12 => ?_) (fun c12 => ?_)
        · have hf := if_t c12 hf
          refine E_bipush (x := (-3)) dX6_found_52 (q := 54) rfl (by decide) ?_
          obtain rfl := Option.some.inj hf
          exact E_iret dX6_found_54 rfl ⟨rfl, rfl, rfl⟩
        · have hf := if_f c12 hf
          refine E_aload_n 0 dX6_found_42 (q := 43) rfl rfl rfl ?_
          have hF13 : Has n 0 (poB γ 0 x_track) (put 75 (fiB γ 75 z9.2.1 z9.2.2.1 z9.2.2.2.1 z9.2.2.2.2) h) := (has_out hH_x (Or.inl (Nat.le_of_ble_eq_true rfl)))
          refine E_get 8 dX6_found_43 (q := 46) rfl ckX6 (Nat.le_of_ble_eq_true rfl) fl_X6_54 (hF13.at 0 rfl) (hF13.lt 0 (Nat.le_of_ble_eq_true rfl)) rfl ?_
          have hF14 : Has n 75 (fiB γ 75 z9.2.1 z9.2.2.1 z9.2.2.2.1 z9.2.2.2.2) (put 75 (fiB γ 75 z9.2.1 z9.2.2.1 z9.2.2.2.1 z9.2.2.2.2) h) := (has_put hn_f)
          refine E_get 0 dX6_found_46 (q := 49) rfl ckX1 (Nat.le_of_ble_eq_true rfl) fl_X6_218 (hF14.at 0 rfl) (hF14.lt 0 (Nat.le_of_ble_eq_true rfl)) rfl ?_
          refine E_goto (q := 54) dX6_found_49 (by decide) ?_
          obtain rfl := Option.some.inj hf
          exact E_iret dX6_found_54 rfl ⟨rfl, rfl, rfl⟩
      · have hf := if_t c8 hf
        refine E_iconst (x := (-1)) dX6_found_27 (q := 28) rfl (by decide) ?_
        obtain rfl := Option.some.inj hf
        exact E_iret dX6_found_28 rfl ⟨rfl, rfl, rfl⟩

-- PostRelief.forget()I
def f_X6_forget (N : Nat) (f_size : Int32) : Option (Int32 × Int32) :=
  some (f_size, 0)
set_option maxHeartbeats 4000000 in
set_option maxRecDepth 100000 in
theorem m_X6_forget {γ : GX} {n : Nat} {N : Nat} {h : HP} {x_track : Int64} {f_size : Int32} {f_men : FN} {f_hours : FN} {f_asleep : FN} (hH_x : Has n 0 (poB γ 0 x_track) h) (hH_f : Has n 75 (fiB γ 75 f_size f_men f_hours f_asleep) h) {z : Int32 × Int32} (hf : f_X6_forget N f_size = some z)  : Ct γ M_X6_forget n h [.ref (gB γ + 0)] (Done (some (.int z.1)) n (put 75 (fiB γ 75 z.2 f_men f_hours f_asleep) h)) := by
  have hn_f : 75 + 4 ≤ n := hH_f.1
  refine Ct.heap (h := (put 75 (fiB γ 75 f_size f_men f_hours f_asleep) h)) (put_self hH_f).symm ?_
  refine Ct_of_Ev (by decide) (fun h => by cases h) (Nat.le_of_ble_eq_true rfl) ?_
  show Ev γ M_X6_forget (0, 0) n (put 75 (fiB γ 75 f_size f_men f_hours f_asleep) h) [(0, .ref (gB γ + 0))] 0 [] _
  unfold f_X6_forget at hf
  refine E_aload_n 0 dX6_forget_0 (q := 1) rfl rfl rfl ?_
  have hF1 : Has n 0 (poB γ 0 x_track) (put 75 (fiB γ 75 f_size f_men f_hours f_asleep) h) := (has_out hH_x (Or.inl (Nat.le_of_ble_eq_true rfl)))
  refine E_get 8 dX6_forget_1 (q := 4) rfl ckX6 (Nat.le_of_ble_eq_true rfl) fl_X6_54 (hF1.at 0 rfl) (hF1.lt 0 (Nat.le_of_ble_eq_true rfl)) rfl ?_
  have hF2 : Has n 75 (fiB γ 75 f_size f_men f_hours f_asleep) (put 75 (fiB γ 75 f_size f_men f_hours f_asleep) h) := (has_put hn_f)
  refine E_get 0 dX6_forget_4 (q := 7) rfl ckX1 (Nat.le_of_ble_eq_true rfl) fl_X6_218 (hF2.at 0 rfl) (hF2.lt 0 (Nat.le_of_ble_eq_true rfl)) rfl ?_
  refine E_istore_n [(1, .int f_size), (0, .ref (gB γ + 0))] dX6_forget_7 (q := 8) rfl rfl (Nat.le_of_ble_eq_true rfl) rfl ?_
  refine E_aload_n 1 dX6_forget_8 (q := 9) rfl rfl rfl ?_
  refine E_get 8 dX6_forget_9 (q := 12) rfl ckX6 (Nat.le_of_ble_eq_true rfl) fl_X6_54 (hF1.at 0 rfl) (hF1.lt 0 (Nat.le_of_ble_eq_true rfl)) rfl ?_
  refine E_iconst (x := 0) dX6_forget_12 (q := 13) rfl (by decide) ?_
  refine E_put 0 dX6_forget_13 (q := 16) rfl ckX1 (Nat.le_of_ble_eq_true rfl) fl_X6_218 rfl rfl rfl (hF2.at 0 rfl) (hF2.lt 0 (Nat.le_of_ble_eq_true rfl)) (Nat.le_of_ble_eq_true rfl) (up_put (i := 0) (cs' := (fiB γ 75 0 f_men f_hours f_asleep)) (Nat.le_of_ble_eq_true rfl) rfl) ?_
  refine E_iload_n 0 dX6_forget_16 (q := 17) rfl rfl rfl ?_
  obtain rfl := Option.some.inj hf
  exact E_iret dX6_forget_17 rfl ⟨rfl, rfl, rfl⟩

-- PostRelief.fits(II)I
def b_X6_fits_1 (N : Nat) (p1 : Int32) (p2 : Int32) (p3 : Int32) (d_cold : FN) (w_hour : Int32) (f_size : Int32) (f_men : FN) (f_hours : FN) (f_asleep : FN) (v4 : Int32) (v5 : Int32) (v6 : Int32) : Option ((Int32 × Int32 × Int32) ⊕ (Int32 × Int32)) :=
  (if 60 < v6 then some (.inr (v4, v5)) else ((f_X6_hoursAsleep N p3 v6 d_cold w_hour).bind fun z8 => ((f_X1_agree N p1 z8 f_size f_men f_hours f_asleep).bind fun z9 => (if z9 = 0 then some (.inl (v4, v5, (v6 + 1))) else (if v5 = (-9) then some (.inl ((v4 + 1), v6, (v6 + 1))) else some (.inl ((v4 + 1), v5, (v6 + 1))))))))
def f_X6_fits (N : Nat) (a1 : Int32) (a2 : Int32) (d_cold : FN) (d_men : Int32) (w_hour : Int32) (w_guards : FN) (f_size : Int32) (f_men : FN) (f_hours : FN) (f_asleep : FN) : Option (Int32) :=
  ((f_X6_isMan N a1 d_men).bind fun z1 => (if z1 = 0 then some (-1) else ((f_X6_within N a2 0 1).bind fun z3 => (if z3 = 0 then some (-1) else ((f_X5_placeOf N a1 w_guards).bind fun z5 => ((lp (fun s => b_X6_fits_1 N a1 a2 z5 d_cold w_hour f_size f_men f_hours f_asleep s.1 s.2.1 s.2.2) N (0, (-9), 0)).bind fun t12 => (if a2 = 0 then some t12.1 else some t12.2)))))))
set_option maxHeartbeats 4000000 in
set_option maxRecDepth 100000 in
theorem L_X6_fits_1 {γ : GX} {n : Nat} {h : HP} {Ψ : PS} {N : Nat} {p1 : Int32} {p2 : Int32} {p3 : Int32} {x_track : Int64} {d_posts : Int32} {d_sees : FN} {d_cold : FN} {d_men : Int32} {d_debts : FN} {d_on : Int32} {d_stove : Int32} {w_hour : Int32} {w_debts : FN} {w_guards : FN} {w_stood : FN} {w_served : FN} {f_size : Int32} {f_men : FN} {f_hours : FN} {f_asleep : FN} (hH_x : Has n 0 (poB γ 0 x_track) h) (hH_d : Has n 3 (dpB γ 3 d_posts d_sees d_cold d_men d_debts d_on d_stove) h) (hH_w : Has n 11 (wtB γ 11 w_hour w_debts w_guards w_stood w_served) h) (hH_f : Has n 75 (fiB γ 75 f_size f_men f_hours f_asleep) h) {s0 : Int32 × Int32 × Int32} {t : Int32 × Int32} (hf : lp (fun s => b_X6_fits_1 N p1 p2 p3 d_cold w_hour f_size f_men f_hours f_asleep s.1 s.2.1 s.2.2) N s0 = some t) (K : Ev γ M_X6_fits (0, 0) n h [(2, .int p2), (4, .int t.1), (5, .int t.2)] 83 [] Ψ) : Ev γ M_X6_fits (0, 0) n h [(0, .ref (gB γ + 0)), (1, .int p1), (2, .int p2), (3, .int p3), (4, .int s0.1), (5, .int s0.2.1), (6, .int s0.2.2)] 38 [] Ψ := by
  refine E_lp (P := fun s => Ev γ M_X6_fits (0, 0) n h [(0, .ref (gB γ + 0)), (1, .int p1), (2, .int p2), (3, .int p3), (4, .int s.1), (5, .int s.2.1), (6, .int s.2.2)] 38 [] Ψ) (K := fun t => Ev γ M_X6_fits (0, 0) n h [(2, .int p2), (4, .int t.1), (5, .int t.2)] 83 [] Ψ) ?_ N s0 t hf K
  intro s r hf hP hK
  obtain ⟨v4, v5, v6⟩ := s
  change b_X6_fits_1 N p1 p2 p3 d_cold w_hour f_size f_men f_hours f_asleep v4 v5 v6 = some r at hf
  unfold b_X6_fits_1 at hf
  show Ev γ M_X6_fits (0, 0) n h [(0, .ref (gB γ + 0)), (1, .int p1), (2, .int p2), (3, .int p3), (4, .int v4), (5, .int v5), (6, .int v6)] 38 [] Ψ
  refine E_iload 6 dX6_fits_38 (q := 40) rfl rfl ?_
  refine E_bipush (x := 60) dX6_fits_40 (q := 42) rfl (by decide) ?_
  refine E_icmp_gt dX6_fits_42 (t := 83) (by decide) (q := 45) rfl (fun c7 => ?_) (fun c7 => ?_)
  · have hf := if_t c7 hf
    exact E_sub [2, 4, 5] rfl (hK _ (Option.some.inj hf).symm)
  · have hf := if_f c7 hf
    refine E_aload_n 0 dX6_fits_45 (q := 46) rfl rfl rfl ?_
    refine E_get 8 dX6_fits_46 (q := 49) rfl ckX6 (Nat.le_of_ble_eq_true rfl) fl_X6_54 (hH_x.at 0 rfl) (hH_x.lt 0 (Nat.le_of_ble_eq_true rfl)) rfl ?_
    refine E_iload_n 1 dX6_fits_49 (q := 50) rfl rfl rfl ?_
    refine E_aload_n 0 dX6_fits_50 (q := 51) rfl rfl rfl ?_
    refine E_iload_n 3 dX6_fits_51 (q := 52) rfl rfl rfl ?_
    refine E_iload 6 dX6_fits_52 (q := 54) rfl rfl ?_
    obtain ⟨z8, hxz8, hf⟩ := bnd hf
    refine E_cV (as := [.int p3, .int v6]) (k := 0) (rest := [.int p1, .ref (gB γ + 75)]) (u' := (0, 0)) (st' := [.int z8, .int p1, .ref (gB γ + 75)]) dX6_fits_54 (q := 57) rfl lkm_X6_hoursAsleep lkv_X6_221 (Nat.le_of_ble_eq_true rfl) ckX6 (hH_x.at 0 rfl) (hH_x.lt 0 (Nat.le_of_ble_eq_true rfl)) ⟨Nat.le_refl _, Nat.le_refl _⟩ (Nat.le_of_ble_eq_true rfl) rfl rfl (m_X6_hoursAsleep (N := N)  hH_x hH_d hH_w hxz8) rfl rfl rfl ?_
    obtain ⟨z9, hxz9, hf⟩ := bnd hf
    refine E_cV (as := [.int p1, .int z8]) (k := 75) (rest := []) (u' := (0, 0)) (st' := [.int z9]) dX6_fits_57 (q := 60) rfl lkm_X1_agree lkv_X6_224 (Nat.le_of_ble_eq_true rfl) ckX1 (hH_f.at 0 rfl) (hH_f.lt 0 (Nat.le_of_ble_eq_true rfl)) ⟨Nat.le_refl _, Nat.le_refl _⟩ (Nat.le_of_ble_eq_true rfl) rfl rfl (m_X1_agree (N := N)  hH_f hxz9) rfl rfl rfl ?_
    refine E_if_eq dX6_fits_60 (t := 77) (by decide) (q := 63) rfl (fun c10 => ?_) (fun c10 => ?_)
    · have hf := if_t c10 hf
      refine E_iinc 6 [(6, .int (v6 + 1)), (0, .ref (gB γ + 0)), (1, .int p1), (2, .int p2), (3, .int p3), (4, .int v4), (5, .int v5)] dX6_fits_77 (q := 80) rfl rfl rfl (Nat.le_of_ble_eq_true rfl) rfl ?_
      refine E_goto (q := 38) dX6_fits_80 (by decide) ?_
      exact E_sub [1, 2, 3, 4, 5, 6, 0] rfl (hP _ (Option.some.inj hf).symm)
    · have hf := if_f c10 hf
      refine E_iinc 4 [(4, .int (v4 + 1)), (0, .ref (gB γ + 0)), (1, .int p1), (2, .int p2), (3, .int p3), (5, .int v5), (6, .int v6)] dX6_fits_63 (q := 66) rfl rfl rfl (Nat.le_of_ble_eq_true rfl) rfl ?_
      refine E_iload 5 dX6_fits_66 (q := 68) rfl rfl ?_
      refine E_bipush (x := (-9)) dX6_fits_68 (q := 70) rfl (by decide) ?_
      refine E_icmp_ne dX6_fits_70 (t := 77) (by decide) (q := 73) rfl (fun c11 => ?_) (fun c11 => ?_)
      · have hf := if_f c11 hf
        refine E_iinc 6 [(6, .int (v6 + 1)), (4, .int (v4 + 1)), (0, .ref (gB γ + 0)), (1, .int p1), (2, .int p2), (3, .int p3), (5, .int v5)] dX6_fits_77 (q := 80) rfl rfl rfl (Nat.le_of_ble_eq_true rfl) rfl ?_
        refine E_goto (q := 38) dX6_fits_80 (by decide) ?_
        exact E_sub [2, 3, 4, 5, 1, 6, 0] rfl (hP _ (Option.some.inj hf).symm)
      · have hf := if_t c11 hf
        refine E_iload 6 dX6_fits_73 (q := 75) rfl rfl ?_
        refine E_istore [(5, .int v6), (4, .int (v4 + 1)), (0, .ref (gB γ + 0)), (1, .int p1), (2, .int p2), (3, .int p3), (6, .int v6)] dX6_fits_75 (q := 77) rfl (Nat.le_of_ble_eq_true rfl) rfl ?_
        refine E_iinc 6 [(6, .int (v6 + 1)), (5, .int v6), (4, .int (v4 + 1)), (0, .ref (gB γ + 0)), (1, .int p1), (2, .int p2), (3, .int p3)] dX6_fits_77 (q := 80) rfl rfl rfl (Nat.le_of_ble_eq_true rfl) rfl ?_
        refine E_goto (q := 38) dX6_fits_80 (by decide) ?_
        exact E_sub [3, 4, 5, 6, 2, 1, 0] rfl (hP _ (Option.some.inj hf).symm)
set_option maxHeartbeats 4000000 in
set_option maxRecDepth 100000 in
theorem m_X6_fits {γ : GX} {n : Nat} {N : Nat} {h : HP} {a1 : Int32} {a2 : Int32} {x_track : Int64} {d_posts : Int32} {d_sees : FN} {d_cold : FN} {d_men : Int32} {d_debts : FN} {d_on : Int32} {d_stove : Int32} {w_hour : Int32} {w_debts : FN} {w_guards : FN} {w_stood : FN} {w_served : FN} {f_size : Int32} {f_men : FN} {f_hours : FN} {f_asleep : FN} (hH_x : Has n 0 (poB γ 0 x_track) h) (hH_d : Has n 3 (dpB γ 3 d_posts d_sees d_cold d_men d_debts d_on d_stove) h) (hH_w : Has n 11 (wtB γ 11 w_hour w_debts w_guards w_stood w_served) h) (hH_f : Has n 75 (fiB γ 75 f_size f_men f_hours f_asleep) h) {z : Int32} (hf : f_X6_fits N a1 a2 d_cold d_men w_hour w_guards f_size f_men f_hours f_asleep = some z)  : Ct γ M_X6_fits n h [.ref (gB γ + 0), .int a1, .int a2] (Done (some (.int z)) n h) := by
  refine Ct_of_Ev (by decide) (fun h => by cases h) (Nat.le_of_ble_eq_true rfl) ?_
  show Ev γ M_X6_fits (0, 0) n h [(0, .ref (gB γ + 0)), (1, .int a1), (2, .int a2)] 0 [] _
  unfold f_X6_fits at hf
  refine E_aload_n 0 dX6_fits_0 (q := 1) rfl rfl rfl ?_
  refine E_iload_n 1 dX6_fits_1 (q := 2) rfl rfl rfl ?_
  obtain ⟨z1, hxz1, hf⟩ := bnd hf
  refine E_cV (as := [.int a1]) (k := 0) (rest := []) (u' := (0, 0)) (st' := [.int z1]) dX6_fits_2 (q := 5) rfl lkm_X6_isMan lkv_X6_105 (Nat.le_of_ble_eq_true rfl) ckX6 (hH_x.at 0 rfl) (hH_x.lt 0 (Nat.le_of_ble_eq_true rfl)) ⟨Nat.le_refl _, Nat.le_refl _⟩ (Nat.le_of_ble_eq_true rfl) rfl rfl (m_X6_isMan (N := N)  hH_x hH_d hxz1) rfl rfl rfl ?_
  refine E_if_eq dX6_fits_5 (t := 17) (by decide) (q := 8) rfl (fun c2 => ?_) (fun c2 => ?_)
  · have hf := if_t c2 hf
    refine E_iconst (x := (-1)) dX6_fits_17 (q := 18) rfl (by decide) ?_
    obtain rfl := Option.some.inj hf
    exact E_iret dX6_fits_18 rfl ⟨rfl, rfl, rfl⟩
  · have hf := if_f c2 hf
    refine E_iload_n 2 dX6_fits_8 (q := 9) rfl rfl rfl ?_
    refine E_iconst (x := 0) dX6_fits_9 (q := 10) rfl (by decide) ?_
    refine E_iconst (x := 1) dX6_fits_10 (q := 11) rfl (by decide) ?_
    obtain ⟨z3, hxz3, hf⟩ := bnd hf
    refine E_cS (as := [.int a2, .int 0, .int 1]) (rest := []) (u' := (0, 0)) (st' := [.int z3]) dX6_fits_11 (q := 14) rfl lkm_X6_within lks_X6_65 (Nat.le_of_ble_eq_true rfl) ⟨Nat.le_refl _, Nat.le_refl _⟩ (Nat.le_of_ble_eq_true rfl) rfl rfl (m_X6_within (N := N)  hxz3) rfl rfl rfl ?_
    refine E_if_ne dX6_fits_14 (t := 19) (by decide) (q := 17) rfl (fun c4 => ?_) (fun c4 => ?_)
    · have hf := if_f c4 hf
      refine E_aload_n 0 dX6_fits_19 (q := 20) rfl rfl rfl ?_
      refine E_get 3 dX6_fits_20 (q := 23) rfl ckX6 (Nat.le_of_ble_eq_true rfl) fl_X6_29 (hH_x.at 0 rfl) (hH_x.lt 0 (Nat.le_of_ble_eq_true rfl)) rfl ?_
      refine E_iload_n 1 dX6_fits_23 (q := 24) rfl rfl rfl ?_
      obtain ⟨z5, hxz5, hf⟩ := bnd hf
      refine E_cV (as := [.int a1]) (k := 11) (rest := []) (u' := (0, 0)) (st' := [.int z5]) dX6_fits_24 (q := 27) rfl lkm_X5_placeOf lkv_X6_108 (Nat.le_of_ble_eq_true rfl) ckX5 (hH_w.at 0 rfl) (hH_w.lt 0 (Nat.le_of_ble_eq_true rfl)) ⟨Nat.le_refl _, Nat.le_refl _⟩ (Nat.le_of_ble_eq_true rfl) rfl rfl (m_X5_placeOf (N := N)  (Nat.le_of_ble_eq_true rfl) hH_w hxz5) rfl rfl rfl ?_
      refine E_istore_n [(3, .int z5), (0, .ref (gB γ + 0)), (1, .int a1), (2, .int a2)] dX6_fits_27 (q := 28) rfl rfl (Nat.le_of_ble_eq_true rfl) rfl ?_
      refine E_iconst (x := 0) dX6_fits_28 (q := 29) rfl (by decide) ?_
      refine E_istore [(4, .int 0), (3, .int z5), (0, .ref (gB γ + 0)), (1, .int a1), (2, .int a2)] dX6_fits_29 (q := 31) rfl (Nat.le_of_ble_eq_true rfl) rfl ?_
      refine E_bipush (x := (-9)) dX6_fits_31 (q := 33) rfl (by decide) ?_
      refine E_istore [(5, .int (-9)), (4, .int 0), (3, .int z5), (0, .ref (gB γ + 0)), (1, .int a1), (2, .int a2)] dX6_fits_33 (q := 35) rfl (Nat.le_of_ble_eq_true rfl) rfl ?_
      refine E_iconst (x := 0) dX6_fits_35 (q := 36) rfl (by decide) ?_
      refine E_istore [(6, .int 0), (5, .int (-9)), (4, .int 0), (3, .int z5), (0, .ref (gB γ + 0)), (1, .int a1), (2, .int a2)] dX6_fits_36 (q := 38) rfl (Nat.le_of_ble_eq_true rfl) rfl ?_
      obtain ⟨t12, hxt12, hf⟩ := bnd hf
      refine E_sub [4, 5, 6, 3, 2, 1, 0] rfl ?_
      refine L_X6_fits_1 hH_x hH_d hH_w hH_f hxt12 ?_
      show Ev γ M_X6_fits _ n h [(2, .int a2), (4, .int t12.1), (5, .int t12.2)] 83 [] _
      refine E_iload_n 0 dX6_fits_83 (q := 84) rfl rfl rfl ?_
      refine E_if_ne dX6_fits_84 (t := 92) (by decide) (q := 87) rfl (fun c14 => ?_) (fun c14 => ?_)
      · have hf := if_f c14 hf
        refine E_iload 2 dX6_fits_92 (q := 94) rfl rfl ?_
        obtain rfl := Option.some.inj hf
        exact E_iret dX6_fits_94 rfl ⟨rfl, rfl, rfl⟩
      · have hf := if_t c14 hf
        refine E_iload 1 dX6_fits_87 (q := 89) rfl rfl ?_
        refine E_goto (q := 94) dX6_fits_89 (by decide) ?_
        obtain rfl := Option.some.inj hf
        exact E_iret dX6_fits_94 rfl ⟨rfl, rfl, rfl⟩
    · have hf := if_t c4 hf
      refine E_iconst (x := (-1)) dX6_fits_17 (q := 18) rfl (by decide) ?_
      obtain rfl := Option.some.inj hf
      exact E_iret dX6_fits_18 rfl ⟨rfl, rfl, rfl⟩

-- PostRelief.had(II)I
def f_X6_had (N : Nat) (a1 : Int32) (a2 : Int32) (d_posts : Int32) (d_men : Int32) (w_served : FN) : Option (Int32) :=
  ((f_X6_isMan N a1 d_men).bind fun z1 => (if z1 = 0 then some (-1) else ((f_X6_isPost N a2 d_posts).bind fun z3 => (if z3 = 0 then some (-1) else (if ix ((a1 * 5) + a2) 30 = true then some (w_served (ci ((a1 * 5) + a2))) else none)))))
set_option maxHeartbeats 4000000 in
set_option maxRecDepth 100000 in
theorem m_X6_had {γ : GX} {n : Nat} {N : Nat} {h : HP} {a1 : Int32} {a2 : Int32} {x_track : Int64} {d_posts : Int32} {d_sees : FN} {d_cold : FN} {d_men : Int32} {d_debts : FN} {d_on : Int32} {d_stove : Int32} {w_hour : Int32} {w_debts : FN} {w_guards : FN} {w_stood : FN} {w_served : FN} (hH_x : Has n 0 (poB γ 0 x_track) h) (hH_d : Has n 3 (dpB γ 3 d_posts d_sees d_cold d_men d_debts d_on d_stove) h) (hH_w : Has n 11 (wtB γ 11 w_hour w_debts w_guards w_stood w_served) h) {z : Int32} (hf : f_X6_had N a1 a2 d_posts d_men w_served = some z)  : Ct γ M_X6_had n h [.ref (gB γ + 0), .int a1, .int a2] (Done (some (.int z)) n h) := by
  refine Ct_of_Ev (by decide) (fun h => by cases h) (Nat.le_of_ble_eq_true rfl) ?_
  show Ev γ M_X6_had (0, 0) n h [(0, .ref (gB γ + 0)), (1, .int a1), (2, .int a2)] 0 [] _
  unfold f_X6_had at hf
  refine E_aload_n 0 dX6_had_0 (q := 1) rfl rfl rfl ?_
  refine E_iload_n 1 dX6_had_1 (q := 2) rfl rfl rfl ?_
  obtain ⟨z1, hxz1, hf⟩ := bnd hf
  refine E_cV (as := [.int a1]) (k := 0) (rest := []) (u' := (0, 0)) (st' := [.int z1]) dX6_had_2 (q := 5) rfl lkm_X6_isMan lkv_X6_105 (Nat.le_of_ble_eq_true rfl) ckX6 (hH_x.at 0 rfl) (hH_x.lt 0 (Nat.le_of_ble_eq_true rfl)) ⟨Nat.le_refl _, Nat.le_refl _⟩ (Nat.le_of_ble_eq_true rfl) rfl rfl (m_X6_isMan (N := N)  hH_x hH_d hxz1) rfl rfl rfl ?_
  refine E_if_eq dX6_had_5 (t := 16) (by decide) (q := 8) rfl (fun c2 => ?_) (fun c2 => ?_)
  · have hf := if_t c2 hf
    refine E_iconst (x := (-1)) dX6_had_16 (q := 17) rfl (by decide) ?_
    obtain rfl := Option.some.inj hf
    exact E_iret dX6_had_17 rfl ⟨rfl, rfl, rfl⟩
  · have hf := if_f c2 hf
    refine E_aload_n 0 dX6_had_8 (q := 9) rfl rfl rfl ?_
    refine E_iload_n 2 dX6_had_9 (q := 10) rfl rfl rfl ?_
    obtain ⟨z3, hxz3, hf⟩ := bnd hf
    refine E_cV (as := [.int a2]) (k := 0) (rest := []) (u' := (0, 0)) (st' := [.int z3]) dX6_had_10 (q := 13) rfl lkm_X6_isPost lkv_X6_88 (Nat.le_of_ble_eq_true rfl) ckX6 (hH_x.at 0 rfl) (hH_x.lt 0 (Nat.le_of_ble_eq_true rfl)) ⟨Nat.le_refl _, Nat.le_refl _⟩ (Nat.le_of_ble_eq_true rfl) rfl rfl (m_X6_isPost (N := N)  hH_x hH_d hxz3) rfl rfl rfl ?_
    refine E_if_ne dX6_had_13 (t := 18) (by decide) (q := 16) rfl (fun c4 => ?_) (fun c4 => ?_)
    · have hf := if_f c4 hf
      refine E_aload_n 0 dX6_had_18 (q := 19) rfl rfl rfl ?_
      refine E_get 3 dX6_had_19 (q := 22) rfl ckX6 (Nat.le_of_ble_eq_true rfl) fl_X6_29 (hH_x.at 0 rfl) (hH_x.lt 0 (Nat.le_of_ble_eq_true rfl)) rfl ?_
      refine E_get 4 dX6_had_22 (q := 25) rfl ckX5 (Nat.le_of_ble_eq_true rfl) fl_X6_228 (hH_w.at 0 rfl) (hH_w.lt 0 (Nat.le_of_ble_eq_true rfl)) rfl ?_
      refine E_iload_n 1 dX6_had_25 (q := 26) rfl rfl rfl ?_
      refine E_iconst (x := 5) dX6_had_26 (q := 27) rfl (by decide) ?_
      refine E_imul dX6_had_27 (q := 28) rfl ?_
      refine E_iload_n 2 dX6_had_28 (q := 29) rfl rfl rfl ?_
      refine E_iadd dX6_had_29 (q := 30) rfl ?_
      obtain ⟨g5, hf⟩ := gd hf
      refine E_iald dX6_had_30 (q := 31) rfl (hH_w.at 4 rfl) (hH_w.lt 4 (Nat.le_of_ble_eq_true rfl)) g5 ?_
      obtain rfl := Option.some.inj hf
      exact E_iret dX6_had_31 rfl ⟨rfl, rfl, rfl⟩
    · have hf := if_t c4 hf
      refine E_iconst (x := (-1)) dX6_had_16 (q := 17) rfl (by decide) ?_
      obtain rfl := Option.some.inj hf
      exact E_iret dX6_had_17 rfl ⟨rfl, rfl, rfl⟩

-- PostRelief.fair()I
def b_X6_fair_1 (N : Nat) (d_posts : Int32) (d_cold : FN) (d_men : Int32) (w_served : FN) (v1 : Int32) (v2 : Int32) (v3 : Int32) : Option ((Int32 × Int32 × Int32) ⊕ (Int32 × Int32)) :=
  (if d_men ≤ v3 then some (.inr (v1, v2)) else ((f_X5_coldOf N v3 d_posts d_cold w_served).bind fun z5 => some (.inl ((if v1 < z5 then v1 else z5), (if v2 < z5 then z5 else v2), (v3 + 1)))))
def f_X6_fair (N : Nat) (d_posts : Int32) (d_cold : FN) (d_men : Int32) (w_served : FN) : Option (Int32) :=
  (if d_men = 0 then some 0 else ((f_X5_coldOf N 0 d_posts d_cold w_served).bind fun z2 => ((lp (fun s => b_X6_fair_1 N d_posts d_cold d_men w_served s.1 s.2.1 s.2.2) N (z2, z2, 1)).bind fun t6 => some (t6.2 - t6.1))))
set_option maxHeartbeats 4000000 in
set_option maxRecDepth 100000 in
theorem L_X6_fair_1 {γ : GX} {n : Nat} {h : HP} {Ψ : PS} {N : Nat} {x_track : Int64} {d_posts : Int32} {d_sees : FN} {d_cold : FN} {d_men : Int32} {d_debts : FN} {d_on : Int32} {d_stove : Int32} {w_hour : Int32} {w_debts : FN} {w_guards : FN} {w_stood : FN} {w_served : FN} (hH_x : Has n 0 (poB γ 0 x_track) h) (hH_d : Has n 3 (dpB γ 3 d_posts d_sees d_cold d_men d_debts d_on d_stove) h) (hH_w : Has n 11 (wtB γ 11 w_hour w_debts w_guards w_stood w_served) h) {s0 : Int32 × Int32 × Int32} {t : Int32 × Int32} (hf : lp (fun s => b_X6_fair_1 N d_posts d_cold d_men w_served s.1 s.2.1 s.2.2) N s0 = some t) (K : Ev γ M_X6_fair (0, 0) n h [(1, .int t.1), (2, .int t.2)] 74 [] Ψ) : Ev γ M_X6_fair (0, 0) n h [(0, .ref (gB γ + 0)), (1, .int s0.1), (2, .int s0.2.1), (3, .int s0.2.2)] 29 [] Ψ := by
  refine E_lp (P := fun s => Ev γ M_X6_fair (0, 0) n h [(0, .ref (gB γ + 0)), (1, .int s.1), (2, .int s.2.1), (3, .int s.2.2)] 29 [] Ψ) (K := fun t => Ev γ M_X6_fair (0, 0) n h [(1, .int t.1), (2, .int t.2)] 74 [] Ψ) ?_ N s0 t hf K
  intro s r hf hP hK
  obtain ⟨v1, v2, v3⟩ := s
  change b_X6_fair_1 N d_posts d_cold d_men w_served v1 v2 v3 = some r at hf
  unfold b_X6_fair_1 at hf
  show Ev γ M_X6_fair (0, 0) n h [(0, .ref (gB γ + 0)), (1, .int v1), (2, .int v2), (3, .int v3)] 29 [] Ψ
  refine E_iload_n 3 dX6_fair_29 (q := 30) rfl rfl rfl ?_
  refine E_aload_n 0 dX6_fair_30 (q := 31) rfl rfl rfl ?_
  refine E_get 1 dX6_fair_31 (q := 34) rfl ckX6 (Nat.le_of_ble_eq_true rfl) fl_X6_19 (hH_x.at 0 rfl) (hH_x.lt 0 (Nat.le_of_ble_eq_true rfl)) rfl ?_
  refine E_get 3 dX6_fair_34 (q := 37) rfl ckX0 (Nat.le_of_ble_eq_true rfl) fl_X6_177 (hH_d.at 0 rfl) (hH_d.lt 0 (Nat.le_of_ble_eq_true rfl)) rfl ?_
  refine E_icmp_ge dX6_fair_37 (t := 74) (by decide) (q := 40) rfl (fun c4 => ?_) (fun c4 => ?_)
  · have hf := if_t c4 hf
    exact E_sub [1, 2] rfl (hK _ (Option.some.inj hf).symm)
  · have hf := if_f c4 hf
    refine E_aload_n 0 dX6_fair_40 (q := 41) rfl rfl rfl ?_
    refine E_get 3 dX6_fair_41 (q := 44) rfl ckX6 (Nat.le_of_ble_eq_true rfl) fl_X6_29 (hH_x.at 0 rfl) (hH_x.lt 0 (Nat.le_of_ble_eq_true rfl)) rfl ?_
    refine E_aload_n 0 dX6_fair_44 (q := 45) rfl rfl rfl ?_
    refine E_get 1 dX6_fair_45 (q := 48) rfl ckX6 (Nat.le_of_ble_eq_true rfl) fl_X6_19 (hH_x.at 0 rfl) (hH_x.lt 0 (Nat.le_of_ble_eq_true rfl)) rfl ?_
    refine E_iload_n 3 dX6_fair_48 (q := 49) rfl rfl rfl ?_
    obtain ⟨z5, hxz5, hf⟩ := bnd hf
    refine E_cV (as := [.ref (gB γ + 3), .int v3]) (k := 11) (rest := []) (u' := (0, 0)) (st' := [.int z5]) dX6_fair_49 (q := 52) rfl lkm_X5_coldOf lkv_X6_231 (Nat.le_of_ble_eq_true rfl) ckX5 (hH_w.at 0 rfl) (hH_w.lt 0 (Nat.le_of_ble_eq_true rfl)) ⟨Nat.le_refl _, Nat.le_refl _⟩ (Nat.le_of_ble_eq_true rfl) rfl rfl (m_X5_coldOf (N := N)  (Nat.le_of_ble_eq_true rfl) hH_d hH_w hxz5) rfl rfl rfl ?_
    refine E_istore [(4, .int z5), (0, .ref (gB γ + 0)), (1, .int v1), (2, .int v2), (3, .int v3)] dX6_fair_52 (q := 54) rfl (Nat.le_of_ble_eq_true rfl) rfl ?_
    refine E_iload_n 2 dX6_fair_54 (q := 55) rfl rfl rfl ?_
    refine E_iload 0 dX6_fair_55 (q := 57) rfl rfl ?_
    refine E_min dX6_fair_57 (q := 60) rfl lkmin_X6_235 st_min in_math co_min (Nat.le_of_ble_eq_true rfl) (Nat.le_of_ble_eq_true rfl) ?_
    refine E_istore_n [(1, .int (if v1 < z5 then v1 else z5)), (4, .int z5), (0, .ref (gB γ + 0)), (2, .int v2), (3, .int v3)] dX6_fair_60 (q := 61) rfl rfl (Nat.le_of_ble_eq_true rfl) rfl ?_
    refine E_iload_n 3 dX6_fair_61 (q := 62) rfl rfl rfl ?_
    refine E_iload 1 dX6_fair_62 (q := 64) rfl rfl ?_
    refine E_max dX6_fair_64 (q := 67) rfl lkmax_X6_162 st_max in_math co_max (Nat.le_of_ble_eq_true rfl) (Nat.le_of_ble_eq_true rfl) ?_
    refine E_istore_n [(2, .int (if v2 < z5 then z5 else v2)), (1, .int (if v1 < z5 then v1 else z5)), (4, .int z5), (0, .ref (gB γ + 0)), (3, .int v3)] dX6_fair_67 (q := 68) rfl rfl (Nat.le_of_ble_eq_true rfl) rfl ?_
    refine E_iinc 4 [(3, .int (v3 + 1)), (2, .int (if v2 < z5 then z5 else v2)), (1, .int (if v1 < z5 then v1 else z5)), (4, .int z5), (0, .ref (gB γ + 0))] dX6_fair_68 (q := 71) rfl rfl rfl (Nat.le_of_ble_eq_true rfl) rfl ?_
    refine E_goto (q := 29) dX6_fair_71 (by decide) ?_
    exact E_sub [4, 2, 1, 0] rfl (hP _ (Option.some.inj hf).symm)
set_option maxHeartbeats 4000000 in
set_option maxRecDepth 100000 in
theorem m_X6_fair {γ : GX} {n : Nat} {N : Nat} {h : HP} {x_track : Int64} {d_posts : Int32} {d_sees : FN} {d_cold : FN} {d_men : Int32} {d_debts : FN} {d_on : Int32} {d_stove : Int32} {w_hour : Int32} {w_debts : FN} {w_guards : FN} {w_stood : FN} {w_served : FN} (hH_x : Has n 0 (poB γ 0 x_track) h) (hH_d : Has n 3 (dpB γ 3 d_posts d_sees d_cold d_men d_debts d_on d_stove) h) (hH_w : Has n 11 (wtB γ 11 w_hour w_debts w_guards w_stood w_served) h) {z : Int32} (hf : f_X6_fair N d_posts d_cold d_men w_served = some z)  : Ct γ M_X6_fair n h [.ref (gB γ + 0)] (Done (some (.int z)) n h) := by
  refine Ct_of_Ev (by decide) (fun h => by cases h) (Nat.le_of_ble_eq_true rfl) ?_
  show Ev γ M_X6_fair (0, 0) n h [(0, .ref (gB γ + 0))] 0 [] _
  unfold f_X6_fair at hf
  refine E_aload_n 0 dX6_fair_0 (q := 1) rfl rfl rfl ?_
  refine E_get 1 dX6_fair_1 (q := 4) rfl ckX6 (Nat.le_of_ble_eq_true rfl) fl_X6_19 (hH_x.at 0 rfl) (hH_x.lt 0 (Nat.le_of_ble_eq_true rfl)) rfl ?_
  refine E_get 3 dX6_fair_4 (q := 7) rfl ckX0 (Nat.le_of_ble_eq_true rfl) fl_X6_177 (hH_d.at 0 rfl) (hH_d.lt 0 (Nat.le_of_ble_eq_true rfl)) rfl ?_
  refine E_if_ne dX6_fair_7 (t := 12) (by decide) (q := 10) rfl (fun c1 => ?_) (fun c1 => ?_)
  · have hf := if_f c1 hf
    refine E_aload_n 0 dX6_fair_12 (q := 13) rfl rfl rfl ?_
    refine E_get 3 dX6_fair_13 (q := 16) rfl ckX6 (Nat.le_of_ble_eq_true rfl) fl_X6_29 (hH_x.at 0 rfl) (hH_x.lt 0 (Nat.le_of_ble_eq_true rfl)) rfl ?_
    refine E_aload_n 0 dX6_fair_16 (q := 17) rfl rfl rfl ?_
    refine E_get 1 dX6_fair_17 (q := 20) rfl ckX6 (Nat.le_of_ble_eq_true rfl) fl_X6_19 (hH_x.at 0 rfl) (hH_x.lt 0 (Nat.le_of_ble_eq_true rfl)) rfl ?_
    refine E_iconst (x := 0) dX6_fair_20 (q := 21) rfl (by decide) ?_
    obtain ⟨z2, hxz2, hf⟩ := bnd hf
    refine E_cV (as := [.ref (gB γ + 3), .int 0]) (k := 11) (rest := []) (u' := (0, 0)) (st' := [.int z2]) dX6_fair_21 (q := 24) rfl lkm_X5_coldOf lkv_X6_231 (Nat.le_of_ble_eq_true rfl) ckX5 (hH_w.at 0 rfl) (hH_w.lt 0 (Nat.le_of_ble_eq_true rfl)) ⟨Nat.le_refl _, Nat.le_refl _⟩ (Nat.le_of_ble_eq_true rfl) rfl rfl (m_X5_coldOf (N := N)  (Nat.le_of_ble_eq_true rfl) hH_d hH_w hxz2) rfl rfl rfl ?_
    refine E_istore_n [(1, .int z2), (0, .ref (gB γ + 0))] dX6_fair_24 (q := 25) rfl rfl (Nat.le_of_ble_eq_true rfl) rfl ?_
    refine E_iload_n 0 dX6_fair_25 (q := 26) rfl rfl rfl ?_
    refine E_istore_n [(2, .int z2), (1, .int z2), (0, .ref (gB γ + 0))] dX6_fair_26 (q := 27) rfl rfl (Nat.le_of_ble_eq_true rfl) rfl ?_
    refine E_iconst (x := 1) dX6_fair_27 (q := 28) rfl (by decide) ?_
    refine E_istore_n [(3, .int 1), (2, .int z2), (1, .int z2), (0, .ref (gB γ + 0))] dX6_fair_28 (q := 29) rfl rfl (Nat.le_of_ble_eq_true rfl) rfl ?_
    obtain ⟨t6, hxt6, hf⟩ := bnd hf
    refine E_sub [3, 2, 1, 0] rfl ?_
    refine L_X6_fair_1 hH_x hH_d hH_w hxt6 ?_
    show Ev γ M_X6_fair _ n h [(1, .int t6.1), (2, .int t6.2)] 74 [] _
    refine E_iload_n 1 dX6_fair_74 (q := 75) rfl rfl rfl ?_
    refine E_iload_n 0 dX6_fair_75 (q := 76) rfl rfl rfl ?_
    refine E_isub dX6_fair_76 (q := 77) rfl ?_
    obtain rfl := Option.some.inj hf
    exact E_iret dX6_fair_77 rfl ⟨rfl, rfl, rfl⟩
  · have hf := if_t c1 hf
    refine E_iconst (x := 0) dX6_fair_10 (q := 11) rfl (by decide) ?_
    obtain rfl := Option.some.inj hf
    exact E_iret dX6_fair_11 rfl ⟨rfl, rfl, rfl⟩

-- PostRelief.cow(III)I
def f_X6_cow (N : Nat) (a1 : Int32) (a2 : Int32) (a3 : Int32) : Option (Int32) :=
  ((f_X6_within N a1 0 9).bind fun z1 => (if z1 = 0 then some (-1) else ((f_X6_within N a2 0 9).bind fun z3 => (if z3 = 0 then some (-1) else ((f_X6_within N a3 0 1).bind fun z5 => (if z5 = 0 then some (-1) else ((f_X6_leastTerms N (a1 * a2) ((a1 * a2) + ((10 - a1) * 10)) a3).bind fun z7 => some z7)))))))
set_option maxHeartbeats 4000000 in
set_option maxRecDepth 100000 in
theorem m_X6_cow {γ : GX} {n : Nat} {N : Nat} {h : HP} {a1 : Int32} {a2 : Int32} {a3 : Int32} {x_track : Int64} (hH_x : Has n 0 (poB γ 0 x_track) h) {z : Int32} (hf : f_X6_cow N a1 a2 a3 = some z)  : Ct γ M_X6_cow n h [.ref (gB γ + 0), .int a1, .int a2, .int a3] (Done (some (.int z)) n h) := by
  refine Ct_of_Ev (by decide) (fun h => by cases h) (Nat.le_of_ble_eq_true rfl) ?_
  show Ev γ M_X6_cow (0, 0) n h [(0, .ref (gB γ + 0)), (1, .int a1), (2, .int a2), (3, .int a3)] 0 [] _
  unfold f_X6_cow at hf
  refine E_iload_n 1 dX6_cow_0 (q := 1) rfl rfl rfl ?_
  refine E_iconst (x := 0) dX6_cow_1 (q := 2) rfl (by decide) ?_
  refine E_bipush (x := 9) dX6_cow_2 (q := 4) rfl (by decide) ?_
  obtain ⟨z1, hxz1, hf⟩ := bnd hf
  refine E_cS (as := [.int a1, .int 0, .int 9]) (rest := []) (u' := (0, 0)) (st' := [.int z1]) dX6_cow_4 (q := 7) rfl lkm_X6_within lks_X6_65 (Nat.le_of_ble_eq_true rfl) ⟨Nat.le_refl _, Nat.le_refl _⟩ (Nat.le_of_ble_eq_true rfl) rfl rfl (m_X6_within (N := N)  hxz1) rfl rfl rfl ?_
  refine E_if_eq dX6_cow_7 (t := 29) (by decide) (q := 10) rfl (fun c2 => ?_) (fun c2 => ?_)
  · have hf := if_t c2 hf
    refine E_iconst (x := (-1)) dX6_cow_29 (q := 30) rfl (by decide) ?_
    obtain rfl := Option.some.inj hf
    exact E_iret dX6_cow_30 rfl ⟨rfl, rfl, rfl⟩
  · have hf := if_f c2 hf
    refine E_iload_n 2 dX6_cow_10 (q := 11) rfl rfl rfl ?_
    refine E_iconst (x := 0) dX6_cow_11 (q := 12) rfl (by decide) ?_
    refine E_bipush (x := 9) dX6_cow_12 (q := 14) rfl (by decide) ?_
    obtain ⟨z3, hxz3, hf⟩ := bnd hf
    refine E_cS (as := [.int a2, .int 0, .int 9]) (rest := []) (u' := (0, 0)) (st' := [.int z3]) dX6_cow_14 (q := 17) rfl lkm_X6_within lks_X6_65 (Nat.le_of_ble_eq_true rfl) ⟨Nat.le_refl _, Nat.le_refl _⟩ (Nat.le_of_ble_eq_true rfl) rfl rfl (m_X6_within (N := N)  hxz3) rfl rfl rfl ?_
    refine E_if_eq dX6_cow_17 (t := 29) (by decide) (q := 20) rfl (fun c4 => ?_) (fun c4 => ?_)
    · have hf := if_t c4 hf
      refine E_iconst (x := (-1)) dX6_cow_29 (q := 30) rfl (by decide) ?_
      obtain rfl := Option.some.inj hf
      exact E_iret dX6_cow_30 rfl ⟨rfl, rfl, rfl⟩
    · have hf := if_f c4 hf
      refine E_iload_n 3 dX6_cow_20 (q := 21) rfl rfl rfl ?_
      refine E_iconst (x := 0) dX6_cow_21 (q := 22) rfl (by decide) ?_
      refine E_iconst (x := 1) dX6_cow_22 (q := 23) rfl (by decide) ?_
      obtain ⟨z5, hxz5, hf⟩ := bnd hf
      refine E_cS (as := [.int a3, .int 0, .int 1]) (rest := []) (u' := (0, 0)) (st' := [.int z5]) dX6_cow_23 (q := 26) rfl lkm_X6_within lks_X6_65 (Nat.le_of_ble_eq_true rfl) ⟨Nat.le_refl _, Nat.le_refl _⟩ (Nat.le_of_ble_eq_true rfl) rfl rfl (m_X6_within (N := N)  hxz5) rfl rfl rfl ?_
      refine E_if_ne dX6_cow_26 (t := 31) (by decide) (q := 29) rfl (fun c6 => ?_) (fun c6 => ?_)
      · have hf := if_f c6 hf
        refine E_iload_n 1 dX6_cow_31 (q := 32) rfl rfl rfl ?_
        refine E_iload_n 2 dX6_cow_32 (q := 33) rfl rfl rfl ?_
        refine E_imul dX6_cow_33 (q := 34) rfl ?_
        refine E_istore [(4, .int (a1 * a2)), (0, .ref (gB γ + 0)), (1, .int a1), (2, .int a2), (3, .int a3)] dX6_cow_34 (q := 36) rfl (Nat.le_of_ble_eq_true rfl) rfl ?_
        refine E_bipush (x := 10) dX6_cow_36 (q := 38) rfl (by decide) ?_
        refine E_iload_n 2 dX6_cow_38 (q := 39) rfl rfl rfl ?_
        refine E_isub dX6_cow_39 (q := 40) rfl ?_
        refine E_bipush (x := 10) dX6_cow_40 (q := 42) rfl (by decide) ?_
        refine E_imul dX6_cow_42 (q := 43) rfl ?_
        refine E_istore [(5, .int ((10 - a1) * 10)), (4, .int (a1 * a2)), (0, .ref (gB γ + 0)), (1, .int a1), (2, .int a2), (3, .int a3)] dX6_cow_43 (q := 45) rfl (Nat.le_of_ble_eq_true rfl) rfl ?_
        refine E_iload 1 dX6_cow_45 (q := 47) rfl rfl ?_
        refine E_iload 1 dX6_cow_47 (q := 49) rfl rfl ?_
        refine E_iload 0 dX6_cow_49 (q := 51) rfl rfl ?_
        refine E_iadd dX6_cow_51 (q := 52) rfl ?_
        refine E_iload_n 5 dX6_cow_52 (q := 53) rfl rfl rfl ?_
        obtain ⟨z7, hxz7, hf⟩ := bnd hf
        refine E_cS (as := [.int (a1 * a2), .int ((a1 * a2) + ((10 - a1) * 10)), .int a3]) (rest := []) (u' := (0, 0)) (st' := [.int z7]) dX6_cow_53 (q := 56) rfl lkm_X6_leastTerms lks_X6_209 (Nat.le_of_ble_eq_true rfl) ⟨Nat.le_refl _, Nat.le_refl _⟩ (Nat.le_of_ble_eq_true rfl) rfl rfl (m_X6_leastTerms (N := N)  hxz7) rfl rfl rfl ?_
        obtain rfl := Option.some.inj hf
        exact E_iret dX6_cow_56 rfl ⟨rfl, rfl, rfl⟩
      · have hf := if_t c6 hf
        refine E_iconst (x := (-1)) dX6_cow_29 (q := 30) rfl (by decide) ?_
        obtain rfl := Option.some.inj hf
        exact E_iret dX6_cow_30 rfl ⟨rfl, rfl, rfl⟩

-- PostRelief.rate(II)I
def f_X6_rate (N : Nat) (a1 : Int32) (a2 : Int32) (x_track : Int64) (d_posts : Int32) (d_sees : FN) (d_cold : FN) (w_debts : FN) (w_guards : FN) (w_stood : FN) : Option (Int32 × Int64) :=
  ((f_X6_isPost N a2 d_posts).bind fun z1 => (if z1 = 0 then some ((-1000000), x_track) else (if a1 = 0 then ((f_X6_rateOfPost N a2 x_track d_cold).bind fun z6 => some (z6.1, z6.2)) else (if a1 = 1 then ((f_X6_rateOfGate N a2 x_track d_cold w_stood).bind fun z9 => some (z9.1, z9.2)) else (if a1 = 2 then ((f_X6_rateOfPump N a2 x_track d_cold w_debts w_guards).bind fun z13 => some (z13.1, z13.2)) else (if a1 = 3 then ((f_X6_rateOfLane N a2 x_track d_cold w_stood).bind fun z17 => some (z17.1, z17.2)) else (if a1 = 4 then ((f_X6_rateOfYard N a2 x_track d_cold w_debts w_guards).bind fun z21 => some (z21.1, z21.2)) else (if a1 = 5 then ((f_X6_rateOfTower N a2 x_track d_posts d_sees d_cold).bind fun z25 => some (z25.1, z25.2)) else some ((-1000000), x_track)))))))))
set_option maxHeartbeats 4000000 in
set_option maxRecDepth 100000 in
theorem m_X6_rate {γ : GX} {n : Nat} {N : Nat} {h : HP} {a1 : Int32} {a2 : Int32} {x_track : Int64} {d_posts : Int32} {d_sees : FN} {d_cold : FN} {d_men : Int32} {d_debts : FN} {d_on : Int32} {d_stove : Int32} {w_hour : Int32} {w_debts : FN} {w_guards : FN} {w_stood : FN} {w_served : FN} (hH_x : Has n 0 (poB γ 0 x_track) h) (hH_d : Has n 3 (dpB γ 3 d_posts d_sees d_cold d_men d_debts d_on d_stove) h) (hH_w : Has n 11 (wtB γ 11 w_hour w_debts w_guards w_stood w_served) h) {z : Int32 × Int64} (hf : f_X6_rate N a1 a2 x_track d_posts d_sees d_cold w_debts w_guards w_stood = some z)  : Ct γ M_X6_rate n h [.ref (gB γ + 0), .int a1, .int a2] (Done (some (.int z.1)) n (put 0 (poB γ 0 z.2) h)) := by
  have hn_x : 0 + 1 ≤ n := hH_x.1
  refine Ct.heap (h := (put 0 (poB γ 0 x_track) h)) (put_self hH_x).symm ?_
  refine Ct_of_Ev (by decide) (fun h => by cases h) (Nat.le_of_ble_eq_true rfl) ?_
  show Ev γ M_X6_rate (0, 0) n (put 0 (poB γ 0 x_track) h) [(0, .ref (gB γ + 0)), (1, .int a1), (2, .int a2)] 0 [] _
  unfold f_X6_rate at hf
  refine E_aload_n 0 dX6_rate_0 (q := 1) rfl rfl rfl ?_
  refine E_iload_n 2 dX6_rate_1 (q := 2) rfl rfl rfl ?_
  obtain ⟨z1, hxz1, hf⟩ := bnd hf
  have hF2 : Has n 0 (poB γ 0 x_track) (put 0 (poB γ 0 x_track) h) := (has_put hn_x)
  have hF3 : Has n 3 (dpB γ 3 d_posts d_sees d_cold d_men d_debts d_on d_stove) (put 0 (poB γ 0 x_track) h) := (has_out hH_d (Or.inr (Nat.le_of_ble_eq_true rfl)))
  refine E_cV (as := [.int a2]) (k := 0) (rest := []) (u' := (0, 0)) (st' := [.int z1]) dX6_rate_2 (q := 5) rfl lkm_X6_isPost lkv_X6_88 (Nat.le_of_ble_eq_true rfl) ckX6 (hF2.at 0 rfl) (hF2.lt 0 (Nat.le_of_ble_eq_true rfl)) ⟨Nat.le_refl _, Nat.le_refl _⟩ (Nat.le_of_ble_eq_true rfl) rfl rfl (m_X6_isPost (N := N)  hF2 hF3 hxz1) rfl rfl rfl ?_
  refine E_if_ne dX6_rate_5 (t := 11) (by decide) (q := 8) rfl (fun c4 => ?_) (fun c4 => ?_)
  · have hf := if_f c4 hf
    refine E_iload_n 1 dX6_rate_11 (q := 12) rfl rfl rfl ?_
    by_cases c5 : a1 = 0
    · have hf := if_t c5 hf
      refine E_tabIn (t := 52) dX6_rate_12 (by rw [c5]; decide) (by rw [c5]; decide) (by rw [c5]; rfl) (by decide) ?_
      refine E_aload_n 0 dX6_rate_52 (q := 53) rfl rfl rfl ?_
      refine E_iload_n 2 dX6_rate_53 (q := 54) rfl rfl rfl ?_
      obtain ⟨z6, hxz6, hf⟩ := bnd hf
      refine E_cV (as := [.int a2]) (k := 0) (rest := []) (u' := (0, 0)) (st' := [.int z6.1]) dX6_rate_54 (q := 57) rfl lkm_X6_rateOfPost lkv_X6_239 (Nat.le_of_ble_eq_true rfl) ckX6 (hF2.at 0 rfl) (hF2.lt 0 (Nat.le_of_ble_eq_true rfl)) ⟨Nat.le_refl _, Nat.le_refl _⟩ (Nat.le_of_ble_eq_true rfl) rfl rfl (m_X6_rateOfPost (N := N)  hF2 hF3 hxz6) rfl rfl rfl ?_
      refine Ev.heap (put_put (k := 0) (cs := (poB γ 0 x_track)) (cs' := (poB γ 0 z6.2)) (show (1 : Nat) = 1 from rfl)) ?_
      obtain rfl := Option.some.inj hf
      exact E_iret dX6_rate_57 rfl ⟨rfl, rfl, rfl⟩
    · have hf := if_f c5 hf
      by_cases c8 : a1 = 1
      · have hf := if_t c8 hf
        refine E_tabIn (t := 58) dX6_rate_12 (by rw [c8]; decide) (by rw [c8]; decide) (by rw [c8]; rfl) (by decide) ?_
        refine E_aload_n 0 dX6_rate_58 (q := 59) rfl rfl rfl ?_
        refine E_iload_n 2 dX6_rate_59 (q := 60) rfl rfl rfl ?_
        obtain ⟨z9, hxz9, hf⟩ := bnd hf
        have hF10 : Has n 11 (wtB γ 11 w_hour w_debts w_guards w_stood w_served) (put 0 (poB γ 0 x_track) h) := (has_out hH_w (Or.inr (Nat.le_of_ble_eq_true rfl)))
        refine E_cV (as := [.int a2]) (k := 0) (rest := []) (u' := (0, 0)) (st' := [.int z9.1]) dX6_rate_60 (q := 63) rfl lkm_X6_rateOfGate lkv_X6_242 (Nat.le_of_ble_eq_true rfl) ckX6 (hF2.at 0 rfl) (hF2.lt 0 (Nat.le_of_ble_eq_true rfl)) ⟨Nat.le_refl _, Nat.le_refl _⟩ (Nat.le_of_ble_eq_true rfl) rfl rfl (m_X6_rateOfGate (N := N)  hF2 hF3 hF10 hxz9) rfl rfl rfl ?_
        refine Ev.heap (put_put (k := 0) (cs := (poB γ 0 x_track)) (cs' := (poB γ 0 z9.2)) (show (1 : Nat) = 1 from rfl)) ?_
        obtain rfl := Option.some.inj hf
        exact E_iret dX6_rate_63 rfl ⟨rfl, rfl, rfl⟩
      · have hf := if_f c8 hf
        by_cases c12 : a1 = 2
        · have hf := if_t c12 hf
          refine E_tabIn (t := 64) dX6_rate_12 (by rw [c12]; decide) (by rw [c12]; decide) (by rw [c12]; rfl) (by decide) ?_
          refine E_aload_n 0 dX6_rate_64 (q := 65) rfl rfl rfl ?_
          refine E_iload_n 2 dX6_rate_65 (q := 66) rfl rfl rfl ?_
          obtain ⟨z13, hxz13, hf⟩ := bnd hf
          have hF14 : Has n 11 (wtB γ 11 w_hour w_debts w_guards w_stood w_served) (put 0 (poB γ 0 x_track) h) := (has_out hH_w (Or.inr (Nat.le_of_ble_eq_true rfl)))
          refine E_cV (as := [.int a2]) (k := 0) (rest := []) (u' := (0, 0)) (st' := [.int z13.1]) dX6_rate_66 (q := 69) rfl lkm_X6_rateOfPump lkv_X6_245 (Nat.le_of_ble_eq_true rfl) ckX6 (hF2.at 0 rfl) (hF2.lt 0 (Nat.le_of_ble_eq_true rfl)) ⟨Nat.le_refl _, Nat.le_refl _⟩ (Nat.le_of_ble_eq_true rfl) rfl rfl (m_X6_rateOfPump (N := N)  hF2 hF3 hF14 hxz13) rfl rfl rfl ?_
          refine Ev.heap (put_put (k := 0) (cs := (poB γ 0 x_track)) (cs' := (poB γ 0 z13.2)) (show (1 : Nat) = 1 from rfl)) ?_
          obtain rfl := Option.some.inj hf
          exact E_iret dX6_rate_69 rfl ⟨rfl, rfl, rfl⟩
        · have hf := if_f c12 hf
          by_cases c16 : a1 = 3
          · have hf := if_t c16 hf
            refine E_tabIn (t := 70) dX6_rate_12 (by rw [c16]; decide) (by rw [c16]; decide) (by rw [c16]; rfl) (by decide) ?_
            refine E_aload_n 0 dX6_rate_70 (q := 71) rfl rfl rfl ?_
            refine E_iload_n 2 dX6_rate_71 (q := 72) rfl rfl rfl ?_
            obtain ⟨z17, hxz17, hf⟩ := bnd hf
            have hF18 : Has n 11 (wtB γ 11 w_hour w_debts w_guards w_stood w_served) (put 0 (poB γ 0 x_track) h) := (has_out hH_w (Or.inr (Nat.le_of_ble_eq_true rfl)))
            refine E_cV (as := [.int a2]) (k := 0) (rest := []) (u' := (0, 0)) (st' := [.int z17.1]) dX6_rate_72 (q := 75) rfl lkm_X6_rateOfLane lkv_X6_248 (Nat.le_of_ble_eq_true rfl) ckX6 (hF2.at 0 rfl) (hF2.lt 0 (Nat.le_of_ble_eq_true rfl)) ⟨Nat.le_refl _, Nat.le_refl _⟩ (Nat.le_of_ble_eq_true rfl) rfl rfl (m_X6_rateOfLane (N := N)  hF2 hF3 hF18 hxz17) rfl rfl rfl ?_
            refine Ev.heap (put_put (k := 0) (cs := (poB γ 0 x_track)) (cs' := (poB γ 0 z17.2)) (show (1 : Nat) = 1 from rfl)) ?_
            obtain rfl := Option.some.inj hf
            exact E_iret dX6_rate_75 rfl ⟨rfl, rfl, rfl⟩
          · have hf := if_f c16 hf
            by_cases c20 : a1 = 4
            · have hf := if_t c20 hf
              refine E_tabIn (t := 76) dX6_rate_12 (by rw [c20]; decide) (by rw [c20]; decide) (by rw [c20]; rfl) (by decide) ?_
              refine E_aload_n 0 dX6_rate_76 (q := 77) rfl rfl rfl ?_
              refine E_iload_n 2 dX6_rate_77 (q := 78) rfl rfl rfl ?_
              obtain ⟨z21, hxz21, hf⟩ := bnd hf
              have hF22 : Has n 11 (wtB γ 11 w_hour w_debts w_guards w_stood w_served) (put 0 (poB γ 0 x_track) h) := (has_out hH_w (Or.inr (Nat.le_of_ble_eq_true rfl)))
              refine E_cV (as := [.int a2]) (k := 0) (rest := []) (u' := (0, 0)) (st' := [.int z21.1]) dX6_rate_78 (q := 81) rfl lkm_X6_rateOfYard lkv_X6_251 (Nat.le_of_ble_eq_true rfl) ckX6 (hF2.at 0 rfl) (hF2.lt 0 (Nat.le_of_ble_eq_true rfl)) ⟨Nat.le_refl _, Nat.le_refl _⟩ (Nat.le_of_ble_eq_true rfl) rfl rfl (m_X6_rateOfYard (N := N)  hF2 hF3 hF22 hxz21) rfl rfl rfl ?_
              refine Ev.heap (put_put (k := 0) (cs := (poB γ 0 x_track)) (cs' := (poB γ 0 z21.2)) (show (1 : Nat) = 1 from rfl)) ?_
              obtain rfl := Option.some.inj hf
              exact E_iret dX6_rate_81 rfl ⟨rfl, rfl, rfl⟩
            · have hf := if_f c20 hf
              by_cases c24 : a1 = 5
              · have hf := if_t c24 hf
                refine E_tabIn (t := 82) dX6_rate_12 (by rw [c24]; decide) (by rw [c24]; decide) (by rw [c24]; rfl) (by decide) ?_
                refine E_aload_n 0 dX6_rate_82 (q := 83) rfl rfl rfl ?_
                refine E_iload_n 2 dX6_rate_83 (q := 84) rfl rfl rfl ?_
                obtain ⟨z25, hxz25, hf⟩ := bnd hf
                refine E_cV (as := [.int a2]) (k := 0) (rest := []) (u' := (0, 0)) (st' := [.int z25.1]) dX6_rate_84 (q := 87) rfl lkm_X6_rateOfTower lkv_X6_254 (Nat.le_of_ble_eq_true rfl) ckX6 (hF2.at 0 rfl) (hF2.lt 0 (Nat.le_of_ble_eq_true rfl)) ⟨Nat.le_refl _, Nat.le_refl _⟩ (Nat.le_of_ble_eq_true rfl) rfl rfl (m_X6_rateOfTower (N := N)  hF2 hF3 hxz25) rfl rfl rfl ?_
                refine Ev.heap (put_put (k := 0) (cs := (poB γ 0 x_track)) (cs' := (poB γ 0 z25.2)) (show (1 : Nat) = 1 from rfl)) ?_
                obtain rfl := Option.some.inj hf
                exact E_iret dX6_rate_87 rfl ⟨rfl, rfl, rfl⟩
              · have hf := if_f c24 hf
                refine E_tabOut (t := 88) dX6_rate_12 (by have g0 := ne_toInt (z := 0) (by decide) c5; have g1 := ne_toInt (z := 1) (by decide) c8; have g2 := ne_toInt (z := 2) (by decide) c12; have g3 := ne_toInt (z := 3) (by decide) c16; have g4 := ne_toInt (z := 4) (by decide) c20; have g5 := ne_toInt (z := 5) (by decide) c24; omega) (by decide) ?_
                refine E_ldc dX6_rate_88 (q := 90) rfl cw_X6_238 ?_
                obtain rfl := Option.some.inj hf
                exact E_iret dX6_rate_90 rfl ⟨rfl, rfl, rfl⟩
  · have hf := if_t c4 hf
    refine E_ldc dX6_rate_8 (q := 10) rfl cw_X6_238 ?_
    obtain rfl := Option.some.inj hf
    exact E_iret dX6_rate_10 rfl ⟨rfl, rfl, rfl⟩

-- PostRelief.keep(I)I
def f_X6_keep (N : Nat) (a1 : Int32) (w_hour : Int32) (w_debts : FN) (w_guards : FN) (w_stood : FN) (w_served : FN) (kp_kept : FN) (I_iw : (Nat → WtT)) : Option (Int32 × FN × (Nat → WtT)) :=
  ((f_X6_within N a1 0 1).bind fun z1 => (if z1 = 0 then some ((-1), kp_kept, I_iw) else (if ix a1 2 = true then ((f_X5_become N ((I_iw (ci a1)).1) ((I_iw (ci a1)).2.1) ((I_iw (ci a1)).2.2.1) ((I_iw (ci a1)).2.2.2.1) ((I_iw (ci a1)).2.2.2.2) w_hour w_debts w_guards w_stood w_served).bind fun z6 => some (w_hour, (upd kp_kept (ci a1) 1), (updT I_iw (ci a1) (z6.1, z6.2.1, z6.2.2.1, z6.2.2.2.1, z6.2.2.2.2)))) else none)))
set_option maxHeartbeats 4000000 in
set_option maxRecDepth 100000 in
theorem m_X6_keep {γ : GX} {n : Nat} {N : Nat} {h : HP} {a1 : Int32} {x_track : Int64} {w_hour : Int32} {w_debts : FN} {w_guards : FN} {w_stood : FN} {w_served : FN} {kp_kept : FN} {I_iw : (Nat → WtT)} (hH_x : Has n 0 (poB γ 0 x_track) h) (hH_w : Has n 11 (wtB γ 11 w_hour w_debts w_guards w_stood w_served) h) (hH_im : Has n 73 (imB γ 73) h) (hH_kp : Has n 74 (kpB γ 74 kp_kept) h) (hH_I : Has n 83 (iwB γ 83 I_iw) h) {z : Int32 × FN × (Nat → WtT)} (hf : f_X6_keep N a1 w_hour w_debts w_guards w_stood w_served kp_kept I_iw = some z)  : Ct γ M_X6_keep n h [.ref (gB γ + 0), .int a1] (Done (some (.int z.1)) n (put 74 (kpB γ 74 z.2.1) (put 83 (iwB γ 83 z.2.2) h))) := by
  have hn_kp : 74 + 1 ≤ n := hH_kp.1
  have hn_I : 83 + 10 ≤ n := hH_I.1
  refine Ct.heap (h := (put 74 (kpB γ 74 kp_kept) (put 83 (iwB γ 83 I_iw) h))) ((congrArg (put 74 (kpB γ 74 kp_kept)) (put_self hH_I)).trans (put_self hH_kp)).symm ?_
  refine Ct_of_Ev (by decide) (fun h => by cases h) (Nat.le_of_ble_eq_true rfl) ?_
  show Ev γ M_X6_keep (0, 0) n (put 74 (kpB γ 74 kp_kept) (put 83 (iwB γ 83 I_iw) h)) [(0, .ref (gB γ + 0)), (1, .int a1)] 0 [] _
  unfold f_X6_keep at hf
  refine E_iload_n 1 dX6_keep_0 (q := 1) rfl rfl rfl ?_
  refine E_iconst (x := 0) dX6_keep_1 (q := 2) rfl (by decide) ?_
  refine E_iconst (x := 1) dX6_keep_2 (q := 3) rfl (by decide) ?_
  obtain ⟨z1, hxz1, hf⟩ := bnd hf
  refine E_cS (as := [.int a1, .int 0, .int 1]) (rest := []) (u' := (0, 0)) (st' := [.int z1]) dX6_keep_3 (q := 6) rfl lkm_X6_within lks_X6_65 (Nat.le_of_ble_eq_true rfl) ⟨Nat.le_refl _, Nat.le_refl _⟩ (Nat.le_of_ble_eq_true rfl) rfl rfl (m_X6_within (N := N)  hxz1) rfl rfl rfl ?_
  refine E_if_ne dX6_keep_6 (t := 11) (by decide) (q := 9) rfl (fun c2 => ?_) (fun c2 => ?_)
  · have hf := if_f c2 hf
    refine E_aload_n 0 dX6_keep_11 (q := 12) rfl rfl rfl ?_
    have hF3 : Has n 0 (poB γ 0 x_track) (put 74 (kpB γ 74 kp_kept) (put 83 (iwB γ 83 I_iw) h)) := (has_out (has_out hH_x (Or.inl (Nat.le_of_ble_eq_true rfl))) (Or.inl (Nat.le_of_ble_eq_true rfl)))
    refine E_get 6 dX6_keep_12 (q := 15) rfl ckX6 (Nat.le_of_ble_eq_true rfl) fl_X6_43 (hF3.at 0 rfl) (hF3.lt 0 (Nat.le_of_ble_eq_true rfl)) rfl ?_
    refine E_iload_n 1 dX6_keep_15 (q := 16) rfl rfl rfl ?_
    obtain ⟨g4, hf⟩ := gd hf
    have hF5 : Has n 73 (imB γ 73) (put 74 (kpB γ 74 kp_kept) (put 83 (iwB γ 83 I_iw) h)) := (has_out (has_out hH_im (Or.inl (Nat.le_of_ble_eq_true rfl))) (Or.inl (Nat.le_of_ble_eq_true rfl)))
    refine E_wald (v := .ref (gB γ + (83 + 5 * ci a1))) dX6_keep_16 (q := 17) rfl (hF5.at 0 rfl) (hF5.lt 0 (Nat.le_of_ble_eq_true rfl)) g4 rfl ?_
    refine E_aload_n 0 dX6_keep_17 (q := 18) rfl rfl rfl ?_
    refine E_get 3 dX6_keep_18 (q := 21) rfl ckX6 (Nat.le_of_ble_eq_true rfl) fl_X6_29 (hF3.at 0 rfl) (hF3.lt 0 (Nat.le_of_ble_eq_true rfl)) rfl ?_
    obtain ⟨z6, hxz6, hf⟩ := bnd hf
    have hF7 : Has n 83 (iwB γ 83 I_iw) (put 74 (kpB γ 74 kp_kept) (put 83 (iwB γ 83 I_iw) h)) := (has_out (has_put hn_I) (Or.inr (Nat.le_of_ble_eq_true rfl)))
    have hF8 : Has n 11 (wtB γ 11 w_hour w_debts w_guards w_stood w_served) (put 74 (kpB γ 74 kp_kept) (put 83 (iwB γ 83 I_iw) h)) := (has_out (has_out hH_w (Or.inl (Nat.le_of_ble_eq_true rfl))) (Or.inl (Nat.le_of_ble_eq_true rfl)))
    refine E_cV (as := [.ref (gB γ + 11)]) (k := (83 + 5 * ci a1)) (rest := []) (u' := (0, 0)) (st' := []) dX6_keep_21 (q := 24) rfl lkm_X5_become lkv_X6_156 (Nat.le_of_ble_eq_true rfl) ckX5 ((fam_has2 hF7 (ix_lt g4)).at 0 rfl) ((fam_has2 hF7 (ix_lt g4)).lt 0 (Nat.le_of_ble_eq_true rfl)) ⟨Nat.le_refl _, Nat.le_refl _⟩ (Nat.le_of_ble_eq_true rfl) rfl rfl (m_X5_become (N := N)  (by omega) (by omega) (fam_has2 hF7 (ix_lt g4)) hF8 hxz6) rfl rfl rfl ?_
    refine Ev.heap ((put_comm (by show _ ∨ _; first | exact Or.inl (by show (83 + 5 * ci a1) + 5 ≤ 74; omega) | exact Or.inr (by show 74 + 1 ≤ (83 + 5 * ci a1); omega))).trans (congrArg (put 74 (kpB γ 74 kp_kept)) (fam_put2 (ix_lt g4)))) ?_
    refine E_aload_n 0 dX6_keep_24 (q := 25) rfl rfl rfl ?_
    have hF10 : Has n 0 (poB γ 0 x_track) (put 74 (kpB γ 74 kp_kept) (put 83 (iwB γ 83 (updT I_iw (ci a1) (z6.1, z6.2.1, z6.2.2.1, z6.2.2.2.1, z6.2.2.2.2))) h)) := (has_out (has_out hH_x (Or.inl (Nat.le_of_ble_eq_true rfl))) (Or.inl (Nat.le_of_ble_eq_true rfl)))
    refine E_get 7 dX6_keep_25 (q := 28) rfl ckX6 (Nat.le_of_ble_eq_true rfl) fl_X6_47 (hF10.at 0 rfl) (hF10.lt 0 (Nat.le_of_ble_eq_true rfl)) rfl ?_
    refine E_iload_n 1 dX6_keep_28 (q := 29) rfl rfl rfl ?_
    refine E_iconst (x := 1) dX6_keep_29 (q := 30) rfl (by decide) ?_
    have hF11 : Has n 74 (kpB γ 74 kp_kept) (put 74 (kpB γ 74 kp_kept) (put 83 (iwB γ 83 (updT I_iw (ci a1) (z6.1, z6.2.1, z6.2.2.1, z6.2.2.2.1, z6.2.2.2.2))) h)) := (has_put hn_kp)
    refine E_zast dX6_keep_30 (q := 31) rfl (hF11.at 0 rfl) (hF11.lt 0 (Nat.le_of_ble_eq_true rfl)) g4 rfl (up_put (i := 0) (cs' := (kpB γ 74 (upd kp_kept (ci a1) 1))) (Nat.le_of_ble_eq_true rfl) rfl) ?_
    refine E_aload_n 0 dX6_keep_31 (q := 32) rfl rfl rfl ?_
    have hF13 : Has n 0 (poB γ 0 x_track) (put 74 (kpB γ 74 (upd kp_kept (ci a1) 1)) (put 83 (iwB γ 83 (updT I_iw (ci a1) (z6.1, z6.2.1, z6.2.2.1, z6.2.2.2.1, z6.2.2.2.2))) h)) := (has_out (has_out hH_x (Or.inl (Nat.le_of_ble_eq_true rfl))) (Or.inl (Nat.le_of_ble_eq_true rfl)))
    refine E_get 3 dX6_keep_32 (q := 35) rfl ckX6 (Nat.le_of_ble_eq_true rfl) fl_X6_29 (hF13.at 0 rfl) (hF13.lt 0 (Nat.le_of_ble_eq_true rfl)) rfl ?_
    have hF14 : Has n 11 (wtB γ 11 w_hour w_debts w_guards w_stood w_served) (put 74 (kpB γ 74 (upd kp_kept (ci a1) 1)) (put 83 (iwB γ 83 (updT I_iw (ci a1) (z6.1, z6.2.1, z6.2.2.1, z6.2.2.2.1, z6.2.2.2.2))) h)) := (has_out (has_out hH_w (Or.inl (Nat.le_of_ble_eq_true rfl))) (Or.inl (Nat.le_of_ble_eq_true rfl)))
    refine E_get 0 dX6_keep_35 (q := 38) rfl ckX5 (Nat.le_of_ble_eq_true rfl) fl_X6_117 (hF14.at 0 rfl) (hF14.lt 0 (Nat.le_of_ble_eq_true rfl)) rfl ?_
    obtain rfl := Option.some.inj hf
    exact E_iret dX6_keep_38 rfl ⟨rfl, rfl, rfl⟩
  · have hf := if_t c2 hf
    refine E_iconst (x := (-1)) dX6_keep_9 (q := 10) rfl (by decide) ?_
    obtain rfl := Option.some.inj hf
    exact E_iret dX6_keep_10 rfl ⟨rfl, rfl, rfl⟩

-- PostRelief.back(I)I
def f_X6_back (N : Nat) (a1 : Int32) (w_hour : Int32) (w_debts : FN) (w_guards : FN) (w_stood : FN) (w_served : FN) (p_known : Int32) (kp_kept : FN) (I_iw : (Nat → WtT)) : Option (Int32 × Int32 × FN × FN × FN × FN × Int32) :=
  ((f_X6_within N a1 0 1).bind fun z1 => (if z1 = 0 then some ((-1), w_hour, w_debts, w_guards, w_stood, w_served, p_known) else (if ix a1 2 = true then (if (kp_kept (ci a1)) = 0 then some ((-2), w_hour, w_debts, w_guards, w_stood, w_served, p_known) else ((f_X5_become N w_hour w_debts w_guards w_stood w_served ((I_iw (ci a1)).1) ((I_iw (ci a1)).2.1) ((I_iw (ci a1)).2.2.1) ((I_iw (ci a1)).2.2.2.1) ((I_iw (ci a1)).2.2.2.2)).bind fun z8 => some (z8.1, z8.1, z8.2.1, z8.2.2.1, z8.2.2.2.1, z8.2.2.2.2, 0))) else none)))
set_option maxHeartbeats 4000000 in
set_option maxRecDepth 100000 in
theorem m_X6_back {γ : GX} {n : Nat} {N : Nat} {h : HP} {a1 : Int32} {x_track : Int64} {w_hour : Int32} {w_debts : FN} {w_guards : FN} {w_stood : FN} {w_served : FN} {p_next : Int32} {p_known : Int32} {kp_kept : FN} {I_iw : (Nat → WtT)} (hH_x : Has n 0 (poB γ 0 x_track) h) (hH_w : Has n 11 (wtB γ 11 w_hour w_debts w_guards w_stood w_served) h) (hH_p : Has n 21 (paB γ 21 p_next p_known) h) (hH_im : Has n 73 (imB γ 73) h) (hH_kp : Has n 74 (kpB γ 74 kp_kept) h) (hH_I : Has n 83 (iwB γ 83 I_iw) h) {z : Int32 × Int32 × FN × FN × FN × FN × Int32} (hf : f_X6_back N a1 w_hour w_debts w_guards w_stood w_served p_known kp_kept I_iw = some z)  : Ct γ M_X6_back n h [.ref (gB γ + 0), .int a1] (Done (some (.int z.1)) n (put 11 (wtB γ 11 z.2.1 z.2.2.1 z.2.2.2.1 z.2.2.2.2.1 z.2.2.2.2.2.1) (put 21 (paB γ 21 p_next z.2.2.2.2.2.2) h))) := by
  have hn_w : 11 + 5 ≤ n := hH_w.1
  have hn_p : 21 + 2 ≤ n := hH_p.1
  refine Ct.heap (h := (put 11 (wtB γ 11 w_hour w_debts w_guards w_stood w_served) (put 21 (paB γ 21 p_next p_known) h))) ((congrArg (put 11 (wtB γ 11 w_hour w_debts w_guards w_stood w_served)) (put_self hH_p)).trans (put_self hH_w)).symm ?_
  refine Ct_of_Ev (by decide) (fun h => by cases h) (Nat.le_of_ble_eq_true rfl) ?_
  show Ev γ M_X6_back (0, 0) n (put 11 (wtB γ 11 w_hour w_debts w_guards w_stood w_served) (put 21 (paB γ 21 p_next p_known) h)) [(0, .ref (gB γ + 0)), (1, .int a1)] 0 [] _
  unfold f_X6_back at hf
  refine E_iload_n 1 dX6_back_0 (q := 1) rfl rfl rfl ?_
  refine E_iconst (x := 0) dX6_back_1 (q := 2) rfl (by decide) ?_
  refine E_iconst (x := 1) dX6_back_2 (q := 3) rfl (by decide) ?_
  obtain ⟨z1, hxz1, hf⟩ := bnd hf
  refine E_cS (as := [.int a1, .int 0, .int 1]) (rest := []) (u' := (0, 0)) (st' := [.int z1]) dX6_back_3 (q := 6) rfl lkm_X6_within lks_X6_65 (Nat.le_of_ble_eq_true rfl) ⟨Nat.le_refl _, Nat.le_refl _⟩ (Nat.le_of_ble_eq_true rfl) rfl rfl (m_X6_within (N := N)  hxz1) rfl rfl rfl ?_
  refine E_if_ne dX6_back_6 (t := 11) (by decide) (q := 9) rfl (fun c2 => ?_) (fun c2 => ?_)
  · have hf := if_f c2 hf
    refine E_aload_n 0 dX6_back_11 (q := 12) rfl rfl rfl ?_
    have hF3 : Has n 0 (poB γ 0 x_track) (put 11 (wtB γ 11 w_hour w_debts w_guards w_stood w_served) (put 21 (paB γ 21 p_next p_known) h)) := (has_out (has_out hH_x (Or.inl (Nat.le_of_ble_eq_true rfl))) (Or.inl (Nat.le_of_ble_eq_true rfl)))
    refine E_get 7 dX6_back_12 (q := 15) rfl ckX6 (Nat.le_of_ble_eq_true rfl) fl_X6_47 (hF3.at 0 rfl) (hF3.lt 0 (Nat.le_of_ble_eq_true rfl)) rfl ?_
    refine E_iload_n 1 dX6_back_15 (q := 16) rfl rfl rfl ?_
    obtain ⟨g4, hf⟩ := gd hf
    have hF5 : Has n 74 (kpB γ 74 kp_kept) (put 11 (wtB γ 11 w_hour w_debts w_guards w_stood w_served) (put 21 (paB γ 21 p_next p_known) h)) := (has_out (has_out hH_kp (Or.inr (Nat.le_of_ble_eq_true rfl))) (Or.inr (Nat.le_of_ble_eq_true rfl)))
    refine E_zald dX6_back_16 (q := 17) rfl (hF5.at 0 rfl) (hF5.lt 0 (Nat.le_of_ble_eq_true rfl)) g4 ?_
    refine E_if_ne dX6_back_17 (t := 23) (by decide) (q := 20) rfl (fun c6 => ?_) (fun c6 => ?_)
    · have hf := if_f c6 hf
      refine E_aload_n 0 dX6_back_23 (q := 24) rfl rfl rfl ?_
      refine E_get 3 dX6_back_24 (q := 27) rfl ckX6 (Nat.le_of_ble_eq_true rfl) fl_X6_29 (hF3.at 0 rfl) (hF3.lt 0 (Nat.le_of_ble_eq_true rfl)) rfl ?_
      refine E_aload_n 0 dX6_back_27 (q := 28) rfl rfl rfl ?_
      refine E_get 6 dX6_back_28 (q := 31) rfl ckX6 (Nat.le_of_ble_eq_true rfl) fl_X6_43 (hF3.at 0 rfl) (hF3.lt 0 (Nat.le_of_ble_eq_true rfl)) rfl ?_
      refine E_iload_n 1 dX6_back_31 (q := 32) rfl rfl rfl ?_
      have hF7 : Has n 73 (imB γ 73) (put 11 (wtB γ 11 w_hour w_debts w_guards w_stood w_served) (put 21 (paB γ 21 p_next p_known) h)) := (has_out (has_out hH_im (Or.inr (Nat.le_of_ble_eq_true rfl))) (Or.inr (Nat.le_of_ble_eq_true rfl)))
      refine E_wald (v := .ref (gB γ + (83 + 5 * ci a1))) dX6_back_32 (q := 33) rfl (hF7.at 0 rfl) (hF7.lt 0 (Nat.le_of_ble_eq_true rfl)) g4 rfl ?_
      obtain ⟨z8, hxz8, hf⟩ := bnd hf
      have hF9 : Has n 11 (wtB γ 11 w_hour w_debts w_guards w_stood w_served) (put 11 (wtB γ 11 w_hour w_debts w_guards w_stood w_served) (put 21 (paB γ 21 p_next p_known) h)) := (has_put hn_w)
      have hF10 : Has n 83 (iwB γ 83 I_iw) (put 11 (wtB γ 11 w_hour w_debts w_guards w_stood w_served) (put 21 (paB γ 21 p_next p_known) h)) := (has_out (has_out hH_I (Or.inr (Nat.le_of_ble_eq_true rfl))) (Or.inr (Nat.le_of_ble_eq_true rfl)))
      refine E_cV (as := [.ref (gB γ + (83 + 5 * ci a1))]) (k := 11) (rest := []) (u' := (0, 0)) (st' := []) dX6_back_33 (q := 36) rfl lkm_X5_become lkv_X6_156 (Nat.le_of_ble_eq_true rfl) ckX5 (hF9.at 0 rfl) (hF9.lt 0 (Nat.le_of_ble_eq_true rfl)) ⟨Nat.le_refl _, Nat.le_refl _⟩ (Nat.le_of_ble_eq_true rfl) rfl rfl (m_X5_become (N := N)  (Nat.le_of_ble_eq_true rfl) (by omega) hF9 (fam_has2 hF10 (ix_lt g4)) hxz8) rfl rfl rfl ?_
      refine Ev.heap (put_put (k := 11) (cs := (wtB γ 11 w_hour w_debts w_guards w_stood w_served)) (cs' := (wtB γ 11 z8.1 z8.2.1 z8.2.2.1 z8.2.2.2.1 z8.2.2.2.2)) (show (5 : Nat) = 5 from rfl)) ?_
      refine E_aload_n 0 dX6_back_36 (q := 37) rfl rfl rfl ?_
      have hF12 : Has n 0 (poB γ 0 x_track) (put 11 (wtB γ 11 z8.1 z8.2.1 z8.2.2.1 z8.2.2.2.1 z8.2.2.2.2) (put 21 (paB γ 21 p_next p_known) h)) := (has_out (has_out hH_x (Or.inl (Nat.le_of_ble_eq_true rfl))) (Or.inl (Nat.le_of_ble_eq_true rfl)))
      refine E_get 5 dX6_back_37 (q := 40) rfl ckX6 (Nat.le_of_ble_eq_true rfl) fl_X6_39 (hF12.at 0 rfl) (hF12.lt 0 (Nat.le_of_ble_eq_true rfl)) rfl ?_
      refine E_iconst (x := 0) dX6_back_40 (q := 41) rfl (by decide) ?_
      have hF13 : Has n 21 (paB γ 21 p_next p_known) (put 11 (wtB γ 11 z8.1 z8.2.1 z8.2.2.1 z8.2.2.2.1 z8.2.2.2.2) (put 21 (paB γ 21 p_next p_known) h)) := (has_out (has_put hn_p) (Or.inr (Nat.le_of_ble_eq_true rfl)))
      refine E_put 2 dX6_back_41 (q := 44) rfl ckX2 (Nat.le_of_ble_eq_true rfl) fl_X6_130 rfl rfl rfl (hF13.at 0 rfl) (hF13.lt 0 (Nat.le_of_ble_eq_true rfl)) (Nat.le_of_ble_eq_true rfl) ((up_put_out (Or.inr (Nat.le_of_ble_eq_true rfl))).trans (congrArg (put 11 (wtB γ 11 z8.1 z8.2.1 z8.2.2.1 z8.2.2.2.1 z8.2.2.2.2)) (up_put (i := 0) (cs' := (paB γ 21 p_next 0)) (Nat.le_of_ble_eq_true rfl) rfl))) ?_
      refine E_aload_n 0 dX6_back_44 (q := 45) rfl rfl rfl ?_
      have hF15 : Has n 0 (poB γ 0 x_track) (put 11 (wtB γ 11 z8.1 z8.2.1 z8.2.2.1 z8.2.2.2.1 z8.2.2.2.2) (put 21 (paB γ 21 p_next 0) h)) := (has_out (has_out hH_x (Or.inl (Nat.le_of_ble_eq_true rfl))) (Or.inl (Nat.le_of_ble_eq_true rfl)))
      refine E_get 3 dX6_back_45 (q := 48) rfl ckX6 (Nat.le_of_ble_eq_true rfl) fl_X6_29 (hF15.at 0 rfl) (hF15.lt 0 (Nat.le_of_ble_eq_true rfl)) rfl ?_
      have hF16 : Has n 11 (wtB γ 11 z8.1 z8.2.1 z8.2.2.1 z8.2.2.2.1 z8.2.2.2.2) (put 11 (wtB γ 11 z8.1 z8.2.1 z8.2.2.1 z8.2.2.2.1 z8.2.2.2.2) (put 21 (paB γ 21 p_next 0) h)) := (has_put hn_w)
      refine E_get 0 dX6_back_48 (q := 51) rfl ckX5 (Nat.le_of_ble_eq_true rfl) fl_X6_117 (hF16.at 0 rfl) (hF16.lt 0 (Nat.le_of_ble_eq_true rfl)) rfl ?_
      obtain rfl := Option.some.inj hf
      exact E_iret dX6_back_51 rfl ⟨rfl, rfl, rfl⟩
    · have hf := if_t c6 hf
      refine E_bipush (x := (-2)) dX6_back_20 (q := 22) rfl (by decide) ?_
      obtain rfl := Option.some.inj hf
      exact E_iret dX6_back_22 rfl ⟨rfl, rfl, rfl⟩
  · have hf := if_t c2 hf
    refine E_iconst (x := (-1)) dX6_back_9 (q := 10) rfl (by decide) ?_
    obtain rfl := Option.some.inj hf
    exact E_iret dX6_back_10 rfl ⟨rfl, rfl, rfl⟩

-- PostRelief.count(I)I
def f_X6_count (N : Nat) (a1 : Int32) (t_length : Int32) (d_posts : Int32) (d_men : Int32) (d_on : Int32) (d_stove : Int32) (f_size : Int32) : Option (Int32) :=
  (if a1 = 0 then some d_posts else (if a1 = 1 then some d_men else (if a1 = 2 then some d_on else (if a1 = 3 then some d_stove else (if a1 = 4 then some f_size else (if a1 = 5 then some t_length else some (-1)))))))
set_option maxHeartbeats 4000000 in
set_option maxRecDepth 100000 in
theorem m_X6_count {γ : GX} {n : Nat} {N : Nat} {h : HP} {a1 : Int32} {x_track : Int64} {t_letters : FN} {t_length : Int32} {t_at : Int32} {t_start : Int32} {t_token : Int32} {t_value : Int32} {t_onTold : Int32} {t_stoveTold : Int32} {d_posts : Int32} {d_sees : FN} {d_cold : FN} {d_men : Int32} {d_debts : FN} {d_on : Int32} {d_stove : Int32} {f_size : Int32} {f_men : FN} {f_hours : FN} {f_asleep : FN} (hH_x : Has n 0 (poB γ 0 x_track) h) (hH_t : Has n 1 (txB γ 1 t_letters t_length t_at t_start t_token t_value t_onTold t_stoveTold) h) (hH_d : Has n 3 (dpB γ 3 d_posts d_sees d_cold d_men d_debts d_on d_stove) h) (hH_f : Has n 75 (fiB γ 75 f_size f_men f_hours f_asleep) h) {z : Int32} (hf : f_X6_count N a1 t_length d_posts d_men d_on d_stove f_size = some z)  : Ct γ M_X6_count n h [.ref (gB γ + 0), .int a1] (Done (some (.int z)) n h) := by
  refine Ct_of_Ev (by decide) (fun h => by cases h) (Nat.le_of_ble_eq_true rfl) ?_
  show Ev γ M_X6_count (0, 0) n h [(0, .ref (gB γ + 0)), (1, .int a1)] 0 [] _
  unfold f_X6_count at hf
  refine E_iload_n 1 dX6_count_0 (q := 1) rfl rfl rfl ?_
  by_cases c1 : a1 = 0
  · have hf := if_t c1 hf
    refine E_tabIn (t := 40) dX6_count_1 (by rw [c1]; decide) (by rw [c1]; decide) (by rw [c1]; rfl) (by decide) ?_
    refine E_aload_n 0 dX6_count_40 (q := 41) rfl rfl rfl ?_
    refine E_get 1 dX6_count_41 (q := 44) rfl ckX6 (Nat.le_of_ble_eq_true rfl) fl_X6_19 (hH_x.at 0 rfl) (hH_x.lt 0 (Nat.le_of_ble_eq_true rfl)) rfl ?_
    refine E_get 0 dX6_count_44 (q := 47) rfl ckX0 (Nat.le_of_ble_eq_true rfl) fl_X6_171 (hH_d.at 0 rfl) (hH_d.lt 0 (Nat.le_of_ble_eq_true rfl)) rfl ?_
    obtain rfl := Option.some.inj hf
    exact E_iret dX6_count_47 rfl ⟨rfl, rfl, rfl⟩
  · have hf := if_f c1 hf
    by_cases c2 : a1 = 1
    · have hf := if_t c2 hf
      refine E_tabIn (t := 48) dX6_count_1 (by rw [c2]; decide) (by rw [c2]; decide) (by rw [c2]; rfl) (by decide) ?_
      refine E_aload_n 0 dX6_count_48 (q := 49) rfl rfl rfl ?_
      refine E_get 1 dX6_count_49 (q := 52) rfl ckX6 (Nat.le_of_ble_eq_true rfl) fl_X6_19 (hH_x.at 0 rfl) (hH_x.lt 0 (Nat.le_of_ble_eq_true rfl)) rfl ?_
      refine E_get 3 dX6_count_52 (q := 55) rfl ckX0 (Nat.le_of_ble_eq_true rfl) fl_X6_177 (hH_d.at 0 rfl) (hH_d.lt 0 (Nat.le_of_ble_eq_true rfl)) rfl ?_
      obtain rfl := Option.some.inj hf
      exact E_iret dX6_count_55 rfl ⟨rfl, rfl, rfl⟩
    · have hf := if_f c2 hf
      by_cases c3 : a1 = 2
      · have hf := if_t c3 hf
        refine E_tabIn (t := 56) dX6_count_1 (by rw [c3]; decide) (by rw [c3]; decide) (by rw [c3]; rfl) (by decide) ?_
        refine E_aload_n 0 dX6_count_56 (q := 57) rfl rfl rfl ?_
        refine E_get 1 dX6_count_57 (q := 60) rfl ckX6 (Nat.le_of_ble_eq_true rfl) fl_X6_19 (hH_x.at 0 rfl) (hH_x.lt 0 (Nat.le_of_ble_eq_true rfl)) rfl ?_
        refine E_get 5 dX6_count_60 (q := 63) rfl ckX0 (Nat.le_of_ble_eq_true rfl) fl_X6_257 (hH_d.at 0 rfl) (hH_d.lt 0 (Nat.le_of_ble_eq_true rfl)) rfl ?_
        obtain rfl := Option.some.inj hf
        exact E_iret dX6_count_63 rfl ⟨rfl, rfl, rfl⟩
      · have hf := if_f c3 hf
        by_cases c4 : a1 = 3
        · have hf := if_t c4 hf
          refine E_tabIn (t := 64) dX6_count_1 (by rw [c4]; decide) (by rw [c4]; decide) (by rw [c4]; rfl) (by decide) ?_
          refine E_aload_n 0 dX6_count_64 (q := 65) rfl rfl rfl ?_
          refine E_get 1 dX6_count_65 (q := 68) rfl ckX6 (Nat.le_of_ble_eq_true rfl) fl_X6_19 (hH_x.at 0 rfl) (hH_x.lt 0 (Nat.le_of_ble_eq_true rfl)) rfl ?_
          refine E_get 6 dX6_count_68 (q := 71) rfl ckX0 (Nat.le_of_ble_eq_true rfl) fl_X6_260 (hH_d.at 0 rfl) (hH_d.lt 0 (Nat.le_of_ble_eq_true rfl)) rfl ?_
          obtain rfl := Option.some.inj hf
          exact E_iret dX6_count_71 rfl ⟨rfl, rfl, rfl⟩
        · have hf := if_f c4 hf
          by_cases c5 : a1 = 4
          · have hf := if_t c5 hf
            refine E_tabIn (t := 72) dX6_count_1 (by rw [c5]; decide) (by rw [c5]; decide) (by rw [c5]; rfl) (by decide) ?_
            refine E_aload_n 0 dX6_count_72 (q := 73) rfl rfl rfl ?_
            refine E_get 8 dX6_count_73 (q := 76) rfl ckX6 (Nat.le_of_ble_eq_true rfl) fl_X6_54 (hH_x.at 0 rfl) (hH_x.lt 0 (Nat.le_of_ble_eq_true rfl)) rfl ?_
            refine E_get 0 dX6_count_76 (q := 79) rfl ckX1 (Nat.le_of_ble_eq_true rfl) fl_X6_218 (hH_f.at 0 rfl) (hH_f.lt 0 (Nat.le_of_ble_eq_true rfl)) rfl ?_
            obtain rfl := Option.some.inj hf
            exact E_iret dX6_count_79 rfl ⟨rfl, rfl, rfl⟩
          · have hf := if_f c5 hf
            by_cases c6 : a1 = 5
            · have hf := if_t c6 hf
              refine E_tabIn (t := 80) dX6_count_1 (by rw [c6]; decide) (by rw [c6]; decide) (by rw [c6]; rfl) (by decide) ?_
              refine E_aload_n 0 dX6_count_80 (q := 81) rfl rfl rfl ?_
              refine E_get 0 dX6_count_81 (q := 84) rfl ckX6 (Nat.le_of_ble_eq_true rfl) fl_X6_10 (hH_x.at 0 rfl) (hH_x.lt 0 (Nat.le_of_ble_eq_true rfl)) rfl ?_
              refine E_get 1 dX6_count_84 (q := 87) rfl ckX4 (Nat.le_of_ble_eq_true rfl) fl_X6_73 (hH_t.at 0 rfl) (hH_t.lt 0 (Nat.le_of_ble_eq_true rfl)) rfl ?_
              obtain rfl := Option.some.inj hf
              exact E_iret dX6_count_87 rfl ⟨rfl, rfl, rfl⟩
            · have hf := if_f c6 hf
              refine E_tabOut (t := 88) dX6_count_1 (by have g0 := ne_toInt (z := 0) (by decide) c1; have g1 := ne_toInt (z := 1) (by decide) c2; have g2 := ne_toInt (z := 2) (by decide) c3; have g3 := ne_toInt (z := 3) (by decide) c4; have g4 := ne_toInt (z := 4) (by decide) c5; have g5 := ne_toInt (z := 5) (by decide) c6; omega) (by decide) ?_
              refine E_iconst (x := (-1)) dX6_count_88 (q := 89) rfl (by decide) ?_
              obtain rfl := Option.some.inj hf
              exact E_iret dX6_count_89 rfl ⟨rfl, rfl, rfl⟩

-- PostRelief.trace()J
def f_X6_trace (N : Nat) (x_track : Int64) : Option (Int64) :=
  some x_track
set_option maxHeartbeats 4000000 in
set_option maxRecDepth 100000 in
theorem m_X6_trace {γ : GX} {n : Nat} {N : Nat} {h : HP} {x_track : Int64} (hH_x : Has n 0 (poB γ 0 x_track) h) {z : Int64} (hf : f_X6_trace N x_track = some z)  : Ct γ M_X6_trace n h [.ref (gB γ + 0)] (Done (some (.long z)) n h) := by
  refine Ct_of_Ev (by decide) (fun h => by cases h) (Nat.le_of_ble_eq_true rfl) ?_
  show Ev γ M_X6_trace (0, 0) n h [(0, .ref (gB γ + 0))] 0 [] _
  unfold f_X6_trace at hf
  refine E_aload_n 0 dX6_trace_0 (q := 1) rfl rfl rfl ?_
  refine E_get 10 dX6_trace_1 (q := 4) rfl ckX6 (Nat.le_of_ble_eq_true rfl) fl_X6_263 (hH_x.at 0 rfl) (hH_x.lt 0 (Nat.le_of_ble_eq_true rfl)) rfl ?_
  obtain rfl := Option.some.inj hf
  exact E_lret dX6_trace_4 rfl ⟨rfl, rfl, rfl⟩
