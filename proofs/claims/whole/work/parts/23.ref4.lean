def M_X7_gcd : MI := (yX7_gcd, cX7_gcd, 5, (some .int), false, 1, 0, 0)
theorem lkm_X7_gcd : LkM M_X7_gcd 2 := ⟨(lg_mem 58 (by decide +kernel) rfl), (lg_mem 944 (by decide +kernel) rfl), ⟨by decide, by decide, by decide +kernel⟩, (Nat.le_of_ble_eq_true rfl)⟩
def M_X7_part : MI := (yX7_part, cX7_part, 4, (some .int), false, 2, 0, 0)
theorem lkm_X7_part : LkM M_X7_part 3 := ⟨(lg_mem 58 (by decide +kernel) rfl), (lg_mem 941 (by decide +kernel) rfl), ⟨by decide, by decide, by decide +kernel⟩, (Nat.le_of_ble_eq_true rfl)⟩
def M_X7_odds : MI := (yX7_odds, cX7_odds, 9, (some .int), false, 3, 0, 0)
theorem lkm_X7_odds : LkM M_X7_odds 2 := ⟨(lg_mem 58 (by decide +kernel) rfl), (lg_mem 938 (by decide +kernel) rfl), ⟨by decide, by decide, by decide +kernel⟩, (Nat.le_of_ble_eq_true rfl)⟩
def M_X7_lowest : MI := (yX7_lowest, cX7_lowest, 2, (some .int), false, 1, 0, 0)
theorem lkm_X7_lowest : LkM M_X7_lowest 1 := ⟨(lg_mem 58 (by decide +kernel) rfl), (lg_mem 951 (by decide +kernel) rfl), ⟨by decide, by decide, by decide +kernel⟩, (Nat.le_of_ble_eq_true rfl)⟩
def M_X7_creep : MI := (yX7_creep, cX7_creep, 4, (some .int), false, 4, 0, 0)
theorem lkm_X7_creep : LkM M_X7_creep 2 := ⟨(lg_mem 58 (by decide +kernel) rfl), (lg_mem 948 (by decide +kernel) rfl), ⟨by decide, by decide, by decide +kernel⟩, (Nat.le_of_ble_eq_true rfl)⟩
def M_X7_found : MI := (yX7_found, cX7_found, 4, (some .int), false, 3, 0, 0)
theorem lkm_X7_found : LkM M_X7_found 3 := ⟨(lg_mem 58 (by decide +kernel) rfl), (lg_mem 955 (by decide +kernel) rfl), ⟨by decide, by decide, by decide +kernel⟩, (Nat.le_of_ble_eq_true rfl)⟩
def M_X7_forget : MI := (yX7_forget, cX7_forget, 2, (some .int), false, 1, 0, 0)
theorem lkm_X7_forget : LkM M_X7_forget 0 := ⟨(lg_mem 58 (by decide +kernel) rfl), (lg_mem 959 (by decide +kernel) rfl), ⟨by decide, by decide, by decide +kernel⟩, (Nat.le_of_ble_eq_true rfl)⟩
def M_X7_isFit : MI := (yX7_isFit, cX7_isFit, 6, (some .boolean), false, 4, 0, 0)
theorem lkm_X7_isFit : LkM M_X7_isFit 2 := ⟨(lg_mem 58 (by decide +kernel) rfl), (lg_mem 967 (by decide +kernel) rfl), ⟨by decide, by decide, by decide +kernel⟩, (Nat.le_of_ble_eq_true rfl)⟩
def M_X7_fits : MI := (yX7_fits, cX7_fits, 6, (some .int), false, 5, 0, 0)
theorem lkm_X7_fits : LkM M_X7_fits 2 := ⟨(lg_mem 58 (by decide +kernel) rfl), (lg_mem 963 (by decide +kernel) rfl), ⟨by decide, by decide, by decide +kernel⟩, (Nat.le_of_ble_eq_true rfl)⟩
def M_X7_had : MI := (yX7_had, cX7_had, 3, (some .int), false, 3, 0, 0)
theorem lkm_X7_had : LkM M_X7_had 2 := ⟨(lg_mem 58 (by decide +kernel) rfl), (lg_mem 971 (by decide +kernel) rfl), ⟨by decide, by decide, by decide +kernel⟩, (Nat.le_of_ble_eq_true rfl)⟩
def M_X7_fair : MI := (yX7_fair, cX7_fair, 6, (some .int), false, 1, 0, 0)
theorem lkm_X7_fair : LkM M_X7_fair 0 := ⟨(lg_mem 58 (by decide +kernel) rfl), (lg_mem 975 (by decide +kernel) rfl), ⟨by decide, by decide, by decide +kernel⟩, (Nat.le_of_ble_eq_true rfl)⟩
def M_X7_cow : MI := (yX7_cow, cX7_cow, 4, (some .int), false, 3, 0, 0)
theorem lkm_X7_cow : LkM M_X7_cow 3 := ⟨(lg_mem 58 (by decide +kernel) rfl), (lg_mem 979 (by decide +kernel) rfl), ⟨by decide, by decide, by decide +kernel⟩, (Nat.le_of_ble_eq_true rfl)⟩
def M_X7_rate : MI := (yX7_rate, cX7_rate, 6, (some .int), false, 3, 0, 0)
theorem lkm_X7_rate : LkM M_X7_rate 2 := ⟨(lg_mem 58 (by decide +kernel) rfl), (lg_mem 983 (by decide +kernel) rfl), ⟨by decide, by decide, by decide +kernel⟩, (Nat.le_of_ble_eq_true rfl)⟩
def M_X7_keep : MI := (yX7_keep, cX7_keep, 3, (some .int), false, 2, 0, 0)
theorem lkm_X7_keep : LkM M_X7_keep 1 := ⟨(lg_mem 58 (by decide +kernel) rfl), (lg_mem 993 (by decide +kernel) rfl), ⟨by decide, by decide, by decide +kernel⟩, (Nat.le_of_ble_eq_true rfl)⟩
def M_X7_back : MI := (yX7_back, cX7_back, 3, (some .int), false, 2, 0, 0)
theorem lkm_X7_back : LkM M_X7_back 1 := ⟨(lg_mem 58 (by decide +kernel) rfl), (lg_mem 997 (by decide +kernel) rfl), ⟨by decide, by decide, by decide +kernel⟩, (Nat.le_of_ble_eq_true rfl)⟩
def M_X7_count : MI := (yX7_count, cX7_count, 2, (some .int), false, 2, 0, 0)
theorem lkm_X7_count : LkM M_X7_count 1 := ⟨(lg_mem 58 (by decide +kernel) rfl), (lg_mem 1001 (by decide +kernel) rfl), ⟨by decide, by decide, by decide +kernel⟩, (Nat.le_of_ble_eq_true rfl)⟩
def M_X7_trace : MI := (yX7_trace, cX7_trace, 1, (some .long), false, 1, 0, 0)
theorem lkm_X7_trace : LkM M_X7_trace 0 := ⟨(lg_mem 58 (by decide +kernel) rfl), (lg_mem 1005 (by decide +kernel) rfl), ⟨by decide, by decide, by decide +kernel⟩, (Nat.le_of_ble_eq_true rfl)⟩
theorem lks_X7_185 : LkS RX7 185 M_X7_gcd := ⟨(lg_mem 942 (by decide +kernel) rfl), (lg_mem 943 (by decide +kernel) rfl)⟩
theorem lks_X7_188 : LkS RX7 188 M_X7_part := ⟨(lg_mem 939 (by decide +kernel) rfl), (lg_mem 940 (by decide +kernel) rfl)⟩
theorem lks_X7_192 : LkS RX7 192 M_X7_lowest := ⟨(lg_mem 949 (by decide +kernel) rfl), (lg_mem 950 (by decide +kernel) rfl)⟩
theorem fl_X7_41 : Cond.fieldLink RX7 41 (TX7 20).1 (TX7 20).2.1 (TX7 20).2.2.1 ∈ lw_good := (lg_mem 698 (by decide +kernel) rfl)
theorem fl_X7_44 : Cond.fieldLink RX7 44 (TX7 21).1 (TX7 21).2.1 (TX7 21).2.2.1 ∈ lw_good := (lg_mem 699 (by decide +kernel) rfl)
theorem fl_X7_47 : Cond.fieldLink RX7 47 (TX7 22).1 (TX7 22).2.1 (TX7 22).2.2.1 ∈ lw_good := (lg_mem 700 (by decide +kernel) rfl)
theorem lkv_X7_195 : LkV RX7 195 M_X7_isFit := ⟨(lg_mem 964 (by decide +kernel) rfl), (lg_mem 966 (by decide +kernel) rfl), (lg_mem 48 (by decide +kernel) rfl)⟩
theorem cw_X7_199 : Cond.constant RX7 199 (-1000000) ∈ lw_good := (lg_mem 984 (by decide +kernel) rfl)
theorem fl_X7_200 : Cond.fieldLink RX7 200 (TX7 1).1 (TX7 1).2.1 (TX7 1).2.2.1 ∈ lw_good := (lg_mem 679 (by decide +kernel) rfl)
theorem cw_X7_204 : Cond.constantLong RX7 204 11 ∈ lw_good := (lg_mem 985 (by decide +kernel) rfl)
theorem cw_X7_206 : Cond.constantLong RX7 206 101 ∈ lw_good := (lg_mem 986 (by decide +kernel) rfl)
theorem cw_X7_208 : Cond.constantLong RX7 208 1011 ∈ lw_good := (lg_mem 987 (by decide +kernel) rfl)
theorem cw_X7_210 : Cond.constantLong RX7 210 10101 ∈ lw_good := (lg_mem 988 (by decide +kernel) rfl)
theorem cw_X7_212 : Cond.constantLong RX7 212 100001 ∈ lw_good := (lg_mem 989 (by decide +kernel) rfl)
theorem fl_X7_31 : Cond.fieldLink RX7 31 (TX7 16).1 (TX7 16).2.1 (TX7 16).2.2.1 ∈ lw_good := (lg_mem 694 (by decide +kernel) rfl)
-- PostReliefModel.gcd(II)I
def b_X7_gcd_1 (N : Nat) (v2 : Int32) (v3 : Int32) : Option ((Int32 × Int32) ⊕ (Int32)) :=
  (if v3 = 0 then some (.inr v2) else (if ¬ v3 = 0 then some (.inl (v3, (v2 % v3))) else none))
def f_X7_gcd (N : Nat) (a0 : Int32) (a1 : Int32) : Option (Int32) :=
  ((lp (fun s => b_X7_gcd_1 N s.1 s.2) N (a0, a1)).bind fun t4 => some t4)
set_option maxHeartbeats 4000000 in
set_option maxRecDepth 100000 in
theorem L_X7_gcd_1 {γ : GX} {n : Nat} {h : HP} {Ψ : PS} {N : Nat}   {s0 : Int32 × Int32} {t : Int32} (hf : lp (fun s => b_X7_gcd_1 N s.1 s.2) N s0 = some t) (K : Ev γ M_X7_gcd (0, 0) n h [(2, .int t)] 21 [] Ψ) : Ev γ M_X7_gcd (0, 0) n h [(2, .int s0.1), (3, .int s0.2)] 4 [] Ψ := by
  refine E_lp (P := fun s => Ev γ M_X7_gcd (0, 0) n h [(2, .int s.1), (3, .int s.2)] 4 [] Ψ) (K := fun t => Ev γ M_X7_gcd (0, 0) n h [(2, .int t)] 21 [] Ψ) ?_ N s0 t hf K
  intro s r hf hP hK
  obtain ⟨v2, v3⟩ := s
  change b_X7_gcd_1 N v2 v3 = some r at hf
  unfold b_X7_gcd_1 at hf
  show Ev γ M_X7_gcd (0, 0) n h [(2, .int v2), (3, .int v3)] 4 [] Ψ
  refine E_iload_n 1 dX7_gcd_4 (q := 5) rfl rfl rfl ?_
  refine E_if_eq dX7_gcd_5 (t := 21) (by decide) (q := 8) rfl (fun c2 => ?_) (fun c2 => ?_)
  · have hf := if_t c2 hf
    exact E_sub [0] rfl (hK _ (Option.some.inj hf).symm)
  · have hf := if_f c2 hf
    refine E_iload_n 0 dX7_gcd_8 (q := 9) rfl rfl rfl ?_
    refine E_iload_n 1 dX7_gcd_9 (q := 10) rfl rfl rfl ?_
    obtain ⟨g3, hf⟩ := gd hf
    refine E_irem dX7_gcd_10 (q := 11) rfl g3 ?_
    refine E_istore [(4, .int (v2 % v3)), (2, .int v2), (3, .int v3)] dX7_gcd_11 (q := 13) rfl (Nat.le_of_ble_eq_true rfl) rfl ?_
    refine E_iload_n 2 dX7_gcd_13 (q := 14) rfl rfl rfl ?_
    refine E_istore_n [(2, .int v3), (4, .int (v2 % v3)), (3, .int v3)] dX7_gcd_14 (q := 15) rfl rfl (Nat.le_of_ble_eq_true rfl) rfl ?_
    refine E_iload 1 dX7_gcd_15 (q := 17) rfl rfl ?_
    refine E_istore_n [(3, .int (v2 % v3)), (2, .int v3), (4, .int (v2 % v3))] dX7_gcd_17 (q := 18) rfl rfl (Nat.le_of_ble_eq_true rfl) rfl ?_
    refine E_goto (q := 4) dX7_gcd_18 (by decide) ?_
    exact E_sub [1, 0] rfl (hP _ (Option.some.inj hf).symm)
set_option maxHeartbeats 4000000 in
set_option maxRecDepth 100000 in
theorem m_X7_gcd {γ : GX} {n : Nat} {N : Nat} {h : HP} {a0 : Int32} {a1 : Int32}   {z : Int32} (hf : f_X7_gcd N a0 a1 = some z)  : Ct γ M_X7_gcd n h [.int a0, .int a1] (Done (some (.int z)) n h) := by
  refine Ct_of_Ev (by decide) (fun h => by cases h) (Nat.le_of_ble_eq_true rfl) ?_
  show Ev γ M_X7_gcd (0, 0) n h [(0, .int a0), (1, .int a1)] 0 [] _
  unfold f_X7_gcd at hf
  refine E_iload_n 0 dX7_gcd_0 (q := 1) rfl rfl rfl ?_
  refine E_istore_n [(2, .int a0), (0, .int a0), (1, .int a1)] dX7_gcd_1 (q := 2) rfl rfl (Nat.le_of_ble_eq_true rfl) rfl ?_
  refine E_iload_n 2 dX7_gcd_2 (q := 3) rfl rfl rfl ?_
  refine E_istore_n [(3, .int a1), (2, .int a0), (0, .int a0), (1, .int a1)] dX7_gcd_3 (q := 4) rfl rfl (Nat.le_of_ble_eq_true rfl) rfl ?_
  obtain ⟨t4, hxt4, hf⟩ := bnd hf
  refine E_sub [1, 0] rfl ?_
  refine L_X7_gcd_1  hxt4 ?_
  show Ev γ M_X7_gcd _ n h [(2, .int t4)] 21 [] _
  refine E_iload_n 0 dX7_gcd_21 (q := 22) rfl rfl rfl ?_
  obtain rfl := Option.some.inj hf
  exact E_iret dX7_gcd_22 rfl ⟨rfl, rfl, rfl⟩

-- PostReliefModel.part(III)I
def f_X7_part (N : Nat) (a0 : Int32) (a1 : Int32) (a2 : Int32) : Option (Int32) :=
  ((f_X7_gcd N a0 a1).bind fun z1 => (if a2 = 0 then (if ¬ z1 = 0 then some (a0 / z1) else none) else (if ¬ z1 = 0 then some (a1 / z1) else none)))
set_option maxHeartbeats 4000000 in
set_option maxRecDepth 100000 in
theorem m_X7_part {γ : GX} {n : Nat} {N : Nat} {h : HP} {a0 : Int32} {a1 : Int32} {a2 : Int32}   {z : Int32} (hf : f_X7_part N a0 a1 a2 = some z)  : Ct γ M_X7_part n h [.int a0, .int a1, .int a2] (Done (some (.int z)) n h) := by
  refine Ct_of_Ev (by decide) (fun h => by cases h) (Nat.le_of_ble_eq_true rfl) ?_
  show Ev γ M_X7_part (0, 0) n h [(0, .int a0), (1, .int a1), (2, .int a2)] 0 [] _
  unfold f_X7_part at hf
  refine E_iload_n 0 dX7_part_0 (q := 1) rfl rfl rfl ?_
  refine E_iload_n 1 dX7_part_1 (q := 2) rfl rfl rfl ?_
  obtain ⟨z1, hxz1, hf⟩ := bnd hf
  refine E_cS (as := [.int a0, .int a1]) (rest := []) (u' := (0, 0)) (st' := [.int z1]) dX7_part_2 (q := 5) rfl lkm_X7_gcd lks_X7_185 (Nat.le_of_ble_eq_true rfl) ⟨Nat.le_refl _, Nat.le_refl _⟩ (Nat.le_of_ble_eq_true rfl) rfl rfl (m_X7_gcd (N := N)  hxz1) rfl rfl rfl ?_
  refine E_istore_n [(3, .int z1), (0, .int a0), (1, .int a1), (2, .int a2)] dX7_part_5 (q := 6) rfl rfl (Nat.le_of_ble_eq_true rfl) rfl ?_
  refine E_iload_n 3 dX7_part_6 (q := 7) rfl rfl rfl ?_
  refine E_if_ne dX7_part_7 (t := 16) (by decide) (q := 10) rfl (fun c2 => ?_) (fun c2 => ?_)
  · have hf := if_f c2 hf
    refine E_iload_n 2 dX7_part_16 (q := 17) rfl rfl rfl ?_
    refine E_iload_n 0 dX7_part_17 (q := 18) rfl rfl rfl ?_
    obtain ⟨g4, hf⟩ := gd hf
    refine E_idiv dX7_part_18 (q := 19) rfl g4 ?_
    obtain rfl := Option.some.inj hf
    exact E_iret dX7_part_19 rfl ⟨rfl, rfl, rfl⟩
  · have hf := if_t c2 hf
    refine E_iload_n 1 dX7_part_10 (q := 11) rfl rfl rfl ?_
    refine E_iload_n 0 dX7_part_11 (q := 12) rfl rfl rfl ?_
    obtain ⟨g3, hf⟩ := gd hf
    refine E_idiv dX7_part_12 (q := 13) rfl g3 ?_
    refine E_goto (q := 19) dX7_part_13 (by decide) ?_
    obtain rfl := Option.some.inj hf
    exact E_iret dX7_part_19 rfl ⟨rfl, rfl, rfl⟩

-- PostReliefModel.odds(II)I
def b_X7_odds_1 (N : Nat) (p1 : Int32) (p2 : Int32) (p3 : Int32) (v5 : Int32) (v6 : Int32) : Option ((Int32 × Int32) ⊕ (Int32)) :=
  ((f_X7_ones N p3).bind fun z10 => (if z10 ≤ v6 then some (.inr v5) else some (.inl ((v5 * 10), (v6 + 1)))))
def b_X7_odds_3 (N : Nat) (p1 : Int32) (p2 : Int32) (p3 : Int32) (p4 : Int32) (p5 : Int32) (p6 : Int32) (v7 : Int32) (v8 : Int32) : Option ((Int32 × Int32) ⊕ (Int32)) :=
  (if 5 ≤ v8 then some (.inr v7) else (if ((p3 >>> (v8 &&& 31)) &&& 1) = 0 then some (.inl ((v7 * 1), (v8 + 1))) else (if ((p6 >>> (v8 &&& 31)) &&& 1) = 1 then some (.inl ((v7 * p1), (v8 + 1))) else some (.inl ((v7 * (10 - p1)), (v8 + 1))))))
def b_X7_odds_2 (N : Nat) (p1 : Int32) (p2 : Int32) (p3 : Int32) (p5 : Int32) (m_many : FN) (m_sees : FN) (m_s : FN) (v4 : Int32) (v6 : Int32) : Option ((Int32 × Int32) ⊕ (Int32)) :=
  (if 32 ≤ v6 then some (.inr v4) else (if (v6 &&& (p3 ^^^ (-1))) = 0 then ((f_X7_standing_s N m_many m_s).bind fun z18 => ((f_X7_watched N ((z18 &&& (p3 ^^^ (-1))) ||| v6) m_many m_sees).bind fun z19 => (if z19 = (((1 : Int32) <<< ((m_many (ci 0)) &&& 31)) - 1) then ((lp (fun s => b_X7_odds_3 N p1 p2 p3 v4 p5 v6 s.1 s.2) N (1, 0)).bind fun t25 => some (.inl ((v4 + t25), (v6 + 1)))) else some (.inl (v4, (v6 + 1)))))) else some (.inl (v4, (v6 + 1)))))
def f_X7_odds (N : Nat) (a1 : Int32) (a2 : Int32) (m_thrown : Int32) (m_many : FN) (m_sees : FN) (m_s : FN) : Option (Int32 × Int32) :=
  ((f_X7_in N a1 0 10).bind fun z3 => (if z3 = 0 then some ((-1), 0) else ((f_X7_in N a2 0 1).bind fun z5 => (if z5 = 0 then some ((-1), 0) else ((f_X7_asleep_s N m_many m_s).bind fun z8 => ((lp (fun s => b_X7_odds_1 N a1 a2 z8 s.1 s.2) N (1, 0)).bind fun t12 => ((lp (fun s => b_X7_odds_2 N a1 a2 z8 t12 m_many m_sees m_s s.1 s.2) N (0, 0)).bind fun t27 => ((f_X7_part N t27 t12 a2).bind fun z29 => some (z29, 0)))))))))
set_option maxHeartbeats 4000000 in
set_option maxRecDepth 100000 in
theorem L_X7_odds_1 {γ : GX} {n : Nat} {h : HP} {Ψ : PS} {N : Nat} {p1 : Int32} {p2 : Int32} {p3 : Int32} {m_thrown : Int32} {m_trace : Int64} {m_text : FN} {m_typed : Int32} {m_next : Int32} {m_token : Int32} {m_place : Int32} {m_value : Int32} {m_fault : Int32} {m_many : FN} {m_sees : FN} {m_cold : FN} {m_first : FN} {m_told : Int32} {m_s : FN} {m_w : FN} {m_kept : FN} {m_isKept : FN} {m_undos : FN} {m_undoMany : Int32} {m_foundMan : FN} {m_foundHours : FN} {m_foundIs : FN} {m_foundMany : Int32} {m_row : FN} {m_best : FN} (hn_m : 93 + 16 ≤ n) {s0 : Int32 × Int32} {t : Int32} (hf : lp (fun s => b_X7_odds_1 N p1 p2 p3 s.1 s.2) N s0 = some t) (K : Ev γ M_X7_odds (0, 0) n (put 93 (mdB γ 93 m_thrown m_trace m_text m_typed m_next m_token m_place m_value m_fault m_many m_sees m_cold m_first m_told m_s m_w m_kept m_isKept m_undos m_undoMany m_foundMan m_foundHours m_foundIs m_foundMany m_row m_best) h) [(0, .ref (gB γ + 93)), (1, .int p1), (2, .int p2), (3, .int p3), (4, .int 0), (5, .int t)] 66 [] Ψ) : Ev γ M_X7_odds (0, 0) n (put 93 (mdB γ 93 m_thrown m_trace m_text m_typed m_next m_token m_place m_value m_fault m_many m_sees m_cold m_first m_told m_s m_w m_kept m_isKept m_undos m_undoMany m_foundMan m_foundHours m_foundIs m_foundMany m_row m_best) h) [(0, .ref (gB γ + 93)), (1, .int p1), (2, .int p2), (3, .int p3), (4, .int 0), (5, .int s0.1), (6, .int s0.2)] 44 [] Ψ := by
  refine E_lp (P := fun s => Ev γ M_X7_odds (0, 0) n (put 93 (mdB γ 93 m_thrown m_trace m_text m_typed m_next m_token m_place m_value m_fault m_many m_sees m_cold m_first m_told m_s m_w m_kept m_isKept m_undos m_undoMany m_foundMan m_foundHours m_foundIs m_foundMany m_row m_best) h) [(0, .ref (gB γ + 93)), (1, .int p1), (2, .int p2), (3, .int p3), (4, .int 0), (5, .int s.1), (6, .int s.2)] 44 [] Ψ) (K := fun t => Ev γ M_X7_odds (0, 0) n (put 93 (mdB γ 93 m_thrown m_trace m_text m_typed m_next m_token m_place m_value m_fault m_many m_sees m_cold m_first m_told m_s m_w m_kept m_isKept m_undos m_undoMany m_foundMan m_foundHours m_foundIs m_foundMany m_row m_best) h) [(0, .ref (gB γ + 93)), (1, .int p1), (2, .int p2), (3, .int p3), (4, .int 0), (5, .int t)] 66 [] Ψ) ?_ N s0 t hf K
  intro s r hf hP hK
  obtain ⟨v5, v6⟩ := s
  change b_X7_odds_1 N p1 p2 p3 v5 v6 = some r at hf
  unfold b_X7_odds_1 at hf
  show Ev γ M_X7_odds (0, 0) n (put 93 (mdB γ 93 m_thrown m_trace m_text m_typed m_next m_token m_place m_value m_fault m_many m_sees m_cold m_first m_told m_s m_w m_kept m_isKept m_undos m_undoMany m_foundMan m_foundHours m_foundIs m_foundMany m_row m_best) h) [(0, .ref (gB γ + 93)), (1, .int p1), (2, .int p2), (3, .int p3), (4, .int 0), (5, .int v5), (6, .int v6)] 44 [] Ψ
  refine E_iload 6 dX7_odds_44 (q := 46) rfl rfl ?_
  refine E_iload_n 3 dX7_odds_46 (q := 47) rfl rfl rfl ?_
  obtain ⟨z10, hxz10, hf⟩ := bnd hf
  refine E_cS (as := [.int p3]) (rest := [.int v6]) (u' := (0, 0)) (st' := [.int z10, .int v6]) dX7_odds_47 (q := 50) rfl lkm_X7_ones lks_X7_151 (Nat.le_of_ble_eq_true rfl) ⟨Nat.le_refl _, Nat.le_refl _⟩ (Nat.le_of_ble_eq_true rfl) rfl rfl (m_X7_ones (N := N)  hxz10) rfl rfl rfl ?_
  refine E_icmp_ge dX7_odds_50 (t := 66) (by decide) (q := 53) rfl (fun c11 => ?_) (fun c11 => ?_)
  · have hf := if_t c11 hf
    exact E_sub [0, 1, 2, 3, 4, 5] rfl (hK _ (Option.some.inj hf).symm)
  · have hf := if_f c11 hf
    refine E_iload 5 dX7_odds_53 (q := 55) rfl rfl ?_
    refine E_bipush (x := 10) dX7_odds_55 (q := 57) rfl (by decide) ?_
    refine E_imul dX7_odds_57 (q := 58) rfl ?_
    refine E_istore [(5, .int (v5 * 10)), (0, .ref (gB γ + 93)), (1, .int p1), (2, .int p2), (3, .int p3), (4, .int 0), (6, .int v6)] dX7_odds_58 (q := 60) rfl (Nat.le_of_ble_eq_true rfl) rfl ?_
    refine E_iinc 6 [(6, .int (v6 + 1)), (5, .int (v5 * 10)), (0, .ref (gB γ + 93)), (1, .int p1), (2, .int p2), (3, .int p3), (4, .int 0)] dX7_odds_60 (q := 63) rfl rfl rfl (Nat.le_of_ble_eq_true rfl) rfl ?_
    refine E_goto (q := 44) dX7_odds_63 (by decide) ?_
    exact E_sub [2, 3, 4, 5, 6, 1, 0] rfl (hP _ (Option.some.inj hf).symm)
set_option maxHeartbeats 4000000 in
set_option maxRecDepth 100000 in
theorem L_X7_odds_3 {γ : GX} {n : Nat} {h : HP} {Ψ : PS} {N : Nat} {p1 : Int32} {p2 : Int32} {p3 : Int32} {p4 : Int32} {p5 : Int32} {p6 : Int32} {m_thrown : Int32} {m_trace : Int64} {m_text : FN} {m_typed : Int32} {m_next : Int32} {m_token : Int32} {m_place : Int32} {m_value : Int32} {m_fault : Int32} {m_many : FN} {m_sees : FN} {m_cold : FN} {m_first : FN} {m_told : Int32} {m_s : FN} {m_w : FN} {m_kept : FN} {m_isKept : FN} {m_undos : FN} {m_undoMany : Int32} {m_foundMan : FN} {m_foundHours : FN} {m_foundIs : FN} {m_foundMany : Int32} {m_row : FN} {m_best : FN} (hn_m : 93 + 16 ≤ n) {s0 : Int32 × Int32} {t : Int32} (hf : lp (fun s => b_X7_odds_3 N p1 p2 p3 p4 p5 p6 s.1 s.2) N s0 = some t) (K : Ev γ M_X7_odds (0, 0) n (put 93 (mdB γ 93 m_thrown m_trace m_text m_typed m_next m_token m_place m_value m_fault m_many m_sees m_cold m_first m_told m_s m_w m_kept m_isKept m_undos m_undoMany m_foundMan m_foundHours m_foundIs m_foundMany m_row m_best) h) [(0, .ref (gB γ + 93)), (1, .int p1), (2, .int p2), (3, .int p3), (4, .int p4), (5, .int p5), (6, .int p6), (7, .int t)] 172 [] Ψ) : Ev γ M_X7_odds (0, 0) n (put 93 (mdB γ 93 m_thrown m_trace m_text m_typed m_next m_token m_place m_value m_fault m_many m_sees m_cold m_first m_told m_s m_w m_kept m_isKept m_undos m_undoMany m_foundMan m_foundHours m_foundIs m_foundMany m_row m_best) h) [(0, .ref (gB γ + 93)), (1, .int p1), (2, .int p2), (3, .int p3), (4, .int p4), (5, .int p5), (6, .int p6), (7, .int s0.1), (8, .int s0.2)] 123 [] Ψ := by
  refine E_lp (P := fun s => Ev γ M_X7_odds (0, 0) n (put 93 (mdB γ 93 m_thrown m_trace m_text m_typed m_next m_token m_place m_value m_fault m_many m_sees m_cold m_first m_told m_s m_w m_kept m_isKept m_undos m_undoMany m_foundMan m_foundHours m_foundIs m_foundMany m_row m_best) h) [(0, .ref (gB γ + 93)), (1, .int p1), (2, .int p2), (3, .int p3), (4, .int p4), (5, .int p5), (6, .int p6), (7, .int s.1), (8, .int s.2)] 123 [] Ψ) (K := fun t => Ev γ M_X7_odds (0, 0) n (put 93 (mdB γ 93 m_thrown m_trace m_text m_typed m_next m_token m_place m_value m_fault m_many m_sees m_cold m_first m_told m_s m_w m_kept m_isKept m_undos m_undoMany m_foundMan m_foundHours m_foundIs m_foundMany m_row m_best) h) [(0, .ref (gB γ + 93)), (1, .int p1), (2, .int p2), (3, .int p3), (4, .int p4), (5, .int p5), (6, .int p6), (7, .int t)] 172 [] Ψ) ?_ N s0 t hf K
  intro s r hf hP hK
  obtain ⟨v7, v8⟩ := s
  change b_X7_odds_3 N p1 p2 p3 p4 p5 p6 v7 v8 = some r at hf
  unfold b_X7_odds_3 at hf
  show Ev γ M_X7_odds (0, 0) n (put 93 (mdB γ 93 m_thrown m_trace m_text m_typed m_next m_token m_place m_value m_fault m_many m_sees m_cold m_first m_told m_s m_w m_kept m_isKept m_undos m_undoMany m_foundMan m_foundHours m_foundIs m_foundMany m_row m_best) h) [(0, .ref (gB γ + 93)), (1, .int p1), (2, .int p2), (3, .int p3), (4, .int p4), (5, .int p5), (6, .int p6), (7, .int v7), (8, .int v8)] 123 [] Ψ
  refine E_iload 8 dX7_odds_123 (q := 125) rfl rfl ?_
  refine E_iconst (x := 5) dX7_odds_125 (q := 126) rfl (by decide) ?_
  refine E_icmp_ge dX7_odds_126 (t := 172) (by decide) (q := 129) rfl (fun c22 => ?_) (fun c22 => ?_)
  · have hf := if_t c22 hf
    exact E_sub [0, 1, 2, 3, 4, 5, 6, 7] rfl (hK _ (Option.some.inj hf).symm)
  · have hf := if_f c22 hf
    refine E_iload 7 dX7_odds_129 (q := 131) rfl rfl ?_
    refine E_iload_n 3 dX7_odds_131 (q := 132) rfl rfl rfl ?_
    refine E_iload 8 dX7_odds_132 (q := 134) rfl rfl ?_
    refine E_ishr dX7_odds_134 (q := 135) rfl ?_
    refine E_iconst (x := 1) dX7_odds_135 (q := 136) rfl (by decide) ?_
    refine E_iand dX7_odds_136 (q := 137) rfl ?_
    refine E_if_ne dX7_odds_137 (t := 144) (by decide) (q := 140) rfl (fun c23 => ?_) (fun c23 => ?_)
    · have hf := if_f c23 hf
      refine E_iload 6 dX7_odds_144 (q := 146) rfl rfl ?_
      refine E_iload 8 dX7_odds_146 (q := 148) rfl rfl ?_
      refine E_ishr dX7_odds_148 (q := 149) rfl ?_
      refine E_iconst (x := 1) dX7_odds_149 (q := 150) rfl (by decide) ?_
      refine E_iand dX7_odds_150 (q := 151) rfl ?_
      refine E_iconst (x := 1) dX7_odds_151 (q := 152) rfl (by decide) ?_
      refine E_icmp_ne dX7_odds_152 (t := 159) (by decide) (q := 155) rfl (fun c24 => ?_) (fun c24 => ?_)
      · have hf := if_f c24 hf
        refine E_bipush (x := 10) dX7_odds_159 (q := 161) rfl (by decide) ?_
        refine E_iload_n 1 dX7_odds_161 (q := 162) rfl rfl rfl ?_
        refine E_isub dX7_odds_162 (q := 163) rfl ?_
        refine E_imul dX7_odds_163 (q := 164) rfl ?_
        refine E_istore [(7, .int (v7 * (10 - p1))), (0, .ref (gB γ + 93)), (1, .int p1), (2, .int p2), (3, .int p3), (4, .int p4), (5, .int p5), (6, .int p6), (8, .int v8)] dX7_odds_164 (q := 166) rfl (Nat.le_of_ble_eq_true rfl) rfl ?_
        refine E_iinc 8 [(8, .int (v8 + 1)), (7, .int (v7 * (10 - p1))), (0, .ref (gB γ + 93)), (1, .int p1), (2, .int p2), (3, .int p3), (4, .int p4), (5, .int p5), (6, .int p6)] dX7_odds_166 (q := 169) rfl rfl rfl (Nat.le_of_ble_eq_true rfl) rfl ?_
        refine E_goto (q := 123) dX7_odds_169 (by decide) ?_
        exact E_sub [2, 3, 4, 5, 6, 7, 8, 1, 0] rfl (hP _ (Option.some.inj hf).symm)
      · have hf := if_t c24 hf
        refine E_iload_n 1 dX7_odds_155 (q := 156) rfl rfl rfl ?_
        refine E_goto (q := 163) dX7_odds_156 (by decide) ?_
        refine E_imul dX7_odds_163 (q := 164) rfl ?_
        refine E_istore [(7, .int (v7 * p1)), (0, .ref (gB γ + 93)), (1, .int p1), (2, .int p2), (3, .int p3), (4, .int p4), (5, .int p5), (6, .int p6), (8, .int v8)] dX7_odds_164 (q := 166) rfl (Nat.le_of_ble_eq_true rfl) rfl ?_
        refine E_iinc 8 [(8, .int (v8 + 1)), (7, .int (v7 * p1)), (0, .ref (gB γ + 93)), (1, .int p1), (2, .int p2), (3, .int p3), (4, .int p4), (5, .int p5), (6, .int p6)] dX7_odds_166 (q := 169) rfl rfl rfl (Nat.le_of_ble_eq_true rfl) rfl ?_
        refine E_goto (q := 123) dX7_odds_169 (by decide) ?_
        exact E_sub [2, 3, 4, 5, 6, 7, 8, 1, 0] rfl (hP _ (Option.some.inj hf).symm)
    · have hf := if_t c23 hf
      refine E_iconst (x := 1) dX7_odds_140 (q := 141) rfl (by decide) ?_
      refine E_goto (q := 163) dX7_odds_141 (by decide) ?_
      refine E_imul dX7_odds_163 (q := 164) rfl ?_
      refine E_istore [(7, .int (v7 * 1)), (0, .ref (gB γ + 93)), (1, .int p1), (2, .int p2), (3, .int p3), (4, .int p4), (5, .int p5), (6, .int p6), (8, .int v8)] dX7_odds_164 (q := 166) rfl (Nat.le_of_ble_eq_true rfl) rfl ?_
      refine E_iinc 8 [(8, .int (v8 + 1)), (7, .int (v7 * 1)), (0, .ref (gB γ + 93)), (1, .int p1), (2, .int p2), (3, .int p3), (4, .int p4), (5, .int p5), (6, .int p6)] dX7_odds_166 (q := 169) rfl rfl rfl (Nat.le_of_ble_eq_true rfl) rfl ?_
      refine E_goto (q := 123) dX7_odds_169 (by decide) ?_
      exact E_sub [2, 3, 4, 5, 6, 7, 8, 1, 0] rfl (hP _ (Option.some.inj hf).symm)
set_option maxHeartbeats 4000000 in
set_option maxRecDepth 100000 in
theorem L_X7_odds_2 {γ : GX} {n : Nat} {h : HP} {Ψ : PS} {N : Nat} {p1 : Int32} {p2 : Int32} {p3 : Int32} {p5 : Int32} {m_thrown : Int32} {m_trace : Int64} {m_text : FN} {m_typed : Int32} {m_next : Int32} {m_token : Int32} {m_place : Int32} {m_value : Int32} {m_fault : Int32} {m_many : FN} {m_sees : FN} {m_cold : FN} {m_first : FN} {m_told : Int32} {m_s : FN} {m_w : FN} {m_kept : FN} {m_isKept : FN} {m_undos : FN} {m_undoMany : Int32} {m_foundMan : FN} {m_foundHours : FN} {m_foundIs : FN} {m_foundMany : Int32} {m_row : FN} {m_best : FN} (hn_m : 93 + 16 ≤ n) {s0 : Int32 × Int32} {t : Int32} (hf : lp (fun s => b_X7_odds_2 N p1 p2 p3 p5 m_many m_sees m_s s.1 s.2) N s0 = some t) (K : Ev γ M_X7_odds (0, 0) n (put 93 (mdB γ 93 m_thrown m_trace m_text m_typed m_next m_token m_place m_value m_fault m_many m_sees m_cold m_first m_told m_s m_w m_kept m_isKept m_undos m_undoMany m_foundMan m_foundHours m_foundIs m_foundMany m_row m_best) h) [(2, .int p2), (4, .int t), (5, .int p5)] 185 [] Ψ) : Ev γ M_X7_odds (0, 0) n (put 93 (mdB γ 93 m_thrown m_trace m_text m_typed m_next m_token m_place m_value m_fault m_many m_sees m_cold m_first m_told m_s m_w m_kept m_isKept m_undos m_undoMany m_foundMan m_foundHours m_foundIs m_foundMany m_row m_best) h) [(0, .ref (gB γ + 93)), (1, .int p1), (2, .int p2), (3, .int p3), (4, .int s0.1), (5, .int p5), (6, .int s0.2)] 69 [] Ψ := by
  refine E_lp (P := fun s => Ev γ M_X7_odds (0, 0) n (put 93 (mdB γ 93 m_thrown m_trace m_text m_typed m_next m_token m_place m_value m_fault m_many m_sees m_cold m_first m_told m_s m_w m_kept m_isKept m_undos m_undoMany m_foundMan m_foundHours m_foundIs m_foundMany m_row m_best) h) [(0, .ref (gB γ + 93)), (1, .int p1), (2, .int p2), (3, .int p3), (4, .int s.1), (5, .int p5), (6, .int s.2)] 69 [] Ψ) (K := fun t => Ev γ M_X7_odds (0, 0) n (put 93 (mdB γ 93 m_thrown m_trace m_text m_typed m_next m_token m_place m_value m_fault m_many m_sees m_cold m_first m_told m_s m_w m_kept m_isKept m_undos m_undoMany m_foundMan m_foundHours m_foundIs m_foundMany m_row m_best) h) [(2, .int p2), (4, .int t), (5, .int p5)] 185 [] Ψ) ?_ N s0 t hf K
  intro s r hf hP hK
  obtain ⟨v4, v6⟩ := s
  change b_X7_odds_2 N p1 p2 p3 p5 m_many m_sees m_s v4 v6 = some r at hf
  unfold b_X7_odds_2 at hf
  show Ev γ M_X7_odds (0, 0) n (put 93 (mdB γ 93 m_thrown m_trace m_text m_typed m_next m_token m_place m_value m_fault m_many m_sees m_cold m_first m_told m_s m_w m_kept m_isKept m_undos m_undoMany m_foundMan m_foundHours m_foundIs m_foundMany m_row m_best) h) [(0, .ref (gB γ + 93)), (1, .int p1), (2, .int p2), (3, .int p3), (4, .int v4), (5, .int p5), (6, .int v6)] 69 [] Ψ
  refine E_iload 6 dX7_odds_69 (q := 71) rfl rfl ?_
  refine E_bipush (x := 32) dX7_odds_71 (q := 73) rfl (by decide) ?_
  refine E_icmp_ge dX7_odds_73 (t := 185) (by decide) (q := 76) rfl (fun c15 => ?_) (fun c15 => ?_)
  · have hf := if_t c15 hf
    exact E_sub [2, 4, 5] rfl (hK _ (Option.some.inj hf).symm)
  · have hf := if_f c15 hf
    refine E_iload 6 dX7_odds_76 (q := 78) rfl rfl ?_
    refine E_iload_n 3 dX7_odds_78 (q := 79) rfl rfl rfl ?_
    refine E_iconst (x := (-1)) dX7_odds_79 (q := 80) rfl (by decide) ?_
    refine E_ixor dX7_odds_80 (q := 81) rfl ?_
    refine E_iand dX7_odds_81 (q := 82) rfl ?_
    refine E_if_ne dX7_odds_82 (t := 179) (by decide) (q := 85) rfl (fun c16 => ?_) (fun c16 => ?_)
    · have hf := if_f c16 hf
      refine E_iinc 6 [(6, .int (v6 + 1)), (0, .ref (gB γ + 93)), (1, .int p1), (2, .int p2), (3, .int p3), (4, .int v4), (5, .int p5)] dX7_odds_179 (q := 182) rfl rfl rfl (Nat.le_of_ble_eq_true rfl) rfl ?_
      refine E_goto (q := 69) dX7_odds_182 (by decide) ?_
      exact E_sub [1, 2, 3, 4, 5, 6, 0] rfl (hP _ (Option.some.inj hf).symm)
    · have hf := if_t c16 hf
      refine E_aload_n 0 dX7_odds_85 (q := 86) rfl rfl rfl ?_
      refine E_aload_n 0 dX7_odds_86 (q := 87) rfl rfl rfl ?_
      refine E_aload_n 0 dX7_odds_87 (q := 88) rfl rfl rfl ?_
      have hF17 : Has n 93 (mdB γ 93 m_thrown m_trace m_text m_typed m_next m_token m_place m_value m_fault m_many m_sees m_cold m_first m_told m_s m_w m_kept m_isKept m_undos m_undoMany m_foundMan m_foundHours m_foundIs m_foundMany m_row m_best) (put 93 (mdB γ 93 m_thrown m_trace m_text m_typed m_next m_token m_place m_value m_fault m_many m_sees m_cold m_first m_told m_s m_w m_kept m_isKept m_undos m_undoMany m_foundMan m_foundHours m_foundIs m_foundMany m_row m_best) h) := (has_put hn_m)
      refine E_get 14 dX7_odds_88 (q := 91) rfl ckX7 (Nat.le_of_ble_eq_true rfl) fl_X7_25 (hF17.at 0 rfl) (hF17.lt 0 (Nat.le_of_ble_eq_true rfl)) rfl ?_
      obtain ⟨z18, hxz18, hf⟩ := bnd hf
      refine E_cV (as := [.ref (gB γ + (93 + 6))]) (k := 93) (rest := [.ref (gB γ + 93)]) (u' := (0, 0)) (st' := [.int z18, .ref (gB γ + 93)]) dX7_odds_91 (q := 94) rfl lkm_X7_standing lkv_X7_135 (Nat.le_of_ble_eq_true rfl) ckX7 (hF17.at 0 rfl) (hF17.lt 0 (Nat.le_of_ble_eq_true rfl)) ⟨Nat.le_refl _, Nat.le_refl _⟩ (Nat.le_of_ble_eq_true rfl) rfl rfl (m_X7_standing_s (N := N)  hF17 hxz18) rfl rfl rfl ?_
      refine E_iload_n 3 dX7_odds_94 (q := 95) rfl rfl rfl ?_
      refine E_iconst (x := (-1)) dX7_odds_95 (q := 96) rfl (by decide) ?_
      refine E_ixor dX7_odds_96 (q := 97) rfl ?_
      refine E_iand dX7_odds_97 (q := 98) rfl ?_
      refine E_iload 6 dX7_odds_98 (q := 100) rfl rfl ?_
      refine E_ior dX7_odds_100 (q := 101) rfl ?_
      obtain ⟨z19, hxz19, hf⟩ := bnd hf
      refine E_cV (as := [.int ((z18 &&& (p3 ^^^ (-1))) ||| v6)]) (k := 93) (rest := []) (u' := (0, 0)) (st' := [.int z19]) dX7_odds_101 (q := 104) rfl lkm_X7_watched lkv_X7_142 (Nat.le_of_ble_eq_true rfl) ckX7 (hF17.at 0 rfl) (hF17.lt 0 (Nat.le_of_ble_eq_true rfl)) ⟨Nat.le_refl _, Nat.le_refl _⟩ (Nat.le_of_ble_eq_true rfl) rfl rfl (m_X7_watched (N := N)  hF17 hxz19) rfl rfl rfl ?_
      refine E_iconst (x := 1) dX7_odds_104 (q := 105) rfl (by decide) ?_
      refine E_aload_n 0 dX7_odds_105 (q := 106) rfl rfl rfl ?_
      refine E_get 9 dX7_odds_106 (q := 109) rfl ckX7 (Nat.le_of_ble_eq_true rfl) fl_X7_13 (hF17.at 0 rfl) (hF17.lt 0 (Nat.le_of_ble_eq_true rfl)) rfl ?_
      refine E_iconst (x := 0) dX7_odds_109 (q := 110) rfl (by decide) ?_
      refine E_iald dX7_odds_110 (q := 111) rfl (hF17.at 2 rfl) (hF17.lt 2 (Nat.le_of_ble_eq_true rfl)) (by decide +kernel) ?_
      refine E_ishl dX7_odds_111 (q := 112) rfl ?_
      refine E_iconst (x := 1) dX7_odds_112 (q := 113) rfl (by decide) ?_
      refine E_isub dX7_odds_113 (q := 114) rfl ?_
      refine E_icmp_ne dX7_odds_114 (t := 179) (by decide) (q := 117) rfl (fun c20 => ?_) (fun c20 => ?_)
      · have hf := if_f c20 hf
        refine E_iinc 6 [(6, .int (v6 + 1)), (0, .ref (gB γ + 93)), (1, .int p1), (2, .int p2), (3, .int p3), (4, .int v4), (5, .int p5)] dX7_odds_179 (q := 182) rfl rfl rfl (Nat.le_of_ble_eq_true rfl) rfl ?_
        refine E_goto (q := 69) dX7_odds_182 (by decide) ?_
        exact E_sub [1, 2, 3, 4, 5, 6, 0] rfl (hP _ (Option.some.inj hf).symm)
      · have hf := if_t c20 hf
        refine E_iconst (x := 1) dX7_odds_117 (q := 118) rfl (by decide) ?_
        refine E_istore [(7, .int 1), (0, .ref (gB γ + 93)), (1, .int p1), (2, .int p2), (3, .int p3), (4, .int v4), (5, .int p5), (6, .int v6)] dX7_odds_118 (q := 120) rfl (Nat.le_of_ble_eq_true rfl) rfl ?_
        refine E_iconst (x := 0) dX7_odds_120 (q := 121) rfl (by decide) ?_
        refine E_istore [(8, .int 0), (7, .int 1), (0, .ref (gB γ + 93)), (1, .int p1), (2, .int p2), (3, .int p3), (4, .int v4), (5, .int p5), (6, .int v6)] dX7_odds_121 (q := 123) rfl (Nat.le_of_ble_eq_true rfl) rfl ?_
        obtain ⟨t25, hxt25, hf⟩ := bnd hf
        refine E_sub [2, 3, 4, 5, 6, 7, 8, 1, 0] rfl ?_
        refine L_X7_odds_3 hn_m hxt25 ?_
        show Ev γ M_X7_odds _ n (put 93 (mdB γ 93 m_thrown m_trace m_text m_typed m_next m_token m_place m_value m_fault m_many m_sees m_cold m_first m_told m_s m_w m_kept m_isKept m_undos m_undoMany m_foundMan m_foundHours m_foundIs m_foundMany m_row m_best) h) [(0, .ref (gB γ + 93)), (1, .int p1), (2, .int p2), (3, .int p3), (4, .int v4), (5, .int p5), (6, .int v6), (7, .int t25)] 172 [] _
        refine E_iload 4 dX7_odds_172 (q := 174) rfl rfl ?_
        refine E_iload 7 dX7_odds_174 (q := 176) rfl rfl ?_
        refine E_iadd dX7_odds_176 (q := 177) rfl ?_
        refine E_istore [(4, .int (v4 + t25)), (0, .ref (gB γ + 93)), (1, .int p1), (2, .int p2), (3, .int p3), (5, .int p5), (6, .int v6), (7, .int t25)] dX7_odds_177 (q := 179) rfl (Nat.le_of_ble_eq_true rfl) rfl ?_
        refine E_iinc 6 [(6, .int (v6 + 1)), (4, .int (v4 + t25)), (0, .ref (gB γ + 93)), (1, .int p1), (2, .int p2), (3, .int p3), (5, .int p5), (7, .int t25)] dX7_odds_179 (q := 182) rfl rfl rfl (Nat.le_of_ble_eq_true rfl) rfl ?_
        refine E_goto (q := 69) dX7_odds_182 (by decide) ?_
        exact E_sub [2, 3, 4, 5, 1, 6, 0] rfl (hP _ (Option.some.inj hf).symm)
set_option maxHeartbeats 4000000 in
set_option maxRecDepth 100000 in
theorem m_X7_odds {γ : GX} {n : Nat} {N : Nat} {h : HP} {a1 : Int32} {a2 : Int32} {m_thrown : Int32} {m_trace : Int64} {m_text : FN} {m_typed : Int32} {m_next : Int32} {m_token : Int32} {m_place : Int32} {m_value : Int32} {m_fault : Int32} {m_many : FN} {m_sees : FN} {m_cold : FN} {m_first : FN} {m_told : Int32} {m_s : FN} {m_w : FN} {m_kept : FN} {m_isKept : FN} {m_undos : FN} {m_undoMany : Int32} {m_foundMan : FN} {m_foundHours : FN} {m_foundIs : FN} {m_foundMany : Int32} {m_row : FN} {m_best : FN} (hH_m : Has n 93 (mdB γ 93 m_thrown m_trace m_text m_typed m_next m_token m_place m_value m_fault m_many m_sees m_cold m_first m_told m_s m_w m_kept m_isKept m_undos m_undoMany m_foundMan m_foundHours m_foundIs m_foundMany m_row m_best) h) {z : Int32 × Int32} (hf : f_X7_odds N a1 a2 m_thrown m_many m_sees m_s = some z)  : Ct γ M_X7_odds n h [.ref (gB γ + 93), .int a1, .int a2] (Done (some (.int z.1)) n (put 93 (mdB γ 93 z.2 m_trace m_text m_typed m_next m_token m_place m_value m_fault m_many m_sees m_cold m_first m_told m_s m_w m_kept m_isKept m_undos m_undoMany m_foundMan m_foundHours m_foundIs m_foundMany m_row m_best) h)) := by
  have hn_m : 93 + 16 ≤ n := hH_m.1
  refine Ct.heap (h := (put 93 (mdB γ 93 m_thrown m_trace m_text m_typed m_next m_token m_place m_value m_fault m_many m_sees m_cold m_first m_told m_s m_w m_kept m_isKept m_undos m_undoMany m_foundMan m_foundHours m_foundIs m_foundMany m_row m_best) h)) (put_self hH_m).symm ?_
  refine Ct_of_Ev (by decide) (fun h => by cases h) (Nat.le_of_ble_eq_true rfl) ?_
  show Ev γ M_X7_odds (0, 0) n (put 93 (mdB γ 93 m_thrown m_trace m_text m_typed m_next m_token m_place m_value m_fault m_many m_sees m_cold m_first m_told m_s m_w m_kept m_isKept m_undos m_undoMany m_foundMan m_foundHours m_foundIs m_foundMany m_row m_best) h) [(0, .ref (gB γ + 93)), (1, .int a1), (2, .int a2)] 0 [] _
  unfold f_X7_odds at hf
  refine E_aload_n 0 dX7_odds_0 (q := 1) rfl rfl rfl ?_
  refine E_iconst (x := 0) dX7_odds_1 (q := 2) rfl (by decide) ?_
  have hF1 : Has n 93 (mdB γ 93 m_thrown m_trace m_text m_typed m_next m_token m_place m_value m_fault m_many m_sees m_cold m_first m_told m_s m_w m_kept m_isKept m_undos m_undoMany m_foundMan m_foundHours m_foundIs m_foundMany m_row m_best) (put 93 (mdB γ 93 m_thrown m_trace m_text m_typed m_next m_token m_place m_value m_fault m_many m_sees m_cold m_first m_told m_s m_w m_kept m_isKept m_undos m_undoMany m_foundMan m_foundHours m_foundIs m_foundMany m_row m_best) h) := (has_put hn_m)
  refine E_put 0 dX7_odds_2 (q := 5) rfl ckX7 (Nat.le_of_ble_eq_true rfl) fl_X7_56 rfl rfl rfl (hF1.at 0 rfl) (hF1.lt 0 (Nat.le_of_ble_eq_true rfl)) (Nat.le_of_ble_eq_true rfl) (up_put (i := 0) (cs' := (mdB γ 93 0 m_trace m_text m_typed m_next m_token m_place m_value m_fault m_many m_sees m_cold m_first m_told m_s m_w m_kept m_isKept m_undos m_undoMany m_foundMan m_foundHours m_foundIs m_foundMany m_row m_best)) (Nat.le_of_ble_eq_true rfl) rfl) ?_
  refine E_iload_n 1 dX7_odds_5 (q := 6) rfl rfl rfl ?_
  refine E_iconst (x := 0) dX7_odds_6 (q := 7) rfl (by decide) ?_
  refine E_bipush (x := 10) dX7_odds_7 (q := 9) rfl (by decide) ?_
  obtain ⟨z3, hxz3, hf⟩ := bnd hf
  refine E_cS (as := [.int a1, .int 0, .int 10]) (rest := []) (u' := (0, 0)) (st' := [.int z3]) dX7_odds_9 (q := 12) rfl lkm_X7_in lks_X7_60 (Nat.le_of_ble_eq_true rfl) ⟨Nat.le_refl _, Nat.le_refl _⟩ (Nat.le_of_ble_eq_true rfl) rfl rfl (m_X7_in (N := N)  hxz3) rfl rfl rfl ?_
  refine E_if_eq dX7_odds_12 (t := 24) (by decide) (q := 15) rfl (fun c4 => ?_) (fun c4 => ?_)
  · have hf := if_t c4 hf
    refine E_iconst (x := (-1)) dX7_odds_24 (q := 25) rfl (by decide) ?_
    obtain rfl := Option.some.inj hf
    exact E_iret dX7_odds_25 rfl ⟨rfl, rfl, rfl⟩
  · have hf := if_f c4 hf
    refine E_iload_n 2 dX7_odds_15 (q := 16) rfl rfl rfl ?_
    refine E_iconst (x := 0) dX7_odds_16 (q := 17) rfl (by decide) ?_
    refine E_iconst (x := 1) dX7_odds_17 (q := 18) rfl (by decide) ?_
    obtain ⟨z5, hxz5, hf⟩ := bnd hf
    refine E_cS (as := [.int a2, .int 0, .int 1]) (rest := []) (u' := (0, 0)) (st' := [.int z5]) dX7_odds_18 (q := 21) rfl lkm_X7_in lks_X7_60 (Nat.le_of_ble_eq_true rfl) ⟨Nat.le_refl _, Nat.le_refl _⟩ (Nat.le_of_ble_eq_true rfl) rfl rfl (m_X7_in (N := N)  hxz5) rfl rfl rfl ?_
    refine E_if_ne dX7_odds_21 (t := 26) (by decide) (q := 24) rfl (fun c6 => ?_) (fun c6 => ?_)
    · have hf := if_f c6 hf
      refine E_aload_n 0 dX7_odds_26 (q := 27) rfl rfl rfl ?_
      refine E_aload_n 0 dX7_odds_27 (q := 28) rfl rfl rfl ?_
      have hF7 : Has n 93 (mdB γ 93 0 m_trace m_text m_typed m_next m_token m_place m_value m_fault m_many m_sees m_cold m_first m_told m_s m_w m_kept m_isKept m_undos m_undoMany m_foundMan m_foundHours m_foundIs m_foundMany m_row m_best) (put 93 (mdB γ 93 0 m_trace m_text m_typed m_next m_token m_place m_value m_fault m_many m_sees m_cold m_first m_told m_s m_w m_kept m_isKept m_undos m_undoMany m_foundMan m_foundHours m_foundIs m_foundMany m_row m_best) h) := (has_put hn_m)
      refine E_get 14 dX7_odds_28 (q := 31) rfl ckX7 (Nat.le_of_ble_eq_true rfl) fl_X7_25 (hF7.at 0 rfl) (hF7.lt 0 (Nat.le_of_ble_eq_true rfl)) rfl ?_
      obtain ⟨z8, hxz8, hf⟩ := bnd hf
      refine E_cV (as := [.ref (gB γ + (93 + 6))]) (k := 93) (rest := []) (u' := (0, 0)) (st' := [.int z8]) dX7_odds_31 (q := 34) rfl lkm_X7_asleep lkv_X7_139 (Nat.le_of_ble_eq_true rfl) ckX7 (hF7.at 0 rfl) (hF7.lt 0 (Nat.le_of_ble_eq_true rfl)) ⟨Nat.le_refl _, Nat.le_refl _⟩ (Nat.le_of_ble_eq_true rfl) rfl rfl (m_X7_asleep_s (N := N)  hF7 hxz8) rfl rfl rfl ?_
      refine E_istore_n [(3, .int z8), (0, .ref (gB γ + 93)), (1, .int a1), (2, .int a2)] dX7_odds_34 (q := 35) rfl rfl (Nat.le_of_ble_eq_true rfl) rfl ?_
      refine E_iconst (x := 0) dX7_odds_35 (q := 36) rfl (by decide) ?_
      refine E_istore [(4, .int 0), (3, .int z8), (0, .ref (gB γ + 93)), (1, .int a1), (2, .int a2)] dX7_odds_36 (q := 38) rfl (Nat.le_of_ble_eq_true rfl) rfl ?_
      refine E_iconst (x := 1) dX7_odds_38 (q := 39) rfl (by decide) ?_
      refine E_istore [(5, .int 1), (4, .int 0), (3, .int z8), (0, .ref (gB γ + 93)), (1, .int a1), (2, .int a2)] dX7_odds_39 (q := 41) rfl (Nat.le_of_ble_eq_true rfl) rfl ?_
      refine E_iconst (x := 0) dX7_odds_41 (q := 42) rfl (by decide) ?_
      refine E_istore [(6, .int 0), (5, .int 1), (4, .int 0), (3, .int z8), (0, .ref (gB γ + 93)), (1, .int a1), (2, .int a2)] dX7_odds_42 (q := 44) rfl (Nat.le_of_ble_eq_true rfl) rfl ?_
      obtain ⟨t12, hxt12, hf⟩ := bnd hf
      refine E_sub [4, 5, 6, 3, 2, 1, 0] rfl ?_
      refine L_X7_odds_1 hn_m hxt12 ?_
      show Ev γ M_X7_odds _ n (put 93 (mdB γ 93 0 m_trace m_text m_typed m_next m_token m_place m_value m_fault m_many m_sees m_cold m_first m_told m_s m_w m_kept m_isKept m_undos m_undoMany m_foundMan m_foundHours m_foundIs m_foundMany m_row m_best) h) [(0, .ref (gB γ + 93)), (1, .int a1), (2, .int a2), (3, .int z8), (4, .int 0), (5, .int t12)] 66 [] _
      refine E_iconst (x := 0) dX7_odds_66 (q := 67) rfl (by decide) ?_
      refine E_istore [(6, .int 0), (0, .ref (gB γ + 93)), (1, .int a1), (2, .int a2), (3, .int z8), (4, .int 0), (5, .int t12)] dX7_odds_67 (q := 69) rfl (Nat.le_of_ble_eq_true rfl) rfl ?_
      obtain ⟨t27, hxt27, hf⟩ := bnd hf
      refine E_sub [1, 2, 3, 4, 5, 6, 0] rfl ?_
      refine L_X7_odds_2 hn_m hxt27 ?_
      show Ev γ M_X7_odds _ n (put 93 (mdB γ 93 0 m_trace m_text m_typed m_next m_token m_place m_value m_fault m_many m_sees m_cold m_first m_told m_s m_w m_kept m_isKept m_undos m_undoMany m_foundMan m_foundHours m_foundIs m_foundMany m_row m_best) h) [(2, .int a2), (4, .int t27), (5, .int t12)] 185 [] _
      refine E_iload 1 dX7_odds_185 (q := 187) rfl rfl ?_
      refine E_iload 2 dX7_odds_187 (q := 189) rfl rfl ?_
      refine E_iload_n 0 dX7_odds_189 (q := 190) rfl rfl rfl ?_
      obtain ⟨z29, hxz29, hf⟩ := bnd hf
      refine E_cS (as := [.int t27, .int t12, .int a2]) (rest := []) (u' := (0, 0)) (st' := [.int z29]) dX7_odds_190 (q := 193) rfl lkm_X7_part lks_X7_188 (Nat.le_of_ble_eq_true rfl) ⟨Nat.le_refl _, Nat.le_refl _⟩ (Nat.le_of_ble_eq_true rfl) rfl rfl (m_X7_part (N := N)  hxz29) rfl rfl rfl ?_
      obtain rfl := Option.some.inj hf
      exact E_iret dX7_odds_193 rfl ⟨rfl, rfl, rfl⟩
    · have hf := if_t c6 hf
      refine E_iconst (x := (-1)) dX7_odds_24 (q := 25) rfl (by decide) ?_
      obtain rfl := Option.some.inj hf
      exact E_iret dX7_odds_25 rfl ⟨rfl, rfl, rfl⟩

-- PostReliefModel.lowest(I)I
def b_X7_lowest_1 (N : Nat) (p0 : Int32) (v1 : Int32) : Option ((Int32) ⊕ (Int32)) :=
  (if ((p0 >>> (v1 &&& 31)) &&& 1) = 0 then some (.inl (v1 + 1)) else some (.inr v1))
def f_X7_lowest (N : Nat) (a0 : Int32) : Option (Int32) :=
  ((lp (fun s => b_X7_lowest_1 N a0 s) N 0).bind fun t3 => some t3)
set_option maxHeartbeats 4000000 in
set_option maxRecDepth 100000 in
theorem L_X7_lowest_1 {γ : GX} {n : Nat} {h : HP} {Ψ : PS} {N : Nat} {p0 : Int32}   {s0 : Int32} {t : Int32} (hf : lp (fun s => b_X7_lowest_1 N p0 s) N s0 = some t) (K : Ev γ M_X7_lowest (0, 0) n h [(1, .int t)] 16 [] Ψ) : Ev γ M_X7_lowest (0, 0) n h [(0, .int p0), (1, .int s0)] 2 [] Ψ := by
  refine E_lp (P := fun s => Ev γ M_X7_lowest (0, 0) n h [(0, .int p0), (1, .int s)] 2 [] Ψ) (K := fun t => Ev γ M_X7_lowest (0, 0) n h [(1, .int t)] 16 [] Ψ) ?_ N s0 t hf K
  intro s r hf hP hK
  obtain ⟨v1, hs⟩ : ∃ z, z = s := ⟨s, rfl⟩; subst hs
  change b_X7_lowest_1 N p0 v1 = some r at hf
  unfold b_X7_lowest_1 at hf
  show Ev γ M_X7_lowest (0, 0) n h [(0, .int p0), (1, .int v1)] 2 [] Ψ
  refine E_iload_n 0 dX7_lowest_2 (q := 3) rfl rfl rfl ?_
  refine E_iload_n 1 dX7_lowest_3 (q := 4) rfl rfl rfl ?_
  refine E_ishr dX7_lowest_4 (q := 5) rfl ?_
  refine E_iconst (x := 1) dX7_lowest_5 (q := 6) rfl (by decide) ?_
  refine E_iand dX7_lowest_6 (q := 7) rfl ?_
  refine E_if_ne dX7_lowest_7 (t := 16) (by decide) (q := 10) rfl (fun c2 => ?_) (fun c2 => ?_)
  · have hf := if_f c2 hf
    exact E_sub [1] rfl (hK _ (Option.some.inj hf).symm)
  · have hf := if_t c2 hf
    refine E_iinc 1 [(1, .int (v1 + 1)), (0, .int p0)] dX7_lowest_10 (q := 13) rfl rfl rfl (Nat.le_of_ble_eq_true rfl) rfl ?_
    refine E_goto (q := 2) dX7_lowest_13 (by decide) ?_
    exact E_sub [1, 0] rfl (hP _ (Option.some.inj hf).symm)
set_option maxHeartbeats 4000000 in
set_option maxRecDepth 100000 in
theorem m_X7_lowest {γ : GX} {n : Nat} {N : Nat} {h : HP} {a0 : Int32}   {z : Int32} (hf : f_X7_lowest N a0 = some z)  : Ct γ M_X7_lowest n h [.int a0] (Done (some (.int z)) n h) := by
  refine Ct_of_Ev (by decide) (fun h => by cases h) (Nat.le_of_ble_eq_true rfl) ?_
  show Ev γ M_X7_lowest (0, 0) n h [(0, .int a0)] 0 [] _
  unfold f_X7_lowest at hf
  refine E_iconst (x := 0) dX7_lowest_0 (q := 1) rfl (by decide) ?_
  refine E_istore_n [(1, .int 0), (0, .int a0)] dX7_lowest_1 (q := 2) rfl rfl (Nat.le_of_ble_eq_true rfl) rfl ?_
  obtain ⟨t3, hxt3, hf⟩ := bnd hf
  refine E_sub [1, 0] rfl ?_
  refine L_X7_lowest_1  hxt3 ?_
  show Ev γ M_X7_lowest _ n h [(1, .int t3)] 16 [] _
  refine E_iload_n 0 dX7_lowest_16 (q := 17) rfl rfl rfl ?_
  obtain rfl := Option.some.inj hf
  exact E_iret dX7_lowest_17 rfl ⟨rfl, rfl, rfl⟩

-- PostReliefModel.creep(II)I
def b_X7_creep_1 (N : Nat) (p1 : Int32) (p2 : Int32) (m_thrown : Int32) (m_many : FN) (m_cold : FN) (v3 : Int32) (m_w : FN) : Option ((Int32 × FN) ⊕ ((FN) ⊕ (Int32 × Int32 × FN))) :=
  (if p1 < v3 then some (.inr (.inl m_w)) else ((f_X7_asleep_w N m_many m_w).bind fun z13 => (if z13 = 0 then ((f_X7_goesBy N 1 m_many m_cold m_w).bind fun z15 => some (.inl ((v3 + 1), z15))) else (if p2 = 0 then some (.inr (.inr (v3, m_thrown, m_w))) else ((f_X7_asleep_w N m_many m_w).bind fun z18 => ((f_X7_lowest N z18).bind fun z19 => some (.inr (.inr (z19, m_thrown, m_w)))))))))
def f_X7_creep (N : Nat) (a1 : Int32) (a2 : Int32) (m_thrown : Int32) (m_many : FN) (m_cold : FN) (m_s : FN) (m_w : FN) : Option (Int32 × Int32 × FN) :=
  ((f_X7_in N a1 1 24).bind fun z3 => (if z3 = 0 then some ((-1), 0, m_w) else ((f_X7_in N a2 0 1).bind fun z5 => (if z5 = 0 then some ((-1), 0, m_w) else ((f_X7_asNow N m_s m_w).bind fun z7 => ((lp (fun s => b_X7_creep_1 N a1 a2 0 m_many m_cold s.1 s.2) N (0, z7)).bind (Sum.elim (fun t20e => some ((-9), 0, t20e)) (fun r_ => some r_))))))))
set_option maxHeartbeats 4000000 in
set_option maxRecDepth 100000 in
theorem L_X7_creep_1 {γ : GX} {n : Nat} {h : HP} {Ψ : PS} {N : Nat} {p1 : Int32} {p2 : Int32} {m_thrown : Int32} {m_trace : Int64} {m_text : FN} {m_typed : Int32} {m_next : Int32} {m_token : Int32} {m_place : Int32} {m_value : Int32} {m_fault : Int32} {m_many : FN} {m_sees : FN} {m_cold : FN} {m_first : FN} {m_told : Int32} {m_s : FN} {m_kept : FN} {m_isKept : FN} {m_undos : FN} {m_undoMany : Int32} {m_foundMan : FN} {m_foundHours : FN} {m_foundIs : FN} {m_foundMany : Int32} {m_row : FN} {m_best : FN} (hn_m : 93 + 16 ≤ n) {s0 : Int32 × FN} {t : (FN) ⊕ (Int32 × Int32 × FN)} (hf : lp (fun s => b_X7_creep_1 N p1 p2 m_thrown m_many m_cold s.1 s.2) N s0 = some t) (K : Sum.elim (fun e_ => Ev γ M_X7_creep (0, 0) n (put 93 (mdB γ 93 m_thrown m_trace m_text m_typed m_next m_token m_place m_value m_fault m_many m_sees m_cold m_first m_told m_s e_ m_kept m_isKept m_undos m_undoMany m_foundMan m_foundHours m_foundIs m_foundMany m_row m_best) h) [] 79 [] Ψ) (fun r_ => Ψ (some (.int r_.1)) n (put 93 (mdB γ 93 r_.2.1 m_trace m_text m_typed m_next m_token m_place m_value m_fault m_many m_sees m_cold m_first m_told m_s r_.2.2 m_kept m_isKept m_undos m_undoMany m_foundMan m_foundHours m_foundIs m_foundMany m_row m_best) h)) t) : Ev γ M_X7_creep (0, 0) n (put 93 (mdB γ 93 m_thrown m_trace m_text m_typed m_next m_token m_place m_value m_fault m_many m_sees m_cold m_first m_told m_s s0.2 m_kept m_isKept m_undos m_undoMany m_foundMan m_foundHours m_foundIs m_foundMany m_row m_best) h) [(0, .ref (gB γ + 93)), (1, .int p1), (2, .int p2), (3, .int s0.1)] 32 [] Ψ := by
  refine E_lp (P := fun s => Ev γ M_X7_creep (0, 0) n (put 93 (mdB γ 93 m_thrown m_trace m_text m_typed m_next m_token m_place m_value m_fault m_many m_sees m_cold m_first m_told m_s s.2 m_kept m_isKept m_undos m_undoMany m_foundMan m_foundHours m_foundIs m_foundMany m_row m_best) h) [(0, .ref (gB γ + 93)), (1, .int p1), (2, .int p2), (3, .int s.1)] 32 [] Ψ) (K := fun t => Sum.elim (fun e_ => Ev γ M_X7_creep (0, 0) n (put 93 (mdB γ 93 m_thrown m_trace m_text m_typed m_next m_token m_place m_value m_fault m_many m_sees m_cold m_first m_told m_s e_ m_kept m_isKept m_undos m_undoMany m_foundMan m_foundHours m_foundIs m_foundMany m_row m_best) h) [] 79 [] Ψ) (fun r_ => Ψ (some (.int r_.1)) n (put 93 (mdB γ 93 r_.2.1 m_trace m_text m_typed m_next m_token m_place m_value m_fault m_many m_sees m_cold m_first m_told m_s r_.2.2 m_kept m_isKept m_undos m_undoMany m_foundMan m_foundHours m_foundIs m_foundMany m_row m_best) h)) t) ?_ N s0 t hf K
  intro s r hf hP hK
  obtain ⟨v3, m_w⟩ := s
  change b_X7_creep_1 N p1 p2 m_thrown m_many m_cold v3 m_w = some r at hf
  unfold b_X7_creep_1 at hf
  show Ev γ M_X7_creep (0, 0) n (put 93 (mdB γ 93 m_thrown m_trace m_text m_typed m_next m_token m_place m_value m_fault m_many m_sees m_cold m_first m_told m_s m_w m_kept m_isKept m_undos m_undoMany m_foundMan m_foundHours m_foundIs m_foundMany m_row m_best) h) [(0, .ref (gB γ + 93)), (1, .int p1), (2, .int p2), (3, .int v3)] 32 [] Ψ
  refine E_iload_n 3 dX7_creep_32 (q := 33) rfl rfl rfl ?_
  refine E_iload_n 1 dX7_creep_33 (q := 34) rfl rfl rfl ?_
  refine E_icmp_gt dX7_creep_34 (t := 79) (by decide) (q := 37) rfl (fun c11 => ?_) (fun c11 => ?_)
  · have hf := if_t c11 hf
    exact E_sub [] rfl (hK _ (Option.some.inj hf).symm)
  · have hf := if_f c11 hf
    refine E_aload_n 0 dX7_creep_37 (q := 38) rfl rfl rfl ?_
    refine E_aload_n 0 dX7_creep_38 (q := 39) rfl rfl rfl ?_
    have hF12 : Has n 93 (mdB γ 93 m_thrown m_trace m_text m_typed m_next m_token m_place m_value m_fault m_many m_sees m_cold m_first m_told m_s m_w m_kept m_isKept m_undos m_undoMany m_foundMan m_foundHours m_foundIs m_foundMany m_row m_best) (put 93 (mdB γ 93 m_thrown m_trace m_text m_typed m_next m_token m_place m_value m_fault m_many m_sees m_cold m_first m_told m_s m_w m_kept m_isKept m_undos m_undoMany m_foundMan m_foundHours m_foundIs m_foundMany m_row m_best) h) := (has_put hn_m)
    refine E_get 15 dX7_creep_39 (q := 42) rfl ckX7 (Nat.le_of_ble_eq_true rfl) fl_X7_28 (hF12.at 0 rfl) (hF12.lt 0 (Nat.le_of_ble_eq_true rfl)) rfl ?_
    obtain ⟨z13, hxz13, hf⟩ := bnd hf
    refine E_cV (as := [.ref (gB γ + (93 + 7))]) (k := 93) (rest := []) (u' := (0, 0)) (st' := [.int z13]) dX7_creep_42 (q := 45) rfl lkm_X7_asleep lkv_X7_139 (Nat.le_of_ble_eq_true rfl) ckX7 (hF12.at 0 rfl) (hF12.lt 0 (Nat.le_of_ble_eq_true rfl)) ⟨Nat.le_refl _, Nat.le_refl _⟩ (Nat.le_of_ble_eq_true rfl) rfl rfl (m_X7_asleep_w (N := N)  hF12 hxz13) rfl rfl rfl ?_
    refine E_if_eq dX7_creep_45 (t := 68) (by decide) (q := 48) rfl (fun c14 => ?_) (fun c14 => ?_)
    · have hf := if_t c14 hf
      refine E_aload_n 0 dX7_creep_68 (q := 69) rfl rfl rfl ?_
      refine E_iconst (x := 1) dX7_creep_69 (q := 70) rfl (by decide) ?_
      obtain ⟨z15, hxz15, hf⟩ := bnd hf
      refine E_cV (as := [.int 1]) (k := 93) (rest := []) (u' := (0, 0)) (st' := []) dX7_creep_70 (q := 73) rfl lkm_X7_goesBy lkv_X7_168 (Nat.le_of_ble_eq_true rfl) ckX7 (hF12.at 0 rfl) (hF12.lt 0 (Nat.le_of_ble_eq_true rfl)) ⟨Nat.le_refl _, Nat.le_refl _⟩ (Nat.le_of_ble_eq_true rfl) rfl rfl (m_X7_goesBy (N := N)  hF12 hxz15) rfl rfl rfl ?_
      refine Ev.heap (put_put (k := 93) (cs := (mdB γ 93 m_thrown m_trace m_text m_typed m_next m_token m_place m_value m_fault m_many m_sees m_cold m_first m_told m_s m_w m_kept m_isKept m_undos m_undoMany m_foundMan m_foundHours m_foundIs m_foundMany m_row m_best)) (cs' := (mdB γ 93 m_thrown m_trace m_text m_typed m_next m_token m_place m_value m_fault m_many m_sees m_cold m_first m_told m_s z15 m_kept m_isKept m_undos m_undoMany m_foundMan m_foundHours m_foundIs m_foundMany m_row m_best)) (show (16 : Nat) = 16 from rfl)) ?_
      refine E_iinc 3 [(3, .int (v3 + 1)), (0, .ref (gB γ + 93)), (1, .int p1), (2, .int p2)] dX7_creep_73 (q := 76) rfl rfl rfl (Nat.le_of_ble_eq_true rfl) rfl ?_
      refine E_goto (q := 32) dX7_creep_76 (by decide) ?_
      exact E_sub [1, 2, 3, 0] rfl (hP _ (Option.some.inj hf).symm)
    · have hf := if_f c14 hf
      refine E_iload_n 2 dX7_creep_48 (q := 49) rfl rfl rfl ?_
      refine E_if_ne dX7_creep_49 (t := 56) (by decide) (q := 52) rfl (fun c17 => ?_) (fun c17 => ?_)
      · have hf := if_f c17 hf
        refine E_aload_n 0 dX7_creep_56 (q := 57) rfl rfl rfl ?_
        refine E_aload_n 0 dX7_creep_57 (q := 58) rfl rfl rfl ?_
        refine E_get 15 dX7_creep_58 (q := 61) rfl ckX7 (Nat.le_of_ble_eq_true rfl) fl_X7_28 (hF12.at 0 rfl) (hF12.lt 0 (Nat.le_of_ble_eq_true rfl)) rfl ?_
        obtain ⟨z18, hxz18, hf⟩ := bnd hf
        refine E_cV (as := [.ref (gB γ + (93 + 7))]) (k := 93) (rest := []) (u' := (0, 0)) (st' := [.int z18]) dX7_creep_61 (q := 64) rfl lkm_X7_asleep lkv_X7_139 (Nat.le_of_ble_eq_true rfl) ckX7 (hF12.at 0 rfl) (hF12.lt 0 (Nat.le_of_ble_eq_true rfl)) ⟨Nat.le_refl _, Nat.le_refl _⟩ (Nat.le_of_ble_eq_true rfl) rfl rfl (m_X7_asleep_w (N := N)  hF12 hxz18) rfl rfl rfl ?_
        obtain ⟨z19, hxz19, hf⟩ := bnd hf
        refine E_cS (as := [.int z18]) (rest := []) (u' := (0, 0)) (st' := [.int z19]) dX7_creep_64 (q := 67) rfl lkm_X7_lowest lks_X7_192 (Nat.le_of_ble_eq_true rfl) ⟨Nat.le_refl _, Nat.le_refl _⟩ (Nat.le_of_ble_eq_true rfl) rfl rfl (m_X7_lowest (N := N)  hxz19) rfl rfl rfl ?_
        exact E_iret dX7_creep_67 rfl (hK _ (Option.some.inj hf).symm)
      · have hf := if_t c17 hf
        refine E_iload_n 3 dX7_creep_52 (q := 53) rfl rfl rfl ?_
        refine E_goto (q := 67) dX7_creep_53 (by decide) ?_
        exact E_iret dX7_creep_67 rfl (hK _ (Option.some.inj hf).symm)
set_option maxHeartbeats 4000000 in
set_option maxRecDepth 100000 in
theorem m_X7_creep {γ : GX} {n : Nat} {N : Nat} {h : HP} {a1 : Int32} {a2 : Int32} {m_thrown : Int32} {m_trace : Int64} {m_text : FN} {m_typed : Int32} {m_next : Int32} {m_token : Int32} {m_place : Int32} {m_value : Int32} {m_fault : Int32} {m_many : FN} {m_sees : FN} {m_cold : FN} {m_first : FN} {m_told : Int32} {m_s : FN} {m_w : FN} {m_kept : FN} {m_isKept : FN} {m_undos : FN} {m_undoMany : Int32} {m_foundMan : FN} {m_foundHours : FN} {m_foundIs : FN} {m_foundMany : Int32} {m_row : FN} {m_best : FN} (hH_m : Has n 93 (mdB γ 93 m_thrown m_trace m_text m_typed m_next m_token m_place m_value m_fault m_many m_sees m_cold m_first m_told m_s m_w m_kept m_isKept m_undos m_undoMany m_foundMan m_foundHours m_foundIs m_foundMany m_row m_best) h) {z : Int32 × Int32 × FN} (hf : f_X7_creep N a1 a2 m_thrown m_many m_cold m_s m_w = some z)  : Ct γ M_X7_creep n h [.ref (gB γ + 93), .int a1, .int a2] (Done (some (.int z.1)) n (put 93 (mdB γ 93 z.2.1 m_trace m_text m_typed m_next m_token m_place m_value m_fault m_many m_sees m_cold m_first m_told m_s z.2.2 m_kept m_isKept m_undos m_undoMany m_foundMan m_foundHours m_foundIs m_foundMany m_row m_best) h)) := by
  have hn_m : 93 + 16 ≤ n := hH_m.1
  refine Ct.heap (h := (put 93 (mdB γ 93 m_thrown m_trace m_text m_typed m_next m_token m_place m_value m_fault m_many m_sees m_cold m_first m_told m_s m_w m_kept m_isKept m_undos m_undoMany m_foundMan m_foundHours m_foundIs m_foundMany m_row m_best) h)) (put_self hH_m).symm ?_
  refine Ct_of_Ev (by decide) (fun h => by cases h) (Nat.le_of_ble_eq_true rfl) ?_
  show Ev γ M_X7_creep (0, 0) n (put 93 (mdB γ 93 m_thrown m_trace m_text m_typed m_next m_token m_place m_value m_fault m_many m_sees m_cold m_first m_told m_s m_w m_kept m_isKept m_undos m_undoMany m_foundMan m_foundHours m_foundIs m_foundMany m_row m_best) h) [(0, .ref (gB γ + 93)), (1, .int a1), (2, .int a2)] 0 [] _
  unfold f_X7_creep at hf
  refine E_aload_n 0 dX7_creep_0 (q := 1) rfl rfl rfl ?_
  refine E_iconst (x := 0) dX7_creep_1 (q := 2) rfl (by decide) ?_
  have hF1 : Has n 93 (mdB γ 93 m_thrown m_trace m_text m_typed m_next m_token m_place m_value m_fault m_many m_sees m_cold m_first m_told m_s m_w m_kept m_isKept m_undos m_undoMany m_foundMan m_foundHours m_foundIs m_foundMany m_row m_best) (put 93 (mdB γ 93 m_thrown m_trace m_text m_typed m_next m_token m_place m_value m_fault m_many m_sees m_cold m_first m_told m_s m_w m_kept m_isKept m_undos m_undoMany m_foundMan m_foundHours m_foundIs m_foundMany m_row m_best) h) := (has_put hn_m)
  refine E_put 0 dX7_creep_2 (q := 5) rfl ckX7 (Nat.le_of_ble_eq_true rfl) fl_X7_56 rfl rfl rfl (hF1.at 0 rfl) (hF1.lt 0 (Nat.le_of_ble_eq_true rfl)) (Nat.le_of_ble_eq_true rfl) (up_put (i := 0) (cs' := (mdB γ 93 0 m_trace m_text m_typed m_next m_token m_place m_value m_fault m_many m_sees m_cold m_first m_told m_s m_w m_kept m_isKept m_undos m_undoMany m_foundMan m_foundHours m_foundIs m_foundMany m_row m_best)) (Nat.le_of_ble_eq_true rfl) rfl) ?_
  refine E_iload_n 1 dX7_creep_5 (q := 6) rfl rfl rfl ?_
  refine E_iconst (x := 1) dX7_creep_6 (q := 7) rfl (by decide) ?_
  refine E_bipush (x := 24) dX7_creep_7 (q := 9) rfl (by decide) ?_
  obtain ⟨z3, hxz3, hf⟩ := bnd hf
  refine E_cS (as := [.int a1, .int 1, .int 24]) (rest := []) (u' := (0, 0)) (st' := [.int z3]) dX7_creep_9 (q := 12) rfl lkm_X7_in lks_X7_60 (Nat.le_of_ble_eq_true rfl) ⟨Nat.le_refl _, Nat.le_refl _⟩ (Nat.le_of_ble_eq_true rfl) rfl rfl (m_X7_in (N := N)  hxz3) rfl rfl rfl ?_
  refine E_if_eq dX7_creep_12 (t := 24) (by decide) (q := 15) rfl (fun c4 => ?_) (fun c4 => ?_)
  · have hf := if_t c4 hf
    refine E_iconst (x := (-1)) dX7_creep_24 (q := 25) rfl (by decide) ?_
    obtain rfl := Option.some.inj hf
    exact E_iret dX7_creep_25 rfl ⟨rfl, rfl, rfl⟩
  · have hf := if_f c4 hf
    refine E_iload_n 2 dX7_creep_15 (q := 16) rfl rfl rfl ?_
    refine E_iconst (x := 0) dX7_creep_16 (q := 17) rfl (by decide) ?_
    refine E_iconst (x := 1) dX7_creep_17 (q := 18) rfl (by decide) ?_
    obtain ⟨z5, hxz5, hf⟩ := bnd hf
    refine E_cS (as := [.int a2, .int 0, .int 1]) (rest := []) (u' := (0, 0)) (st' := [.int z5]) dX7_creep_18 (q := 21) rfl lkm_X7_in lks_X7_60 (Nat.le_of_ble_eq_true rfl) ⟨Nat.le_refl _, Nat.le_refl _⟩ (Nat.le_of_ble_eq_true rfl) rfl rfl (m_X7_in (N := N)  hxz5) rfl rfl rfl ?_
    refine E_if_ne dX7_creep_21 (t := 26) (by decide) (q := 24) rfl (fun c6 => ?_) (fun c6 => ?_)
    · have hf := if_f c6 hf
      refine E_aload_n 0 dX7_creep_26 (q := 27) rfl rfl rfl ?_
      obtain ⟨z7, hxz7, hf⟩ := bnd hf
      have hF8 : Has n 93 (mdB γ 93 0 m_trace m_text m_typed m_next m_token m_place m_value m_fault m_many m_sees m_cold m_first m_told m_s m_w m_kept m_isKept m_undos m_undoMany m_foundMan m_foundHours m_foundIs m_foundMany m_row m_best) (put 93 (mdB γ 93 0 m_trace m_text m_typed m_next m_token m_place m_value m_fault m_many m_sees m_cold m_first m_told m_s m_w m_kept m_isKept m_undos m_undoMany m_foundMan m_foundHours m_foundIs m_foundMany m_row m_best) h) := (has_put hn_m)
      refine E_cV (as := []) (k := 93) (rest := []) (u' := (0, 0)) (st' := []) dX7_creep_27 (q := 30) rfl lkm_X7_asNow lkv_X7_165 (Nat.le_of_ble_eq_true rfl) ckX7 (hF8.at 0 rfl) (hF8.lt 0 (Nat.le_of_ble_eq_true rfl)) ⟨Nat.le_refl _, Nat.le_refl _⟩ (Nat.le_of_ble_eq_true rfl) rfl rfl (m_X7_asNow (N := N)  hF8 hxz7) rfl rfl rfl ?_
      refine Ev.heap (put_put (k := 93) (cs := (mdB γ 93 0 m_trace m_text m_typed m_next m_token m_place m_value m_fault m_many m_sees m_cold m_first m_told m_s m_w m_kept m_isKept m_undos m_undoMany m_foundMan m_foundHours m_foundIs m_foundMany m_row m_best)) (cs' := (mdB γ 93 0 m_trace m_text m_typed m_next m_token m_place m_value m_fault m_many m_sees m_cold m_first m_told m_s z7 m_kept m_isKept m_undos m_undoMany m_foundMan m_foundHours m_foundIs m_foundMany m_row m_best)) (show (16 : Nat) = 16 from rfl)) ?_
      refine E_iconst (x := 0) dX7_creep_30 (q := 31) rfl (by decide) ?_
      refine E_istore_n [(3, .int 0), (0, .ref (gB γ + 93)), (1, .int a1), (2, .int a2)] dX7_creep_31 (q := 32) rfl rfl (Nat.le_of_ble_eq_true rfl) rfl ?_
      obtain ⟨t20, hxt20, hf⟩ := bnd hf
      rcases t20 with t20e | t20r
      · replace hf := sum_l hf
        refine E_sub [1, 2, 3, 0] rfl ?_
        refine L_X7_creep_1 hn_m hxt20 ?_
        show Ev γ M_X7_creep _ n (put 93 (mdB γ 93 0 m_trace m_text m_typed m_next m_token m_place m_value m_fault m_many m_sees m_cold m_first m_told m_s t20e m_kept m_isKept m_undos m_undoMany m_foundMan m_foundHours m_foundIs m_foundMany m_row m_best) h) [] 79 [] _
        refine E_bipush (x := (-9)) dX7_creep_79 (q := 81) rfl (by decide) ?_
        obtain rfl := Option.some.inj hf
        exact E_iret dX7_creep_81 rfl ⟨rfl, rfl, rfl⟩
      · replace hf := sum_r hf
        obtain rfl := Option.some.inj hf
        refine E_sub [1, 2, 3, 0] rfl ?_
        refine L_X7_creep_1 hn_m hxt20 ?_
        exact ⟨rfl, rfl, rfl⟩
    · have hf := if_t c6 hf
      refine E_iconst (x := (-1)) dX7_creep_24 (q := 25) rfl (by decide) ?_
      obtain rfl := Option.some.inj hf
      exact E_iret dX7_creep_25 rfl ⟨rfl, rfl, rfl⟩

-- PostReliefModel.found(III)I
def f_X7_found (N : Nat) (a1 : Int32) (a2 : Int32) (a3 : Int32) (m_thrown : Int32) (m_many : FN) (m_foundMan : FN) (m_foundHours : FN) (m_foundIs : FN) (m_foundMany : Int32) : Option (Int32 × Int32 × FN × FN × FN × Int32) :=
  ((f_X7_isMan N a1 m_many).bind fun z3 => (if z3 = 0 then some ((-1), 0, m_foundMan, m_foundHours, m_foundIs, m_foundMany) else ((f_X7_in N a2 0 24).bind fun z6 => (if z6 = 0 then some ((-1), 0, m_foundMan, m_foundHours, m_foundIs, m_foundMany) else ((f_X7_in N a3 0 1).bind fun z8 => (if z8 = 0 then some ((-1), 0, m_foundMan, m_foundHours, m_foundIs, m_foundMany) else (if m_foundMany = 6 then some ((-3), 0, m_foundMan, m_foundHours, m_foundIs, m_foundMany) else (if ix m_foundMany 6 = true then some ((m_foundMany + 1), 0, (upd m_foundMan (ci m_foundMany) a1), (upd m_foundHours (ci m_foundMany) a2), (upd m_foundIs (ci m_foundMany) a3), (m_foundMany + 1)) else none))))))))
set_option maxHeartbeats 4000000 in
set_option maxRecDepth 100000 in
theorem m_X7_found {γ : GX} {n : Nat} {N : Nat} {h : HP} {a1 : Int32} {a2 : Int32} {a3 : Int32} {m_thrown : Int32} {m_trace : Int64} {m_text : FN} {m_typed : Int32} {m_next : Int32} {m_token : Int32} {m_place : Int32} {m_value : Int32} {m_fault : Int32} {m_many : FN} {m_sees : FN} {m_cold : FN} {m_first : FN} {m_told : Int32} {m_s : FN} {m_w : FN} {m_kept : FN} {m_isKept : FN} {m_undos : FN} {m_undoMany : Int32} {m_foundMan : FN} {m_foundHours : FN} {m_foundIs : FN} {m_foundMany : Int32} {m_row : FN} {m_best : FN} (hH_m : Has n 93 (mdB γ 93 m_thrown m_trace m_text m_typed m_next m_token m_place m_value m_fault m_many m_sees m_cold m_first m_told m_s m_w m_kept m_isKept m_undos m_undoMany m_foundMan m_foundHours m_foundIs m_foundMany m_row m_best) h) {z : Int32 × Int32 × FN × FN × FN × Int32} (hf : f_X7_found N a1 a2 a3 m_thrown m_many m_foundMan m_foundHours m_foundIs m_foundMany = some z)  : Ct γ M_X7_found n h [.ref (gB γ + 93), .int a1, .int a2, .int a3] (Done (some (.int z.1)) n (put 93 (mdB γ 93 z.2.1 m_trace m_text m_typed m_next m_token m_place m_value m_fault m_many m_sees m_cold m_first m_told m_s m_w m_kept m_isKept m_undos m_undoMany z.2.2.1 z.2.2.2.1 z.2.2.2.2.1 z.2.2.2.2.2 m_row m_best) h)) := by
  have hn_m : 93 + 16 ≤ n := hH_m.1
  refine Ct.heap (h := (put 93 (mdB γ 93 m_thrown m_trace m_text m_typed m_next m_token m_place m_value m_fault m_many m_sees m_cold m_first m_told m_s m_w m_kept m_isKept m_undos m_undoMany m_foundMan m_foundHours m_foundIs m_foundMany m_row m_best) h)) (put_self hH_m).symm ?_
  refine Ct_of_Ev (by decide) (fun h => by cases h) (Nat.le_of_ble_eq_true rfl) ?_
  show Ev γ M_X7_found (0, 0) n (put 93 (mdB γ 93 m_thrown m_trace m_text m_typed m_next m_token m_place m_value m_fault m_many m_sees m_cold m_first m_told m_s m_w m_kept m_isKept m_undos m_undoMany m_foundMan m_foundHours m_foundIs m_foundMany m_row m_best) h) [(0, .ref (gB γ + 93)), (1, .int a1), (2, .int a2), (3, .int a3)] 0 [] _
  unfold f_X7_found at hf
  refine E_aload_n 0 dX7_found_0 (q := 1) rfl rfl rfl ?_
  refine E_iconst (x := 0) dX7_found_1 (q := 2) rfl (by decide) ?_
  have hF1 : Has n 93 (mdB γ 93 m_thrown m_trace m_text m_typed m_next m_token m_place m_value m_fault m_many m_sees m_cold m_first m_told m_s m_w m_kept m_isKept m_undos m_undoMany m_foundMan m_foundHours m_foundIs m_foundMany m_row m_best) (put 93 (mdB γ 93 m_thrown m_trace m_text m_typed m_next m_token m_place m_value m_fault m_many m_sees m_cold m_first m_told m_s m_w m_kept m_isKept m_undos m_undoMany m_foundMan m_foundHours m_foundIs m_foundMany m_row m_best) h) := (has_put hn_m)
  refine E_put 0 dX7_found_2 (q := 5) rfl ckX7 (Nat.le_of_ble_eq_true rfl) fl_X7_56 rfl rfl rfl (hF1.at 0 rfl) (hF1.lt 0 (Nat.le_of_ble_eq_true rfl)) (Nat.le_of_ble_eq_true rfl) (up_put (i := 0) (cs' := (mdB γ 93 0 m_trace m_text m_typed m_next m_token m_place m_value m_fault m_many m_sees m_cold m_first m_told m_s m_w m_kept m_isKept m_undos m_undoMany m_foundMan m_foundHours m_foundIs m_foundMany m_row m_best)) (Nat.le_of_ble_eq_true rfl) rfl) ?_
  refine E_aload_n 0 dX7_found_5 (q := 6) rfl rfl rfl ?_
  refine E_iload_n 1 dX7_found_6 (q := 7) rfl rfl rfl ?_
  obtain ⟨z3, hxz3, hf⟩ := bnd hf
  have hF4 : Has n 93 (mdB γ 93 0 m_trace m_text m_typed m_next m_token m_place m_value m_fault m_many m_sees m_cold m_first m_told m_s m_w m_kept m_isKept m_undos m_undoMany m_foundMan m_foundHours m_foundIs m_foundMany m_row m_best) (put 93 (mdB γ 93 0 m_trace m_text m_typed m_next m_token m_place m_value m_fault m_many m_sees m_cold m_first m_told m_s m_w m_kept m_isKept m_undos m_undoMany m_foundMan m_foundHours m_foundIs m_foundMany m_row m_best) h) := (has_put hn_m)
  refine E_cV (as := [.int a1]) (k := 93) (rest := []) (u' := (0, 0)) (st' := [.int z3]) dX7_found_7 (q := 10) rfl lkm_X7_isMan lkv_X7_128 (Nat.le_of_ble_eq_true rfl) ckX7 (hF4.at 0 rfl) (hF4.lt 0 (Nat.le_of_ble_eq_true rfl)) ⟨Nat.le_refl _, Nat.le_refl _⟩ (Nat.le_of_ble_eq_true rfl) rfl rfl (m_X7_isMan (N := N)  hF4 hxz3) rfl rfl rfl ?_
  refine E_if_eq dX7_found_10 (t := 32) (by decide) (q := 13) rfl (fun c5 => ?_) (fun c5 => ?_)
  · have hf := if_t c5 hf
    refine E_iconst (x := (-1)) dX7_found_32 (q := 33) rfl (by decide) ?_
    obtain rfl := Option.some.inj hf
    exact E_iret dX7_found_33 rfl ⟨rfl, rfl, rfl⟩
  · have hf := if_f c5 hf
    refine E_iload_n 2 dX7_found_13 (q := 14) rfl rfl rfl ?_
    refine E_iconst (x := 0) dX7_found_14 (q := 15) rfl (by decide) ?_
    refine E_bipush (x := 24) dX7_found_15 (q := 17) rfl (by decide) ?_
    obtain ⟨z6, hxz6, hf⟩ := bnd hf
    refine E_cS (as := [.int a2, .int 0, .int 24]) (rest := []) (u' := (0, 0)) (st' := [.int z6]) dX7_found_17 (q := 20) rfl lkm_X7_in lks_X7_60 (Nat.le_of_ble_eq_true rfl) ⟨Nat.le_refl _, Nat.le_refl _⟩ (Nat.le_of_ble_eq_true rfl) rfl rfl (m_X7_in (N := N)  hxz6) rfl rfl rfl ?_
    refine E_if_eq dX7_found_20 (t := 32) (by decide) (q := 23) rfl (fun c7 => ?_) (fun c7 => ?_)
    · have hf := if_t c7 hf
      refine E_iconst (x := (-1)) dX7_found_32 (q := 33) rfl (by decide) ?_
      obtain rfl := Option.some.inj hf
      exact E_iret dX7_found_33 rfl ⟨rfl, rfl, rfl⟩
    · have hf := if_f c7 hf
      refine E_iload_n 3 dX7_found_23 (q := 24) rfl rfl rfl ?_
      refine E_iconst (x := 0) dX7_found_24 (q := 25) rfl (by decide) ?_
      refine E_iconst (x := 1) dX7_found_25 (q := 26) rfl (by decide) ?_
      obtain ⟨z8, hxz8, hf⟩ := bnd hf
      refine E_cS (as := [.int a3, .int 0, .int 1]) (rest := []) (u' := (0, 0)) (st' := [.int z8]) dX7_found_26 (q := 29) rfl lkm_X7_in lks_X7_60 (Nat.le_of_ble_eq_true rfl) ⟨Nat.le_refl _, Nat.le_refl _⟩ (Nat.le_of_ble_eq_true rfl) rfl rfl (m_X7_in (N := N)  hxz8) rfl rfl rfl ?_
      refine E_if_ne dX7_found_29 (t := 34) (by decide) (q := 32) rfl (fun c9 => ?_) (fun c9 => ?_)
      · have hf := if_f c9 hf
        refine E_aload_n 0 dX7_found_34 (q := 35) rfl rfl rfl ?_
        refine E_get 23 dX7_found_35 (q := 38) rfl ckX7 (Nat.le_of_ble_eq_true rfl) fl_X7_114 (hF4.at 0 rfl) (hF4.lt 0 (Nat.le_of_ble_eq_true rfl)) rfl ?_
        refine E_bipush (x := 6) dX7_found_38 (q := 40) rfl (by decide) ?_
        refine E_icmp_ne dX7_found_40 (t := 46) (by decide) (q := 43) rfl (fun c10 => ?_) (fun c10 => ?_)
        · have hf := if_f c10 hf
          refine E_aload_n 0 dX7_found_46 (q := 47) rfl rfl rfl ?_
          refine E_get 20 dX7_found_47 (q := 50) rfl ckX7 (Nat.le_of_ble_eq_true rfl) fl_X7_41 (hF4.at 0 rfl) (hF4.lt 0 (Nat.le_of_ble_eq_true rfl)) rfl ?_
          refine E_aload_n 0 dX7_found_50 (q := 51) rfl rfl rfl ?_
          refine E_get 23 dX7_found_51 (q := 54) rfl ckX7 (Nat.le_of_ble_eq_true rfl) fl_X7_114 (hF4.at 0 rfl) (hF4.lt 0 (Nat.le_of_ble_eq_true rfl)) rfl ?_
          refine E_iload_n 1 dX7_found_54 (q := 55) rfl rfl rfl ?_
          obtain ⟨g11, hf⟩ := gd hf
          refine E_iast dX7_found_55 (q := 56) rfl (hF4.at 11 rfl) (hF4.lt 11 (Nat.le_of_ble_eq_true rfl)) g11 (up_put (i := 11) (cs' := (mdB γ 93 0 m_trace m_text m_typed m_next m_token m_place m_value m_fault m_many m_sees m_cold m_first m_told m_s m_w m_kept m_isKept m_undos m_undoMany (upd m_foundMan (ci m_foundMany) a1) m_foundHours m_foundIs m_foundMany m_row m_best)) (Nat.le_of_ble_eq_true rfl) rfl) ?_
          refine E_aload_n 0 dX7_found_56 (q := 57) rfl rfl rfl ?_
          have hF13 : Has n 93 (mdB γ 93 0 m_trace m_text m_typed m_next m_token m_place m_value m_fault m_many m_sees m_cold m_first m_told m_s m_w m_kept m_isKept m_undos m_undoMany (upd m_foundMan (ci m_foundMany) a1) m_foundHours m_foundIs m_foundMany m_row m_best) (put 93 (mdB γ 93 0 m_trace m_text m_typed m_next m_token m_place m_value m_fault m_many m_sees m_cold m_first m_told m_s m_w m_kept m_isKept m_undos m_undoMany (upd m_foundMan (ci m_foundMany) a1) m_foundHours m_foundIs m_foundMany m_row m_best) h) := (has_put hn_m)
          refine E_get 21 dX7_found_57 (q := 60) rfl ckX7 (Nat.le_of_ble_eq_true rfl) fl_X7_44 (hF13.at 0 rfl) (hF13.lt 0 (Nat.le_of_ble_eq_true rfl)) rfl ?_
          refine E_aload_n 0 dX7_found_60 (q := 61) rfl rfl rfl ?_
          refine E_get 23 dX7_found_61 (q := 64) rfl ckX7 (Nat.le_of_ble_eq_true rfl) fl_X7_114 (hF13.at 0 rfl) (hF13.lt 0 (Nat.le_of_ble_eq_true rfl)) rfl ?_
          refine E_iload_n 2 dX7_found_64 (q := 65) rfl rfl rfl ?_
          refine E_iast dX7_found_65 (q := 66) rfl (hF13.at 12 rfl) (hF13.lt 12 (Nat.le_of_ble_eq_true rfl)) g11 (up_put (i := 12) (cs' := (mdB γ 93 0 m_trace m_text m_typed m_next m_token m_place m_value m_fault m_many m_sees m_cold m_first m_told m_s m_w m_kept m_isKept m_undos m_undoMany (upd m_foundMan (ci m_foundMany) a1) (upd m_foundHours (ci m_foundMany) a2) m_foundIs m_foundMany m_row m_best)) (Nat.le_of_ble_eq_true rfl) rfl) ?_
          refine E_aload_n 0 dX7_found_66 (q := 67) rfl rfl rfl ?_
          have hF15 : Has n 93 (mdB γ 93 0 m_trace m_text m_typed m_next m_token m_place m_value m_fault m_many m_sees m_cold m_first m_told m_s m_w m_kept m_isKept m_undos m_undoMany (upd m_foundMan (ci m_foundMany) a1) (upd m_foundHours (ci m_foundMany) a2) m_foundIs m_foundMany m_row m_best) (put 93 (mdB γ 93 0 m_trace m_text m_typed m_next m_token m_place m_value m_fault m_many m_sees m_cold m_first m_told m_s m_w m_kept m_isKept m_undos m_undoMany (upd m_foundMan (ci m_foundMany) a1) (upd m_foundHours (ci m_foundMany) a2) m_foundIs m_foundMany m_row m_best) h) := (has_put hn_m)
          refine E_get 22 dX7_found_67 (q := 70) rfl ckX7 (Nat.le_of_ble_eq_true rfl) fl_X7_47 (hF15.at 0 rfl) (hF15.lt 0 (Nat.le_of_ble_eq_true rfl)) rfl ?_
          refine E_aload_n 0 dX7_found_70 (q := 71) rfl rfl rfl ?_
          refine E_get 23 dX7_found_71 (q := 74) rfl ckX7 (Nat.le_of_ble_eq_true rfl) fl_X7_114 (hF15.at 0 rfl) (hF15.lt 0 (Nat.le_of_ble_eq_true rfl)) rfl ?_
          refine E_iload_n 3 dX7_found_74 (q := 75) rfl rfl rfl ?_
          refine E_iast dX7_found_75 (q := 76) rfl (hF15.at 13 rfl) (hF15.lt 13 (Nat.le_of_ble_eq_true rfl)) g11 (up_put (i := 13) (cs' := (mdB γ 93 0 m_trace m_text m_typed m_next m_token m_place m_value m_fault m_many m_sees m_cold m_first m_told m_s m_w m_kept m_isKept m_undos m_undoMany (upd m_foundMan (ci m_foundMany) a1) (upd m_foundHours (ci m_foundMany) a2) (upd m_foundIs (ci m_foundMany) a3) m_foundMany m_row m_best)) (Nat.le_of_ble_eq_true rfl) rfl) ?_
          refine E_aload_n 0 dX7_found_76 (q := 77) rfl rfl rfl ?_
          refine E_dup dX7_found_77 (q := 78) rfl rfl ?_
          have hF17 : Has n 93 (mdB γ 93 0 m_trace m_text m_typed m_next m_token m_place m_value m_fault m_many m_sees m_cold m_first m_told m_s m_w m_kept m_isKept m_undos m_undoMany (upd m_foundMan (ci m_foundMany) a1) (upd m_foundHours (ci m_foundMany) a2) (upd m_foundIs (ci m_foundMany) a3) m_foundMany m_row m_best) (put 93 (mdB γ 93 0 m_trace m_text m_typed m_next m_token m_place m_value m_fault m_many m_sees m_cold m_first m_told m_s m_w m_kept m_isKept m_undos m_undoMany (upd m_foundMan (ci m_foundMany) a1) (upd m_foundHours (ci m_foundMany) a2) (upd m_foundIs (ci m_foundMany) a3) m_foundMany m_row m_best) h) := (has_put hn_m)
          refine E_get 23 dX7_found_78 (q := 81) rfl ckX7 (Nat.le_of_ble_eq_true rfl) fl_X7_114 (hF17.at 0 rfl) (hF17.lt 0 (Nat.le_of_ble_eq_true rfl)) rfl ?_
          refine E_iconst (x := 1) dX7_found_81 (q := 82) rfl (by decide) ?_
          refine E_iadd dX7_found_82 (q := 83) rfl ?_
          refine E_put 23 dX7_found_83 (q := 86) rfl ckX7 (Nat.le_of_ble_eq_true rfl) fl_X7_114 rfl rfl rfl (hF17.at 0 rfl) (hF17.lt 0 (Nat.le_of_ble_eq_true rfl)) (Nat.le_of_ble_eq_true rfl) (up_put (i := 0) (cs' := (mdB γ 93 0 m_trace m_text m_typed m_next m_token m_place m_value m_fault m_many m_sees m_cold m_first m_told m_s m_w m_kept m_isKept m_undos m_undoMany (upd m_foundMan (ci m_foundMany) a1) (upd m_foundHours (ci m_foundMany) a2) (upd m_foundIs (ci m_foundMany) a3) (m_foundMany + 1) m_row m_best)) (Nat.le_of_ble_eq_true rfl) rfl) ?_
          refine E_aload_n 0 dX7_found_86 (q := 87) rfl rfl rfl ?_
          have hF19 : Has n 93 (mdB γ 93 0 m_trace m_text m_typed m_next m_token m_place m_value m_fault m_many m_sees m_cold m_first m_told m_s m_w m_kept m_isKept m_undos m_undoMany (upd m_foundMan (ci m_foundMany) a1) (upd m_foundHours (ci m_foundMany) a2) (upd m_foundIs (ci m_foundMany) a3) (m_foundMany + 1) m_row m_best) (put 93 (mdB γ 93 0 m_trace m_text m_typed m_next m_token m_place m_value m_fault m_many m_sees m_cold m_first m_told m_s m_w m_kept m_isKept m_undos m_undoMany (upd m_foundMan (ci m_foundMany) a1) (upd m_foundHours (ci m_foundMany) a2) (upd m_foundIs (ci m_foundMany) a3) (m_foundMany + 1) m_row m_best) h) := (has_put hn_m)
          refine E_get 23 dX7_found_87 (q := 90) rfl ckX7 (Nat.le_of_ble_eq_true rfl) fl_X7_114 (hF19.at 0 rfl) (hF19.lt 0 (Nat.le_of_ble_eq_true rfl)) rfl ?_
          obtain rfl := Option.some.inj hf
          exact E_iret dX7_found_90 rfl ⟨rfl, rfl, rfl⟩
        · have hf := if_t c10 hf
          refine E_bipush (x := (-3)) dX7_found_43 (q := 45) rfl (by decide) ?_
          obtain rfl := Option.some.inj hf
          exact E_iret dX7_found_45 rfl ⟨rfl, rfl, rfl⟩
      · have hf := if_t c9 hf
        refine E_iconst (x := (-1)) dX7_found_32 (q := 33) rfl (by decide) ?_
        obtain rfl := Option.some.inj hf
        exact E_iret dX7_found_33 rfl ⟨rfl, rfl, rfl⟩

-- PostReliefModel.forget()I
def f_X7_forget (N : Nat) (m_thrown : Int32) (m_foundMany : Int32) : Option (Int32 × Int32 × Int32) :=
  some (m_foundMany, 0, 0)
set_option maxHeartbeats 4000000 in
set_option maxRecDepth 100000 in
theorem m_X7_forget {γ : GX} {n : Nat} {N : Nat} {h : HP} {m_thrown : Int32} {m_trace : Int64} {m_text : FN} {m_typed : Int32} {m_next : Int32} {m_token : Int32} {m_place : Int32} {m_value : Int32} {m_fault : Int32} {m_many : FN} {m_sees : FN} {m_cold : FN} {m_first : FN} {m_told : Int32} {m_s : FN} {m_w : FN} {m_kept : FN} {m_isKept : FN} {m_undos : FN} {m_undoMany : Int32} {m_foundMan : FN} {m_foundHours : FN} {m_foundIs : FN} {m_foundMany : Int32} {m_row : FN} {m_best : FN} (hH_m : Has n 93 (mdB γ 93 m_thrown m_trace m_text m_typed m_next m_token m_place m_value m_fault m_many m_sees m_cold m_first m_told m_s m_w m_kept m_isKept m_undos m_undoMany m_foundMan m_foundHours m_foundIs m_foundMany m_row m_best) h) {z : Int32 × Int32 × Int32} (hf : f_X7_forget N m_thrown m_foundMany = some z)  : Ct γ M_X7_forget n h [.ref (gB γ + 93)] (Done (some (.int z.1)) n (put 93 (mdB γ 93 z.2.1 m_trace m_text m_typed m_next m_token m_place m_value m_fault m_many m_sees m_cold m_first m_told m_s m_w m_kept m_isKept m_undos m_undoMany m_foundMan m_foundHours m_foundIs z.2.2 m_row m_best) h)) := by
  have hn_m : 93 + 16 ≤ n := hH_m.1
  refine Ct.heap (h := (put 93 (mdB γ 93 m_thrown m_trace m_text m_typed m_next m_token m_place m_value m_fault m_many m_sees m_cold m_first m_told m_s m_w m_kept m_isKept m_undos m_undoMany m_foundMan m_foundHours m_foundIs m_foundMany m_row m_best) h)) (put_self hH_m).symm ?_
  refine Ct_of_Ev (by decide) (fun h => by cases h) (Nat.le_of_ble_eq_true rfl) ?_
  show Ev γ M_X7_forget (0, 0) n (put 93 (mdB γ 93 m_thrown m_trace m_text m_typed m_next m_token m_place m_value m_fault m_many m_sees m_cold m_first m_told m_s m_w m_kept m_isKept m_undos m_undoMany m_foundMan m_foundHours m_foundIs m_foundMany m_row m_best) h) [(0, .ref (gB γ + 93))] 0 [] _
  unfold f_X7_forget at hf
  refine E_aload_n 0 dX7_forget_0 (q := 1) rfl rfl rfl ?_
  refine E_iconst (x := 0) dX7_forget_1 (q := 2) rfl (by decide) ?_
  have hF1 : Has n 93 (mdB γ 93 m_thrown m_trace m_text m_typed m_next m_token m_place m_value m_fault m_many m_sees m_cold m_first m_told m_s m_w m_kept m_isKept m_undos m_undoMany m_foundMan m_foundHours m_foundIs m_foundMany m_row m_best) (put 93 (mdB γ 93 m_thrown m_trace m_text m_typed m_next m_token m_place m_value m_fault m_many m_sees m_cold m_first m_told m_s m_w m_kept m_isKept m_undos m_undoMany m_foundMan m_foundHours m_foundIs m_foundMany m_row m_best) h) := (has_put hn_m)
  refine E_put 0 dX7_forget_2 (q := 5) rfl ckX7 (Nat.le_of_ble_eq_true rfl) fl_X7_56 rfl rfl rfl (hF1.at 0 rfl) (hF1.lt 0 (Nat.le_of_ble_eq_true rfl)) (Nat.le_of_ble_eq_true rfl) (up_put (i := 0) (cs' := (mdB γ 93 0 m_trace m_text m_typed m_next m_token m_place m_value m_fault m_many m_sees m_cold m_first m_told m_s m_w m_kept m_isKept m_undos m_undoMany m_foundMan m_foundHours m_foundIs m_foundMany m_row m_best)) (Nat.le_of_ble_eq_true rfl) rfl) ?_
  refine E_aload_n 0 dX7_forget_5 (q := 6) rfl rfl rfl ?_
  have hF3 : Has n 93 (mdB γ 93 0 m_trace m_text m_typed m_next m_token m_place m_value m_fault m_many m_sees m_cold m_first m_told m_s m_w m_kept m_isKept m_undos m_undoMany m_foundMan m_foundHours m_foundIs m_foundMany m_row m_best) (put 93 (mdB γ 93 0 m_trace m_text m_typed m_next m_token m_place m_value m_fault m_many m_sees m_cold m_first m_told m_s m_w m_kept m_isKept m_undos m_undoMany m_foundMan m_foundHours m_foundIs m_foundMany m_row m_best) h) := (has_put hn_m)
  refine E_get 23 dX7_forget_6 (q := 9) rfl ckX7 (Nat.le_of_ble_eq_true rfl) fl_X7_114 (hF3.at 0 rfl) (hF3.lt 0 (Nat.le_of_ble_eq_true rfl)) rfl ?_
  refine E_istore_n [(1, .int m_foundMany), (0, .ref (gB γ + 93))] dX7_forget_9 (q := 10) rfl rfl (Nat.le_of_ble_eq_true rfl) rfl ?_
  refine E_aload_n 1 dX7_forget_10 (q := 11) rfl rfl rfl ?_
  refine E_iconst (x := 0) dX7_forget_11 (q := 12) rfl (by decide) ?_
  refine E_put 23 dX7_forget_12 (q := 15) rfl ckX7 (Nat.le_of_ble_eq_true rfl) fl_X7_114 rfl rfl rfl (hF3.at 0 rfl) (hF3.lt 0 (Nat.le_of_ble_eq_true rfl)) (Nat.le_of_ble_eq_true rfl) (up_put (i := 0) (cs' := (mdB γ 93 0 m_trace m_text m_typed m_next m_token m_place m_value m_fault m_many m_sees m_cold m_first m_told m_s m_w m_kept m_isKept m_undos m_undoMany m_foundMan m_foundHours m_foundIs 0 m_row m_best)) (Nat.le_of_ble_eq_true rfl) rfl) ?_
  refine E_iload_n 0 dX7_forget_15 (q := 16) rfl rfl rfl ?_
  obtain rfl := Option.some.inj hf
  exact E_iret dX7_forget_16 rfl ⟨rfl, rfl, rfl⟩

-- PostReliefModel.isFit(II)Z
def b_X7_isFit_2 (N : Nat) (p1 : Int32) (p2 : Int32) (p3 : Int32) (p4 : Int32) (m_many : FN) (m_cold : FN) (m_foundHours : FN) (v5 : Int32) (m_w : FN) : Option ((Int32 × FN) ⊕ (FN)) :=
  (if ix p4 6 = true then (if (m_foundHours (ci p4)) ≤ v5 then some (.inr m_w) else ((f_X7_goesBy N 0 m_many m_cold m_w).bind fun z15 => some (.inl ((v5 + 1), z15)))) else none)
def b_X7_isFit_1 (N : Nat) (p1 : Int32) (p2 : Int32) (m_many : FN) (m_cold : FN) (m_s : FN) (m_foundMan : FN) (m_foundHours : FN) (m_foundIs : FN) (m_foundMany : Int32) (v3 : Int32) (v4 : Int32) (m_w : FN) : Option ((Int32 × Int32 × FN) ⊕ (Int32 × FN)) :=
  (if m_foundMany ≤ v4 then some (.inr (v3, m_w)) else (if ix v4 6 = true then (if (m_foundMan (ci v4)) = p1 then ((f_X7_asNow N m_s m_w).bind fun z6 => (if ix (1 + p1) 48 = true then ((lp (fun s => b_X7_isFit_2 N p1 p2 v3 v4 m_many m_cold m_foundHours s.1 s.2) N (0, (upd z6 (ci (1 + p1)) p2))).bind fun t17 => (if v3 = 0 then some (.inl (0, (v4 + 1), t17)) else ((f_X7_isAsleep_w N p1 t17).bind fun z21 => (if z21 = 0 then (if 0 = (m_foundIs (ci v4)) then some (.inl (1, (v4 + 1), t17)) else some (.inl (0, (v4 + 1), t17))) else (if 1 = (m_foundIs (ci v4)) then some (.inl (1, (v4 + 1), t17)) else some (.inl (0, (v4 + 1), t17))))))) else none)) else some (.inl (v3, (v4 + 1), m_w))) else none))
def f_X7_isFit (N : Nat) (a1 : Int32) (a2 : Int32) (m_many : FN) (m_cold : FN) (m_s : FN) (m_w : FN) (m_foundMan : FN) (m_foundHours : FN) (m_foundIs : FN) (m_foundMany : Int32) : Option (Int32 × FN) :=
  ((lp (fun s => b_X7_isFit_1 N a1 a2 m_many m_cold m_s m_foundMan m_foundHours m_foundIs m_foundMany s.1 s.2.1 s.2.2) N (1, 0, m_w)).bind fun t25 => (if t25.1 &&& 1 = t25.1 then some (t25.1, t25.2) else none))
set_option maxHeartbeats 4000000 in
set_option maxRecDepth 100000 in
theorem L_X7_isFit_2 {γ : GX} {n : Nat} {h : HP} {Ψ : PS} {N : Nat} {p1 : Int32} {p2 : Int32} {p3 : Int32} {p4 : Int32} {m_thrown : Int32} {m_trace : Int64} {m_text : FN} {m_typed : Int32} {m_next : Int32} {m_token : Int32} {m_place : Int32} {m_value : Int32} {m_fault : Int32} {m_many : FN} {m_sees : FN} {m_cold : FN} {m_first : FN} {m_told : Int32} {m_s : FN} {m_kept : FN} {m_isKept : FN} {m_undos : FN} {m_undoMany : Int32} {m_foundMan : FN} {m_foundHours : FN} {m_foundIs : FN} {m_foundMany : Int32} {m_row : FN} {m_best : FN} (hn_m : 93 + 16 ≤ n) {s0 : Int32 × FN} {t : FN} (hf : lp (fun s => b_X7_isFit_2 N p1 p2 p3 p4 m_many m_cold m_foundHours s.1 s.2) N s0 = some t) (K : Ev γ M_X7_isFit (0, 0) n (put 93 (mdB γ 93 m_thrown m_trace m_text m_typed m_next m_token m_place m_value m_fault m_many m_sees m_cold m_first m_told m_s t m_kept m_isKept m_undos m_undoMany m_foundMan m_foundHours m_foundIs m_foundMany m_row m_best) h) [(0, .ref (gB γ + 93)), (1, .int p1), (2, .int p2), (3, .int p3), (4, .int p4)] 64 [] Ψ) : Ev γ M_X7_isFit (0, 0) n (put 93 (mdB γ 93 m_thrown m_trace m_text m_typed m_next m_token m_place m_value m_fault m_many m_sees m_cold m_first m_told m_s s0.2 m_kept m_isKept m_undos m_undoMany m_foundMan m_foundHours m_foundIs m_foundMany m_row m_best) h) [(0, .ref (gB γ + 93)), (1, .int p1), (2, .int p2), (3, .int p3), (4, .int p4), (5, .int s0.1)] 41 [] Ψ := by
  refine E_lp (P := fun s => Ev γ M_X7_isFit (0, 0) n (put 93 (mdB γ 93 m_thrown m_trace m_text m_typed m_next m_token m_place m_value m_fault m_many m_sees m_cold m_first m_told m_s s.2 m_kept m_isKept m_undos m_undoMany m_foundMan m_foundHours m_foundIs m_foundMany m_row m_best) h) [(0, .ref (gB γ + 93)), (1, .int p1), (2, .int p2), (3, .int p3), (4, .int p4), (5, .int s.1)] 41 [] Ψ) (K := fun t => Ev γ M_X7_isFit (0, 0) n (put 93 (mdB γ 93 m_thrown m_trace m_text m_typed m_next m_token m_place m_value m_fault m_many m_sees m_cold m_first m_told m_s t m_kept m_isKept m_undos m_undoMany m_foundMan m_foundHours m_foundIs m_foundMany m_row m_best) h) [(0, .ref (gB γ + 93)), (1, .int p1), (2, .int p2), (3, .int p3), (4, .int p4)] 64 [] Ψ) ?_ N s0 t hf K
  intro s r hf hP hK
  obtain ⟨v5, m_w⟩ := s
  change b_X7_isFit_2 N p1 p2 p3 p4 m_many m_cold m_foundHours v5 m_w = some r at hf
  unfold b_X7_isFit_2 at hf
  show Ev γ M_X7_isFit (0, 0) n (put 93 (mdB γ 93 m_thrown m_trace m_text m_typed m_next m_token m_place m_value m_fault m_many m_sees m_cold m_first m_told m_s m_w m_kept m_isKept m_undos m_undoMany m_foundMan m_foundHours m_foundIs m_foundMany m_row m_best) h) [(0, .ref (gB γ + 93)), (1, .int p1), (2, .int p2), (3, .int p3), (4, .int p4), (5, .int v5)] 41 [] Ψ
  refine E_iload 5 dX7_isFit_41 (q := 43) rfl rfl ?_
  refine E_aload_n 0 dX7_isFit_43 (q := 44) rfl rfl rfl ?_
  have hF12 : Has n 93 (mdB γ 93 m_thrown m_trace m_text m_typed m_next m_token m_place m_value m_fault m_many m_sees m_cold m_first m_told m_s m_w m_kept m_isKept m_undos m_undoMany m_foundMan m_foundHours m_foundIs m_foundMany m_row m_best) (put 93 (mdB γ 93 m_thrown m_trace m_text m_typed m_next m_token m_place m_value m_fault m_many m_sees m_cold m_first m_told m_s m_w m_kept m_isKept m_undos m_undoMany m_foundMan m_foundHours m_foundIs m_foundMany m_row m_best) h) := (has_put hn_m)
  refine E_get 21 dX7_isFit_44 (q := 47) rfl ckX7 (Nat.le_of_ble_eq_true rfl) fl_X7_44 (hF12.at 0 rfl) (hF12.lt 0 (Nat.le_of_ble_eq_true rfl)) rfl ?_
  refine E_iload 4 dX7_isFit_47 (q := 49) rfl rfl ?_
  obtain ⟨g13, hf⟩ := gd hf
  refine E_iald dX7_isFit_49 (q := 50) rfl (hF12.at 12 rfl) (hF12.lt 12 (Nat.le_of_ble_eq_true rfl)) g13 ?_
  refine E_icmp_ge dX7_isFit_50 (t := 64) (by decide) (q := 53) rfl (fun c14 => ?_) (fun c14 => ?_)
  · have hf := if_t c14 hf
    exact E_sub [0, 1, 2, 3, 4] rfl (hK _ (Option.some.inj hf).symm)
  · have hf := if_f c14 hf
    refine E_aload_n 0 dX7_isFit_53 (q := 54) rfl rfl rfl ?_
    refine E_iconst (x := 0) dX7_isFit_54 (q := 55) rfl (by decide) ?_
    obtain ⟨z15, hxz15, hf⟩ := bnd hf
    refine E_cV (as := [.int 0]) (k := 93) (rest := []) (u' := (0, 0)) (st' := []) dX7_isFit_55 (q := 58) rfl lkm_X7_goesBy lkv_X7_168 (Nat.le_of_ble_eq_true rfl) ckX7 (hF12.at 0 rfl) (hF12.lt 0 (Nat.le_of_ble_eq_true rfl)) ⟨Nat.le_refl _, Nat.le_refl _⟩ (Nat.le_of_ble_eq_true rfl) rfl rfl (m_X7_goesBy (N := N)  hF12 hxz15) rfl rfl rfl ?_
    refine Ev.heap (put_put (k := 93) (cs := (mdB γ 93 m_thrown m_trace m_text m_typed m_next m_token m_place m_value m_fault m_many m_sees m_cold m_first m_told m_s m_w m_kept m_isKept m_undos m_undoMany m_foundMan m_foundHours m_foundIs m_foundMany m_row m_best)) (cs' := (mdB γ 93 m_thrown m_trace m_text m_typed m_next m_token m_place m_value m_fault m_many m_sees m_cold m_first m_told m_s z15 m_kept m_isKept m_undos m_undoMany m_foundMan m_foundHours m_foundIs m_foundMany m_row m_best)) (show (16 : Nat) = 16 from rfl)) ?_
    refine E_iinc 5 [(5, .int (v5 + 1)), (0, .ref (gB γ + 93)), (1, .int p1), (2, .int p2), (3, .int p3), (4, .int p4)] dX7_isFit_58 (q := 61) rfl rfl rfl (Nat.le_of_ble_eq_true rfl) rfl ?_
    refine E_goto (q := 41) dX7_isFit_61 (by decide) ?_
    exact E_sub [1, 2, 3, 4, 5, 0] rfl (hP _ (Option.some.inj hf).symm)
set_option maxHeartbeats 4000000 in
set_option maxRecDepth 100000 in
theorem L_X7_isFit_1 {γ : GX} {n : Nat} {h : HP} {Ψ : PS} {N : Nat} {p1 : Int32} {p2 : Int32} {m_thrown : Int32} {m_trace : Int64} {m_text : FN} {m_typed : Int32} {m_next : Int32} {m_token : Int32} {m_place : Int32} {m_value : Int32} {m_fault : Int32} {m_many : FN} {m_sees : FN} {m_cold : FN} {m_first : FN} {m_told : Int32} {m_s : FN} {m_kept : FN} {m_isKept : FN} {m_undos : FN} {m_undoMany : Int32} {m_foundMan : FN} {m_foundHours : FN} {m_foundIs : FN} {m_foundMany : Int32} {m_row : FN} {m_best : FN} (hn_m : 93 + 16 ≤ n) {s0 : Int32 × Int32 × FN} {t : Int32 × FN} (hf : lp (fun s => b_X7_isFit_1 N p1 p2 m_many m_cold m_s m_foundMan m_foundHours m_foundIs m_foundMany s.1 s.2.1 s.2.2) N s0 = some t) (K : Ev γ M_X7_isFit (0, 0) n (put 93 (mdB γ 93 m_thrown m_trace m_text m_typed m_next m_token m_place m_value m_fault m_many m_sees m_cold m_first m_told m_s t.2 m_kept m_isKept m_undos m_undoMany m_foundMan m_foundHours m_foundIs m_foundMany m_row m_best) h) [(3, .int t.1)] 106 [] Ψ) : Ev γ M_X7_isFit (0, 0) n (put 93 (mdB γ 93 m_thrown m_trace m_text m_typed m_next m_token m_place m_value m_fault m_many m_sees m_cold m_first m_told m_s s0.2.2 m_kept m_isKept m_undos m_undoMany m_foundMan m_foundHours m_foundIs m_foundMany m_row m_best) h) [(0, .ref (gB γ + 93)), (1, .int p1), (2, .int p2), (3, .int s0.1), (4, .int s0.2.1)] 5 [] Ψ := by
  refine E_lp (P := fun s => Ev γ M_X7_isFit (0, 0) n (put 93 (mdB γ 93 m_thrown m_trace m_text m_typed m_next m_token m_place m_value m_fault m_many m_sees m_cold m_first m_told m_s s.2.2 m_kept m_isKept m_undos m_undoMany m_foundMan m_foundHours m_foundIs m_foundMany m_row m_best) h) [(0, .ref (gB γ + 93)), (1, .int p1), (2, .int p2), (3, .int s.1), (4, .int s.2.1)] 5 [] Ψ) (K := fun t => Ev γ M_X7_isFit (0, 0) n (put 93 (mdB γ 93 m_thrown m_trace m_text m_typed m_next m_token m_place m_value m_fault m_many m_sees m_cold m_first m_told m_s t.2 m_kept m_isKept m_undos m_undoMany m_foundMan m_foundHours m_foundIs m_foundMany m_row m_best) h) [(3, .int t.1)] 106 [] Ψ) ?_ N s0 t hf K
  intro s r hf hP hK
  obtain ⟨v3, v4, m_w⟩ := s
  change b_X7_isFit_1 N p1 p2 m_many m_cold m_s m_foundMan m_foundHours m_foundIs m_foundMany v3 v4 m_w = some r at hf
  unfold b_X7_isFit_1 at hf
  show Ev γ M_X7_isFit (0, 0) n (put 93 (mdB γ 93 m_thrown m_trace m_text m_typed m_next m_token m_place m_value m_fault m_many m_sees m_cold m_first m_told m_s m_w m_kept m_isKept m_undos m_undoMany m_foundMan m_foundHours m_foundIs m_foundMany m_row m_best) h) [(0, .ref (gB γ + 93)), (1, .int p1), (2, .int p2), (3, .int v3), (4, .int v4)] 5 [] Ψ
  refine E_iload 4 dX7_isFit_5 (q := 7) rfl rfl ?_
  refine E_aload_n 0 dX7_isFit_7 (q := 8) rfl rfl rfl ?_
  have hF2 : Has n 93 (mdB γ 93 m_thrown m_trace m_text m_typed m_next m_token m_place m_value m_fault m_many m_sees m_cold m_first m_told m_s m_w m_kept m_isKept m_undos m_undoMany m_foundMan m_foundHours m_foundIs m_foundMany m_row m_best) (put 93 (mdB γ 93 m_thrown m_trace m_text m_typed m_next m_token m_place m_value m_fault m_many m_sees m_cold m_first m_told m_s m_w m_kept m_isKept m_undos m_undoMany m_foundMan m_foundHours m_foundIs m_foundMany m_row m_best) h) := (has_put hn_m)
  refine E_get 23 dX7_isFit_8 (q := 11) rfl ckX7 (Nat.le_of_ble_eq_true rfl) fl_X7_114 (hF2.at 0 rfl) (hF2.lt 0 (Nat.le_of_ble_eq_true rfl)) rfl ?_
  refine E_icmp_ge dX7_isFit_11 (t := 106) (by decide) (q := 14) rfl (fun c3 => ?_) (fun c3 => ?_)
  · have hf := if_t c3 hf
    exact E_sub [3] rfl (hK _ (Option.some.inj hf).symm)
  · have hf := if_f c3 hf
    refine E_aload_n 0 dX7_isFit_14 (q := 15) rfl rfl rfl ?_
    refine E_get 20 dX7_isFit_15 (q := 18) rfl ckX7 (Nat.le_of_ble_eq_true rfl) fl_X7_41 (hF2.at 0 rfl) (hF2.lt 0 (Nat.le_of_ble_eq_true rfl)) rfl ?_
    refine E_iload 4 dX7_isFit_18 (q := 20) rfl rfl ?_
    obtain ⟨g4, hf⟩ := gd hf
    refine E_iald dX7_isFit_20 (q := 21) rfl (hF2.at 11 rfl) (hF2.lt 11 (Nat.le_of_ble_eq_true rfl)) g4 ?_
    refine E_iload_n 1 dX7_isFit_21 (q := 22) rfl rfl rfl ?_
    refine E_icmp_ne dX7_isFit_22 (t := 100) (by decide) (q := 25) rfl (fun c5 => ?_) (fun c5 => ?_)
    · have hf := if_f c5 hf
      refine E_iinc 4 [(4, .int (v4 + 1)), (0, .ref (gB γ + 93)), (1, .int p1), (2, .int p2), (3, .int v3)] dX7_isFit_100 (q := 103) rfl rfl rfl (Nat.le_of_ble_eq_true rfl) rfl ?_
      refine E_goto (q := 5) dX7_isFit_103 (by decide) ?_
      exact E_sub [1, 2, 3, 4, 0] rfl (hP _ (Option.some.inj hf).symm)
    · have hf := if_t c5 hf
      refine E_aload_n 0 dX7_isFit_25 (q := 26) rfl rfl rfl ?_
      obtain ⟨z6, hxz6, hf⟩ := bnd hf
      refine E_cV (as := []) (k := 93) (rest := []) (u' := (0, 0)) (st' := []) dX7_isFit_26 (q := 29) rfl lkm_X7_asNow lkv_X7_165 (Nat.le_of_ble_eq_true rfl) ckX7 (hF2.at 0 rfl) (hF2.lt 0 (Nat.le_of_ble_eq_true rfl)) ⟨Nat.le_refl _, Nat.le_refl _⟩ (Nat.le_of_ble_eq_true rfl) rfl rfl (m_X7_asNow (N := N)  hF2 hxz6) rfl rfl rfl ?_
      refine Ev.heap (put_put (k := 93) (cs := (mdB γ 93 m_thrown m_trace m_text m_typed m_next m_token m_place m_value m_fault m_many m_sees m_cold m_first m_told m_s m_w m_kept m_isKept m_undos m_undoMany m_foundMan m_foundHours m_foundIs m_foundMany m_row m_best)) (cs' := (mdB γ 93 m_thrown m_trace m_text m_typed m_next m_token m_place m_value m_fault m_many m_sees m_cold m_first m_told m_s z6 m_kept m_isKept m_undos m_undoMany m_foundMan m_foundHours m_foundIs m_foundMany m_row m_best)) (show (16 : Nat) = 16 from rfl)) ?_
      refine E_aload_n 0 dX7_isFit_29 (q := 30) rfl rfl rfl ?_
      have hF8 : Has n 93 (mdB γ 93 m_thrown m_trace m_text m_typed m_next m_token m_place m_value m_fault m_many m_sees m_cold m_first m_told m_s z6 m_kept m_isKept m_undos m_undoMany m_foundMan m_foundHours m_foundIs m_foundMany m_row m_best) (put 93 (mdB γ 93 m_thrown m_trace m_text m_typed m_next m_token m_place m_value m_fault m_many m_sees m_cold m_first m_told m_s z6 m_kept m_isKept m_undos m_undoMany m_foundMan m_foundHours m_foundIs m_foundMany m_row m_best) h) := (has_put hn_m)
      refine E_get 15 dX7_isFit_30 (q := 33) rfl ckX7 (Nat.le_of_ble_eq_true rfl) fl_X7_28 (hF8.at 0 rfl) (hF8.lt 0 (Nat.le_of_ble_eq_true rfl)) rfl ?_
      refine E_iconst (x := 1) dX7_isFit_33 (q := 34) rfl (by decide) ?_
      refine E_iload_n 1 dX7_isFit_34 (q := 35) rfl rfl rfl ?_
      refine E_iadd dX7_isFit_35 (q := 36) rfl ?_
      refine E_iload_n 2 dX7_isFit_36 (q := 37) rfl rfl rfl ?_
      obtain ⟨g9, hf⟩ := gd hf
      refine E_iast dX7_isFit_37 (q := 38) rfl (hF8.at 7 rfl) (hF8.lt 7 (Nat.le_of_ble_eq_true rfl)) g9 (up_put (i := 7) (cs' := (mdB γ 93 m_thrown m_trace m_text m_typed m_next m_token m_place m_value m_fault m_many m_sees m_cold m_first m_told m_s (upd z6 (ci (1 + p1)) p2) m_kept m_isKept m_undos m_undoMany m_foundMan m_foundHours m_foundIs m_foundMany m_row m_best)) (Nat.le_of_ble_eq_true rfl) rfl) ?_
      refine E_iconst (x := 0) dX7_isFit_38 (q := 39) rfl (by decide) ?_
      refine E_istore [(5, .int 0), (0, .ref (gB γ + 93)), (1, .int p1), (2, .int p2), (3, .int v3), (4, .int v4)] dX7_isFit_39 (q := 41) rfl (Nat.le_of_ble_eq_true rfl) rfl ?_
      obtain ⟨t17, hxt17, hf⟩ := bnd hf
      refine E_sub [1, 2, 3, 4, 5, 0] rfl ?_
      refine L_X7_isFit_2 hn_m hxt17 ?_
      show Ev γ M_X7_isFit _ n (put 93 (mdB γ 93 m_thrown m_trace m_text m_typed m_next m_token m_place m_value m_fault m_many m_sees m_cold m_first m_told m_s t17 m_kept m_isKept m_undos m_undoMany m_foundMan m_foundHours m_foundIs m_foundMany m_row m_best) h) [(0, .ref (gB γ + 93)), (1, .int p1), (2, .int p2), (3, .int v3), (4, .int v4)] 64 [] _
      refine E_iload_n 3 dX7_isFit_64 (q := 65) rfl rfl rfl ?_
      refine E_if_eq dX7_isFit_65 (t := 98) (by decide) (q := 68) rfl (fun c19 => ?_) (fun c19 => ?_)
      · have hf := if_t c19 hf
        refine E_iconst (x := 0) dX7_isFit_98 (q := 99) rfl (by decide) ?_
        refine E_istore_n [(3, .int 0), (0, .ref (gB γ + 93)), (1, .int p1), (2, .int p2), (4, .int v4)] dX7_isFit_99 (q := 100) rfl rfl (Nat.le_of_ble_eq_true rfl) rfl ?_
        refine E_iinc 4 [(4, .int (v4 + 1)), (3, .int 0), (0, .ref (gB γ + 93)), (1, .int p1), (2, .int p2)] dX7_isFit_100 (q := 103) rfl rfl rfl (Nat.le_of_ble_eq_true rfl) rfl ?_
        refine E_goto (q := 5) dX7_isFit_103 (by decide) ?_
        exact E_sub [2, 3, 4, 1, 0] rfl (hP _ (Option.some.inj hf).symm)
      · have hf := if_f c19 hf
        refine E_aload_n 0 dX7_isFit_68 (q := 69) rfl rfl rfl ?_
        have hF20 : Has n 93 (mdB γ 93 m_thrown m_trace m_text m_typed m_next m_token m_place m_value m_fault m_many m_sees m_cold m_first m_told m_s t17 m_kept m_isKept m_undos m_undoMany m_foundMan m_foundHours m_foundIs m_foundMany m_row m_best) (put 93 (mdB γ 93 m_thrown m_trace m_text m_typed m_next m_token m_place m_value m_fault m_many m_sees m_cold m_first m_told m_s t17 m_kept m_isKept m_undos m_undoMany m_foundMan m_foundHours m_foundIs m_foundMany m_row m_best) h) := (has_put hn_m)
        refine E_get 15 dX7_isFit_69 (q := 72) rfl ckX7 (Nat.le_of_ble_eq_true rfl) fl_X7_28 (hF20.at 0 rfl) (hF20.lt 0 (Nat.le_of_ble_eq_true rfl)) rfl ?_
        refine E_iload_n 1 dX7_isFit_72 (q := 73) rfl rfl rfl ?_
        obtain ⟨z21, hxz21, hf⟩ := bnd hf
        refine E_cS (as := [.ref (gB γ + (93 + 7)), .int p1]) (rest := []) (u' := (0, 0)) (st' := [.int z21]) dX7_isFit_73 (q := 76) rfl lkm_X7_isAsleep lks_X7_131 (Nat.le_of_ble_eq_true rfl) ⟨Nat.le_refl _, Nat.le_refl _⟩ (Nat.le_of_ble_eq_true rfl) rfl rfl (m_X7_isAsleep_w (N := N)  hF20 hxz21) rfl rfl rfl ?_
        refine E_if_eq dX7_isFit_76 (t := 83) (by decide) (q := 79) rfl (fun c22 => ?_) (fun c22 => ?_)
        · have hf := if_t c22 hf
          refine E_iconst (x := 0) dX7_isFit_83 (q := 84) rfl (by decide) ?_
          refine E_aload_n 0 dX7_isFit_84 (q := 85) rfl rfl rfl ?_
          refine E_get 22 dX7_isFit_85 (q := 88) rfl ckX7 (Nat.le_of_ble_eq_true rfl) fl_X7_47 (hF20.at 0 rfl) (hF20.lt 0 (Nat.le_of_ble_eq_true rfl)) rfl ?_
          refine E_iload 4 dX7_isFit_88 (q := 90) rfl rfl ?_
          refine E_iald dX7_isFit_90 (q := 91) rfl (hF20.at 13 rfl) (hF20.lt 13 (Nat.le_of_ble_eq_true rfl)) g4 ?_
          refine E_icmp_ne dX7_isFit_91 (t := 98) (by decide) (q := 94) rfl (fun c23 => ?_) (fun c23 => ?_)
          · have hf := if_f c23 hf
            refine E_iconst (x := 0) dX7_isFit_98 (q := 99) rfl (by decide) ?_
            refine E_istore_n [(3, .int 0), (0, .ref (gB γ + 93)), (1, .int p1), (2, .int p2), (4, .int v4)] dX7_isFit_99 (q := 100) rfl rfl (Nat.le_of_ble_eq_true rfl) rfl ?_
            refine E_iinc 4 [(4, .int (v4 + 1)), (3, .int 0), (0, .ref (gB γ + 93)), (1, .int p1), (2, .int p2)] dX7_isFit_100 (q := 103) rfl rfl rfl (Nat.le_of_ble_eq_true rfl) rfl ?_
            refine E_goto (q := 5) dX7_isFit_103 (by decide) ?_
            exact E_sub [2, 3, 4, 1, 0] rfl (hP _ (Option.some.inj hf).symm)
          · have hf := if_t c23 hf
            refine E_iconst (x := 1) dX7_isFit_94 (q := 95) rfl (by decide) ?_
            refine E_goto (q := 99) dX7_isFit_95 (by decide) ?_
            refine E_istore_n [(3, .int 1), (0, .ref (gB γ + 93)), (1, .int p1), (2, .int p2), (4, .int v4)] dX7_isFit_99 (q := 100) rfl rfl (Nat.le_of_ble_eq_true rfl) rfl ?_
            refine E_iinc 4 [(4, .int (v4 + 1)), (3, .int 1), (0, .ref (gB γ + 93)), (1, .int p1), (2, .int p2)] dX7_isFit_100 (q := 103) rfl rfl rfl (Nat.le_of_ble_eq_true rfl) rfl ?_
            refine E_goto (q := 5) dX7_isFit_103 (by decide) ?_
            exact E_sub [2, 3, 4, 1, 0] rfl (hP _ (Option.some.inj hf).symm)
        · have hf := if_f c22 hf
          refine E_iconst (x := 1) dX7_isFit_79 (q := 80) rfl (by decide) ?_
          refine E_goto (q := 84) dX7_isFit_80 (by decide) ?_
          refine E_aload_n 0 dX7_isFit_84 (q := 85) rfl rfl rfl ?_
          refine E_get 22 dX7_isFit_85 (q := 88) rfl ckX7 (Nat.le_of_ble_eq_true rfl) fl_X7_47 (hF20.at 0 rfl) (hF20.lt 0 (Nat.le_of_ble_eq_true rfl)) rfl ?_
          refine E_iload 4 dX7_isFit_88 (q := 90) rfl rfl ?_
          refine E_iald dX7_isFit_90 (q := 91) rfl (hF20.at 13 rfl) (hF20.lt 13 (Nat.le_of_ble_eq_true rfl)) g4 ?_
          refine E_icmp_ne dX7_isFit_91 (t := 98) (by decide) (q := 94) rfl (fun c24 => ?_) (fun c24 => ?_)
          · have hf := if_f c24 hf
            refine E_iconst (x := 0) dX7_isFit_98 (q := 99) rfl (by decide) ?_
            refine E_istore_n [(3, .int 0), (0, .ref (gB γ + 93)), (1, .int p1), (2, .int p2), (4, .int v4)] dX7_isFit_99 (q := 100) rfl rfl (Nat.le_of_ble_eq_true rfl) rfl ?_
            refine E_iinc 4 [(4, .int (v4 + 1)), (3, .int 0), (0, .ref (gB γ + 93)), (1, .int p1), (2, .int p2)] dX7_isFit_100 (q := 103) rfl rfl rfl (Nat.le_of_ble_eq_true rfl) rfl ?_
            refine E_goto (q := 5) dX7_isFit_103 (by decide) ?_
            exact E_sub [2, 3, 4, 1, 0] rfl (hP _ (Option.some.inj hf).symm)
          · have hf := if_t c24 hf
            refine E_iconst (x := 1) dX7_isFit_94 (q := 95) rfl (by decide) ?_
            refine E_goto (q := 99) dX7_isFit_95 (by decide) ?_
            refine E_istore_n [(3, .int 1), (0, .ref (gB γ + 93)), (1, .int p1), (2, .int p2), (4, .int v4)] dX7_isFit_99 (q := 100) rfl rfl (Nat.le_of_ble_eq_true rfl) rfl ?_
            refine E_iinc 4 [(4, .int (v4 + 1)), (3, .int 1), (0, .ref (gB γ + 93)), (1, .int p1), (2, .int p2)] dX7_isFit_100 (q := 103) rfl rfl rfl (Nat.le_of_ble_eq_true rfl) rfl ?_
            refine E_goto (q := 5) dX7_isFit_103 (by decide) ?_
            exact E_sub [2, 3, 4, 1, 0] rfl (hP _ (Option.some.inj hf).symm)
set_option maxHeartbeats 4000000 in
set_option maxRecDepth 100000 in
theorem m_X7_isFit {γ : GX} {n : Nat} {N : Nat} {h : HP} {a1 : Int32} {a2 : Int32} {m_thrown : Int32} {m_trace : Int64} {m_text : FN} {m_typed : Int32} {m_next : Int32} {m_token : Int32} {m_place : Int32} {m_value : Int32} {m_fault : Int32} {m_many : FN} {m_sees : FN} {m_cold : FN} {m_first : FN} {m_told : Int32} {m_s : FN} {m_w : FN} {m_kept : FN} {m_isKept : FN} {m_undos : FN} {m_undoMany : Int32} {m_foundMan : FN} {m_foundHours : FN} {m_foundIs : FN} {m_foundMany : Int32} {m_row : FN} {m_best : FN} (hH_m : Has n 93 (mdB γ 93 m_thrown m_trace m_text m_typed m_next m_token m_place m_value m_fault m_many m_sees m_cold m_first m_told m_s m_w m_kept m_isKept m_undos m_undoMany m_foundMan m_foundHours m_foundIs m_foundMany m_row m_best) h) {z : Int32 × FN} (hf : f_X7_isFit N a1 a2 m_many m_cold m_s m_w m_foundMan m_foundHours m_foundIs m_foundMany = some z)  : Ct γ M_X7_isFit n h [.ref (gB γ + 93), .int a1, .int a2] (Done (some (.int z.1)) n (put 93 (mdB γ 93 m_thrown m_trace m_text m_typed m_next m_token m_place m_value m_fault m_many m_sees m_cold m_first m_told m_s z.2 m_kept m_isKept m_undos m_undoMany m_foundMan m_foundHours m_foundIs m_foundMany m_row m_best) h)) := by
  have hn_m : 93 + 16 ≤ n := hH_m.1
  refine Ct.heap (h := (put 93 (mdB γ 93 m_thrown m_trace m_text m_typed m_next m_token m_place m_value m_fault m_many m_sees m_cold m_first m_told m_s m_w m_kept m_isKept m_undos m_undoMany m_foundMan m_foundHours m_foundIs m_foundMany m_row m_best) h)) (put_self hH_m).symm ?_
  refine Ct_of_Ev (by decide) (fun h => by cases h) (Nat.le_of_ble_eq_true rfl) ?_
  show Ev γ M_X7_isFit (0, 0) n (put 93 (mdB γ 93 m_thrown m_trace m_text m_typed m_next m_token m_place m_value m_fault m_many m_sees m_cold m_first m_told m_s m_w m_kept m_isKept m_undos m_undoMany m_foundMan m_foundHours m_foundIs m_foundMany m_row m_best) h) [(0, .ref (gB γ + 93)), (1, .int a1), (2, .int a2)] 0 [] _
  unfold f_X7_isFit at hf
  refine E_iconst (x := 1) dX7_isFit_0 (q := 1) rfl (by decide) ?_
  refine E_istore_n [(3, .int 1), (0, .ref (gB γ + 93)), (1, .int a1), (2, .int a2)] dX7_isFit_1 (q := 2) rfl rfl (Nat.le_of_ble_eq_true rfl) rfl ?_
  refine E_iconst (x := 0) dX7_isFit_2 (q := 3) rfl (by decide) ?_
  refine E_istore [(4, .int 0), (3, .int 1), (0, .ref (gB γ + 93)), (1, .int a1), (2, .int a2)] dX7_isFit_3 (q := 5) rfl (Nat.le_of_ble_eq_true rfl) rfl ?_
  obtain ⟨t25, hxt25, hf⟩ := bnd hf
  refine E_sub [2, 3, 4, 1, 0] rfl ?_
  refine L_X7_isFit_1 hn_m hxt25 ?_
  show Ev γ M_X7_isFit _ n (put 93 (mdB γ 93 m_thrown m_trace m_text m_typed m_next m_token m_place m_value m_fault m_many m_sees m_cold m_first m_told m_s t25.2 m_kept m_isKept m_undos m_undoMany m_foundMan m_foundHours m_foundIs m_foundMany m_row m_best) h) [(3, .int t25.1)] 106 [] _
  refine E_iload_n 0 dX7_isFit_106 (q := 107) rfl rfl rfl ?_
  obtain ⟨g27, hf⟩ := gd hf
  obtain rfl := Option.some.inj hf
  exact E_zret dX7_isFit_107 rfl g27 ⟨rfl, rfl, rfl⟩

-- PostReliefModel.fits(II)I
def b_X7_fits_1 (N : Nat) (p1 : Int32) (p2 : Int32) (m_many : FN) (m_cold : FN) (m_s : FN) (m_foundMan : FN) (m_foundHours : FN) (m_foundIs : FN) (m_foundMany : Int32) (v3 : Int32) (v4 : Int32) (v5 : Int32) (m_w : FN) : Option ((Int32 × Int32 × Int32 × FN) ⊕ (Int32 × Int32 × FN)) :=
  (if 60 < v5 then some (.inr (v3, v4, m_w)) else ((f_X7_isFit N p1 v5 m_many m_cold m_s m_w m_foundMan m_foundHours m_foundIs m_foundMany).bind fun z10 => (if z10.1 = 0 then some (.inl (v3, v4, (v5 + 1), z10.2)) else (if v3 = 0 then some (.inl ((v3 + 1), v5, (v5 + 1), z10.2)) else some (.inl ((v3 + 1), v4, (v5 + 1), z10.2))))))
def f_X7_fits (N : Nat) (a1 : Int32) (a2 : Int32) (m_thrown : Int32) (m_many : FN) (m_cold : FN) (m_s : FN) (m_w : FN) (m_foundMan : FN) (m_foundHours : FN) (m_foundIs : FN) (m_foundMany : Int32) : Option (Int32 × Int32 × FN) :=
  ((f_X7_isMan N a1 m_many).bind fun z3 => (if z3 = 0 then some ((-1), 0, m_w) else ((f_X7_in N a2 0 1).bind fun z6 => (if z6 = 0 then some ((-1), 0, m_w) else ((lp (fun s => b_X7_fits_1 N a1 a2 m_many m_cold m_s m_foundMan m_foundHours m_foundIs m_foundMany s.1 s.2.1 s.2.2.1 s.2.2.2) N (0, (-9), 0, m_w)).bind fun t15 => (if a2 = 0 then some (t15.1, 0, t15.2.2) else some (t15.2.1, 0, t15.2.2)))))))
set_option maxHeartbeats 4000000 in
set_option maxRecDepth 100000 in
theorem L_X7_fits_1 {γ : GX} {n : Nat} {h : HP} {Ψ : PS} {N : Nat} {p1 : Int32} {p2 : Int32} {m_thrown : Int32} {m_trace : Int64} {m_text : FN} {m_typed : Int32} {m_next : Int32} {m_token : Int32} {m_place : Int32} {m_value : Int32} {m_fault : Int32} {m_many : FN} {m_sees : FN} {m_cold : FN} {m_first : FN} {m_told : Int32} {m_s : FN} {m_kept : FN} {m_isKept : FN} {m_undos : FN} {m_undoMany : Int32} {m_foundMan : FN} {m_foundHours : FN} {m_foundIs : FN} {m_foundMany : Int32} {m_row : FN} {m_best : FN} (hn_m : 93 + 16 ≤ n) {s0 : Int32 × Int32 × Int32 × FN} {t : Int32 × Int32 × FN} (hf : lp (fun s => b_X7_fits_1 N p1 p2 m_many m_cold m_s m_foundMan m_foundHours m_foundIs m_foundMany s.1 s.2.1 s.2.2.1 s.2.2.2) N s0 = some t) (K : Ev γ M_X7_fits (0, 0) n (put 93 (mdB γ 93 m_thrown m_trace m_text m_typed m_next m_token m_place m_value m_fault m_many m_sees m_cold m_first m_told m_s t.2.2 m_kept m_isKept m_undos m_undoMany m_foundMan m_foundHours m_foundIs m_foundMany m_row m_best) h) [(2, .int p2), (3, .int t.1), (4, .int t.2.1)] 72 [] Ψ) : Ev γ M_X7_fits (0, 0) n (put 93 (mdB γ 93 m_thrown m_trace m_text m_typed m_next m_token m_place m_value m_fault m_many m_sees m_cold m_first m_told m_s s0.2.2.2 m_kept m_isKept m_undos m_undoMany m_foundMan m_foundHours m_foundIs m_foundMany m_row m_best) h) [(0, .ref (gB γ + 93)), (1, .int p1), (2, .int p2), (3, .int s0.1), (4, .int s0.2.1), (5, .int s0.2.2.1)] 33 [] Ψ := by
  refine E_lp (P := fun s => Ev γ M_X7_fits (0, 0) n (put 93 (mdB γ 93 m_thrown m_trace m_text m_typed m_next m_token m_place m_value m_fault m_many m_sees m_cold m_first m_told m_s s.2.2.2 m_kept m_isKept m_undos m_undoMany m_foundMan m_foundHours m_foundIs m_foundMany m_row m_best) h) [(0, .ref (gB γ + 93)), (1, .int p1), (2, .int p2), (3, .int s.1), (4, .int s.2.1), (5, .int s.2.2.1)] 33 [] Ψ) (K := fun t => Ev γ M_X7_fits (0, 0) n (put 93 (mdB γ 93 m_thrown m_trace m_text m_typed m_next m_token m_place m_value m_fault m_many m_sees m_cold m_first m_told m_s t.2.2 m_kept m_isKept m_undos m_undoMany m_foundMan m_foundHours m_foundIs m_foundMany m_row m_best) h) [(2, .int p2), (3, .int t.1), (4, .int t.2.1)] 72 [] Ψ) ?_ N s0 t hf K
  intro s r hf hP hK
  obtain ⟨v3, v4, v5, m_w⟩ := s
  change b_X7_fits_1 N p1 p2 m_many m_cold m_s m_foundMan m_foundHours m_foundIs m_foundMany v3 v4 v5 m_w = some r at hf
  unfold b_X7_fits_1 at hf
  show Ev γ M_X7_fits (0, 0) n (put 93 (mdB γ 93 m_thrown m_trace m_text m_typed m_next m_token m_place m_value m_fault m_many m_sees m_cold m_first m_told m_s m_w m_kept m_isKept m_undos m_undoMany m_foundMan m_foundHours m_foundIs m_foundMany m_row m_best) h) [(0, .ref (gB γ + 93)), (1, .int p1), (2, .int p2), (3, .int v3), (4, .int v4), (5, .int v5)] 33 [] Ψ
  refine E_iload 5 dX7_fits_33 (q := 35) rfl rfl ?_
  refine E_bipush (x := 60) dX7_fits_35 (q := 37) rfl (by decide) ?_
  refine E_icmp_gt dX7_fits_37 (t := 72) (by decide) (q := 40) rfl (fun c9 => ?_) (fun c9 => ?_)
  · have hf := if_t c9 hf
    exact E_sub [2, 3, 4] rfl (hK _ (Option.some.inj hf).symm)
  · have hf := if_f c9 hf
    refine E_aload_n 0 dX7_fits_40 (q := 41) rfl rfl rfl ?_
    refine E_iload_n 1 dX7_fits_41 (q := 42) rfl rfl rfl ?_
    refine E_iload 5 dX7_fits_42 (q := 44) rfl rfl ?_
    obtain ⟨z10, hxz10, hf⟩ := bnd hf
    have hF11 : Has n 93 (mdB γ 93 m_thrown m_trace m_text m_typed m_next m_token m_place m_value m_fault m_many m_sees m_cold m_first m_told m_s m_w m_kept m_isKept m_undos m_undoMany m_foundMan m_foundHours m_foundIs m_foundMany m_row m_best) (put 93 (mdB γ 93 m_thrown m_trace m_text m_typed m_next m_token m_place m_value m_fault m_many m_sees m_cold m_first m_told m_s m_w m_kept m_isKept m_undos m_undoMany m_foundMan m_foundHours m_foundIs m_foundMany m_row m_best) h) := (has_put hn_m)
    refine E_cV (as := [.int p1, .int v5]) (k := 93) (rest := []) (u' := (0, 0)) (st' := [.int z10.1]) dX7_fits_44 (q := 47) rfl lkm_X7_isFit lkv_X7_195 (Nat.le_of_ble_eq_true rfl) ckX7 (hF11.at 0 rfl) (hF11.lt 0 (Nat.le_of_ble_eq_true rfl)) ⟨Nat.le_refl _, Nat.le_refl _⟩ (Nat.le_of_ble_eq_true rfl) rfl rfl (m_X7_isFit (N := N)  hF11 hxz10) rfl rfl rfl ?_
    refine Ev.heap (put_put (k := 93) (cs := (mdB γ 93 m_thrown m_trace m_text m_typed m_next m_token m_place m_value m_fault m_many m_sees m_cold m_first m_told m_s m_w m_kept m_isKept m_undos m_undoMany m_foundMan m_foundHours m_foundIs m_foundMany m_row m_best)) (cs' := (mdB γ 93 m_thrown m_trace m_text m_typed m_next m_token m_place m_value m_fault m_many m_sees m_cold m_first m_told m_s z10.2 m_kept m_isKept m_undos m_undoMany m_foundMan m_foundHours m_foundIs m_foundMany m_row m_best)) (show (16 : Nat) = 16 from rfl)) ?_
    refine E_if_eq dX7_fits_47 (t := 66) (by decide) (q := 50) rfl (fun c13 => ?_) (fun c13 => ?_)
    · have hf := if_t c13 hf
      refine E_iinc 5 [(5, .int (v5 + 1)), (0, .ref (gB γ + 93)), (1, .int p1), (2, .int p2), (3, .int v3), (4, .int v4)] dX7_fits_66 (q := 69) rfl rfl rfl (Nat.le_of_ble_eq_true rfl) rfl ?_
      refine E_goto (q := 33) dX7_fits_69 (by decide) ?_
      exact E_sub [1, 2, 3, 4, 5, 0] rfl (hP _ (Option.some.inj hf).symm)
    · have hf := if_f c13 hf
      refine E_iload_n 3 dX7_fits_50 (q := 51) rfl rfl rfl ?_
      refine E_if_ne dX7_fits_51 (t := 59) (by decide) (q := 54) rfl (fun c14 => ?_) (fun c14 => ?_)
      · have hf := if_f c14 hf
        refine E_iload 4 dX7_fits_59 (q := 61) rfl rfl ?_
        refine E_istore [(4, .int v4), (0, .ref (gB γ + 93)), (1, .int p1), (2, .int p2), (3, .int v3), (5, .int v5)] dX7_fits_61 (q := 63) rfl (Nat.le_of_ble_eq_true rfl) rfl ?_
        refine E_iinc 4 [(3, .int (v3 + 1)), (4, .int v4), (0, .ref (gB γ + 93)), (1, .int p1), (2, .int p2), (5, .int v5)] dX7_fits_63 (q := 66) rfl rfl rfl (Nat.le_of_ble_eq_true rfl) rfl ?_
        refine E_iinc 5 [(5, .int (v5 + 1)), (3, .int (v3 + 1)), (4, .int v4), (0, .ref (gB γ + 93)), (1, .int p1), (2, .int p2)] dX7_fits_66 (q := 69) rfl rfl rfl (Nat.le_of_ble_eq_true rfl) rfl ?_
        refine E_goto (q := 33) dX7_fits_69 (by decide) ?_
        exact E_sub [3, 4, 5, 1, 2, 0] rfl (hP _ (Option.some.inj hf).symm)
      · have hf := if_t c14 hf
        refine E_iload 5 dX7_fits_54 (q := 56) rfl rfl ?_
        refine E_goto (q := 61) dX7_fits_56 (by decide) ?_
        refine E_istore [(4, .int v5), (0, .ref (gB γ + 93)), (1, .int p1), (2, .int p2), (3, .int v3), (5, .int v5)] dX7_fits_61 (q := 63) rfl (Nat.le_of_ble_eq_true rfl) rfl ?_
        refine E_iinc 4 [(3, .int (v3 + 1)), (4, .int v5), (0, .ref (gB γ + 93)), (1, .int p1), (2, .int p2), (5, .int v5)] dX7_fits_63 (q := 66) rfl rfl rfl (Nat.le_of_ble_eq_true rfl) rfl ?_
        refine E_iinc 5 [(5, .int (v5 + 1)), (3, .int (v3 + 1)), (4, .int v5), (0, .ref (gB γ + 93)), (1, .int p1), (2, .int p2)] dX7_fits_66 (q := 69) rfl rfl rfl (Nat.le_of_ble_eq_true rfl) rfl ?_
        refine E_goto (q := 33) dX7_fits_69 (by decide) ?_
        exact E_sub [3, 4, 5, 1, 2, 0] rfl (hP _ (Option.some.inj hf).symm)
set_option maxHeartbeats 4000000 in
set_option maxRecDepth 100000 in
theorem m_X7_fits {γ : GX} {n : Nat} {N : Nat} {h : HP} {a1 : Int32} {a2 : Int32} {m_thrown : Int32} {m_trace : Int64} {m_text : FN} {m_typed : Int32} {m_next : Int32} {m_token : Int32} {m_place : Int32} {m_value : Int32} {m_fault : Int32} {m_many : FN} {m_sees : FN} {m_cold : FN} {m_first : FN} {m_told : Int32} {m_s : FN} {m_w : FN} {m_kept : FN} {m_isKept : FN} {m_undos : FN} {m_undoMany : Int32} {m_foundMan : FN} {m_foundHours : FN} {m_foundIs : FN} {m_foundMany : Int32} {m_row : FN} {m_best : FN} (hH_m : Has n 93 (mdB γ 93 m_thrown m_trace m_text m_typed m_next m_token m_place m_value m_fault m_many m_sees m_cold m_first m_told m_s m_w m_kept m_isKept m_undos m_undoMany m_foundMan m_foundHours m_foundIs m_foundMany m_row m_best) h) {z : Int32 × Int32 × FN} (hf : f_X7_fits N a1 a2 m_thrown m_many m_cold m_s m_w m_foundMan m_foundHours m_foundIs m_foundMany = some z)  : Ct γ M_X7_fits n h [.ref (gB γ + 93), .int a1, .int a2] (Done (some (.int z.1)) n (put 93 (mdB γ 93 z.2.1 m_trace m_text m_typed m_next m_token m_place m_value m_fault m_many m_sees m_cold m_first m_told m_s z.2.2 m_kept m_isKept m_undos m_undoMany m_foundMan m_foundHours m_foundIs m_foundMany m_row m_best) h)) := by
  have hn_m : 93 + 16 ≤ n := hH_m.1
  refine Ct.heap (h := (put 93 (mdB γ 93 m_thrown m_trace m_text m_typed m_next m_token m_place m_value m_fault m_many m_sees m_cold m_first m_told m_s m_w m_kept m_isKept m_undos m_undoMany m_foundMan m_foundHours m_foundIs m_foundMany m_row m_best) h)) (put_self hH_m).symm ?_
  refine Ct_of_Ev (by decide) (fun h => by cases h) (Nat.le_of_ble_eq_true rfl) ?_
  show Ev γ M_X7_fits (0, 0) n (put 93 (mdB γ 93 m_thrown m_trace m_text m_typed m_next m_token m_place m_value m_fault m_many m_sees m_cold m_first m_told m_s m_w m_kept m_isKept m_undos m_undoMany m_foundMan m_foundHours m_foundIs m_foundMany m_row m_best) h) [(0, .ref (gB γ + 93)), (1, .int a1), (2, .int a2)] 0 [] _
  unfold f_X7_fits at hf
  refine E_aload_n 0 dX7_fits_0 (q := 1) rfl rfl rfl ?_
  refine E_iconst (x := 0) dX7_fits_1 (q := 2) rfl (by decide) ?_
  have hF1 : Has n 93 (mdB γ 93 m_thrown m_trace m_text m_typed m_next m_token m_place m_value m_fault m_many m_sees m_cold m_first m_told m_s m_w m_kept m_isKept m_undos m_undoMany m_foundMan m_foundHours m_foundIs m_foundMany m_row m_best) (put 93 (mdB γ 93 m_thrown m_trace m_text m_typed m_next m_token m_place m_value m_fault m_many m_sees m_cold m_first m_told m_s m_w m_kept m_isKept m_undos m_undoMany m_foundMan m_foundHours m_foundIs m_foundMany m_row m_best) h) := (has_put hn_m)
  refine E_put 0 dX7_fits_2 (q := 5) rfl ckX7 (Nat.le_of_ble_eq_true rfl) fl_X7_56 rfl rfl rfl (hF1.at 0 rfl) (hF1.lt 0 (Nat.le_of_ble_eq_true rfl)) (Nat.le_of_ble_eq_true rfl) (up_put (i := 0) (cs' := (mdB γ 93 0 m_trace m_text m_typed m_next m_token m_place m_value m_fault m_many m_sees m_cold m_first m_told m_s m_w m_kept m_isKept m_undos m_undoMany m_foundMan m_foundHours m_foundIs m_foundMany m_row m_best)) (Nat.le_of_ble_eq_true rfl) rfl) ?_
  refine E_aload_n 0 dX7_fits_5 (q := 6) rfl rfl rfl ?_
  refine E_iload_n 1 dX7_fits_6 (q := 7) rfl rfl rfl ?_
  obtain ⟨z3, hxz3, hf⟩ := bnd hf
  have hF4 : Has n 93 (mdB γ 93 0 m_trace m_text m_typed m_next m_token m_place m_value m_fault m_many m_sees m_cold m_first m_told m_s m_w m_kept m_isKept m_undos m_undoMany m_foundMan m_foundHours m_foundIs m_foundMany m_row m_best) (put 93 (mdB γ 93 0 m_trace m_text m_typed m_next m_token m_place m_value m_fault m_many m_sees m_cold m_first m_told m_s m_w m_kept m_isKept m_undos m_undoMany m_foundMan m_foundHours m_foundIs m_foundMany m_row m_best) h) := (has_put hn_m)
  refine E_cV (as := [.int a1]) (k := 93) (rest := []) (u' := (0, 0)) (st' := [.int z3]) dX7_fits_7 (q := 10) rfl lkm_X7_isMan lkv_X7_128 (Nat.le_of_ble_eq_true rfl) ckX7 (hF4.at 0 rfl) (hF4.lt 0 (Nat.le_of_ble_eq_true rfl)) ⟨Nat.le_refl _, Nat.le_refl _⟩ (Nat.le_of_ble_eq_true rfl) rfl rfl (m_X7_isMan (N := N)  hF4 hxz3) rfl rfl rfl ?_
  refine E_if_eq dX7_fits_10 (t := 22) (by decide) (q := 13) rfl (fun c5 => ?_) (fun c5 => ?_)
  · have hf := if_t c5 hf
    refine E_iconst (x := (-1)) dX7_fits_22 (q := 23) rfl (by decide) ?_
    obtain rfl := Option.some.inj hf
    exact E_iret dX7_fits_23 rfl ⟨rfl, rfl, rfl⟩
  · have hf := if_f c5 hf
    refine E_iload_n 2 dX7_fits_13 (q := 14) rfl rfl rfl ?_
    refine E_iconst (x := 0) dX7_fits_14 (q := 15) rfl (by decide) ?_
    refine E_iconst (x := 1) dX7_fits_15 (q := 16) rfl (by decide) ?_
    obtain ⟨z6, hxz6, hf⟩ := bnd hf
    refine E_cS (as := [.int a2, .int 0, .int 1]) (rest := []) (u' := (0, 0)) (st' := [.int z6]) dX7_fits_16 (q := 19) rfl lkm_X7_in lks_X7_60 (Nat.le_of_ble_eq_true rfl) ⟨Nat.le_refl _, Nat.le_refl _⟩ (Nat.le_of_ble_eq_true rfl) rfl rfl (m_X7_in (N := N)  hxz6) rfl rfl rfl ?_
    refine E_if_ne dX7_fits_19 (t := 24) (by decide) (q := 22) rfl (fun c7 => ?_) (fun c7 => ?_)
    · have hf := if_f c7 hf
      refine E_iconst (x := 0) dX7_fits_24 (q := 25) rfl (by decide) ?_
      refine E_istore_n [(3, .int 0), (0, .ref (gB γ + 93)), (1, .int a1), (2, .int a2)] dX7_fits_25 (q := 26) rfl rfl (Nat.le_of_ble_eq_true rfl) rfl ?_
      refine E_bipush (x := (-9)) dX7_fits_26 (q := 28) rfl (by decide) ?_
      refine E_istore [(4, .int (-9)), (3, .int 0), (0, .ref (gB γ + 93)), (1, .int a1), (2, .int a2)] dX7_fits_28 (q := 30) rfl (Nat.le_of_ble_eq_true rfl) rfl ?_
      refine E_iconst (x := 0) dX7_fits_30 (q := 31) rfl (by decide) ?_
      refine E_istore [(5, .int 0), (4, .int (-9)), (3, .int 0), (0, .ref (gB γ + 93)), (1, .int a1), (2, .int a2)] dX7_fits_31 (q := 33) rfl (Nat.le_of_ble_eq_true rfl) rfl ?_
      obtain ⟨t15, hxt15, hf⟩ := bnd hf
      refine E_sub [3, 4, 5, 2, 1, 0] rfl ?_
      refine L_X7_fits_1 hn_m hxt15 ?_
      show Ev γ M_X7_fits _ n (put 93 (mdB γ 93 0 m_trace m_text m_typed m_next m_token m_place m_value m_fault m_many m_sees m_cold m_first m_told m_s t15.2.2 m_kept m_isKept m_undos m_undoMany m_foundMan m_foundHours m_foundIs m_foundMany m_row m_best) h) [(2, .int a2), (3, .int t15.1), (4, .int t15.2.1)] 72 [] _
      refine E_iload_n 0 dX7_fits_72 (q := 73) rfl rfl rfl ?_
      refine E_if_ne dX7_fits_73 (t := 80) (by decide) (q := 76) rfl (fun c17 => ?_) (fun c17 => ?_)
      · have hf := if_f c17 hf
        refine E_iload 2 dX7_fits_80 (q := 82) rfl rfl ?_
        obtain rfl := Option.some.inj hf
        exact E_iret dX7_fits_82 rfl ⟨rfl, rfl, rfl⟩
      · have hf := if_t c17 hf
        refine E_iload_n 1 dX7_fits_76 (q := 77) rfl rfl rfl ?_
        refine E_goto (q := 82) dX7_fits_77 (by decide) ?_
        obtain rfl := Option.some.inj hf
        exact E_iret dX7_fits_82 rfl ⟨rfl, rfl, rfl⟩
    · have hf := if_t c7 hf
      refine E_iconst (x := (-1)) dX7_fits_22 (q := 23) rfl (by decide) ?_
      obtain rfl := Option.some.inj hf
      exact E_iret dX7_fits_23 rfl ⟨rfl, rfl, rfl⟩

-- PostReliefModel.had(II)I
def f_X7_had (N : Nat) (a1 : Int32) (a2 : Int32) (m_thrown : Int32) (m_many : FN) (m_s : FN) : Option (Int32 × Int32) :=
  ((f_X7_isMan N a1 m_many).bind fun z3 => (if z3 = 0 then some ((-1), 0) else ((f_X7_isPost N a2 m_many).bind fun z6 => (if z6 = 0 then some ((-1), 0) else (if ix ((18 + (5 * a1)) + a2) 48 = true then some ((m_s (ci ((18 + (5 * a1)) + a2))), 0) else none)))))
set_option maxHeartbeats 4000000 in
set_option maxRecDepth 100000 in
theorem m_X7_had {γ : GX} {n : Nat} {N : Nat} {h : HP} {a1 : Int32} {a2 : Int32} {m_thrown : Int32} {m_trace : Int64} {m_text : FN} {m_typed : Int32} {m_next : Int32} {m_token : Int32} {m_place : Int32} {m_value : Int32} {m_fault : Int32} {m_many : FN} {m_sees : FN} {m_cold : FN} {m_first : FN} {m_told : Int32} {m_s : FN} {m_w : FN} {m_kept : FN} {m_isKept : FN} {m_undos : FN} {m_undoMany : Int32} {m_foundMan : FN} {m_foundHours : FN} {m_foundIs : FN} {m_foundMany : Int32} {m_row : FN} {m_best : FN} (hH_m : Has n 93 (mdB γ 93 m_thrown m_trace m_text m_typed m_next m_token m_place m_value m_fault m_many m_sees m_cold m_first m_told m_s m_w m_kept m_isKept m_undos m_undoMany m_foundMan m_foundHours m_foundIs m_foundMany m_row m_best) h) {z : Int32 × Int32} (hf : f_X7_had N a1 a2 m_thrown m_many m_s = some z)  : Ct γ M_X7_had n h [.ref (gB γ + 93), .int a1, .int a2] (Done (some (.int z.1)) n (put 93 (mdB γ 93 z.2 m_trace m_text m_typed m_next m_token m_place m_value m_fault m_many m_sees m_cold m_first m_told m_s m_w m_kept m_isKept m_undos m_undoMany m_foundMan m_foundHours m_foundIs m_foundMany m_row m_best) h)) := by
  have hn_m : 93 + 16 ≤ n := hH_m.1
  refine Ct.heap (h := (put 93 (mdB γ 93 m_thrown m_trace m_text m_typed m_next m_token m_place m_value m_fault m_many m_sees m_cold m_first m_told m_s m_w m_kept m_isKept m_undos m_undoMany m_foundMan m_foundHours m_foundIs m_foundMany m_row m_best) h)) (put_self hH_m).symm ?_
  refine Ct_of_Ev (by decide) (fun h => by cases h) (Nat.le_of_ble_eq_true rfl) ?_
  show Ev γ M_X7_had (0, 0) n (put 93 (mdB γ 93 m_thrown m_trace m_text m_typed m_next m_token m_place m_value m_fault m_many m_sees m_cold m_first m_told m_s m_w m_kept m_isKept m_undos m_undoMany m_foundMan m_foundHours m_foundIs m_foundMany m_row m_best) h) [(0, .ref (gB γ + 93)), (1, .int a1), (2, .int a2)] 0 [] _
  unfold f_X7_had at hf
  refine E_aload_n 0 dX7_had_0 (q := 1) rfl rfl rfl ?_
  refine E_iconst (x := 0) dX7_had_1 (q := 2) rfl (by decide) ?_
  have hF1 : Has n 93 (mdB γ 93 m_thrown m_trace m_text m_typed m_next m_token m_place m_value m_fault m_many m_sees m_cold m_first m_told m_s m_w m_kept m_isKept m_undos m_undoMany m_foundMan m_foundHours m_foundIs m_foundMany m_row m_best) (put 93 (mdB γ 93 m_thrown m_trace m_text m_typed m_next m_token m_place m_value m_fault m_many m_sees m_cold m_first m_told m_s m_w m_kept m_isKept m_undos m_undoMany m_foundMan m_foundHours m_foundIs m_foundMany m_row m_best) h) := (has_put hn_m)
  refine E_put 0 dX7_had_2 (q := 5) rfl ckX7 (Nat.le_of_ble_eq_true rfl) fl_X7_56 rfl rfl rfl (hF1.at 0 rfl) (hF1.lt 0 (Nat.le_of_ble_eq_true rfl)) (Nat.le_of_ble_eq_true rfl) (up_put (i := 0) (cs' := (mdB γ 93 0 m_trace m_text m_typed m_next m_token m_place m_value m_fault m_many m_sees m_cold m_first m_told m_s m_w m_kept m_isKept m_undos m_undoMany m_foundMan m_foundHours m_foundIs m_foundMany m_row m_best)) (Nat.le_of_ble_eq_true rfl) rfl) ?_
  refine E_aload_n 0 dX7_had_5 (q := 6) rfl rfl rfl ?_
  refine E_iload_n 1 dX7_had_6 (q := 7) rfl rfl rfl ?_
  obtain ⟨z3, hxz3, hf⟩ := bnd hf
  have hF4 : Has n 93 (mdB γ 93 0 m_trace m_text m_typed m_next m_token m_place m_value m_fault m_many m_sees m_cold m_first m_told m_s m_w m_kept m_isKept m_undos m_undoMany m_foundMan m_foundHours m_foundIs m_foundMany m_row m_best) (put 93 (mdB γ 93 0 m_trace m_text m_typed m_next m_token m_place m_value m_fault m_many m_sees m_cold m_first m_told m_s m_w m_kept m_isKept m_undos m_undoMany m_foundMan m_foundHours m_foundIs m_foundMany m_row m_best) h) := (has_put hn_m)
  refine E_cV (as := [.int a1]) (k := 93) (rest := []) (u' := (0, 0)) (st' := [.int z3]) dX7_had_7 (q := 10) rfl lkm_X7_isMan lkv_X7_128 (Nat.le_of_ble_eq_true rfl) ckX7 (hF4.at 0 rfl) (hF4.lt 0 (Nat.le_of_ble_eq_true rfl)) ⟨Nat.le_refl _, Nat.le_refl _⟩ (Nat.le_of_ble_eq_true rfl) rfl rfl (m_X7_isMan (N := N)  hF4 hxz3) rfl rfl rfl ?_
  refine E_if_eq dX7_had_10 (t := 37) (by decide) (q := 13) rfl (fun c5 => ?_) (fun c5 => ?_)
  · have hf := if_t c5 hf
    refine E_iconst (x := (-1)) dX7_had_37 (q := 38) rfl (by decide) ?_
    obtain rfl := Option.some.inj hf
    exact E_iret dX7_had_38 rfl ⟨rfl, rfl, rfl⟩
  · have hf := if_f c5 hf
    refine E_aload_n 0 dX7_had_13 (q := 14) rfl rfl rfl ?_
    refine E_iload_n 2 dX7_had_14 (q := 15) rfl rfl rfl ?_
    obtain ⟨z6, hxz6, hf⟩ := bnd hf
    refine E_cV (as := [.int a2]) (k := 93) (rest := []) (u' := (0, 0)) (st' := [.int z6]) dX7_had_15 (q := 18) rfl lkm_X7_isPost lkv_X7_120 (Nat.le_of_ble_eq_true rfl) ckX7 (hF4.at 0 rfl) (hF4.lt 0 (Nat.le_of_ble_eq_true rfl)) ⟨Nat.le_refl _, Nat.le_refl _⟩ (Nat.le_of_ble_eq_true rfl) rfl rfl (m_X7_isPost (N := N)  hF4 hxz6) rfl rfl rfl ?_
    refine E_if_eq dX7_had_18 (t := 37) (by decide) (q := 21) rfl (fun c7 => ?_) (fun c7 => ?_)
    · have hf := if_t c7 hf
      refine E_iconst (x := (-1)) dX7_had_37 (q := 38) rfl (by decide) ?_
      obtain rfl := Option.some.inj hf
      exact E_iret dX7_had_38 rfl ⟨rfl, rfl, rfl⟩
    · have hf := if_f c7 hf
      refine E_aload_n 0 dX7_had_21 (q := 22) rfl rfl rfl ?_
      refine E_get 14 dX7_had_22 (q := 25) rfl ckX7 (Nat.le_of_ble_eq_true rfl) fl_X7_25 (hF4.at 0 rfl) (hF4.lt 0 (Nat.le_of_ble_eq_true rfl)) rfl ?_
      refine E_bipush (x := 18) dX7_had_25 (q := 27) rfl (by decide) ?_
      refine E_iconst (x := 5) dX7_had_27 (q := 28) rfl (by decide) ?_
      refine E_iload_n 1 dX7_had_28 (q := 29) rfl rfl rfl ?_
      refine E_imul dX7_had_29 (q := 30) rfl ?_
      refine E_iadd dX7_had_30 (q := 31) rfl ?_
      refine E_iload_n 2 dX7_had_31 (q := 32) rfl rfl rfl ?_
      refine E_iadd dX7_had_32 (q := 33) rfl ?_
      obtain ⟨g8, hf⟩ := gd hf
      refine E_iald dX7_had_33 (q := 34) rfl (hF4.at 6 rfl) (hF4.lt 6 (Nat.le_of_ble_eq_true rfl)) g8 ?_
      refine E_goto (q := 38) dX7_had_34 (by decide) ?_
      obtain rfl := Option.some.inj hf
      exact E_iret dX7_had_38 rfl ⟨rfl, rfl, rfl⟩

-- PostReliefModel.fair()I
def b_X7_fair_2 (N : Nat) (p1 : Int32) (p2 : Int32) (p3 : Int32) (m_many : FN) (m_cold : FN) (m_s : FN) (v4 : Int32) (v5 : Int32) : Option ((Int32 × Int32) ⊕ (Int32)) :=
  (if (m_many (ci 0)) ≤ v5 then some (.inr v4) else (if ix v5 10 = true then (if ix ((18 + (5 * p3)) + v5) 48 = true then some (.inl ((v4 + ((m_cold (ci v5)) * (m_s (ci ((18 + (5 * p3)) + v5))))), (v5 + 1))) else none) else none))
def b_X7_fair_1 (N : Nat) (m_many : FN) (m_cold : FN) (m_s : FN) (v1 : Int32) (v2 : Int32) (v3 : Int32) : Option ((Int32 × Int32 × Int32) ⊕ (Int32 × Int32)) :=
  (if (m_many (ci 1)) ≤ v3 then some (.inr (v1, v2)) else ((lp (fun s => b_X7_fair_2 N v1 v2 v3 m_many m_cold m_s s.1 s.2) N (0, 0)).bind fun t13 => (if t13 ≤ v1 then (if v2 ≤ t13 then some (.inl (v1, v2, (v3 + 1))) else some (.inl (v1, t13, (v3 + 1)))) else (if v2 ≤ t13 then some (.inl (t13, v2, (v3 + 1))) else some (.inl (t13, t13, (v3 + 1)))))))
def b_X7_fair_4 (N : Nat) (p1 : Int32) (p2 : Int32) (p3 : Int32) (m_many : FN) (m_cold : FN) (m_s : FN) (v4 : Int32) (v5 : Int32) : Option ((Int32 × Int32) ⊕ (Int32)) :=
  (if (m_many (ci 0)) ≤ v5 then some (.inr v4) else (if ix v5 10 = true then (if ix ((18 + (5 * p3)) + v5) 48 = true then some (.inl ((v4 + ((m_cold (ci v5)) * (m_s (ci ((18 + (5 * p3)) + v5))))), (v5 + 1))) else none) else none))
def b_X7_fair_3 (N : Nat) (m_many : FN) (m_cold : FN) (m_s : FN) (v1 : Int32) (v2 : Int32) (v3 : Int32) : Option ((Int32 × Int32 × Int32) ⊕ (Int32 × Int32)) :=
  (if (m_many (ci 1)) ≤ v3 then some (.inr (v1, v2)) else ((lp (fun s => b_X7_fair_4 N v1 v2 v3 m_many m_cold m_s s.1 s.2) N (0, 0)).bind fun t28 => (if t28 ≤ v1 then (if v2 ≤ t28 then some (.inl (v1, v2, (v3 + 1))) else some (.inl (v1, t28, (v3 + 1)))) else (if v2 ≤ t28 then some (.inl (t28, v2, (v3 + 1))) else some (.inl (t28, t28, (v3 + 1)))))))
def f_X7_fair (N : Nat) (m_thrown : Int32) (m_many : FN) (m_cold : FN) (m_s : FN) : Option (Int32 × Int32) :=
  (if (m_many (ci 1)) = 0 then ((lp (fun s => b_X7_fair_1 N m_many m_cold m_s s.1 s.2.1 s.2.2) N (0, 0, 0)).bind fun t18 => some ((t18.1 - t18.2), 0)) else ((lp (fun s => b_X7_fair_3 N m_many m_cold m_s s.1 s.2.1 s.2.2) N (0, 1000000, 0)).bind fun t33 => some ((t33.1 - t33.2), 0)))
set_option maxHeartbeats 4000000 in
set_option maxRecDepth 100000 in
theorem L_X7_fair_2 {γ : GX} {n : Nat} {h : HP} {Ψ : PS} {N : Nat} {p1 : Int32} {p2 : Int32} {p3 : Int32} {m_thrown : Int32} {m_trace : Int64} {m_text : FN} {m_typed : Int32} {m_next : Int32} {m_token : Int32} {m_place : Int32} {m_value : Int32} {m_fault : Int32} {m_many : FN} {m_sees : FN} {m_cold : FN} {m_first : FN} {m_told : Int32} {m_s : FN} {m_w : FN} {m_kept : FN} {m_isKept : FN} {m_undos : FN} {m_undoMany : Int32} {m_foundMan : FN} {m_foundHours : FN} {m_foundIs : FN} {m_foundMany : Int32} {m_row : FN} {m_best : FN} (hn_m : 93 + 16 ≤ n) {s0 : Int32 × Int32} {t : Int32} (hf : lp (fun s => b_X7_fair_2 N p1 p2 p3 m_many m_cold m_s s.1 s.2) N s0 = some t) (K : Ev γ M_X7_fair (0, 0) n (put 93 (mdB γ 93 m_thrown m_trace m_text m_typed m_next m_token m_place m_value m_fault m_many m_sees m_cold m_first m_told m_s m_w m_kept m_isKept m_undos m_undoMany m_foundMan m_foundHours m_foundIs m_foundMany m_row m_best) h) [(0, .ref (gB γ + 93)), (1, .int p1), (2, .int p2), (3, .int p3), (4, .int t)] 85 [] Ψ) : Ev γ M_X7_fair (0, 0) n (put 93 (mdB γ 93 m_thrown m_trace m_text m_typed m_next m_token m_place m_value m_fault m_many m_sees m_cold m_first m_told m_s m_w m_kept m_isKept m_undos m_undoMany m_foundMan m_foundHours m_foundIs m_foundMany m_row m_best) h) [(0, .ref (gB γ + 93)), (1, .int p1), (2, .int p2), (3, .int p3), (4, .int s0.1), (5, .int s0.2)] 41 [] Ψ := by
  refine E_lp (P := fun s => Ev γ M_X7_fair (0, 0) n (put 93 (mdB γ 93 m_thrown m_trace m_text m_typed m_next m_token m_place m_value m_fault m_many m_sees m_cold m_first m_told m_s m_w m_kept m_isKept m_undos m_undoMany m_foundMan m_foundHours m_foundIs m_foundMany m_row m_best) h) [(0, .ref (gB γ + 93)), (1, .int p1), (2, .int p2), (3, .int p3), (4, .int s.1), (5, .int s.2)] 41 [] Ψ) (K := fun t => Ev γ M_X7_fair (0, 0) n (put 93 (mdB γ 93 m_thrown m_trace m_text m_typed m_next m_token m_place m_value m_fault m_many m_sees m_cold m_first m_told m_s m_w m_kept m_isKept m_undos m_undoMany m_foundMan m_foundHours m_foundIs m_foundMany m_row m_best) h) [(0, .ref (gB γ + 93)), (1, .int p1), (2, .int p2), (3, .int p3), (4, .int t)] 85 [] Ψ) ?_ N s0 t hf K
  intro s r hf hP hK
  obtain ⟨v4, v5⟩ := s
  change b_X7_fair_2 N p1 p2 p3 m_many m_cold m_s v4 v5 = some r at hf
  unfold b_X7_fair_2 at hf
  show Ev γ M_X7_fair (0, 0) n (put 93 (mdB γ 93 m_thrown m_trace m_text m_typed m_next m_token m_place m_value m_fault m_many m_sees m_cold m_first m_told m_s m_w m_kept m_isKept m_undos m_undoMany m_foundMan m_foundHours m_foundIs m_foundMany m_row m_best) h) [(0, .ref (gB γ + 93)), (1, .int p1), (2, .int p2), (3, .int p3), (4, .int v4), (5, .int v5)] 41 [] Ψ
  refine E_iload 5 dX7_fair_41 (q := 43) rfl rfl ?_
  refine E_aload_n 0 dX7_fair_43 (q := 44) rfl rfl rfl ?_
  have hF9 : Has n 93 (mdB γ 93 m_thrown m_trace m_text m_typed m_next m_token m_place m_value m_fault m_many m_sees m_cold m_first m_told m_s m_w m_kept m_isKept m_undos m_undoMany m_foundMan m_foundHours m_foundIs m_foundMany m_row m_best) (put 93 (mdB γ 93 m_thrown m_trace m_text m_typed m_next m_token m_place m_value m_fault m_many m_sees m_cold m_first m_told m_s m_w m_kept m_isKept m_undos m_undoMany m_foundMan m_foundHours m_foundIs m_foundMany m_row m_best) h) := (has_put hn_m)
  refine E_get 9 dX7_fair_44 (q := 47) rfl ckX7 (Nat.le_of_ble_eq_true rfl) fl_X7_13 (hF9.at 0 rfl) (hF9.lt 0 (Nat.le_of_ble_eq_true rfl)) rfl ?_
  refine E_iconst (x := 0) dX7_fair_47 (q := 48) rfl (by decide) ?_
  refine E_iald dX7_fair_48 (q := 49) rfl (hF9.at 2 rfl) (hF9.lt 2 (Nat.le_of_ble_eq_true rfl)) (by decide +kernel) ?_
  refine E_icmp_ge dX7_fair_49 (t := 85) (by decide) (q := 52) rfl (fun c10 => ?_) (fun c10 => ?_)
  · have hf := if_t c10 hf
    exact E_sub [0, 1, 2, 3, 4] rfl (hK _ (Option.some.inj hf).symm)
  · have hf := if_f c10 hf
    refine E_iload 4 dX7_fair_52 (q := 54) rfl rfl ?_
    refine E_aload_n 0 dX7_fair_54 (q := 55) rfl rfl rfl ?_
    refine E_get 11 dX7_fair_55 (q := 58) rfl ckX7 (Nat.le_of_ble_eq_true rfl) fl_X7_19 (hF9.at 0 rfl) (hF9.lt 0 (Nat.le_of_ble_eq_true rfl)) rfl ?_
    refine E_iload 5 dX7_fair_58 (q := 60) rfl rfl ?_
    obtain ⟨g11, hf⟩ := gd hf
    refine E_iald dX7_fair_60 (q := 61) rfl (hF9.at 4 rfl) (hF9.lt 4 (Nat.le_of_ble_eq_true rfl)) g11 ?_
    refine E_aload_n 0 dX7_fair_61 (q := 62) rfl rfl rfl ?_
    refine E_get 14 dX7_fair_62 (q := 65) rfl ckX7 (Nat.le_of_ble_eq_true rfl) fl_X7_25 (hF9.at 0 rfl) (hF9.lt 0 (Nat.le_of_ble_eq_true rfl)) rfl ?_
    refine E_bipush (x := 18) dX7_fair_65 (q := 67) rfl (by decide) ?_
    refine E_iconst (x := 5) dX7_fair_67 (q := 68) rfl (by decide) ?_
    refine E_iload_n 3 dX7_fair_68 (q := 69) rfl rfl rfl ?_
    refine E_imul dX7_fair_69 (q := 70) rfl ?_
    refine E_iadd dX7_fair_70 (q := 71) rfl ?_
    refine E_iload 5 dX7_fair_71 (q := 73) rfl rfl ?_
    refine E_iadd dX7_fair_73 (q := 74) rfl ?_
    obtain ⟨g12, hf⟩ := gd hf
    refine E_iald dX7_fair_74 (q := 75) rfl (hF9.at 6 rfl) (hF9.lt 6 (Nat.le_of_ble_eq_true rfl)) g12 ?_
    refine E_imul dX7_fair_75 (q := 76) rfl ?_
    refine E_iadd dX7_fair_76 (q := 77) rfl ?_
    refine E_istore [(4, .int (v4 + ((m_cold (ci v5)) * (m_s (ci ((18 + (5 * p3)) + v5)))))), (0, .ref (gB γ + 93)), (1, .int p1), (2, .int p2), (3, .int p3), (5, .int v5)] dX7_fair_77 (q := 79) rfl (Nat.le_of_ble_eq_true rfl) rfl ?_
    refine E_iinc 5 [(5, .int (v5 + 1)), (4, .int (v4 + ((m_cold (ci v5)) * (m_s (ci ((18 + (5 * p3)) + v5)))))), (0, .ref (gB γ + 93)), (1, .int p1), (2, .int p2), (3, .int p3)] dX7_fair_79 (q := 82) rfl rfl rfl (Nat.le_of_ble_eq_true rfl) rfl ?_
    refine E_goto (q := 41) dX7_fair_82 (by decide) ?_
    exact E_sub [2, 3, 4, 5, 1, 0] rfl (hP _ (Option.some.inj hf).symm)
set_option maxHeartbeats 4000000 in
set_option maxRecDepth 100000 in
theorem L_X7_fair_1 {γ : GX} {n : Nat} {h : HP} {Ψ : PS} {N : Nat} {m_thrown : Int32} {m_trace : Int64} {m_text : FN} {m_typed : Int32} {m_next : Int32} {m_token : Int32} {m_place : Int32} {m_value : Int32} {m_fault : Int32} {m_many : FN} {m_sees : FN} {m_cold : FN} {m_first : FN} {m_told : Int32} {m_s : FN} {m_w : FN} {m_kept : FN} {m_isKept : FN} {m_undos : FN} {m_undoMany : Int32} {m_foundMan : FN} {m_foundHours : FN} {m_foundIs : FN} {m_foundMany : Int32} {m_row : FN} {m_best : FN} (hn_m : 93 + 16 ≤ n) {s0 : Int32 × Int32 × Int32} {t : Int32 × Int32} (hf : lp (fun s => b_X7_fair_1 N m_many m_cold m_s s.1 s.2.1 s.2.2) N s0 = some t) (K : Ev γ M_X7_fair (0, 0) n (put 93 (mdB γ 93 m_thrown m_trace m_text m_typed m_next m_token m_place m_value m_fault m_many m_sees m_cold m_first m_told m_s m_w m_kept m_isKept m_undos m_undoMany m_foundMan m_foundHours m_foundIs m_foundMany m_row m_best) h) [(1, .int t.1), (2, .int t.2)] 117 [] Ψ) : Ev γ M_X7_fair (0, 0) n (put 93 (mdB γ 93 m_thrown m_trace m_text m_typed m_next m_token m_place m_value m_fault m_many m_sees m_cold m_first m_told m_s m_w m_kept m_isKept m_undos m_undoMany m_foundMan m_foundHours m_foundIs m_foundMany m_row m_best) h) [(0, .ref (gB γ + 93)), (1, .int s0.1), (2, .int s0.2.1), (3, .int s0.2.2)] 25 [] Ψ := by
  refine E_lp (P := fun s => Ev γ M_X7_fair (0, 0) n (put 93 (mdB γ 93 m_thrown m_trace m_text m_typed m_next m_token m_place m_value m_fault m_many m_sees m_cold m_first m_told m_s m_w m_kept m_isKept m_undos m_undoMany m_foundMan m_foundHours m_foundIs m_foundMany m_row m_best) h) [(0, .ref (gB γ + 93)), (1, .int s.1), (2, .int s.2.1), (3, .int s.2.2)] 25 [] Ψ) (K := fun t => Ev γ M_X7_fair (0, 0) n (put 93 (mdB γ 93 m_thrown m_trace m_text m_typed m_next m_token m_place m_value m_fault m_many m_sees m_cold m_first m_told m_s m_w m_kept m_isKept m_undos m_undoMany m_foundMan m_foundHours m_foundIs m_foundMany m_row m_best) h) [(1, .int t.1), (2, .int t.2)] 117 [] Ψ) ?_ N s0 t hf K
  intro s r hf hP hK
  obtain ⟨v1, v2, v3⟩ := s
  change b_X7_fair_1 N m_many m_cold m_s v1 v2 v3 = some r at hf
  unfold b_X7_fair_1 at hf
  show Ev γ M_X7_fair (0, 0) n (put 93 (mdB γ 93 m_thrown m_trace m_text m_typed m_next m_token m_place m_value m_fault m_many m_sees m_cold m_first m_told m_s m_w m_kept m_isKept m_undos m_undoMany m_foundMan m_foundHours m_foundIs m_foundMany m_row m_best) h) [(0, .ref (gB γ + 93)), (1, .int v1), (2, .int v2), (3, .int v3)] 25 [] Ψ
  refine E_iload_n 3 dX7_fair_25 (q := 26) rfl rfl rfl ?_
  refine E_aload_n 0 dX7_fair_26 (q := 27) rfl rfl rfl ?_
  have hF6 : Has n 93 (mdB γ 93 m_thrown m_trace m_text m_typed m_next m_token m_place m_value m_fault m_many m_sees m_cold m_first m_told m_s m_w m_kept m_isKept m_undos m_undoMany m_foundMan m_foundHours m_foundIs m_foundMany m_row m_best) (put 93 (mdB γ 93 m_thrown m_trace m_text m_typed m_next m_token m_place m_value m_fault m_many m_sees m_cold m_first m_told m_s m_w m_kept m_isKept m_undos m_undoMany m_foundMan m_foundHours m_foundIs m_foundMany m_row m_best) h) := (has_put hn_m)
  refine E_get 9 dX7_fair_27 (q := 30) rfl ckX7 (Nat.le_of_ble_eq_true rfl) fl_X7_13 (hF6.at 0 rfl) (hF6.lt 0 (Nat.le_of_ble_eq_true rfl)) rfl ?_
  refine E_iconst (x := 1) dX7_fair_30 (q := 31) rfl (by decide) ?_
  refine E_iald dX7_fair_31 (q := 32) rfl (hF6.at 2 rfl) (hF6.lt 2 (Nat.le_of_ble_eq_true rfl)) (by decide +kernel) ?_
  refine E_icmp_ge dX7_fair_32 (t := 117) (by decide) (q := 35) rfl (fun c7 => ?_) (fun c7 => ?_)
  · have hf := if_t c7 hf
    exact E_sub [1, 2] rfl (hK _ (Option.some.inj hf).symm)
  · have hf := if_f c7 hf
    refine E_iconst (x := 0) dX7_fair_35 (q := 36) rfl (by decide) ?_
    refine E_istore [(4, .int 0), (0, .ref (gB γ + 93)), (1, .int v1), (2, .int v2), (3, .int v3)] dX7_fair_36 (q := 38) rfl (Nat.le_of_ble_eq_true rfl) rfl ?_
    refine E_iconst (x := 0) dX7_fair_38 (q := 39) rfl (by decide) ?_
    refine E_istore [(5, .int 0), (4, .int 0), (0, .ref (gB γ + 93)), (1, .int v1), (2, .int v2), (3, .int v3)] dX7_fair_39 (q := 41) rfl (Nat.le_of_ble_eq_true rfl) rfl ?_
    obtain ⟨t13, hxt13, hf⟩ := bnd hf
    refine E_sub [2, 3, 4, 5, 1, 0] rfl ?_
    refine L_X7_fair_2 hn_m hxt13 ?_
    show Ev γ M_X7_fair _ n (put 93 (mdB γ 93 m_thrown m_trace m_text m_typed m_next m_token m_place m_value m_fault m_many m_sees m_cold m_first m_told m_s m_w m_kept m_isKept m_undos m_undoMany m_foundMan m_foundHours m_foundIs m_foundMany m_row m_best) h) [(0, .ref (gB γ + 93)), (1, .int v1), (2, .int v2), (3, .int v3), (4, .int t13)] 85 [] _
    refine E_iload 4 dX7_fair_85 (q := 87) rfl rfl ?_
    refine E_iload_n 1 dX7_fair_87 (q := 88) rfl rfl rfl ?_
    refine E_icmp_le dX7_fair_88 (t := 96) (by decide) (q := 91) rfl (fun c15 => ?_) (fun c15 => ?_)
    · have hf := if_t c15 hf
      refine E_iload_n 1 dX7_fair_96 (q := 97) rfl rfl rfl ?_
      refine E_istore_n [(1, .int v1), (0, .ref (gB γ + 93)), (2, .int v2), (3, .int v3), (4, .int t13)] dX7_fair_97 (q := 98) rfl rfl (Nat.le_of_ble_eq_true rfl) rfl ?_
      refine E_iload 4 dX7_fair_98 (q := 100) rfl rfl ?_
      refine E_iload_n 2 dX7_fair_100 (q := 101) rfl rfl rfl ?_
      refine E_icmp_ge dX7_fair_101 (t := 109) (by decide) (q := 104) rfl (fun c16 => ?_) (fun c16 => ?_)
      · have hf := if_t c16 hf
        refine E_iload_n 2 dX7_fair_109 (q := 110) rfl rfl rfl ?_
        refine E_istore_n [(2, .int v2), (1, .int v1), (0, .ref (gB γ + 93)), (3, .int v3), (4, .int t13)] dX7_fair_110 (q := 111) rfl rfl (Nat.le_of_ble_eq_true rfl) rfl ?_
        refine E_iinc 3 [(3, .int (v3 + 1)), (2, .int v2), (1, .int v1), (0, .ref (gB γ + 93)), (4, .int t13)] dX7_fair_111 (q := 114) rfl rfl rfl (Nat.le_of_ble_eq_true rfl) rfl ?_
        refine E_goto (q := 25) dX7_fair_114 (by decide) ?_
        exact E_sub [3, 2, 1, 0] rfl (hP _ (Option.some.inj hf).symm)
      · have hf := if_f c16 hf
        refine E_iload 4 dX7_fair_104 (q := 106) rfl rfl ?_
        refine E_goto (q := 110) dX7_fair_106 (by decide) ?_
        refine E_istore_n [(2, .int t13), (1, .int v1), (0, .ref (gB γ + 93)), (3, .int v3), (4, .int t13)] dX7_fair_110 (q := 111) rfl rfl (Nat.le_of_ble_eq_true rfl) rfl ?_
        refine E_iinc 3 [(3, .int (v3 + 1)), (2, .int t13), (1, .int v1), (0, .ref (gB γ + 93)), (4, .int t13)] dX7_fair_111 (q := 114) rfl rfl rfl (Nat.le_of_ble_eq_true rfl) rfl ?_
        refine E_goto (q := 25) dX7_fair_114 (by decide) ?_
        exact E_sub [3, 2, 1, 0] rfl (hP _ (Option.some.inj hf).symm)
    · have hf := if_f c15 hf
      refine E_iload 4 dX7_fair_91 (q := 93) rfl rfl ?_
      refine E_goto (q := 97) dX7_fair_93 (by decide) ?_
      refine E_istore_n [(1, .int t13), (0, .ref (gB γ + 93)), (2, .int v2), (3, .int v3), (4, .int t13)] dX7_fair_97 (q := 98) rfl rfl (Nat.le_of_ble_eq_true rfl) rfl ?_
      refine E_iload 4 dX7_fair_98 (q := 100) rfl rfl ?_
      refine E_iload_n 2 dX7_fair_100 (q := 101) rfl rfl rfl ?_
      refine E_icmp_ge dX7_fair_101 (t := 109) (by decide) (q := 104) rfl (fun c17 => ?_) (fun c17 => ?_)
      · have hf := if_t c17 hf
        refine E_iload_n 2 dX7_fair_109 (q := 110) rfl rfl rfl ?_
        refine E_istore_n [(2, .int v2), (1, .int t13), (0, .ref (gB γ + 93)), (3, .int v3), (4, .int t13)] dX7_fair_110 (q := 111) rfl rfl (Nat.le_of_ble_eq_true rfl) rfl ?_
        refine E_iinc 3 [(3, .int (v3 + 1)), (2, .int v2), (1, .int t13), (0, .ref (gB γ + 93)), (4, .int t13)] dX7_fair_111 (q := 114) rfl rfl rfl (Nat.le_of_ble_eq_true rfl) rfl ?_
        refine E_goto (q := 25) dX7_fair_114 (by decide) ?_
        exact E_sub [3, 2, 1, 0] rfl (hP _ (Option.some.inj hf).symm)
      · have hf := if_f c17 hf
        refine E_iload 4 dX7_fair_104 (q := 106) rfl rfl ?_
        refine E_goto (q := 110) dX7_fair_106 (by decide) ?_
        refine E_istore_n [(2, .int t13), (1, .int t13), (0, .ref (gB γ + 93)), (3, .int v3), (4, .int t13)] dX7_fair_110 (q := 111) rfl rfl (Nat.le_of_ble_eq_true rfl) rfl ?_
        refine E_iinc 3 [(3, .int (v3 + 1)), (2, .int t13), (1, .int t13), (0, .ref (gB γ + 93)), (4, .int t13)] dX7_fair_111 (q := 114) rfl rfl rfl (Nat.le_of_ble_eq_true rfl) rfl ?_
        refine E_goto (q := 25) dX7_fair_114 (by decide) ?_
        exact E_sub [3, 2, 1, 0] rfl (hP _ (Option.some.inj hf).symm)
set_option maxHeartbeats 4000000 in
set_option maxRecDepth 100000 in
theorem L_X7_fair_4 {γ : GX} {n : Nat} {h : HP} {Ψ : PS} {N : Nat} {p1 : Int32} {p2 : Int32} {p3 : Int32} {m_thrown : Int32} {m_trace : Int64} {m_text : FN} {m_typed : Int32} {m_next : Int32} {m_token : Int32} {m_place : Int32} {m_value : Int32} {m_fault : Int32} {m_many : FN} {m_sees : FN} {m_cold : FN} {m_first : FN} {m_told : Int32} {m_s : FN} {m_w : FN} {m_kept : FN} {m_isKept : FN} {m_undos : FN} {m_undoMany : Int32} {m_foundMan : FN} {m_foundHours : FN} {m_foundIs : FN} {m_foundMany : Int32} {m_row : FN} {m_best : FN} (hn_m : 93 + 16 ≤ n) {s0 : Int32 × Int32} {t : Int32} (hf : lp (fun s => b_X7_fair_4 N p1 p2 p3 m_many m_cold m_s s.1 s.2) N s0 = some t) (K : Ev γ M_X7_fair (0, 0) n (put 93 (mdB γ 93 m_thrown m_trace m_text m_typed m_next m_token m_place m_value m_fault m_many m_sees m_cold m_first m_told m_s m_w m_kept m_isKept m_undos m_undoMany m_foundMan m_foundHours m_foundIs m_foundMany m_row m_best) h) [(0, .ref (gB γ + 93)), (1, .int p1), (2, .int p2), (3, .int p3), (4, .int t)] 85 [] Ψ) : Ev γ M_X7_fair (0, 0) n (put 93 (mdB γ 93 m_thrown m_trace m_text m_typed m_next m_token m_place m_value m_fault m_many m_sees m_cold m_first m_told m_s m_w m_kept m_isKept m_undos m_undoMany m_foundMan m_foundHours m_foundIs m_foundMany m_row m_best) h) [(0, .ref (gB γ + 93)), (1, .int p1), (2, .int p2), (3, .int p3), (4, .int s0.1), (5, .int s0.2)] 41 [] Ψ := by
  refine E_lp (P := fun s => Ev γ M_X7_fair (0, 0) n (put 93 (mdB γ 93 m_thrown m_trace m_text m_typed m_next m_token m_place m_value m_fault m_many m_sees m_cold m_first m_told m_s m_w m_kept m_isKept m_undos m_undoMany m_foundMan m_foundHours m_foundIs m_foundMany m_row m_best) h) [(0, .ref (gB γ + 93)), (1, .int p1), (2, .int p2), (3, .int p3), (4, .int s.1), (5, .int s.2)] 41 [] Ψ) (K := fun t => Ev γ M_X7_fair (0, 0) n (put 93 (mdB γ 93 m_thrown m_trace m_text m_typed m_next m_token m_place m_value m_fault m_many m_sees m_cold m_first m_told m_s m_w m_kept m_isKept m_undos m_undoMany m_foundMan m_foundHours m_foundIs m_foundMany m_row m_best) h) [(0, .ref (gB γ + 93)), (1, .int p1), (2, .int p2), (3, .int p3), (4, .int t)] 85 [] Ψ) ?_ N s0 t hf K
  intro s r hf hP hK
  obtain ⟨v4, v5⟩ := s
  change b_X7_fair_4 N p1 p2 p3 m_many m_cold m_s v4 v5 = some r at hf
  unfold b_X7_fair_4 at hf
  show Ev γ M_X7_fair (0, 0) n (put 93 (mdB γ 93 m_thrown m_trace m_text m_typed m_next m_token m_place m_value m_fault m_many m_sees m_cold m_first m_told m_s m_w m_kept m_isKept m_undos m_undoMany m_foundMan m_foundHours m_foundIs m_foundMany m_row m_best) h) [(0, .ref (gB γ + 93)), (1, .int p1), (2, .int p2), (3, .int p3), (4, .int v4), (5, .int v5)] 41 [] Ψ
  refine E_iload 5 dX7_fair_41 (q := 43) rfl rfl ?_
  refine E_aload_n 0 dX7_fair_43 (q := 44) rfl rfl rfl ?_
  have hF24 : Has n 93 (mdB γ 93 m_thrown m_trace m_text m_typed m_next m_token m_place m_value m_fault m_many m_sees m_cold m_first m_told m_s m_w m_kept m_isKept m_undos m_undoMany m_foundMan m_foundHours m_foundIs m_foundMany m_row m_best) (put 93 (mdB γ 93 m_thrown m_trace m_text m_typed m_next m_token m_place m_value m_fault m_many m_sees m_cold m_first m_told m_s m_w m_kept m_isKept m_undos m_undoMany m_foundMan m_foundHours m_foundIs m_foundMany m_row m_best) h) := (has_put hn_m)
  refine E_get 9 dX7_fair_44 (q := 47) rfl ckX7 (Nat.le_of_ble_eq_true rfl) fl_X7_13 (hF24.at 0 rfl) (hF24.lt 0 (Nat.le_of_ble_eq_true rfl)) rfl ?_
  refine E_iconst (x := 0) dX7_fair_47 (q := 48) rfl (by decide) ?_
  refine E_iald dX7_fair_48 (q := 49) rfl (hF24.at 2 rfl) (hF24.lt 2 (Nat.le_of_ble_eq_true rfl)) (by decide +kernel) ?_
  refine E_icmp_ge dX7_fair_49 (t := 85) (by decide) (q := 52) rfl (fun c25 => ?_) (fun c25 => ?_)
  · have hf := if_t c25 hf
    exact E_sub [0, 1, 2, 3, 4] rfl (hK _ (Option.some.inj hf).symm)
  · have hf := if_f c25 hf
    refine E_iload 4 dX7_fair_52 (q := 54) rfl rfl ?_
    refine E_aload_n 0 dX7_fair_54 (q := 55) rfl rfl rfl ?_
    refine E_get 11 dX7_fair_55 (q := 58) rfl ckX7 (Nat.le_of_ble_eq_true rfl) fl_X7_19 (hF24.at 0 rfl) (hF24.lt 0 (Nat.le_of_ble_eq_true rfl)) rfl ?_
    refine E_iload 5 dX7_fair_58 (q := 60) rfl rfl ?_
    obtain ⟨g26, hf⟩ := gd hf
    refine E_iald dX7_fair_60 (q := 61) rfl (hF24.at 4 rfl) (hF24.lt 4 (Nat.le_of_ble_eq_true rfl)) g26 ?_
    refine E_aload_n 0 dX7_fair_61 (q := 62) rfl rfl rfl ?_
    refine E_get 14 dX7_fair_62 (q := 65) rfl ckX7 (Nat.le_of_ble_eq_true rfl) fl_X7_25 (hF24.at 0 rfl) (hF24.lt 0 (Nat.le_of_ble_eq_true rfl)) rfl ?_
    refine E_bipush (x := 18) dX7_fair_65 (q := 67) rfl (by decide) ?_
    refine E_iconst (x := 5) dX7_fair_67 (q := 68) rfl (by decide) ?_
    refine E_iload_n 3 dX7_fair_68 (q := 69) rfl rfl rfl ?_
    refine E_imul dX7_fair_69 (q := 70) rfl ?_
    refine E_iadd dX7_fair_70 (q := 71) rfl ?_
    refine E_iload 5 dX7_fair_71 (q := 73) rfl rfl ?_
    refine E_iadd dX7_fair_73 (q := 74) rfl ?_
    obtain ⟨g27, hf⟩ := gd hf
    refine E_iald dX7_fair_74 (q := 75) rfl (hF24.at 6 rfl) (hF24.lt 6 (Nat.le_of_ble_eq_true rfl)) g27 ?_
    refine E_imul dX7_fair_75 (q := 76) rfl ?_
    refine E_iadd dX7_fair_76 (q := 77) rfl ?_
    refine E_istore [(4, .int (v4 + ((m_cold (ci v5)) * (m_s (ci ((18 + (5 * p3)) + v5)))))), (0, .ref (gB γ + 93)), (1, .int p1), (2, .int p2), (3, .int p3), (5, .int v5)] dX7_fair_77 (q := 79) rfl (Nat.le_of_ble_eq_true rfl) rfl ?_
    refine E_iinc 5 [(5, .int (v5 + 1)), (4, .int (v4 + ((m_cold (ci v5)) * (m_s (ci ((18 + (5 * p3)) + v5)))))), (0, .ref (gB γ + 93)), (1, .int p1), (2, .int p2), (3, .int p3)] dX7_fair_79 (q := 82) rfl rfl rfl (Nat.le_of_ble_eq_true rfl) rfl ?_
    refine E_goto (q := 41) dX7_fair_82 (by decide) ?_
    exact E_sub [2, 3, 4, 5, 1, 0] rfl (hP _ (Option.some.inj hf).symm)
set_option maxHeartbeats 4000000 in
set_option maxRecDepth 100000 in
theorem L_X7_fair_3 {γ : GX} {n : Nat} {h : HP} {Ψ : PS} {N : Nat} {m_thrown : Int32} {m_trace : Int64} {m_text : FN} {m_typed : Int32} {m_next : Int32} {m_token : Int32} {m_place : Int32} {m_value : Int32} {m_fault : Int32} {m_many : FN} {m_sees : FN} {m_cold : FN} {m_first : FN} {m_told : Int32} {m_s : FN} {m_w : FN} {m_kept : FN} {m_isKept : FN} {m_undos : FN} {m_undoMany : Int32} {m_foundMan : FN} {m_foundHours : FN} {m_foundIs : FN} {m_foundMany : Int32} {m_row : FN} {m_best : FN} (hn_m : 93 + 16 ≤ n) {s0 : Int32 × Int32 × Int32} {t : Int32 × Int32} (hf : lp (fun s => b_X7_fair_3 N m_many m_cold m_s s.1 s.2.1 s.2.2) N s0 = some t) (K : Ev γ M_X7_fair (0, 0) n (put 93 (mdB γ 93 m_thrown m_trace m_text m_typed m_next m_token m_place m_value m_fault m_many m_sees m_cold m_first m_told m_s m_w m_kept m_isKept m_undos m_undoMany m_foundMan m_foundHours m_foundIs m_foundMany m_row m_best) h) [(1, .int t.1), (2, .int t.2)] 117 [] Ψ) : Ev γ M_X7_fair (0, 0) n (put 93 (mdB γ 93 m_thrown m_trace m_text m_typed m_next m_token m_place m_value m_fault m_many m_sees m_cold m_first m_told m_s m_w m_kept m_isKept m_undos m_undoMany m_foundMan m_foundHours m_foundIs m_foundMany m_row m_best) h) [(0, .ref (gB γ + 93)), (1, .int s0.1), (2, .int s0.2.1), (3, .int s0.2.2)] 25 [] Ψ := by
  refine E_lp (P := fun s => Ev γ M_X7_fair (0, 0) n (put 93 (mdB γ 93 m_thrown m_trace m_text m_typed m_next m_token m_place m_value m_fault m_many m_sees m_cold m_first m_told m_s m_w m_kept m_isKept m_undos m_undoMany m_foundMan m_foundHours m_foundIs m_foundMany m_row m_best) h) [(0, .ref (gB γ + 93)), (1, .int s.1), (2, .int s.2.1), (3, .int s.2.2)] 25 [] Ψ) (K := fun t => Ev γ M_X7_fair (0, 0) n (put 93 (mdB γ 93 m_thrown m_trace m_text m_typed m_next m_token m_place m_value m_fault m_many m_sees m_cold m_first m_told m_s m_w m_kept m_isKept m_undos m_undoMany m_foundMan m_foundHours m_foundIs m_foundMany m_row m_best) h) [(1, .int t.1), (2, .int t.2)] 117 [] Ψ) ?_ N s0 t hf K
  intro s r hf hP hK
  obtain ⟨v1, v2, v3⟩ := s
  change b_X7_fair_3 N m_many m_cold m_s v1 v2 v3 = some r at hf
  unfold b_X7_fair_3 at hf
  show Ev γ M_X7_fair (0, 0) n (put 93 (mdB γ 93 m_thrown m_trace m_text m_typed m_next m_token m_place m_value m_fault m_many m_sees m_cold m_first m_told m_s m_w m_kept m_isKept m_undos m_undoMany m_foundMan m_foundHours m_foundIs m_foundMany m_row m_best) h) [(0, .ref (gB γ + 93)), (1, .int v1), (2, .int v2), (3, .int v3)] 25 [] Ψ
  refine E_iload_n 3 dX7_fair_25 (q := 26) rfl rfl rfl ?_
  refine E_aload_n 0 dX7_fair_26 (q := 27) rfl rfl rfl ?_
  have hF21 : Has n 93 (mdB γ 93 m_thrown m_trace m_text m_typed m_next m_token m_place m_value m_fault m_many m_sees m_cold m_first m_told m_s m_w m_kept m_isKept m_undos m_undoMany m_foundMan m_foundHours m_foundIs m_foundMany m_row m_best) (put 93 (mdB γ 93 m_thrown m_trace m_text m_typed m_next m_token m_place m_value m_fault m_many m_sees m_cold m_first m_told m_s m_w m_kept m_isKept m_undos m_undoMany m_foundMan m_foundHours m_foundIs m_foundMany m_row m_best) h) := (has_put hn_m)
  refine E_get 9 dX7_fair_27 (q := 30) rfl ckX7 (Nat.le_of_ble_eq_true rfl) fl_X7_13 (hF21.at 0 rfl) (hF21.lt 0 (Nat.le_of_ble_eq_true rfl)) rfl ?_
  refine E_iconst (x := 1) dX7_fair_30 (q := 31) rfl (by decide) ?_
  refine E_iald dX7_fair_31 (q := 32) rfl (hF21.at 2 rfl) (hF21.lt 2 (Nat.le_of_ble_eq_true rfl)) (by decide +kernel) ?_
  refine E_icmp_ge dX7_fair_32 (t := 117) (by decide) (q := 35) rfl (fun c22 => ?_) (fun c22 => ?_)
  · have hf := if_t c22 hf
    exact E_sub [1, 2] rfl (hK _ (Option.some.inj hf).symm)
  · have hf := if_f c22 hf
    refine E_iconst (x := 0) dX7_fair_35 (q := 36) rfl (by decide) ?_
    refine E_istore [(4, .int 0), (0, .ref (gB γ + 93)), (1, .int v1), (2, .int v2), (3, .int v3)] dX7_fair_36 (q := 38) rfl (Nat.le_of_ble_eq_true rfl) rfl ?_
    refine E_iconst (x := 0) dX7_fair_38 (q := 39) rfl (by decide) ?_
    refine E_istore [(5, .int 0), (4, .int 0), (0, .ref (gB γ + 93)), (1, .int v1), (2, .int v2), (3, .int v3)] dX7_fair_39 (q := 41) rfl (Nat.le_of_ble_eq_true rfl) rfl ?_
    obtain ⟨t28, hxt28, hf⟩ := bnd hf
    refine E_sub [2, 3, 4, 5, 1, 0] rfl ?_
    refine L_X7_fair_4 hn_m hxt28 ?_
    show Ev γ M_X7_fair _ n (put 93 (mdB γ 93 m_thrown m_trace m_text m_typed m_next m_token m_place m_value m_fault m_many m_sees m_cold m_first m_told m_s m_w m_kept m_isKept m_undos m_undoMany m_foundMan m_foundHours m_foundIs m_foundMany m_row m_best) h) [(0, .ref (gB γ + 93)), (1, .int v1), (2, .int v2), (3, .int v3), (4, .int t28)] 85 [] _
    refine E_iload 4 dX7_fair_85 (q := 87) rfl rfl ?_
    refine E_iload_n 1 dX7_fair_87 (q := 88) rfl rfl rfl ?_
    refine E_icmp_le dX7_fair_88 (t := 96) (by decide) (q := 91) rfl (fun c30 => ?_) (fun c30 => ?_)
    · have hf := if_t c30 hf
      refine E_iload_n 1 dX7_fair_96 (q := 97) rfl rfl rfl ?_
      refine E_istore_n [(1, .int v1), (0, .ref (gB γ + 93)), (2, .int v2), (3, .int v3), (4, .int t28)] dX7_fair_97 (q := 98) rfl rfl (Nat.le_of_ble_eq_true rfl) rfl ?_
      refine E_iload 4 dX7_fair_98 (q := 100) rfl rfl ?_
      refine E_iload_n 2 dX7_fair_100 (q := 101) rfl rfl rfl ?_
      refine E_icmp_ge dX7_fair_101 (t := 109) (by decide) (q := 104) rfl (fun c31 => ?_) (fun c31 => ?_)
      · have hf := if_t c31 hf
        refine E_iload_n 2 dX7_fair_109 (q := 110) rfl rfl rfl ?_
        refine E_istore_n [(2, .int v2), (1, .int v1), (0, .ref (gB γ + 93)), (3, .int v3), (4, .int t28)] dX7_fair_110 (q := 111) rfl rfl (Nat.le_of_ble_eq_true rfl) rfl ?_
        refine E_iinc 3 [(3, .int (v3 + 1)), (2, .int v2), (1, .int v1), (0, .ref (gB γ + 93)), (4, .int t28)] dX7_fair_111 (q := 114) rfl rfl rfl (Nat.le_of_ble_eq_true rfl) rfl ?_
        refine E_goto (q := 25) dX7_fair_114 (by decide) ?_
        exact E_sub [3, 2, 1, 0] rfl (hP _ (Option.some.inj hf).symm)
      · have hf := if_f c31 hf
        refine E_iload 4 dX7_fair_104 (q := 106) rfl rfl ?_
        refine E_goto (q := 110) dX7_fair_106 (by decide) ?_
        refine E_istore_n [(2, .int t28), (1, .int v1), (0, .ref (gB γ + 93)), (3, .int v3), (4, .int t28)] dX7_fair_110 (q := 111) rfl rfl (Nat.le_of_ble_eq_true rfl) rfl ?_
        refine E_iinc 3 [(3, .int (v3 + 1)), (2, .int t28), (1, .int v1), (0, .ref (gB γ + 93)), (4, .int t28)] dX7_fair_111 (q := 114) rfl rfl rfl (Nat.le_of_ble_eq_true rfl) rfl ?_
        refine E_goto (q := 25) dX7_fair_114 (by decide) ?_
        exact E_sub [3, 2, 1, 0] rfl (hP _ (Option.some.inj hf).symm)
    · have hf := if_f c30 hf
      refine E_iload 4 dX7_fair_91 (q := 93) rfl rfl ?_
      refine E_goto (q := 97) dX7_fair_93 (by decide) ?_
      refine E_istore_n [(1, .int t28), (0, .ref (gB γ + 93)), (2, .int v2), (3, .int v3), (4, .int t28)] dX7_fair_97 (q := 98) rfl rfl (Nat.le_of_ble_eq_true rfl) rfl ?_
      refine E_iload 4 dX7_fair_98 (q := 100) rfl rfl ?_
      refine E_iload_n 2 dX7_fair_100 (q := 101) rfl rfl rfl ?_
      refine E_icmp_ge dX7_fair_101 (t := 109) (by decide) (q := 104) rfl (fun c32 => ?_) (fun c32 => ?_)
      · have hf := if_t c32 hf
        refine E_iload_n 2 dX7_fair_109 (q := 110) rfl rfl rfl ?_
        refine E_istore_n [(2, .int v2), (1, .int t28), (0, .ref (gB γ + 93)), (3, .int v3), (4, .int t28)] dX7_fair_110 (q := 111) rfl rfl (Nat.le_of_ble_eq_true rfl) rfl ?_
        refine E_iinc 3 [(3, .int (v3 + 1)), (2, .int v2), (1, .int t28), (0, .ref (gB γ + 93)), (4, .int t28)] dX7_fair_111 (q := 114) rfl rfl rfl (Nat.le_of_ble_eq_true rfl) rfl ?_
        refine E_goto (q := 25) dX7_fair_114 (by decide) ?_
        exact E_sub [3, 2, 1, 0] rfl (hP _ (Option.some.inj hf).symm)
      · have hf := if_f c32 hf
        refine E_iload 4 dX7_fair_104 (q := 106) rfl rfl ?_
        refine E_goto (q := 110) dX7_fair_106 (by decide) ?_
        refine E_istore_n [(2, .int t28), (1, .int t28), (0, .ref (gB γ + 93)), (3, .int v3), (4, .int t28)] dX7_fair_110 (q := 111) rfl rfl (Nat.le_of_ble_eq_true rfl) rfl ?_
        refine E_iinc 3 [(3, .int (v3 + 1)), (2, .int t28), (1, .int t28), (0, .ref (gB γ + 93)), (4, .int t28)] dX7_fair_111 (q := 114) rfl rfl rfl (Nat.le_of_ble_eq_true rfl) rfl ?_
        refine E_goto (q := 25) dX7_fair_114 (by decide) ?_
        exact E_sub [3, 2, 1, 0] rfl (hP _ (Option.some.inj hf).symm)
set_option maxHeartbeats 4000000 in
set_option maxRecDepth 100000 in
theorem m_X7_fair {γ : GX} {n : Nat} {N : Nat} {h : HP} {m_thrown : Int32} {m_trace : Int64} {m_text : FN} {m_typed : Int32} {m_next : Int32} {m_token : Int32} {m_place : Int32} {m_value : Int32} {m_fault : Int32} {m_many : FN} {m_sees : FN} {m_cold : FN} {m_first : FN} {m_told : Int32} {m_s : FN} {m_w : FN} {m_kept : FN} {m_isKept : FN} {m_undos : FN} {m_undoMany : Int32} {m_foundMan : FN} {m_foundHours : FN} {m_foundIs : FN} {m_foundMany : Int32} {m_row : FN} {m_best : FN} (hH_m : Has n 93 (mdB γ 93 m_thrown m_trace m_text m_typed m_next m_token m_place m_value m_fault m_many m_sees m_cold m_first m_told m_s m_w m_kept m_isKept m_undos m_undoMany m_foundMan m_foundHours m_foundIs m_foundMany m_row m_best) h) {z : Int32 × Int32} (hf : f_X7_fair N m_thrown m_many m_cold m_s = some z)  : Ct γ M_X7_fair n h [.ref (gB γ + 93)] (Done (some (.int z.1)) n (put 93 (mdB γ 93 z.2 m_trace m_text m_typed m_next m_token m_place m_value m_fault m_many m_sees m_cold m_first m_told m_s m_w m_kept m_isKept m_undos m_undoMany m_foundMan m_foundHours m_foundIs m_foundMany m_row m_best) h)) := by
  have hn_m : 93 + 16 ≤ n := hH_m.1
  refine Ct.heap (h := (put 93 (mdB γ 93 m_thrown m_trace m_text m_typed m_next m_token m_place m_value m_fault m_many m_sees m_cold m_first m_told m_s m_w m_kept m_isKept m_undos m_undoMany m_foundMan m_foundHours m_foundIs m_foundMany m_row m_best) h)) (put_self hH_m).symm ?_
  refine Ct_of_Ev (by decide) (fun h => by cases h) (Nat.le_of_ble_eq_true rfl) ?_
  show Ev γ M_X7_fair (0, 0) n (put 93 (mdB γ 93 m_thrown m_trace m_text m_typed m_next m_token m_place m_value m_fault m_many m_sees m_cold m_first m_told m_s m_w m_kept m_isKept m_undos m_undoMany m_foundMan m_foundHours m_foundIs m_foundMany m_row m_best) h) [(0, .ref (gB γ + 93))] 0 [] _
  unfold f_X7_fair at hf
  refine E_aload_n 0 dX7_fair_0 (q := 1) rfl rfl rfl ?_
  refine E_iconst (x := 0) dX7_fair_1 (q := 2) rfl (by decide) ?_
  have hF1 : Has n 93 (mdB γ 93 m_thrown m_trace m_text m_typed m_next m_token m_place m_value m_fault m_many m_sees m_cold m_first m_told m_s m_w m_kept m_isKept m_undos m_undoMany m_foundMan m_foundHours m_foundIs m_foundMany m_row m_best) (put 93 (mdB γ 93 m_thrown m_trace m_text m_typed m_next m_token m_place m_value m_fault m_many m_sees m_cold m_first m_told m_s m_w m_kept m_isKept m_undos m_undoMany m_foundMan m_foundHours m_foundIs m_foundMany m_row m_best) h) := (has_put hn_m)
  refine E_put 0 dX7_fair_2 (q := 5) rfl ckX7 (Nat.le_of_ble_eq_true rfl) fl_X7_56 rfl rfl rfl (hF1.at 0 rfl) (hF1.lt 0 (Nat.le_of_ble_eq_true rfl)) (Nat.le_of_ble_eq_true rfl) (up_put (i := 0) (cs' := (mdB γ 93 0 m_trace m_text m_typed m_next m_token m_place m_value m_fault m_many m_sees m_cold m_first m_told m_s m_w m_kept m_isKept m_undos m_undoMany m_foundMan m_foundHours m_foundIs m_foundMany m_row m_best)) (Nat.le_of_ble_eq_true rfl) rfl) ?_
  refine E_iconst (x := 0) dX7_fair_5 (q := 6) rfl (by decide) ?_
  refine E_istore_n [(1, .int 0), (0, .ref (gB γ + 93))] dX7_fair_6 (q := 7) rfl rfl (Nat.le_of_ble_eq_true rfl) rfl ?_
  refine E_aload_n 1 dX7_fair_7 (q := 8) rfl rfl rfl ?_
  have hF3 : Has n 93 (mdB γ 93 0 m_trace m_text m_typed m_next m_token m_place m_value m_fault m_many m_sees m_cold m_first m_told m_s m_w m_kept m_isKept m_undos m_undoMany m_foundMan m_foundHours m_foundIs m_foundMany m_row m_best) (put 93 (mdB γ 93 0 m_trace m_text m_typed m_next m_token m_place m_value m_fault m_many m_sees m_cold m_first m_told m_s m_w m_kept m_isKept m_undos m_undoMany m_foundMan m_foundHours m_foundIs m_foundMany m_row m_best) h) := (has_put hn_m)
  refine E_get 9 dX7_fair_8 (q := 11) rfl ckX7 (Nat.le_of_ble_eq_true rfl) fl_X7_13 (hF3.at 0 rfl) (hF3.lt 0 (Nat.le_of_ble_eq_true rfl)) rfl ?_
  refine E_iconst (x := 1) dX7_fair_11 (q := 12) rfl (by decide) ?_
  refine E_iald dX7_fair_12 (q := 13) rfl (hF3.at 2 rfl) (hF3.lt 2 (Nat.le_of_ble_eq_true rfl)) (by decide +kernel) ?_
  refine E_if_ne dX7_fair_13 (t := 20) (by decide) (q := 16) rfl (fun c4 => ?_) (fun c4 => ?_)
  · have hf := if_f c4 hf
    refine E_ldc dX7_fair_20 (q := 22) rfl cw_X7_171 ?_
    refine E_istore_n [(2, .int 1000000), (1, .int 0), (0, .ref (gB γ + 93))] dX7_fair_22 (q := 23) rfl rfl (Nat.le_of_ble_eq_true rfl) rfl ?_
    refine E_iconst (x := 0) dX7_fair_23 (q := 24) rfl (by decide) ?_
    refine E_istore_n [(3, .int 0), (2, .int 1000000), (1, .int 0), (0, .ref (gB γ + 93))] dX7_fair_24 (q := 25) rfl rfl (Nat.le_of_ble_eq_true rfl) rfl ?_
    obtain ⟨t33, hxt33, hf⟩ := bnd hf
    refine E_sub [3, 2, 1, 0] rfl ?_
    refine L_X7_fair_3 hn_m hxt33 ?_
    show Ev γ M_X7_fair _ n (put 93 (mdB γ 93 0 m_trace m_text m_typed m_next m_token m_place m_value m_fault m_many m_sees m_cold m_first m_told m_s m_w m_kept m_isKept m_undos m_undoMany m_foundMan m_foundHours m_foundIs m_foundMany m_row m_best) h) [(1, .int t33.1), (2, .int t33.2)] 117 [] _
    refine E_iload_n 0 dX7_fair_117 (q := 118) rfl rfl rfl ?_
    refine E_iload_n 1 dX7_fair_118 (q := 119) rfl rfl rfl ?_
    refine E_isub dX7_fair_119 (q := 120) rfl ?_
    obtain rfl := Option.some.inj hf
    exact E_iret dX7_fair_120 rfl ⟨rfl, rfl, rfl⟩
  · have hf := if_t c4 hf
    refine E_iconst (x := 0) dX7_fair_16 (q := 17) rfl (by decide) ?_
    refine E_goto (q := 22) dX7_fair_17 (by decide) ?_
    refine E_istore_n [(2, .int 0), (1, .int 0), (0, .ref (gB γ + 93))] dX7_fair_22 (q := 23) rfl rfl (Nat.le_of_ble_eq_true rfl) rfl ?_
    refine E_iconst (x := 0) dX7_fair_23 (q := 24) rfl (by decide) ?_
    refine E_istore_n [(3, .int 0), (2, .int 0), (1, .int 0), (0, .ref (gB γ + 93))] dX7_fair_24 (q := 25) rfl rfl (Nat.le_of_ble_eq_true rfl) rfl ?_
    obtain ⟨t18, hxt18, hf⟩ := bnd hf
    refine E_sub [3, 2, 1, 0] rfl ?_
    refine L_X7_fair_1 hn_m hxt18 ?_
    show Ev γ M_X7_fair _ n (put 93 (mdB γ 93 0 m_trace m_text m_typed m_next m_token m_place m_value m_fault m_many m_sees m_cold m_first m_told m_s m_w m_kept m_isKept m_undos m_undoMany m_foundMan m_foundHours m_foundIs m_foundMany m_row m_best) h) [(1, .int t18.1), (2, .int t18.2)] 117 [] _
    refine E_iload_n 0 dX7_fair_117 (q := 118) rfl rfl rfl ?_
    refine E_iload_n 1 dX7_fair_118 (q := 119) rfl rfl rfl ?_
    refine E_isub dX7_fair_119 (q := 120) rfl ?_
    obtain rfl := Option.some.inj hf
    exact E_iret dX7_fair_120 rfl ⟨rfl, rfl, rfl⟩

-- PostReliefModel.cow(III)I
def f_X7_cow (N : Nat) (a1 : Int32) (a2 : Int32) (a3 : Int32) (m_thrown : Int32) : Option (Int32 × Int32) :=
  ((f_X7_in N a1 0 9).bind fun z3 => (if z3 = 0 then some ((-1), 0) else ((f_X7_in N a2 0 9).bind fun z5 => (if z5 = 0 then some ((-1), 0) else ((f_X7_in N a3 0 1).bind fun z7 => (if z7 = 0 then some ((-1), 0) else ((f_X7_part N (a1 * a2) ((a1 * a2) + (10 * (10 - a1))) a3).bind fun z9 => some (z9, 0))))))))
set_option maxHeartbeats 4000000 in
set_option maxRecDepth 100000 in
theorem m_X7_cow {γ : GX} {n : Nat} {N : Nat} {h : HP} {a1 : Int32} {a2 : Int32} {a3 : Int32} {m_thrown : Int32} {m_trace : Int64} {m_text : FN} {m_typed : Int32} {m_next : Int32} {m_token : Int32} {m_place : Int32} {m_value : Int32} {m_fault : Int32} {m_many : FN} {m_sees : FN} {m_cold : FN} {m_first : FN} {m_told : Int32} {m_s : FN} {m_w : FN} {m_kept : FN} {m_isKept : FN} {m_undos : FN} {m_undoMany : Int32} {m_foundMan : FN} {m_foundHours : FN} {m_foundIs : FN} {m_foundMany : Int32} {m_row : FN} {m_best : FN} (hH_m : Has n 93 (mdB γ 93 m_thrown m_trace m_text m_typed m_next m_token m_place m_value m_fault m_many m_sees m_cold m_first m_told m_s m_w m_kept m_isKept m_undos m_undoMany m_foundMan m_foundHours m_foundIs m_foundMany m_row m_best) h) {z : Int32 × Int32} (hf : f_X7_cow N a1 a2 a3 m_thrown = some z)  : Ct γ M_X7_cow n h [.ref (gB γ + 93), .int a1, .int a2, .int a3] (Done (some (.int z.1)) n (put 93 (mdB γ 93 z.2 m_trace m_text m_typed m_next m_token m_place m_value m_fault m_many m_sees m_cold m_first m_told m_s m_w m_kept m_isKept m_undos m_undoMany m_foundMan m_foundHours m_foundIs m_foundMany m_row m_best) h)) := by
  have hn_m : 93 + 16 ≤ n := hH_m.1
  refine Ct.heap (h := (put 93 (mdB γ 93 m_thrown m_trace m_text m_typed m_next m_token m_place m_value m_fault m_many m_sees m_cold m_first m_told m_s m_w m_kept m_isKept m_undos m_undoMany m_foundMan m_foundHours m_foundIs m_foundMany m_row m_best) h)) (put_self hH_m).symm ?_
  refine Ct_of_Ev (by decide) (fun h => by cases h) (Nat.le_of_ble_eq_true rfl) ?_
  show Ev γ M_X7_cow (0, 0) n (put 93 (mdB γ 93 m_thrown m_trace m_text m_typed m_next m_token m_place m_value m_fault m_many m_sees m_cold m_first m_told m_s m_w m_kept m_isKept m_undos m_undoMany m_foundMan m_foundHours m_foundIs m_foundMany m_row m_best) h) [(0, .ref (gB γ + 93)), (1, .int a1), (2, .int a2), (3, .int a3)] 0 [] _
  unfold f_X7_cow at hf
  refine E_aload_n 0 dX7_cow_0 (q := 1) rfl rfl rfl ?_
  refine E_iconst (x := 0) dX7_cow_1 (q := 2) rfl (by decide) ?_
  have hF1 : Has n 93 (mdB γ 93 m_thrown m_trace m_text m_typed m_next m_token m_place m_value m_fault m_many m_sees m_cold m_first m_told m_s m_w m_kept m_isKept m_undos m_undoMany m_foundMan m_foundHours m_foundIs m_foundMany m_row m_best) (put 93 (mdB γ 93 m_thrown m_trace m_text m_typed m_next m_token m_place m_value m_fault m_many m_sees m_cold m_first m_told m_s m_w m_kept m_isKept m_undos m_undoMany m_foundMan m_foundHours m_foundIs m_foundMany m_row m_best) h) := (has_put hn_m)
  refine E_put 0 dX7_cow_2 (q := 5) rfl ckX7 (Nat.le_of_ble_eq_true rfl) fl_X7_56 rfl rfl rfl (hF1.at 0 rfl) (hF1.lt 0 (Nat.le_of_ble_eq_true rfl)) (Nat.le_of_ble_eq_true rfl) (up_put (i := 0) (cs' := (mdB γ 93 0 m_trace m_text m_typed m_next m_token m_place m_value m_fault m_many m_sees m_cold m_first m_told m_s m_w m_kept m_isKept m_undos m_undoMany m_foundMan m_foundHours m_foundIs m_foundMany m_row m_best)) (Nat.le_of_ble_eq_true rfl) rfl) ?_
  refine E_iload_n 1 dX7_cow_5 (q := 6) rfl rfl rfl ?_
  refine E_iconst (x := 0) dX7_cow_6 (q := 7) rfl (by decide) ?_
  refine E_bipush (x := 9) dX7_cow_7 (q := 9) rfl (by decide) ?_
  obtain ⟨z3, hxz3, hf⟩ := bnd hf
  refine E_cS (as := [.int a1, .int 0, .int 9]) (rest := []) (u' := (0, 0)) (st' := [.int z3]) dX7_cow_9 (q := 12) rfl lkm_X7_in lks_X7_60 (Nat.le_of_ble_eq_true rfl) ⟨Nat.le_refl _, Nat.le_refl _⟩ (Nat.le_of_ble_eq_true rfl) rfl rfl (m_X7_in (N := N)  hxz3) rfl rfl rfl ?_
  refine E_if_eq dX7_cow_12 (t := 34) (by decide) (q := 15) rfl (fun c4 => ?_) (fun c4 => ?_)
  · have hf := if_t c4 hf
    refine E_iconst (x := (-1)) dX7_cow_34 (q := 35) rfl (by decide) ?_
    obtain rfl := Option.some.inj hf
    exact E_iret dX7_cow_35 rfl ⟨rfl, rfl, rfl⟩
  · have hf := if_f c4 hf
    refine E_iload_n 2 dX7_cow_15 (q := 16) rfl rfl rfl ?_
    refine E_iconst (x := 0) dX7_cow_16 (q := 17) rfl (by decide) ?_
    refine E_bipush (x := 9) dX7_cow_17 (q := 19) rfl (by decide) ?_
    obtain ⟨z5, hxz5, hf⟩ := bnd hf
    refine E_cS (as := [.int a2, .int 0, .int 9]) (rest := []) (u' := (0, 0)) (st' := [.int z5]) dX7_cow_19 (q := 22) rfl lkm_X7_in lks_X7_60 (Nat.le_of_ble_eq_true rfl) ⟨Nat.le_refl _, Nat.le_refl _⟩ (Nat.le_of_ble_eq_true rfl) rfl rfl (m_X7_in (N := N)  hxz5) rfl rfl rfl ?_
    refine E_if_eq dX7_cow_22 (t := 34) (by decide) (q := 25) rfl (fun c6 => ?_) (fun c6 => ?_)
    · have hf := if_t c6 hf
      refine E_iconst (x := (-1)) dX7_cow_34 (q := 35) rfl (by decide) ?_
      obtain rfl := Option.some.inj hf
      exact E_iret dX7_cow_35 rfl ⟨rfl, rfl, rfl⟩
    · have hf := if_f c6 hf
      refine E_iload_n 3 dX7_cow_25 (q := 26) rfl rfl rfl ?_
      refine E_iconst (x := 0) dX7_cow_26 (q := 27) rfl (by decide) ?_
      refine E_iconst (x := 1) dX7_cow_27 (q := 28) rfl (by decide) ?_
      obtain ⟨z7, hxz7, hf⟩ := bnd hf
      refine E_cS (as := [.int a3, .int 0, .int 1]) (rest := []) (u' := (0, 0)) (st' := [.int z7]) dX7_cow_28 (q := 31) rfl lkm_X7_in lks_X7_60 (Nat.le_of_ble_eq_true rfl) ⟨Nat.le_refl _, Nat.le_refl _⟩ (Nat.le_of_ble_eq_true rfl) rfl rfl (m_X7_in (N := N)  hxz7) rfl rfl rfl ?_
      refine E_if_ne dX7_cow_31 (t := 36) (by decide) (q := 34) rfl (fun c8 => ?_) (fun c8 => ?_)
      · have hf := if_f c8 hf
        refine E_iload_n 1 dX7_cow_36 (q := 37) rfl rfl rfl ?_
        refine E_iload_n 2 dX7_cow_37 (q := 38) rfl rfl rfl ?_
        refine E_imul dX7_cow_38 (q := 39) rfl ?_
        refine E_iload_n 1 dX7_cow_39 (q := 40) rfl rfl rfl ?_
        refine E_iload_n 2 dX7_cow_40 (q := 41) rfl rfl rfl ?_
        refine E_imul dX7_cow_41 (q := 42) rfl ?_
        refine E_bipush (x := 10) dX7_cow_42 (q := 44) rfl (by decide) ?_
        refine E_bipush (x := 10) dX7_cow_44 (q := 46) rfl (by decide) ?_
        refine E_iload_n 1 dX7_cow_46 (q := 47) rfl rfl rfl ?_
        refine E_isub dX7_cow_47 (q := 48) rfl ?_
        refine E_imul dX7_cow_48 (q := 49) rfl ?_
        refine E_iadd dX7_cow_49 (q := 50) rfl ?_
        refine E_iload_n 3 dX7_cow_50 (q := 51) rfl rfl rfl ?_
        obtain ⟨z9, hxz9, hf⟩ := bnd hf
        refine E_cS (as := [.int (a1 * a2), .int ((a1 * a2) + (10 * (10 - a1))), .int a3]) (rest := []) (u' := (0, 0)) (st' := [.int z9]) dX7_cow_51 (q := 54) rfl lkm_X7_part lks_X7_188 (Nat.le_of_ble_eq_true rfl) ⟨Nat.le_refl _, Nat.le_refl _⟩ (Nat.le_of_ble_eq_true rfl) rfl rfl (m_X7_part (N := N)  hxz9) rfl rfl rfl ?_
        obtain rfl := Option.some.inj hf
        exact E_iret dX7_cow_54 rfl ⟨rfl, rfl, rfl⟩
      · have hf := if_t c8 hf
        refine E_iconst (x := (-1)) dX7_cow_34 (q := 35) rfl (by decide) ?_
        obtain rfl := Option.some.inj hf
        exact E_iret dX7_cow_35 rfl ⟨rfl, rfl, rfl⟩

-- PostReliefModel.rate(II)I
def f_X7_rate (N : Nat) (a1 : Int32) (a2 : Int32) (m_thrown : Int32) (m_trace : Int64) (m_many : FN) (m_sees : FN) (m_cold : FN) (m_s : FN) : Option (Int32 × Int32 × Int64) :=
  ((f_X7_in N a1 0 5).bind fun z3 => (if z3 = 0 then some ((-1000000), 0, m_trace) else ((f_X7_isPost N a2 m_many).bind fun z5 => (if z5 = 0 then some ((-1000000), 0, m_trace) else ((f_X7_manAt_s N a2 m_many m_s).bind fun z8 => (if ix a2 10 = true then (if ix (13 + a2) 48 = true then (if z8 = (-9) then (if a1 = 0 then some ((m_cold (ci a2)), 0, (m_trace + 1)) else (if a1 = 1 then some (((m_cold (ci a2)) + (m_s (ci (13 + a2)))), 0, (m_trace + 11)) else (if a1 = 2 then some (((m_cold (ci a2)) - 0), 0, (m_trace + 101)) else (if a1 = 3 then some ((2 * ((m_cold (ci a2)) + (m_s (ci (13 + a2))))), 0, (m_trace + 1011)) else (if a1 = 4 then some ((((m_cold (ci a2)) - 0) + a2), 0, (m_trace + 10101)) else ((f_X7_ones N (m_sees (ci a2))).bind fun z25 => some (((m_cold (ci a2)) + z25), 0, (m_trace + 100001)))))))) else (if ix (1 + z8) 48 = true then (if a1 = 0 then some ((m_cold (ci a2)), 0, (m_trace + 1)) else (if a1 = 1 then some (((m_cold (ci a2)) + (m_s (ci (13 + a2)))), 0, (m_trace + 11)) else (if a1 = 2 then some (((m_cold (ci a2)) - (m_s (ci (1 + z8)))), 0, (m_trace + 101)) else (if a1 = 3 then some ((2 * ((m_cold (ci a2)) + (m_s (ci (13 + a2))))), 0, (m_trace + 1011)) else (if a1 = 4 then some ((((m_cold (ci a2)) - (m_s (ci (1 + z8)))) + a2), 0, (m_trace + 10101)) else ((f_X7_ones N (m_sees (ci a2))).bind fun z40 => some (((m_cold (ci a2)) + z40), 0, (m_trace + 100001)))))))) else none)) else none) else none))))))
set_option maxHeartbeats 4000000 in
set_option maxRecDepth 100000 in
theorem m_X7_rate {γ : GX} {n : Nat} {N : Nat} {h : HP} {a1 : Int32} {a2 : Int32} {m_thrown : Int32} {m_trace : Int64} {m_text : FN} {m_typed : Int32} {m_next : Int32} {m_token : Int32} {m_place : Int32} {m_value : Int32} {m_fault : Int32} {m_many : FN} {m_sees : FN} {m_cold : FN} {m_first : FN} {m_told : Int32} {m_s : FN} {m_w : FN} {m_kept : FN} {m_isKept : FN} {m_undos : FN} {m_undoMany : Int32} {m_foundMan : FN} {m_foundHours : FN} {m_foundIs : FN} {m_foundMany : Int32} {m_row : FN} {m_best : FN} (hH_m : Has n 93 (mdB γ 93 m_thrown m_trace m_text m_typed m_next m_token m_place m_value m_fault m_many m_sees m_cold m_first m_told m_s m_w m_kept m_isKept m_undos m_undoMany m_foundMan m_foundHours m_foundIs m_foundMany m_row m_best) h) {z : Int32 × Int32 × Int64} (hf : f_X7_rate N a1 a2 m_thrown m_trace m_many m_sees m_cold m_s = some z)  : Ct γ M_X7_rate n h [.ref (gB γ + 93), .int a1, .int a2] (Done (some (.int z.1)) n (put 93 (mdB γ 93 z.2.1 z.2.2 m_text m_typed m_next m_token m_place m_value m_fault m_many m_sees m_cold m_first m_told m_s m_w m_kept m_isKept m_undos m_undoMany m_foundMan m_foundHours m_foundIs m_foundMany m_row m_best) h)) := by
  have hn_m : 93 + 16 ≤ n := hH_m.1
  refine Ct.heap (h := (put 93 (mdB γ 93 m_thrown m_trace m_text m_typed m_next m_token m_place m_value m_fault m_many m_sees m_cold m_first m_told m_s m_w m_kept m_isKept m_undos m_undoMany m_foundMan m_foundHours m_foundIs m_foundMany m_row m_best) h)) (put_self hH_m).symm ?_
  refine Ct_of_Ev (by decide) (fun h => by cases h) (Nat.le_of_ble_eq_true rfl) ?_
  show Ev γ M_X7_rate (0, 0) n (put 93 (mdB γ 93 m_thrown m_trace m_text m_typed m_next m_token m_place m_value m_fault m_many m_sees m_cold m_first m_told m_s m_w m_kept m_isKept m_undos m_undoMany m_foundMan m_foundHours m_foundIs m_foundMany m_row m_best) h) [(0, .ref (gB γ + 93)), (1, .int a1), (2, .int a2)] 0 [] _
  unfold f_X7_rate at hf
  refine E_aload_n 0 dX7_rate_0 (q := 1) rfl rfl rfl ?_
  refine E_iconst (x := 0) dX7_rate_1 (q := 2) rfl (by decide) ?_
  have hF1 : Has n 93 (mdB γ 93 m_thrown m_trace m_text m_typed m_next m_token m_place m_value m_fault m_many m_sees m_cold m_first m_told m_s m_w m_kept m_isKept m_undos m_undoMany m_foundMan m_foundHours m_foundIs m_foundMany m_row m_best) (put 93 (mdB γ 93 m_thrown m_trace m_text m_typed m_next m_token m_place m_value m_fault m_many m_sees m_cold m_first m_told m_s m_w m_kept m_isKept m_undos m_undoMany m_foundMan m_foundHours m_foundIs m_foundMany m_row m_best) h) := (has_put hn_m)
  refine E_put 0 dX7_rate_2 (q := 5) rfl ckX7 (Nat.le_of_ble_eq_true rfl) fl_X7_56 rfl rfl rfl (hF1.at 0 rfl) (hF1.lt 0 (Nat.le_of_ble_eq_true rfl)) (Nat.le_of_ble_eq_true rfl) (up_put (i := 0) (cs' := (mdB γ 93 0 m_trace m_text m_typed m_next m_token m_place m_value m_fault m_many m_sees m_cold m_first m_told m_s m_w m_kept m_isKept m_undos m_undoMany m_foundMan m_foundHours m_foundIs m_foundMany m_row m_best)) (Nat.le_of_ble_eq_true rfl) rfl) ?_
  refine E_iload_n 1 dX7_rate_5 (q := 6) rfl rfl rfl ?_
  refine E_iconst (x := 0) dX7_rate_6 (q := 7) rfl (by decide) ?_
  refine E_iconst (x := 5) dX7_rate_7 (q := 8) rfl (by decide) ?_
  obtain ⟨z3, hxz3, hf⟩ := bnd hf
  refine E_cS (as := [.int a1, .int 0, .int 5]) (rest := []) (u' := (0, 0)) (st' := [.int z3]) dX7_rate_8 (q := 11) rfl lkm_X7_in lks_X7_60 (Nat.le_of_ble_eq_true rfl) ⟨Nat.le_refl _, Nat.le_refl _⟩ (Nat.le_of_ble_eq_true rfl) rfl rfl (m_X7_in (N := N)  hxz3) rfl rfl rfl ?_
  refine E_if_eq dX7_rate_11 (t := 22) (by decide) (q := 14) rfl (fun c4 => ?_) (fun c4 => ?_)
  · have hf := if_t c4 hf
    refine E_ldc dX7_rate_22 (q := 24) rfl cw_X7_199 ?_
    obtain rfl := Option.some.inj hf
    exact E_iret dX7_rate_24 rfl ⟨rfl, rfl, rfl⟩
  · have hf := if_f c4 hf
    refine E_aload_n 0 dX7_rate_14 (q := 15) rfl rfl rfl ?_
    refine E_iload_n 2 dX7_rate_15 (q := 16) rfl rfl rfl ?_
    obtain ⟨z5, hxz5, hf⟩ := bnd hf
    have hF6 : Has n 93 (mdB γ 93 0 m_trace m_text m_typed m_next m_token m_place m_value m_fault m_many m_sees m_cold m_first m_told m_s m_w m_kept m_isKept m_undos m_undoMany m_foundMan m_foundHours m_foundIs m_foundMany m_row m_best) (put 93 (mdB γ 93 0 m_trace m_text m_typed m_next m_token m_place m_value m_fault m_many m_sees m_cold m_first m_told m_s m_w m_kept m_isKept m_undos m_undoMany m_foundMan m_foundHours m_foundIs m_foundMany m_row m_best) h) := (has_put hn_m)
    refine E_cV (as := [.int a2]) (k := 93) (rest := []) (u' := (0, 0)) (st' := [.int z5]) dX7_rate_16 (q := 19) rfl lkm_X7_isPost lkv_X7_120 (Nat.le_of_ble_eq_true rfl) ckX7 (hF6.at 0 rfl) (hF6.lt 0 (Nat.le_of_ble_eq_true rfl)) ⟨Nat.le_refl _, Nat.le_refl _⟩ (Nat.le_of_ble_eq_true rfl) rfl rfl (m_X7_isPost (N := N)  hF6 hxz5) rfl rfl rfl ?_
    refine E_if_ne dX7_rate_19 (t := 25) (by decide) (q := 22) rfl (fun c7 => ?_) (fun c7 => ?_)
    · have hf := if_f c7 hf
      refine E_aload_n 0 dX7_rate_25 (q := 26) rfl rfl rfl ?_
      refine E_aload_n 0 dX7_rate_26 (q := 27) rfl rfl rfl ?_
      refine E_get 14 dX7_rate_27 (q := 30) rfl ckX7 (Nat.le_of_ble_eq_true rfl) fl_X7_25 (hF6.at 0 rfl) (hF6.lt 0 (Nat.le_of_ble_eq_true rfl)) rfl ?_
      refine E_iload_n 2 dX7_rate_30 (q := 31) rfl rfl rfl ?_
      obtain ⟨z8, hxz8, hf⟩ := bnd hf
      refine E_cV (as := [.ref (gB γ + (93 + 6)), .int a2]) (k := 93) (rest := []) (u' := (0, 0)) (st' := [.int z8]) dX7_rate_31 (q := 34) rfl lkm_X7_manAt lkv_X7_124 (Nat.le_of_ble_eq_true rfl) ckX7 (hF6.at 0 rfl) (hF6.lt 0 (Nat.le_of_ble_eq_true rfl)) ⟨Nat.le_refl _, Nat.le_refl _⟩ (Nat.le_of_ble_eq_true rfl) rfl rfl (m_X7_manAt_s (N := N)  hF6 hxz8) rfl rfl rfl ?_
      refine E_istore_n [(3, .int z8), (0, .ref (gB γ + 93)), (1, .int a1), (2, .int a2)] dX7_rate_34 (q := 35) rfl rfl (Nat.le_of_ble_eq_true rfl) rfl ?_
      refine E_aload_n 1 dX7_rate_35 (q := 36) rfl rfl rfl ?_
      refine E_get 11 dX7_rate_36 (q := 39) rfl ckX7 (Nat.le_of_ble_eq_true rfl) fl_X7_19 (hF6.at 0 rfl) (hF6.lt 0 (Nat.le_of_ble_eq_true rfl)) rfl ?_
      refine E_iload_n 3 dX7_rate_39 (q := 40) rfl rfl rfl ?_
      obtain ⟨g9, hf⟩ := gd hf
      refine E_iald dX7_rate_40 (q := 41) rfl (hF6.at 4 rfl) (hF6.lt 4 (Nat.le_of_ble_eq_true rfl)) g9 ?_
      refine E_aload_n 1 dX7_rate_41 (q := 42) rfl rfl rfl ?_
      refine E_get 14 dX7_rate_42 (q := 45) rfl ckX7 (Nat.le_of_ble_eq_true rfl) fl_X7_25 (hF6.at 0 rfl) (hF6.lt 0 (Nat.le_of_ble_eq_true rfl)) rfl ?_
      refine E_bipush (x := 13) dX7_rate_45 (q := 47) rfl (by decide) ?_
      refine E_iload_n 3 dX7_rate_47 (q := 48) rfl rfl rfl ?_
      refine E_iadd dX7_rate_48 (q := 49) rfl ?_
      obtain ⟨g10, hf⟩ := gd hf
      refine E_iald dX7_rate_49 (q := 50) rfl (hF6.at 6 rfl) (hF6.lt 6 (Nat.le_of_ble_eq_true rfl)) g10 ?_
      refine E_iadd dX7_rate_50 (q := 51) rfl ?_
      refine E_istore [(4, .int ((m_cold (ci a2)) + (m_s (ci (13 + a2))))), (3, .int z8), (0, .ref (gB γ + 93)), (1, .int a1), (2, .int a2)] dX7_rate_51 (q := 53) rfl (Nat.le_of_ble_eq_true rfl) rfl ?_
      refine E_aload_n 2 dX7_rate_53 (q := 54) rfl rfl rfl ?_
      refine E_get 11 dX7_rate_54 (q := 57) rfl ckX7 (Nat.le_of_ble_eq_true rfl) fl_X7_19 (hF6.at 0 rfl) (hF6.lt 0 (Nat.le_of_ble_eq_true rfl)) rfl ?_
      refine E_iload_n 4 dX7_rate_57 (q := 58) rfl rfl rfl ?_
      refine E_iald dX7_rate_58 (q := 59) rfl (hF6.at 4 rfl) (hF6.lt 4 (Nat.le_of_ble_eq_true rfl)) g9 ?_
      refine E_iload_n 1 dX7_rate_59 (q := 60) rfl rfl rfl ?_
      refine E_bipush (x := (-9)) dX7_rate_60 (q := 62) rfl (by decide) ?_
      refine E_icmp_ne dX7_rate_62 (t := 69) (by decide) (q := 65) rfl (fun c11 => ?_) (fun c11 => ?_)
      · have hf := if_f c11 hf
        refine E_aload_n 2 dX7_rate_69 (q := 70) rfl rfl rfl ?_
        refine E_get 14 dX7_rate_70 (q := 73) rfl ckX7 (Nat.le_of_ble_eq_true rfl) fl_X7_25 (hF6.at 0 rfl) (hF6.lt 0 (Nat.le_of_ble_eq_true rfl)) rfl ?_
        refine E_iconst (x := 1) dX7_rate_73 (q := 74) rfl (by decide) ?_
        refine E_iload_n 1 dX7_rate_74 (q := 75) rfl rfl rfl ?_
        refine E_iadd dX7_rate_75 (q := 76) rfl ?_
        obtain ⟨g26, hf⟩ := gd hf
        refine E_iald dX7_rate_76 (q := 77) rfl (hF6.at 6 rfl) (hF6.lt 6 (Nat.le_of_ble_eq_true rfl)) g26 ?_
        refine E_isub dX7_rate_77 (q := 78) rfl ?_
        refine E_istore [(5, .int ((m_cold (ci a2)) - (m_s (ci (1 + z8))))), (4, .int ((m_cold (ci a2)) + (m_s (ci (13 + a2))))), (3, .int z8), (0, .ref (gB γ + 93)), (1, .int a1), (2, .int a2)] dX7_rate_78 (q := 80) rfl (Nat.le_of_ble_eq_true rfl) rfl ?_
        refine E_aload_n 3 dX7_rate_80 (q := 81) rfl rfl rfl ?_
        refine E_dup dX7_rate_81 (q := 82) rfl rfl ?_
        refine E_get 1 dX7_rate_82 (q := 85) rfl ckX7 (Nat.le_of_ble_eq_true rfl) fl_X7_200 (hF6.at 0 rfl) (hF6.lt 0 (Nat.le_of_ble_eq_true rfl)) rfl ?_
        refine E_iload_n 4 dX7_rate_85 (q := 86) rfl rfl rfl ?_
        refine E_if_ne dX7_rate_86 (t := 93) (by decide) (q := 89) rfl (fun c27 => ?_) (fun c27 => ?_)
        · have hf := if_f c27 hf
          refine E_iload_n 4 dX7_rate_93 (q := 94) rfl rfl rfl ?_
          refine E_iconst (x := 1) dX7_rate_94 (q := 95) rfl (by decide) ?_
          refine E_icmp_ne dX7_rate_95 (t := 104) (by decide) (q := 98) rfl (fun c30 => ?_) (fun c30 => ?_)
          · have hf := if_f c30 hf
            refine E_iload_n 4 dX7_rate_104 (q := 105) rfl rfl rfl ?_
            refine E_iconst (x := 2) dX7_rate_105 (q := 106) rfl (by decide) ?_
            refine E_icmp_ne dX7_rate_106 (t := 115) (by decide) (q := 109) rfl (fun c32 => ?_) (fun c32 => ?_)
            · have hf := if_f c32 hf
              refine E_iload_n 4 dX7_rate_115 (q := 116) rfl rfl rfl ?_
              refine E_iconst (x := 3) dX7_rate_116 (q := 117) rfl (by decide) ?_
              refine E_icmp_ne dX7_rate_117 (t := 126) (by decide) (q := 120) rfl (fun c34 => ?_) (fun c34 => ?_)
              · have hf := if_f c34 hf
                refine E_iload_n 4 dX7_rate_126 (q := 127) rfl rfl rfl ?_
                refine E_iconst (x := 4) dX7_rate_127 (q := 128) rfl (by decide) ?_
                refine E_icmp_ne dX7_rate_128 (t := 137) (by decide) (q := 131) rfl (fun c36 => ?_) (fun c36 => ?_)
                · have hf := if_f c36 hf
                  refine E_ldc2 dX7_rate_137 (q := 140) rfl cw_X7_212 ?_
                  refine E_ladd dX7_rate_140 (q := 141) rfl ?_
                  refine E_put 1 dX7_rate_141 (q := 144) rfl ckX7 (Nat.le_of_ble_eq_true rfl) fl_X7_200 rfl rfl rfl (hF6.at 0 rfl) (hF6.lt 0 (Nat.le_of_ble_eq_true rfl)) (Nat.le_of_ble_eq_true rfl) (up_put (i := 0) (cs' := (mdB γ 93 0 (m_trace + 100001) m_text m_typed m_next m_token m_place m_value m_fault m_many m_sees m_cold m_first m_told m_s m_w m_kept m_isKept m_undos m_undoMany m_foundMan m_foundHours m_foundIs m_foundMany m_row m_best)) (Nat.le_of_ble_eq_true rfl) rfl) ?_
                  refine E_iload_n 4 dX7_rate_144 (q := 145) rfl rfl rfl ?_
                  refine E_if_ne dX7_rate_145 (t := 157) (by decide) (q := 148) rfl (fun _ => ?_) (fun c => absurd c c27)
                  refine E_iload_n 4 dX7_rate_157 (q := 158) rfl rfl rfl ?_
                  refine E_iconst (x := 1) dX7_rate_158 (q := 159) rfl (by decide) ?_
                  refine E_icmp_ne dX7_rate_159 (t := 167) (by decide) (q := 162) rfl (fun _ => ?_) (fun c => absurd c c30)
                  refine E_iload_n 4 dX7_rate_167 (q := 168) rfl rfl rfl ?_
                  refine E_iconst (x := 2) dX7_rate_168 (q := 169) rfl (by decide) ?_
                  refine E_icmp_ne dX7_rate_169 (t := 177) (by decide) (q := 172) rfl (fun _ => ?_) (fun c => absurd c c32)
                  refine E_iload_n 4 dX7_rate_177 (q := 178) rfl rfl rfl ?_
                  refine E_iconst (x := 3) dX7_rate_178 (q := 179) rfl (by decide) ?_
                  refine E_icmp_ne dX7_rate_179 (t := 189) (by decide) (q := 182) rfl (fun _ => ?_) (fun c => absurd c c34)
                  refine E_iload_n 4 dX7_rate_189 (q := 190) rfl rfl rfl ?_
                  refine E_iconst (x := 4) dX7_rate_190 (q := 191) rfl (by decide) ?_
                  refine E_icmp_ne dX7_rate_191 (t := 201) (by decide) (q := 194) rfl (fun _ => ?_) (fun c => absurd c c36)
                  refine E_aload_n 3 dX7_rate_201 (q := 202) rfl rfl rfl ?_
                  have hF39 : Has n 93 (mdB γ 93 0 (m_trace + 100001) m_text m_typed m_next m_token m_place m_value m_fault m_many m_sees m_cold m_first m_told m_s m_w m_kept m_isKept m_undos m_undoMany m_foundMan m_foundHours m_foundIs m_foundMany m_row m_best) (put 93 (mdB γ 93 0 (m_trace + 100001) m_text m_typed m_next m_token m_place m_value m_fault m_many m_sees m_cold m_first m_told m_s m_w m_kept m_isKept m_undos m_undoMany m_foundMan m_foundHours m_foundIs m_foundMany m_row m_best) h) := (has_put hn_m)
                  refine E_get 11 dX7_rate_202 (q := 205) rfl ckX7 (Nat.le_of_ble_eq_true rfl) fl_X7_19 (hF39.at 0 rfl) (hF39.lt 0 (Nat.le_of_ble_eq_true rfl)) rfl ?_
                  refine E_iload_n 5 dX7_rate_205 (q := 206) rfl rfl rfl ?_
                  refine E_iald dX7_rate_206 (q := 207) rfl (hF39.at 4 rfl) (hF39.lt 4 (Nat.le_of_ble_eq_true rfl)) g9 ?_
                  refine E_aload_n 3 dX7_rate_207 (q := 208) rfl rfl rfl ?_
                  refine E_get 10 dX7_rate_208 (q := 211) rfl ckX7 (Nat.le_of_ble_eq_true rfl) fl_X7_16 (hF39.at 0 rfl) (hF39.lt 0 (Nat.le_of_ble_eq_true rfl)) rfl ?_
                  refine E_iload_n 5 dX7_rate_211 (q := 212) rfl rfl rfl ?_
                  refine E_iald dX7_rate_212 (q := 213) rfl (hF39.at 3 rfl) (hF39.lt 3 (Nat.le_of_ble_eq_true rfl)) g9 ?_
                  obtain ⟨z40, hxz40, hf⟩ := bnd hf
                  refine E_cS (as := [.int (m_sees (ci a2))]) (rest := [.int (m_cold (ci a2))]) (u' := (0, 0)) (st' := [.int z40, .int (m_cold (ci a2))]) dX7_rate_213 (q := 216) rfl lkm_X7_ones lks_X7_151 (Nat.le_of_ble_eq_true rfl) ⟨Nat.le_refl _, Nat.le_refl _⟩ (Nat.le_of_ble_eq_true rfl) rfl rfl (m_X7_ones (N := N)  hxz40) rfl rfl rfl ?_
                  refine E_iadd dX7_rate_216 (q := 217) rfl ?_
                  obtain rfl := Option.some.inj hf
                  exact E_iret dX7_rate_217 rfl ⟨rfl, rfl, rfl⟩
                · have hf := if_t c36 hf
                  refine E_ldc2 dX7_rate_131 (q := 134) rfl cw_X7_210 ?_
                  refine E_goto (q := 140) dX7_rate_134 (by decide) ?_
                  refine E_ladd dX7_rate_140 (q := 141) rfl ?_
                  refine E_put 1 dX7_rate_141 (q := 144) rfl ckX7 (Nat.le_of_ble_eq_true rfl) fl_X7_200 rfl rfl rfl (hF6.at 0 rfl) (hF6.lt 0 (Nat.le_of_ble_eq_true rfl)) (Nat.le_of_ble_eq_true rfl) (up_put (i := 0) (cs' := (mdB γ 93 0 (m_trace + 10101) m_text m_typed m_next m_token m_place m_value m_fault m_many m_sees m_cold m_first m_told m_s m_w m_kept m_isKept m_undos m_undoMany m_foundMan m_foundHours m_foundIs m_foundMany m_row m_best)) (Nat.le_of_ble_eq_true rfl) rfl) ?_
                  refine E_iload_n 4 dX7_rate_144 (q := 145) rfl rfl rfl ?_
                  refine E_if_ne dX7_rate_145 (t := 157) (by decide) (q := 148) rfl (fun _ => ?_) (fun c => absurd c c27)
                  refine E_iload_n 4 dX7_rate_157 (q := 158) rfl rfl rfl ?_
                  refine E_iconst (x := 1) dX7_rate_158 (q := 159) rfl (by decide) ?_
                  refine E_icmp_ne dX7_rate_159 (t := 167) (by decide) (q := 162) rfl (fun _ => ?_) (fun c => absurd c c30)
                  refine E_iload_n 4 dX7_rate_167 (q := 168) rfl rfl rfl ?_
                  refine E_iconst (x := 2) dX7_rate_168 (q := 169) rfl (by decide) ?_
                  refine E_icmp_ne dX7_rate_169 (t := 177) (by decide) (q := 172) rfl (fun _ => ?_) (fun c => absurd c c32)
                  refine E_iload_n 4 dX7_rate_177 (q := 178) rfl rfl rfl ?_
                  refine E_iconst (x := 3) dX7_rate_178 (q := 179) rfl (by decide) ?_
                  refine E_icmp_ne dX7_rate_179 (t := 189) (by decide) (q := 182) rfl (fun _ => ?_) (fun c => absurd c c34)
                  refine E_iload_n 4 dX7_rate_189 (q := 190) rfl rfl rfl ?_
                  refine E_iconst (x := 4) dX7_rate_190 (q := 191) rfl (by decide) ?_
                  refine E_icmp_ne dX7_rate_191 (t := 201) (by decide) (q := 194) rfl (fun c => absurd c36 c) (fun _ => ?_)
                  refine E_iload 0 dX7_rate_194 (q := 196) rfl rfl ?_
                  refine E_iload_n 5 dX7_rate_196 (q := 197) rfl rfl rfl ?_
                  refine E_iadd dX7_rate_197 (q := 198) rfl ?_
                  refine E_goto (q := 217) dX7_rate_198 (by decide) ?_
                  obtain rfl := Option.some.inj hf
                  exact E_iret dX7_rate_217 rfl ⟨rfl, rfl, rfl⟩
              · have hf := if_t c34 hf
                refine E_ldc2 dX7_rate_120 (q := 123) rfl cw_X7_208 ?_
                refine E_goto (q := 140) dX7_rate_123 (by decide) ?_
                refine E_ladd dX7_rate_140 (q := 141) rfl ?_
                refine E_put 1 dX7_rate_141 (q := 144) rfl ckX7 (Nat.le_of_ble_eq_true rfl) fl_X7_200 rfl rfl rfl (hF6.at 0 rfl) (hF6.lt 0 (Nat.le_of_ble_eq_true rfl)) (Nat.le_of_ble_eq_true rfl) (up_put (i := 0) (cs' := (mdB γ 93 0 (m_trace + 1011) m_text m_typed m_next m_token m_place m_value m_fault m_many m_sees m_cold m_first m_told m_s m_w m_kept m_isKept m_undos m_undoMany m_foundMan m_foundHours m_foundIs m_foundMany m_row m_best)) (Nat.le_of_ble_eq_true rfl) rfl) ?_
                refine E_iload_n 4 dX7_rate_144 (q := 145) rfl rfl rfl ?_
                refine E_if_ne dX7_rate_145 (t := 157) (by decide) (q := 148) rfl (fun _ => ?_) (fun c => absurd c c27)
                refine E_iload_n 4 dX7_rate_157 (q := 158) rfl rfl rfl ?_
                refine E_iconst (x := 1) dX7_rate_158 (q := 159) rfl (by decide) ?_
                refine E_icmp_ne dX7_rate_159 (t := 167) (by decide) (q := 162) rfl (fun _ => ?_) (fun c => absurd c c30)
                refine E_iload_n 4 dX7_rate_167 (q := 168) rfl rfl rfl ?_
                refine E_iconst (x := 2) dX7_rate_168 (q := 169) rfl (by decide) ?_
                refine E_icmp_ne dX7_rate_169 (t := 177) (by decide) (q := 172) rfl (fun _ => ?_) (fun c => absurd c c32)
                refine E_iload_n 4 dX7_rate_177 (q := 178) rfl rfl rfl ?_
                refine E_iconst (x := 3) dX7_rate_178 (q := 179) rfl (by decide) ?_
                refine E_icmp_ne dX7_rate_179 (t := 189) (by decide) (q := 182) rfl (fun c => absurd c34 c) (fun _ => ?_)
                refine E_iconst (x := 2) dX7_rate_182 (q := 183) rfl (by decide) ?_
                refine E_iload 1 dX7_rate_183 (q := 185) rfl rfl ?_
                refine E_imul dX7_rate_185 (q := 186) rfl ?_
                refine E_goto (q := 217) dX7_rate_186 (by decide) ?_
                obtain rfl := Option.some.inj hf
                exact E_iret dX7_rate_217 rfl ⟨rfl, rfl, rfl⟩
            · have hf := if_t c32 hf
              refine E_ldc2 dX7_rate_109 (q := 112) rfl cw_X7_206 ?_
              refine E_goto (q := 140) dX7_rate_112 (by decide) ?_
              refine E_ladd dX7_rate_140 (q := 141) rfl ?_
              refine E_put 1 dX7_rate_141 (q := 144) rfl ckX7 (Nat.le_of_ble_eq_true rfl) fl_X7_200 rfl rfl rfl (hF6.at 0 rfl) (hF6.lt 0 (Nat.le_of_ble_eq_true rfl)) (Nat.le_of_ble_eq_true rfl) (up_put (i := 0) (cs' := (mdB γ 93 0 (m_trace + 101) m_text m_typed m_next m_token m_place m_value m_fault m_many m_sees m_cold m_first m_told m_s m_w m_kept m_isKept m_undos m_undoMany m_foundMan m_foundHours m_foundIs m_foundMany m_row m_best)) (Nat.le_of_ble_eq_true rfl) rfl) ?_
              refine E_iload_n 4 dX7_rate_144 (q := 145) rfl rfl rfl ?_
              refine E_if_ne dX7_rate_145 (t := 157) (by decide) (q := 148) rfl (fun _ => ?_) (fun c => absurd c c27)
              refine E_iload_n 4 dX7_rate_157 (q := 158) rfl rfl rfl ?_
              refine E_iconst (x := 1) dX7_rate_158 (q := 159) rfl (by decide) ?_
              refine E_icmp_ne dX7_rate_159 (t := 167) (by decide) (q := 162) rfl (fun _ => ?_) (fun c => absurd c c30)
              refine E_iload_n 4 dX7_rate_167 (q := 168) rfl rfl rfl ?_
              refine E_iconst (x := 2) dX7_rate_168 (q := 169) rfl (by decide) ?_
              refine E_icmp_ne dX7_rate_169 (t := 177) (by decide) (q := 172) rfl (fun c => absurd c32 c) (fun _ => ?_)
              refine E_iload 0 dX7_rate_172 (q := 174) rfl rfl ?_
              refine E_goto (q := 217) dX7_rate_174 (by decide) ?_
              obtain rfl := Option.some.inj hf
              exact E_iret dX7_rate_217 rfl ⟨rfl, rfl, rfl⟩
          · have hf := if_t c30 hf
            refine E_ldc2 dX7_rate_98 (q := 101) rfl cw_X7_204 ?_
            refine E_goto (q := 140) dX7_rate_101 (by decide) ?_
            refine E_ladd dX7_rate_140 (q := 141) rfl ?_
            refine E_put 1 dX7_rate_141 (q := 144) rfl ckX7 (Nat.le_of_ble_eq_true rfl) fl_X7_200 rfl rfl rfl (hF6.at 0 rfl) (hF6.lt 0 (Nat.le_of_ble_eq_true rfl)) (Nat.le_of_ble_eq_true rfl) (up_put (i := 0) (cs' := (mdB γ 93 0 (m_trace + 11) m_text m_typed m_next m_token m_place m_value m_fault m_many m_sees m_cold m_first m_told m_s m_w m_kept m_isKept m_undos m_undoMany m_foundMan m_foundHours m_foundIs m_foundMany m_row m_best)) (Nat.le_of_ble_eq_true rfl) rfl) ?_
            refine E_iload_n 4 dX7_rate_144 (q := 145) rfl rfl rfl ?_
            refine E_if_ne dX7_rate_145 (t := 157) (by decide) (q := 148) rfl (fun _ => ?_) (fun c => absurd c c27)
            refine E_iload_n 4 dX7_rate_157 (q := 158) rfl rfl rfl ?_
            refine E_iconst (x := 1) dX7_rate_158 (q := 159) rfl (by decide) ?_
            refine E_icmp_ne dX7_rate_159 (t := 167) (by decide) (q := 162) rfl (fun c => absurd c30 c) (fun _ => ?_)
            refine E_iload 1 dX7_rate_162 (q := 164) rfl rfl ?_
            refine E_goto (q := 217) dX7_rate_164 (by decide) ?_
            obtain rfl := Option.some.inj hf
            exact E_iret dX7_rate_217 rfl ⟨rfl, rfl, rfl⟩
        · have hf := if_t c27 hf
          refine E_lconst (x := 1) dX7_rate_89 (q := 90) rfl (by decide) ?_
          refine E_goto (q := 140) dX7_rate_90 (by decide) ?_
          refine E_ladd dX7_rate_140 (q := 141) rfl ?_
          refine E_put 1 dX7_rate_141 (q := 144) rfl ckX7 (Nat.le_of_ble_eq_true rfl) fl_X7_200 rfl rfl rfl (hF6.at 0 rfl) (hF6.lt 0 (Nat.le_of_ble_eq_true rfl)) (Nat.le_of_ble_eq_true rfl) (up_put (i := 0) (cs' := (mdB γ 93 0 (m_trace + 1) m_text m_typed m_next m_token m_place m_value m_fault m_many m_sees m_cold m_first m_told m_s m_w m_kept m_isKept m_undos m_undoMany m_foundMan m_foundHours m_foundIs m_foundMany m_row m_best)) (Nat.le_of_ble_eq_true rfl) rfl) ?_
          refine E_iload_n 4 dX7_rate_144 (q := 145) rfl rfl rfl ?_
          refine E_if_ne dX7_rate_145 (t := 157) (by decide) (q := 148) rfl (fun c => absurd c27 c) (fun _ => ?_)
          refine E_aload_n 3 dX7_rate_148 (q := 149) rfl rfl rfl ?_
          have hF29 : Has n 93 (mdB γ 93 0 (m_trace + 1) m_text m_typed m_next m_token m_place m_value m_fault m_many m_sees m_cold m_first m_told m_s m_w m_kept m_isKept m_undos m_undoMany m_foundMan m_foundHours m_foundIs m_foundMany m_row m_best) (put 93 (mdB γ 93 0 (m_trace + 1) m_text m_typed m_next m_token m_place m_value m_fault m_many m_sees m_cold m_first m_told m_s m_w m_kept m_isKept m_undos m_undoMany m_foundMan m_foundHours m_foundIs m_foundMany m_row m_best) h) := (has_put hn_m)
          refine E_get 11 dX7_rate_149 (q := 152) rfl ckX7 (Nat.le_of_ble_eq_true rfl) fl_X7_19 (hF29.at 0 rfl) (hF29.lt 0 (Nat.le_of_ble_eq_true rfl)) rfl ?_
          refine E_iload_n 5 dX7_rate_152 (q := 153) rfl rfl rfl ?_
          refine E_iald dX7_rate_153 (q := 154) rfl (hF29.at 4 rfl) (hF29.lt 4 (Nat.le_of_ble_eq_true rfl)) g9 ?_
          refine E_goto (q := 217) dX7_rate_154 (by decide) ?_
          obtain rfl := Option.some.inj hf
          exact E_iret dX7_rate_217 rfl ⟨rfl, rfl, rfl⟩
      · have hf := if_t c11 hf
        refine E_iconst (x := 0) dX7_rate_65 (q := 66) rfl (by decide) ?_
        refine E_goto (q := 77) dX7_rate_66 (by decide) ?_
        refine E_isub dX7_rate_77 (q := 78) rfl ?_
        refine E_istore [(5, .int ((m_cold (ci a2)) - 0)), (4, .int ((m_cold (ci a2)) + (m_s (ci (13 + a2))))), (3, .int z8), (0, .ref (gB γ + 93)), (1, .int a1), (2, .int a2)] dX7_rate_78 (q := 80) rfl (Nat.le_of_ble_eq_true rfl) rfl ?_
        refine E_aload_n 3 dX7_rate_80 (q := 81) rfl rfl rfl ?_
        refine E_dup dX7_rate_81 (q := 82) rfl rfl ?_
        refine E_get 1 dX7_rate_82 (q := 85) rfl ckX7 (Nat.le_of_ble_eq_true rfl) fl_X7_200 (hF6.at 0 rfl) (hF6.lt 0 (Nat.le_of_ble_eq_true rfl)) rfl ?_
        refine E_iload_n 4 dX7_rate_85 (q := 86) rfl rfl rfl ?_
        refine E_if_ne dX7_rate_86 (t := 93) (by decide) (q := 89) rfl (fun c12 => ?_) (fun c12 => ?_)
        · have hf := if_f c12 hf
          refine E_iload_n 4 dX7_rate_93 (q := 94) rfl rfl rfl ?_
          refine E_iconst (x := 1) dX7_rate_94 (q := 95) rfl (by decide) ?_
          refine E_icmp_ne dX7_rate_95 (t := 104) (by decide) (q := 98) rfl (fun c15 => ?_) (fun c15 => ?_)
          · have hf := if_f c15 hf
            refine E_iload_n 4 dX7_rate_104 (q := 105) rfl rfl rfl ?_
            refine E_iconst (x := 2) dX7_rate_105 (q := 106) rfl (by decide) ?_
            refine E_icmp_ne dX7_rate_106 (t := 115) (by decide) (q := 109) rfl (fun c17 => ?_) (fun c17 => ?_)
            · have hf := if_f c17 hf
              refine E_iload_n 4 dX7_rate_115 (q := 116) rfl rfl rfl ?_
              refine E_iconst (x := 3) dX7_rate_116 (q := 117) rfl (by decide) ?_
              refine E_icmp_ne dX7_rate_117 (t := 126) (by decide) (q := 120) rfl (fun c19 => ?_) (fun c19 => ?_)
              · have hf := if_f c19 hf
                refine E_iload_n 4 dX7_rate_126 (q := 127) rfl rfl rfl ?_
                refine E_iconst (x := 4) dX7_rate_127 (q := 128) rfl (by decide) ?_
                refine E_icmp_ne dX7_rate_128 (t := 137) (by decide) (q := 131) rfl (fun c21 => ?_) (fun c21 => ?_)
                · have hf := if_f c21 hf
                  refine E_ldc2 dX7_rate_137 (q := 140) rfl cw_X7_212 ?_
                  refine E_ladd dX7_rate_140 (q := 141) rfl ?_
                  refine E_put 1 dX7_rate_141 (q := 144) rfl ckX7 (Nat.le_of_ble_eq_true rfl) fl_X7_200 rfl rfl rfl (hF6.at 0 rfl) (hF6.lt 0 (Nat.le_of_ble_eq_true rfl)) (Nat.le_of_ble_eq_true rfl) (up_put (i := 0) (cs' := (mdB γ 93 0 (m_trace + 100001) m_text m_typed m_next m_token m_place m_value m_fault m_many m_sees m_cold m_first m_told m_s m_w m_kept m_isKept m_undos m_undoMany m_foundMan m_foundHours m_foundIs m_foundMany m_row m_best)) (Nat.le_of_ble_eq_true rfl) rfl) ?_
                  refine E_iload_n 4 dX7_rate_144 (q := 145) rfl rfl rfl ?_
                  refine E_if_ne dX7_rate_145 (t := 157) (by decide) (q := 148) rfl (fun _ => ?_) (fun c => absurd c c12)
                  refine E_iload_n 4 dX7_rate_157 (q := 158) rfl rfl rfl ?_
                  refine E_iconst (x := 1) dX7_rate_158 (q := 159) rfl (by decide) ?_
                  refine E_icmp_ne dX7_rate_159 (t := 167) (by decide) (q := 162) rfl (fun _ => ?_) (fun c => absurd c c15)
                  refine E_iload_n 4 dX7_rate_167 (q := 168) rfl rfl rfl ?_
                  refine E_iconst (x := 2) dX7_rate_168 (q := 169) rfl (by decide) ?_
                  refine E_icmp_ne dX7_rate_169 (t := 177) (by decide) (q := 172) rfl (fun _ => ?_) (fun c => absurd c c17)
                  refine E_iload_n 4 dX7_rate_177 (q := 178) rfl rfl rfl ?_
                  refine E_iconst (x := 3) dX7_rate_178 (q := 179) rfl (by decide) ?_
                  refine E_icmp_ne dX7_rate_179 (t := 189) (by decide) (q := 182) rfl (fun _ => ?_) (fun c => absurd c c19)
                  refine E_iload_n 4 dX7_rate_189 (q := 190) rfl rfl rfl ?_
                  refine E_iconst (x := 4) dX7_rate_190 (q := 191) rfl (by decide) ?_
                  refine E_icmp_ne dX7_rate_191 (t := 201) (by decide) (q := 194) rfl (fun _ => ?_) (fun c => absurd c c21)
                  refine E_aload_n 3 dX7_rate_201 (q := 202) rfl rfl rfl ?_
                  have hF24 : Has n 93 (mdB γ 93 0 (m_trace + 100001) m_text m_typed m_next m_token m_place m_value m_fault m_many m_sees m_cold m_first m_told m_s m_w m_kept m_isKept m_undos m_undoMany m_foundMan m_foundHours m_foundIs m_foundMany m_row m_best) (put 93 (mdB γ 93 0 (m_trace + 100001) m_text m_typed m_next m_token m_place m_value m_fault m_many m_sees m_cold m_first m_told m_s m_w m_kept m_isKept m_undos m_undoMany m_foundMan m_foundHours m_foundIs m_foundMany m_row m_best) h) := (has_put hn_m)
                  refine E_get 11 dX7_rate_202 (q := 205) rfl ckX7 (Nat.le_of_ble_eq_true rfl) fl_X7_19 (hF24.at 0 rfl) (hF24.lt 0 (Nat.le_of_ble_eq_true rfl)) rfl ?_
                  refine E_iload_n 5 dX7_rate_205 (q := 206) rfl rfl rfl ?_
                  refine E_iald dX7_rate_206 (q := 207) rfl (hF24.at 4 rfl) (hF24.lt 4 (Nat.le_of_ble_eq_true rfl)) g9 ?_
                  refine E_aload_n 3 dX7_rate_207 (q := 208) rfl rfl rfl ?_
                  refine E_get 10 dX7_rate_208 (q := 211) rfl ckX7 (Nat.le_of_ble_eq_true rfl) fl_X7_16 (hF24.at 0 rfl) (hF24.lt 0 (Nat.le_of_ble_eq_true rfl)) rfl ?_
                  refine E_iload_n 5 dX7_rate_211 (q := 212) rfl rfl rfl ?_
                  refine E_iald dX7_rate_212 (q := 213) rfl (hF24.at 3 rfl) (hF24.lt 3 (Nat.le_of_ble_eq_true rfl)) g9 ?_
                  obtain ⟨z25, hxz25, hf⟩ := bnd hf
                  refine E_cS (as := [.int (m_sees (ci a2))]) (rest := [.int (m_cold (ci a2))]) (u' := (0, 0)) (st' := [.int z25, .int (m_cold (ci a2))]) dX7_rate_213 (q := 216) rfl lkm_X7_ones lks_X7_151 (Nat.le_of_ble_eq_true rfl) ⟨Nat.le_refl _, Nat.le_refl _⟩ (Nat.le_of_ble_eq_true rfl) rfl rfl (m_X7_ones (N := N)  hxz25) rfl rfl rfl ?_
                  refine E_iadd dX7_rate_216 (q := 217) rfl ?_
                  obtain rfl := Option.some.inj hf
                  exact E_iret dX7_rate_217 rfl ⟨rfl, rfl, rfl⟩
                · have hf := if_t c21 hf
                  refine E_ldc2 dX7_rate_131 (q := 134) rfl cw_X7_210 ?_
                  refine E_goto (q := 140) dX7_rate_134 (by decide) ?_
                  refine E_ladd dX7_rate_140 (q := 141) rfl ?_
                  refine E_put 1 dX7_rate_141 (q := 144) rfl ckX7 (Nat.le_of_ble_eq_true rfl) fl_X7_200 rfl rfl rfl (hF6.at 0 rfl) (hF6.lt 0 (Nat.le_of_ble_eq_true rfl)) (Nat.le_of_ble_eq_true rfl) (up_put (i := 0) (cs' := (mdB γ 93 0 (m_trace + 10101) m_text m_typed m_next m_token m_place m_value m_fault m_many m_sees m_cold m_first m_told m_s m_w m_kept m_isKept m_undos m_undoMany m_foundMan m_foundHours m_foundIs m_foundMany m_row m_best)) (Nat.le_of_ble_eq_true rfl) rfl) ?_
                  refine E_iload_n 4 dX7_rate_144 (q := 145) rfl rfl rfl ?_
                  refine E_if_ne dX7_rate_145 (t := 157) (by decide) (q := 148) rfl (fun _ => ?_) (fun c => absurd c c12)
                  refine E_iload_n 4 dX7_rate_157 (q := 158) rfl rfl rfl ?_
                  refine E_iconst (x := 1) dX7_rate_158 (q := 159) rfl (by decide) ?_
                  refine E_icmp_ne dX7_rate_159 (t := 167) (by decide) (q := 162) rfl (fun _ => ?_) (fun c => absurd c c15)
                  refine E_iload_n 4 dX7_rate_167 (q := 168) rfl rfl rfl ?_
                  refine E_iconst (x := 2) dX7_rate_168 (q := 169) rfl (by decide) ?_
                  refine E_icmp_ne dX7_rate_169 (t := 177) (by decide) (q := 172) rfl (fun _ => ?_) (fun c => absurd c c17)
                  refine E_iload_n 4 dX7_rate_177 (q := 178) rfl rfl rfl ?_
                  refine E_iconst (x := 3) dX7_rate_178 (q := 179) rfl (by decide) ?_
                  refine E_icmp_ne dX7_rate_179 (t := 189) (by decide) (q := 182) rfl (fun _ => ?_) (fun c => absurd c c19)
                  refine E_iload_n 4 dX7_rate_189 (q := 190) rfl rfl rfl ?_
                  refine E_iconst (x := 4) dX7_rate_190 (q := 191) rfl (by decide) ?_
                  refine E_icmp_ne dX7_rate_191 (t := 201) (by decide) (q := 194) rfl (fun c => absurd c21 c) (fun _ => ?_)
                  refine E_iload 0 dX7_rate_194 (q := 196) rfl rfl ?_
                  refine E_iload_n 5 dX7_rate_196 (q := 197) rfl rfl rfl ?_
                  refine E_iadd dX7_rate_197 (q := 198) rfl ?_
                  refine E_goto (q := 217) dX7_rate_198 (by decide) ?_
                  obtain rfl := Option.some.inj hf
                  exact E_iret dX7_rate_217 rfl ⟨rfl, rfl, rfl⟩
              · have hf := if_t c19 hf
                refine E_ldc2 dX7_rate_120 (q := 123) rfl cw_X7_208 ?_
                refine E_goto (q := 140) dX7_rate_123 (by decide) ?_
                refine E_ladd dX7_rate_140 (q := 141) rfl ?_
                refine E_put 1 dX7_rate_141 (q := 144) rfl ckX7 (Nat.le_of_ble_eq_true rfl) fl_X7_200 rfl rfl rfl (hF6.at 0 rfl) (hF6.lt 0 (Nat.le_of_ble_eq_true rfl)) (Nat.le_of_ble_eq_true rfl) (up_put (i := 0) (cs' := (mdB γ 93 0 (m_trace + 1011) m_text m_typed m_next m_token m_place m_value m_fault m_many m_sees m_cold m_first m_told m_s m_w m_kept m_isKept m_undos m_undoMany m_foundMan m_foundHours m_foundIs m_foundMany m_row m_best)) (Nat.le_of_ble_eq_true rfl) rfl) ?_
                refine E_iload_n 4 dX7_rate_144 (q := 145) rfl rfl rfl ?_
                refine E_if_ne dX7_rate_145 (t := 157) (by decide) (q := 148) rfl (fun _ => ?_) (fun c => absurd c c12)
                refine E_iload_n 4 dX7_rate_157 (q := 158) rfl rfl rfl ?_
                refine E_iconst (x := 1) dX7_rate_158 (q := 159) rfl (by decide) ?_
                refine E_icmp_ne dX7_rate_159 (t := 167) (by decide) (q := 162) rfl (fun _ => ?_) (fun c => absurd c c15)
                refine E_iload_n 4 dX7_rate_167 (q := 168) rfl rfl rfl ?_
                refine E_iconst (x := 2) dX7_rate_168 (q := 169) rfl (by decide) ?_
                refine E_icmp_ne dX7_rate_169 (t := 177) (by decide) (q := 172) rfl (fun _ => ?_) (fun c => absurd c c17)
                refine E_iload_n 4 dX7_rate_177 (q := 178) rfl rfl rfl ?_
                refine E_iconst (x := 3) dX7_rate_178 (q := 179) rfl (by decide) ?_
                refine E_icmp_ne dX7_rate_179 (t := 189) (by decide) (q := 182) rfl (fun c => absurd c19 c) (fun _ => ?_)
                refine E_iconst (x := 2) dX7_rate_182 (q := 183) rfl (by decide) ?_
                refine E_iload 1 dX7_rate_183 (q := 185) rfl rfl ?_
                refine E_imul dX7_rate_185 (q := 186) rfl ?_
                refine E_goto (q := 217) dX7_rate_186 (by decide) ?_
                obtain rfl := Option.some.inj hf
                exact E_iret dX7_rate_217 rfl ⟨rfl, rfl, rfl⟩
            · have hf := if_t c17 hf
              refine E_ldc2 dX7_rate_109 (q := 112) rfl cw_X7_206 ?_
              refine E_goto (q := 140) dX7_rate_112 (by decide) ?_
              refine E_ladd dX7_rate_140 (q := 141) rfl ?_
              refine E_put 1 dX7_rate_141 (q := 144) rfl ckX7 (Nat.le_of_ble_eq_true rfl) fl_X7_200 rfl rfl rfl (hF6.at 0 rfl) (hF6.lt 0 (Nat.le_of_ble_eq_true rfl)) (Nat.le_of_ble_eq_true rfl) (up_put (i := 0) (cs' := (mdB γ 93 0 (m_trace + 101) m_text m_typed m_next m_token m_place m_value m_fault m_many m_sees m_cold m_first m_told m_s m_w m_kept m_isKept m_undos m_undoMany m_foundMan m_foundHours m_foundIs m_foundMany m_row m_best)) (Nat.le_of_ble_eq_true rfl) rfl) ?_
              refine E_iload_n 4 dX7_rate_144 (q := 145) rfl rfl rfl ?_
              refine E_if_ne dX7_rate_145 (t := 157) (by decide) (q := 148) rfl (fun _ => ?_) (fun c => absurd c c12)
              refine E_iload_n 4 dX7_rate_157 (q := 158) rfl rfl rfl ?_
              refine E_iconst (x := 1) dX7_rate_158 (q := 159) rfl (by decide) ?_
              refine E_icmp_ne dX7_rate_159 (t := 167) (by decide) (q := 162) rfl (fun _ => ?_) (fun c => absurd c c15)
              refine E_iload_n 4 dX7_rate_167 (q := 168) rfl rfl rfl ?_
              refine E_iconst (x := 2) dX7_rate_168 (q := 169) rfl (by decide) ?_
              refine E_icmp_ne dX7_rate_169 (t := 177) (by decide) (q := 172) rfl (fun c => absurd c17 c) (fun _ => ?_)
              refine E_iload 0 dX7_rate_172 (q := 174) rfl rfl ?_
              refine E_goto (q := 217) dX7_rate_174 (by decide) ?_
              obtain rfl := Option.some.inj hf
              exact E_iret dX7_rate_217 rfl ⟨rfl, rfl, rfl⟩
          · have hf := if_t c15 hf
            refine E_ldc2 dX7_rate_98 (q := 101) rfl cw_X7_204 ?_
            refine E_goto (q := 140) dX7_rate_101 (by decide) ?_
            refine E_ladd dX7_rate_140 (q := 141) rfl ?_
            refine E_put 1 dX7_rate_141 (q := 144) rfl ckX7 (Nat.le_of_ble_eq_true rfl) fl_X7_200 rfl rfl rfl (hF6.at 0 rfl) (hF6.lt 0 (Nat.le_of_ble_eq_true rfl)) (Nat.le_of_ble_eq_true rfl) (up_put (i := 0) (cs' := (mdB γ 93 0 (m_trace + 11) m_text m_typed m_next m_token m_place m_value m_fault m_many m_sees m_cold m_first m_told m_s m_w m_kept m_isKept m_undos m_undoMany m_foundMan m_foundHours m_foundIs m_foundMany m_row m_best)) (Nat.le_of_ble_eq_true rfl) rfl) ?_
            refine E_iload_n 4 dX7_rate_144 (q := 145) rfl rfl rfl ?_
            refine E_if_ne dX7_rate_145 (t := 157) (by decide) (q := 148) rfl (fun _ => ?_) (fun c => absurd c c12)
            refine E_iload_n 4 dX7_rate_157 (q := 158) rfl rfl rfl ?_
            refine E_iconst (x := 1) dX7_rate_158 (q := 159) rfl (by decide) ?_
            refine E_icmp_ne dX7_rate_159 (t := 167) (by decide) (q := 162) rfl (fun c => absurd c15 c) (fun _ => ?_)
            refine E_iload 1 dX7_rate_162 (q := 164) rfl rfl ?_
            refine E_goto (q := 217) dX7_rate_164 (by decide) ?_
            obtain rfl := Option.some.inj hf
            exact E_iret dX7_rate_217 rfl ⟨rfl, rfl, rfl⟩
        · have hf := if_t c12 hf
          refine E_lconst (x := 1) dX7_rate_89 (q := 90) rfl (by decide) ?_
          refine E_goto (q := 140) dX7_rate_90 (by decide) ?_
          refine E_ladd dX7_rate_140 (q := 141) rfl ?_
          refine E_put 1 dX7_rate_141 (q := 144) rfl ckX7 (Nat.le_of_ble_eq_true rfl) fl_X7_200 rfl rfl rfl (hF6.at 0 rfl) (hF6.lt 0 (Nat.le_of_ble_eq_true rfl)) (Nat.le_of_ble_eq_true rfl) (up_put (i := 0) (cs' := (mdB γ 93 0 (m_trace + 1) m_text m_typed m_next m_token m_place m_value m_fault m_many m_sees m_cold m_first m_told m_s m_w m_kept m_isKept m_undos m_undoMany m_foundMan m_foundHours m_foundIs m_foundMany m_row m_best)) (Nat.le_of_ble_eq_true rfl) rfl) ?_
          refine E_iload_n 4 dX7_rate_144 (q := 145) rfl rfl rfl ?_
          refine E_if_ne dX7_rate_145 (t := 157) (by decide) (q := 148) rfl (fun c => absurd c12 c) (fun _ => ?_)
          refine E_aload_n 3 dX7_rate_148 (q := 149) rfl rfl rfl ?_
          have hF14 : Has n 93 (mdB γ 93 0 (m_trace + 1) m_text m_typed m_next m_token m_place m_value m_fault m_many m_sees m_cold m_first m_told m_s m_w m_kept m_isKept m_undos m_undoMany m_foundMan m_foundHours m_foundIs m_foundMany m_row m_best) (put 93 (mdB γ 93 0 (m_trace + 1) m_text m_typed m_next m_token m_place m_value m_fault m_many m_sees m_cold m_first m_told m_s m_w m_kept m_isKept m_undos m_undoMany m_foundMan m_foundHours m_foundIs m_foundMany m_row m_best) h) := (has_put hn_m)
          refine E_get 11 dX7_rate_149 (q := 152) rfl ckX7 (Nat.le_of_ble_eq_true rfl) fl_X7_19 (hF14.at 0 rfl) (hF14.lt 0 (Nat.le_of_ble_eq_true rfl)) rfl ?_
          refine E_iload_n 5 dX7_rate_152 (q := 153) rfl rfl rfl ?_
          refine E_iald dX7_rate_153 (q := 154) rfl (hF14.at 4 rfl) (hF14.lt 4 (Nat.le_of_ble_eq_true rfl)) g9 ?_
          refine E_goto (q := 217) dX7_rate_154 (by decide) ?_
          obtain rfl := Option.some.inj hf
          exact E_iret dX7_rate_217 rfl ⟨rfl, rfl, rfl⟩
    · have hf := if_t c7 hf
      refine E_ldc dX7_rate_22 (q := 24) rfl cw_X7_199 ?_
      obtain rfl := Option.some.inj hf
      exact E_iret dX7_rate_24 rfl ⟨rfl, rfl, rfl⟩

-- PostReliefModel.keep(I)I
def b_X7_keep_1 (N : Nat) (p1 : Int32) (m_s : FN) (v2 : Int32) (m_kept : FN) : Option ((Int32 × FN) ⊕ (FN)) :=
  (if 48 ≤ v2 then some (.inr m_kept) else (if ix v2 48 = true then (if ix ((48 * p1) + v2) 96 = true then some (.inl ((v2 + 1), (upd m_kept (ci ((48 * p1) + v2)) (m_s (ci v2))))) else none) else none))
def f_X7_keep (N : Nat) (a1 : Int32) (m_thrown : Int32) (m_s : FN) (m_kept : FN) (m_isKept : FN) : Option (Int32 × Int32 × FN × FN) :=
  ((f_X7_in N a1 0 1).bind fun z3 => (if z3 = 0 then some ((-1), 0, m_kept, m_isKept) else ((lp (fun s => b_X7_keep_1 N a1 m_s s.1 s.2) N (0, m_kept)).bind fun t11 => (if ix a1 2 = true then some ((m_s (ci 0)), 0, t11, (upd m_isKept (ci a1) 1)) else none))))
set_option maxHeartbeats 4000000 in
set_option maxRecDepth 100000 in
theorem L_X7_keep_1 {γ : GX} {n : Nat} {h : HP} {Ψ : PS} {N : Nat} {p1 : Int32} {m_thrown : Int32} {m_trace : Int64} {m_text : FN} {m_typed : Int32} {m_next : Int32} {m_token : Int32} {m_place : Int32} {m_value : Int32} {m_fault : Int32} {m_many : FN} {m_sees : FN} {m_cold : FN} {m_first : FN} {m_told : Int32} {m_s : FN} {m_w : FN} {m_isKept : FN} {m_undos : FN} {m_undoMany : Int32} {m_foundMan : FN} {m_foundHours : FN} {m_foundIs : FN} {m_foundMany : Int32} {m_row : FN} {m_best : FN} (hn_m : 93 + 16 ≤ n) {s0 : Int32 × FN} {t : FN} (hf : lp (fun s => b_X7_keep_1 N p1 m_s s.1 s.2) N s0 = some t) (K : Ev γ M_X7_keep (0, 0) n (put 93 (mdB γ 93 m_thrown m_trace m_text m_typed m_next m_token m_place m_value m_fault m_many m_sees m_cold m_first m_told m_s m_w t m_isKept m_undos m_undoMany m_foundMan m_foundHours m_foundIs m_foundMany m_row m_best) h) [(0, .ref (gB γ + 93)), (1, .int p1)] 47 [] Ψ) : Ev γ M_X7_keep (0, 0) n (put 93 (mdB γ 93 m_thrown m_trace m_text m_typed m_next m_token m_place m_value m_fault m_many m_sees m_cold m_first m_told m_s m_w s0.2 m_isKept m_undos m_undoMany m_foundMan m_foundHours m_foundIs m_foundMany m_row m_best) h) [(0, .ref (gB γ + 93)), (1, .int p1), (2, .int s0.1)] 18 [] Ψ := by
  refine E_lp (P := fun s => Ev γ M_X7_keep (0, 0) n (put 93 (mdB γ 93 m_thrown m_trace m_text m_typed m_next m_token m_place m_value m_fault m_many m_sees m_cold m_first m_told m_s m_w s.2 m_isKept m_undos m_undoMany m_foundMan m_foundHours m_foundIs m_foundMany m_row m_best) h) [(0, .ref (gB γ + 93)), (1, .int p1), (2, .int s.1)] 18 [] Ψ) (K := fun t => Ev γ M_X7_keep (0, 0) n (put 93 (mdB γ 93 m_thrown m_trace m_text m_typed m_next m_token m_place m_value m_fault m_many m_sees m_cold m_first m_told m_s m_w t m_isKept m_undos m_undoMany m_foundMan m_foundHours m_foundIs m_foundMany m_row m_best) h) [(0, .ref (gB γ + 93)), (1, .int p1)] 47 [] Ψ) ?_ N s0 t hf K
  intro s r hf hP hK
  obtain ⟨v2, m_kept⟩ := s
  change b_X7_keep_1 N p1 m_s v2 m_kept = some r at hf
  unfold b_X7_keep_1 at hf
  show Ev γ M_X7_keep (0, 0) n (put 93 (mdB γ 93 m_thrown m_trace m_text m_typed m_next m_token m_place m_value m_fault m_many m_sees m_cold m_first m_told m_s m_w m_kept m_isKept m_undos m_undoMany m_foundMan m_foundHours m_foundIs m_foundMany m_row m_best) h) [(0, .ref (gB γ + 93)), (1, .int p1), (2, .int v2)] 18 [] Ψ
  refine E_iload_n 2 dX7_keep_18 (q := 19) rfl rfl rfl ?_
  refine E_bipush (x := 48) dX7_keep_19 (q := 21) rfl (by decide) ?_
  refine E_icmp_ge dX7_keep_21 (t := 47) (by decide) (q := 24) rfl (fun c6 => ?_) (fun c6 => ?_)
  · have hf := if_t c6 hf
    exact E_sub [0, 1] rfl (hK _ (Option.some.inj hf).symm)
  · have hf := if_f c6 hf
    refine E_aload_n 0 dX7_keep_24 (q := 25) rfl rfl rfl ?_
    have hF7 : Has n 93 (mdB γ 93 m_thrown m_trace m_text m_typed m_next m_token m_place m_value m_fault m_many m_sees m_cold m_first m_told m_s m_w m_kept m_isKept m_undos m_undoMany m_foundMan m_foundHours m_foundIs m_foundMany m_row m_best) (put 93 (mdB γ 93 m_thrown m_trace m_text m_typed m_next m_token m_place m_value m_fault m_many m_sees m_cold m_first m_told m_s m_w m_kept m_isKept m_undos m_undoMany m_foundMan m_foundHours m_foundIs m_foundMany m_row m_best) h) := (has_put hn_m)
    refine E_get 16 dX7_keep_25 (q := 28) rfl ckX7 (Nat.le_of_ble_eq_true rfl) fl_X7_31 (hF7.at 0 rfl) (hF7.lt 0 (Nat.le_of_ble_eq_true rfl)) rfl ?_
    refine E_bipush (x := 48) dX7_keep_28 (q := 30) rfl (by decide) ?_
    refine E_iload_n 1 dX7_keep_30 (q := 31) rfl rfl rfl ?_
    refine E_imul dX7_keep_31 (q := 32) rfl ?_
    refine E_iload_n 2 dX7_keep_32 (q := 33) rfl rfl rfl ?_
    refine E_iadd dX7_keep_33 (q := 34) rfl ?_
    refine E_aload_n 0 dX7_keep_34 (q := 35) rfl rfl rfl ?_
    refine E_get 14 dX7_keep_35 (q := 38) rfl ckX7 (Nat.le_of_ble_eq_true rfl) fl_X7_25 (hF7.at 0 rfl) (hF7.lt 0 (Nat.le_of_ble_eq_true rfl)) rfl ?_
    refine E_iload_n 2 dX7_keep_38 (q := 39) rfl rfl rfl ?_
    obtain ⟨g8, hf⟩ := gd hf
    refine E_iald dX7_keep_39 (q := 40) rfl (hF7.at 6 rfl) (hF7.lt 6 (Nat.le_of_ble_eq_true rfl)) g8 ?_
    obtain ⟨g9, hf⟩ := gd hf
    refine E_iast dX7_keep_40 (q := 41) rfl (hF7.at 8 rfl) (hF7.lt 8 (Nat.le_of_ble_eq_true rfl)) g9 (up_put (i := 8) (cs' := (mdB γ 93 m_thrown m_trace m_text m_typed m_next m_token m_place m_value m_fault m_many m_sees m_cold m_first m_told m_s m_w (upd m_kept (ci ((48 * p1) + v2)) (m_s (ci v2))) m_isKept m_undos m_undoMany m_foundMan m_foundHours m_foundIs m_foundMany m_row m_best)) (Nat.le_of_ble_eq_true rfl) rfl) ?_
    refine E_iinc 2 [(2, .int (v2 + 1)), (0, .ref (gB γ + 93)), (1, .int p1)] dX7_keep_41 (q := 44) rfl rfl rfl (Nat.le_of_ble_eq_true rfl) rfl ?_
    refine E_goto (q := 18) dX7_keep_44 (by decide) ?_
    exact E_sub [1, 2, 0] rfl (hP _ (Option.some.inj hf).symm)
set_option maxHeartbeats 4000000 in
set_option maxRecDepth 100000 in
theorem m_X7_keep {γ : GX} {n : Nat} {N : Nat} {h : HP} {a1 : Int32} {m_thrown : Int32} {m_trace : Int64} {m_text : FN} {m_typed : Int32} {m_next : Int32} {m_token : Int32} {m_place : Int32} {m_value : Int32} {m_fault : Int32} {m_many : FN} {m_sees : FN} {m_cold : FN} {m_first : FN} {m_told : Int32} {m_s : FN} {m_w : FN} {m_kept : FN} {m_isKept : FN} {m_undos : FN} {m_undoMany : Int32} {m_foundMan : FN} {m_foundHours : FN} {m_foundIs : FN} {m_foundMany : Int32} {m_row : FN} {m_best : FN} (hH_m : Has n 93 (mdB γ 93 m_thrown m_trace m_text m_typed m_next m_token m_place m_value m_fault m_many m_sees m_cold m_first m_told m_s m_w m_kept m_isKept m_undos m_undoMany m_foundMan m_foundHours m_foundIs m_foundMany m_row m_best) h) {z : Int32 × Int32 × FN × FN} (hf : f_X7_keep N a1 m_thrown m_s m_kept m_isKept = some z)  : Ct γ M_X7_keep n h [.ref (gB γ + 93), .int a1] (Done (some (.int z.1)) n (put 93 (mdB γ 93 z.2.1 m_trace m_text m_typed m_next m_token m_place m_value m_fault m_many m_sees m_cold m_first m_told m_s m_w z.2.2.1 z.2.2.2 m_undos m_undoMany m_foundMan m_foundHours m_foundIs m_foundMany m_row m_best) h)) := by
  have hn_m : 93 + 16 ≤ n := hH_m.1
  refine Ct.heap (h := (put 93 (mdB γ 93 m_thrown m_trace m_text m_typed m_next m_token m_place m_value m_fault m_many m_sees m_cold m_first m_told m_s m_w m_kept m_isKept m_undos m_undoMany m_foundMan m_foundHours m_foundIs m_foundMany m_row m_best) h)) (put_self hH_m).symm ?_
  refine Ct_of_Ev (by decide) (fun h => by cases h) (Nat.le_of_ble_eq_true rfl) ?_
  show Ev γ M_X7_keep (0, 0) n (put 93 (mdB γ 93 m_thrown m_trace m_text m_typed m_next m_token m_place m_value m_fault m_many m_sees m_cold m_first m_told m_s m_w m_kept m_isKept m_undos m_undoMany m_foundMan m_foundHours m_foundIs m_foundMany m_row m_best) h) [(0, .ref (gB γ + 93)), (1, .int a1)] 0 [] _
  unfold f_X7_keep at hf
  refine E_aload_n 0 dX7_keep_0 (q := 1) rfl rfl rfl ?_
  refine E_iconst (x := 0) dX7_keep_1 (q := 2) rfl (by decide) ?_
  have hF1 : Has n 93 (mdB γ 93 m_thrown m_trace m_text m_typed m_next m_token m_place m_value m_fault m_many m_sees m_cold m_first m_told m_s m_w m_kept m_isKept m_undos m_undoMany m_foundMan m_foundHours m_foundIs m_foundMany m_row m_best) (put 93 (mdB γ 93 m_thrown m_trace m_text m_typed m_next m_token m_place m_value m_fault m_many m_sees m_cold m_first m_told m_s m_w m_kept m_isKept m_undos m_undoMany m_foundMan m_foundHours m_foundIs m_foundMany m_row m_best) h) := (has_put hn_m)
  refine E_put 0 dX7_keep_2 (q := 5) rfl ckX7 (Nat.le_of_ble_eq_true rfl) fl_X7_56 rfl rfl rfl (hF1.at 0 rfl) (hF1.lt 0 (Nat.le_of_ble_eq_true rfl)) (Nat.le_of_ble_eq_true rfl) (up_put (i := 0) (cs' := (mdB γ 93 0 m_trace m_text m_typed m_next m_token m_place m_value m_fault m_many m_sees m_cold m_first m_told m_s m_w m_kept m_isKept m_undos m_undoMany m_foundMan m_foundHours m_foundIs m_foundMany m_row m_best)) (Nat.le_of_ble_eq_true rfl) rfl) ?_
  refine E_iload_n 1 dX7_keep_5 (q := 6) rfl rfl rfl ?_
  refine E_iconst (x := 0) dX7_keep_6 (q := 7) rfl (by decide) ?_
  refine E_iconst (x := 1) dX7_keep_7 (q := 8) rfl (by decide) ?_
  obtain ⟨z3, hxz3, hf⟩ := bnd hf
  refine E_cS (as := [.int a1, .int 0, .int 1]) (rest := []) (u' := (0, 0)) (st' := [.int z3]) dX7_keep_8 (q := 11) rfl lkm_X7_in lks_X7_60 (Nat.le_of_ble_eq_true rfl) ⟨Nat.le_refl _, Nat.le_refl _⟩ (Nat.le_of_ble_eq_true rfl) rfl rfl (m_X7_in (N := N)  hxz3) rfl rfl rfl ?_
  refine E_if_ne dX7_keep_11 (t := 16) (by decide) (q := 14) rfl (fun c4 => ?_) (fun c4 => ?_)
  · have hf := if_f c4 hf
    refine E_iconst (x := 0) dX7_keep_16 (q := 17) rfl (by decide) ?_
    refine E_istore_n [(2, .int 0), (0, .ref (gB γ + 93)), (1, .int a1)] dX7_keep_17 (q := 18) rfl rfl (Nat.le_of_ble_eq_true rfl) rfl ?_
    obtain ⟨t11, hxt11, hf⟩ := bnd hf
    refine E_sub [1, 2, 0] rfl ?_
    refine L_X7_keep_1 hn_m hxt11 ?_
    show Ev γ M_X7_keep _ n (put 93 (mdB γ 93 0 m_trace m_text m_typed m_next m_token m_place m_value m_fault m_many m_sees m_cold m_first m_told m_s m_w t11 m_isKept m_undos m_undoMany m_foundMan m_foundHours m_foundIs m_foundMany m_row m_best) h) [(0, .ref (gB γ + 93)), (1, .int a1)] 47 [] _
    refine E_aload_n 0 dX7_keep_47 (q := 48) rfl rfl rfl ?_
    have hF13 : Has n 93 (mdB γ 93 0 m_trace m_text m_typed m_next m_token m_place m_value m_fault m_many m_sees m_cold m_first m_told m_s m_w t11 m_isKept m_undos m_undoMany m_foundMan m_foundHours m_foundIs m_foundMany m_row m_best) (put 93 (mdB γ 93 0 m_trace m_text m_typed m_next m_token m_place m_value m_fault m_many m_sees m_cold m_first m_told m_s m_w t11 m_isKept m_undos m_undoMany m_foundMan m_foundHours m_foundIs m_foundMany m_row m_best) h) := (has_put hn_m)
    refine E_get 17 dX7_keep_48 (q := 51) rfl ckX7 (Nat.le_of_ble_eq_true rfl) fl_X7_34 (hF13.at 0 rfl) (hF13.lt 0 (Nat.le_of_ble_eq_true rfl)) rfl ?_
    refine E_iload_n 1 dX7_keep_51 (q := 52) rfl rfl rfl ?_
    refine E_iconst (x := 1) dX7_keep_52 (q := 53) rfl (by decide) ?_
    obtain ⟨g14, hf⟩ := gd hf
    refine E_zast dX7_keep_53 (q := 54) rfl (hF13.at 9 rfl) (hF13.lt 9 (Nat.le_of_ble_eq_true rfl)) g14 rfl (up_put (i := 9) (cs' := (mdB γ 93 0 m_trace m_text m_typed m_next m_token m_place m_value m_fault m_many m_sees m_cold m_first m_told m_s m_w t11 (upd m_isKept (ci a1) 1) m_undos m_undoMany m_foundMan m_foundHours m_foundIs m_foundMany m_row m_best)) (Nat.le_of_ble_eq_true rfl) rfl) ?_
    refine E_aload_n 0 dX7_keep_54 (q := 55) rfl rfl rfl ?_
    have hF16 : Has n 93 (mdB γ 93 0 m_trace m_text m_typed m_next m_token m_place m_value m_fault m_many m_sees m_cold m_first m_told m_s m_w t11 (upd m_isKept (ci a1) 1) m_undos m_undoMany m_foundMan m_foundHours m_foundIs m_foundMany m_row m_best) (put 93 (mdB γ 93 0 m_trace m_text m_typed m_next m_token m_place m_value m_fault m_many m_sees m_cold m_first m_told m_s m_w t11 (upd m_isKept (ci a1) 1) m_undos m_undoMany m_foundMan m_foundHours m_foundIs m_foundMany m_row m_best) h) := (has_put hn_m)
    refine E_get 14 dX7_keep_55 (q := 58) rfl ckX7 (Nat.le_of_ble_eq_true rfl) fl_X7_25 (hF16.at 0 rfl) (hF16.lt 0 (Nat.le_of_ble_eq_true rfl)) rfl ?_
    refine E_iconst (x := 0) dX7_keep_58 (q := 59) rfl (by decide) ?_
    refine E_iald dX7_keep_59 (q := 60) rfl (hF16.at 6 rfl) (hF16.lt 6 (Nat.le_of_ble_eq_true rfl)) (by decide +kernel) ?_
    obtain rfl := Option.some.inj hf
    exact E_iret dX7_keep_60 rfl ⟨rfl, rfl, rfl⟩
  · have hf := if_t c4 hf
    refine E_iconst (x := (-1)) dX7_keep_14 (q := 15) rfl (by decide) ?_
    obtain rfl := Option.some.inj hf
    exact E_iret dX7_keep_15 rfl ⟨rfl, rfl, rfl⟩

-- PostReliefModel.back(I)I
def b_X7_back_1 (N : Nat) (p1 : Int32) (m_kept : FN) (v2 : Int32) (m_s : FN) : Option ((Int32 × FN) ⊕ (FN)) :=
  (if 48 ≤ v2 then some (.inr m_s) else (if ix ((48 * p1) + v2) 96 = true then (if ix v2 48 = true then some (.inl ((v2 + 1), (upd m_s (ci v2) (m_kept (ci ((48 * p1) + v2)))))) else none) else none))
def f_X7_back (N : Nat) (a1 : Int32) (m_thrown : Int32) (m_s : FN) (m_kept : FN) (m_isKept : FN) (m_undoMany : Int32) : Option (Int32 × Int32 × FN × Int32) :=
  ((f_X7_in N a1 0 1).bind fun z3 => (if z3 = 0 then some ((-1), 0, m_s, m_undoMany) else (if ix a1 2 = true then (if (m_isKept (ci a1)) = 0 then some ((-2), 0, m_s, m_undoMany) else ((lp (fun s => b_X7_back_1 N a1 m_kept s.1 s.2) N (0, m_s)).bind fun t14 => some ((t14 (ci 0)), 0, t14, 0))) else none)))
set_option maxHeartbeats 4000000 in
set_option maxRecDepth 100000 in
theorem L_X7_back_1 {γ : GX} {n : Nat} {h : HP} {Ψ : PS} {N : Nat} {p1 : Int32} {m_thrown : Int32} {m_trace : Int64} {m_text : FN} {m_typed : Int32} {m_next : Int32} {m_token : Int32} {m_place : Int32} {m_value : Int32} {m_fault : Int32} {m_many : FN} {m_sees : FN} {m_cold : FN} {m_first : FN} {m_told : Int32} {m_w : FN} {m_kept : FN} {m_isKept : FN} {m_undos : FN} {m_undoMany : Int32} {m_foundMan : FN} {m_foundHours : FN} {m_foundIs : FN} {m_foundMany : Int32} {m_row : FN} {m_best : FN} (hn_m : 93 + 16 ≤ n) {s0 : Int32 × FN} {t : FN} (hf : lp (fun s => b_X7_back_1 N p1 m_kept s.1 s.2) N s0 = some t) (K : Ev γ M_X7_back (0, 0) n (put 93 (mdB γ 93 m_thrown m_trace m_text m_typed m_next m_token m_place m_value m_fault m_many m_sees m_cold m_first m_told t m_w m_kept m_isKept m_undos m_undoMany m_foundMan m_foundHours m_foundIs m_foundMany m_row m_best) h) [(0, .ref (gB γ + 93))] 59 [] Ψ) : Ev γ M_X7_back (0, 0) n (put 93 (mdB γ 93 m_thrown m_trace m_text m_typed m_next m_token m_place m_value m_fault m_many m_sees m_cold m_first m_told s0.2 m_w m_kept m_isKept m_undos m_undoMany m_foundMan m_foundHours m_foundIs m_foundMany m_row m_best) h) [(0, .ref (gB γ + 93)), (1, .int p1), (2, .int s0.1)] 30 [] Ψ := by
  refine E_lp (P := fun s => Ev γ M_X7_back (0, 0) n (put 93 (mdB γ 93 m_thrown m_trace m_text m_typed m_next m_token m_place m_value m_fault m_many m_sees m_cold m_first m_told s.2 m_w m_kept m_isKept m_undos m_undoMany m_foundMan m_foundHours m_foundIs m_foundMany m_row m_best) h) [(0, .ref (gB γ + 93)), (1, .int p1), (2, .int s.1)] 30 [] Ψ) (K := fun t => Ev γ M_X7_back (0, 0) n (put 93 (mdB γ 93 m_thrown m_trace m_text m_typed m_next m_token m_place m_value m_fault m_many m_sees m_cold m_first m_told t m_w m_kept m_isKept m_undos m_undoMany m_foundMan m_foundHours m_foundIs m_foundMany m_row m_best) h) [(0, .ref (gB γ + 93))] 59 [] Ψ) ?_ N s0 t hf K
  intro s r hf hP hK
  obtain ⟨v2, m_s⟩ := s
  change b_X7_back_1 N p1 m_kept v2 m_s = some r at hf
  unfold b_X7_back_1 at hf
  show Ev γ M_X7_back (0, 0) n (put 93 (mdB γ 93 m_thrown m_trace m_text m_typed m_next m_token m_place m_value m_fault m_many m_sees m_cold m_first m_told m_s m_w m_kept m_isKept m_undos m_undoMany m_foundMan m_foundHours m_foundIs m_foundMany m_row m_best) h) [(0, .ref (gB γ + 93)), (1, .int p1), (2, .int v2)] 30 [] Ψ
  refine E_iload_n 2 dX7_back_30 (q := 31) rfl rfl rfl ?_
  refine E_bipush (x := 48) dX7_back_31 (q := 33) rfl (by decide) ?_
  refine E_icmp_ge dX7_back_33 (t := 59) (by decide) (q := 36) rfl (fun c9 => ?_) (fun c9 => ?_)
  · have hf := if_t c9 hf
    exact E_sub [0] rfl (hK _ (Option.some.inj hf).symm)
  · have hf := if_f c9 hf
    refine E_aload_n 0 dX7_back_36 (q := 37) rfl rfl rfl ?_
    have hF10 : Has n 93 (mdB γ 93 m_thrown m_trace m_text m_typed m_next m_token m_place m_value m_fault m_many m_sees m_cold m_first m_told m_s m_w m_kept m_isKept m_undos m_undoMany m_foundMan m_foundHours m_foundIs m_foundMany m_row m_best) (put 93 (mdB γ 93 m_thrown m_trace m_text m_typed m_next m_token m_place m_value m_fault m_many m_sees m_cold m_first m_told m_s m_w m_kept m_isKept m_undos m_undoMany m_foundMan m_foundHours m_foundIs m_foundMany m_row m_best) h) := (has_put hn_m)
    refine E_get 14 dX7_back_37 (q := 40) rfl ckX7 (Nat.le_of_ble_eq_true rfl) fl_X7_25 (hF10.at 0 rfl) (hF10.lt 0 (Nat.le_of_ble_eq_true rfl)) rfl ?_
    refine E_iload_n 2 dX7_back_40 (q := 41) rfl rfl rfl ?_
    refine E_aload_n 0 dX7_back_41 (q := 42) rfl rfl rfl ?_
    refine E_get 16 dX7_back_42 (q := 45) rfl ckX7 (Nat.le_of_ble_eq_true rfl) fl_X7_31 (hF10.at 0 rfl) (hF10.lt 0 (Nat.le_of_ble_eq_true rfl)) rfl ?_
    refine E_bipush (x := 48) dX7_back_45 (q := 47) rfl (by decide) ?_
    refine E_iload_n 1 dX7_back_47 (q := 48) rfl rfl rfl ?_
    refine E_imul dX7_back_48 (q := 49) rfl ?_
    refine E_iload_n 2 dX7_back_49 (q := 50) rfl rfl rfl ?_
    refine E_iadd dX7_back_50 (q := 51) rfl ?_
    obtain ⟨g11, hf⟩ := gd hf
    refine E_iald dX7_back_51 (q := 52) rfl (hF10.at 8 rfl) (hF10.lt 8 (Nat.le_of_ble_eq_true rfl)) g11 ?_
    obtain ⟨g12, hf⟩ := gd hf
    refine E_iast dX7_back_52 (q := 53) rfl (hF10.at 6 rfl) (hF10.lt 6 (Nat.le_of_ble_eq_true rfl)) g12 (up_put (i := 6) (cs' := (mdB γ 93 m_thrown m_trace m_text m_typed m_next m_token m_place m_value m_fault m_many m_sees m_cold m_first m_told (upd m_s (ci v2) (m_kept (ci ((48 * p1) + v2)))) m_w m_kept m_isKept m_undos m_undoMany m_foundMan m_foundHours m_foundIs m_foundMany m_row m_best)) (Nat.le_of_ble_eq_true rfl) rfl) ?_
    refine E_iinc 2 [(2, .int (v2 + 1)), (0, .ref (gB γ + 93)), (1, .int p1)] dX7_back_53 (q := 56) rfl rfl rfl (Nat.le_of_ble_eq_true rfl) rfl ?_
    refine E_goto (q := 30) dX7_back_56 (by decide) ?_
    exact E_sub [1, 2, 0] rfl (hP _ (Option.some.inj hf).symm)
set_option maxHeartbeats 4000000 in
set_option maxRecDepth 100000 in
theorem m_X7_back {γ : GX} {n : Nat} {N : Nat} {h : HP} {a1 : Int32} {m_thrown : Int32} {m_trace : Int64} {m_text : FN} {m_typed : Int32} {m_next : Int32} {m_token : Int32} {m_place : Int32} {m_value : Int32} {m_fault : Int32} {m_many : FN} {m_sees : FN} {m_cold : FN} {m_first : FN} {m_told : Int32} {m_s : FN} {m_w : FN} {m_kept : FN} {m_isKept : FN} {m_undos : FN} {m_undoMany : Int32} {m_foundMan : FN} {m_foundHours : FN} {m_foundIs : FN} {m_foundMany : Int32} {m_row : FN} {m_best : FN} (hH_m : Has n 93 (mdB γ 93 m_thrown m_trace m_text m_typed m_next m_token m_place m_value m_fault m_many m_sees m_cold m_first m_told m_s m_w m_kept m_isKept m_undos m_undoMany m_foundMan m_foundHours m_foundIs m_foundMany m_row m_best) h) {z : Int32 × Int32 × FN × Int32} (hf : f_X7_back N a1 m_thrown m_s m_kept m_isKept m_undoMany = some z)  : Ct γ M_X7_back n h [.ref (gB γ + 93), .int a1] (Done (some (.int z.1)) n (put 93 (mdB γ 93 z.2.1 m_trace m_text m_typed m_next m_token m_place m_value m_fault m_many m_sees m_cold m_first m_told z.2.2.1 m_w m_kept m_isKept m_undos z.2.2.2 m_foundMan m_foundHours m_foundIs m_foundMany m_row m_best) h)) := by
  have hn_m : 93 + 16 ≤ n := hH_m.1
  refine Ct.heap (h := (put 93 (mdB γ 93 m_thrown m_trace m_text m_typed m_next m_token m_place m_value m_fault m_many m_sees m_cold m_first m_told m_s m_w m_kept m_isKept m_undos m_undoMany m_foundMan m_foundHours m_foundIs m_foundMany m_row m_best) h)) (put_self hH_m).symm ?_
  refine Ct_of_Ev (by decide) (fun h => by cases h) (Nat.le_of_ble_eq_true rfl) ?_
  show Ev γ M_X7_back (0, 0) n (put 93 (mdB γ 93 m_thrown m_trace m_text m_typed m_next m_token m_place m_value m_fault m_many m_sees m_cold m_first m_told m_s m_w m_kept m_isKept m_undos m_undoMany m_foundMan m_foundHours m_foundIs m_foundMany m_row m_best) h) [(0, .ref (gB γ + 93)), (1, .int a1)] 0 [] _
  unfold f_X7_back at hf
  refine E_aload_n 0 dX7_back_0 (q := 1) rfl rfl rfl ?_
  refine E_iconst (x := 0) dX7_back_1 (q := 2) rfl (by decide) ?_
  have hF1 : Has n 93 (mdB γ 93 m_thrown m_trace m_text m_typed m_next m_token m_place m_value m_fault m_many m_sees m_cold m_first m_told m_s m_w m_kept m_isKept m_undos m_undoMany m_foundMan m_foundHours m_foundIs m_foundMany m_row m_best) (put 93 (mdB γ 93 m_thrown m_trace m_text m_typed m_next m_token m_place m_value m_fault m_many m_sees m_cold m_first m_told m_s m_w m_kept m_isKept m_undos m_undoMany m_foundMan m_foundHours m_foundIs m_foundMany m_row m_best) h) := (has_put hn_m)
  refine E_put 0 dX7_back_2 (q := 5) rfl ckX7 (Nat.le_of_ble_eq_true rfl) fl_X7_56 rfl rfl rfl (hF1.at 0 rfl) (hF1.lt 0 (Nat.le_of_ble_eq_true rfl)) (Nat.le_of_ble_eq_true rfl) (up_put (i := 0) (cs' := (mdB γ 93 0 m_trace m_text m_typed m_next m_token m_place m_value m_fault m_many m_sees m_cold m_first m_told m_s m_w m_kept m_isKept m_undos m_undoMany m_foundMan m_foundHours m_foundIs m_foundMany m_row m_best)) (Nat.le_of_ble_eq_true rfl) rfl) ?_
  refine E_iload_n 1 dX7_back_5 (q := 6) rfl rfl rfl ?_
  refine E_iconst (x := 0) dX7_back_6 (q := 7) rfl (by decide) ?_
  refine E_iconst (x := 1) dX7_back_7 (q := 8) rfl (by decide) ?_
  obtain ⟨z3, hxz3, hf⟩ := bnd hf
  refine E_cS (as := [.int a1, .int 0, .int 1]) (rest := []) (u' := (0, 0)) (st' := [.int z3]) dX7_back_8 (q := 11) rfl lkm_X7_in lks_X7_60 (Nat.le_of_ble_eq_true rfl) ⟨Nat.le_refl _, Nat.le_refl _⟩ (Nat.le_of_ble_eq_true rfl) rfl rfl (m_X7_in (N := N)  hxz3) rfl rfl rfl ?_
  refine E_if_ne dX7_back_11 (t := 16) (by decide) (q := 14) rfl (fun c4 => ?_) (fun c4 => ?_)
  · have hf := if_f c4 hf
    refine E_aload_n 0 dX7_back_16 (q := 17) rfl rfl rfl ?_
    have hF5 : Has n 93 (mdB γ 93 0 m_trace m_text m_typed m_next m_token m_place m_value m_fault m_many m_sees m_cold m_first m_told m_s m_w m_kept m_isKept m_undos m_undoMany m_foundMan m_foundHours m_foundIs m_foundMany m_row m_best) (put 93 (mdB γ 93 0 m_trace m_text m_typed m_next m_token m_place m_value m_fault m_many m_sees m_cold m_first m_told m_s m_w m_kept m_isKept m_undos m_undoMany m_foundMan m_foundHours m_foundIs m_foundMany m_row m_best) h) := (has_put hn_m)
    refine E_get 17 dX7_back_17 (q := 20) rfl ckX7 (Nat.le_of_ble_eq_true rfl) fl_X7_34 (hF5.at 0 rfl) (hF5.lt 0 (Nat.le_of_ble_eq_true rfl)) rfl ?_
    refine E_iload_n 1 dX7_back_20 (q := 21) rfl rfl rfl ?_
    obtain ⟨g6, hf⟩ := gd hf
    refine E_zald dX7_back_21 (q := 22) rfl (hF5.at 9 rfl) (hF5.lt 9 (Nat.le_of_ble_eq_true rfl)) g6 ?_
    refine E_if_ne dX7_back_22 (t := 28) (by decide) (q := 25) rfl (fun c7 => ?_) (fun c7 => ?_)
    · have hf := if_f c7 hf
      refine E_iconst (x := 0) dX7_back_28 (q := 29) rfl (by decide) ?_
      refine E_istore_n [(2, .int 0), (0, .ref (gB γ + 93)), (1, .int a1)] dX7_back_29 (q := 30) rfl rfl (Nat.le_of_ble_eq_true rfl) rfl ?_
      obtain ⟨t14, hxt14, hf⟩ := bnd hf
      refine E_sub [1, 2, 0] rfl ?_
      refine L_X7_back_1 hn_m hxt14 ?_
      show Ev γ M_X7_back _ n (put 93 (mdB γ 93 0 m_trace m_text m_typed m_next m_token m_place m_value m_fault m_many m_sees m_cold m_first m_told t14 m_w m_kept m_isKept m_undos m_undoMany m_foundMan m_foundHours m_foundIs m_foundMany m_row m_best) h) [(0, .ref (gB γ + 93))] 59 [] _
      refine E_aload_n 0 dX7_back_59 (q := 60) rfl rfl rfl ?_
      refine E_iconst (x := 0) dX7_back_60 (q := 61) rfl (by decide) ?_
      have hF16 : Has n 93 (mdB γ 93 0 m_trace m_text m_typed m_next m_token m_place m_value m_fault m_many m_sees m_cold m_first m_told t14 m_w m_kept m_isKept m_undos m_undoMany m_foundMan m_foundHours m_foundIs m_foundMany m_row m_best) (put 93 (mdB γ 93 0 m_trace m_text m_typed m_next m_token m_place m_value m_fault m_many m_sees m_cold m_first m_told t14 m_w m_kept m_isKept m_undos m_undoMany m_foundMan m_foundHours m_foundIs m_foundMany m_row m_best) h) := (has_put hn_m)
      refine E_put 19 dX7_back_61 (q := 64) rfl ckX7 (Nat.le_of_ble_eq_true rfl) fl_X7_117 rfl rfl rfl (hF16.at 0 rfl) (hF16.lt 0 (Nat.le_of_ble_eq_true rfl)) (Nat.le_of_ble_eq_true rfl) (up_put (i := 0) (cs' := (mdB γ 93 0 m_trace m_text m_typed m_next m_token m_place m_value m_fault m_many m_sees m_cold m_first m_told t14 m_w m_kept m_isKept m_undos 0 m_foundMan m_foundHours m_foundIs m_foundMany m_row m_best)) (Nat.le_of_ble_eq_true rfl) rfl) ?_
      refine E_aload_n 0 dX7_back_64 (q := 65) rfl rfl rfl ?_
      have hF18 : Has n 93 (mdB γ 93 0 m_trace m_text m_typed m_next m_token m_place m_value m_fault m_many m_sees m_cold m_first m_told t14 m_w m_kept m_isKept m_undos 0 m_foundMan m_foundHours m_foundIs m_foundMany m_row m_best) (put 93 (mdB γ 93 0 m_trace m_text m_typed m_next m_token m_place m_value m_fault m_many m_sees m_cold m_first m_told t14 m_w m_kept m_isKept m_undos 0 m_foundMan m_foundHours m_foundIs m_foundMany m_row m_best) h) := (has_put hn_m)
      refine E_get 14 dX7_back_65 (q := 68) rfl ckX7 (Nat.le_of_ble_eq_true rfl) fl_X7_25 (hF18.at 0 rfl) (hF18.lt 0 (Nat.le_of_ble_eq_true rfl)) rfl ?_
      refine E_iconst (x := 0) dX7_back_68 (q := 69) rfl (by decide) ?_
      refine E_iald dX7_back_69 (q := 70) rfl (hF18.at 6 rfl) (hF18.lt 6 (Nat.le_of_ble_eq_true rfl)) (by decide +kernel) ?_
      obtain rfl := Option.some.inj hf
      exact E_iret dX7_back_70 rfl ⟨rfl, rfl, rfl⟩
    · have hf := if_t c7 hf
      refine E_bipush (x := (-2)) dX7_back_25 (q := 27) rfl (by decide) ?_
      obtain rfl := Option.some.inj hf
      exact E_iret dX7_back_27 rfl ⟨rfl, rfl, rfl⟩
  · have hf := if_t c4 hf
    refine E_iconst (x := (-1)) dX7_back_14 (q := 15) rfl (by decide) ?_
    obtain rfl := Option.some.inj hf
    exact E_iret dX7_back_15 rfl ⟨rfl, rfl, rfl⟩

-- PostReliefModel.count(I)I
def f_X7_count (N : Nat) (a1 : Int32) (m_thrown : Int32) (m_typed : Int32) (m_many : FN) (m_foundMany : Int32) : Option (Int32 × Int32) :=
  ((f_X7_in N a1 0 3).bind fun z3 => (if z3 = 0 then (if a1 = 4 then some (m_foundMany, 0) else (if a1 = 5 then some (m_typed, 0) else some ((-1), 0))) else (if ix a1 8 = true then some ((m_many (ci a1)), 0) else none)))
set_option maxHeartbeats 4000000 in
set_option maxRecDepth 100000 in
theorem m_X7_count {γ : GX} {n : Nat} {N : Nat} {h : HP} {a1 : Int32} {m_thrown : Int32} {m_trace : Int64} {m_text : FN} {m_typed : Int32} {m_next : Int32} {m_token : Int32} {m_place : Int32} {m_value : Int32} {m_fault : Int32} {m_many : FN} {m_sees : FN} {m_cold : FN} {m_first : FN} {m_told : Int32} {m_s : FN} {m_w : FN} {m_kept : FN} {m_isKept : FN} {m_undos : FN} {m_undoMany : Int32} {m_foundMan : FN} {m_foundHours : FN} {m_foundIs : FN} {m_foundMany : Int32} {m_row : FN} {m_best : FN} (hH_m : Has n 93 (mdB γ 93 m_thrown m_trace m_text m_typed m_next m_token m_place m_value m_fault m_many m_sees m_cold m_first m_told m_s m_w m_kept m_isKept m_undos m_undoMany m_foundMan m_foundHours m_foundIs m_foundMany m_row m_best) h) {z : Int32 × Int32} (hf : f_X7_count N a1 m_thrown m_typed m_many m_foundMany = some z)  : Ct γ M_X7_count n h [.ref (gB γ + 93), .int a1] (Done (some (.int z.1)) n (put 93 (mdB γ 93 z.2 m_trace m_text m_typed m_next m_token m_place m_value m_fault m_many m_sees m_cold m_first m_told m_s m_w m_kept m_isKept m_undos m_undoMany m_foundMan m_foundHours m_foundIs m_foundMany m_row m_best) h)) := by
  have hn_m : 93 + 16 ≤ n := hH_m.1
  refine Ct.heap (h := (put 93 (mdB γ 93 m_thrown m_trace m_text m_typed m_next m_token m_place m_value m_fault m_many m_sees m_cold m_first m_told m_s m_w m_kept m_isKept m_undos m_undoMany m_foundMan m_foundHours m_foundIs m_foundMany m_row m_best) h)) (put_self hH_m).symm ?_
  refine Ct_of_Ev (by decide) (fun h => by cases h) (Nat.le_of_ble_eq_true rfl) ?_
  show Ev γ M_X7_count (0, 0) n (put 93 (mdB γ 93 m_thrown m_trace m_text m_typed m_next m_token m_place m_value m_fault m_many m_sees m_cold m_first m_told m_s m_w m_kept m_isKept m_undos m_undoMany m_foundMan m_foundHours m_foundIs m_foundMany m_row m_best) h) [(0, .ref (gB γ + 93)), (1, .int a1)] 0 [] _
  unfold f_X7_count at hf
  refine E_aload_n 0 dX7_count_0 (q := 1) rfl rfl rfl ?_
  refine E_iconst (x := 0) dX7_count_1 (q := 2) rfl (by decide) ?_
  have hF1 : Has n 93 (mdB γ 93 m_thrown m_trace m_text m_typed m_next m_token m_place m_value m_fault m_many m_sees m_cold m_first m_told m_s m_w m_kept m_isKept m_undos m_undoMany m_foundMan m_foundHours m_foundIs m_foundMany m_row m_best) (put 93 (mdB γ 93 m_thrown m_trace m_text m_typed m_next m_token m_place m_value m_fault m_many m_sees m_cold m_first m_told m_s m_w m_kept m_isKept m_undos m_undoMany m_foundMan m_foundHours m_foundIs m_foundMany m_row m_best) h) := (has_put hn_m)
  refine E_put 0 dX7_count_2 (q := 5) rfl ckX7 (Nat.le_of_ble_eq_true rfl) fl_X7_56 rfl rfl rfl (hF1.at 0 rfl) (hF1.lt 0 (Nat.le_of_ble_eq_true rfl)) (Nat.le_of_ble_eq_true rfl) (up_put (i := 0) (cs' := (mdB γ 93 0 m_trace m_text m_typed m_next m_token m_place m_value m_fault m_many m_sees m_cold m_first m_told m_s m_w m_kept m_isKept m_undos m_undoMany m_foundMan m_foundHours m_foundIs m_foundMany m_row m_best)) (Nat.le_of_ble_eq_true rfl) rfl) ?_
  refine E_iload_n 1 dX7_count_5 (q := 6) rfl rfl rfl ?_
  refine E_iconst (x := 0) dX7_count_6 (q := 7) rfl (by decide) ?_
  refine E_iconst (x := 3) dX7_count_7 (q := 8) rfl (by decide) ?_
  obtain ⟨z3, hxz3, hf⟩ := bnd hf
  refine E_cS (as := [.int a1, .int 0, .int 3]) (rest := []) (u' := (0, 0)) (st' := [.int z3]) dX7_count_8 (q := 11) rfl lkm_X7_in lks_X7_60 (Nat.le_of_ble_eq_true rfl) ⟨Nat.le_refl _, Nat.le_refl _⟩ (Nat.le_of_ble_eq_true rfl) rfl rfl (m_X7_in (N := N)  hxz3) rfl rfl rfl ?_
  refine E_if_eq dX7_count_11 (t := 23) (by decide) (q := 14) rfl (fun c4 => ?_) (fun c4 => ?_)
  · have hf := if_t c4 hf
    refine E_iload_n 1 dX7_count_23 (q := 24) rfl rfl rfl ?_
    refine E_iconst (x := 4) dX7_count_24 (q := 25) rfl (by decide) ?_
    refine E_icmp_ne dX7_count_25 (t := 35) (by decide) (q := 28) rfl (fun c5 => ?_) (fun c5 => ?_)
    · have hf := if_f c5 hf
      refine E_iload_n 1 dX7_count_35 (q := 36) rfl rfl rfl ?_
      refine E_iconst (x := 5) dX7_count_36 (q := 37) rfl (by decide) ?_
      refine E_icmp_ne dX7_count_37 (t := 47) (by decide) (q := 40) rfl (fun c7 => ?_) (fun c7 => ?_)
      · have hf := if_f c7 hf
        refine E_iconst (x := (-1)) dX7_count_47 (q := 48) rfl (by decide) ?_
        obtain rfl := Option.some.inj hf
        exact E_iret dX7_count_48 rfl ⟨rfl, rfl, rfl⟩
      · have hf := if_t c7 hf
        refine E_aload_n 0 dX7_count_40 (q := 41) rfl rfl rfl ?_
        have hF8 : Has n 93 (mdB γ 93 0 m_trace m_text m_typed m_next m_token m_place m_value m_fault m_many m_sees m_cold m_first m_told m_s m_w m_kept m_isKept m_undos m_undoMany m_foundMan m_foundHours m_foundIs m_foundMany m_row m_best) (put 93 (mdB γ 93 0 m_trace m_text m_typed m_next m_token m_place m_value m_fault m_many m_sees m_cold m_first m_told m_s m_w m_kept m_isKept m_undos m_undoMany m_foundMan m_foundHours m_foundIs m_foundMany m_row m_best) h) := (has_put hn_m)
        refine E_get 3 dX7_count_41 (q := 44) rfl ckX7 (Nat.le_of_ble_eq_true rfl) fl_X7_64 (hF8.at 0 rfl) (hF8.lt 0 (Nat.le_of_ble_eq_true rfl)) rfl ?_
        refine E_goto (q := 48) dX7_count_44 (by decide) ?_
        obtain rfl := Option.some.inj hf
        exact E_iret dX7_count_48 rfl ⟨rfl, rfl, rfl⟩
    · have hf := if_t c5 hf
      refine E_aload_n 0 dX7_count_28 (q := 29) rfl rfl rfl ?_
      have hF6 : Has n 93 (mdB γ 93 0 m_trace m_text m_typed m_next m_token m_place m_value m_fault m_many m_sees m_cold m_first m_told m_s m_w m_kept m_isKept m_undos m_undoMany m_foundMan m_foundHours m_foundIs m_foundMany m_row m_best) (put 93 (mdB γ 93 0 m_trace m_text m_typed m_next m_token m_place m_value m_fault m_many m_sees m_cold m_first m_told m_s m_w m_kept m_isKept m_undos m_undoMany m_foundMan m_foundHours m_foundIs m_foundMany m_row m_best) h) := (has_put hn_m)
      refine E_get 23 dX7_count_29 (q := 32) rfl ckX7 (Nat.le_of_ble_eq_true rfl) fl_X7_114 (hF6.at 0 rfl) (hF6.lt 0 (Nat.le_of_ble_eq_true rfl)) rfl ?_
      refine E_goto (q := 48) dX7_count_32 (by decide) ?_
      obtain rfl := Option.some.inj hf
      exact E_iret dX7_count_48 rfl ⟨rfl, rfl, rfl⟩
  · have hf := if_f c4 hf
    refine E_aload_n 0 dX7_count_14 (q := 15) rfl rfl rfl ?_
    have hF9 : Has n 93 (mdB γ 93 0 m_trace m_text m_typed m_next m_token m_place m_value m_fault m_many m_sees m_cold m_first m_told m_s m_w m_kept m_isKept m_undos m_undoMany m_foundMan m_foundHours m_foundIs m_foundMany m_row m_best) (put 93 (mdB γ 93 0 m_trace m_text m_typed m_next m_token m_place m_value m_fault m_many m_sees m_cold m_first m_told m_s m_w m_kept m_isKept m_undos m_undoMany m_foundMan m_foundHours m_foundIs m_foundMany m_row m_best) h) := (has_put hn_m)
    refine E_get 9 dX7_count_15 (q := 18) rfl ckX7 (Nat.le_of_ble_eq_true rfl) fl_X7_13 (hF9.at 0 rfl) (hF9.lt 0 (Nat.le_of_ble_eq_true rfl)) rfl ?_
    refine E_iload_n 1 dX7_count_18 (q := 19) rfl rfl rfl ?_
    obtain ⟨g10, hf⟩ := gd hf
    refine E_iald dX7_count_19 (q := 20) rfl (hF9.at 2 rfl) (hF9.lt 2 (Nat.le_of_ble_eq_true rfl)) g10 ?_
    refine E_goto (q := 48) dX7_count_20 (by decide) ?_
    obtain rfl := Option.some.inj hf
    exact E_iret dX7_count_48 rfl ⟨rfl, rfl, rfl⟩

-- PostReliefModel.trace()J
def f_X7_trace (N : Nat) (m_thrown : Int32) (m_trace : Int64) : Option (Int64 × Int32) :=
  some (m_trace, 0)
set_option maxHeartbeats 4000000 in
set_option maxRecDepth 100000 in
theorem m_X7_trace {γ : GX} {n : Nat} {N : Nat} {h : HP} {m_thrown : Int32} {m_trace : Int64} {m_text : FN} {m_typed : Int32} {m_next : Int32} {m_token : Int32} {m_place : Int32} {m_value : Int32} {m_fault : Int32} {m_many : FN} {m_sees : FN} {m_cold : FN} {m_first : FN} {m_told : Int32} {m_s : FN} {m_w : FN} {m_kept : FN} {m_isKept : FN} {m_undos : FN} {m_undoMany : Int32} {m_foundMan : FN} {m_foundHours : FN} {m_foundIs : FN} {m_foundMany : Int32} {m_row : FN} {m_best : FN} (hH_m : Has n 93 (mdB γ 93 m_thrown m_trace m_text m_typed m_next m_token m_place m_value m_fault m_many m_sees m_cold m_first m_told m_s m_w m_kept m_isKept m_undos m_undoMany m_foundMan m_foundHours m_foundIs m_foundMany m_row m_best) h) {z : Int64 × Int32} (hf : f_X7_trace N m_thrown m_trace = some z)  : Ct γ M_X7_trace n h [.ref (gB γ + 93)] (Done (some (.long z.1)) n (put 93 (mdB γ 93 z.2 m_trace m_text m_typed m_next m_token m_place m_value m_fault m_many m_sees m_cold m_first m_told m_s m_w m_kept m_isKept m_undos m_undoMany m_foundMan m_foundHours m_foundIs m_foundMany m_row m_best) h)) := by
  have hn_m : 93 + 16 ≤ n := hH_m.1
  refine Ct.heap (h := (put 93 (mdB γ 93 m_thrown m_trace m_text m_typed m_next m_token m_place m_value m_fault m_many m_sees m_cold m_first m_told m_s m_w m_kept m_isKept m_undos m_undoMany m_foundMan m_foundHours m_foundIs m_foundMany m_row m_best) h)) (put_self hH_m).symm ?_
  refine Ct_of_Ev (by decide) (fun h => by cases h) (Nat.le_of_ble_eq_true rfl) ?_
  show Ev γ M_X7_trace (0, 0) n (put 93 (mdB γ 93 m_thrown m_trace m_text m_typed m_next m_token m_place m_value m_fault m_many m_sees m_cold m_first m_told m_s m_w m_kept m_isKept m_undos m_undoMany m_foundMan m_foundHours m_foundIs m_foundMany m_row m_best) h) [(0, .ref (gB γ + 93))] 0 [] _
  unfold f_X7_trace at hf
  refine E_aload_n 0 dX7_trace_0 (q := 1) rfl rfl rfl ?_
  refine E_iconst (x := 0) dX7_trace_1 (q := 2) rfl (by decide) ?_
  have hF1 : Has n 93 (mdB γ 93 m_thrown m_trace m_text m_typed m_next m_token m_place m_value m_fault m_many m_sees m_cold m_first m_told m_s m_w m_kept m_isKept m_undos m_undoMany m_foundMan m_foundHours m_foundIs m_foundMany m_row m_best) (put 93 (mdB γ 93 m_thrown m_trace m_text m_typed m_next m_token m_place m_value m_fault m_many m_sees m_cold m_first m_told m_s m_w m_kept m_isKept m_undos m_undoMany m_foundMan m_foundHours m_foundIs m_foundMany m_row m_best) h) := (has_put hn_m)
  refine E_put 0 dX7_trace_2 (q := 5) rfl ckX7 (Nat.le_of_ble_eq_true rfl) fl_X7_56 rfl rfl rfl (hF1.at 0 rfl) (hF1.lt 0 (Nat.le_of_ble_eq_true rfl)) (Nat.le_of_ble_eq_true rfl) (up_put (i := 0) (cs' := (mdB γ 93 0 m_trace m_text m_typed m_next m_token m_place m_value m_fault m_many m_sees m_cold m_first m_told m_s m_w m_kept m_isKept m_undos m_undoMany m_foundMan m_foundHours m_foundIs m_foundMany m_row m_best)) (Nat.le_of_ble_eq_true rfl) rfl) ?_
  refine E_aload_n 0 dX7_trace_5 (q := 6) rfl rfl rfl ?_
  have hF3 : Has n 93 (mdB γ 93 0 m_trace m_text m_typed m_next m_token m_place m_value m_fault m_many m_sees m_cold m_first m_told m_s m_w m_kept m_isKept m_undos m_undoMany m_foundMan m_foundHours m_foundIs m_foundMany m_row m_best) (put 93 (mdB γ 93 0 m_trace m_text m_typed m_next m_token m_place m_value m_fault m_many m_sees m_cold m_first m_told m_s m_w m_kept m_isKept m_undos m_undoMany m_foundMan m_foundHours m_foundIs m_foundMany m_row m_best) h) := (has_put hn_m)
  refine E_get 1 dX7_trace_6 (q := 9) rfl ckX7 (Nat.le_of_ble_eq_true rfl) fl_X7_200 (hF3.at 0 rfl) (hF3.lt 0 (Nat.le_of_ble_eq_true rfl)) rfl ?_
  obtain rfl := Option.some.inj hf
  exact E_lret dX7_trace_9 rfl ⟨rfl, rfl, rfl⟩
