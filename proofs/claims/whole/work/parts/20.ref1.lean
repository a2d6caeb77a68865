def M_X7_in : MI := (yX7_in, cX7_in, 3, (some .boolean), false, 1, 0, 0)
theorem lkm_X7_in : LkM M_X7_in 3 := ⟨(lg_mem 58 (by decide +kernel) rfl), (lg_mem 763 (by decide +kernel) rfl), ⟨by decide, by decide, by decide +kernel⟩, (Nat.le_of_ble_eq_true rfl)⟩
def M_X7_ones : MI := (yX7_ones, cX7_ones, 3, (some .int), false, 1, 0, 0)
theorem lkm_X7_ones : LkM M_X7_ones 1 := ⟨(lg_mem 58 (by decide +kernel) rfl), (lg_mem 857 (by decide +kernel) rfl), ⟨by decide, by decide, by decide +kernel⟩, (Nat.le_of_ble_eq_true rfl)⟩
def M_X7_letterAt : MI := (yX7_letterAt, cX7_letterAt, 2, (some .int), false, 1, 0, 0)
theorem lkm_X7_letterAt : LkM M_X7_letterAt 1 := ⟨(lg_mem 58 (by decide +kernel) rfl), (lg_mem 779 (by decide +kernel) rfl), ⟨by decide, by decide, by decide +kernel⟩, (Nat.le_of_ble_eq_true rfl)⟩
def M_X7_advances : MI := (yX7_advances, cX7_advances, 2, none, false, 2, 0, 0)
theorem lkm_X7_advances : LkM M_X7_advances 0 := ⟨(lg_mem 58 (by decide +kernel) rfl), (lg_mem 775 (by decide +kernel) rfl), ⟨by decide, by decide, by decide +kernel⟩, (Nat.le_of_ble_eq_true rfl)⟩
def M_X7_isWell : MI := (yX7_isWell, cX7_isWell, 1, (some .boolean), false, 1, 0, 0)
theorem lkm_X7_isWell : LkM M_X7_isWell 0 := ⟨(lg_mem 58 (by decide +kernel) rfl), (lg_mem 783 (by decide +kernel) rfl), ⟨by decide, by decide, by decide +kernel⟩, (Nat.le_of_ble_eq_true rfl)⟩
def M_X7_takes : MI := (yX7_takes, cX7_takes, 3, (some .int), false, 3, 0, 0)
theorem lkm_X7_takes : LkM M_X7_takes 1 := ⟨(lg_mem 58 (by decide +kernel) rfl), (lg_mem 791 (by decide +kernel) rfl), ⟨by decide, by decide, by decide +kernel⟩, (Nat.le_of_ble_eq_true rfl)⟩
def M_X7_number : MI := (yX7_number, cX7_number, 3, (some .int), false, 4, 0, 0)
theorem lkm_X7_number : LkM M_X7_number 2 := ⟨(lg_mem 58 (by decide +kernel) rfl), (lg_mem 799 (by decide +kernel) rfl), ⟨by decide, by decide, by decide +kernel⟩, (Nat.le_of_ble_eq_true rfl)⟩
def M_X7_mayBegin : MI := (yX7_mayBegin, cX7_mayBegin, 1, (some .boolean), false, 1, 0, 0)
theorem lkm_X7_mayBegin : LkM M_X7_mayBegin 0 := ⟨(lg_mem 58 (by decide +kernel) rfl), (lg_mem 787 (by decide +kernel) rfl), ⟨by decide, by decide, by decide +kernel⟩, (Nat.le_of_ble_eq_true rfl)⟩
def M_X7_readsItem : MI := (yX7_readsItem, cX7_readsItem, 2, none, false, 5, 0, 0)
theorem lkm_X7_readsItem : LkM M_X7_readsItem 1 := ⟨(lg_mem 58 (by decide +kernel) rfl), (lg_mem 795 (by decide +kernel) rfl), ⟨by decide, by decide, by decide +kernel⟩, (Nat.le_of_ble_eq_true rfl)⟩
def M_X7_settles : MI := (yX7_settles, cX7_settles, 2, none, false, 1, 0, 0)
theorem lkm_X7_settles : LkM M_X7_settles 0 := ⟨(lg_mem 58 (by decide +kernel) rfl), (lg_mem 803 (by decide +kernel) rfl), ⟨by decide, by decide, by decide +kernel⟩, (Nat.le_of_ble_eq_true rfl)⟩
def M_X7_depot : MI := (yX7_depot, cX7_depot, 3, (some .int), false, 6, 0, 0)
theorem lkm_X7_depot : LkM M_X7_depot 0 := ⟨(lg_mem 58 (by decide +kernel) rfl), (lg_mem 771 (by decide +kernel) rfl), ⟨by decide, by decide, by decide +kernel⟩, (Nat.le_of_ble_eq_true rfl)⟩
def M_X7_type : MI := (yX7_type, cX7_type, 2, (some .int), false, 2, 0, 0)
theorem lkm_X7_type : LkM M_X7_type 1 := ⟨(lg_mem 58 (by decide +kernel) rfl), (lg_mem 760 (by decide +kernel) rfl), ⟨by decide, by decide, by decide +kernel⟩, (Nat.le_of_ble_eq_true rfl)⟩
def M_X7_clear : MI := (yX7_clear, cX7_clear, 2, (some .int), false, 1, 0, 0)
theorem lkm_X7_clear : LkM M_X7_clear 0 := ⟨(lg_mem 58 (by decide +kernel) rfl), (lg_mem 767 (by decide +kernel) rfl), ⟨by decide, by decide, by decide +kernel⟩, (Nat.le_of_ble_eq_true rfl)⟩
def M_X7_isPost : MI := (yX7_isPost, cX7_isPost, 2, (some .boolean), false, 2, 0, 0)
theorem lkm_X7_isPost : LkM M_X7_isPost 1 := ⟨(lg_mem 58 (by decide +kernel) rfl), (lg_mem 811 (by decide +kernel) rfl), ⟨by decide, by decide, by decide +kernel⟩, (Nat.le_of_ble_eq_true rfl)⟩
def M_X7_isMan : MI := (yX7_isMan, cX7_isMan, 2, (some .boolean), false, 2, 0, 0)
theorem lkm_X7_isMan : LkM M_X7_isMan 1 := ⟨(lg_mem 58 (by decide +kernel) rfl), (lg_mem 823 (by decide +kernel) rfl), ⟨by decide, by decide, by decide +kernel⟩, (Nat.le_of_ble_eq_true rfl)⟩
theorem fl_X7_64 : Cond.fieldLink RX7 64 (TX7 3).1 (TX7 3).2.1 (TX7 3).2.2.1 ∈ lw_good := (lg_mem 681 (by decide +kernel) rfl)
theorem fl_X7_7 : Cond.fieldLink RX7 7 (TX7 2).1 (TX7 2).2.1 (TX7 2).2.2.1 ∈ lw_good := (lg_mem 680 (by decide +kernel) rfl)
theorem fl_X7_67 : Cond.fieldLink RX7 67 (TX7 4).1 (TX7 4).2.1 (TX7 4).2.2.1 ∈ lw_good := (lg_mem 682 (by decide +kernel) rfl)
theorem fl_X7_74 : Cond.fieldLink RX7 74 (TX7 6).1 (TX7 6).2.1 (TX7 6).2.2.1 ∈ lw_good := (lg_mem 684 (by decide +kernel) rfl)
theorem fl_X7_80 : Cond.fieldLink RX7 80 (TX7 7).1 (TX7 7).2.1 (TX7 7).2.2.1 ∈ lw_good := (lg_mem 685 (by decide +kernel) rfl)
theorem fl_X7_77 : Cond.fieldLink RX7 77 (TX7 5).1 (TX7 5).2.1 (TX7 5).2.2.1 ∈ lw_good := (lg_mem 683 (by decide +kernel) rfl)
theorem lkv_X7_70 : LkV RX7 70 M_X7_letterAt := ⟨(lg_mem 776 (by decide +kernel) rfl), (lg_mem 778 (by decide +kernel) rfl), (lg_mem 24 (by decide +kernel) rfl)⟩
theorem lks_X7_60 : LkS RX7 60 M_X7_in := ⟨(lg_mem 761 (by decide +kernel) rfl), (lg_mem 762 (by decide +kernel) rfl)⟩
theorem fl_X7_83 : Cond.fieldLink RX7 83 (TX7 8).1 (TX7 8).2.1 (TX7 8).2.2.1 ∈ lw_good := (lg_mem 686 (by decide +kernel) rfl)
theorem lkv_X7_86 : LkV RX7 86 M_X7_isWell := ⟨(lg_mem 780 (by decide +kernel) rfl), (lg_mem 782 (by decide +kernel) rfl), (lg_mem 25 (by decide +kernel) rfl)⟩
theorem lkv_X7_90 : LkV RX7 90 M_X7_advances := ⟨(lg_mem 772 (by decide +kernel) rfl), (lg_mem 774 (by decide +kernel) rfl), (lg_mem 23 (by decide +kernel) rfl)⟩
theorem lkv_X7_93 : LkV RX7 93 M_X7_takes := ⟨(lg_mem 788 (by decide +kernel) rfl), (lg_mem 790 (by decide +kernel) rfl), (lg_mem 27 (by decide +kernel) rfl)⟩
theorem fl_X7_13 : Cond.fieldLink RX7 13 (TX7 9).1 (TX7 9).2.1 (TX7 9).2.2.1 ∈ lw_good := (lg_mem 687 (by decide +kernel) rfl)
theorem fl_X7_97 : Cond.fieldLink RX7 97 (TX7 13).1 (TX7 13).2.1 (TX7 13).2.2.1 ∈ lw_good := (lg_mem 691 (by decide +kernel) rfl)
theorem fl_X7_16 : Cond.fieldLink RX7 16 (TX7 10).1 (TX7 10).2.1 (TX7 10).2.2.1 ∈ lw_good := (lg_mem 688 (by decide +kernel) rfl)
theorem fl_X7_19 : Cond.fieldLink RX7 19 (TX7 11).1 (TX7 11).2.1 (TX7 11).2.2.1 ∈ lw_good := (lg_mem 689 (by decide +kernel) rfl)
theorem fl_X7_22 : Cond.fieldLink RX7 22 (TX7 12).1 (TX7 12).2.1 (TX7 12).2.2.1 ∈ lw_good := (lg_mem 690 (by decide +kernel) rfl)
theorem lkv_X7_100 : LkV RX7 100 M_X7_number := ⟨(lg_mem 796 (by decide +kernel) rfl), (lg_mem 798 (by decide +kernel) rfl), (lg_mem 29 (by decide +kernel) rfl)⟩
theorem fl_X7_25 : Cond.fieldLink RX7 25 (TX7 14).1 (TX7 14).2.1 (TX7 14).2.2.1 ∈ lw_good := (lg_mem 692 (by decide +kernel) rfl)
theorem fl_X7_114 : Cond.fieldLink RX7 114 (TX7 23).1 (TX7 23).2.1 (TX7 23).2.2.1 ∈ lw_good := (lg_mem 701 (by decide +kernel) rfl)
theorem fl_X7_117 : Cond.fieldLink RX7 117 (TX7 19).1 (TX7 19).2.1 (TX7 19).2.2.1 ∈ lw_good := (lg_mem 697 (by decide +kernel) rfl)
theorem fl_X7_34 : Cond.fieldLink RX7 34 (TX7 17).1 (TX7 17).2.1 (TX7 17).2.2.1 ∈ lw_good := (lg_mem 695 (by decide +kernel) rfl)
theorem fl_X7_56 : Cond.fieldLink RX7 56 (TX7 0).1 (TX7 0).2.1 (TX7 0).2.2.1 ∈ lw_good := (lg_mem 678 (by decide +kernel) rfl)
theorem lkv_X7_104 : LkV RX7 104 M_X7_mayBegin := ⟨(lg_mem 784 (by decide +kernel) rfl), (lg_mem 786 (by decide +kernel) rfl), (lg_mem 26 (by decide +kernel) rfl)⟩
theorem lkv_X7_107 : LkV RX7 107 M_X7_readsItem := ⟨(lg_mem 792 (by decide +kernel) rfl), (lg_mem 794 (by decide +kernel) rfl), (lg_mem 28 (by decide +kernel) rfl)⟩
theorem lkv_X7_111 : LkV RX7 111 M_X7_settles := ⟨(lg_mem 800 (by decide +kernel) rfl), (lg_mem 802 (by decide +kernel) rfl), (lg_mem 30 (by decide +kernel) rfl)⟩
-- PostReliefModel.in(III)Z
def f_X7_in (N : Nat) (a0 : Int32) (a1 : Int32) (a2 : Int32) : Option (Int32) :=
  (if a0 < a1 then some 0 else (if a2 < a0 then some 0 else some 1))
set_option maxHeartbeats 4000000 in
set_option maxRecDepth 100000 in
theorem m_X7_in {γ : GX} {n : Nat} {N : Nat} {h : HP} {a0 : Int32} {a1 : Int32} {a2 : Int32}   {z : Int32} (hf : f_X7_in N a0 a1 a2 = some z)  : Ct γ M_X7_in n h [.int a0, .int a1, .int a2] (Done (some (.int z)) n h) := by
  refine Ct_of_Ev (by decide) (fun h => by cases h) (Nat.le_of_ble_eq_true rfl) ?_
  show Ev γ M_X7_in (0, 0) n h [(0, .int a0), (1, .int a1), (2, .int a2)] 0 [] _
  unfold f_X7_in at hf
  refine E_iload_n 0 dX7_in_0 (q := 1) rfl rfl rfl ?_
  refine E_iload_n 1 dX7_in_1 (q := 2) rfl rfl rfl ?_
  refine E_icmp_lt dX7_in_2 (t := 14) (by decide) (q := 5) rfl (fun c1 => ?_) (fun c1 => ?_)
  · have hf := if_t c1 hf
    refine E_iconst (x := 0) dX7_in_14 (q := 15) rfl (by decide) ?_
    obtain rfl := Option.some.inj hf
    exact E_zret dX7_in_15 rfl rfl ⟨rfl, rfl, rfl⟩
  · have hf := if_f c1 hf
    refine E_iload_n 0 dX7_in_5 (q := 6) rfl rfl rfl ?_
    refine E_iload_n 2 dX7_in_6 (q := 7) rfl rfl rfl ?_
    refine E_icmp_gt dX7_in_7 (t := 14) (by decide) (q := 10) rfl (fun c2 => ?_) (fun c2 => ?_)
    · have hf := if_t c2 hf
      refine E_iconst (x := 0) dX7_in_14 (q := 15) rfl (by decide) ?_
      obtain rfl := Option.some.inj hf
      exact E_zret dX7_in_15 rfl rfl ⟨rfl, rfl, rfl⟩
    · have hf := if_f c2 hf
      refine E_iconst (x := 1) dX7_in_10 (q := 11) rfl (by decide) ?_
      refine E_goto (q := 15) dX7_in_11 (by decide) ?_
      obtain rfl := Option.some.inj hf
      exact E_zret dX7_in_15 rfl rfl ⟨rfl, rfl, rfl⟩

-- PostReliefModel.ones(I)I
def b_X7_ones_1 (N : Nat) (p0 : Int32) (v1 : Int32) (v2 : Int32) : Option ((Int32 × Int32) ⊕ (Int32)) :=
  (if 6 ≤ v2 then some (.inr v1) else some (.inl ((v1 + ((p0 >>> (v2 &&& 31)) &&& 1)), (v2 + 1))))
def f_X7_ones (N : Nat) (a0 : Int32) : Option (Int32) :=
  ((lp (fun s => b_X7_ones_1 N a0 s.1 s.2) N (0, 0)).bind fun t3 => some t3)
set_option maxHeartbeats 4000000 in
set_option maxRecDepth 100000 in
theorem L_X7_ones_1 {γ : GX} {n : Nat} {h : HP} {Ψ : PS} {N : Nat} {p0 : Int32}   {s0 : Int32 × Int32} {t : Int32} (hf : lp (fun s => b_X7_ones_1 N p0 s.1 s.2) N s0 = some t) (K : Ev γ M_X7_ones (0, 0) n h [(1, .int t)] 24 [] Ψ) : Ev γ M_X7_ones (0, 0) n h [(0, .int p0), (1, .int s0.1), (2, .int s0.2)] 4 [] Ψ := by
  refine E_lp (P := fun s => Ev γ M_X7_ones (0, 0) n h [(0, .int p0), (1, .int s.1), (2, .int s.2)] 4 [] Ψ) (K := fun t => Ev γ M_X7_ones (0, 0) n h [(1, .int t)] 24 [] Ψ) ?_ N s0 t hf K
  intro s r hf hP hK
  obtain ⟨v1, v2⟩ := s
  change b_X7_ones_1 N p0 v1 v2 = some r at hf
  unfold b_X7_ones_1 at hf
  show Ev γ M_X7_ones (0, 0) n h [(0, .int p0), (1, .int v1), (2, .int v2)] 4 [] Ψ
  refine E_iload_n 2 dX7_ones_4 (q := 5) rfl rfl rfl ?_
  refine E_bipush (x := 6) dX7_ones_5 (q := 7) rfl (by decide) ?_
  refine E_icmp_ge dX7_ones_7 (t := 24) (by decide) (q := 10) rfl (fun c2 => ?_) (fun c2 => ?_)
  · have hf := if_t c2 hf
    exact E_sub [1] rfl (hK _ (Option.some.inj hf).symm)
  · have hf := if_f c2 hf
    refine E_iload_n 1 dX7_ones_10 (q := 11) rfl rfl rfl ?_
    refine E_iload_n 0 dX7_ones_11 (q := 12) rfl rfl rfl ?_
    refine E_iload_n 2 dX7_ones_12 (q := 13) rfl rfl rfl ?_
    refine E_ishr dX7_ones_13 (q := 14) rfl ?_
    refine E_iconst (x := 1) dX7_ones_14 (q := 15) rfl (by decide) ?_
    refine E_iand dX7_ones_15 (q := 16) rfl ?_
    refine E_iadd dX7_ones_16 (q := 17) rfl ?_
    refine E_istore_n [(1, .int (v1 + ((p0 >>> (v2 &&& 31)) &&& 1))), (0, .int p0), (2, .int v2)] dX7_ones_17 (q := 18) rfl rfl (Nat.le_of_ble_eq_true rfl) rfl ?_
    refine E_iinc 2 [(2, .int (v2 + 1)), (1, .int (v1 + ((p0 >>> (v2 &&& 31)) &&& 1))), (0, .int p0)] dX7_ones_18 (q := 21) rfl rfl rfl (Nat.le_of_ble_eq_true rfl) rfl ?_
    refine E_goto (q := 4) dX7_ones_21 (by decide) ?_
    exact E_sub [2, 1, 0] rfl (hP _ (Option.some.inj hf).symm)
set_option maxHeartbeats 4000000 in
set_option maxRecDepth 100000 in
theorem m_X7_ones {γ : GX} {n : Nat} {N : Nat} {h : HP} {a0 : Int32}   {z : Int32} (hf : f_X7_ones N a0 = some z)  : Ct γ M_X7_ones n h [.int a0] (Done (some (.int z)) n h) := by
  refine Ct_of_Ev (by decide) (fun h => by cases h) (Nat.le_of_ble_eq_true rfl) ?_
  show Ev γ M_X7_ones (0, 0) n h [(0, .int a0)] 0 [] _
  unfold f_X7_ones at hf
  refine E_iconst (x := 0) dX7_ones_0 (q := 1) rfl (by decide) ?_
  refine E_istore_n [(1, .int 0), (0, .int a0)] dX7_ones_1 (q := 2) rfl rfl (Nat.le_of_ble_eq_true rfl) rfl ?_
  refine E_iconst (x := 0) dX7_ones_2 (q := 3) rfl (by decide) ?_
  refine E_istore_n [(2, .int 0), (1, .int 0), (0, .int a0)] dX7_ones_3 (q := 4) rfl rfl (Nat.le_of_ble_eq_true rfl) rfl ?_
  obtain ⟨t3, hxt3, hf⟩ := bnd hf
  refine E_sub [2, 1, 0] rfl ?_
  refine L_X7_ones_1  hxt3 ?_
  show Ev γ M_X7_ones _ n h [(1, .int t3)] 24 [] _
  refine E_iload_n 0 dX7_ones_24 (q := 25) rfl rfl rfl ?_
  obtain rfl := Option.some.inj hf
  exact E_iret dX7_ones_25 rfl ⟨rfl, rfl, rfl⟩

-- PostReliefModel.letterAt(I)I
def f_X7_letterAt (N : Nat) (a1 : Int32) (m_text : FN) (m_typed : Int32) : Option (Int32) :=
  (if m_typed ≤ a1 then some (-1) else (if ix a1 200 = true then some (m_text (ci a1)) else none))
set_option maxHeartbeats 4000000 in
set_option maxRecDepth 100000 in
theorem m_X7_letterAt {γ : GX} {n : Nat} {N : Nat} {h : HP} {a1 : Int32} {m_thrown : Int32} {m_trace : Int64} {m_text : FN} {m_typed : Int32} {m_next : Int32} {m_token : Int32} {m_place : Int32} {m_value : Int32} {m_fault : Int32} {m_many : FN} {m_sees : FN} {m_cold : FN} {m_first : FN} {m_told : Int32} {m_s : FN} {m_w : FN} {m_kept : FN} {m_isKept : FN} {m_undos : FN} {m_undoMany : Int32} {m_foundMan : FN} {m_foundHours : FN} {m_foundIs : FN} {m_foundMany : Int32} {m_row : FN} {m_best : FN} (hH_m : Has n 93 (mdB γ 93 m_thrown m_trace m_text m_typed m_next m_token m_place m_value m_fault m_many m_sees m_cold m_first m_told m_s m_w m_kept m_isKept m_undos m_undoMany m_foundMan m_foundHours m_foundIs m_foundMany m_row m_best) h) {z : Int32} (hf : f_X7_letterAt N a1 m_text m_typed = some z)  : Ct γ M_X7_letterAt n h [.ref (gB γ + 93), .int a1] (Done (some (.int z)) n h) := by
  refine Ct_of_Ev (by decide) (fun h => by cases h) (Nat.le_of_ble_eq_true rfl) ?_
  show Ev γ M_X7_letterAt (0, 0) n h [(0, .ref (gB γ + 93)), (1, .int a1)] 0 [] _
  unfold f_X7_letterAt at hf
  refine E_iload_n 1 dX7_letterAt_0 (q := 1) rfl rfl rfl ?_
  refine E_aload_n 0 dX7_letterAt_1 (q := 2) rfl rfl rfl ?_
  refine E_get 3 dX7_letterAt_2 (q := 5) rfl ckX7 (Nat.le_of_ble_eq_true rfl) fl_X7_64 (hH_m.at 0 rfl) (hH_m.lt 0 (Nat.le_of_ble_eq_true rfl)) rfl ?_
  refine E_icmp_ge dX7_letterAt_5 (t := 17) (by decide) (q := 8) rfl (fun c1 => ?_) (fun c1 => ?_)
  · have hf := if_t c1 hf
    refine E_iconst (x := (-1)) dX7_letterAt_17 (q := 18) rfl (by decide) ?_
    obtain rfl := Option.some.inj hf
    exact E_iret dX7_letterAt_18 rfl ⟨rfl, rfl, rfl⟩
  · have hf := if_f c1 hf
    refine E_aload_n 0 dX7_letterAt_8 (q := 9) rfl rfl rfl ?_
    refine E_get 2 dX7_letterAt_9 (q := 12) rfl ckX7 (Nat.le_of_ble_eq_true rfl) fl_X7_7 (hH_m.at 0 rfl) (hH_m.lt 0 (Nat.le_of_ble_eq_true rfl)) rfl ?_
    refine E_iload_n 1 dX7_letterAt_12 (q := 13) rfl rfl rfl ?_
    obtain ⟨g2, hf⟩ := gd hf
    refine E_iald dX7_letterAt_13 (q := 14) rfl (hH_m.at 1 rfl) (hH_m.lt 1 (Nat.le_of_ble_eq_true rfl)) g2 ?_
    refine E_goto (q := 18) dX7_letterAt_14 (by decide) ?_
    obtain rfl := Option.some.inj hf
    exact E_iret dX7_letterAt_18 rfl ⟨rfl, rfl, rfl⟩

-- PostReliefModel.advances()V
def b_X7_advances_1 (N : Nat) (m_text : FN) (m_typed : Int32) (m_next : Int32) : Option ((Int32) ⊕ (Int32)) :=
  ((f_X7_letterAt N m_next m_text m_typed).bind fun z3 => (if z3 = 32 then some (.inl (m_next + 1)) else some (.inr m_next)))
def b_X7_advances_2 (N : Nat) (p1 : Int32) (m_text : FN) (m_typed : Int32) (m_next : Int32) (m_value : Int32) : Option ((Int32 × Int32) ⊕ (Int32 × Int32)) :=
  ((f_X7_letterAt N m_next m_text m_typed).bind fun z38 => ((f_X7_in N z38 48 57).bind fun z39 => (if z39 = 0 then some (.inr (m_next, m_value)) else (if m_value ≤ 60 then ((f_X7_letterAt N m_next m_text m_typed).bind fun z42 => some (.inl ((m_next + 1), (((10 * m_value) + z42) - 48)))) else some (.inl ((m_next + 1), m_value))))))
def f_X7_advances (N : Nat) (m_text : FN) (m_typed : Int32) (m_next : Int32) (m_token : Int32) (m_place : Int32) (m_value : Int32) : Option (Int32 × Int32 × Int32 × Int32) :=
  ((lp (fun s => b_X7_advances_1 N m_text m_typed s) N m_next).bind fun t6 => ((f_X7_letterAt N t6 m_text m_typed).bind fun z11 => (if 0 ≤ z11 then ((f_X7_in N z11 48 57).bind fun z13 => (if z13 = 0 then (if z11 = 59 then some ((t6 + 1), 3, t6, z11) else (if z11 = 112 then some ((t6 + 1), 1, t6, z11) else (if z11 = 109 then some ((t6 + 1), 1, t6, z11) else (if z11 = 111 then some ((t6 + 1), 1, t6, z11) else (if z11 = 115 then some ((t6 + 1), 1, t6, z11) else some ((t6 + 1), 4, t6, z11)))))) else ((lp (fun s => b_X7_advances_2 N z11 m_text m_typed s.1 s.2) N (t6, 0)).bind fun t49 => (if 60 < t49.2 then some (t49.1, 4, t6, t49.2) else (if z11 = 48 then (if (t49.1 - t6) ≤ 1 then some (t49.1, 2, t6, t49.2) else some (t49.1, 4, t6, t49.2)) else some (t49.1, 2, t6, t49.2)))))) else some (t6, 0, t6, m_value))))
set_option maxHeartbeats 4000000 in
set_option maxRecDepth 100000 in
theorem L_X7_advances_1 {γ : GX} {n : Nat} {h : HP} {Ψ : PS} {N : Nat} {m_thrown : Int32} {m_trace : Int64} {m_text : FN} {m_typed : Int32} {m_token : Int32} {m_place : Int32} {m_value : Int32} {m_fault : Int32} {m_many : FN} {m_sees : FN} {m_cold : FN} {m_first : FN} {m_told : Int32} {m_s : FN} {m_w : FN} {m_kept : FN} {m_isKept : FN} {m_undos : FN} {m_undoMany : Int32} {m_foundMan : FN} {m_foundHours : FN} {m_foundIs : FN} {m_foundMany : Int32} {m_row : FN} {m_best : FN} (hn_m : 93 + 16 ≤ n) {s0 : Int32} {t : Int32} (hf : lp (fun s => b_X7_advances_1 N m_text m_typed s) N s0 = some t) (K : Ev γ M_X7_advances (0, 0) n (put 93 (mdB γ 93 m_thrown m_trace m_text m_typed t m_token m_place m_value m_fault m_many m_sees m_cold m_first m_told m_s m_w m_kept m_isKept m_undos m_undoMany m_foundMan m_foundHours m_foundIs m_foundMany m_row m_best) h) [(0, .ref (gB γ + 93))] 26 [] Ψ) : Ev γ M_X7_advances (0, 0) n (put 93 (mdB γ 93 m_thrown m_trace m_text m_typed s0 m_token m_place m_value m_fault m_many m_sees m_cold m_first m_told m_s m_w m_kept m_isKept m_undos m_undoMany m_foundMan m_foundHours m_foundIs m_foundMany m_row m_best) h) [(0, .ref (gB γ + 93))] 0 [] Ψ := by
  refine E_lp (P := fun s => Ev γ M_X7_advances (0, 0) n (put 93 (mdB γ 93 m_thrown m_trace m_text m_typed s m_token m_place m_value m_fault m_many m_sees m_cold m_first m_told m_s m_w m_kept m_isKept m_undos m_undoMany m_foundMan m_foundHours m_foundIs m_foundMany m_row m_best) h) [(0, .ref (gB γ + 93))] 0 [] Ψ) (K := fun t => Ev γ M_X7_advances (0, 0) n (put 93 (mdB γ 93 m_thrown m_trace m_text m_typed t m_token m_place m_value m_fault m_many m_sees m_cold m_first m_told m_s m_w m_kept m_isKept m_undos m_undoMany m_foundMan m_foundHours m_foundIs m_foundMany m_row m_best) h) [(0, .ref (gB γ + 93))] 26 [] Ψ) ?_ N s0 t hf K
  intro s r hf hP hK
  obtain ⟨m_next, hs⟩ : ∃ z, z = s := ⟨s, rfl⟩; subst hs
  change b_X7_advances_1 N m_text m_typed m_next = some r at hf
  unfold b_X7_advances_1 at hf
  show Ev γ M_X7_advances (0, 0) n (put 93 (mdB γ 93 m_thrown m_trace m_text m_typed m_next m_token m_place m_value m_fault m_many m_sees m_cold m_first m_told m_s m_w m_kept m_isKept m_undos m_undoMany m_foundMan m_foundHours m_foundIs m_foundMany m_row m_best) h) [(0, .ref (gB γ + 93))] 0 [] Ψ
  refine E_aload_n 0 dX7_advances_0 (q := 1) rfl rfl rfl ?_
  refine E_aload_n 0 dX7_advances_1 (q := 2) rfl rfl rfl ?_
  have hF2 : Has n 93 (mdB γ 93 m_thrown m_trace m_text m_typed m_next m_token m_place m_value m_fault m_many m_sees m_cold m_first m_told m_s m_w m_kept m_isKept m_undos m_undoMany m_foundMan m_foundHours m_foundIs m_foundMany m_row m_best) (put 93 (mdB γ 93 m_thrown m_trace m_text m_typed m_next m_token m_place m_value m_fault m_many m_sees m_cold m_first m_told m_s m_w m_kept m_isKept m_undos m_undoMany m_foundMan m_foundHours m_foundIs m_foundMany m_row m_best) h) := (has_put hn_m)
  refine E_get 4 dX7_advances_2 (q := 5) rfl ckX7 (Nat.le_of_ble_eq_true rfl) fl_X7_67 (hF2.at 0 rfl) (hF2.lt 0 (Nat.le_of_ble_eq_true rfl)) rfl ?_
  obtain ⟨z3, hxz3, hf⟩ := bnd hf
  refine E_cV (as := [.int m_next]) (k := 93) (rest := []) (u' := (0, 0)) (st' := [.int z3]) dX7_advances_5 (q := 8) rfl lkm_X7_letterAt lkv_X7_70 (Nat.le_of_ble_eq_true rfl) ckX7 (hF2.at 0 rfl) (hF2.lt 0 (Nat.le_of_ble_eq_true rfl)) ⟨Nat.le_refl _, Nat.le_refl _⟩ (Nat.le_of_ble_eq_true rfl) rfl rfl (m_X7_letterAt (N := N)  hF2 hxz3) rfl rfl rfl ?_
  refine E_bipush (x := 32) dX7_advances_8 (q := 10) rfl (by decide) ?_
  refine E_icmp_ne dX7_advances_10 (t := 26) (by decide) (q := 13) rfl (fun c4 => ?_) (fun c4 => ?_)
  · have hf := if_f c4 hf
    exact E_sub [0] rfl (hK _ (Option.some.inj hf).symm)
  · have hf := if_t c4 hf
    refine E_aload_n 0 dX7_advances_13 (q := 14) rfl rfl rfl ?_
    refine E_dup dX7_advances_14 (q := 15) rfl rfl ?_
    refine E_get 4 dX7_advances_15 (q := 18) rfl ckX7 (Nat.le_of_ble_eq_true rfl) fl_X7_67 (hF2.at 0 rfl) (hF2.lt 0 (Nat.le_of_ble_eq_true rfl)) rfl ?_
    refine E_iconst (x := 1) dX7_advances_18 (q := 19) rfl (by decide) ?_
    refine E_iadd dX7_advances_19 (q := 20) rfl ?_
    refine E_put 4 dX7_advances_20 (q := 23) rfl ckX7 (Nat.le_of_ble_eq_true rfl) fl_X7_67 rfl rfl rfl (hF2.at 0 rfl) (hF2.lt 0 (Nat.le_of_ble_eq_true rfl)) (Nat.le_of_ble_eq_true rfl) (up_put (i := 0) (cs' := (mdB γ 93 m_thrown m_trace m_text m_typed (m_next + 1) m_token m_place m_value m_fault m_many m_sees m_cold m_first m_told m_s m_w m_kept m_isKept m_undos m_undoMany m_foundMan m_foundHours m_foundIs m_foundMany m_row m_best)) (Nat.le_of_ble_eq_true rfl) rfl) ?_
    refine E_goto (q := 0) dX7_advances_23 (by decide) ?_
    exact E_sub [0] rfl (hP _ (Option.some.inj hf).symm)
set_option maxHeartbeats 4000000 in
set_option maxRecDepth 100000 in
theorem L_X7_advances_2 {γ : GX} {n : Nat} {h : HP} {Ψ : PS} {N : Nat} {p1 : Int32} {m_thrown : Int32} {m_trace : Int64} {m_text : FN} {m_typed : Int32} {m_token : Int32} {m_place : Int32} {m_fault : Int32} {m_many : FN} {m_sees : FN} {m_cold : FN} {m_first : FN} {m_told : Int32} {m_s : FN} {m_w : FN} {m_kept : FN} {m_isKept : FN} {m_undos : FN} {m_undoMany : Int32} {m_foundMan : FN} {m_foundHours : FN} {m_foundIs : FN} {m_foundMany : Int32} {m_row : FN} {m_best : FN} (hn_m : 93 + 16 ≤ n) {s0 : Int32 × Int32} {t : Int32 × Int32} (hf : lp (fun s => b_X7_advances_2 N p1 m_text m_typed s.1 s.2) N s0 = some t) (K : Ev γ M_X7_advances (0, 0) n (put 93 (mdB γ 93 m_thrown m_trace m_text m_typed t.1 m_token m_place t.2 m_fault m_many m_sees m_cold m_first m_told m_s m_w m_kept m_isKept m_undos m_undoMany m_foundMan m_foundHours m_foundIs m_foundMany m_row m_best) h) [(0, .ref (gB γ + 93)), (1, .int p1)] 141 [] Ψ) : Ev γ M_X7_advances (0, 0) n (put 93 (mdB γ 93 m_thrown m_trace m_text m_typed s0.1 m_token m_place s0.2 m_fault m_many m_sees m_cold m_first m_told m_s m_w m_kept m_isKept m_undos m_undoMany m_foundMan m_foundHours m_foundIs m_foundMany m_row m_best) h) [(0, .ref (gB γ + 93)), (1, .int p1)] 71 [] Ψ := by
  refine E_lp (P := fun s => Ev γ M_X7_advances (0, 0) n (put 93 (mdB γ 93 m_thrown m_trace m_text m_typed s.1 m_token m_place s.2 m_fault m_many m_sees m_cold m_first m_told m_s m_w m_kept m_isKept m_undos m_undoMany m_foundMan m_foundHours m_foundIs m_foundMany m_row m_best) h) [(0, .ref (gB γ + 93)), (1, .int p1)] 71 [] Ψ) (K := fun t => Ev γ M_X7_advances (0, 0) n (put 93 (mdB γ 93 m_thrown m_trace m_text m_typed t.1 m_token m_place t.2 m_fault m_many m_sees m_cold m_first m_told m_s m_w m_kept m_isKept m_undos m_undoMany m_foundMan m_foundHours m_foundIs m_foundMany m_row m_best) h) [(0, .ref (gB γ + 93)), (1, .int p1)] 141 [] Ψ) ?_ N s0 t hf K
  intro s r hf hP hK
  obtain ⟨m_next, m_value⟩ := s
  change b_X7_advances_2 N p1 m_text m_typed m_next m_value = some r at hf
  unfold b_X7_advances_2 at hf
  show Ev γ M_X7_advances (0, 0) n (put 93 (mdB γ 93 m_thrown m_trace m_text m_typed m_next m_token m_place m_value m_fault m_many m_sees m_cold m_first m_told m_s m_w m_kept m_isKept m_undos m_undoMany m_foundMan m_foundHours m_foundIs m_foundMany m_row m_best) h) [(0, .ref (gB γ + 93)), (1, .int p1)] 71 [] Ψ
  refine E_aload_n 0 dX7_advances_71 (q := 72) rfl rfl rfl ?_
  refine E_aload_n 0 dX7_advances_72 (q := 73) rfl rfl rfl ?_
  have hF37 : Has n 93 (mdB γ 93 m_thrown m_trace m_text m_typed m_next m_token m_place m_value m_fault m_many m_sees m_cold m_first m_told m_s m_w m_kept m_isKept m_undos m_undoMany m_foundMan m_foundHours m_foundIs m_foundMany m_row m_best) (put 93 (mdB γ 93 m_thrown m_trace m_text m_typed m_next m_token m_place m_value m_fault m_many m_sees m_cold m_first m_told m_s m_w m_kept m_isKept m_undos m_undoMany m_foundMan m_foundHours m_foundIs m_foundMany m_row m_best) h) := (has_put hn_m)
  refine E_get 4 dX7_advances_73 (q := 76) rfl ckX7 (Nat.le_of_ble_eq_true rfl) fl_X7_67 (hF37.at 0 rfl) (hF37.lt 0 (Nat.le_of_ble_eq_true rfl)) rfl ?_
  obtain ⟨z38, hxz38, hf⟩ := bnd hf
  refine E_cV (as := [.int m_next]) (k := 93) (rest := []) (u' := (0, 0)) (st' := [.int z38]) dX7_advances_76 (q := 79) rfl lkm_X7_letterAt lkv_X7_70 (Nat.le_of_ble_eq_true rfl) ckX7 (hF37.at 0 rfl) (hF37.lt 0 (Nat.le_of_ble_eq_true rfl)) ⟨Nat.le_refl _, Nat.le_refl _⟩ (Nat.le_of_ble_eq_true rfl) rfl rfl (m_X7_letterAt (N := N)  hF37 hxz38) rfl rfl rfl ?_
  refine E_bipush (x := 48) dX7_advances_79 (q := 81) rfl (by decide) ?_
  refine E_bipush (x := 57) dX7_advances_81 (q := 83) rfl (by decide) ?_
  obtain ⟨z39, hxz39, hf⟩ := bnd hf
  refine E_cS (as := [.int z38, .int 48, .int 57]) (rest := []) (u' := (0, 0)) (st' := [.int z39]) dX7_advances_83 (q := 86) rfl lkm_X7_in lks_X7_60 (Nat.le_of_ble_eq_true rfl) ⟨Nat.le_refl _, Nat.le_refl _⟩ (Nat.le_of_ble_eq_true rfl) rfl rfl (m_X7_in (N := N)  hxz39) rfl rfl rfl ?_
  refine E_if_eq dX7_advances_86 (t := 141) (by decide) (q := 89) rfl (fun c40 => ?_) (fun c40 => ?_)
  · have hf := if_t c40 hf
    exact E_sub [0, 1] rfl (hK _ (Option.some.inj hf).symm)
  · have hf := if_f c40 hf
    refine E_aload_n 0 dX7_advances_89 (q := 90) rfl rfl rfl ?_
    refine E_aload_n 0 dX7_advances_90 (q := 91) rfl rfl rfl ?_
    refine E_get 7 dX7_advances_91 (q := 94) rfl ckX7 (Nat.le_of_ble_eq_true rfl) fl_X7_80 (hF37.at 0 rfl) (hF37.lt 0 (Nat.le_of_ble_eq_true rfl)) rfl ?_
    refine E_bipush (x := 60) dX7_advances_94 (q := 96) rfl (by decide) ?_
    refine E_icmp_le dX7_advances_96 (t := 106) (by decide) (q := 99) rfl (fun c41 => ?_) (fun c41 => ?_)
    · have hf := if_t c41 hf
      refine E_bipush (x := 10) dX7_advances_106 (q := 108) rfl (by decide) ?_
      refine E_aload_n 0 dX7_advances_108 (q := 109) rfl rfl rfl ?_
      refine E_get 7 dX7_advances_109 (q := 112) rfl ckX7 (Nat.le_of_ble_eq_true rfl) fl_X7_80 (hF37.at 0 rfl) (hF37.lt 0 (Nat.le_of_ble_eq_true rfl)) rfl ?_
      refine E_imul dX7_advances_112 (q := 113) rfl ?_
      refine E_aload_n 0 dX7_advances_113 (q := 114) rfl rfl rfl ?_
      refine E_aload_n 0 dX7_advances_114 (q := 115) rfl rfl rfl ?_
      refine E_get 4 dX7_advances_115 (q := 118) rfl ckX7 (Nat.le_of_ble_eq_true rfl) fl_X7_67 (hF37.at 0 rfl) (hF37.lt 0 (Nat.le_of_ble_eq_true rfl)) rfl ?_
      obtain ⟨z42, hxz42, hf⟩ := bnd hf
      refine E_cV (as := [.int m_next]) (k := 93) (rest := [.int (10 * m_value), .ref (gB γ + 93)]) (u' := (0, 0)) (st' := [.int z42, .int (10 * m_value), .ref (gB γ + 93)]) dX7_advances_118 (q := 121) rfl lkm_X7_letterAt lkv_X7_70 (Nat.le_of_ble_eq_true rfl) ckX7 (hF37.at 0 rfl) (hF37.lt 0 (Nat.le_of_ble_eq_true rfl)) ⟨Nat.le_refl _, Nat.le_refl _⟩ (Nat.le_of_ble_eq_true rfl) rfl rfl (m_X7_letterAt (N := N)  hF37 hxz42) rfl rfl rfl ?_
      refine E_iadd dX7_advances_121 (q := 122) rfl ?_
      refine E_bipush (x := 48) dX7_advances_122 (q := 124) rfl (by decide) ?_
      refine E_isub dX7_advances_124 (q := 125) rfl ?_
      refine E_put 7 dX7_advances_125 (q := 128) rfl ckX7 (Nat.le_of_ble_eq_true rfl) fl_X7_80 rfl rfl rfl (hF37.at 0 rfl) (hF37.lt 0 (Nat.le_of_ble_eq_true rfl)) (Nat.le_of_ble_eq_true rfl) (up_put (i := 0) (cs' := (mdB γ 93 m_thrown m_trace m_text m_typed m_next m_token m_place (((10 * m_value) + z42) - 48) m_fault m_many m_sees m_cold m_first m_told m_s m_w m_kept m_isKept m_undos m_undoMany m_foundMan m_foundHours m_foundIs m_foundMany m_row m_best)) (Nat.le_of_ble_eq_true rfl) rfl) ?_
      refine E_aload_n 0 dX7_advances_128 (q := 129) rfl rfl rfl ?_
      refine E_dup dX7_advances_129 (q := 130) rfl rfl ?_
      have hF44 : Has n 93 (mdB γ 93 m_thrown m_trace m_text m_typed m_next m_token m_place (((10 * m_value) + z42) - 48) m_fault m_many m_sees m_cold m_first m_told m_s m_w m_kept m_isKept m_undos m_undoMany m_foundMan m_foundHours m_foundIs m_foundMany m_row m_best) (put 93 (mdB γ 93 m_thrown m_trace m_text m_typed m_next m_token m_place (((10 * m_value) + z42) - 48) m_fault m_many m_sees m_cold m_first m_told m_s m_w m_kept m_isKept m_undos m_undoMany m_foundMan m_foundHours m_foundIs m_foundMany m_row m_best) h) := (has_put hn_m)
      refine E_get 4 dX7_advances_130 (q := 133) rfl ckX7 (Nat.le_of_ble_eq_true rfl) fl_X7_67 (hF44.at 0 rfl) (hF44.lt 0 (Nat.le_of_ble_eq_true rfl)) rfl ?_
      refine E_iconst (x := 1) dX7_advances_133 (q := 134) rfl (by decide) ?_
      refine E_iadd dX7_advances_134 (q := 135) rfl ?_
      refine E_put 4 dX7_advances_135 (q := 138) rfl ckX7 (Nat.le_of_ble_eq_true rfl) fl_X7_67 rfl rfl rfl (hF44.at 0 rfl) (hF44.lt 0 (Nat.le_of_ble_eq_true rfl)) (Nat.le_of_ble_eq_true rfl) (up_put (i := 0) (cs' := (mdB γ 93 m_thrown m_trace m_text m_typed (m_next + 1) m_token m_place (((10 * m_value) + z42) - 48) m_fault m_many m_sees m_cold m_first m_told m_s m_w m_kept m_isKept m_undos m_undoMany m_foundMan m_foundHours m_foundIs m_foundMany m_row m_best)) (Nat.le_of_ble_eq_true rfl) rfl) ?_
      refine E_goto (q := 71) dX7_advances_138 (by decide) ?_
      exact E_sub [0, 1] rfl (hP _ (Option.some.inj hf).symm)
    · have hf := if_f c41 hf
      refine E_aload_n 0 dX7_advances_99 (q := 100) rfl rfl rfl ?_
      refine E_get 7 dX7_advances_100 (q := 103) rfl ckX7 (Nat.le_of_ble_eq_true rfl) fl_X7_80 (hF37.at 0 rfl) (hF37.lt 0 (Nat.le_of_ble_eq_true rfl)) rfl ?_
      refine E_goto (q := 125) dX7_advances_103 (by decide) ?_
      refine E_put 7 dX7_advances_125 (q := 128) rfl ckX7 (Nat.le_of_ble_eq_true rfl) fl_X7_80 rfl rfl rfl (hF37.at 0 rfl) (hF37.lt 0 (Nat.le_of_ble_eq_true rfl)) (Nat.le_of_ble_eq_true rfl) (up_put (i := 0) (cs' := (mdB γ 93 m_thrown m_trace m_text m_typed m_next m_token m_place m_value m_fault m_many m_sees m_cold m_first m_told m_s m_w m_kept m_isKept m_undos m_undoMany m_foundMan m_foundHours m_foundIs m_foundMany m_row m_best)) (Nat.le_of_ble_eq_true rfl) rfl) ?_
      refine E_aload_n 0 dX7_advances_128 (q := 129) rfl rfl rfl ?_
      refine E_dup dX7_advances_129 (q := 130) rfl rfl ?_
      have hF47 : Has n 93 (mdB γ 93 m_thrown m_trace m_text m_typed m_next m_token m_place m_value m_fault m_many m_sees m_cold m_first m_told m_s m_w m_kept m_isKept m_undos m_undoMany m_foundMan m_foundHours m_foundIs m_foundMany m_row m_best) (put 93 (mdB γ 93 m_thrown m_trace m_text m_typed m_next m_token m_place m_value m_fault m_many m_sees m_cold m_first m_told m_s m_w m_kept m_isKept m_undos m_undoMany m_foundMan m_foundHours m_foundIs m_foundMany m_row m_best) h) := (has_put hn_m)
      refine E_get 4 dX7_advances_130 (q := 133) rfl ckX7 (Nat.le_of_ble_eq_true rfl) fl_X7_67 (hF47.at 0 rfl) (hF47.lt 0 (Nat.le_of_ble_eq_true rfl)) rfl ?_
      refine E_iconst (x := 1) dX7_advances_133 (q := 134) rfl (by decide) ?_
      refine E_iadd dX7_advances_134 (q := 135) rfl ?_
      refine E_put 4 dX7_advances_135 (q := 138) rfl ckX7 (Nat.le_of_ble_eq_true rfl) fl_X7_67 rfl rfl rfl (hF47.at 0 rfl) (hF47.lt 0 (Nat.le_of_ble_eq_true rfl)) (Nat.le_of_ble_eq_true rfl) (up_put (i := 0) (cs' := (mdB γ 93 m_thrown m_trace m_text m_typed (m_next + 1) m_token m_place m_value m_fault m_many m_sees m_cold m_first m_told m_s m_w m_kept m_isKept m_undos m_undoMany m_foundMan m_foundHours m_foundIs m_foundMany m_row m_best)) (Nat.le_of_ble_eq_true rfl) rfl) ?_
      refine E_goto (q := 71) dX7_advances_138 (by decide) ?_
      exact E_sub [0, 1] rfl (hP _ (Option.some.inj hf).symm)
set_option maxHeartbeats 4000000 in
set_option maxRecDepth 100000 in
theorem m_X7_advances {γ : GX} {n : Nat} {N : Nat} {h : HP} {m_thrown : Int32} {m_trace : Int64} {m_text : FN} {m_typed : Int32} {m_next : Int32} {m_token : Int32} {m_place : Int32} {m_value : Int32} {m_fault : Int32} {m_many : FN} {m_sees : FN} {m_cold : FN} {m_first : FN} {m_told : Int32} {m_s : FN} {m_w : FN} {m_kept : FN} {m_isKept : FN} {m_undos : FN} {m_undoMany : Int32} {m_foundMan : FN} {m_foundHours : FN} {m_foundIs : FN} {m_foundMany : Int32} {m_row : FN} {m_best : FN} (hH_m : Has n 93 (mdB γ 93 m_thrown m_trace m_text m_typed m_next m_token m_place m_value m_fault m_many m_sees m_cold m_first m_told m_s m_w m_kept m_isKept m_undos m_undoMany m_foundMan m_foundHours m_foundIs m_foundMany m_row m_best) h) {z : Int32 × Int32 × Int32 × Int32} (hf : f_X7_advances N m_text m_typed m_next m_token m_place m_value = some z)  : Ct γ M_X7_advances n h [.ref (gB γ + 93)] (Done none n (put 93 (mdB γ 93 m_thrown m_trace m_text m_typed z.1 z.2.1 z.2.2.1 z.2.2.2 m_fault m_many m_sees m_cold m_first m_told m_s m_w m_kept m_isKept m_undos m_undoMany m_foundMan m_foundHours m_foundIs m_foundMany m_row m_best) h)) := by
  have hn_m : 93 + 16 ≤ n := hH_m.1
  refine Ct.heap (h := (put 93 (mdB γ 93 m_thrown m_trace m_text m_typed m_next m_token m_place m_value m_fault m_many m_sees m_cold m_first m_told m_s m_w m_kept m_isKept m_undos m_undoMany m_foundMan m_foundHours m_foundIs m_foundMany m_row m_best) h)) (put_self hH_m).symm ?_
  refine Ct_of_Ev (by decide) (fun h => by cases h) (Nat.le_of_ble_eq_true rfl) ?_
  show Ev γ M_X7_advances (0, 0) n (put 93 (mdB γ 93 m_thrown m_trace m_text m_typed m_next m_token m_place m_value m_fault m_many m_sees m_cold m_first m_told m_s m_w m_kept m_isKept m_undos m_undoMany m_foundMan m_foundHours m_foundIs m_foundMany m_row m_best) h) [(0, .ref (gB γ + 93))] 0 [] _
  unfold f_X7_advances at hf
  obtain ⟨t6, hxt6, hf⟩ := bnd hf
  refine E_sub [0] rfl ?_
  refine L_X7_advances_1 hn_m hxt6 ?_
  show Ev γ M_X7_advances _ n (put 93 (mdB γ 93 m_thrown m_trace m_text m_typed t6 m_token m_place m_value m_fault m_many m_sees m_cold m_first m_told m_s m_w m_kept m_isKept m_undos m_undoMany m_foundMan m_foundHours m_foundIs m_foundMany m_row m_best) h) [(0, .ref (gB γ + 93))] 26 [] _
  refine E_aload_n 0 dX7_advances_26 (q := 27) rfl rfl rfl ?_
  refine E_aload_n 0 dX7_advances_27 (q := 28) rfl rfl rfl ?_
  have hF8 : Has n 93 (mdB γ 93 m_thrown m_trace m_text m_typed t6 m_token m_place m_value m_fault m_many m_sees m_cold m_first m_told m_s m_w m_kept m_isKept m_undos m_undoMany m_foundMan m_foundHours m_foundIs m_foundMany m_row m_best) (put 93 (mdB γ 93 m_thrown m_trace m_text m_typed t6 m_token m_place m_value m_fault m_many m_sees m_cold m_first m_told m_s m_w m_kept m_isKept m_undos m_undoMany m_foundMan m_foundHours m_foundIs m_foundMany m_row m_best) h) := (has_put hn_m)
  refine E_get 4 dX7_advances_28 (q := 31) rfl ckX7 (Nat.le_of_ble_eq_true rfl) fl_X7_67 (hF8.at 0 rfl) (hF8.lt 0 (Nat.le_of_ble_eq_true rfl)) rfl ?_
  refine E_put 6 dX7_advances_31 (q := 34) rfl ckX7 (Nat.le_of_ble_eq_true rfl) fl_X7_74 rfl rfl rfl (hF8.at 0 rfl) (hF8.lt 0 (Nat.le_of_ble_eq_true rfl)) (Nat.le_of_ble_eq_true rfl) (up_put (i := 0) (cs' := (mdB γ 93 m_thrown m_trace m_text m_typed t6 m_token t6 m_value m_fault m_many m_sees m_cold m_first m_told m_s m_w m_kept m_isKept m_undos m_undoMany m_foundMan m_foundHours m_foundIs m_foundMany m_row m_best)) (Nat.le_of_ble_eq_true rfl) rfl) ?_
  refine E_aload_n 0 dX7_advances_34 (q := 35) rfl rfl rfl ?_
  refine E_aload_n 0 dX7_advances_35 (q := 36) rfl rfl rfl ?_
  have hF10 : Has n 93 (mdB γ 93 m_thrown m_trace m_text m_typed t6 m_token t6 m_value m_fault m_many m_sees m_cold m_first m_told m_s m_w m_kept m_isKept m_undos m_undoMany m_foundMan m_foundHours m_foundIs m_foundMany m_row m_best) (put 93 (mdB γ 93 m_thrown m_trace m_text m_typed t6 m_token t6 m_value m_fault m_many m_sees m_cold m_first m_told m_s m_w m_kept m_isKept m_undos m_undoMany m_foundMan m_foundHours m_foundIs m_foundMany m_row m_best) h) := (has_put hn_m)
  refine E_get 4 dX7_advances_36 (q := 39) rfl ckX7 (Nat.le_of_ble_eq_true rfl) fl_X7_67 (hF10.at 0 rfl) (hF10.lt 0 (Nat.le_of_ble_eq_true rfl)) rfl ?_
  obtain ⟨z11, hxz11, hf⟩ := bnd hf
  refine E_cV (as := [.int t6]) (k := 93) (rest := []) (u' := (0, 0)) (st' := [.int z11]) dX7_advances_39 (q := 42) rfl lkm_X7_letterAt lkv_X7_70 (Nat.le_of_ble_eq_true rfl) ckX7 (hF10.at 0 rfl) (hF10.lt 0 (Nat.le_of_ble_eq_true rfl)) ⟨Nat.le_refl _, Nat.le_refl _⟩ (Nat.le_of_ble_eq_true rfl) rfl rfl (m_X7_letterAt (N := N)  hF10 hxz11) rfl rfl rfl ?_
  refine E_istore_n [(1, .int z11), (0, .ref (gB γ + 93))] dX7_advances_42 (q := 43) rfl rfl (Nat.le_of_ble_eq_true rfl) rfl ?_
  refine E_iload_n 0 dX7_advances_43 (q := 44) rfl rfl rfl ?_
  refine E_if_ge dX7_advances_44 (t := 55) (by decide) (q := 47) rfl (fun c12 => ?_) (fun c12 => ?_)
  · have hf := if_t c12 hf
    refine E_iload_n 0 dX7_advances_55 (q := 56) rfl rfl rfl ?_
    refine E_bipush (x := 48) dX7_advances_56 (q := 58) rfl (by decide) ?_
    refine E_bipush (x := 57) dX7_advances_58 (q := 60) rfl (by decide) ?_
    obtain ⟨z13, hxz13, hf⟩ := bnd hf
    refine E_cS (as := [.int z11, .int 48, .int 57]) (rest := []) (u' := (0, 0)) (st' := [.int z13]) dX7_advances_60 (q := 63) rfl lkm_X7_in lks_X7_60 (Nat.le_of_ble_eq_true rfl) ⟨Nat.le_refl _, Nat.le_refl _⟩ (Nat.le_of_ble_eq_true rfl) rfl rfl (m_X7_in (N := N)  hxz13) rfl rfl rfl ?_
    refine E_if_eq dX7_advances_63 (t := 181) (by decide) (q := 66) rfl (fun c14 => ?_) (fun c14 => ?_)
    · have hf := if_t c14 hf
      refine E_aload_n 1 dX7_advances_181 (q := 182) rfl rfl rfl ?_
      refine E_dup dX7_advances_182 (q := 183) rfl rfl ?_
      refine E_get 4 dX7_advances_183 (q := 186) rfl ckX7 (Nat.le_of_ble_eq_true rfl) fl_X7_67 (hF10.at 0 rfl) (hF10.lt 0 (Nat.le_of_ble_eq_true rfl)) rfl ?_
      refine E_iconst (x := 1) dX7_advances_186 (q := 187) rfl (by decide) ?_
      refine E_iadd dX7_advances_187 (q := 188) rfl ?_
      refine E_put 4 dX7_advances_188 (q := 191) rfl ckX7 (Nat.le_of_ble_eq_true rfl) fl_X7_67 rfl rfl rfl (hF10.at 0 rfl) (hF10.lt 0 (Nat.le_of_ble_eq_true rfl)) (Nat.le_of_ble_eq_true rfl) (up_put (i := 0) (cs' := (mdB γ 93 m_thrown m_trace m_text m_typed (t6 + 1) m_token t6 m_value m_fault m_many m_sees m_cold m_first m_told m_s m_w m_kept m_isKept m_undos m_undoMany m_foundMan m_foundHours m_foundIs m_foundMany m_row m_best)) (Nat.le_of_ble_eq_true rfl) rfl) ?_
      refine E_aload_n 1 dX7_advances_191 (q := 192) rfl rfl rfl ?_
      refine E_iload_n 0 dX7_advances_192 (q := 193) rfl rfl rfl ?_
      have hF16 : Has n 93 (mdB γ 93 m_thrown m_trace m_text m_typed (t6 + 1) m_token t6 m_value m_fault m_many m_sees m_cold m_first m_told m_s m_w m_kept m_isKept m_undos m_undoMany m_foundMan m_foundHours m_foundIs m_foundMany m_row m_best) (put 93 (mdB γ 93 m_thrown m_trace m_text m_typed (t6 + 1) m_token t6 m_value m_fault m_many m_sees m_cold m_first m_told m_s m_w m_kept m_isKept m_undos m_undoMany m_foundMan m_foundHours m_foundIs m_foundMany m_row m_best) h) := (has_put hn_m)
      refine E_put 7 dX7_advances_193 (q := 196) rfl ckX7 (Nat.le_of_ble_eq_true rfl) fl_X7_80 rfl rfl rfl (hF16.at 0 rfl) (hF16.lt 0 (Nat.le_of_ble_eq_true rfl)) (Nat.le_of_ble_eq_true rfl) (up_put (i := 0) (cs' := (mdB γ 93 m_thrown m_trace m_text m_typed (t6 + 1) m_token t6 z11 m_fault m_many m_sees m_cold m_first m_told m_s m_w m_kept m_isKept m_undos m_undoMany m_foundMan m_foundHours m_foundIs m_foundMany m_row m_best)) (Nat.le_of_ble_eq_true rfl) rfl) ?_
      refine E_aload_n 1 dX7_advances_196 (q := 197) rfl rfl rfl ?_
      refine E_iload_n 0 dX7_advances_197 (q := 198) rfl rfl rfl ?_
      refine E_bipush (x := 59) dX7_advances_198 (q := 200) rfl (by decide) ?_
      refine E_icmp_ne dX7_advances_200 (t := 207) (by decide) (q := 203) rfl (fun c18 => ?_) (fun c18 => ?_)
      · have hf := if_f c18 hf
        refine E_iload_n 0 dX7_advances_207 (q := 208) rfl rfl rfl ?_
        refine E_bipush (x := 112) dX7_advances_208 (q := 210) rfl (by decide) ?_
        refine E_icmp_eq dX7_advances_210 (t := 231) (by decide) (q := 213) rfl (fun c21 => ?_) (fun c21 => ?_)
        · have hf := if_t c21 hf
          refine E_iconst (x := 1) dX7_advances_231 (q := 232) rfl (by decide) ?_
          refine E_goto (q := 236) dX7_advances_232 (by decide) ?_
          have hF22 : Has n 93 (mdB γ 93 m_thrown m_trace m_text m_typed (t6 + 1) m_token t6 z11 m_fault m_many m_sees m_cold m_first m_told m_s m_w m_kept m_isKept m_undos m_undoMany m_foundMan m_foundHours m_foundIs m_foundMany m_row m_best) (put 93 (mdB γ 93 m_thrown m_trace m_text m_typed (t6 + 1) m_token t6 z11 m_fault m_many m_sees m_cold m_first m_told m_s m_w m_kept m_isKept m_undos m_undoMany m_foundMan m_foundHours m_foundIs m_foundMany m_row m_best) h) := (has_put hn_m)
          refine E_put 5 dX7_advances_236 (q := 239) rfl ckX7 (Nat.le_of_ble_eq_true rfl) fl_X7_77 rfl rfl rfl (hF22.at 0 rfl) (hF22.lt 0 (Nat.le_of_ble_eq_true rfl)) (Nat.le_of_ble_eq_true rfl) (up_put (i := 0) (cs' := (mdB γ 93 m_thrown m_trace m_text m_typed (t6 + 1) 1 t6 z11 m_fault m_many m_sees m_cold m_first m_told m_s m_w m_kept m_isKept m_undos m_undoMany m_foundMan m_foundHours m_foundIs m_foundMany m_row m_best)) (Nat.le_of_ble_eq_true rfl) rfl) ?_
          obtain rfl := Option.some.inj hf
          exact E_vret dX7_advances_239 rfl ⟨rfl, rfl, rfl⟩
        · have hf := if_f c21 hf
          refine E_iload_n 0 dX7_advances_213 (q := 214) rfl rfl rfl ?_
          refine E_bipush (x := 109) dX7_advances_214 (q := 216) rfl (by decide) ?_
          refine E_icmp_eq dX7_advances_216 (t := 231) (by decide) (q := 219) rfl (fun c24 => ?_) (fun c24 => ?_)
          · have hf := if_t c24 hf
            refine E_iconst (x := 1) dX7_advances_231 (q := 232) rfl (by decide) ?_
            refine E_goto (q := 236) dX7_advances_232 (by decide) ?_
            have hF25 : Has n 93 (mdB γ 93 m_thrown m_trace m_text m_typed (t6 + 1) m_token t6 z11 m_fault m_many m_sees m_cold m_first m_told m_s m_w m_kept m_isKept m_undos m_undoMany m_foundMan m_foundHours m_foundIs m_foundMany m_row m_best) (put 93 (mdB γ 93 m_thrown m_trace m_text m_typed (t6 + 1) m_token t6 z11 m_fault m_many m_sees m_cold m_first m_told m_s m_w m_kept m_isKept m_undos m_undoMany m_foundMan m_foundHours m_foundIs m_foundMany m_row m_best) h) := (has_put hn_m)
            refine E_put 5 dX7_advances_236 (q := 239) rfl ckX7 (Nat.le_of_ble_eq_true rfl) fl_X7_77 rfl rfl rfl (hF25.at 0 rfl) (hF25.lt 0 (Nat.le_of_ble_eq_true rfl)) (Nat.le_of_ble_eq_true rfl) (up_put (i := 0) (cs' := (mdB γ 93 m_thrown m_trace m_text m_typed (t6 + 1) 1 t6 z11 m_fault m_many m_sees m_cold m_first m_told m_s m_w m_kept m_isKept m_undos m_undoMany m_foundMan m_foundHours m_foundIs m_foundMany m_row m_best)) (Nat.le_of_ble_eq_true rfl) rfl) ?_
            obtain rfl := Option.some.inj hf
            exact E_vret dX7_advances_239 rfl ⟨rfl, rfl, rfl⟩
          · have hf := if_f c24 hf
            refine E_iload_n 0 dX7_advances_219 (q := 220) rfl rfl rfl ?_
            refine E_bipush (x := 111) dX7_advances_220 (q := 222) rfl (by decide) ?_
            refine E_icmp_eq dX7_advances_222 (t := 231) (by decide) (q := 225) rfl (fun c27 => ?_) (fun c27 => ?_)
            · have hf := if_t c27 hf
              refine E_iconst (x := 1) dX7_advances_231 (q := 232) rfl (by decide) ?_
              refine E_goto (q := 236) dX7_advances_232 (by decide) ?_
              have hF28 : Has n 93 (mdB γ 93 m_thrown m_trace m_text m_typed (t6 + 1) m_token t6 z11 m_fault m_many m_sees m_cold m_first m_told m_s m_w m_kept m_isKept m_undos m_undoMany m_foundMan m_foundHours m_foundIs m_foundMany m_row m_best) (put 93 (mdB γ 93 m_thrown m_trace m_text m_typed (t6 + 1) m_token t6 z11 m_fault m_many m_sees m_cold m_first m_told m_s m_w m_kept m_isKept m_undos m_undoMany m_foundMan m_foundHours m_foundIs m_foundMany m_row m_best) h) := (has_put hn_m)
              refine E_put 5 dX7_advances_236 (q := 239) rfl ckX7 (Nat.le_of_ble_eq_true rfl) fl_X7_77 rfl rfl rfl (hF28.at 0 rfl) (hF28.lt 0 (Nat.le_of_ble_eq_true rfl)) (Nat.le_of_ble_eq_true rfl) (up_put (i := 0) (cs' := (mdB γ 93 m_thrown m_trace m_text m_typed (t6 + 1) 1 t6 z11 m_fault m_many m_sees m_cold m_first m_told m_s m_w m_kept m_isKept m_undos m_undoMany m_foundMan m_foundHours m_foundIs m_foundMany m_row m_best)) (Nat.le_of_ble_eq_true rfl) rfl) ?_
              obtain rfl := Option.some.inj hf
              exact E_vret dX7_advances_239 rfl ⟨rfl, rfl, rfl⟩
            · have hf := if_f c27 hf
              refine E_iload_n 0 dX7_advances_225 (q := 226) rfl rfl rfl ?_
              refine E_bipush (x := 115) dX7_advances_226 (q := 228) rfl (by decide) ?_
              refine E_icmp_ne dX7_advances_228 (t := 235) (by decide) (q := 231) rfl (fun c30 => ?_) (fun c30 => ?_)
              · have hf := if_f c30 hf
                refine E_iconst (x := 4) dX7_advances_235 (q := 236) rfl (by decide) ?_
                have hF33 : Has n 93 (mdB γ 93 m_thrown m_trace m_text m_typed (t6 + 1) m_token t6 z11 m_fault m_many m_sees m_cold m_first m_told m_s m_w m_kept m_isKept m_undos m_undoMany m_foundMan m_foundHours m_foundIs m_foundMany m_row m_best) (put 93 (mdB γ 93 m_thrown m_trace m_text m_typed (t6 + 1) m_token t6 z11 m_fault m_many m_sees m_cold m_first m_told m_s m_w m_kept m_isKept m_undos m_undoMany m_foundMan m_foundHours m_foundIs m_foundMany m_row m_best) h) := (has_put hn_m)
                refine E_put 5 dX7_advances_236 (q := 239) rfl ckX7 (Nat.le_of_ble_eq_true rfl) fl_X7_77 rfl rfl rfl (hF33.at 0 rfl) (hF33.lt 0 (Nat.le_of_ble_eq_true rfl)) (Nat.le_of_ble_eq_true rfl) (up_put (i := 0) (cs' := (mdB γ 93 m_thrown m_trace m_text m_typed (t6 + 1) 4 t6 z11 m_fault m_many m_sees m_cold m_first m_told m_s m_w m_kept m_isKept m_undos m_undoMany m_foundMan m_foundHours m_foundIs m_foundMany m_row m_best)) (Nat.le_of_ble_eq_true rfl) rfl) ?_
                obtain rfl := Option.some.inj hf
                exact E_vret dX7_advances_239 rfl ⟨rfl, rfl, rfl⟩
              · have hf := if_t c30 hf
                refine E_iconst (x := 1) dX7_advances_231 (q := 232) rfl (by decide) ?_
                refine E_goto (q := 236) dX7_advances_232 (by decide) ?_
                have hF31 : Has n 93 (mdB γ 93 m_thrown m_trace m_text m_typed (t6 + 1) m_token t6 z11 m_fault m_many m_sees m_cold m_first m_told m_s m_w m_kept m_isKept m_undos m_undoMany m_foundMan m_foundHours m_foundIs m_foundMany m_row m_best) (put 93 (mdB γ 93 m_thrown m_trace m_text m_typed (t6 + 1) m_token t6 z11 m_fault m_many m_sees m_cold m_first m_told m_s m_w m_kept m_isKept m_undos m_undoMany m_foundMan m_foundHours m_foundIs m_foundMany m_row m_best) h) := (has_put hn_m)
                refine E_put 5 dX7_advances_236 (q := 239) rfl ckX7 (Nat.le_of_ble_eq_true rfl) fl_X7_77 rfl rfl rfl (hF31.at 0 rfl) (hF31.lt 0 (Nat.le_of_ble_eq_true rfl)) (Nat.le_of_ble_eq_true rfl) (up_put (i := 0) (cs' := (mdB γ 93 m_thrown m_trace m_text m_typed (t6 + 1) 1 t6 z11 m_fault m_many m_sees m_cold m_first m_told m_s m_w m_kept m_isKept m_undos m_undoMany m_foundMan m_foundHours m_foundIs m_foundMany m_row m_best)) (Nat.le_of_ble_eq_true rfl) rfl) ?_
                obtain rfl := Option.some.inj hf
                exact E_vret dX7_advances_239 rfl ⟨rfl, rfl, rfl⟩
      · have hf := if_t c18 hf
        refine E_iconst (x := 3) dX7_advances_203 (q := 204) rfl (by decide) ?_
        refine E_goto (q := 236) dX7_advances_204 (by decide) ?_
        have hF19 : Has n 93 (mdB γ 93 m_thrown m_trace m_text m_typed (t6 + 1) m_token t6 z11 m_fault m_many m_sees m_cold m_first m_told m_s m_w m_kept m_isKept m_undos m_undoMany m_foundMan m_foundHours m_foundIs m_foundMany m_row m_best) (put 93 (mdB γ 93 m_thrown m_trace m_text m_typed (t6 + 1) m_token t6 z11 m_fault m_many m_sees m_cold m_first m_told m_s m_w m_kept m_isKept m_undos m_undoMany m_foundMan m_foundHours m_foundIs m_foundMany m_row m_best) h) := (has_put hn_m)
        refine E_put 5 dX7_advances_236 (q := 239) rfl ckX7 (Nat.le_of_ble_eq_true rfl) fl_X7_77 rfl rfl rfl (hF19.at 0 rfl) (hF19.lt 0 (Nat.le_of_ble_eq_true rfl)) (Nat.le_of_ble_eq_true rfl) (up_put (i := 0) (cs' := (mdB γ 93 m_thrown m_trace m_text m_typed (t6 + 1) 3 t6 z11 m_fault m_many m_sees m_cold m_first m_told m_s m_w m_kept m_isKept m_undos m_undoMany m_foundMan m_foundHours m_foundIs m_foundMany m_row m_best)) (Nat.le_of_ble_eq_true rfl) rfl) ?_
        obtain rfl := Option.some.inj hf
        exact E_vret dX7_advances_239 rfl ⟨rfl, rfl, rfl⟩
    · have hf := if_f c14 hf
      refine E_aload_n 1 dX7_advances_66 (q := 67) rfl rfl rfl ?_
      refine E_iconst (x := 0) dX7_advances_67 (q := 68) rfl (by decide) ?_
      refine E_put 7 dX7_advances_68 (q := 71) rfl ckX7 (Nat.le_of_ble_eq_true rfl) fl_X7_80 rfl rfl rfl (hF10.at 0 rfl) (hF10.lt 0 (Nat.le_of_ble_eq_true rfl)) (Nat.le_of_ble_eq_true rfl) (up_put (i := 0) (cs' := (mdB γ 93 m_thrown m_trace m_text m_typed t6 m_token t6 0 m_fault m_many m_sees m_cold m_first m_told m_s m_w m_kept m_isKept m_undos m_undoMany m_foundMan m_foundHours m_foundIs m_foundMany m_row m_best)) (Nat.le_of_ble_eq_true rfl) rfl) ?_
      obtain ⟨t49, hxt49, hf⟩ := bnd hf
      refine E_sub [1, 0] rfl ?_
      refine L_X7_advances_2 hn_m hxt49 ?_
      show Ev γ M_X7_advances _ n (put 93 (mdB γ 93 m_thrown m_trace m_text m_typed t49.1 m_token t6 t49.2 m_fault m_many m_sees m_cold m_first m_told m_s m_w m_kept m_isKept m_undos m_undoMany m_foundMan m_foundHours m_foundIs m_foundMany m_row m_best) h) [(0, .ref (gB γ + 93)), (1, .int z11)] 141 [] _
      refine E_aload_n 0 dX7_advances_141 (q := 142) rfl rfl rfl ?_
      refine E_aload_n 0 dX7_advances_142 (q := 143) rfl rfl rfl ?_
      have hF51 : Has n 93 (mdB γ 93 m_thrown m_trace m_text m_typed t49.1 m_token t6 t49.2 m_fault m_many m_sees m_cold m_first m_told m_s m_w m_kept m_isKept m_undos m_undoMany m_foundMan m_foundHours m_foundIs m_foundMany m_row m_best) (put 93 (mdB γ 93 m_thrown m_trace m_text m_typed t49.1 m_token t6 t49.2 m_fault m_many m_sees m_cold m_first m_told m_s m_w m_kept m_isKept m_undos m_undoMany m_foundMan m_foundHours m_foundIs m_foundMany m_row m_best) h) := (has_put hn_m)
      refine E_get 7 dX7_advances_143 (q := 146) rfl ckX7 (Nat.le_of_ble_eq_true rfl) fl_X7_80 (hF51.at 0 rfl) (hF51.lt 0 (Nat.le_of_ble_eq_true rfl)) rfl ?_
      refine E_bipush (x := 60) dX7_advances_146 (q := 148) rfl (by decide) ?_
      refine E_icmp_gt dX7_advances_148 (t := 170) (by decide) (q := 151) rfl (fun c52 => ?_) (fun c52 => ?_)
      · have hf := if_t c52 hf
        refine E_iconst (x := 4) dX7_advances_170 (q := 171) rfl (by decide) ?_
        refine E_goto (q := 175) dX7_advances_171 (by decide) ?_
        refine E_put 5 dX7_advances_175 (q := 178) rfl ckX7 (Nat.le_of_ble_eq_true rfl) fl_X7_77 rfl rfl rfl (hF51.at 0 rfl) (hF51.lt 0 (Nat.le_of_ble_eq_true rfl)) (Nat.le_of_ble_eq_true rfl) (up_put (i := 0) (cs' := (mdB γ 93 m_thrown m_trace m_text m_typed t49.1 4 t6 t49.2 m_fault m_many m_sees m_cold m_first m_told m_s m_w m_kept m_isKept m_undos m_undoMany m_foundMan m_foundHours m_foundIs m_foundMany m_row m_best)) (Nat.le_of_ble_eq_true rfl) rfl) ?_
        refine E_goto (q := 239) dX7_advances_178 (by decide) ?_
        obtain rfl := Option.some.inj hf
        exact E_vret dX7_advances_239 rfl ⟨rfl, rfl, rfl⟩
      · have hf := if_f c52 hf
        refine E_iload_n 1 dX7_advances_151 (q := 152) rfl rfl rfl ?_
        refine E_bipush (x := 48) dX7_advances_152 (q := 154) rfl (by decide) ?_
        refine E_icmp_ne dX7_advances_154 (t := 174) (by decide) (q := 157) rfl (fun c54 => ?_) (fun c54 => ?_)
        · have hf := if_f c54 hf
          refine E_iconst (x := 2) dX7_advances_174 (q := 175) rfl (by decide) ?_
          refine E_put 5 dX7_advances_175 (q := 178) rfl ckX7 (Nat.le_of_ble_eq_true rfl) fl_X7_77 rfl rfl rfl (hF51.at 0 rfl) (hF51.lt 0 (Nat.le_of_ble_eq_true rfl)) (Nat.le_of_ble_eq_true rfl) (up_put (i := 0) (cs' := (mdB γ 93 m_thrown m_trace m_text m_typed t49.1 2 t6 t49.2 m_fault m_many m_sees m_cold m_first m_told m_s m_w m_kept m_isKept m_undos m_undoMany m_foundMan m_foundHours m_foundIs m_foundMany m_row m_best)) (Nat.le_of_ble_eq_true rfl) rfl) ?_
          refine E_goto (q := 239) dX7_advances_178 (by decide) ?_
          obtain rfl := Option.some.inj hf
          exact E_vret dX7_advances_239 rfl ⟨rfl, rfl, rfl⟩
        · have hf := if_t c54 hf
          refine E_aload_n 0 dX7_advances_157 (q := 158) rfl rfl rfl ?_
          refine E_get 4 dX7_advances_158 (q := 161) rfl ckX7 (Nat.le_of_ble_eq_true rfl) fl_X7_67 (hF51.at 0 rfl) (hF51.lt 0 (Nat.le_of_ble_eq_true rfl)) rfl ?_
          refine E_aload_n 0 dX7_advances_161 (q := 162) rfl rfl rfl ?_
          refine E_get 6 dX7_advances_162 (q := 165) rfl ckX7 (Nat.le_of_ble_eq_true rfl) fl_X7_74 (hF51.at 0 rfl) (hF51.lt 0 (Nat.le_of_ble_eq_true rfl)) rfl ?_
          refine E_isub dX7_advances_165 (q := 166) rfl ?_
          refine E_iconst (x := 1) dX7_advances_166 (q := 167) rfl (by decide) ?_
          refine E_icmp_le dX7_advances_167 (t := 174) (by decide) (q := 170) rfl (fun c55 => ?_) (fun c55 => ?_)
          · have hf := if_t c55 hf
            refine E_iconst (x := 2) dX7_advances_174 (q := 175) rfl (by decide) ?_
            refine E_put 5 dX7_advances_175 (q := 178) rfl ckX7 (Nat.le_of_ble_eq_true rfl) fl_X7_77 rfl rfl rfl (hF51.at 0 rfl) (hF51.lt 0 (Nat.le_of_ble_eq_true rfl)) (Nat.le_of_ble_eq_true rfl) (up_put (i := 0) (cs' := (mdB γ 93 m_thrown m_trace m_text m_typed t49.1 2 t6 t49.2 m_fault m_many m_sees m_cold m_first m_told m_s m_w m_kept m_isKept m_undos m_undoMany m_foundMan m_foundHours m_foundIs m_foundMany m_row m_best)) (Nat.le_of_ble_eq_true rfl) rfl) ?_
            refine E_goto (q := 239) dX7_advances_178 (by decide) ?_
            obtain rfl := Option.some.inj hf
            exact E_vret dX7_advances_239 rfl ⟨rfl, rfl, rfl⟩
          · have hf := if_f c55 hf
            refine E_iconst (x := 4) dX7_advances_170 (q := 171) rfl (by decide) ?_
            refine E_goto (q := 175) dX7_advances_171 (by decide) ?_
            refine E_put 5 dX7_advances_175 (q := 178) rfl ckX7 (Nat.le_of_ble_eq_true rfl) fl_X7_77 rfl rfl rfl (hF51.at 0 rfl) (hF51.lt 0 (Nat.le_of_ble_eq_true rfl)) (Nat.le_of_ble_eq_true rfl) (up_put (i := 0) (cs' := (mdB γ 93 m_thrown m_trace m_text m_typed t49.1 4 t6 t49.2 m_fault m_many m_sees m_cold m_first m_told m_s m_w m_kept m_isKept m_undos m_undoMany m_foundMan m_foundHours m_foundIs m_foundMany m_row m_best)) (Nat.le_of_ble_eq_true rfl) rfl) ?_
            refine E_goto (q := 239) dX7_advances_178 (by decide) ?_
            obtain rfl := Option.some.inj hf
            exact E_vret dX7_advances_239 rfl ⟨rfl, rfl, rfl⟩
  · have hf := if_f c12 hf
    refine E_aload_n 1 dX7_advances_47 (q := 48) rfl rfl rfl ?_
    refine E_iconst (x := 0) dX7_advances_48 (q := 49) rfl (by decide) ?_
    refine E_put 5 dX7_advances_49 (q := 52) rfl ckX7 (Nat.le_of_ble_eq_true rfl) fl_X7_77 rfl rfl rfl (hF10.at 0 rfl) (hF10.lt 0 (Nat.le_of_ble_eq_true rfl)) (Nat.le_of_ble_eq_true rfl) (up_put (i := 0) (cs' := (mdB γ 93 m_thrown m_trace m_text m_typed t6 0 t6 m_value m_fault m_many m_sees m_cold m_first m_told m_s m_w m_kept m_isKept m_undos m_undoMany m_foundMan m_foundHours m_foundIs m_foundMany m_row m_best)) (Nat.le_of_ble_eq_true rfl) rfl) ?_
    refine E_goto (q := 239) dX7_advances_52 (by decide) ?_
    obtain rfl := Option.some.inj hf
    exact E_vret dX7_advances_239 rfl ⟨rfl, rfl, rfl⟩

-- PostReliefModel.isWell()Z
def f_X7_isWell (N : Nat) (m_fault : Int32) : Option (Int32) :=
  (if 0 ≤ m_fault then some 0 else some 1)
set_option maxHeartbeats 4000000 in
set_option maxRecDepth 100000 in
theorem m_X7_isWell {γ : GX} {n : Nat} {N : Nat} {h : HP} {m_thrown : Int32} {m_trace : Int64} {m_text : FN} {m_typed : Int32} {m_next : Int32} {m_token : Int32} {m_place : Int32} {m_value : Int32} {m_fault : Int32} {m_many : FN} {m_sees : FN} {m_cold : FN} {m_first : FN} {m_told : Int32} {m_s : FN} {m_w : FN} {m_kept : FN} {m_isKept : FN} {m_undos : FN} {m_undoMany : Int32} {m_foundMan : FN} {m_foundHours : FN} {m_foundIs : FN} {m_foundMany : Int32} {m_row : FN} {m_best : FN} (hH_m : Has n 93 (mdB γ 93 m_thrown m_trace m_text m_typed m_next m_token m_place m_value m_fault m_many m_sees m_cold m_first m_told m_s m_w m_kept m_isKept m_undos m_undoMany m_foundMan m_foundHours m_foundIs m_foundMany m_row m_best) h) {z : Int32} (hf : f_X7_isWell N m_fault = some z)  : Ct γ M_X7_isWell n h [.ref (gB γ + 93)] (Done (some (.int z)) n h) := by
  refine Ct_of_Ev (by decide) (fun h => by cases h) (Nat.le_of_ble_eq_true rfl) ?_
  show Ev γ M_X7_isWell (0, 0) n h [(0, .ref (gB γ + 93))] 0 [] _
  unfold f_X7_isWell at hf
  refine E_aload_n 0 dX7_isWell_0 (q := 1) rfl rfl rfl ?_
  refine E_get 8 dX7_isWell_1 (q := 4) rfl ckX7 (Nat.le_of_ble_eq_true rfl) fl_X7_83 (hH_m.at 0 rfl) (hH_m.lt 0 (Nat.le_of_ble_eq_true rfl)) rfl ?_
  refine E_if_ge dX7_isWell_4 (t := 11) (by decide) (q := 7) rfl (fun c1 => ?_) (fun c1 => ?_)
  · have hf := if_t c1 hf
    refine E_iconst (x := 0) dX7_isWell_11 (q := 12) rfl (by decide) ?_
    obtain rfl := Option.some.inj hf
    exact E_zret dX7_isWell_12 rfl rfl ⟨rfl, rfl, rfl⟩
  · have hf := if_f c1 hf
    refine E_iconst (x := 1) dX7_isWell_7 (q := 8) rfl (by decide) ?_
    refine E_goto (q := 12) dX7_isWell_8 (by decide) ?_
    obtain rfl := Option.some.inj hf
    exact E_zret dX7_isWell_12 rfl rfl ⟨rfl, rfl, rfl⟩

-- PostReliefModel.takes(Z)I
def f_X7_takes (N : Nat) (a1 : Int32) (m_text : FN) (m_typed : Int32) (m_next : Int32) (m_token : Int32) (m_place : Int32) (m_value : Int32) (m_fault : Int32) : Option (Int32 × Int32 × Int32 × Int32 × Int32 × Int32) :=
  ((f_X7_isWell N m_fault).bind fun z1 => (if z1 = 0 then some (0, m_next, m_token, m_place, m_value, m_fault) else (if a1 = 0 then some (0, m_next, m_token, m_place, m_value, m_place) else ((f_X7_advances N m_text m_typed m_next m_token m_place m_value).bind fun z6 => some (m_value, z6.1, z6.2.1, z6.2.2.1, z6.2.2.2, m_fault)))))
set_option maxHeartbeats 4000000 in
set_option maxRecDepth 100000 in
theorem m_X7_takes {γ : GX} {n : Nat} {N : Nat} {h : HP} {a1 : Int32} {m_thrown : Int32} {m_trace : Int64} {m_text : FN} {m_typed : Int32} {m_next : Int32} {m_token : Int32} {m_place : Int32} {m_value : Int32} {m_fault : Int32} {m_many : FN} {m_sees : FN} {m_cold : FN} {m_first : FN} {m_told : Int32} {m_s : FN} {m_w : FN} {m_kept : FN} {m_isKept : FN} {m_undos : FN} {m_undoMany : Int32} {m_foundMan : FN} {m_foundHours : FN} {m_foundIs : FN} {m_foundMany : Int32} {m_row : FN} {m_best : FN} (hH_m : Has n 93 (mdB γ 93 m_thrown m_trace m_text m_typed m_next m_token m_place m_value m_fault m_many m_sees m_cold m_first m_told m_s m_w m_kept m_isKept m_undos m_undoMany m_foundMan m_foundHours m_foundIs m_foundMany m_row m_best) h) {z : Int32 × Int32 × Int32 × Int32 × Int32 × Int32} (hf : f_X7_takes N a1 m_text m_typed m_next m_token m_place m_value m_fault = some z)  : Ct γ M_X7_takes n h [.ref (gB γ + 93), .int a1] (Done (some (.int z.1)) n (put 93 (mdB γ 93 m_thrown m_trace m_text m_typed z.2.1 z.2.2.1 z.2.2.2.1 z.2.2.2.2.1 z.2.2.2.2.2 m_many m_sees m_cold m_first m_told m_s m_w m_kept m_isKept m_undos m_undoMany m_foundMan m_foundHours m_foundIs m_foundMany m_row m_best) h)) := by
  have hn_m : 93 + 16 ≤ n := hH_m.1
  refine Ct.heap (h := (put 93 (mdB γ 93 m_thrown m_trace m_text m_typed m_next m_token m_place m_value m_fault m_many m_sees m_cold m_first m_told m_s m_w m_kept m_isKept m_undos m_undoMany m_foundMan m_foundHours m_foundIs m_foundMany m_row m_best) h)) (put_self hH_m).symm ?_
  refine Ct_of_Ev (by decide) (fun h => by cases h) (Nat.le_of_ble_eq_true rfl) ?_
  show Ev γ M_X7_takes (0, 0) n (put 93 (mdB γ 93 m_thrown m_trace m_text m_typed m_next m_token m_place m_value m_fault m_many m_sees m_cold m_first m_told m_s m_w m_kept m_isKept m_undos m_undoMany m_foundMan m_foundHours m_foundIs m_foundMany m_row m_best) h) [(0, .ref (gB γ + 93)), (1, .int a1)] 0 [] _
  unfold f_X7_takes at hf
  refine E_aload_n 0 dX7_takes_0 (q := 1) rfl rfl rfl ?_
  obtain ⟨z1, hxz1, hf⟩ := bnd hf
  have hF2 : Has n 93 (mdB γ 93 m_thrown m_trace m_text m_typed m_next m_token m_place m_value m_fault m_many m_sees m_cold m_first m_told m_s m_w m_kept m_isKept m_undos m_undoMany m_foundMan m_foundHours m_foundIs m_foundMany m_row m_best) (put 93 (mdB γ 93 m_thrown m_trace m_text m_typed m_next m_token m_place m_value m_fault m_many m_sees m_cold m_first m_told m_s m_w m_kept m_isKept m_undos m_undoMany m_foundMan m_foundHours m_foundIs m_foundMany m_row m_best) h) := (has_put hn_m)
  refine E_cV (as := []) (k := 93) (rest := []) (u' := (0, 0)) (st' := [.int z1]) dX7_takes_1 (q := 4) rfl lkm_X7_isWell lkv_X7_86 (Nat.le_of_ble_eq_true rfl) ckX7 (hF2.at 0 rfl) (hF2.lt 0 (Nat.le_of_ble_eq_true rfl)) ⟨Nat.le_refl _, Nat.le_refl _⟩ (Nat.le_of_ble_eq_true rfl) rfl rfl (m_X7_isWell (N := N)  hF2 hxz1) rfl rfl rfl ?_
  refine E_if_ne dX7_takes_4 (t := 9) (by decide) (q := 7) rfl (fun c3 => ?_) (fun c3 => ?_)
  · have hf := if_f c3 hf
    refine E_iload_n 1 dX7_takes_9 (q := 10) rfl rfl rfl ?_
    refine E_if_ne dX7_takes_10 (t := 23) (by decide) (q := 13) rfl (fun c4 => ?_) (fun c4 => ?_)
    · have hf := if_f c4 hf
      refine E_aload_n 0 dX7_takes_23 (q := 24) rfl rfl rfl ?_
      refine E_get 7 dX7_takes_24 (q := 27) rfl ckX7 (Nat.le_of_ble_eq_true rfl) fl_X7_80 (hF2.at 0 rfl) (hF2.lt 0 (Nat.le_of_ble_eq_true rfl)) rfl ?_
      refine E_istore_n [(2, .int m_value), (0, .ref (gB γ + 93)), (1, .int a1)] dX7_takes_27 (q := 28) rfl rfl (Nat.le_of_ble_eq_true rfl) rfl ?_
      refine E_aload_n 1 dX7_takes_28 (q := 29) rfl rfl rfl ?_
      obtain ⟨z6, hxz6, hf⟩ := bnd hf
      refine E_cV (as := []) (k := 93) (rest := []) (u' := (0, 0)) (st' := []) dX7_takes_29 (q := 32) rfl lkm_X7_advances lkv_X7_90 (Nat.le_of_ble_eq_true rfl) ckX7 (hF2.at 0 rfl) (hF2.lt 0 (Nat.le_of_ble_eq_true rfl)) ⟨Nat.le_refl _, Nat.le_refl _⟩ (Nat.le_of_ble_eq_true rfl) rfl rfl (m_X7_advances (N := N)  hF2 hxz6) rfl rfl rfl ?_
      refine Ev.heap (put_put (k := 93) (cs := (mdB γ 93 m_thrown m_trace m_text m_typed m_next m_token m_place m_value m_fault m_many m_sees m_cold m_first m_told m_s m_w m_kept m_isKept m_undos m_undoMany m_foundMan m_foundHours m_foundIs m_foundMany m_row m_best)) (cs' := (mdB γ 93 m_thrown m_trace m_text m_typed z6.1 z6.2.1 z6.2.2.1 z6.2.2.2 m_fault m_many m_sees m_cold m_first m_told m_s m_w m_kept m_isKept m_undos m_undoMany m_foundMan m_foundHours m_foundIs m_foundMany m_row m_best)) (show (16 : Nat) = 16 from rfl)) ?_
      refine E_iload_n 0 dX7_takes_32 (q := 33) rfl rfl rfl ?_
      obtain rfl := Option.some.inj hf
      exact E_iret dX7_takes_33 rfl ⟨rfl, rfl, rfl⟩
    · have hf := if_t c4 hf
      refine E_aload_n 0 dX7_takes_13 (q := 14) rfl rfl rfl ?_
      refine E_aload_n 0 dX7_takes_14 (q := 15) rfl rfl rfl ?_
      refine E_get 6 dX7_takes_15 (q := 18) rfl ckX7 (Nat.le_of_ble_eq_true rfl) fl_X7_74 (hF2.at 0 rfl) (hF2.lt 0 (Nat.le_of_ble_eq_true rfl)) rfl ?_
      refine E_put 8 dX7_takes_18 (q := 21) rfl ckX7 (Nat.le_of_ble_eq_true rfl) fl_X7_83 rfl rfl rfl (hF2.at 0 rfl) (hF2.lt 0 (Nat.le_of_ble_eq_true rfl)) (Nat.le_of_ble_eq_true rfl) (up_put (i := 0) (cs' := (mdB γ 93 m_thrown m_trace m_text m_typed m_next m_token m_place m_value m_place m_many m_sees m_cold m_first m_told m_s m_w m_kept m_isKept m_undos m_undoMany m_foundMan m_foundHours m_foundIs m_foundMany m_row m_best)) (Nat.le_of_ble_eq_true rfl) rfl) ?_
      refine E_iconst (x := 0) dX7_takes_21 (q := 22) rfl (by decide) ?_
      obtain rfl := Option.some.inj hf
      exact E_iret dX7_takes_22 rfl ⟨rfl, rfl, rfl⟩
  · have hf := if_t c3 hf
    refine E_iconst (x := 0) dX7_takes_7 (q := 8) rfl (by decide) ?_
    obtain rfl := Option.some.inj hf
    exact E_iret dX7_takes_8 rfl ⟨rfl, rfl, rfl⟩

-- PostReliefModel.number(II)I
def f_X7_number (N : Nat) (a1 : Int32) (a2 : Int32) (m_text : FN) (m_typed : Int32) (m_next : Int32) (m_token : Int32) (m_place : Int32) (m_value : Int32) (m_fault : Int32) : Option (Int32 × Int32 × Int32 × Int32 × Int32 × Int32) :=
  (if m_token = 2 then ((f_X7_in N m_value a1 a2).bind fun z3 => (if z3 = 0 then ((f_X7_takes N 0 m_text m_typed m_next m_token m_place m_value m_fault).bind fun z5 => some (z5.1, z5.2.1, z5.2.2.1, z5.2.2.2.1, z5.2.2.2.2.1, z5.2.2.2.2.2)) else ((f_X7_takes N 1 m_text m_typed m_next m_token m_place m_value m_fault).bind fun z7 => some (z7.1, z7.2.1, z7.2.2.1, z7.2.2.2.1, z7.2.2.2.2.1, z7.2.2.2.2.2)))) else ((f_X7_takes N 0 m_text m_typed m_next m_token m_place m_value m_fault).bind fun z9 => some (z9.1, z9.2.1, z9.2.2.1, z9.2.2.2.1, z9.2.2.2.2.1, z9.2.2.2.2.2)))
set_option maxHeartbeats 4000000 in
set_option maxRecDepth 100000 in
theorem m_X7_number {γ : GX} {n : Nat} {N : Nat} {h : HP} {a1 : Int32} {a2 : Int32} {m_thrown : Int32} {m_trace : Int64} {m_text : FN} {m_typed : Int32} {m_next : Int32} {m_token : Int32} {m_place : Int32} {m_value : Int32} {m_fault : Int32} {m_many : FN} {m_sees : FN} {m_cold : FN} {m_first : FN} {m_told : Int32} {m_s : FN} {m_w : FN} {m_kept : FN} {m_isKept : FN} {m_undos : FN} {m_undoMany : Int32} {m_foundMan : FN} {m_foundHours : FN} {m_foundIs : FN} {m_foundMany : Int32} {m_row : FN} {m_best : FN} (hH_m : Has n 93 (mdB γ 93 m_thrown m_trace m_text m_typed m_next m_token m_place m_value m_fault m_many m_sees m_cold m_first m_told m_s m_w m_kept m_isKept m_undos m_undoMany m_foundMan m_foundHours m_foundIs m_foundMany m_row m_best) h) {z : Int32 × Int32 × Int32 × Int32 × Int32 × Int32} (hf : f_X7_number N a1 a2 m_text m_typed m_next m_token m_place m_value m_fault = some z)  : Ct γ M_X7_number n h [.ref (gB γ + 93), .int a1, .int a2] (Done (some (.int z.1)) n (put 93 (mdB γ 93 m_thrown m_trace m_text m_typed z.2.1 z.2.2.1 z.2.2.2.1 z.2.2.2.2.1 z.2.2.2.2.2 m_many m_sees m_cold m_first m_told m_s m_w m_kept m_isKept m_undos m_undoMany m_foundMan m_foundHours m_foundIs m_foundMany m_row m_best) h)) := by
  have hn_m : 93 + 16 ≤ n := hH_m.1
  refine Ct.heap (h := (put 93 (mdB γ 93 m_thrown m_trace m_text m_typed m_next m_token m_place m_value m_fault m_many m_sees m_cold m_first m_told m_s m_w m_kept m_isKept m_undos m_undoMany m_foundMan m_foundHours m_foundIs m_foundMany m_row m_best) h)) (put_self hH_m).symm ?_
  refine Ct_of_Ev (by decide) (fun h => by cases h) (Nat.le_of_ble_eq_true rfl) ?_
  show Ev γ M_X7_number (0, 0) n (put 93 (mdB γ 93 m_thrown m_trace m_text m_typed m_next m_token m_place m_value m_fault m_many m_sees m_cold m_first m_told m_s m_w m_kept m_isKept m_undos m_undoMany m_foundMan m_foundHours m_foundIs m_foundMany m_row m_best) h) [(0, .ref (gB γ + 93)), (1, .int a1), (2, .int a2)] 0 [] _
  unfold f_X7_number at hf
  refine E_aload_n 0 dX7_number_0 (q := 1) rfl rfl rfl ?_
  refine E_aload_n 0 dX7_number_1 (q := 2) rfl rfl rfl ?_
  have hF1 : Has n 93 (mdB γ 93 m_thrown m_trace m_text m_typed m_next m_token m_place m_value m_fault m_many m_sees m_cold m_first m_told m_s m_w m_kept m_isKept m_undos m_undoMany m_foundMan m_foundHours m_foundIs m_foundMany m_row m_best) (put 93 (mdB γ 93 m_thrown m_trace m_text m_typed m_next m_token m_place m_value m_fault m_many m_sees m_cold m_first m_told m_s m_w m_kept m_isKept m_undos m_undoMany m_foundMan m_foundHours m_foundIs m_foundMany m_row m_best) h) := (has_put hn_m)
  refine E_get 5 dX7_number_2 (q := 5) rfl ckX7 (Nat.le_of_ble_eq_true rfl) fl_X7_77 (hF1.at 0 rfl) (hF1.lt 0 (Nat.le_of_ble_eq_true rfl)) rfl ?_
  refine E_iconst (x := 2) dX7_number_5 (q := 6) rfl (by decide) ?_
  refine E_icmp_ne dX7_number_6 (t := 25) (by decide) (q := 9) rfl (fun c2 => ?_) (fun c2 => ?_)
  · have hf := if_f c2 hf
    refine E_iconst (x := 0) dX7_number_25 (q := 26) rfl (by decide) ?_
    obtain ⟨z9, hxz9, hf⟩ := bnd hf
    refine E_cV (as := [.int 0]) (k := 93) (rest := []) (u' := (0, 0)) (st' := [.int z9.1]) dX7_number_26 (q := 29) rfl lkm_X7_takes lkv_X7_93 (Nat.le_of_ble_eq_true rfl) ckX7 (hF1.at 0 rfl) (hF1.lt 0 (Nat.le_of_ble_eq_true rfl)) ⟨Nat.le_refl _, Nat.le_refl _⟩ (Nat.le_of_ble_eq_true rfl) rfl rfl (m_X7_takes (N := N)  hF1 hxz9) rfl rfl rfl ?_
    refine Ev.heap (put_put (k := 93) (cs := (mdB γ 93 m_thrown m_trace m_text m_typed m_next m_token m_place m_value m_fault m_many m_sees m_cold m_first m_told m_s m_w m_kept m_isKept m_undos m_undoMany m_foundMan m_foundHours m_foundIs m_foundMany m_row m_best)) (cs' := (mdB γ 93 m_thrown m_trace m_text m_typed z9.2.1 z9.2.2.1 z9.2.2.2.1 z9.2.2.2.2.1 z9.2.2.2.2.2 m_many m_sees m_cold m_first m_told m_s m_w m_kept m_isKept m_undos m_undoMany m_foundMan m_foundHours m_foundIs m_foundMany m_row m_best)) (show (16 : Nat) = 16 from rfl)) ?_
    obtain rfl := Option.some.inj hf
    exact E_iret dX7_number_29 rfl ⟨rfl, rfl, rfl⟩
  · have hf := if_t c2 hf
    refine E_aload_n 0 dX7_number_9 (q := 10) rfl rfl rfl ?_
    refine E_get 7 dX7_number_10 (q := 13) rfl ckX7 (Nat.le_of_ble_eq_true rfl) fl_X7_80 (hF1.at 0 rfl) (hF1.lt 0 (Nat.le_of_ble_eq_true rfl)) rfl ?_
    refine E_iload_n 1 dX7_number_13 (q := 14) rfl rfl rfl ?_
    refine E_iload_n 2 dX7_number_14 (q := 15) rfl rfl rfl ?_
    obtain ⟨z3, hxz3, hf⟩ := bnd hf
    refine E_cS (as := [.int m_value, .int a1, .int a2]) (rest := [.ref (gB γ + 93)]) (u' := (0, 0)) (st' := [.int z3, .ref (gB γ + 93)]) dX7_number_15 (q := 18) rfl lkm_X7_in lks_X7_60 (Nat.le_of_ble_eq_true rfl) ⟨Nat.le_refl _, Nat.le_refl _⟩ (Nat.le_of_ble_eq_true rfl) rfl rfl (m_X7_in (N := N)  hxz3) rfl rfl rfl ?_
    refine E_if_eq dX7_number_18 (t := 25) (by decide) (q := 21) rfl (fun c4 => ?_) (fun c4 => ?_)
    · have hf := if_t c4 hf
      refine E_iconst (x := 0) dX7_number_25 (q := 26) rfl (by decide) ?_
      obtain ⟨z5, hxz5, hf⟩ := bnd hf
      refine E_cV (as := [.int 0]) (k := 93) (rest := []) (u' := (0, 0)) (st' := [.int z5.1]) dX7_number_26 (q := 29) rfl lkm_X7_takes lkv_X7_93 (Nat.le_of_ble_eq_true rfl) ckX7 (hF1.at 0 rfl) (hF1.lt 0 (Nat.le_of_ble_eq_true rfl)) ⟨Nat.le_refl _, Nat.le_refl _⟩ (Nat.le_of_ble_eq_true rfl) rfl rfl (m_X7_takes (N := N)  hF1 hxz5) rfl rfl rfl ?_
      refine Ev.heap (put_put (k := 93) (cs := (mdB γ 93 m_thrown m_trace m_text m_typed m_next m_token m_place m_value m_fault m_many m_sees m_cold m_first m_told m_s m_w m_kept m_isKept m_undos m_undoMany m_foundMan m_foundHours m_foundIs m_foundMany m_row m_best)) (cs' := (mdB γ 93 m_thrown m_trace m_text m_typed z5.2.1 z5.2.2.1 z5.2.2.2.1 z5.2.2.2.2.1 z5.2.2.2.2.2 m_many m_sees m_cold m_first m_told m_s m_w m_kept m_isKept m_undos m_undoMany m_foundMan m_foundHours m_foundIs m_foundMany m_row m_best)) (show (16 : Nat) = 16 from rfl)) ?_
      obtain rfl := Option.some.inj hf
      exact E_iret dX7_number_29 rfl ⟨rfl, rfl, rfl⟩
    · have hf := if_f c4 hf
      refine E_iconst (x := 1) dX7_number_21 (q := 22) rfl (by decide) ?_
      refine E_goto (q := 26) dX7_number_22 (by decide) ?_
      obtain ⟨z7, hxz7, hf⟩ := bnd hf
      refine E_cV (as := [.int 1]) (k := 93) (rest := []) (u' := (0, 0)) (st' := [.int z7.1]) dX7_number_26 (q := 29) rfl lkm_X7_takes lkv_X7_93 (Nat.le_of_ble_eq_true rfl) ckX7 (hF1.at 0 rfl) (hF1.lt 0 (Nat.le_of_ble_eq_true rfl)) ⟨Nat.le_refl _, Nat.le_refl _⟩ (Nat.le_of_ble_eq_true rfl) rfl rfl (m_X7_takes (N := N)  hF1 hxz7) rfl rfl rfl ?_
      refine Ev.heap (put_put (k := 93) (cs := (mdB γ 93 m_thrown m_trace m_text m_typed m_next m_token m_place m_value m_fault m_many m_sees m_cold m_first m_told m_s m_w m_kept m_isKept m_undos m_undoMany m_foundMan m_foundHours m_foundIs m_foundMany m_row m_best)) (cs' := (mdB γ 93 m_thrown m_trace m_text m_typed z7.2.1 z7.2.2.1 z7.2.2.2.1 z7.2.2.2.2.1 z7.2.2.2.2.2 m_many m_sees m_cold m_first m_told m_s m_w m_kept m_isKept m_undos m_undoMany m_foundMan m_foundHours m_foundIs m_foundMany m_row m_best)) (show (16 : Nat) = 16 from rfl)) ?_
      obtain rfl := Option.some.inj hf
      exact E_iret dX7_number_29 rfl ⟨rfl, rfl, rfl⟩

-- PostReliefModel.mayBegin()Z
def f_X7_mayBegin (N : Nat) (m_value : Int32) (m_many : FN) (m_told : Int32) : Option (Int32) :=
  (if m_value = 112 then (if 5 ≤ (m_many (ci 4)) then some 0 else some 1) else (if m_value = 109 then (if 6 ≤ (m_many (ci 5)) then some 0 else some 1) else (if m_value = 111 then (if (m_told &&& 1) = 0 then some 1 else some 0) else (if (m_told &&& 2) = 0 then some 1 else some 0))))
set_option maxHeartbeats 4000000 in
set_option maxRecDepth 100000 in
theorem m_X7_mayBegin {γ : GX} {n : Nat} {N : Nat} {h : HP} {m_thrown : Int32} {m_trace : Int64} {m_text : FN} {m_typed : Int32} {m_next : Int32} {m_token : Int32} {m_place : Int32} {m_value : Int32} {m_fault : Int32} {m_many : FN} {m_sees : FN} {m_cold : FN} {m_first : FN} {m_told : Int32} {m_s : FN} {m_w : FN} {m_kept : FN} {m_isKept : FN} {m_undos : FN} {m_undoMany : Int32} {m_foundMan : FN} {m_foundHours : FN} {m_foundIs : FN} {m_foundMany : Int32} {m_row : FN} {m_best : FN} (hH_m : Has n 93 (mdB γ 93 m_thrown m_trace m_text m_typed m_next m_token m_place m_value m_fault m_many m_sees m_cold m_first m_told m_s m_w m_kept m_isKept m_undos m_undoMany m_foundMan m_foundHours m_foundIs m_foundMany m_row m_best) h) {z : Int32} (hf : f_X7_mayBegin N m_value m_many m_told = some z)  : Ct γ M_X7_mayBegin n h [.ref (gB γ + 93)] (Done (some (.int z)) n h) := by
  refine Ct_of_Ev (by decide) (fun h => by cases h) (Nat.le_of_ble_eq_true rfl) ?_
  show Ev γ M_X7_mayBegin (0, 0) n h [(0, .ref (gB γ + 93))] 0 [] _
  unfold f_X7_mayBegin at hf
  refine E_aload_n 0 dX7_mayBegin_0 (q := 1) rfl rfl rfl ?_
  refine E_get 7 dX7_mayBegin_1 (q := 4) rfl ckX7 (Nat.le_of_ble_eq_true rfl) fl_X7_80 (hH_m.at 0 rfl) (hH_m.lt 0 (Nat.le_of_ble_eq_true rfl)) rfl ?_
  refine E_bipush (x := 112) dX7_mayBegin_4 (q := 6) rfl (by decide) ?_
  refine E_icmp_ne dX7_mayBegin_6 (t := 27) (by decide) (q := 9) rfl (fun c1 => ?_) (fun c1 => ?_)
  · have hf := if_f c1 hf
    refine E_aload_n 0 dX7_mayBegin_27 (q := 28) rfl rfl rfl ?_
    refine E_get 7 dX7_mayBegin_28 (q := 31) rfl ckX7 (Nat.le_of_ble_eq_true rfl) fl_X7_80 (hH_m.at 0 rfl) (hH_m.lt 0 (Nat.le_of_ble_eq_true rfl)) rfl ?_
    refine E_bipush (x := 109) dX7_mayBegin_31 (q := 33) rfl (by decide) ?_
    refine E_icmp_ne dX7_mayBegin_33 (t := 55) (by decide) (q := 36) rfl (fun c3 => ?_) (fun c3 => ?_)
    · have hf := if_f c3 hf
      refine E_aload_n 0 dX7_mayBegin_55 (q := 56) rfl rfl rfl ?_
      refine E_get 7 dX7_mayBegin_56 (q := 59) rfl ckX7 (Nat.le_of_ble_eq_true rfl) fl_X7_80 (hH_m.at 0 rfl) (hH_m.lt 0 (Nat.le_of_ble_eq_true rfl)) rfl ?_
      refine E_bipush (x := 111) dX7_mayBegin_59 (q := 61) rfl (by decide) ?_
      refine E_icmp_ne dX7_mayBegin_61 (t := 81) (by decide) (q := 64) rfl (fun c5 => ?_) (fun c5 => ?_)
      · have hf := if_f c5 hf
        refine E_aload_n 0 dX7_mayBegin_81 (q := 82) rfl rfl rfl ?_
        refine E_get 13 dX7_mayBegin_82 (q := 85) rfl ckX7 (Nat.le_of_ble_eq_true rfl) fl_X7_97 (hH_m.at 0 rfl) (hH_m.lt 0 (Nat.le_of_ble_eq_true rfl)) rfl ?_
        refine E_iconst (x := 2) dX7_mayBegin_85 (q := 86) rfl (by decide) ?_
        refine E_iand dX7_mayBegin_86 (q := 87) rfl ?_
        refine E_if_ne dX7_mayBegin_87 (t := 94) (by decide) (q := 90) rfl (fun c7 => ?_) (fun c7 => ?_)
        · have hf := if_f c7 hf
          refine E_iconst (x := 0) dX7_mayBegin_94 (q := 95) rfl (by decide) ?_
          obtain rfl := Option.some.inj hf
          exact E_zret dX7_mayBegin_95 rfl rfl ⟨rfl, rfl, rfl⟩
        · have hf := if_t c7 hf
          refine E_iconst (x := 1) dX7_mayBegin_90 (q := 91) rfl (by decide) ?_
          refine E_goto (q := 95) dX7_mayBegin_91 (by decide) ?_
          obtain rfl := Option.some.inj hf
          exact E_zret dX7_mayBegin_95 rfl rfl ⟨rfl, rfl, rfl⟩
      · have hf := if_t c5 hf
        refine E_aload_n 0 dX7_mayBegin_64 (q := 65) rfl rfl rfl ?_
        refine E_get 13 dX7_mayBegin_65 (q := 68) rfl ckX7 (Nat.le_of_ble_eq_true rfl) fl_X7_97 (hH_m.at 0 rfl) (hH_m.lt 0 (Nat.le_of_ble_eq_true rfl)) rfl ?_
        refine E_iconst (x := 1) dX7_mayBegin_68 (q := 69) rfl (by decide) ?_
        refine E_iand dX7_mayBegin_69 (q := 70) rfl ?_
        refine E_if_ne dX7_mayBegin_70 (t := 77) (by decide) (q := 73) rfl (fun c6 => ?_) (fun c6 => ?_)
        · have hf := if_f c6 hf
          refine E_iconst (x := 0) dX7_mayBegin_77 (q := 78) rfl (by decide) ?_
          refine E_goto (q := 95) dX7_mayBegin_78 (by decide) ?_
          obtain rfl := Option.some.inj hf
          exact E_zret dX7_mayBegin_95 rfl rfl ⟨rfl, rfl, rfl⟩
        · have hf := if_t c6 hf
          refine E_iconst (x := 1) dX7_mayBegin_73 (q := 74) rfl (by decide) ?_
          refine E_goto (q := 95) dX7_mayBegin_74 (by decide) ?_
          obtain rfl := Option.some.inj hf
          exact E_zret dX7_mayBegin_95 rfl rfl ⟨rfl, rfl, rfl⟩
    · have hf := if_t c3 hf
      refine E_aload_n 0 dX7_mayBegin_36 (q := 37) rfl rfl rfl ?_
      refine E_get 9 dX7_mayBegin_37 (q := 40) rfl ckX7 (Nat.le_of_ble_eq_true rfl) fl_X7_13 (hH_m.at 0 rfl) (hH_m.lt 0 (Nat.le_of_ble_eq_true rfl)) rfl ?_
      refine E_iconst (x := 5) dX7_mayBegin_40 (q := 41) rfl (by decide) ?_
      refine E_iald dX7_mayBegin_41 (q := 42) rfl (hH_m.at 2 rfl) (hH_m.lt 2 (Nat.le_of_ble_eq_true rfl)) (by decide +kernel) ?_
      refine E_bipush (x := 6) dX7_mayBegin_42 (q := 44) rfl (by decide) ?_
      refine E_icmp_ge dX7_mayBegin_44 (t := 51) (by decide) (q := 47) rfl (fun c4 => ?_) (fun c4 => ?_)
      · have hf := if_t c4 hf
        refine E_iconst (x := 0) dX7_mayBegin_51 (q := 52) rfl (by decide) ?_
        refine E_goto (q := 95) dX7_mayBegin_52 (by decide) ?_
        obtain rfl := Option.some.inj hf
        exact E_zret dX7_mayBegin_95 rfl rfl ⟨rfl, rfl, rfl⟩
      · have hf := if_f c4 hf
        refine E_iconst (x := 1) dX7_mayBegin_47 (q := 48) rfl (by decide) ?_
        refine E_goto (q := 95) dX7_mayBegin_48 (by decide) ?_
        obtain rfl := Option.some.inj hf
        exact E_zret dX7_mayBegin_95 rfl rfl ⟨rfl, rfl, rfl⟩
  · have hf := if_t c1 hf
    refine E_aload_n 0 dX7_mayBegin_9 (q := 10) rfl rfl rfl ?_
    refine E_get 9 dX7_mayBegin_10 (q := 13) rfl ckX7 (Nat.le_of_ble_eq_true rfl) fl_X7_13 (hH_m.at 0 rfl) (hH_m.lt 0 (Nat.le_of_ble_eq_true rfl)) rfl ?_
    refine E_iconst (x := 4) dX7_mayBegin_13 (q := 14) rfl (by decide) ?_
    refine E_iald dX7_mayBegin_14 (q := 15) rfl (hH_m.at 2 rfl) (hH_m.lt 2 (Nat.le_of_ble_eq_true rfl)) (by decide +kernel) ?_
    refine E_iconst (x := 5) dX7_mayBegin_15 (q := 16) rfl (by decide) ?_
    refine E_icmp_ge dX7_mayBegin_16 (t := 23) (by decide) (q := 19) rfl (fun c2 => ?_) (fun c2 => ?_)
    · have hf := if_t c2 hf
      refine E_iconst (x := 0) dX7_mayBegin_23 (q := 24) rfl (by decide) ?_
      refine E_goto (q := 95) dX7_mayBegin_24 (by decide) ?_
      obtain rfl := Option.some.inj hf
      exact E_zret dX7_mayBegin_95 rfl rfl ⟨rfl, rfl, rfl⟩
    · have hf := if_f c2 hf
      refine E_iconst (x := 1) dX7_mayBegin_19 (q := 20) rfl (by decide) ?_
      refine E_goto (q := 95) dX7_mayBegin_20 (by decide) ?_
      obtain rfl := Option.some.inj hf
      exact E_zret dX7_mayBegin_95 rfl rfl ⟨rfl, rfl, rfl⟩

-- PostReliefModel.readsItem(I)V
def f_X7_readsItem (N : Nat) (a1 : Int32) (m_text : FN) (m_typed : Int32) (m_next : Int32) (m_token : Int32) (m_place : Int32) (m_value : Int32) (m_fault : Int32) (m_many : FN) (m_sees : FN) (m_cold : FN) (m_first : FN) (m_told : Int32) : Option (Int32 × Int32 × Int32 × Int32 × Int32 × FN × FN × FN × FN × Int32) :=
  (if a1 = 112 then ((f_X7_number N 0 31 m_text m_typed m_next m_token m_place m_value m_fault).bind fun z3 => (if ix (5 + (m_many (ci 4))) 10 = true then ((f_X7_number N 0 9 m_text m_typed z3.2.1 z3.2.2.1 z3.2.2.2.1 z3.2.2.2.2.1 z3.2.2.2.2.2).bind fun z9 => some (z9.2.1, z9.2.2.1, z9.2.2.2.1, z9.2.2.2.2.1, z9.2.2.2.2.2, (upd m_many (ci 4) ((m_many (ci 4)) + 1)), (upd m_sees (ci (5 + (m_many (ci 4)))) z3.1), (upd m_cold (ci (5 + (m_many (ci 4)))) z9.1), m_first, m_told)) else none)) else (if a1 = 109 then ((f_X7_number N 0 60 m_text m_typed m_next m_token m_place m_value m_fault).bind fun z17 => (if ix (6 + (m_many (ci 5))) 12 = true then some (z17.2.1, z17.2.2.1, z17.2.2.2.1, z17.2.2.2.2.1, z17.2.2.2.2.2, (upd m_many (ci 5) ((m_many (ci 5)) + 1)), m_sees, m_cold, (upd m_first (ci (6 + (m_many (ci 5)))) z17.1), m_told) else none)) else (if a1 = 111 then ((f_X7_number N 1 9 m_text m_typed m_next m_token m_place m_value m_fault).bind fun z26 => some (z26.2.1, z26.2.2.1, z26.2.2.2.1, z26.2.2.2.2.1, z26.2.2.2.2.2, (upd m_many (ci 6) z26.1), m_sees, m_cold, m_first, (m_told ||| 1))) else ((f_X7_number N 1 9 m_text m_typed m_next m_token m_place m_value m_fault).bind fun z33 => some (z33.2.1, z33.2.2.1, z33.2.2.2.1, z33.2.2.2.2.1, z33.2.2.2.2.2, (upd m_many (ci 7) z33.1), m_sees, m_cold, m_first, (m_told ||| 2))))))
set_option maxHeartbeats 4000000 in
set_option maxRecDepth 100000 in
theorem m_X7_readsItem {γ : GX} {n : Nat} {N : Nat} {h : HP} {a1 : Int32} {m_thrown : Int32} {m_trace : Int64} {m_text : FN} {m_typed : Int32} {m_next : Int32} {m_token : Int32} {m_place : Int32} {m_value : Int32} {m_fault : Int32} {m_many : FN} {m_sees : FN} {m_cold : FN} {m_first : FN} {m_told : Int32} {m_s : FN} {m_w : FN} {m_kept : FN} {m_isKept : FN} {m_undos : FN} {m_undoMany : Int32} {m_foundMan : FN} {m_foundHours : FN} {m_foundIs : FN} {m_foundMany : Int32} {m_row : FN} {m_best : FN} (hH_m : Has n 93 (mdB γ 93 m_thrown m_trace m_text m_typed m_next m_token m_place m_value m_fault m_many m_sees m_cold m_first m_told m_s m_w m_kept m_isKept m_undos m_undoMany m_foundMan m_foundHours m_foundIs m_foundMany m_row m_best) h) {z : Int32 × Int32 × Int32 × Int32 × Int32 × FN × FN × FN × FN × Int32} (hf : f_X7_readsItem N a1 m_text m_typed m_next m_token m_place m_value m_fault m_many m_sees m_cold m_first m_told = some z)  : Ct γ M_X7_readsItem n h [.ref (gB γ + 93), .int a1] (Done none n (put 93 (mdB γ 93 m_thrown m_trace m_text m_typed z.1 z.2.1 z.2.2.1 z.2.2.2.1 z.2.2.2.2.1 z.2.2.2.2.2.1 z.2.2.2.2.2.2.1 z.2.2.2.2.2.2.2.1 z.2.2.2.2.2.2.2.2.1 z.2.2.2.2.2.2.2.2.2 m_s m_w m_kept m_isKept m_undos m_undoMany m_foundMan m_foundHours m_foundIs m_foundMany m_row m_best) h)) := by
  have hn_m : 93 + 16 ≤ n := hH_m.1
  refine Ct.heap (h := (put 93 (mdB γ 93 m_thrown m_trace m_text m_typed m_next m_token m_place m_value m_fault m_many m_sees m_cold m_first m_told m_s m_w m_kept m_isKept m_undos m_undoMany m_foundMan m_foundHours m_foundIs m_foundMany m_row m_best) h)) (put_self hH_m).symm ?_
  refine Ct_of_Ev (by decide) (fun h => by cases h) (Nat.le_of_ble_eq_true rfl) ?_
  show Ev γ M_X7_readsItem (0, 0) n (put 93 (mdB γ 93 m_thrown m_trace m_text m_typed m_next m_token m_place m_value m_fault m_many m_sees m_cold m_first m_told m_s m_w m_kept m_isKept m_undos m_undoMany m_foundMan m_foundHours m_foundIs m_foundMany m_row m_best) h) [(0, .ref (gB γ + 93)), (1, .int a1)] 0 [] _
  unfold f_X7_readsItem at hf
  refine E_iload_n 1 dX7_readsItem_0 (q := 1) rfl rfl rfl ?_
  refine E_bipush (x := 112) dX7_readsItem_1 (q := 3) rfl (by decide) ?_
  refine E_icmp_ne dX7_readsItem_3 (t := 59) (by decide) (q := 6) rfl (fun c1 => ?_) (fun c1 => ?_)
  · have hf := if_f c1 hf
    refine E_iload_n 1 dX7_readsItem_59 (q := 60) rfl rfl rfl ?_
    refine E_bipush (x := 109) dX7_readsItem_60 (q := 62) rfl (by decide) ?_
    refine E_icmp_ne dX7_readsItem_62 (t := 99) (by decide) (q := 65) rfl (fun c15 => ?_) (fun c15 => ?_)
    · have hf := if_f c15 hf
      refine E_iload_n 1 dX7_readsItem_99 (q := 100) rfl rfl rfl ?_
      refine E_bipush (x := 111) dX7_readsItem_100 (q := 102) rfl (by decide) ?_
      refine E_icmp_ne dX7_readsItem_102 (t := 132) (by decide) (q := 105) rfl (fun c24 => ?_) (fun c24 => ?_)
      · have hf := if_f c24 hf
        refine E_aload_n 0 dX7_readsItem_132 (q := 133) rfl rfl rfl ?_
        have hF32 : Has n 93 (mdB γ 93 m_thrown m_trace m_text m_typed m_next m_token m_place m_value m_fault m_many m_sees m_cold m_first m_told m_s m_w m_kept m_isKept m_undos m_undoMany m_foundMan m_foundHours m_foundIs m_foundMany m_row m_best) (put 93 (mdB γ 93 m_thrown m_trace m_text m_typed m_next m_token m_place m_value m_fault m_many m_sees m_cold m_first m_told m_s m_w m_kept m_isKept m_undos m_undoMany m_foundMan m_foundHours m_foundIs m_foundMany m_row m_best) h) := (has_put hn_m)
        refine E_get 9 dX7_readsItem_133 (q := 136) rfl ckX7 (Nat.le_of_ble_eq_true rfl) fl_X7_13 (hF32.at 0 rfl) (hF32.lt 0 (Nat.le_of_ble_eq_true rfl)) rfl ?_
        refine E_bipush (x := 7) dX7_readsItem_136 (q := 138) rfl (by decide) ?_
        refine E_aload_n 0 dX7_readsItem_138 (q := 139) rfl rfl rfl ?_
        refine E_iconst (x := 1) dX7_readsItem_139 (q := 140) rfl (by decide) ?_
        refine E_bipush (x := 9) dX7_readsItem_140 (q := 142) rfl (by decide) ?_
        obtain ⟨z33, hxz33, hf⟩ := bnd hf
        refine E_cV (as := [.int 1, .int 9]) (k := 93) (rest := [.int 7, .ref (gB γ + (93 + 2))]) (u' := (0, 0)) (st' := [.int z33.1, .int 7, .ref (gB γ + (93 + 2))]) dX7_readsItem_142 (q := 145) rfl lkm_X7_number lkv_X7_100 (Nat.le_of_ble_eq_true rfl) ckX7 (hF32.at 0 rfl) (hF32.lt 0 (Nat.le_of_ble_eq_true rfl)) ⟨Nat.le_refl _, Nat.le_refl _⟩ (Nat.le_of_ble_eq_true rfl) rfl rfl (m_X7_number (N := N)  hF32 hxz33) rfl rfl rfl ?_
        refine Ev.heap (put_put (k := 93) (cs := (mdB γ 93 m_thrown m_trace m_text m_typed m_next m_token m_place m_value m_fault m_many m_sees m_cold m_first m_told m_s m_w m_kept m_isKept m_undos m_undoMany m_foundMan m_foundHours m_foundIs m_foundMany m_row m_best)) (cs' := (mdB γ 93 m_thrown m_trace m_text m_typed z33.2.1 z33.2.2.1 z33.2.2.2.1 z33.2.2.2.2.1 z33.2.2.2.2.2 m_many m_sees m_cold m_first m_told m_s m_w m_kept m_isKept m_undos m_undoMany m_foundMan m_foundHours m_foundIs m_foundMany m_row m_best)) (show (16 : Nat) = 16 from rfl)) ?_
        have hF35 : Has n 93 (mdB γ 93 m_thrown m_trace m_text m_typed z33.2.1 z33.2.2.1 z33.2.2.2.1 z33.2.2.2.2.1 z33.2.2.2.2.2 m_many m_sees m_cold m_first m_told m_s m_w m_kept m_isKept m_undos m_undoMany m_foundMan m_foundHours m_foundIs m_foundMany m_row m_best) (put 93 (mdB γ 93 m_thrown m_trace m_text m_typed z33.2.1 z33.2.2.1 z33.2.2.2.1 z33.2.2.2.2.1 z33.2.2.2.2.2 m_many m_sees m_cold m_first m_told m_s m_w m_kept m_isKept m_undos m_undoMany m_foundMan m_foundHours m_foundIs m_foundMany m_row m_best) h) := (has_put hn_m)
        refine E_iast dX7_readsItem_145 (q := 146) rfl (hF35.at 2 rfl) (hF35.lt 2 (Nat.le_of_ble_eq_true rfl)) (by decide +kernel) (up_put (i := 2) (cs' := (mdB γ 93 m_thrown m_trace m_text m_typed z33.2.1 z33.2.2.1 z33.2.2.2.1 z33.2.2.2.2.1 z33.2.2.2.2.2 (upd m_many (ci 7) z33.1) m_sees m_cold m_first m_told m_s m_w m_kept m_isKept m_undos m_undoMany m_foundMan m_foundHours m_foundIs m_foundMany m_row m_best)) (Nat.le_of_ble_eq_true rfl) rfl) ?_
        refine E_aload_n 0 dX7_readsItem_146 (q := 147) rfl rfl rfl ?_
        refine E_dup dX7_readsItem_147 (q := 148) rfl rfl ?_
        have hF37 : Has n 93 (mdB γ 93 m_thrown m_trace m_text m_typed z33.2.1 z33.2.2.1 z33.2.2.2.1 z33.2.2.2.2.1 z33.2.2.2.2.2 (upd m_many (ci 7) z33.1) m_sees m_cold m_first m_told m_s m_w m_kept m_isKept m_undos m_undoMany m_foundMan m_foundHours m_foundIs m_foundMany m_row m_best) (put 93 (mdB γ 93 m_thrown m_trace m_text m_typed z33.2.1 z33.2.2.1 z33.2.2.2.1 z33.2.2.2.2.1 z33.2.2.2.2.2 (upd m_many (ci 7) z33.1) m_sees m_cold m_first m_told m_s m_w m_kept m_isKept m_undos m_undoMany m_foundMan m_foundHours m_foundIs m_foundMany m_row m_best) h) := (has_put hn_m)
        refine E_get 13 dX7_readsItem_148 (q := 151) rfl ckX7 (Nat.le_of_ble_eq_true rfl) fl_X7_97 (hF37.at 0 rfl) (hF37.lt 0 (Nat.le_of_ble_eq_true rfl)) rfl ?_
        refine E_iconst (x := 2) dX7_readsItem_151 (q := 152) rfl (by decide) ?_
        refine E_ior dX7_readsItem_152 (q := 153) rfl ?_
        refine E_put 13 dX7_readsItem_153 (q := 156) rfl ckX7 (Nat.le_of_ble_eq_true rfl) fl_X7_97 rfl rfl rfl (hF37.at 0 rfl) (hF37.lt 0 (Nat.le_of_ble_eq_true rfl)) (Nat.le_of_ble_eq_true rfl) (up_put (i := 0) (cs' := (mdB γ 93 m_thrown m_trace m_text m_typed z33.2.1 z33.2.2.1 z33.2.2.2.1 z33.2.2.2.2.1 z33.2.2.2.2.2 (upd m_many (ci 7) z33.1) m_sees m_cold m_first (m_told ||| 2) m_s m_w m_kept m_isKept m_undos m_undoMany m_foundMan m_foundHours m_foundIs m_foundMany m_row m_best)) (Nat.le_of_ble_eq_true rfl) rfl) ?_
        obtain rfl := Option.some.inj hf
        exact E_vret dX7_readsItem_156 rfl ⟨rfl, rfl, rfl⟩
      · have hf := if_t c24 hf
        refine E_aload_n 0 dX7_readsItem_105 (q := 106) rfl rfl rfl ?_
        have hF25 : Has n 93 (mdB γ 93 m_thrown m_trace m_text m_typed m_next m_token m_place m_value m_fault m_many m_sees m_cold m_first m_told m_s m_w m_kept m_isKept m_undos m_undoMany m_foundMan m_foundHours m_foundIs m_foundMany m_row m_best) (put 93 (mdB γ 93 m_thrown m_trace m_text m_typed m_next m_token m_place m_value m_fault m_many m_sees m_cold m_first m_told m_s m_w m_kept m_isKept m_undos m_undoMany m_foundMan m_foundHours m_foundIs m_foundMany m_row m_best) h) := (has_put hn_m)
        refine E_get 9 dX7_readsItem_106 (q := 109) rfl ckX7 (Nat.le_of_ble_eq_true rfl) fl_X7_13 (hF25.at 0 rfl) (hF25.lt 0 (Nat.le_of_ble_eq_true rfl)) rfl ?_
        refine E_bipush (x := 6) dX7_readsItem_109 (q := 111) rfl (by decide) ?_
        refine E_aload_n 0 dX7_readsItem_111 (q := 112) rfl rfl rfl ?_
        refine E_iconst (x := 1) dX7_readsItem_112 (q := 113) rfl (by decide) ?_
        refine E_bipush (x := 9) dX7_readsItem_113 (q := 115) rfl (by decide) ?_
        obtain ⟨z26, hxz26, hf⟩ := bnd hf
        refine E_cV (as := [.int 1, .int 9]) (k := 93) (rest := [.int 6, .ref (gB γ + (93 + 2))]) (u' := (0, 0)) (st' := [.int z26.1, .int 6, .ref (gB γ + (93 + 2))]) dX7_readsItem_115 (q := 118) rfl lkm_X7_number lkv_X7_100 (Nat.le_of_ble_eq_true rfl) ckX7 (hF25.at 0 rfl) (hF25.lt 0 (Nat.le_of_ble_eq_true rfl)) ⟨Nat.le_refl _, Nat.le_refl _⟩ (Nat.le_of_ble_eq_true rfl) rfl rfl (m_X7_number (N := N)  hF25 hxz26) rfl rfl rfl ?_
        refine Ev.heap (put_put (k := 93) (cs := (mdB γ 93 m_thrown m_trace m_text m_typed m_next m_token m_place m_value m_fault m_many m_sees m_cold m_first m_told m_s m_w m_kept m_isKept m_undos m_undoMany m_foundMan m_foundHours m_foundIs m_foundMany m_row m_best)) (cs' := (mdB γ 93 m_thrown m_trace m_text m_typed z26.2.1 z26.2.2.1 z26.2.2.2.1 z26.2.2.2.2.1 z26.2.2.2.2.2 m_many m_sees m_cold m_first m_told m_s m_w m_kept m_isKept m_undos m_undoMany m_foundMan m_foundHours m_foundIs m_foundMany m_row m_best)) (show (16 : Nat) = 16 from rfl)) ?_
        have hF28 : Has n 93 (mdB γ 93 m_thrown m_trace m_text m_typed z26.2.1 z26.2.2.1 z26.2.2.2.1 z26.2.2.2.2.1 z26.2.2.2.2.2 m_many m_sees m_cold m_first m_told m_s m_w m_kept m_isKept m_undos m_undoMany m_foundMan m_foundHours m_foundIs m_foundMany m_row m_best) (put 93 (mdB γ 93 m_thrown m_trace m_text m_typed z26.2.1 z26.2.2.1 z26.2.2.2.1 z26.2.2.2.2.1 z26.2.2.2.2.2 m_many m_sees m_cold m_first m_told m_s m_w m_kept m_isKept m_undos m_undoMany m_foundMan m_foundHours m_foundIs m_foundMany m_row m_best) h) := (has_put hn_m)
        refine E_iast dX7_readsItem_118 (q := 119) rfl (hF28.at 2 rfl) (hF28.lt 2 (Nat.le_of_ble_eq_true rfl)) (by decide +kernel) (up_put (i := 2) (cs' := (mdB γ 93 m_thrown m_trace m_text m_typed z26.2.1 z26.2.2.1 z26.2.2.2.1 z26.2.2.2.2.1 z26.2.2.2.2.2 (upd m_many (ci 6) z26.1) m_sees m_cold m_first m_told m_s m_w m_kept m_isKept m_undos m_undoMany m_foundMan m_foundHours m_foundIs m_foundMany m_row m_best)) (Nat.le_of_ble_eq_true rfl) rfl) ?_
        refine E_aload_n 0 dX7_readsItem_119 (q := 120) rfl rfl rfl ?_
        refine E_dup dX7_readsItem_120 (q := 121) rfl rfl ?_
        have hF30 : Has n 93 (mdB γ 93 m_thrown m_trace m_text m_typed z26.2.1 z26.2.2.1 z26.2.2.2.1 z26.2.2.2.2.1 z26.2.2.2.2.2 (upd m_many (ci 6) z26.1) m_sees m_cold m_first m_told m_s m_w m_kept m_isKept m_undos m_undoMany m_foundMan m_foundHours m_foundIs m_foundMany m_row m_best) (put 93 (mdB γ 93 m_thrown m_trace m_text m_typed z26.2.1 z26.2.2.1 z26.2.2.2.1 z26.2.2.2.2.1 z26.2.2.2.2.2 (upd m_many (ci 6) z26.1) m_sees m_cold m_first m_told m_s m_w m_kept m_isKept m_undos m_undoMany m_foundMan m_foundHours m_foundIs m_foundMany m_row m_best) h) := (has_put hn_m)
        refine E_get 13 dX7_readsItem_121 (q := 124) rfl ckX7 (Nat.le_of_ble_eq_true rfl) fl_X7_97 (hF30.at 0 rfl) (hF30.lt 0 (Nat.le_of_ble_eq_true rfl)) rfl ?_
        refine E_iconst (x := 1) dX7_readsItem_124 (q := 125) rfl (by decide) ?_
        refine E_ior dX7_readsItem_125 (q := 126) rfl ?_
        refine E_put 13 dX7_readsItem_126 (q := 129) rfl ckX7 (Nat.le_of_ble_eq_true rfl) fl_X7_97 rfl rfl rfl (hF30.at 0 rfl) (hF30.lt 0 (Nat.le_of_ble_eq_true rfl)) (Nat.le_of_ble_eq_true rfl) (up_put (i := 0) (cs' := (mdB γ 93 m_thrown m_trace m_text m_typed z26.2.1 z26.2.2.1 z26.2.2.2.1 z26.2.2.2.2.1 z26.2.2.2.2.2 (upd m_many (ci 6) z26.1) m_sees m_cold m_first (m_told ||| 1) m_s m_w m_kept m_isKept m_undos m_undoMany m_foundMan m_foundHours m_foundIs m_foundMany m_row m_best)) (Nat.le_of_ble_eq_true rfl) rfl) ?_
        refine E_goto (q := 156) dX7_readsItem_129 (by decide) ?_
        obtain rfl := Option.some.inj hf
        exact E_vret dX7_readsItem_156 rfl ⟨rfl, rfl, rfl⟩
    · have hf := if_t c15 hf
      refine E_aload_n 0 dX7_readsItem_65 (q := 66) rfl rfl rfl ?_
      have hF16 : Has n 93 (mdB γ 93 m_thrown m_trace m_text m_typed m_next m_token m_place m_value m_fault m_many m_sees m_cold m_first m_told m_s m_w m_kept m_isKept m_undos m_undoMany m_foundMan m_foundHours m_foundIs m_foundMany m_row m_best) (put 93 (mdB γ 93 m_thrown m_trace m_text m_typed m_next m_token m_place m_value m_fault m_many m_sees m_cold m_first m_told m_s m_w m_kept m_isKept m_undos m_undoMany m_foundMan m_foundHours m_foundIs m_foundMany m_row m_best) h) := (has_put hn_m)
      refine E_get 12 dX7_readsItem_66 (q := 69) rfl ckX7 (Nat.le_of_ble_eq_true rfl) fl_X7_22 (hF16.at 0 rfl) (hF16.lt 0 (Nat.le_of_ble_eq_true rfl)) rfl ?_
      refine E_bipush (x := 6) dX7_readsItem_69 (q := 71) rfl (by decide) ?_
      refine E_aload_n 0 dX7_readsItem_71 (q := 72) rfl rfl rfl ?_
      refine E_get 9 dX7_readsItem_72 (q := 75) rfl ckX7 (Nat.le_of_ble_eq_true rfl) fl_X7_13 (hF16.at 0 rfl) (hF16.lt 0 (Nat.le_of_ble_eq_true rfl)) rfl ?_
      refine E_iconst (x := 5) dX7_readsItem_75 (q := 76) rfl (by decide) ?_
      refine E_iald dX7_readsItem_76 (q := 77) rfl (hF16.at 2 rfl) (hF16.lt 2 (Nat.le_of_ble_eq_true rfl)) (by decide +kernel) ?_
      refine E_iadd dX7_readsItem_77 (q := 78) rfl ?_
      refine E_aload_n 0 dX7_readsItem_78 (q := 79) rfl rfl rfl ?_
      refine E_iconst (x := 0) dX7_readsItem_79 (q := 80) rfl (by decide) ?_
      refine E_bipush (x := 60) dX7_readsItem_80 (q := 82) rfl (by decide) ?_
      obtain ⟨z17, hxz17, hf⟩ := bnd hf
      refine E_cV (as := [.int 0, .int 60]) (k := 93) (rest := [.int (6 + (m_many (ci 5))), .ref (gB γ + (93 + 5))]) (u' := (0, 0)) (st' := [.int z17.1, .int (6 + (m_many (ci 5))), .ref (gB γ + (93 + 5))]) dX7_readsItem_82 (q := 85) rfl lkm_X7_number lkv_X7_100 (Nat.le_of_ble_eq_true rfl) ckX7 (hF16.at 0 rfl) (hF16.lt 0 (Nat.le_of_ble_eq_true rfl)) ⟨Nat.le_refl _, Nat.le_refl _⟩ (Nat.le_of_ble_eq_true rfl) rfl rfl (m_X7_number (N := N)  hF16 hxz17) rfl rfl rfl ?_
      refine Ev.heap (put_put (k := 93) (cs := (mdB γ 93 m_thrown m_trace m_text m_typed m_next m_token m_place m_value m_fault m_many m_sees m_cold m_first m_told m_s m_w m_kept m_isKept m_undos m_undoMany m_foundMan m_foundHours m_foundIs m_foundMany m_row m_best)) (cs' := (mdB γ 93 m_thrown m_trace m_text m_typed z17.2.1 z17.2.2.1 z17.2.2.2.1 z17.2.2.2.2.1 z17.2.2.2.2.2 m_many m_sees m_cold m_first m_told m_s m_w m_kept m_isKept m_undos m_undoMany m_foundMan m_foundHours m_foundIs m_foundMany m_row m_best)) (show (16 : Nat) = 16 from rfl)) ?_
      obtain ⟨g19, hf⟩ := gd hf
      have hF20 : Has n 93 (mdB γ 93 m_thrown m_trace m_text m_typed z17.2.1 z17.2.2.1 z17.2.2.2.1 z17.2.2.2.2.1 z17.2.2.2.2.2 m_many m_sees m_cold m_first m_told m_s m_w m_kept m_isKept m_undos m_undoMany m_foundMan m_foundHours m_foundIs m_foundMany m_row m_best) (put 93 (mdB γ 93 m_thrown m_trace m_text m_typed z17.2.1 z17.2.2.1 z17.2.2.2.1 z17.2.2.2.2.1 z17.2.2.2.2.2 m_many m_sees m_cold m_first m_told m_s m_w m_kept m_isKept m_undos m_undoMany m_foundMan m_foundHours m_foundIs m_foundMany m_row m_best) h) := (has_put hn_m)
      refine E_iast dX7_readsItem_85 (q := 86) rfl (hF20.at 5 rfl) (hF20.lt 5 (Nat.le_of_ble_eq_true rfl)) g19 (up_put (i := 5) (cs' := (mdB γ 93 m_thrown m_trace m_text m_typed z17.2.1 z17.2.2.1 z17.2.2.2.1 z17.2.2.2.2.1 z17.2.2.2.2.2 m_many m_sees m_cold (upd m_first (ci (6 + (m_many (ci 5)))) z17.1) m_told m_s m_w m_kept m_isKept m_undos m_undoMany m_foundMan m_foundHours m_foundIs m_foundMany m_row m_best)) (Nat.le_of_ble_eq_true rfl) rfl) ?_
      refine E_aload_n 0 dX7_readsItem_86 (q := 87) rfl rfl rfl ?_
      have hF22 : Has n 93 (mdB γ 93 m_thrown m_trace m_text m_typed z17.2.1 z17.2.2.1 z17.2.2.2.1 z17.2.2.2.2.1 z17.2.2.2.2.2 m_many m_sees m_cold (upd m_first (ci (6 + (m_many (ci 5)))) z17.1) m_told m_s m_w m_kept m_isKept m_undos m_undoMany m_foundMan m_foundHours m_foundIs m_foundMany m_row m_best) (put 93 (mdB γ 93 m_thrown m_trace m_text m_typed z17.2.1 z17.2.2.1 z17.2.2.2.1 z17.2.2.2.2.1 z17.2.2.2.2.2 m_many m_sees m_cold (upd m_first (ci (6 + (m_many (ci 5)))) z17.1) m_told m_s m_w m_kept m_isKept m_undos m_undoMany m_foundMan m_foundHours m_foundIs m_foundMany m_row m_best) h) := (has_put hn_m)
      refine E_get 9 dX7_readsItem_87 (q := 90) rfl ckX7 (Nat.le_of_ble_eq_true rfl) fl_X7_13 (hF22.at 0 rfl) (hF22.lt 0 (Nat.le_of_ble_eq_true rfl)) rfl ?_
      refine E_iconst (x := 5) dX7_readsItem_90 (q := 91) rfl (by decide) ?_
      refine E_dup2 dX7_readsItem_91 (q := 92) rfl rfl rfl ?_
      refine E_iald dX7_readsItem_92 (q := 93) rfl (hF22.at 2 rfl) (hF22.lt 2 (Nat.le_of_ble_eq_true rfl)) (by decide +kernel) ?_
      refine E_iconst (x := 1) dX7_readsItem_93 (q := 94) rfl (by decide) ?_
      refine E_iadd dX7_readsItem_94 (q := 95) rfl ?_
      refine E_iast dX7_readsItem_95 (q := 96) rfl (hF22.at 2 rfl) (hF22.lt 2 (Nat.le_of_ble_eq_true rfl)) (by decide +kernel) (up_put (i := 2) (cs' := (mdB γ 93 m_thrown m_trace m_text m_typed z17.2.1 z17.2.2.1 z17.2.2.2.1 z17.2.2.2.2.1 z17.2.2.2.2.2 (upd m_many (ci 5) ((m_many (ci 5)) + 1)) m_sees m_cold (upd m_first (ci (6 + (m_many (ci 5)))) z17.1) m_told m_s m_w m_kept m_isKept m_undos m_undoMany m_foundMan m_foundHours m_foundIs m_foundMany m_row m_best)) (Nat.le_of_ble_eq_true rfl) rfl) ?_
      refine E_goto (q := 156) dX7_readsItem_96 (by decide) ?_
      obtain rfl := Option.some.inj hf
      exact E_vret dX7_readsItem_156 rfl ⟨rfl, rfl, rfl⟩
  · have hf := if_t c1 hf
    refine E_aload_n 0 dX7_readsItem_6 (q := 7) rfl rfl rfl ?_
    have hF2 : Has n 93 (mdB γ 93 m_thrown m_trace m_text m_typed m_next m_token m_place m_value m_fault m_many m_sees m_cold m_first m_told m_s m_w m_kept m_isKept m_undos m_undoMany m_foundMan m_foundHours m_foundIs m_foundMany m_row m_best) (put 93 (mdB γ 93 m_thrown m_trace m_text m_typed m_next m_token m_place m_value m_fault m_many m_sees m_cold m_first m_told m_s m_w m_kept m_isKept m_undos m_undoMany m_foundMan m_foundHours m_foundIs m_foundMany m_row m_best) h) := (has_put hn_m)
    refine E_get 10 dX7_readsItem_7 (q := 10) rfl ckX7 (Nat.le_of_ble_eq_true rfl) fl_X7_16 (hF2.at 0 rfl) (hF2.lt 0 (Nat.le_of_ble_eq_true rfl)) rfl ?_
    refine E_iconst (x := 5) dX7_readsItem_10 (q := 11) rfl (by decide) ?_
    refine E_aload_n 0 dX7_readsItem_11 (q := 12) rfl rfl rfl ?_
    refine E_get 9 dX7_readsItem_12 (q := 15) rfl ckX7 (Nat.le_of_ble_eq_true rfl) fl_X7_13 (hF2.at 0 rfl) (hF2.lt 0 (Nat.le_of_ble_eq_true rfl)) rfl ?_
    refine E_iconst (x := 4) dX7_readsItem_15 (q := 16) rfl (by decide) ?_
    refine E_iald dX7_readsItem_16 (q := 17) rfl (hF2.at 2 rfl) (hF2.lt 2 (Nat.le_of_ble_eq_true rfl)) (by decide +kernel) ?_
    refine E_iadd dX7_readsItem_17 (q := 18) rfl ?_
    refine E_aload_n 0 dX7_readsItem_18 (q := 19) rfl rfl rfl ?_
    refine E_iconst (x := 0) dX7_readsItem_19 (q := 20) rfl (by decide) ?_
    refine E_bipush (x := 31) dX7_readsItem_20 (q := 22) rfl (by decide) ?_
    obtain ⟨z3, hxz3, hf⟩ := bnd hf
    refine E_cV (as := [.int 0, .int 31]) (k := 93) (rest := [.int (5 + (m_many (ci 4))), .ref (gB γ + (93 + 3))]) (u' := (0, 0)) (st' := [.int z3.1, .int (5 + (m_many (ci 4))), .ref (gB γ + (93 + 3))]) dX7_readsItem_22 (q := 25) rfl lkm_X7_number lkv_X7_100 (Nat.le_of_ble_eq_true rfl) ckX7 (hF2.at 0 rfl) (hF2.lt 0 (Nat.le_of_ble_eq_true rfl)) ⟨Nat.le_refl _, Nat.le_refl _⟩ (Nat.le_of_ble_eq_true rfl) rfl rfl (m_X7_number (N := N)  hF2 hxz3) rfl rfl rfl ?_
    refine Ev.heap (put_put (k := 93) (cs := (mdB γ 93 m_thrown m_trace m_text m_typed m_next m_token m_place m_value m_fault m_many m_sees m_cold m_first m_told m_s m_w m_kept m_isKept m_undos m_undoMany m_foundMan m_foundHours m_foundIs m_foundMany m_row m_best)) (cs' := (mdB γ 93 m_thrown m_trace m_text m_typed z3.2.1 z3.2.2.1 z3.2.2.2.1 z3.2.2.2.2.1 z3.2.2.2.2.2 m_many m_sees m_cold m_first m_told m_s m_w m_kept m_isKept m_undos m_undoMany m_foundMan m_foundHours m_foundIs m_foundMany m_row m_best)) (show (16 : Nat) = 16 from rfl)) ?_
    obtain ⟨g5, hf⟩ := gd hf
    have hF6 : Has n 93 (mdB γ 93 m_thrown m_trace m_text m_typed z3.2.1 z3.2.2.1 z3.2.2.2.1 z3.2.2.2.2.1 z3.2.2.2.2.2 m_many m_sees m_cold m_first m_told m_s m_w m_kept m_isKept m_undos m_undoMany m_foundMan m_foundHours m_foundIs m_foundMany m_row m_best) (put 93 (mdB γ 93 m_thrown m_trace m_text m_typed z3.2.1 z3.2.2.1 z3.2.2.2.1 z3.2.2.2.2.1 z3.2.2.2.2.2 m_many m_sees m_cold m_first m_told m_s m_w m_kept m_isKept m_undos m_undoMany m_foundMan m_foundHours m_foundIs m_foundMany m_row m_best) h) := (has_put hn_m)
    refine E_iast dX7_readsItem_25 (q := 26) rfl (hF6.at 3 rfl) (hF6.lt 3 (Nat.le_of_ble_eq_true rfl)) g5 (up_put (i := 3) (cs' := (mdB γ 93 m_thrown m_trace m_text m_typed z3.2.1 z3.2.2.1 z3.2.2.2.1 z3.2.2.2.2.1 z3.2.2.2.2.2 m_many (upd m_sees (ci (5 + (m_many (ci 4)))) z3.1) m_cold m_first m_told m_s m_w m_kept m_isKept m_undos m_undoMany m_foundMan m_foundHours m_foundIs m_foundMany m_row m_best)) (Nat.le_of_ble_eq_true rfl) rfl) ?_
    refine E_aload_n 0 dX7_readsItem_26 (q := 27) rfl rfl rfl ?_
    have hF8 : Has n 93 (mdB γ 93 m_thrown m_trace m_text m_typed z3.2.1 z3.2.2.1 z3.2.2.2.1 z3.2.2.2.2.1 z3.2.2.2.2.2 m_many (upd m_sees (ci (5 + (m_many (ci 4)))) z3.1) m_cold m_first m_told m_s m_w m_kept m_isKept m_undos m_undoMany m_foundMan m_foundHours m_foundIs m_foundMany m_row m_best) (put 93 (mdB γ 93 m_thrown m_trace m_text m_typed z3.2.1 z3.2.2.1 z3.2.2.2.1 z3.2.2.2.2.1 z3.2.2.2.2.2 m_many (upd m_sees (ci (5 + (m_many (ci 4)))) z3.1) m_cold m_first m_told m_s m_w m_kept m_isKept m_undos m_undoMany m_foundMan m_foundHours m_foundIs m_foundMany m_row m_best) h) := (has_put hn_m)
    refine E_get 11 dX7_readsItem_27 (q := 30) rfl ckX7 (Nat.le_of_ble_eq_true rfl) fl_X7_19 (hF8.at 0 rfl) (hF8.lt 0 (Nat.le_of_ble_eq_true rfl)) rfl ?_
    refine E_iconst (x := 5) dX7_readsItem_30 (q := 31) rfl (by decide) ?_
    refine E_aload_n 0 dX7_readsItem_31 (q := 32) rfl rfl rfl ?_
    refine E_get 9 dX7_readsItem_32 (q := 35) rfl ckX7 (Nat.le_of_ble_eq_true rfl) fl_X7_13 (hF8.at 0 rfl) (hF8.lt 0 (Nat.le_of_ble_eq_true rfl)) rfl ?_
    refine E_iconst (x := 4) dX7_readsItem_35 (q := 36) rfl (by decide) ?_
    refine E_iald dX7_readsItem_36 (q := 37) rfl (hF8.at 2 rfl) (hF8.lt 2 (Nat.le_of_ble_eq_true rfl)) (by decide +kernel) ?_
    refine E_iadd dX7_readsItem_37 (q := 38) rfl ?_
    refine E_aload_n 0 dX7_readsItem_38 (q := 39) rfl rfl rfl ?_
    refine E_iconst (x := 0) dX7_readsItem_39 (q := 40) rfl (by decide) ?_
    refine E_bipush (x := 9) dX7_readsItem_40 (q := 42) rfl (by decide) ?_
    obtain ⟨z9, hxz9, hf⟩ := bnd hf
    refine E_cV (as := [.int 0, .int 9]) (k := 93) (rest := [.int (5 + (m_many (ci 4))), .ref (gB γ + (93 + 4))]) (u' := (0, 0)) (st' := [.int z9.1, .int (5 + (m_many (ci 4))), .ref (gB γ + (93 + 4))]) dX7_readsItem_42 (q := 45) rfl lkm_X7_number lkv_X7_100 (Nat.le_of_ble_eq_true rfl) ckX7 (hF8.at 0 rfl) (hF8.lt 0 (Nat.le_of_ble_eq_true rfl)) ⟨Nat.le_refl _, Nat.le_refl _⟩ (Nat.le_of_ble_eq_true rfl) rfl rfl (m_X7_number (N := N)  hF8 hxz9) rfl rfl rfl ?_
    refine Ev.heap (put_put (k := 93) (cs := (mdB γ 93 m_thrown m_trace m_text m_typed z3.2.1 z3.2.2.1 z3.2.2.2.1 z3.2.2.2.2.1 z3.2.2.2.2.2 m_many (upd m_sees (ci (5 + (m_many (ci 4)))) z3.1) m_cold m_first m_told m_s m_w m_kept m_isKept m_undos m_undoMany m_foundMan m_foundHours m_foundIs m_foundMany m_row m_best)) (cs' := (mdB γ 93 m_thrown m_trace m_text m_typed z9.2.1 z9.2.2.1 z9.2.2.2.1 z9.2.2.2.2.1 z9.2.2.2.2.2 m_many (upd m_sees (ci (5 + (m_many (ci 4)))) z3.1) m_cold m_first m_told m_s m_w m_kept m_isKept m_undos m_undoMany m_foundMan m_foundHours m_foundIs m_foundMany m_row m_best)) (show (16 : Nat) = 16 from rfl)) ?_
    have hF11 : Has n 93 (mdB γ 93 m_thrown m_trace m_text m_typed z9.2.1 z9.2.2.1 z9.2.2.2.1 z9.2.2.2.2.1 z9.2.2.2.2.2 m_many (upd m_sees (ci (5 + (m_many (ci 4)))) z3.1) m_cold m_first m_told m_s m_w m_kept m_isKept m_undos m_undoMany m_foundMan m_foundHours m_foundIs m_foundMany m_row m_best) (put 93 (mdB γ 93 m_thrown m_trace m_text m_typed z9.2.1 z9.2.2.1 z9.2.2.2.1 z9.2.2.2.2.1 z9.2.2.2.2.2 m_many (upd m_sees (ci (5 + (m_many (ci 4)))) z3.1) m_cold m_first m_told m_s m_w m_kept m_isKept m_undos m_undoMany m_foundMan m_foundHours m_foundIs m_foundMany m_row m_best) h) := (has_put hn_m)
    refine E_iast dX7_readsItem_45 (q := 46) rfl (hF11.at 4 rfl) (hF11.lt 4 (Nat.le_of_ble_eq_true rfl)) g5 (up_put (i := 4) (cs' := (mdB γ 93 m_thrown m_trace m_text m_typed z9.2.1 z9.2.2.1 z9.2.2.2.1 z9.2.2.2.2.1 z9.2.2.2.2.2 m_many (upd m_sees (ci (5 + (m_many (ci 4)))) z3.1) (upd m_cold (ci (5 + (m_many (ci 4)))) z9.1) m_first m_told m_s m_w m_kept m_isKept m_undos m_undoMany m_foundMan m_foundHours m_foundIs m_foundMany m_row m_best)) (Nat.le_of_ble_eq_true rfl) rfl) ?_
    refine E_aload_n 0 dX7_readsItem_46 (q := 47) rfl rfl rfl ?_
    have hF13 : Has n 93 (mdB γ 93 m_thrown m_trace m_text m_typed z9.2.1 z9.2.2.1 z9.2.2.2.1 z9.2.2.2.2.1 z9.2.2.2.2.2 m_many (upd m_sees (ci (5 + (m_many (ci 4)))) z3.1) (upd m_cold (ci (5 + (m_many (ci 4)))) z9.1) m_first m_told m_s m_w m_kept m_isKept m_undos m_undoMany m_foundMan m_foundHours m_foundIs m_foundMany m_row m_best) (put 93 (mdB γ 93 m_thrown m_trace m_text m_typed z9.2.1 z9.2.2.1 z9.2.2.2.1 z9.2.2.2.2.1 z9.2.2.2.2.2 m_many (upd m_sees (ci (5 + (m_many (ci 4)))) z3.1) (upd m_cold (ci (5 + (m_many (ci 4)))) z9.1) m_first m_told m_s m_w m_kept m_isKept m_undos m_undoMany m_foundMan m_foundHours m_foundIs m_foundMany m_row m_best) h) := (has_put hn_m)
    refine E_get 9 dX7_readsItem_47 (q := 50) rfl ckX7 (Nat.le_of_ble_eq_true rfl) fl_X7_13 (hF13.at 0 rfl) (hF13.lt 0 (Nat.le_of_ble_eq_true rfl)) rfl ?_
    refine E_iconst (x := 4) dX7_readsItem_50 (q := 51) rfl (by decide) ?_
    refine E_dup2 dX7_readsItem_51 (q := 52) rfl rfl rfl ?_
    refine E_iald dX7_readsItem_52 (q := 53) rfl (hF13.at 2 rfl) (hF13.lt 2 (Nat.le_of_ble_eq_true rfl)) (by decide +kernel) ?_
    refine E_iconst (x := 1) dX7_readsItem_53 (q := 54) rfl (by decide) ?_
    refine E_iadd dX7_readsItem_54 (q := 55) rfl ?_
    refine E_iast dX7_readsItem_55 (q := 56) rfl (hF13.at 2 rfl) (hF13.lt 2 (Nat.le_of_ble_eq_true rfl)) (by decide +kernel) (up_put (i := 2) (cs' := (mdB γ 93 m_thrown m_trace m_text m_typed z9.2.1 z9.2.2.1 z9.2.2.2.1 z9.2.2.2.2.1 z9.2.2.2.2.2 (upd m_many (ci 4) ((m_many (ci 4)) + 1)) (upd m_sees (ci (5 + (m_many (ci 4)))) z3.1) (upd m_cold (ci (5 + (m_many (ci 4)))) z9.1) m_first m_told m_s m_w m_kept m_isKept m_undos m_undoMany m_foundMan m_foundHours m_foundIs m_foundMany m_row m_best)) (Nat.le_of_ble_eq_true rfl) rfl) ?_
    refine E_goto (q := 156) dX7_readsItem_56 (by decide) ?_
    obtain rfl := Option.some.inj hf
    exact E_vret dX7_readsItem_156 rfl ⟨rfl, rfl, rfl⟩

-- PostReliefModel.settles()V
def b_X7_settles_1 (N : Nat) (v1 : Int32) (m_many : FN) : Option ((Int32 × FN) ⊕ (FN)) :=
  (if 4 ≤ v1 then some (.inr m_many) else (if ix (4 + v1) 8 = true then (if ix v1 8 = true then some (.inl ((v1 + 1), (upd m_many (ci v1) (m_many (ci (4 + v1)))))) else none) else none))
def b_X7_settles_2 (N : Nat) (m_many : FN) (v1 : Int32) (m_sees : FN) (m_cold : FN) : Option ((Int32 × FN × FN) ⊕ (FN × FN)) :=
  (if (m_many (ci 0)) ≤ v1 then some (.inr (m_sees, m_cold)) else (if ix (5 + v1) 10 = true then (if ix v1 10 = true then some (.inl ((v1 + 1), (upd m_sees (ci v1) (((m_sees (ci (5 + v1))) &&& (((1 : Int32) <<< ((m_many (ci 0)) &&& 31)) - 1)) &&& (((1 : Int32) <<< (v1 &&& 31)) ^^^ (-1)))), (upd m_cold (ci v1) (m_cold (ci (5 + v1)))))) else none) else none))
def b_X7_settles_3 (N : Nat) (v1 : Int32) (m_s : FN) : Option ((Int32 × FN) ⊕ (FN)) :=
  (if 48 ≤ v1 then some (.inr m_s) else (if ix v1 48 = true then some (.inl ((v1 + 1), (upd m_s (ci v1) 0))) else none))
def b_X7_settles_4 (N : Nat) (m_many : FN) (m_first : FN) (v1 : Int32) (m_s : FN) : Option ((Int32 × FN) ⊕ (FN)) :=
  (if (m_many (ci 1)) ≤ v1 then some (.inr m_s) else (if ix (6 + v1) 12 = true then (if ix (1 + v1) 48 = true then some (.inl ((v1 + 1), (upd m_s (ci (1 + v1)) (m_first (ci (6 + v1)))))) else none) else none))
def f_X7_settles (N : Nat) (m_typed : Int32) (m_many : FN) (m_sees : FN) (m_cold : FN) (m_first : FN) (m_s : FN) (m_isKept : FN) (m_undoMany : Int32) (m_foundMany : Int32) : Option (Int32 × FN × FN × FN × FN × FN × Int32 × Int32) :=
  ((lp (fun s => b_X7_settles_1 N s.1 s.2) N (0, m_many)).bind fun t7 => ((lp (fun s => b_X7_settles_2 N t7 s.1 s.2.1 s.2.2) N (0, m_sees, m_cold)).bind fun t17 => ((lp (fun s => b_X7_settles_3 N s.1 s.2) N (0, m_s)).bind fun t24 => ((lp (fun s => b_X7_settles_4 N t7 m_first s.1 s.2) N (0, t24)).bind fun t32 => some (0, t7, t17.1, t17.2, t32, (upd (upd m_isKept (ci 0) 0) (ci 1) 0), 0, 0)))))
set_option maxHeartbeats 4000000 in
set_option maxRecDepth 100000 in
theorem L_X7_settles_1 {γ : GX} {n : Nat} {h : HP} {Ψ : PS} {N : Nat} {m_thrown : Int32} {m_trace : Int64} {m_text : FN} {m_typed : Int32} {m_next : Int32} {m_token : Int32} {m_place : Int32} {m_value : Int32} {m_fault : Int32} {m_sees : FN} {m_cold : FN} {m_first : FN} {m_told : Int32} {m_s : FN} {m_w : FN} {m_kept : FN} {m_isKept : FN} {m_undos : FN} {m_undoMany : Int32} {m_foundMan : FN} {m_foundHours : FN} {m_foundIs : FN} {m_foundMany : Int32} {m_row : FN} {m_best : FN} (hn_m : 93 + 16 ≤ n) {s0 : Int32 × FN} {t : FN} (hf : lp (fun s => b_X7_settles_1 N s.1 s.2) N s0 = some t) (K : Ev γ M_X7_settles (0, 0) n (put 93 (mdB γ 93 m_thrown m_trace m_text m_typed m_next m_token m_place m_value m_fault t m_sees m_cold m_first m_told m_s m_w m_kept m_isKept m_undos m_undoMany m_foundMan m_foundHours m_foundIs m_foundMany m_row m_best) h) [(0, .ref (gB γ + 93))] 27 [] Ψ) : Ev γ M_X7_settles (0, 0) n (put 93 (mdB γ 93 m_thrown m_trace m_text m_typed m_next m_token m_place m_value m_fault s0.2 m_sees m_cold m_first m_told m_s m_w m_kept m_isKept m_undos m_undoMany m_foundMan m_foundHours m_foundIs m_foundMany m_row m_best) h) [(0, .ref (gB γ + 93)), (1, .int s0.1)] 2 [] Ψ := by
  refine E_lp (P := fun s => Ev γ M_X7_settles (0, 0) n (put 93 (mdB γ 93 m_thrown m_trace m_text m_typed m_next m_token m_place m_value m_fault s.2 m_sees m_cold m_first m_told m_s m_w m_kept m_isKept m_undos m_undoMany m_foundMan m_foundHours m_foundIs m_foundMany m_row m_best) h) [(0, .ref (gB γ + 93)), (1, .int s.1)] 2 [] Ψ) (K := fun t => Ev γ M_X7_settles (0, 0) n (put 93 (mdB γ 93 m_thrown m_trace m_text m_typed m_next m_token m_place m_value m_fault t m_sees m_cold m_first m_told m_s m_w m_kept m_isKept m_undos m_undoMany m_foundMan m_foundHours m_foundIs m_foundMany m_row m_best) h) [(0, .ref (gB γ + 93))] 27 [] Ψ) ?_ N s0 t hf K
  intro s r hf hP hK
  obtain ⟨v1, m_many⟩ := s
  change b_X7_settles_1 N v1 m_many = some r at hf
  unfold b_X7_settles_1 at hf
  show Ev γ M_X7_settles (0, 0) n (put 93 (mdB γ 93 m_thrown m_trace m_text m_typed m_next m_token m_place m_value m_fault m_many m_sees m_cold m_first m_told m_s m_w m_kept m_isKept m_undos m_undoMany m_foundMan m_foundHours m_foundIs m_foundMany m_row m_best) h) [(0, .ref (gB γ + 93)), (1, .int v1)] 2 [] Ψ
  refine E_iload_n 1 dX7_settles_2 (q := 3) rfl rfl rfl ?_
  refine E_iconst (x := 4) dX7_settles_3 (q := 4) rfl (by decide) ?_
  refine E_icmp_ge dX7_settles_4 (t := 27) (by decide) (q := 7) rfl (fun c2 => ?_) (fun c2 => ?_)
  · have hf := if_t c2 hf
    exact E_sub [0] rfl (hK _ (Option.some.inj hf).symm)
  · have hf := if_f c2 hf
    refine E_aload_n 0 dX7_settles_7 (q := 8) rfl rfl rfl ?_
    have hF3 : Has n 93 (mdB γ 93 m_thrown m_trace m_text m_typed m_next m_token m_place m_value m_fault m_many m_sees m_cold m_first m_told m_s m_w m_kept m_isKept m_undos m_undoMany m_foundMan m_foundHours m_foundIs m_foundMany m_row m_best) (put 93 (mdB γ 93 m_thrown m_trace m_text m_typed m_next m_token m_place m_value m_fault m_many m_sees m_cold m_first m_told m_s m_w m_kept m_isKept m_undos m_undoMany m_foundMan m_foundHours m_foundIs m_foundMany m_row m_best) h) := (has_put hn_m)
    refine E_get 9 dX7_settles_8 (q := 11) rfl ckX7 (Nat.le_of_ble_eq_true rfl) fl_X7_13 (hF3.at 0 rfl) (hF3.lt 0 (Nat.le_of_ble_eq_true rfl)) rfl ?_
    refine E_iload_n 1 dX7_settles_11 (q := 12) rfl rfl rfl ?_
    refine E_aload_n 0 dX7_settles_12 (q := 13) rfl rfl rfl ?_
    refine E_get 9 dX7_settles_13 (q := 16) rfl ckX7 (Nat.le_of_ble_eq_true rfl) fl_X7_13 (hF3.at 0 rfl) (hF3.lt 0 (Nat.le_of_ble_eq_true rfl)) rfl ?_
    refine E_iconst (x := 4) dX7_settles_16 (q := 17) rfl (by decide) ?_
    refine E_iload_n 1 dX7_settles_17 (q := 18) rfl rfl rfl ?_
    refine E_iadd dX7_settles_18 (q := 19) rfl ?_
    obtain ⟨g4, hf⟩ := gd hf
    refine E_iald dX7_settles_19 (q := 20) rfl (hF3.at 2 rfl) (hF3.lt 2 (Nat.le_of_ble_eq_true rfl)) g4 ?_
    obtain ⟨g5, hf⟩ := gd hf
    refine E_iast dX7_settles_20 (q := 21) rfl (hF3.at 2 rfl) (hF3.lt 2 (Nat.le_of_ble_eq_true rfl)) g5 (up_put (i := 2) (cs' := (mdB γ 93 m_thrown m_trace m_text m_typed m_next m_token m_place m_value m_fault (upd m_many (ci v1) (m_many (ci (4 + v1)))) m_sees m_cold m_first m_told m_s m_w m_kept m_isKept m_undos m_undoMany m_foundMan m_foundHours m_foundIs m_foundMany m_row m_best)) (Nat.le_of_ble_eq_true rfl) rfl) ?_
    refine E_iinc 1 [(1, .int (v1 + 1)), (0, .ref (gB γ + 93))] dX7_settles_21 (q := 24) rfl rfl rfl (Nat.le_of_ble_eq_true rfl) rfl ?_
    refine E_goto (q := 2) dX7_settles_24 (by decide) ?_
    exact E_sub [1, 0] rfl (hP _ (Option.some.inj hf).symm)
set_option maxHeartbeats 4000000 in
set_option maxRecDepth 100000 in
theorem L_X7_settles_2 {γ : GX} {n : Nat} {h : HP} {Ψ : PS} {N : Nat} {m_thrown : Int32} {m_trace : Int64} {m_text : FN} {m_typed : Int32} {m_next : Int32} {m_token : Int32} {m_place : Int32} {m_value : Int32} {m_fault : Int32} {m_many : FN} {m_first : FN} {m_told : Int32} {m_s : FN} {m_w : FN} {m_kept : FN} {m_isKept : FN} {m_undos : FN} {m_undoMany : Int32} {m_foundMan : FN} {m_foundHours : FN} {m_foundIs : FN} {m_foundMany : Int32} {m_row : FN} {m_best : FN} (hn_m : 93 + 16 ≤ n) {s0 : Int32 × FN × FN} {t : FN × FN} (hf : lp (fun s => b_X7_settles_2 N m_many s.1 s.2.1 s.2.2) N s0 = some t) (K : Ev γ M_X7_settles (0, 0) n (put 93 (mdB γ 93 m_thrown m_trace m_text m_typed m_next m_token m_place m_value m_fault m_many t.1 t.2 m_first m_told m_s m_w m_kept m_isKept m_undos m_undoMany m_foundMan m_foundHours m_foundIs m_foundMany m_row m_best) h) [(0, .ref (gB γ + 93))] 90 [] Ψ) : Ev γ M_X7_settles (0, 0) n (put 93 (mdB γ 93 m_thrown m_trace m_text m_typed m_next m_token m_place m_value m_fault m_many s0.2.1 s0.2.2 m_first m_told m_s m_w m_kept m_isKept m_undos m_undoMany m_foundMan m_foundHours m_foundIs m_foundMany m_row m_best) h) [(0, .ref (gB γ + 93)), (1, .int s0.1)] 29 [] Ψ := by
  refine E_lp (P := fun s => Ev γ M_X7_settles (0, 0) n (put 93 (mdB γ 93 m_thrown m_trace m_text m_typed m_next m_token m_place m_value m_fault m_many s.2.1 s.2.2 m_first m_told m_s m_w m_kept m_isKept m_undos m_undoMany m_foundMan m_foundHours m_foundIs m_foundMany m_row m_best) h) [(0, .ref (gB γ + 93)), (1, .int s.1)] 29 [] Ψ) (K := fun t => Ev γ M_X7_settles (0, 0) n (put 93 (mdB γ 93 m_thrown m_trace m_text m_typed m_next m_token m_place m_value m_fault m_many t.1 t.2 m_first m_told m_s m_w m_kept m_isKept m_undos m_undoMany m_foundMan m_foundHours m_foundIs m_foundMany m_row m_best) h) [(0, .ref (gB γ + 93))] 90 [] Ψ) ?_ N s0 t hf K
  intro s r hf hP hK
  obtain ⟨v1, m_sees, m_cold⟩ := s
  change b_X7_settles_2 N m_many v1 m_sees m_cold = some r at hf
  unfold b_X7_settles_2 at hf
  show Ev γ M_X7_settles (0, 0) n (put 93 (mdB γ 93 m_thrown m_trace m_text m_typed m_next m_token m_place m_value m_fault m_many m_sees m_cold m_first m_told m_s m_w m_kept m_isKept m_undos m_undoMany m_foundMan m_foundHours m_foundIs m_foundMany m_row m_best) h) [(0, .ref (gB γ + 93)), (1, .int v1)] 29 [] Ψ
  refine E_iload_n 1 dX7_settles_29 (q := 30) rfl rfl rfl ?_
  refine E_aload_n 0 dX7_settles_30 (q := 31) rfl rfl rfl ?_
  have hF10 : Has n 93 (mdB γ 93 m_thrown m_trace m_text m_typed m_next m_token m_place m_value m_fault m_many m_sees m_cold m_first m_told m_s m_w m_kept m_isKept m_undos m_undoMany m_foundMan m_foundHours m_foundIs m_foundMany m_row m_best) (put 93 (mdB γ 93 m_thrown m_trace m_text m_typed m_next m_token m_place m_value m_fault m_many m_sees m_cold m_first m_told m_s m_w m_kept m_isKept m_undos m_undoMany m_foundMan m_foundHours m_foundIs m_foundMany m_row m_best) h) := (has_put hn_m)
  refine E_get 9 dX7_settles_31 (q := 34) rfl ckX7 (Nat.le_of_ble_eq_true rfl) fl_X7_13 (hF10.at 0 rfl) (hF10.lt 0 (Nat.le_of_ble_eq_true rfl)) rfl ?_
  refine E_iconst (x := 0) dX7_settles_34 (q := 35) rfl (by decide) ?_
  refine E_iald dX7_settles_35 (q := 36) rfl (hF10.at 2 rfl) (hF10.lt 2 (Nat.le_of_ble_eq_true rfl)) (by decide +kernel) ?_
  refine E_icmp_ge dX7_settles_36 (t := 90) (by decide) (q := 39) rfl (fun c11 => ?_) (fun c11 => ?_)
  · have hf := if_t c11 hf
    exact E_sub [0] rfl (hK _ (Option.some.inj hf).symm)
  · have hf := if_f c11 hf
    refine E_aload_n 0 dX7_settles_39 (q := 40) rfl rfl rfl ?_
    refine E_get 10 dX7_settles_40 (q := 43) rfl ckX7 (Nat.le_of_ble_eq_true rfl) fl_X7_16 (hF10.at 0 rfl) (hF10.lt 0 (Nat.le_of_ble_eq_true rfl)) rfl ?_
    refine E_iload_n 1 dX7_settles_43 (q := 44) rfl rfl rfl ?_
    refine E_aload_n 0 dX7_settles_44 (q := 45) rfl rfl rfl ?_
    refine E_get 10 dX7_settles_45 (q := 48) rfl ckX7 (Nat.le_of_ble_eq_true rfl) fl_X7_16 (hF10.at 0 rfl) (hF10.lt 0 (Nat.le_of_ble_eq_true rfl)) rfl ?_
    refine E_iconst (x := 5) dX7_settles_48 (q := 49) rfl (by decide) ?_
    refine E_iload_n 1 dX7_settles_49 (q := 50) rfl rfl rfl ?_
    refine E_iadd dX7_settles_50 (q := 51) rfl ?_
    obtain ⟨g12, hf⟩ := gd hf
    refine E_iald dX7_settles_51 (q := 52) rfl (hF10.at 3 rfl) (hF10.lt 3 (Nat.le_of_ble_eq_true rfl)) g12 ?_
    refine E_iconst (x := 1) dX7_settles_52 (q := 53) rfl (by decide) ?_
    refine E_aload_n 0 dX7_settles_53 (q := 54) rfl rfl rfl ?_
    refine E_get 9 dX7_settles_54 (q := 57) rfl ckX7 (Nat.le_of_ble_eq_true rfl) fl_X7_13 (hF10.at 0 rfl) (hF10.lt 0 (Nat.le_of_ble_eq_true rfl)) rfl ?_
    refine E_iconst (x := 0) dX7_settles_57 (q := 58) rfl (by decide) ?_
    refine E_iald dX7_settles_58 (q := 59) rfl (hF10.at 2 rfl) (hF10.lt 2 (Nat.le_of_ble_eq_true rfl)) (by decide +kernel) ?_
    refine E_ishl dX7_settles_59 (q := 60) rfl ?_
    refine E_iconst (x := 1) dX7_settles_60 (q := 61) rfl (by decide) ?_
    refine E_isub dX7_settles_61 (q := 62) rfl ?_
    refine E_iand dX7_settles_62 (q := 63) rfl ?_
    refine E_iconst (x := 1) dX7_settles_63 (q := 64) rfl (by decide) ?_
    refine E_iload_n 1 dX7_settles_64 (q := 65) rfl rfl rfl ?_
    refine E_ishl dX7_settles_65 (q := 66) rfl ?_
    refine E_iconst (x := (-1)) dX7_settles_66 (q := 67) rfl (by decide) ?_
    refine E_ixor dX7_settles_67 (q := 68) rfl ?_
    refine E_iand dX7_settles_68 (q := 69) rfl ?_
    obtain ⟨g13, hf⟩ := gd hf
    refine E_iast dX7_settles_69 (q := 70) rfl (hF10.at 3 rfl) (hF10.lt 3 (Nat.le_of_ble_eq_true rfl)) g13 (up_put (i := 3) (cs' := (mdB γ 93 m_thrown m_trace m_text m_typed m_next m_token m_place m_value m_fault m_many (upd m_sees (ci v1) (((m_sees (ci (5 + v1))) &&& (((1 : Int32) <<< ((m_many (ci 0)) &&& 31)) - 1)) &&& (((1 : Int32) <<< (v1 &&& 31)) ^^^ (-1)))) m_cold m_first m_told m_s m_w m_kept m_isKept m_undos m_undoMany m_foundMan m_foundHours m_foundIs m_foundMany m_row m_best)) (Nat.le_of_ble_eq_true rfl) rfl) ?_
    refine E_aload_n 0 dX7_settles_70 (q := 71) rfl rfl rfl ?_
    have hF15 : Has n 93 (mdB γ 93 m_thrown m_trace m_text m_typed m_next m_token m_place m_value m_fault m_many (upd m_sees (ci v1) (((m_sees (ci (5 + v1))) &&& (((1 : Int32) <<< ((m_many (ci 0)) &&& 31)) - 1)) &&& (((1 : Int32) <<< (v1 &&& 31)) ^^^ (-1)))) m_cold m_first m_told m_s m_w m_kept m_isKept m_undos m_undoMany m_foundMan m_foundHours m_foundIs m_foundMany m_row m_best) (put 93 (mdB γ 93 m_thrown m_trace m_text m_typed m_next m_token m_place m_value m_fault m_many (upd m_sees (ci v1) (((m_sees (ci (5 + v1))) &&& (((1 : Int32) <<< ((m_many (ci 0)) &&& 31)) - 1)) &&& (((1 : Int32) <<< (v1 &&& 31)) ^^^ (-1)))) m_cold m_first m_told m_s m_w m_kept m_isKept m_undos m_undoMany m_foundMan m_foundHours m_foundIs m_foundMany m_row m_best) h) := (has_put hn_m)
    refine E_get 11 dX7_settles_71 (q := 74) rfl ckX7 (Nat.le_of_ble_eq_true rfl) fl_X7_19 (hF15.at 0 rfl) (hF15.lt 0 (Nat.le_of_ble_eq_true rfl)) rfl ?_
    refine E_iload_n 1 dX7_settles_74 (q := 75) rfl rfl rfl ?_
    refine E_aload_n 0 dX7_settles_75 (q := 76) rfl rfl rfl ?_
    refine E_get 11 dX7_settles_76 (q := 79) rfl ckX7 (Nat.le_of_ble_eq_true rfl) fl_X7_19 (hF15.at 0 rfl) (hF15.lt 0 (Nat.le_of_ble_eq_true rfl)) rfl ?_
    refine E_iconst (x := 5) dX7_settles_79 (q := 80) rfl (by decide) ?_
    refine E_iload_n 1 dX7_settles_80 (q := 81) rfl rfl rfl ?_
    refine E_iadd dX7_settles_81 (q := 82) rfl ?_
    refine E_iald dX7_settles_82 (q := 83) rfl (hF15.at 4 rfl) (hF15.lt 4 (Nat.le_of_ble_eq_true rfl)) g12 ?_
    refine E_iast dX7_settles_83 (q := 84) rfl (hF15.at 4 rfl) (hF15.lt 4 (Nat.le_of_ble_eq_true rfl)) g13 (up_put (i := 4) (cs' := (mdB γ 93 m_thrown m_trace m_text m_typed m_next m_token m_place m_value m_fault m_many (upd m_sees (ci v1) (((m_sees (ci (5 + v1))) &&& (((1 : Int32) <<< ((m_many (ci 0)) &&& 31)) - 1)) &&& (((1 : Int32) <<< (v1 &&& 31)) ^^^ (-1)))) (upd m_cold (ci v1) (m_cold (ci (5 + v1)))) m_first m_told m_s m_w m_kept m_isKept m_undos m_undoMany m_foundMan m_foundHours m_foundIs m_foundMany m_row m_best)) (Nat.le_of_ble_eq_true rfl) rfl) ?_
    refine E_iinc 1 [(1, .int (v1 + 1)), (0, .ref (gB γ + 93))] dX7_settles_84 (q := 87) rfl rfl rfl (Nat.le_of_ble_eq_true rfl) rfl ?_
    refine E_goto (q := 29) dX7_settles_87 (by decide) ?_
    exact E_sub [1, 0] rfl (hP _ (Option.some.inj hf).symm)
set_option maxHeartbeats 4000000 in
set_option maxRecDepth 100000 in
theorem L_X7_settles_3 {γ : GX} {n : Nat} {h : HP} {Ψ : PS} {N : Nat} {m_thrown : Int32} {m_trace : Int64} {m_text : FN} {m_typed : Int32} {m_next : Int32} {m_token : Int32} {m_place : Int32} {m_value : Int32} {m_fault : Int32} {m_many : FN} {m_sees : FN} {m_cold : FN} {m_first : FN} {m_told : Int32} {m_w : FN} {m_kept : FN} {m_isKept : FN} {m_undos : FN} {m_undoMany : Int32} {m_foundMan : FN} {m_foundHours : FN} {m_foundIs : FN} {m_foundMany : Int32} {m_row : FN} {m_best : FN} (hn_m : 93 + 16 ≤ n) {s0 : Int32 × FN} {t : FN} (hf : lp (fun s => b_X7_settles_3 N s.1 s.2) N s0 = some t) (K : Ev γ M_X7_settles (0, 0) n (put 93 (mdB γ 93 m_thrown m_trace m_text m_typed m_next m_token m_place m_value m_fault m_many m_sees m_cold m_first m_told t m_w m_kept m_isKept m_undos m_undoMany m_foundMan m_foundHours m_foundIs m_foundMany m_row m_best) h) [(0, .ref (gB γ + 93))] 111 [] Ψ) : Ev γ M_X7_settles (0, 0) n (put 93 (mdB γ 93 m_thrown m_trace m_text m_typed m_next m_token m_place m_value m_fault m_many m_sees m_cold m_first m_told s0.2 m_w m_kept m_isKept m_undos m_undoMany m_foundMan m_foundHours m_foundIs m_foundMany m_row m_best) h) [(0, .ref (gB γ + 93)), (1, .int s0.1)] 92 [] Ψ := by
  refine E_lp (P := fun s => Ev γ M_X7_settles (0, 0) n (put 93 (mdB γ 93 m_thrown m_trace m_text m_typed m_next m_token m_place m_value m_fault m_many m_sees m_cold m_first m_told s.2 m_w m_kept m_isKept m_undos m_undoMany m_foundMan m_foundHours m_foundIs m_foundMany m_row m_best) h) [(0, .ref (gB γ + 93)), (1, .int s.1)] 92 [] Ψ) (K := fun t => Ev γ M_X7_settles (0, 0) n (put 93 (mdB γ 93 m_thrown m_trace m_text m_typed m_next m_token m_place m_value m_fault m_many m_sees m_cold m_first m_told t m_w m_kept m_isKept m_undos m_undoMany m_foundMan m_foundHours m_foundIs m_foundMany m_row m_best) h) [(0, .ref (gB γ + 93))] 111 [] Ψ) ?_ N s0 t hf K
  intro s r hf hP hK
  obtain ⟨v1, m_s⟩ := s
  change b_X7_settles_3 N v1 m_s = some r at hf
  unfold b_X7_settles_3 at hf
  show Ev γ M_X7_settles (0, 0) n (put 93 (mdB γ 93 m_thrown m_trace m_text m_typed m_next m_token m_place m_value m_fault m_many m_sees m_cold m_first m_told m_s m_w m_kept m_isKept m_undos m_undoMany m_foundMan m_foundHours m_foundIs m_foundMany m_row m_best) h) [(0, .ref (gB γ + 93)), (1, .int v1)] 92 [] Ψ
  refine E_iload_n 1 dX7_settles_92 (q := 93) rfl rfl rfl ?_
  refine E_bipush (x := 48) dX7_settles_93 (q := 95) rfl (by decide) ?_
  refine E_icmp_ge dX7_settles_95 (t := 111) (by decide) (q := 98) rfl (fun c20 => ?_) (fun c20 => ?_)
  · have hf := if_t c20 hf
    exact E_sub [0] rfl (hK _ (Option.some.inj hf).symm)
  · have hf := if_f c20 hf
    refine E_aload_n 0 dX7_settles_98 (q := 99) rfl rfl rfl ?_
    have hF21 : Has n 93 (mdB γ 93 m_thrown m_trace m_text m_typed m_next m_token m_place m_value m_fault m_many m_sees m_cold m_first m_told m_s m_w m_kept m_isKept m_undos m_undoMany m_foundMan m_foundHours m_foundIs m_foundMany m_row m_best) (put 93 (mdB γ 93 m_thrown m_trace m_text m_typed m_next m_token m_place m_value m_fault m_many m_sees m_cold m_first m_told m_s m_w m_kept m_isKept m_undos m_undoMany m_foundMan m_foundHours m_foundIs m_foundMany m_row m_best) h) := (has_put hn_m)
    refine E_get 14 dX7_settles_99 (q := 102) rfl ckX7 (Nat.le_of_ble_eq_true rfl) fl_X7_25 (hF21.at 0 rfl) (hF21.lt 0 (Nat.le_of_ble_eq_true rfl)) rfl ?_
    refine E_iload_n 1 dX7_settles_102 (q := 103) rfl rfl rfl ?_
    refine E_iconst (x := 0) dX7_settles_103 (q := 104) rfl (by decide) ?_
    obtain ⟨g22, hf⟩ := gd hf
    refine E_iast dX7_settles_104 (q := 105) rfl (hF21.at 6 rfl) (hF21.lt 6 (Nat.le_of_ble_eq_true rfl)) g22 (up_put (i := 6) (cs' := (mdB γ 93 m_thrown m_trace m_text m_typed m_next m_token m_place m_value m_fault m_many m_sees m_cold m_first m_told (upd m_s (ci v1) 0) m_w m_kept m_isKept m_undos m_undoMany m_foundMan m_foundHours m_foundIs m_foundMany m_row m_best)) (Nat.le_of_ble_eq_true rfl) rfl) ?_
    refine E_iinc 1 [(1, .int (v1 + 1)), (0, .ref (gB γ + 93))] dX7_settles_105 (q := 108) rfl rfl rfl (Nat.le_of_ble_eq_true rfl) rfl ?_
    refine E_goto (q := 92) dX7_settles_108 (by decide) ?_
    exact E_sub [1, 0] rfl (hP _ (Option.some.inj hf).symm)
set_option maxHeartbeats 4000000 in
set_option maxRecDepth 100000 in
theorem L_X7_settles_4 {γ : GX} {n : Nat} {h : HP} {Ψ : PS} {N : Nat} {m_thrown : Int32} {m_trace : Int64} {m_text : FN} {m_typed : Int32} {m_next : Int32} {m_token : Int32} {m_place : Int32} {m_value : Int32} {m_fault : Int32} {m_many : FN} {m_sees : FN} {m_cold : FN} {m_first : FN} {m_told : Int32} {m_w : FN} {m_kept : FN} {m_isKept : FN} {m_undos : FN} {m_undoMany : Int32} {m_foundMan : FN} {m_foundHours : FN} {m_foundIs : FN} {m_foundMany : Int32} {m_row : FN} {m_best : FN} (hn_m : 93 + 16 ≤ n) {s0 : Int32 × FN} {t : FN} (hf : lp (fun s => b_X7_settles_4 N m_many m_first s.1 s.2) N s0 = some t) (K : Ev γ M_X7_settles (0, 0) n (put 93 (mdB γ 93 m_thrown m_trace m_text m_typed m_next m_token m_place m_value m_fault m_many m_sees m_cold m_first m_told t m_w m_kept m_isKept m_undos m_undoMany m_foundMan m_foundHours m_foundIs m_foundMany m_row m_best) h) [(0, .ref (gB γ + 93))] 146 [] Ψ) : Ev γ M_X7_settles (0, 0) n (put 93 (mdB γ 93 m_thrown m_trace m_text m_typed m_next m_token m_place m_value m_fault m_many m_sees m_cold m_first m_told s0.2 m_w m_kept m_isKept m_undos m_undoMany m_foundMan m_foundHours m_foundIs m_foundMany m_row m_best) h) [(0, .ref (gB γ + 93)), (1, .int s0.1)] 113 [] Ψ := by
  refine E_lp (P := fun s => Ev γ M_X7_settles (0, 0) n (put 93 (mdB γ 93 m_thrown m_trace m_text m_typed m_next m_token m_place m_value m_fault m_many m_sees m_cold m_first m_told s.2 m_w m_kept m_isKept m_undos m_undoMany m_foundMan m_foundHours m_foundIs m_foundMany m_row m_best) h) [(0, .ref (gB γ + 93)), (1, .int s.1)] 113 [] Ψ) (K := fun t => Ev γ M_X7_settles (0, 0) n (put 93 (mdB γ 93 m_thrown m_trace m_text m_typed m_next m_token m_place m_value m_fault m_many m_sees m_cold m_first m_told t m_w m_kept m_isKept m_undos m_undoMany m_foundMan m_foundHours m_foundIs m_foundMany m_row m_best) h) [(0, .ref (gB γ + 93))] 146 [] Ψ) ?_ N s0 t hf K
  intro s r hf hP hK
  obtain ⟨v1, m_s⟩ := s
  change b_X7_settles_4 N m_many m_first v1 m_s = some r at hf
  unfold b_X7_settles_4 at hf
  show Ev γ M_X7_settles (0, 0) n (put 93 (mdB γ 93 m_thrown m_trace m_text m_typed m_next m_token m_place m_value m_fault m_many m_sees m_cold m_first m_told m_s m_w m_kept m_isKept m_undos m_undoMany m_foundMan m_foundHours m_foundIs m_foundMany m_row m_best) h) [(0, .ref (gB γ + 93)), (1, .int v1)] 113 [] Ψ
  refine E_iload_n 1 dX7_settles_113 (q := 114) rfl rfl rfl ?_
  refine E_aload_n 0 dX7_settles_114 (q := 115) rfl rfl rfl ?_
  have hF27 : Has n 93 (mdB γ 93 m_thrown m_trace m_text m_typed m_next m_token m_place m_value m_fault m_many m_sees m_cold m_first m_told m_s m_w m_kept m_isKept m_undos m_undoMany m_foundMan m_foundHours m_foundIs m_foundMany m_row m_best) (put 93 (mdB γ 93 m_thrown m_trace m_text m_typed m_next m_token m_place m_value m_fault m_many m_sees m_cold m_first m_told m_s m_w m_kept m_isKept m_undos m_undoMany m_foundMan m_foundHours m_foundIs m_foundMany m_row m_best) h) := (has_put hn_m)
  refine E_get 9 dX7_settles_115 (q := 118) rfl ckX7 (Nat.le_of_ble_eq_true rfl) fl_X7_13 (hF27.at 0 rfl) (hF27.lt 0 (Nat.le_of_ble_eq_true rfl)) rfl ?_
  refine E_iconst (x := 1) dX7_settles_118 (q := 119) rfl (by decide) ?_
  refine E_iald dX7_settles_119 (q := 120) rfl (hF27.at 2 rfl) (hF27.lt 2 (Nat.le_of_ble_eq_true rfl)) (by decide +kernel) ?_
  refine E_icmp_ge dX7_settles_120 (t := 146) (by decide) (q := 123) rfl (fun c28 => ?_) (fun c28 => ?_)
  · have hf := if_t c28 hf
    exact E_sub [0] rfl (hK _ (Option.some.inj hf).symm)
  · have hf := if_f c28 hf
    refine E_aload_n 0 dX7_settles_123 (q := 124) rfl rfl rfl ?_
    refine E_get 14 dX7_settles_124 (q := 127) rfl ckX7 (Nat.le_of_ble_eq_true rfl) fl_X7_25 (hF27.at 0 rfl) (hF27.lt 0 (Nat.le_of_ble_eq_true rfl)) rfl ?_
    refine E_iconst (x := 1) dX7_settles_127 (q := 128) rfl (by decide) ?_
    refine E_iload_n 1 dX7_settles_128 (q := 129) rfl rfl rfl ?_
    refine E_iadd dX7_settles_129 (q := 130) rfl ?_
    refine E_aload_n 0 dX7_settles_130 (q := 131) rfl rfl rfl ?_
    refine E_get 12 dX7_settles_131 (q := 134) rfl ckX7 (Nat.le_of_ble_eq_true rfl) fl_X7_22 (hF27.at 0 rfl) (hF27.lt 0 (Nat.le_of_ble_eq_true rfl)) rfl ?_
    refine E_bipush (x := 6) dX7_settles_134 (q := 136) rfl (by decide) ?_
    refine E_iload_n 1 dX7_settles_136 (q := 137) rfl rfl rfl ?_
    refine E_iadd dX7_settles_137 (q := 138) rfl ?_
    obtain ⟨g29, hf⟩ := gd hf
    refine E_iald dX7_settles_138 (q := 139) rfl (hF27.at 5 rfl) (hF27.lt 5 (Nat.le_of_ble_eq_true rfl)) g29 ?_
    obtain ⟨g30, hf⟩ := gd hf
    refine E_iast dX7_settles_139 (q := 140) rfl (hF27.at 6 rfl) (hF27.lt 6 (Nat.le_of_ble_eq_true rfl)) g30 (up_put (i := 6) (cs' := (mdB γ 93 m_thrown m_trace m_text m_typed m_next m_token m_place m_value m_fault m_many m_sees m_cold m_first m_told (upd m_s (ci (1 + v1)) (m_first (ci (6 + v1)))) m_w m_kept m_isKept m_undos m_undoMany m_foundMan m_foundHours m_foundIs m_foundMany m_row m_best)) (Nat.le_of_ble_eq_true rfl) rfl) ?_
    refine E_iinc 1 [(1, .int (v1 + 1)), (0, .ref (gB γ + 93))] dX7_settles_140 (q := 143) rfl rfl rfl (Nat.le_of_ble_eq_true rfl) rfl ?_
    refine E_goto (q := 113) dX7_settles_143 (by decide) ?_
    exact E_sub [1, 0] rfl (hP _ (Option.some.inj hf).symm)
set_option maxHeartbeats 4000000 in
set_option maxRecDepth 100000 in
theorem m_X7_settles {γ : GX} {n : Nat} {N : Nat} {h : HP} {m_thrown : Int32} {m_trace : Int64} {m_text : FN} {m_typed : Int32} {m_next : Int32} {m_token : Int32} {m_place : Int32} {m_value : Int32} {m_fault : Int32} {m_many : FN} {m_sees : FN} {m_cold : FN} {m_first : FN} {m_told : Int32} {m_s : FN} {m_w : FN} {m_kept : FN} {m_isKept : FN} {m_undos : FN} {m_undoMany : Int32} {m_foundMan : FN} {m_foundHours : FN} {m_foundIs : FN} {m_foundMany : Int32} {m_row : FN} {m_best : FN} (hH_m : Has n 93 (mdB γ 93 m_thrown m_trace m_text m_typed m_next m_token m_place m_value m_fault m_many m_sees m_cold m_first m_told m_s m_w m_kept m_isKept m_undos m_undoMany m_foundMan m_foundHours m_foundIs m_foundMany m_row m_best) h) {z : Int32 × FN × FN × FN × FN × FN × Int32 × Int32} (hf : f_X7_settles N m_typed m_many m_sees m_cold m_first m_s m_isKept m_undoMany m_foundMany = some z)  : Ct γ M_X7_settles n h [.ref (gB γ + 93)] (Done none n (put 93 (mdB γ 93 m_thrown m_trace m_text z.1 m_next m_token m_place m_value m_fault z.2.1 z.2.2.1 z.2.2.2.1 m_first m_told z.2.2.2.2.1 m_w m_kept z.2.2.2.2.2.1 m_undos z.2.2.2.2.2.2.1 m_foundMan m_foundHours m_foundIs z.2.2.2.2.2.2.2 m_row m_best) h)) := by
  have hn_m : 93 + 16 ≤ n := hH_m.1
  refine Ct.heap (h := (put 93 (mdB γ 93 m_thrown m_trace m_text m_typed m_next m_token m_place m_value m_fault m_many m_sees m_cold m_first m_told m_s m_w m_kept m_isKept m_undos m_undoMany m_foundMan m_foundHours m_foundIs m_foundMany m_row m_best) h)) (put_self hH_m).symm ?_
  refine Ct_of_Ev (by decide) (fun h => by cases h) (Nat.le_of_ble_eq_true rfl) ?_
  show Ev γ M_X7_settles (0, 0) n (put 93 (mdB γ 93 m_thrown m_trace m_text m_typed m_next m_token m_place m_value m_fault m_many m_sees m_cold m_first m_told m_s m_w m_kept m_isKept m_undos m_undoMany m_foundMan m_foundHours m_foundIs m_foundMany m_row m_best) h) [(0, .ref (gB γ + 93))] 0 [] _
  unfold f_X7_settles at hf
  refine E_iconst (x := 0) dX7_settles_0 (q := 1) rfl (by decide) ?_
  refine E_istore_n [(1, .int 0), (0, .ref (gB γ + 93))] dX7_settles_1 (q := 2) rfl rfl (Nat.le_of_ble_eq_true rfl) rfl ?_
  obtain ⟨t7, hxt7, hf⟩ := bnd hf
  refine E_sub [1, 0] rfl ?_
  refine L_X7_settles_1 hn_m hxt7 ?_
  show Ev γ M_X7_settles _ n (put 93 (mdB γ 93 m_thrown m_trace m_text m_typed m_next m_token m_place m_value m_fault t7 m_sees m_cold m_first m_told m_s m_w m_kept m_isKept m_undos m_undoMany m_foundMan m_foundHours m_foundIs m_foundMany m_row m_best) h) [(0, .ref (gB γ + 93))] 27 [] _
  refine E_iconst (x := 0) dX7_settles_27 (q := 28) rfl (by decide) ?_
  refine E_istore_n [(1, .int 0), (0, .ref (gB γ + 93))] dX7_settles_28 (q := 29) rfl rfl (Nat.le_of_ble_eq_true rfl) rfl ?_
  obtain ⟨t17, hxt17, hf⟩ := bnd hf
  refine E_sub [1, 0] rfl ?_
  refine L_X7_settles_2 hn_m hxt17 ?_
  show Ev γ M_X7_settles _ n (put 93 (mdB γ 93 m_thrown m_trace m_text m_typed m_next m_token m_place m_value m_fault t7 t17.1 t17.2 m_first m_told m_s m_w m_kept m_isKept m_undos m_undoMany m_foundMan m_foundHours m_foundIs m_foundMany m_row m_best) h) [(0, .ref (gB γ + 93))] 90 [] _
  refine E_iconst (x := 0) dX7_settles_90 (q := 91) rfl (by decide) ?_
  refine E_istore_n [(1, .int 0), (0, .ref (gB γ + 93))] dX7_settles_91 (q := 92) rfl rfl (Nat.le_of_ble_eq_true rfl) rfl ?_
  obtain ⟨t24, hxt24, hf⟩ := bnd hf
  refine E_sub [1, 0] rfl ?_
  refine L_X7_settles_3 hn_m hxt24 ?_
  show Ev γ M_X7_settles _ n (put 93 (mdB γ 93 m_thrown m_trace m_text m_typed m_next m_token m_place m_value m_fault t7 t17.1 t17.2 m_first m_told t24 m_w m_kept m_isKept m_undos m_undoMany m_foundMan m_foundHours m_foundIs m_foundMany m_row m_best) h) [(0, .ref (gB γ + 93))] 111 [] _
  refine E_iconst (x := 0) dX7_settles_111 (q := 112) rfl (by decide) ?_
  refine E_istore_n [(1, .int 0), (0, .ref (gB γ + 93))] dX7_settles_112 (q := 113) rfl rfl (Nat.le_of_ble_eq_true rfl) rfl ?_
  obtain ⟨t32, hxt32, hf⟩ := bnd hf
  refine E_sub [1, 0] rfl ?_
  refine L_X7_settles_4 hn_m hxt32 ?_
  show Ev γ M_X7_settles _ n (put 93 (mdB γ 93 m_thrown m_trace m_text m_typed m_next m_token m_place m_value m_fault t7 t17.1 t17.2 m_first m_told t32 m_w m_kept m_isKept m_undos m_undoMany m_foundMan m_foundHours m_foundIs m_foundMany m_row m_best) h) [(0, .ref (gB γ + 93))] 146 [] _
  refine E_aload_n 0 dX7_settles_146 (q := 147) rfl rfl rfl ?_
  refine E_iconst (x := 0) dX7_settles_147 (q := 148) rfl (by decide) ?_
  have hF34 : Has n 93 (mdB γ 93 m_thrown m_trace m_text m_typed m_next m_token m_place m_value m_fault t7 t17.1 t17.2 m_first m_told t32 m_w m_kept m_isKept m_undos m_undoMany m_foundMan m_foundHours m_foundIs m_foundMany m_row m_best) (put 93 (mdB γ 93 m_thrown m_trace m_text m_typed m_next m_token m_place m_value m_fault t7 t17.1 t17.2 m_first m_told t32 m_w m_kept m_isKept m_undos m_undoMany m_foundMan m_foundHours m_foundIs m_foundMany m_row m_best) h) := (has_put hn_m)
  refine E_put 3 dX7_settles_148 (q := 151) rfl ckX7 (Nat.le_of_ble_eq_true rfl) fl_X7_64 rfl rfl rfl (hF34.at 0 rfl) (hF34.lt 0 (Nat.le_of_ble_eq_true rfl)) (Nat.le_of_ble_eq_true rfl) (up_put (i := 0) (cs' := (mdB γ 93 m_thrown m_trace m_text 0 m_next m_token m_place m_value m_fault t7 t17.1 t17.2 m_first m_told t32 m_w m_kept m_isKept m_undos m_undoMany m_foundMan m_foundHours m_foundIs m_foundMany m_row m_best)) (Nat.le_of_ble_eq_true rfl) rfl) ?_
  refine E_aload_n 0 dX7_settles_151 (q := 152) rfl rfl rfl ?_
  refine E_iconst (x := 0) dX7_settles_152 (q := 153) rfl (by decide) ?_
  have hF36 : Has n 93 (mdB γ 93 m_thrown m_trace m_text 0 m_next m_token m_place m_value m_fault t7 t17.1 t17.2 m_first m_told t32 m_w m_kept m_isKept m_undos m_undoMany m_foundMan m_foundHours m_foundIs m_foundMany m_row m_best) (put 93 (mdB γ 93 m_thrown m_trace m_text 0 m_next m_token m_place m_value m_fault t7 t17.1 t17.2 m_first m_told t32 m_w m_kept m_isKept m_undos m_undoMany m_foundMan m_foundHours m_foundIs m_foundMany m_row m_best) h) := (has_put hn_m)
  refine E_put 23 dX7_settles_153 (q := 156) rfl ckX7 (Nat.le_of_ble_eq_true rfl) fl_X7_114 rfl rfl rfl (hF36.at 0 rfl) (hF36.lt 0 (Nat.le_of_ble_eq_true rfl)) (Nat.le_of_ble_eq_true rfl) (up_put (i := 0) (cs' := (mdB γ 93 m_thrown m_trace m_text 0 m_next m_token m_place m_value m_fault t7 t17.1 t17.2 m_first m_told t32 m_w m_kept m_isKept m_undos m_undoMany m_foundMan m_foundHours m_foundIs 0 m_row m_best)) (Nat.le_of_ble_eq_true rfl) rfl) ?_
  refine E_aload_n 0 dX7_settles_156 (q := 157) rfl rfl rfl ?_
  refine E_iconst (x := 0) dX7_settles_157 (q := 158) rfl (by decide) ?_
  have hF38 : Has n 93 (mdB γ 93 m_thrown m_trace m_text 0 m_next m_token m_place m_value m_fault t7 t17.1 t17.2 m_first m_told t32 m_w m_kept m_isKept m_undos m_undoMany m_foundMan m_foundHours m_foundIs 0 m_row m_best) (put 93 (mdB γ 93 m_thrown m_trace m_text 0 m_next m_token m_place m_value m_fault t7 t17.1 t17.2 m_first m_told t32 m_w m_kept m_isKept m_undos m_undoMany m_foundMan m_foundHours m_foundIs 0 m_row m_best) h) := (has_put hn_m)
  refine E_put 19 dX7_settles_158 (q := 161) rfl ckX7 (Nat.le_of_ble_eq_true rfl) fl_X7_117 rfl rfl rfl (hF38.at 0 rfl) (hF38.lt 0 (Nat.le_of_ble_eq_true rfl)) (Nat.le_of_ble_eq_true rfl) (up_put (i := 0) (cs' := (mdB γ 93 m_thrown m_trace m_text 0 m_next m_token m_place m_value m_fault t7 t17.1 t17.2 m_first m_told t32 m_w m_kept m_isKept m_undos 0 m_foundMan m_foundHours m_foundIs 0 m_row m_best)) (Nat.le_of_ble_eq_true rfl) rfl) ?_
  refine E_aload_n 0 dX7_settles_161 (q := 162) rfl rfl rfl ?_
  have hF40 : Has n 93 (mdB γ 93 m_thrown m_trace m_text 0 m_next m_token m_place m_value m_fault t7 t17.1 t17.2 m_first m_told t32 m_w m_kept m_isKept m_undos 0 m_foundMan m_foundHours m_foundIs 0 m_row m_best) (put 93 (mdB γ 93 m_thrown m_trace m_text 0 m_next m_token m_place m_value m_fault t7 t17.1 t17.2 m_first m_told t32 m_w m_kept m_isKept m_undos 0 m_foundMan m_foundHours m_foundIs 0 m_row m_best) h) := (has_put hn_m)
  refine E_get 17 dX7_settles_162 (q := 165) rfl ckX7 (Nat.le_of_ble_eq_true rfl) fl_X7_34 (hF40.at 0 rfl) (hF40.lt 0 (Nat.le_of_ble_eq_true rfl)) rfl ?_
  refine E_iconst (x := 0) dX7_settles_165 (q := 166) rfl (by decide) ?_
  refine E_iconst (x := 0) dX7_settles_166 (q := 167) rfl (by decide) ?_
  refine E_zast dX7_settles_167 (q := 168) rfl (hF40.at 9 rfl) (hF40.lt 9 (Nat.le_of_ble_eq_true rfl)) (by decide +kernel) rfl (up_put (i := 9) (cs' := (mdB γ 93 m_thrown m_trace m_text 0 m_next m_token m_place m_value m_fault t7 t17.1 t17.2 m_first m_told t32 m_w m_kept (upd m_isKept (ci 0) 0) m_undos 0 m_foundMan m_foundHours m_foundIs 0 m_row m_best)) (Nat.le_of_ble_eq_true rfl) rfl) ?_
  refine E_aload_n 0 dX7_settles_168 (q := 169) rfl rfl rfl ?_
  have hF42 : Has n 93 (mdB γ 93 m_thrown m_trace m_text 0 m_next m_token m_place m_value m_fault t7 t17.1 t17.2 m_first m_told t32 m_w m_kept (upd m_isKept (ci 0) 0) m_undos 0 m_foundMan m_foundHours m_foundIs 0 m_row m_best) (put 93 (mdB γ 93 m_thrown m_trace m_text 0 m_next m_token m_place m_value m_fault t7 t17.1 t17.2 m_first m_told t32 m_w m_kept (upd m_isKept (ci 0) 0) m_undos 0 m_foundMan m_foundHours m_foundIs 0 m_row m_best) h) := (has_put hn_m)
  refine E_get 17 dX7_settles_169 (q := 172) rfl ckX7 (Nat.le_of_ble_eq_true rfl) fl_X7_34 (hF42.at 0 rfl) (hF42.lt 0 (Nat.le_of_ble_eq_true rfl)) rfl ?_
  refine E_iconst (x := 1) dX7_settles_172 (q := 173) rfl (by decide) ?_
  refine E_iconst (x := 0) dX7_settles_173 (q := 174) rfl (by decide) ?_
  refine E_zast dX7_settles_174 (q := 175) rfl (hF42.at 9 rfl) (hF42.lt 9 (Nat.le_of_ble_eq_true rfl)) (by decide +kernel) rfl (up_put (i := 9) (cs' := (mdB γ 93 m_thrown m_trace m_text 0 m_next m_token m_place m_value m_fault t7 t17.1 t17.2 m_first m_told t32 m_w m_kept (upd (upd m_isKept (ci 0) 0) (ci 1) 0) m_undos 0 m_foundMan m_foundHours m_foundIs 0 m_row m_best)) (Nat.le_of_ble_eq_true rfl) rfl) ?_
  obtain rfl := Option.some.inj hf
  exact E_vret dX7_settles_175 rfl ⟨rfl, rfl, rfl⟩

-- PostReliefModel.depot()I
def b_X7_depot_1 (N : Nat) (m_text : FN) (m_typed : Int32) (v1 : Int32) (m_next : Int32) (m_token : Int32) (m_place : Int32) (m_value : Int32) (m_fault : Int32) (m_many : FN) (m_sees : FN) (m_cold : FN) (m_first : FN) (m_told : Int32) : Option ((Int32 × Int32 × Int32 × Int32 × Int32 × Int32 × FN × FN × FN × FN × Int32) ⊕ (Int32 × Int32 × Int32 × Int32 × Int32 × Int32 × FN × FN × FN × FN × Int32)) :=
  ((f_X7_isWell N m_fault).bind fun z21 => (if z21 = 0 then some (.inr (v1, m_next, m_token, m_place, m_value, m_fault, m_many, m_sees, m_cold, m_first, m_told)) else (if m_token = 0 then some (.inr (v1, m_next, m_token, m_place, m_value, m_fault, m_many, m_sees, m_cold, m_first, m_told)) else (if m_token = 1 then ((f_X7_mayBegin N m_value m_many m_told).bind fun z26 => (if z26 = 0 then ((f_X7_takes N 0 m_text m_typed m_next m_token m_place m_value m_fault).bind fun z28 => ((f_X7_isWell N z28.2.2.2.2.2).bind fun z30 => (if z30 = 0 then (if z28.2.2.1 = 3 then ((f_X7_takes N 1 m_text m_typed z28.2.1 z28.2.2.1 z28.2.2.2.1 z28.2.2.2.2.1 z28.2.2.2.2.2).bind fun z34 => some (.inl ((v1 + 1), z34.2.1, z34.2.2.1, z34.2.2.2.1, z34.2.2.2.2.1, z34.2.2.2.2.2, m_many, m_sees, m_cold, m_first, m_told))) else ((f_X7_takes N 0 m_text m_typed z28.2.1 z28.2.2.1 z28.2.2.2.1 z28.2.2.2.2.1 z28.2.2.2.2.2).bind fun z36 => some (.inl ((v1 + 1), z36.2.1, z36.2.2.1, z36.2.2.2.1, z36.2.2.2.2.1, z36.2.2.2.2.2, m_many, m_sees, m_cold, m_first, m_told)))) else ((f_X7_readsItem N z28.1 m_text m_typed z28.2.1 z28.2.2.1 z28.2.2.2.1 z28.2.2.2.2.1 z28.2.2.2.2.2 m_many m_sees m_cold m_first m_told).bind fun z38 => (if z38.2.1 = 3 then ((f_X7_takes N 1 m_text m_typed z38.1 z38.2.1 z38.2.2.1 z38.2.2.2.1 z38.2.2.2.2.1).bind fun z42 => some (.inl ((v1 + 1), z42.2.1, z42.2.2.1, z42.2.2.2.1, z42.2.2.2.2.1, z42.2.2.2.2.2, z38.2.2.2.2.2.1, z38.2.2.2.2.2.2.1, z38.2.2.2.2.2.2.2.1, z38.2.2.2.2.2.2.2.2.1, z38.2.2.2.2.2.2.2.2.2))) else ((f_X7_takes N 0 m_text m_typed z38.1 z38.2.1 z38.2.2.1 z38.2.2.2.1 z38.2.2.2.2.1).bind fun z44 => some (.inl ((v1 + 1), z44.2.1, z44.2.2.1, z44.2.2.2.1, z44.2.2.2.2.1, z44.2.2.2.2.2, z38.2.2.2.2.2.1, z38.2.2.2.2.2.2.1, z38.2.2.2.2.2.2.2.1, z38.2.2.2.2.2.2.2.2.1, z38.2.2.2.2.2.2.2.2.2)))))))) else ((f_X7_takes N 1 m_text m_typed m_next m_token m_place m_value m_fault).bind fun z46 => ((f_X7_isWell N z46.2.2.2.2.2).bind fun z48 => (if z48 = 0 then (if z46.2.2.1 = 3 then ((f_X7_takes N 1 m_text m_typed z46.2.1 z46.2.2.1 z46.2.2.2.1 z46.2.2.2.2.1 z46.2.2.2.2.2).bind fun z52 => some (.inl ((v1 + 1), z52.2.1, z52.2.2.1, z52.2.2.2.1, z52.2.2.2.2.1, z52.2.2.2.2.2, m_many, m_sees, m_cold, m_first, m_told))) else ((f_X7_takes N 0 m_text m_typed z46.2.1 z46.2.2.1 z46.2.2.2.1 z46.2.2.2.2.1 z46.2.2.2.2.2).bind fun z54 => some (.inl ((v1 + 1), z54.2.1, z54.2.2.1, z54.2.2.2.1, z54.2.2.2.2.1, z54.2.2.2.2.2, m_many, m_sees, m_cold, m_first, m_told)))) else ((f_X7_readsItem N z46.1 m_text m_typed z46.2.1 z46.2.2.1 z46.2.2.2.1 z46.2.2.2.2.1 z46.2.2.2.2.2 m_many m_sees m_cold m_first m_told).bind fun z56 => (if z56.2.1 = 3 then ((f_X7_takes N 1 m_text m_typed z56.1 z56.2.1 z56.2.2.1 z56.2.2.2.1 z56.2.2.2.2.1).bind fun z60 => some (.inl ((v1 + 1), z60.2.1, z60.2.2.1, z60.2.2.2.1, z60.2.2.2.2.1, z60.2.2.2.2.2, z56.2.2.2.2.2.1, z56.2.2.2.2.2.2.1, z56.2.2.2.2.2.2.2.1, z56.2.2.2.2.2.2.2.2.1, z56.2.2.2.2.2.2.2.2.2))) else ((f_X7_takes N 0 m_text m_typed z56.1 z56.2.1 z56.2.2.1 z56.2.2.2.1 z56.2.2.2.2.1).bind fun z62 => some (.inl ((v1 + 1), z62.2.1, z62.2.2.1, z62.2.2.2.1, z62.2.2.2.2.1, z62.2.2.2.2.2, z56.2.2.2.2.2.1, z56.2.2.2.2.2.2.1, z56.2.2.2.2.2.2.2.1, z56.2.2.2.2.2.2.2.2.1, z56.2.2.2.2.2.2.2.2.2)))))))))) else ((f_X7_takes N 0 m_text m_typed m_next m_token m_place m_value m_fault).bind fun z64 => ((f_X7_isWell N z64.2.2.2.2.2).bind fun z66 => (if z66 = 0 then (if z64.2.2.1 = 3 then ((f_X7_takes N 1 m_text m_typed z64.2.1 z64.2.2.1 z64.2.2.2.1 z64.2.2.2.2.1 z64.2.2.2.2.2).bind fun z70 => some (.inl ((v1 + 1), z70.2.1, z70.2.2.1, z70.2.2.2.1, z70.2.2.2.2.1, z70.2.2.2.2.2, m_many, m_sees, m_cold, m_first, m_told))) else ((f_X7_takes N 0 m_text m_typed z64.2.1 z64.2.2.1 z64.2.2.2.1 z64.2.2.2.2.1 z64.2.2.2.2.2).bind fun z72 => some (.inl ((v1 + 1), z72.2.1, z72.2.2.1, z72.2.2.2.1, z72.2.2.2.2.1, z72.2.2.2.2.2, m_many, m_sees, m_cold, m_first, m_told)))) else ((f_X7_readsItem N z64.1 m_text m_typed z64.2.1 z64.2.2.1 z64.2.2.2.1 z64.2.2.2.2.1 z64.2.2.2.2.2 m_many m_sees m_cold m_first m_told).bind fun z74 => (if z74.2.1 = 3 then ((f_X7_takes N 1 m_text m_typed z74.1 z74.2.1 z74.2.2.1 z74.2.2.2.1 z74.2.2.2.2.1).bind fun z78 => some (.inl ((v1 + 1), z78.2.1, z78.2.2.1, z78.2.2.2.1, z78.2.2.2.2.1, z78.2.2.2.2.2, z74.2.2.2.2.2.1, z74.2.2.2.2.2.2.1, z74.2.2.2.2.2.2.2.1, z74.2.2.2.2.2.2.2.2.1, z74.2.2.2.2.2.2.2.2.2))) else ((f_X7_takes N 0 m_text m_typed z74.1 z74.2.1 z74.2.2.1 z74.2.2.2.1 z74.2.2.2.2.1).bind fun z80 => some (.inl ((v1 + 1), z80.2.1, z80.2.2.1, z80.2.2.2.1, z80.2.2.2.2.1, z80.2.2.2.2.2, z74.2.2.2.2.2.1, z74.2.2.2.2.2.2.1, z74.2.2.2.2.2.2.2.1, z74.2.2.2.2.2.2.2.2.1, z74.2.2.2.2.2.2.2.2.2))))))))))))
def f_X7_depot (N : Nat) (m_thrown : Int32) (m_text : FN) (m_typed : Int32) (m_next : Int32) (m_token : Int32) (m_place : Int32) (m_value : Int32) (m_fault : Int32) (m_many : FN) (m_sees : FN) (m_cold : FN) (m_first : FN) (m_told : Int32) (m_s : FN) (m_isKept : FN) (m_undoMany : Int32) (m_foundMany : Int32) : Option (Int32 × Int32 × Int32 × Int32 × Int32 × Int32 × Int32 × Int32 × FN × FN × FN × FN × Int32 × FN × FN × Int32 × Int32) :=
  ((f_X7_advances N m_text m_typed 0 m_token m_place m_value).bind fun z17 => ((lp (fun s => b_X7_depot_1 N m_text m_typed s.1 s.2.1 s.2.2.1 s.2.2.2.1 s.2.2.2.2.1 s.2.2.2.2.2.1 s.2.2.2.2.2.2.1 s.2.2.2.2.2.2.2.1 s.2.2.2.2.2.2.2.2.1 s.2.2.2.2.2.2.2.2.2.1 s.2.2.2.2.2.2.2.2.2.2) N (0, z17.1, z17.2.1, z17.2.2.1, z17.2.2.2, (-1), (upd (upd (upd (upd m_many (ci 4) 0) (ci 5) 0) (ci 6) 2) (ci 7) 3), m_sees, m_cold, m_first, 0)).bind fun t82 => ((f_X7_isWell N t82.2.2.2.2.2.1).bind fun z84 => (if z84 = 0 then some (((-10) - t82.2.2.2.2.2.1), 0, m_typed, t82.2.1, t82.2.2.1, t82.2.2.2.1, t82.2.2.2.2.1, t82.2.2.2.2.2.1, t82.2.2.2.2.2.2.1, t82.2.2.2.2.2.2.2.1, t82.2.2.2.2.2.2.2.2.1, t82.2.2.2.2.2.2.2.2.2.1, t82.2.2.2.2.2.2.2.2.2.2, m_s, m_isKept, m_undoMany, m_foundMany) else ((f_X7_settles N m_typed t82.2.2.2.2.2.2.1 t82.2.2.2.2.2.2.2.1 t82.2.2.2.2.2.2.2.2.1 t82.2.2.2.2.2.2.2.2.2.1 m_s m_isKept m_undoMany m_foundMany).bind fun z87 => some (t82.1, 0, z87.1, t82.2.1, t82.2.2.1, t82.2.2.2.1, t82.2.2.2.2.1, t82.2.2.2.2.2.1, z87.2.1, z87.2.2.1, z87.2.2.2.1, t82.2.2.2.2.2.2.2.2.2.1, t82.2.2.2.2.2.2.2.2.2.2, z87.2.2.2.2.1, z87.2.2.2.2.2.1, z87.2.2.2.2.2.2.1, z87.2.2.2.2.2.2.2))))))
set_option maxHeartbeats 4000000 in
set_option maxRecDepth 100000 in
theorem L_X7_depot_1 {γ : GX} {n : Nat} {h : HP} {Ψ : PS} {N : Nat} {m_thrown : Int32} {m_trace : Int64} {m_text : FN} {m_typed : Int32} {m_s : FN} {m_w : FN} {m_kept : FN} {m_isKept : FN} {m_undos : FN} {m_undoMany : Int32} {m_foundMan : FN} {m_foundHours : FN} {m_foundIs : FN} {m_foundMany : Int32} {m_row : FN} {m_best : FN} (hn_m : 93 + 16 ≤ n) {s0 : Int32 × Int32 × Int32 × Int32 × Int32 × Int32 × FN × FN × FN × FN × Int32} {t : Int32 × Int32 × Int32 × Int32 × Int32 × Int32 × FN × FN × FN × FN × Int32} (hf : lp (fun s => b_X7_depot_1 N m_text m_typed s.1 s.2.1 s.2.2.1 s.2.2.2.1 s.2.2.2.2.1 s.2.2.2.2.2.1 s.2.2.2.2.2.2.1 s.2.2.2.2.2.2.2.1 s.2.2.2.2.2.2.2.2.1 s.2.2.2.2.2.2.2.2.2.1 s.2.2.2.2.2.2.2.2.2.2) N s0 = some t) (K : Ev γ M_X7_depot (0, 0) n (put 93 (mdB γ 93 m_thrown m_trace m_text m_typed t.2.1 t.2.2.1 t.2.2.2.1 t.2.2.2.2.1 t.2.2.2.2.2.1 t.2.2.2.2.2.2.1 t.2.2.2.2.2.2.2.1 t.2.2.2.2.2.2.2.2.1 t.2.2.2.2.2.2.2.2.2.1 t.2.2.2.2.2.2.2.2.2.2 m_s m_w m_kept m_isKept m_undos m_undoMany m_foundMan m_foundHours m_foundIs m_foundMany m_row m_best) h) [(0, .ref (gB γ + 93)), (1, .int t.1)] 131 [] Ψ) : Ev γ M_X7_depot (0, 0) n (put 93 (mdB γ 93 m_thrown m_trace m_text m_typed s0.2.1 s0.2.2.1 s0.2.2.2.1 s0.2.2.2.2.1 s0.2.2.2.2.2.1 s0.2.2.2.2.2.2.1 s0.2.2.2.2.2.2.2.1 s0.2.2.2.2.2.2.2.2.1 s0.2.2.2.2.2.2.2.2.2.1 s0.2.2.2.2.2.2.2.2.2.2 m_s m_w m_kept m_isKept m_undos m_undoMany m_foundMan m_foundHours m_foundIs m_foundMany m_row m_best) h) [(0, .ref (gB γ + 93)), (1, .int s0.1)] 56 [] Ψ := by
  refine E_lp (P := fun s => Ev γ M_X7_depot (0, 0) n (put 93 (mdB γ 93 m_thrown m_trace m_text m_typed s.2.1 s.2.2.1 s.2.2.2.1 s.2.2.2.2.1 s.2.2.2.2.2.1 s.2.2.2.2.2.2.1 s.2.2.2.2.2.2.2.1 s.2.2.2.2.2.2.2.2.1 s.2.2.2.2.2.2.2.2.2.1 s.2.2.2.2.2.2.2.2.2.2 m_s m_w m_kept m_isKept m_undos m_undoMany m_foundMan m_foundHours m_foundIs m_foundMany m_row m_best) h) [(0, .ref (gB γ + 93)), (1, .int s.1)] 56 [] Ψ) (K := fun t => Ev γ M_X7_depot (0, 0) n (put 93 (mdB γ 93 m_thrown m_trace m_text m_typed t.2.1 t.2.2.1 t.2.2.2.1 t.2.2.2.2.1 t.2.2.2.2.2.1 t.2.2.2.2.2.2.1 t.2.2.2.2.2.2.2.1 t.2.2.2.2.2.2.2.2.1 t.2.2.2.2.2.2.2.2.2.1 t.2.2.2.2.2.2.2.2.2.2 m_s m_w m_kept m_isKept m_undos m_undoMany m_foundMan m_foundHours m_foundIs m_foundMany m_row m_best) h) [(0, .ref (gB γ + 93)), (1, .int t.1)] 131 [] Ψ) ?_ N s0 t hf K
  intro s r hf hP hK
  obtain ⟨v1, m_next, m_token, m_place, m_value, m_fault, m_many, m_sees, m_cold, m_first, m_told⟩ := s
  change b_X7_depot_1 N m_text m_typed v1 m_next m_token m_place m_value m_fault m_many m_sees m_cold m_first m_told = some r at hf
  unfold b_X7_depot_1 at hf
  show Ev γ M_X7_depot (0, 0) n (put 93 (mdB γ 93 m_thrown m_trace m_text m_typed m_next m_token m_place m_value m_fault m_many m_sees m_cold m_first m_told m_s m_w m_kept m_isKept m_undos m_undoMany m_foundMan m_foundHours m_foundIs m_foundMany m_row m_best) h) [(0, .ref (gB γ + 93)), (1, .int v1)] 56 [] Ψ
  refine E_aload_n 0 dX7_depot_56 (q := 57) rfl rfl rfl ?_
  obtain ⟨z21, hxz21, hf⟩ := bnd hf
  have hF22 : Has n 93 (mdB γ 93 m_thrown m_trace m_text m_typed m_next m_token m_place m_value m_fault m_many m_sees m_cold m_first m_told m_s m_w m_kept m_isKept m_undos m_undoMany m_foundMan m_foundHours m_foundIs m_foundMany m_row m_best) (put 93 (mdB γ 93 m_thrown m_trace m_text m_typed m_next m_token m_place m_value m_fault m_many m_sees m_cold m_first m_told m_s m_w m_kept m_isKept m_undos m_undoMany m_foundMan m_foundHours m_foundIs m_foundMany m_row m_best) h) := (has_put hn_m)
  refine E_cV (as := []) (k := 93) (rest := []) (u' := (0, 0)) (st' := [.int z21]) dX7_depot_57 (q := 60) rfl lkm_X7_isWell lkv_X7_86 (Nat.le_of_ble_eq_true rfl) ckX7 (hF22.at 0 rfl) (hF22.lt 0 (Nat.le_of_ble_eq_true rfl)) ⟨Nat.le_refl _, Nat.le_refl _⟩ (Nat.le_of_ble_eq_true rfl) rfl rfl (m_X7_isWell (N := N)  hF22 hxz21) rfl rfl rfl ?_
  refine E_if_eq dX7_depot_60 (t := 131) (by decide) (q := 63) rfl (fun c23 => ?_) (fun c23 => ?_)
  · have hf := if_t c23 hf
    exact E_sub [0, 1] rfl (hK _ (Option.some.inj hf).symm)
  · have hf := if_f c23 hf
    refine E_aload_n 0 dX7_depot_63 (q := 64) rfl rfl rfl ?_
    refine E_get 5 dX7_depot_64 (q := 67) rfl ckX7 (Nat.le_of_ble_eq_true rfl) fl_X7_77 (hF22.at 0 rfl) (hF22.lt 0 (Nat.le_of_ble_eq_true rfl)) rfl ?_
    refine E_if_eq dX7_depot_67 (t := 131) (by decide) (q := 70) rfl (fun c24 => ?_) (fun c24 => ?_)
    · have hf := if_t c24 hf
      exact E_sub [0, 1] rfl (hK _ (Option.some.inj hf).symm)
    · have hf := if_f c24 hf
      refine E_aload_n 0 dX7_depot_70 (q := 71) rfl rfl rfl ?_
      refine E_aload_n 0 dX7_depot_71 (q := 72) rfl rfl rfl ?_
      refine E_get 5 dX7_depot_72 (q := 75) rfl ckX7 (Nat.le_of_ble_eq_true rfl) fl_X7_77 (hF22.at 0 rfl) (hF22.lt 0 (Nat.le_of_ble_eq_true rfl)) rfl ?_
      refine E_iconst (x := 1) dX7_depot_75 (q := 76) rfl (by decide) ?_
      refine E_icmp_ne dX7_depot_76 (t := 90) (by decide) (q := 79) rfl (fun c25 => ?_) (fun c25 => ?_)
      · have hf := if_f c25 hf
        refine E_iconst (x := 0) dX7_depot_90 (q := 91) rfl (by decide) ?_
        obtain ⟨z64, hxz64, hf⟩ := bnd hf
        refine E_cV (as := [.int 0]) (k := 93) (rest := []) (u' := (0, 0)) (st' := [.int z64.1]) dX7_depot_91 (q := 94) rfl lkm_X7_takes lkv_X7_93 (Nat.le_of_ble_eq_true rfl) ckX7 (hF22.at 0 rfl) (hF22.lt 0 (Nat.le_of_ble_eq_true rfl)) ⟨Nat.le_refl _, Nat.le_refl _⟩ (Nat.le_of_ble_eq_true rfl) rfl rfl (m_X7_takes (N := N)  hF22 hxz64) rfl rfl rfl ?_
        refine Ev.heap (put_put (k := 93) (cs := (mdB γ 93 m_thrown m_trace m_text m_typed m_next m_token m_place m_value m_fault m_many m_sees m_cold m_first m_told m_s m_w m_kept m_isKept m_undos m_undoMany m_foundMan m_foundHours m_foundIs m_foundMany m_row m_best)) (cs' := (mdB γ 93 m_thrown m_trace m_text m_typed z64.2.1 z64.2.2.1 z64.2.2.2.1 z64.2.2.2.2.1 z64.2.2.2.2.2 m_many m_sees m_cold m_first m_told m_s m_w m_kept m_isKept m_undos m_undoMany m_foundMan m_foundHours m_foundIs m_foundMany m_row m_best)) (show (16 : Nat) = 16 from rfl)) ?_
        refine E_istore_n [(2, .int z64.1), (0, .ref (gB γ + 93)), (1, .int v1)] dX7_depot_94 (q := 95) rfl rfl (Nat.le_of_ble_eq_true rfl) rfl ?_
        refine E_aload_n 1 dX7_depot_95 (q := 96) rfl rfl rfl ?_
        obtain ⟨z66, hxz66, hf⟩ := bnd hf
        have hF67 : Has n 93 (mdB γ 93 m_thrown m_trace m_text m_typed z64.2.1 z64.2.2.1 z64.2.2.2.1 z64.2.2.2.2.1 z64.2.2.2.2.2 m_many m_sees m_cold m_first m_told m_s m_w m_kept m_isKept m_undos m_undoMany m_foundMan m_foundHours m_foundIs m_foundMany m_row m_best) (put 93 (mdB γ 93 m_thrown m_trace m_text m_typed z64.2.1 z64.2.2.1 z64.2.2.2.1 z64.2.2.2.2.1 z64.2.2.2.2.2 m_many m_sees m_cold m_first m_told m_s m_w m_kept m_isKept m_undos m_undoMany m_foundMan m_foundHours m_foundIs m_foundMany m_row m_best) h) := (has_put hn_m)
        refine E_cV (as := []) (k := 93) (rest := []) (u' := (0, 0)) (st' := [.int z66]) dX7_depot_96 (q := 99) rfl lkm_X7_isWell lkv_X7_86 (Nat.le_of_ble_eq_true rfl) ckX7 (hF67.at 0 rfl) (hF67.lt 0 (Nat.le_of_ble_eq_true rfl)) ⟨Nat.le_refl _, Nat.le_refl _⟩ (Nat.le_of_ble_eq_true rfl) rfl rfl (m_X7_isWell (N := N)  hF67 hxz66) rfl rfl rfl ?_
        refine E_if_eq dX7_depot_99 (t := 107) (by decide) (q := 102) rfl (fun c68 => ?_) (fun c68 => ?_)
        · have hf := if_t c68 hf
          refine E_aload_n 1 dX7_depot_107 (q := 108) rfl rfl rfl ?_
          refine E_aload_n 1 dX7_depot_108 (q := 109) rfl rfl rfl ?_
          refine E_get 5 dX7_depot_109 (q := 112) rfl ckX7 (Nat.le_of_ble_eq_true rfl) fl_X7_77 (hF67.at 0 rfl) (hF67.lt 0 (Nat.le_of_ble_eq_true rfl)) rfl ?_
          refine E_iconst (x := 3) dX7_depot_112 (q := 113) rfl (by decide) ?_
          refine E_icmp_ne dX7_depot_113 (t := 120) (by decide) (q := 116) rfl (fun c69 => ?_) (fun c69 => ?_)
          · have hf := if_f c69 hf
            refine E_iconst (x := 0) dX7_depot_120 (q := 121) rfl (by decide) ?_
            obtain ⟨z72, hxz72, hf⟩ := bnd hf
            refine E_cV (as := [.int 0]) (k := 93) (rest := []) (u' := (0, 0)) (st' := [.int z72.1]) dX7_depot_121 (q := 124) rfl lkm_X7_takes lkv_X7_93 (Nat.le_of_ble_eq_true rfl) ckX7 (hF67.at 0 rfl) (hF67.lt 0 (Nat.le_of_ble_eq_true rfl)) ⟨Nat.le_refl _, Nat.le_refl _⟩ (Nat.le_of_ble_eq_true rfl) rfl rfl (m_X7_takes (N := N)  hF67 hxz72) rfl rfl rfl ?_
            refine Ev.heap (put_put (k := 93) (cs := (mdB γ 93 m_thrown m_trace m_text m_typed z64.2.1 z64.2.2.1 z64.2.2.2.1 z64.2.2.2.2.1 z64.2.2.2.2.2 m_many m_sees m_cold m_first m_told m_s m_w m_kept m_isKept m_undos m_undoMany m_foundMan m_foundHours m_foundIs m_foundMany m_row m_best)) (cs' := (mdB γ 93 m_thrown m_trace m_text m_typed z72.2.1 z72.2.2.1 z72.2.2.2.1 z72.2.2.2.2.1 z72.2.2.2.2.2 m_many m_sees m_cold m_first m_told m_s m_w m_kept m_isKept m_undos m_undoMany m_foundMan m_foundHours m_foundIs m_foundMany m_row m_best)) (show (16 : Nat) = 16 from rfl)) ?_
            refine E_pop dX7_depot_124 (q := 125) rfl rfl ?_
            refine E_iinc 2 [(1, .int (v1 + 1)), (2, .int z64.1), (0, .ref (gB γ + 93))] dX7_depot_125 (q := 128) rfl rfl rfl (Nat.le_of_ble_eq_true rfl) rfl ?_
            refine E_goto (q := 56) dX7_depot_128 (by decide) ?_
            exact E_sub [2, 0] rfl (hP _ (Option.some.inj hf).symm)
          · have hf := if_t c69 hf
            refine E_iconst (x := 1) dX7_depot_116 (q := 117) rfl (by decide) ?_
            refine E_goto (q := 121) dX7_depot_117 (by decide) ?_
            obtain ⟨z70, hxz70, hf⟩ := bnd hf
            refine E_cV (as := [.int 1]) (k := 93) (rest := []) (u' := (0, 0)) (st' := [.int z70.1]) dX7_depot_121 (q := 124) rfl lkm_X7_takes lkv_X7_93 (Nat.le_of_ble_eq_true rfl) ckX7 (hF67.at 0 rfl) (hF67.lt 0 (Nat.le_of_ble_eq_true rfl)) ⟨Nat.le_refl _, Nat.le_refl _⟩ (Nat.le_of_ble_eq_true rfl) rfl rfl (m_X7_takes (N := N)  hF67 hxz70) rfl rfl rfl ?_
            refine Ev.heap (put_put (k := 93) (cs := (mdB γ 93 m_thrown m_trace m_text m_typed z64.2.1 z64.2.2.1 z64.2.2.2.1 z64.2.2.2.2.1 z64.2.2.2.2.2 m_many m_sees m_cold m_first m_told m_s m_w m_kept m_isKept m_undos m_undoMany m_foundMan m_foundHours m_foundIs m_foundMany m_row m_best)) (cs' := (mdB γ 93 m_thrown m_trace m_text m_typed z70.2.1 z70.2.2.1 z70.2.2.2.1 z70.2.2.2.2.1 z70.2.2.2.2.2 m_many m_sees m_cold m_first m_told m_s m_w m_kept m_isKept m_undos m_undoMany m_foundMan m_foundHours m_foundIs m_foundMany m_row m_best)) (show (16 : Nat) = 16 from rfl)) ?_
            refine E_pop dX7_depot_124 (q := 125) rfl rfl ?_
            refine E_iinc 2 [(1, .int (v1 + 1)), (2, .int z64.1), (0, .ref (gB γ + 93))] dX7_depot_125 (q := 128) rfl rfl rfl (Nat.le_of_ble_eq_true rfl) rfl ?_
            refine E_goto (q := 56) dX7_depot_128 (by decide) ?_
            exact E_sub [2, 0] rfl (hP _ (Option.some.inj hf).symm)
        · have hf := if_f c68 hf
          refine E_aload_n 1 dX7_depot_102 (q := 103) rfl rfl rfl ?_
          refine E_iload_n 0 dX7_depot_103 (q := 104) rfl rfl rfl ?_
          obtain ⟨z74, hxz74, hf⟩ := bnd hf
          refine E_cV (as := [.int z64.1]) (k := 93) (rest := []) (u' := (0, 0)) (st' := []) dX7_depot_104 (q := 107) rfl lkm_X7_readsItem lkv_X7_107 (Nat.le_of_ble_eq_true rfl) ckX7 (hF67.at 0 rfl) (hF67.lt 0 (Nat.le_of_ble_eq_true rfl)) ⟨Nat.le_refl _, Nat.le_refl _⟩ (Nat.le_of_ble_eq_true rfl) rfl rfl (m_X7_readsItem (N := N)  hF67 hxz74) rfl rfl rfl ?_
          refine Ev.heap (put_put (k := 93) (cs := (mdB γ 93 m_thrown m_trace m_text m_typed z64.2.1 z64.2.2.1 z64.2.2.2.1 z64.2.2.2.2.1 z64.2.2.2.2.2 m_many m_sees m_cold m_first m_told m_s m_w m_kept m_isKept m_undos m_undoMany m_foundMan m_foundHours m_foundIs m_foundMany m_row m_best)) (cs' := (mdB γ 93 m_thrown m_trace m_text m_typed z74.1 z74.2.1 z74.2.2.1 z74.2.2.2.1 z74.2.2.2.2.1 z74.2.2.2.2.2.1 z74.2.2.2.2.2.2.1 z74.2.2.2.2.2.2.2.1 z74.2.2.2.2.2.2.2.2.1 z74.2.2.2.2.2.2.2.2.2 m_s m_w m_kept m_isKept m_undos m_undoMany m_foundMan m_foundHours m_foundIs m_foundMany m_row m_best)) (show (16 : Nat) = 16 from rfl)) ?_
          refine E_aload_n 1 dX7_depot_107 (q := 108) rfl rfl rfl ?_
          refine E_aload_n 1 dX7_depot_108 (q := 109) rfl rfl rfl ?_
          have hF76 : Has n 93 (mdB γ 93 m_thrown m_trace m_text m_typed z74.1 z74.2.1 z74.2.2.1 z74.2.2.2.1 z74.2.2.2.2.1 z74.2.2.2.2.2.1 z74.2.2.2.2.2.2.1 z74.2.2.2.2.2.2.2.1 z74.2.2.2.2.2.2.2.2.1 z74.2.2.2.2.2.2.2.2.2 m_s m_w m_kept m_isKept m_undos m_undoMany m_foundMan m_foundHours m_foundIs m_foundMany m_row m_best) (put 93 (mdB γ 93 m_thrown m_trace m_text m_typed z74.1 z74.2.1 z74.2.2.1 z74.2.2.2.1 z74.2.2.2.2.1 z74.2.2.2.2.2.1 z74.2.2.2.2.2.2.1 z74.2.2.2.2.2.2.2.1 z74.2.2.2.2.2.2.2.2.1 z74.2.2.2.2.2.2.2.2.2 m_s m_w m_kept m_isKept m_undos m_undoMany m_foundMan m_foundHours m_foundIs m_foundMany m_row m_best) h) := (has_put hn_m)
          refine E_get 5 dX7_depot_109 (q := 112) rfl ckX7 (Nat.le_of_ble_eq_true rfl) fl_X7_77 (hF76.at 0 rfl) (hF76.lt 0 (Nat.le_of_ble_eq_true rfl)) rfl ?_
          refine E_iconst (x := 3) dX7_depot_112 (q := 113) rfl (by decide) ?_
          refine E_icmp_ne dX7_depot_113 (t := 120) (by decide) (q := 116) rfl (fun c77 => ?_) (fun c77 => ?_)
          · have hf := if_f c77 hf
            refine E_iconst (x := 0) dX7_depot_120 (q := 121) rfl (by decide) ?_
            obtain ⟨z80, hxz80, hf⟩ := bnd hf
            refine E_cV (as := [.int 0]) (k := 93) (rest := []) (u' := (0, 0)) (st' := [.int z80.1]) dX7_depot_121 (q := 124) rfl lkm_X7_takes lkv_X7_93 (Nat.le_of_ble_eq_true rfl) ckX7 (hF76.at 0 rfl) (hF76.lt 0 (Nat.le_of_ble_eq_true rfl)) ⟨Nat.le_refl _, Nat.le_refl _⟩ (Nat.le_of_ble_eq_true rfl) rfl rfl (m_X7_takes (N := N)  hF76 hxz80) rfl rfl rfl ?_
            refine Ev.heap (put_put (k := 93) (cs := (mdB γ 93 m_thrown m_trace m_text m_typed z74.1 z74.2.1 z74.2.2.1 z74.2.2.2.1 z74.2.2.2.2.1 z74.2.2.2.2.2.1 z74.2.2.2.2.2.2.1 z74.2.2.2.2.2.2.2.1 z74.2.2.2.2.2.2.2.2.1 z74.2.2.2.2.2.2.2.2.2 m_s m_w m_kept m_isKept m_undos m_undoMany m_foundMan m_foundHours m_foundIs m_foundMany m_row m_best)) (cs' := (mdB γ 93 m_thrown m_trace m_text m_typed z80.2.1 z80.2.2.1 z80.2.2.2.1 z80.2.2.2.2.1 z80.2.2.2.2.2 z74.2.2.2.2.2.1 z74.2.2.2.2.2.2.1 z74.2.2.2.2.2.2.2.1 z74.2.2.2.2.2.2.2.2.1 z74.2.2.2.2.2.2.2.2.2 m_s m_w m_kept m_isKept m_undos m_undoMany m_foundMan m_foundHours m_foundIs m_foundMany m_row m_best)) (show (16 : Nat) = 16 from rfl)) ?_
            refine E_pop dX7_depot_124 (q := 125) rfl rfl ?_
            refine E_iinc 2 [(1, .int (v1 + 1)), (2, .int z64.1), (0, .ref (gB γ + 93))] dX7_depot_125 (q := 128) rfl rfl rfl (Nat.le_of_ble_eq_true rfl) rfl ?_
            refine E_goto (q := 56) dX7_depot_128 (by decide) ?_
            exact E_sub [2, 0] rfl (hP _ (Option.some.inj hf).symm)
          · have hf := if_t c77 hf
            refine E_iconst (x := 1) dX7_depot_116 (q := 117) rfl (by decide) ?_
            refine E_goto (q := 121) dX7_depot_117 (by decide) ?_
            obtain ⟨z78, hxz78, hf⟩ := bnd hf
            refine E_cV (as := [.int 1]) (k := 93) (rest := []) (u' := (0, 0)) (st' := [.int z78.1]) dX7_depot_121 (q := 124) rfl lkm_X7_takes lkv_X7_93 (Nat.le_of_ble_eq_true rfl) ckX7 (hF76.at 0 rfl) (hF76.lt 0 (Nat.le_of_ble_eq_true rfl)) ⟨Nat.le_refl _, Nat.le_refl _⟩ (Nat.le_of_ble_eq_true rfl) rfl rfl (m_X7_takes (N := N)  hF76 hxz78) rfl rfl rfl ?_
            refine Ev.heap (put_put (k := 93) (cs := (mdB γ 93 m_thrown m_trace m_text m_typed z74.1 z74.2.1 z74.2.2.1 z74.2.2.2.1 z74.2.2.2.2.1 z74.2.2.2.2.2.1 z74.2.2.2.2.2.2.1 z74.2.2.2.2.2.2.2.1 z74.2.2.2.2.2.2.2.2.1 z74.2.2.2.2.2.2.2.2.2 m_s m_w m_kept m_isKept m_undos m_undoMany m_foundMan m_foundHours m_foundIs m_foundMany m_row m_best)) (cs' := (mdB γ 93 m_thrown m_trace m_text m_typed z78.2.1 z78.2.2.1 z78.2.2.2.1 z78.2.2.2.2.1 z78.2.2.2.2.2 z74.2.2.2.2.2.1 z74.2.2.2.2.2.2.1 z74.2.2.2.2.2.2.2.1 z74.2.2.2.2.2.2.2.2.1 z74.2.2.2.2.2.2.2.2.2 m_s m_w m_kept m_isKept m_undos m_undoMany m_foundMan m_foundHours m_foundIs m_foundMany m_row m_best)) (show (16 : Nat) = 16 from rfl)) ?_
            refine E_pop dX7_depot_124 (q := 125) rfl rfl ?_
            refine E_iinc 2 [(1, .int (v1 + 1)), (2, .int z64.1), (0, .ref (gB γ + 93))] dX7_depot_125 (q := 128) rfl rfl rfl (Nat.le_of_ble_eq_true rfl) rfl ?_
            refine E_goto (q := 56) dX7_depot_128 (by decide) ?_
            exact E_sub [2, 0] rfl (hP _ (Option.some.inj hf).symm)
      · have hf := if_t c25 hf
        refine E_aload_n 0 dX7_depot_79 (q := 80) rfl rfl rfl ?_
        obtain ⟨z26, hxz26, hf⟩ := bnd hf
        refine E_cV (as := []) (k := 93) (rest := [.ref (gB γ + 93)]) (u' := (0, 0)) (st' := [.int z26, .ref (gB γ + 93)]) dX7_depot_80 (q := 83) rfl lkm_X7_mayBegin lkv_X7_104 (Nat.le_of_ble_eq_true rfl) ckX7 (hF22.at 0 rfl) (hF22.lt 0 (Nat.le_of_ble_eq_true rfl)) ⟨Nat.le_refl _, Nat.le_refl _⟩ (Nat.le_of_ble_eq_true rfl) rfl rfl (m_X7_mayBegin (N := N)  hF22 hxz26) rfl rfl rfl ?_
        refine E_if_eq dX7_depot_83 (t := 90) (by decide) (q := 86) rfl (fun c27 => ?_) (fun c27 => ?_)
        · have hf := if_t c27 hf
          refine E_iconst (x := 0) dX7_depot_90 (q := 91) rfl (by decide) ?_
          obtain ⟨z28, hxz28, hf⟩ := bnd hf
          refine E_cV (as := [.int 0]) (k := 93) (rest := []) (u' := (0, 0)) (st' := [.int z28.1]) dX7_depot_91 (q := 94) rfl lkm_X7_takes lkv_X7_93 (Nat.le_of_ble_eq_true rfl) ckX7 (hF22.at 0 rfl) (hF22.lt 0 (Nat.le_of_ble_eq_true rfl)) ⟨Nat.le_refl _, Nat.le_refl _⟩ (Nat.le_of_ble_eq_true rfl) rfl rfl (m_X7_takes (N := N)  hF22 hxz28) rfl rfl rfl ?_
          refine Ev.heap (put_put (k := 93) (cs := (mdB γ 93 m_thrown m_trace m_text m_typed m_next m_token m_place m_value m_fault m_many m_sees m_cold m_first m_told m_s m_w m_kept m_isKept m_undos m_undoMany m_foundMan m_foundHours m_foundIs m_foundMany m_row m_best)) (cs' := (mdB γ 93 m_thrown m_trace m_text m_typed z28.2.1 z28.2.2.1 z28.2.2.2.1 z28.2.2.2.2.1 z28.2.2.2.2.2 m_many m_sees m_cold m_first m_told m_s m_w m_kept m_isKept m_undos m_undoMany m_foundMan m_foundHours m_foundIs m_foundMany m_row m_best)) (show (16 : Nat) = 16 from rfl)) ?_
          refine E_istore_n [(2, .int z28.1), (0, .ref (gB γ + 93)), (1, .int v1)] dX7_depot_94 (q := 95) rfl rfl (Nat.le_of_ble_eq_true rfl) rfl ?_
          refine E_aload_n 1 dX7_depot_95 (q := 96) rfl rfl rfl ?_
          obtain ⟨z30, hxz30, hf⟩ := bnd hf
          have hF31 : Has n 93 (mdB γ 93 m_thrown m_trace m_text m_typed z28.2.1 z28.2.2.1 z28.2.2.2.1 z28.2.2.2.2.1 z28.2.2.2.2.2 m_many m_sees m_cold m_first m_told m_s m_w m_kept m_isKept m_undos m_undoMany m_foundMan m_foundHours m_foundIs m_foundMany m_row m_best) (put 93 (mdB γ 93 m_thrown m_trace m_text m_typed z28.2.1 z28.2.2.1 z28.2.2.2.1 z28.2.2.2.2.1 z28.2.2.2.2.2 m_many m_sees m_cold m_first m_told m_s m_w m_kept m_isKept m_undos m_undoMany m_foundMan m_foundHours m_foundIs m_foundMany m_row m_best) h) := (has_put hn_m)
          refine E_cV (as := []) (k := 93) (rest := []) (u' := (0, 0)) (st' := [.int z30]) dX7_depot_96 (q := 99) rfl lkm_X7_isWell lkv_X7_86 (Nat.le_of_ble_eq_true rfl) ckX7 (hF31.at 0 rfl) (hF31.lt 0 (Nat.le_of_ble_eq_true rfl)) ⟨Nat.le_refl _, Nat.le_refl _⟩ (Nat.le_of_ble_eq_true rfl) rfl rfl (m_X7_isWell (N := N)  hF31 hxz30) rfl rfl rfl ?_
          refine E_if_eq dX7_depot_99 (t := 107) (by decide) (q := 102) rfl (fun c32 => ?_) (fun c32 => ?_)
          · have hf := if_t c32 hf
            refine E_aload_n 1 dX7_depot_107 (q := 108) rfl rfl rfl ?_
            refine E_aload_n 1 dX7_depot_108 (q := 109) rfl rfl rfl ?_
            refine E_get 5 dX7_depot_109 (q := 112) rfl ckX7 (Nat.le_of_ble_eq_true rfl) fl_X7_77 (hF31.at 0 rfl) (hF31.lt 0 (Nat.le_of_ble_eq_true rfl)) rfl ?_
            refine E_iconst (x := 3) dX7_depot_112 (q := 113) rfl (by decide) ?_
            refine E_icmp_ne dX7_depot_113 (t := 120) (by decide) (q := 116) rfl (fun c33 => ?_) (fun c33 => ?_)
            · have hf := if_f c33 hf
              refine E_iconst (x := 0) dX7_depot_120 (q := 121) rfl (by decide) ?_
              obtain ⟨z36, hxz36, hf⟩ := bnd hf
              refine E_cV (as := [.int 0]) (k := 93) (rest := []) (u' := (0, 0)) (st' := [.int z36.1]) dX7_depot_121 (q := 124) rfl lkm_X7_takes lkv_X7_93 (Nat.le_of_ble_eq_true rfl) ckX7 (hF31.at 0 rfl) (hF31.lt 0 (Nat.le_of_ble_eq_true rfl)) ⟨Nat.le_refl _, Nat.le_refl _⟩ (Nat.le_of_ble_eq_true rfl) rfl rfl (m_X7_takes (N := N)  hF31 hxz36) rfl rfl rfl ?_
              refine Ev.heap (put_put (k := 93) (cs := (mdB γ 93 m_thrown m_trace m_text m_typed z28.2.1 z28.2.2.1 z28.2.2.2.1 z28.2.2.2.2.1 z28.2.2.2.2.2 m_many m_sees m_cold m_first m_told m_s m_w m_kept m_isKept m_undos m_undoMany m_foundMan m_foundHours m_foundIs m_foundMany m_row m_best)) (cs' := (mdB γ 93 m_thrown m_trace m_text m_typed z36.2.1 z36.2.2.1 z36.2.2.2.1 z36.2.2.2.2.1 z36.2.2.2.2.2 m_many m_sees m_cold m_first m_told m_s m_w m_kept m_isKept m_undos m_undoMany m_foundMan m_foundHours m_foundIs m_foundMany m_row m_best)) (show (16 : Nat) = 16 from rfl)) ?_
              refine E_pop dX7_depot_124 (q := 125) rfl rfl ?_
              refine E_iinc 2 [(1, .int (v1 + 1)), (2, .int z28.1), (0, .ref (gB γ + 93))] dX7_depot_125 (q := 128) rfl rfl rfl (Nat.le_of_ble_eq_true rfl) rfl ?_
              refine E_goto (q := 56) dX7_depot_128 (by decide) ?_
              exact E_sub [2, 0] rfl (hP _ (Option.some.inj hf).symm)
            · have hf := if_t c33 hf
              refine E_iconst (x := 1) dX7_depot_116 (q := 117) rfl (by decide) ?_
              refine E_goto (q := 121) dX7_depot_117 (by decide) ?_
              obtain ⟨z34, hxz34, hf⟩ := bnd hf
              refine E_cV (as := [.int 1]) (k := 93) (rest := []) (u' := (0, 0)) (st' := [.int z34.1]) dX7_depot_121 (q := 124) rfl lkm_X7_takes lkv_X7_93 (Nat.le_of_ble_eq_true rfl) ckX7 (hF31.at 0 rfl) (hF31.lt 0 (Nat.le_of_ble_eq_true rfl)) ⟨Nat.le_refl _, Nat.le_refl _⟩ (Nat.le_of_ble_eq_true rfl) rfl rfl (m_X7_takes (N := N)  hF31 hxz34) rfl rfl rfl ?_
              refine Ev.heap (put_put (k := 93) (cs := (mdB γ 93 m_thrown m_trace m_text m_typed z28.2.1 z28.2.2.1 z28.2.2.2.1 z28.2.2.2.2.1 z28.2.2.2.2.2 m_many m_sees m_cold m_first m_told m_s m_w m_kept m_isKept m_undos m_undoMany m_foundMan m_foundHours m_foundIs m_foundMany m_row m_best)) (cs' := (mdB γ 93 m_thrown m_trace m_text m_typed z34.2.1 z34.2.2.1 z34.2.2.2.1 z34.2.2.2.2.1 z34.2.2.2.2.2 m_many m_sees m_cold m_first m_told m_s m_w m_kept m_isKept m_undos m_undoMany m_foundMan m_foundHours m_foundIs m_foundMany m_row m_best)) (show (16 : Nat) = 16 from rfl)) ?_
              refine E_pop dX7_depot_124 (q := 125) rfl rfl ?_
              refine E_iinc 2 [(1, .int (v1 + 1)), (2, .int z28.1), (0, .ref (gB γ + 93))] dX7_depot_125 (q := 128) rfl rfl rfl (Nat.le_of_ble_eq_true rfl) rfl ?_
              refine E_goto (q := 56) dX7_depot_128 (by decide) ?_
              exact E_sub [2, 0] rfl (hP _ (Option.some.inj hf).symm)
          · have hf := if_f c32 hf
            refine E_aload_n 1 dX7_depot_102 (q := 103) rfl rfl rfl ?_
            refine E_iload_n 0 dX7_depot_103 (q := 104) rfl rfl rfl ?_
            obtain ⟨z38, hxz38, hf⟩ := bnd hf
            refine E_cV (as := [.int z28.1]) (k := 93) (rest := []) (u' := (0, 0)) (st' := []) dX7_depot_104 (q := 107) rfl lkm_X7_readsItem lkv_X7_107 (Nat.le_of_ble_eq_true rfl) ckX7 (hF31.at 0 rfl) (hF31.lt 0 (Nat.le_of_ble_eq_true rfl)) ⟨Nat.le_refl _, Nat.le_refl _⟩ (Nat.le_of_ble_eq_true rfl) rfl rfl (m_X7_readsItem (N := N)  hF31 hxz38) rfl rfl rfl ?_
            refine Ev.heap (put_put (k := 93) (cs := (mdB γ 93 m_thrown m_trace m_text m_typed z28.2.1 z28.2.2.1 z28.2.2.2.1 z28.2.2.2.2.1 z28.2.2.2.2.2 m_many m_sees m_cold m_first m_told m_s m_w m_kept m_isKept m_undos m_undoMany m_foundMan m_foundHours m_foundIs m_foundMany m_row m_best)) (cs' := (mdB γ 93 m_thrown m_trace m_text m_typed z38.1 z38.2.1 z38.2.2.1 z38.2.2.2.1 z38.2.2.2.2.1 z38.2.2.2.2.2.1 z38.2.2.2.2.2.2.1 z38.2.2.2.2.2.2.2.1 z38.2.2.2.2.2.2.2.2.1 z38.2.2.2.2.2.2.2.2.2 m_s m_w m_kept m_isKept m_undos m_undoMany m_foundMan m_foundHours m_foundIs m_foundMany m_row m_best)) (show (16 : Nat) = 16 from rfl)) ?_
            refine E_aload_n 1 dX7_depot_107 (q := 108) rfl rfl rfl ?_
            refine E_aload_n 1 dX7_depot_108 (q := 109) rfl rfl rfl ?_
            have hF40 : Has n 93 (mdB γ 93 m_thrown m_trace m_text m_typed z38.1 z38.2.1 z38.2.2.1 z38.2.2.2.1 z38.2.2.2.2.1 z38.2.2.2.2.2.1 z38.2.2.2.2.2.2.1 z38.2.2.2.2.2.2.2.1 z38.2.2.2.2.2.2.2.2.1 z38.2.2.2.2.2.2.2.2.2 m_s m_w m_kept m_isKept m_undos m_undoMany m_foundMan m_foundHours m_foundIs m_foundMany m_row m_best) (put 93 (mdB γ 93 m_thrown m_trace m_text m_typed z38.1 z38.2.1 z38.2.2.1 z38.2.2.2.1 z38.2.2.2.2.1 z38.2.2.2.2.2.1 z38.2.2.2.2.2.2.1 z38.2.2.2.2.2.2.2.1 z38.2.2.2.2.2.2.2.2.1 z38.2.2.2.2.2.2.2.2.2 m_s m_w m_kept m_isKept m_undos m_undoMany m_foundMan m_foundHours m_foundIs m_foundMany m_row m_best) h) := (has_put hn_m)
            refine E_get 5 dX7_depot_109 (q := 112) rfl ckX7 (Nat.le_of_ble_eq_true rfl) fl_X7_77 (hF40.at 0 rfl) (hF40.lt 0 (Nat.le_of_ble_eq_true rfl)) rfl ?_
            refine E_iconst (x := 3) dX7_depot_112 (q := 113) rfl (by decide) ?_
            refine E_icmp_ne dX7_depot_113 (t := 120) (by decide) (q := 116) rfl (fun c41 => ?_) (fun c41 => ?_)
            · have hf := if_f c41 hf
              refine E_iconst (x := 0) dX7_depot_120 (q := 121) rfl (by decide) ?_
              obtain ⟨z44, hxz44, hf⟩ := bnd hf
              refine E_cV (as := [.int 0]) (k := 93) (rest := []) (u' := (0, 0)) (st' := [.int z44.1]) dX7_depot_121 (q := 124) rfl lkm_X7_takes lkv_X7_93 (Nat.le_of_ble_eq_true rfl) ckX7 (hF40.at 0 rfl) (hF40.lt 0 (Nat.le_of_ble_eq_true rfl)) ⟨Nat.le_refl _, Nat.le_refl _⟩ (Nat.le_of_ble_eq_true rfl) rfl rfl (m_X7_takes (N := N)  hF40 hxz44) rfl rfl rfl ?_
              refine Ev.heap (put_put (k := 93) (cs := (mdB γ 93 m_thrown m_trace m_text m_typed z38.1 z38.2.1 z38.2.2.1 z38.2.2.2.1 z38.2.2.2.2.1 z38.2.2.2.2.2.1 z38.2.2.2.2.2.2.1 z38.2.2.2.2.2.2.2.1 z38.2.2.2.2.2.2.2.2.1 z38.2.2.2.2.2.2.2.2.2 m_s m_w m_kept m_isKept m_undos m_undoMany m_foundMan m_foundHours m_foundIs m_foundMany m_row m_best)) (cs' := (mdB γ 93 m_thrown m_trace m_text m_typed z44.2.1 z44.2.2.1 z44.2.2.2.1 z44.2.2.2.2.1 z44.2.2.2.2.2 z38.2.2.2.2.2.1 z38.2.2.2.2.2.2.1 z38.2.2.2.2.2.2.2.1 z38.2.2.2.2.2.2.2.2.1 z38.2.2.2.2.2.2.2.2.2 m_s m_w m_kept m_isKept m_undos m_undoMany m_foundMan m_foundHours m_foundIs m_foundMany m_row m_best)) (show (16 : Nat) = 16 from rfl)) ?_
              refine E_pop dX7_depot_124 (q := 125) rfl rfl ?_
              refine E_iinc 2 [(1, .int (v1 + 1)), (2, .int z28.1), (0, .ref (gB γ + 93))] dX7_depot_125 (q := 128) rfl rfl rfl (Nat.le_of_ble_eq_true rfl) rfl ?_
              refine E_goto (q := 56) dX7_depot_128 (by decide) ?_
              exact E_sub [2, 0] rfl (hP _ (Option.some.inj hf).symm)
            · have hf := if_t c41 hf
              refine E_iconst (x := 1) dX7_depot_116 (q := 117) rfl (by decide) ?_
              refine E_goto (q := 121) dX7_depot_117 (by decide) ?_
              obtain ⟨z42, hxz42, hf⟩ := bnd hf
              refine E_cV (as := [.int 1]) (k := 93) (rest := []) (u' := (0, 0)) (st' := [.int z42.1]) dX7_depot_121 (q := 124) rfl lkm_X7_takes lkv_X7_93 (Nat.le_of_ble_eq_true rfl) ckX7 (hF40.at 0 rfl) (hF40.lt 0 (Nat.le_of_ble_eq_true rfl)) ⟨Nat.le_refl _, Nat.le_refl _⟩ (Nat.le_of_ble_eq_true rfl) rfl rfl (m_X7_takes (N := N)  hF40 hxz42) rfl rfl rfl ?_
              refine Ev.heap (put_put (k := 93) (cs := (mdB γ 93 m_thrown m_trace m_text m_typed z38.1 z38.2.1 z38.2.2.1 z38.2.2.2.1 z38.2.2.2.2.1 z38.2.2.2.2.2.1 z38.2.2.2.2.2.2.1 z38.2.2.2.2.2.2.2.1 z38.2.2.2.2.2.2.2.2.1 z38.2.2.2.2.2.2.2.2.2 m_s m_w m_kept m_isKept m_undos m_undoMany m_foundMan m_foundHours m_foundIs m_foundMany m_row m_best)) (cs' := (mdB γ 93 m_thrown m_trace m_text m_typed z42.2.1 z42.2.2.1 z42.2.2.2.1 z42.2.2.2.2.1 z42.2.2.2.2.2 z38.2.2.2.2.2.1 z38.2.2.2.2.2.2.1 z38.2.2.2.2.2.2.2.1 z38.2.2.2.2.2.2.2.2.1 z38.2.2.2.2.2.2.2.2.2 m_s m_w m_kept m_isKept m_undos m_undoMany m_foundMan m_foundHours m_foundIs m_foundMany m_row m_best)) (show (16 : Nat) = 16 from rfl)) ?_
              refine E_pop dX7_depot_124 (q := 125) rfl rfl ?_
              refine E_iinc 2 [(1, .int (v1 + 1)), (2, .int z28.1), (0, .ref (gB γ + 93))] dX7_depot_125 (q := 128) rfl rfl rfl (Nat.le_of_ble_eq_true rfl) rfl ?_
              refine E_goto (q := 56) dX7_depot_128 (by decide) ?_
              exact E_sub [2, 0] rfl (hP _ (Option.some.inj hf).symm)
        · have hf := if_f c27 hf
          refine E_iconst (x := 1) dX7_depot_86 (q := 87) rfl (by decide) ?_
          refine E_goto (q := 91) dX7_depot_87 (by decide) ?_
          obtain ⟨z46, hxz46, hf⟩ := bnd hf
          refine E_cV (as := [.int 1]) (k := 93) (rest := []) (u' := (0, 0)) (st' := [.int z46.1]) dX7_depot_91 (q := 94) rfl lkm_X7_takes lkv_X7_93 (Nat.le_of_ble_eq_true rfl) ckX7 (hF22.at 0 rfl) (hF22.lt 0 (Nat.le_of_ble_eq_true rfl)) ⟨Nat.le_refl _, Nat.le_refl _⟩ (Nat.le_of_ble_eq_true rfl) rfl rfl (m_X7_takes (N := N)  hF22 hxz46) rfl rfl rfl ?_
          refine Ev.heap (put_put (k := 93) (cs := (mdB γ 93 m_thrown m_trace m_text m_typed m_next m_token m_place m_value m_fault m_many m_sees m_cold m_first m_told m_s m_w m_kept m_isKept m_undos m_undoMany m_foundMan m_foundHours m_foundIs m_foundMany m_row m_best)) (cs' := (mdB γ 93 m_thrown m_trace m_text m_typed z46.2.1 z46.2.2.1 z46.2.2.2.1 z46.2.2.2.2.1 z46.2.2.2.2.2 m_many m_sees m_cold m_first m_told m_s m_w m_kept m_isKept m_undos m_undoMany m_foundMan m_foundHours m_foundIs m_foundMany m_row m_best)) (show (16 : Nat) = 16 from rfl)) ?_
          refine E_istore_n [(2, .int z46.1), (0, .ref (gB γ + 93)), (1, .int v1)] dX7_depot_94 (q := 95) rfl rfl (Nat.le_of_ble_eq_true rfl) rfl ?_
          refine E_aload_n 1 dX7_depot_95 (q := 96) rfl rfl rfl ?_
          obtain ⟨z48, hxz48, hf⟩ := bnd hf
          have hF49 : Has n 93 (mdB γ 93 m_thrown m_trace m_text m_typed z46.2.1 z46.2.2.1 z46.2.2.2.1 z46.2.2.2.2.1 z46.2.2.2.2.2 m_many m_sees m_cold m_first m_told m_s m_w m_kept m_isKept m_undos m_undoMany m_foundMan m_foundHours m_foundIs m_foundMany m_row m_best) (put 93 (mdB γ 93 m_thrown m_trace m_text m_typed z46.2.1 z46.2.2.1 z46.2.2.2.1 z46.2.2.2.2.1 z46.2.2.2.2.2 m_many m_sees m_cold m_first m_told m_s m_w m_kept m_isKept m_undos m_undoMany m_foundMan m_foundHours m_foundIs m_foundMany m_row m_best) h) := (has_put hn_m)
          refine E_cV (as := []) (k := 93) (rest := []) (u' := (0, 0)) (st' := [.int z48]) dX7_depot_96 (q := 99) rfl lkm_X7_isWell lkv_X7_86 (Nat.le_of_ble_eq_true rfl) ckX7 (hF49.at 0 rfl) (hF49.lt 0 (Nat.le_of_ble_eq_true rfl)) ⟨Nat.le_refl _, Nat.le_refl _⟩ (Nat.le_of_ble_eq_true rfl) rfl rfl (m_X7_isWell (N := N)  hF49 hxz48) rfl rfl rfl ?_
          refine E_if_eq dX7_depot_99 (t := 107) (by decide) (q := 102) rfl (fun c50 => ?_) (fun c50 => ?_)
          · have hf := if_t c50 hf
            refine E_aload_n 1 dX7_depot_107 (q := 108) rfl rfl rfl ?_
            refine E_aload_n 1 dX7_depot_108 (q := 109) rfl rfl rfl ?_
            refine E_get 5 dX7_depot_109 (q := 112) rfl ckX7 (Nat.le_of_ble_eq_true rfl) fl_X7_77 (hF49.at 0 rfl) (hF49.lt 0 (Nat.le_of_ble_eq_true rfl)) rfl ?_
            refine E_iconst (x := 3) dX7_depot_112 (q := 113) rfl (by decide) ?_
            refine E_icmp_ne dX7_depot_113 (t := 120) (by decide) (q := 116) rfl (fun c51 => ?_) (fun c51 => ?_)
            · have hf := if_f c51 hf
              refine E_iconst (x := 0) dX7_depot_120 (q := 121) rfl (by decide) ?_
              obtain ⟨z54, hxz54, hf⟩ := bnd hf
              refine E_cV (as := [.int 0]) (k := 93) (rest := []) (u' := (0, 0)) (st' := [.int z54.1]) dX7_depot_121 (q := 124) rfl lkm_X7_takes lkv_X7_93 (Nat.le_of_ble_eq_true rfl) ckX7 (hF49.at 0 rfl) (hF49.lt 0 (Nat.le_of_ble_eq_true rfl)) ⟨Nat.le_refl _, Nat.le_refl _⟩ (Nat.le_of_ble_eq_true rfl) rfl rfl (m_X7_takes (N := N)  hF49 hxz54) rfl rfl rfl ?_
              refine Ev.heap (put_put (k := 93) (cs := (mdB γ 93 m_thrown m_trace m_text m_typed z46.2.1 z46.2.2.1 z46.2.2.2.1 z46.2.2.2.2.1 z46.2.2.2.2.2 m_many m_sees m_cold m_first m_told m_s m_w m_kept m_isKept m_undos m_undoMany m_foundMan m_foundHours m_foundIs m_foundMany m_row m_best)) (cs' := (mdB γ 93 m_thrown m_trace m_text m_typed z54.2.1 z54.2.2.1 z54.2.2.2.1 z54.2.2.2.2.1 z54.2.2.2.2.2 m_many m_sees m_cold m_first m_told m_s m_w m_kept m_isKept m_undos m_undoMany m_foundMan m_foundHours m_foundIs m_foundMany m_row m_best)) (show (16 : Nat) = 16 from rfl)) ?_
              refine E_pop dX7_depot_124 (q := 125) rfl rfl ?_
              refine E_iinc 2 [(1, .int (v1 + 1)), (2, .int z46.1), (0, .ref (gB γ + 93))] dX7_depot_125 (q := 128) rfl rfl rfl (Nat.le_of_ble_eq_true rfl) rfl ?_
              refine E_goto (q := 56) dX7_depot_128 (by decide) ?_
              exact E_sub [2, 0] rfl (hP _ (Option.some.inj hf).symm)
            · have hf := if_t c51 hf
              refine E_iconst (x := 1) dX7_depot_116 (q := 117) rfl (by decide) ?_
              refine E_goto (q := 121) dX7_depot_117 (by decide) ?_
              obtain ⟨z52, hxz52, hf⟩ := bnd hf
              refine E_cV (as := [.int 1]) (k := 93) (rest := []) (u' := (0, 0)) (st' := [.int z52.1]) dX7_depot_121 (q := 124) rfl lkm_X7_takes lkv_X7_93 (Nat.le_of_ble_eq_true rfl) ckX7 (hF49.at 0 rfl) (hF49.lt 0 (Nat.le_of_ble_eq_true rfl)) ⟨Nat.le_refl _, Nat.le_refl _⟩ (Nat.le_of_ble_eq_true rfl) rfl rfl (m_X7_takes (N := N)  hF49 hxz52) rfl rfl rfl ?_
              refine Ev.heap (put_put (k := 93) (cs := (mdB γ 93 m_thrown m_trace m_text m_typed z46.2.1 z46.2.2.1 z46.2.2.2.1 z46.2.2.2.2.1 z46.2.2.2.2.2 m_many m_sees m_cold m_first m_told m_s m_w m_kept m_isKept m_undos m_undoMany m_foundMan m_foundHours m_foundIs m_foundMany m_row m_best)) (cs' := (mdB γ 93 m_thrown m_trace m_text m_typed z52.2.1 z52.2.2.1 z52.2.2.2.1 z52.2.2.2.2.1 z52.2.2.2.2.2 m_many m_sees m_cold m_first m_told m_s m_w m_kept m_isKept m_undos m_undoMany m_foundMan m_foundHours m_foundIs m_foundMany m_row m_best)) (show (16 : Nat) = 16 from rfl)) ?_
              refine E_pop dX7_depot_124 (q := 125) rfl rfl ?_
              refine E_iinc 2 [(1, .int (v1 + 1)), (2, .int z46.1), (0, .ref (gB γ + 93))] dX7_depot_125 (q := 128) rfl rfl rfl (Nat.le_of_ble_eq_true rfl) rfl ?_
              refine E_goto (q := 56) dX7_depot_128 (by decide) ?_
              exact E_sub [2, 0] rfl (hP _ (Option.some.inj hf).symm)
          · have hf := if_f c50 hf
            refine E_aload_n 1 dX7_depot_102 (q := 103) rfl rfl rfl ?_
            refine E_iload_n 0 dX7_depot_103 (q := 104) rfl rfl rfl ?_
            obtain ⟨z56, hxz56, hf⟩ := bnd hf
            refine E_cV (as := [.int z46.1]) (k := 93) (rest := []) (u' := (0, 0)) (st' := []) dX7_depot_104 (q := 107) rfl lkm_X7_readsItem lkv_X7_107 (Nat.le_of_ble_eq_true rfl) ckX7 (hF49.at 0 rfl) (hF49.lt 0 (Nat.le_of_ble_eq_true rfl)) ⟨Nat.le_refl _, Nat.le_refl _⟩ (Nat.le_of_ble_eq_true rfl) rfl rfl (m_X7_readsItem (N := N)  hF49 hxz56) rfl rfl rfl ?_
            refine Ev.heap (put_put (k := 93) (cs := (mdB γ 93 m_thrown m_trace m_text m_typed z46.2.1 z46.2.2.1 z46.2.2.2.1 z46.2.2.2.2.1 z46.2.2.2.2.2 m_many m_sees m_cold m_first m_told m_s m_w m_kept m_isKept m_undos m_undoMany m_foundMan m_foundHours m_foundIs m_foundMany m_row m_best)) (cs' := (mdB γ 93 m_thrown m_trace m_text m_typed z56.1 z56.2.1 z56.2.2.1 z56.2.2.2.1 z56.2.2.2.2.1 z56.2.2.2.2.2.1 z56.2.2.2.2.2.2.1 z56.2.2.2.2.2.2.2.1 z56.2.2.2.2.2.2.2.2.1 z56.2.2.2.2.2.2.2.2.2 m_s m_w m_kept m_isKept m_undos m_undoMany m_foundMan m_foundHours m_foundIs m_foundMany m_row m_best)) (show (16 : Nat) = 16 from rfl)) ?_
            refine E_aload_n 1 dX7_depot_107 (q := 108) rfl rfl rfl ?_
            refine E_aload_n 1 dX7_depot_108 (q := 109) rfl rfl rfl ?_
            have hF58 : Has n 93 (mdB γ 93 m_thrown m_trace m_text m_typed z56.1 z56.2.1 z56.2.2.1 z56.2.2.2.1 z56.2.2.2.2.1 z56.2.2.2.2.2.1 z56.2.2.2.2.2.2.1 z56.2.2.2.2.2.2.2.1 z56.2.2.2.2.2.2.2.2.1 z56.2.2.2.2.2.2.2.2.2 m_s m_w m_kept m_isKept m_undos m_undoMany m_foundMan m_foundHours m_foundIs m_foundMany m_row m_best) (put 93 (mdB γ 93 m_thrown m_trace m_text m_typed z56.1 z56.2.1 z56.2.2.1 z56.2.2.2.1 z56.2.2.2.2.1 z56.2.2.2.2.2.1 z56.2.2.2.2.2.2.1 z56.2.2.2.2.2.2.2.1 z56.2.2.2.2.2.2.2.2.1 z56.2.2.2.2.2.2.2.2.2 m_s m_w m_kept m_isKept m_undos m_undoMany m_foundMan m_foundHours m_foundIs m_foundMany m_row m_best) h) := (has_put hn_m)
            refine E_get 5 dX7_depot_109 (q := 112) rfl ckX7 (Nat.le_of_ble_eq_true rfl) fl_X7_77 (hF58.at 0 rfl) (hF58.lt 0 (Nat.le_of_ble_eq_true rfl)) rfl ?_
            refine E_iconst (x := 3) dX7_depot_112 (q := 113) rfl (by decide) ?_
            refine E_icmp_ne dX7_depot_113 (t := 120) (by decide) (q := 116) rfl (fun c59 => ?_) (fun c59 => ?_)
            · have hf := if_f c59 hf
              refine E_iconst (x := 0) dX7_depot_120 (q := 121) rfl (by decide) ?_
              obtain ⟨z62, hxz62, hf⟩ := bnd hf
              refine E_cV (as := [.int 0]) (k := 93) (rest := []) (u' := (0, 0)) (st' := [.int z62.1]) dX7_depot_121 (q := 124) rfl lkm_X7_takes lkv_X7_93 (Nat.le_of_ble_eq_true rfl) ckX7 (hF58.at 0 rfl) (hF58.lt 0 (Nat.le_of_ble_eq_true rfl)) ⟨Nat.le_refl _, Nat.le_refl _⟩ (Nat.le_of_ble_eq_true rfl) rfl rfl (m_X7_takes (N := N)  hF58 hxz62) rfl rfl rfl ?_
              refine Ev.heap (put_put (k := 93) (cs := (mdB γ 93 m_thrown m_trace m_text m_typed z56.1 z56.2.1 z56.2.2.1 z56.2.2.2.1 z56.2.2.2.2.1 z56.2.2.2.2.2.1 z56.2.2.2.2.2.2.1 z56.2.2.2.2.2.2.2.1 z56.2.2.2.2.2.2.2.2.1 z56.2.2.2.2.2.2.2.2.2 m_s m_w m_kept m_isKept m_undos m_undoMany m_foundMan m_foundHours m_foundIs m_foundMany m_row m_best)) (cs' := (mdB γ 93 m_thrown m_trace m_text m_typed z62.2.1 z62.2.2.1 z62.2.2.2.1 z62.2.2.2.2.1 z62.2.2.2.2.2 z56.2.2.2.2.2.1 z56.2.2.2.2.2.2.1 z56.2.2.2.2.2.2.2.1 z56.2.2.2.2.2.2.2.2.1 z56.2.2.2.2.2.2.2.2.2 m_s m_w m_kept m_isKept m_undos m_undoMany m_foundMan m_foundHours m_foundIs m_foundMany m_row m_best)) (show (16 : Nat) = 16 from rfl)) ?_
              refine E_pop dX7_depot_124 (q := 125) rfl rfl ?_
              refine E_iinc 2 [(1, .int (v1 + 1)), (2, .int z46.1), (0, .ref (gB γ + 93))] dX7_depot_125 (q := 128) rfl rfl rfl (Nat.le_of_ble_eq_true rfl) rfl ?_
              refine E_goto (q := 56) dX7_depot_128 (by decide) ?_
              exact E_sub [2, 0] rfl (hP _ (Option.some.inj hf).symm)
            · have hf := if_t c59 hf
              refine E_iconst (x := 1) dX7_depot_116 (q := 117) rfl (by decide) ?_
              refine E_goto (q := 121) dX7_depot_117 (by decide) ?_
              obtain ⟨z60, hxz60, hf⟩ := bnd hf
              refine E_cV (as := [.int 1]) (k := 93) (rest := []) (u' := (0, 0)) (st' := [.int z60.1]) dX7_depot_121 (q := 124) rfl lkm_X7_takes lkv_X7_93 (Nat.le_of_ble_eq_true rfl) ckX7 (hF58.at 0 rfl) (hF58.lt 0 (Nat.le_of_ble_eq_true rfl)) ⟨Nat.le_refl _, Nat.le_refl _⟩ (Nat.le_of_ble_eq_true rfl) rfl rfl (m_X7_takes (N := N)  hF58 hxz60) rfl rfl rfl ?_
              refine Ev.heap (put_put (k := 93) (cs := (mdB γ 93 m_thrown m_trace m_text m_typed z56.1 z56.2.1 z56.2.2.1 z56.2.2.2.1 z56.2.2.2.2.1 z56.2.2.2.2.2.1 z56.2.2.2.2.2.2.1 z56.2.2.2.2.2.2.2.1 z56.2.2.2.2.2.2.2.2.1 z56.2.2.2.2.2.2.2.2.2 m_s m_w m_kept m_isKept m_undos m_undoMany m_foundMan m_foundHours m_foundIs m_foundMany m_row m_best)) (cs' := (mdB γ 93 m_thrown m_trace m_text m_typed z60.2.1 z60.2.2.1 z60.2.2.2.1 z60.2.2.2.2.1 z60.2.2.2.2.2 z56.2.2.2.2.2.1 z56.2.2.2.2.2.2.1 z56.2.2.2.2.2.2.2.1 z56.2.2.2.2.2.2.2.2.1 z56.2.2.2.2.2.2.2.2.2 m_s m_w m_kept m_isKept m_undos m_undoMany m_foundMan m_foundHours m_foundIs m_foundMany m_row m_best)) (show (16 : Nat) = 16 from rfl)) ?_
              refine E_pop dX7_depot_124 (q := 125) rfl rfl ?_
              refine E_iinc 2 [(1, .int (v1 + 1)), (2, .int z46.1), (0, .ref (gB γ + 93))] dX7_depot_125 (q := 128) rfl rfl rfl (Nat.le_of_ble_eq_true rfl) rfl ?_
              refine E_goto (q := 56) dX7_depot_128 (by decide) ?_
              exact E_sub [2, 0] rfl (hP _ (Option.some.inj hf).symm)
set_option maxHeartbeats 4000000 in
set_option maxRecDepth 100000 in
theorem m_X7_depot {γ : GX} {n : Nat} {N : Nat} {h : HP} {m_thrown : Int32} {m_trace : Int64} {m_text : FN} {m_typed : Int32} {m_next : Int32} {m_token : Int32} {m_place : Int32} {m_value : Int32} {m_fault : Int32} {m_many : FN} {m_sees : FN} {m_cold : FN} {m_first : FN} {m_told : Int32} {m_s : FN} {m_w : FN} {m_kept : FN} {m_isKept : FN} {m_undos : FN} {m_undoMany : Int32} {m_foundMan : FN} {m_foundHours : FN} {m_foundIs : FN} {m_foundMany : Int32} {m_row : FN} {m_best : FN} (hH_m : Has n 93 (mdB γ 93 m_thrown m_trace m_text m_typed m_next m_token m_place m_value m_fault m_many m_sees m_cold m_first m_told m_s m_w m_kept m_isKept m_undos m_undoMany m_foundMan m_foundHours m_foundIs m_foundMany m_row m_best) h) {z : Int32 × Int32 × Int32 × Int32 × Int32 × Int32 × Int32 × Int32 × FN × FN × FN × FN × Int32 × FN × FN × Int32 × Int32} (hf : f_X7_depot N m_thrown m_text m_typed m_next m_token m_place m_value m_fault m_many m_sees m_cold m_first m_told m_s m_isKept m_undoMany m_foundMany = some z)  : Ct γ M_X7_depot n h [.ref (gB γ + 93)] (Done (some (.int z.1)) n (put 93 (mdB γ 93 z.2.1 m_trace m_text z.2.2.1 z.2.2.2.1 z.2.2.2.2.1 z.2.2.2.2.2.1 z.2.2.2.2.2.2.1 z.2.2.2.2.2.2.2.1 z.2.2.2.2.2.2.2.2.1 z.2.2.2.2.2.2.2.2.2.1 z.2.2.2.2.2.2.2.2.2.2.1 z.2.2.2.2.2.2.2.2.2.2.2.1 z.2.2.2.2.2.2.2.2.2.2.2.2.1 z.2.2.2.2.2.2.2.2.2.2.2.2.2.1 m_w m_kept z.2.2.2.2.2.2.2.2.2.2.2.2.2.2.1 m_undos z.2.2.2.2.2.2.2.2.2.2.2.2.2.2.2.1 m_foundMan m_foundHours m_foundIs z.2.2.2.2.2.2.2.2.2.2.2.2.2.2.2.2 m_row m_best) h)) := by
  have hn_m : 93 + 16 ≤ n := hH_m.1
  refine Ct.heap (h := (put 93 (mdB γ 93 m_thrown m_trace m_text m_typed m_next m_token m_place m_value m_fault m_many m_sees m_cold m_first m_told m_s m_w m_kept m_isKept m_undos m_undoMany m_foundMan m_foundHours m_foundIs m_foundMany m_row m_best) h)) (put_self hH_m).symm ?_
  refine Ct_of_Ev (by decide) (fun h => by cases h) (Nat.le_of_ble_eq_true rfl) ?_
  show Ev γ M_X7_depot (0, 0) n (put 93 (mdB γ 93 m_thrown m_trace m_text m_typed m_next m_token m_place m_value m_fault m_many m_sees m_cold m_first m_told m_s m_w m_kept m_isKept m_undos m_undoMany m_foundMan m_foundHours m_foundIs m_foundMany m_row m_best) h) [(0, .ref (gB γ + 93))] 0 [] _
  unfold f_X7_depot at hf
  refine E_aload_n 0 dX7_depot_0 (q := 1) rfl rfl rfl ?_
  refine E_iconst (x := 0) dX7_depot_1 (q := 2) rfl (by decide) ?_
  have hF1 : Has n 93 (mdB γ 93 m_thrown m_trace m_text m_typed m_next m_token m_place m_value m_fault m_many m_sees m_cold m_first m_told m_s m_w m_kept m_isKept m_undos m_undoMany m_foundMan m_foundHours m_foundIs m_foundMany m_row m_best) (put 93 (mdB γ 93 m_thrown m_trace m_text m_typed m_next m_token m_place m_value m_fault m_many m_sees m_cold m_first m_told m_s m_w m_kept m_isKept m_undos m_undoMany m_foundMan m_foundHours m_foundIs m_foundMany m_row m_best) h) := (has_put hn_m)
  refine E_put 0 dX7_depot_2 (q := 5) rfl ckX7 (Nat.le_of_ble_eq_true rfl) fl_X7_56 rfl rfl rfl (hF1.at 0 rfl) (hF1.lt 0 (Nat.le_of_ble_eq_true rfl)) (Nat.le_of_ble_eq_true rfl) (up_put (i := 0) (cs' := (mdB γ 93 0 m_trace m_text m_typed m_next m_token m_place m_value m_fault m_many m_sees m_cold m_first m_told m_s m_w m_kept m_isKept m_undos m_undoMany m_foundMan m_foundHours m_foundIs m_foundMany m_row m_best)) (Nat.le_of_ble_eq_true rfl) rfl) ?_
  refine E_aload_n 0 dX7_depot_5 (q := 6) rfl rfl rfl ?_
  refine E_iconst (x := (-1)) dX7_depot_6 (q := 7) rfl (by decide) ?_
  have hF3 : Has n 93 (mdB γ 93 0 m_trace m_text m_typed m_next m_token m_place m_value m_fault m_many m_sees m_cold m_first m_told m_s m_w m_kept m_isKept m_undos m_undoMany m_foundMan m_foundHours m_foundIs m_foundMany m_row m_best) (put 93 (mdB γ 93 0 m_trace m_text m_typed m_next m_token m_place m_value m_fault m_many m_sees m_cold m_first m_told m_s m_w m_kept m_isKept m_undos m_undoMany m_foundMan m_foundHours m_foundIs m_foundMany m_row m_best) h) := (has_put hn_m)
  refine E_put 8 dX7_depot_7 (q := 10) rfl ckX7 (Nat.le_of_ble_eq_true rfl) fl_X7_83 rfl rfl rfl (hF3.at 0 rfl) (hF3.lt 0 (Nat.le_of_ble_eq_true rfl)) (Nat.le_of_ble_eq_true rfl) (up_put (i := 0) (cs' := (mdB γ 93 0 m_trace m_text m_typed m_next m_token m_place m_value (-1) m_many m_sees m_cold m_first m_told m_s m_w m_kept m_isKept m_undos m_undoMany m_foundMan m_foundHours m_foundIs m_foundMany m_row m_best)) (Nat.le_of_ble_eq_true rfl) rfl) ?_
  refine E_aload_n 0 dX7_depot_10 (q := 11) rfl rfl rfl ?_
  refine E_iconst (x := 0) dX7_depot_11 (q := 12) rfl (by decide) ?_
  have hF5 : Has n 93 (mdB γ 93 0 m_trace m_text m_typed m_next m_token m_place m_value (-1) m_many m_sees m_cold m_first m_told m_s m_w m_kept m_isKept m_undos m_undoMany m_foundMan m_foundHours m_foundIs m_foundMany m_row m_best) (put 93 (mdB γ 93 0 m_trace m_text m_typed m_next m_token m_place m_value (-1) m_many m_sees m_cold m_first m_told m_s m_w m_kept m_isKept m_undos m_undoMany m_foundMan m_foundHours m_foundIs m_foundMany m_row m_best) h) := (has_put hn_m)
  refine E_put 4 dX7_depot_12 (q := 15) rfl ckX7 (Nat.le_of_ble_eq_true rfl) fl_X7_67 rfl rfl rfl (hF5.at 0 rfl) (hF5.lt 0 (Nat.le_of_ble_eq_true rfl)) (Nat.le_of_ble_eq_true rfl) (up_put (i := 0) (cs' := (mdB γ 93 0 m_trace m_text m_typed 0 m_token m_place m_value (-1) m_many m_sees m_cold m_first m_told m_s m_w m_kept m_isKept m_undos m_undoMany m_foundMan m_foundHours m_foundIs m_foundMany m_row m_best)) (Nat.le_of_ble_eq_true rfl) rfl) ?_
  refine E_aload_n 0 dX7_depot_15 (q := 16) rfl rfl rfl ?_
  refine E_iconst (x := 0) dX7_depot_16 (q := 17) rfl (by decide) ?_
  have hF7 : Has n 93 (mdB γ 93 0 m_trace m_text m_typed 0 m_token m_place m_value (-1) m_many m_sees m_cold m_first m_told m_s m_w m_kept m_isKept m_undos m_undoMany m_foundMan m_foundHours m_foundIs m_foundMany m_row m_best) (put 93 (mdB γ 93 0 m_trace m_text m_typed 0 m_token m_place m_value (-1) m_many m_sees m_cold m_first m_told m_s m_w m_kept m_isKept m_undos m_undoMany m_foundMan m_foundHours m_foundIs m_foundMany m_row m_best) h) := (has_put hn_m)
  refine E_put 13 dX7_depot_17 (q := 20) rfl ckX7 (Nat.le_of_ble_eq_true rfl) fl_X7_97 rfl rfl rfl (hF7.at 0 rfl) (hF7.lt 0 (Nat.le_of_ble_eq_true rfl)) (Nat.le_of_ble_eq_true rfl) (up_put (i := 0) (cs' := (mdB γ 93 0 m_trace m_text m_typed 0 m_token m_place m_value (-1) m_many m_sees m_cold m_first 0 m_s m_w m_kept m_isKept m_undos m_undoMany m_foundMan m_foundHours m_foundIs m_foundMany m_row m_best)) (Nat.le_of_ble_eq_true rfl) rfl) ?_
  refine E_aload_n 0 dX7_depot_20 (q := 21) rfl rfl rfl ?_
  have hF9 : Has n 93 (mdB γ 93 0 m_trace m_text m_typed 0 m_token m_place m_value (-1) m_many m_sees m_cold m_first 0 m_s m_w m_kept m_isKept m_undos m_undoMany m_foundMan m_foundHours m_foundIs m_foundMany m_row m_best) (put 93 (mdB γ 93 0 m_trace m_text m_typed 0 m_token m_place m_value (-1) m_many m_sees m_cold m_first 0 m_s m_w m_kept m_isKept m_undos m_undoMany m_foundMan m_foundHours m_foundIs m_foundMany m_row m_best) h) := (has_put hn_m)
  refine E_get 9 dX7_depot_21 (q := 24) rfl ckX7 (Nat.le_of_ble_eq_true rfl) fl_X7_13 (hF9.at 0 rfl) (hF9.lt 0 (Nat.le_of_ble_eq_true rfl)) rfl ?_
  refine E_iconst (x := 4) dX7_depot_24 (q := 25) rfl (by decide) ?_
  refine E_iconst (x := 0) dX7_depot_25 (q := 26) rfl (by decide) ?_
  refine E_iast dX7_depot_26 (q := 27) rfl (hF9.at 2 rfl) (hF9.lt 2 (Nat.le_of_ble_eq_true rfl)) (by decide +kernel) (up_put (i := 2) (cs' := (mdB γ 93 0 m_trace m_text m_typed 0 m_token m_place m_value (-1) (upd m_many (ci 4) 0) m_sees m_cold m_first 0 m_s m_w m_kept m_isKept m_undos m_undoMany m_foundMan m_foundHours m_foundIs m_foundMany m_row m_best)) (Nat.le_of_ble_eq_true rfl) rfl) ?_
  refine E_aload_n 0 dX7_depot_27 (q := 28) rfl rfl rfl ?_
  have hF11 : Has n 93 (mdB γ 93 0 m_trace m_text m_typed 0 m_token m_place m_value (-1) (upd m_many (ci 4) 0) m_sees m_cold m_first 0 m_s m_w m_kept m_isKept m_undos m_undoMany m_foundMan m_foundHours m_foundIs m_foundMany m_row m_best) (put 93 (mdB γ 93 0 m_trace m_text m_typed 0 m_token m_place m_value (-1) (upd m_many (ci 4) 0) m_sees m_cold m_first 0 m_s m_w m_kept m_isKept m_undos m_undoMany m_foundMan m_foundHours m_foundIs m_foundMany m_row m_best) h) := (has_put hn_m)
  refine E_get 9 dX7_depot_28 (q := 31) rfl ckX7 (Nat.le_of_ble_eq_true rfl) fl_X7_13 (hF11.at 0 rfl) (hF11.lt 0 (Nat.le_of_ble_eq_true rfl)) rfl ?_
  refine E_iconst (x := 5) dX7_depot_31 (q := 32) rfl (by decide) ?_
  refine E_iconst (x := 0) dX7_depot_32 (q := 33) rfl (by decide) ?_
  refine E_iast dX7_depot_33 (q := 34) rfl (hF11.at 2 rfl) (hF11.lt 2 (Nat.le_of_ble_eq_true rfl)) (by decide +kernel) (up_put (i := 2) (cs' := (mdB γ 93 0 m_trace m_text m_typed 0 m_token m_place m_value (-1) (upd (upd m_many (ci 4) 0) (ci 5) 0) m_sees m_cold m_first 0 m_s m_w m_kept m_isKept m_undos m_undoMany m_foundMan m_foundHours m_foundIs m_foundMany m_row m_best)) (Nat.le_of_ble_eq_true rfl) rfl) ?_
  refine E_aload_n 0 dX7_depot_34 (q := 35) rfl rfl rfl ?_
  have hF13 : Has n 93 (mdB γ 93 0 m_trace m_text m_typed 0 m_token m_place m_value (-1) (upd (upd m_many (ci 4) 0) (ci 5) 0) m_sees m_cold m_first 0 m_s m_w m_kept m_isKept m_undos m_undoMany m_foundMan m_foundHours m_foundIs m_foundMany m_row m_best) (put 93 (mdB γ 93 0 m_trace m_text m_typed 0 m_token m_place m_value (-1) (upd (upd m_many (ci 4) 0) (ci 5) 0) m_sees m_cold m_first 0 m_s m_w m_kept m_isKept m_undos m_undoMany m_foundMan m_foundHours m_foundIs m_foundMany m_row m_best) h) := (has_put hn_m)
  refine E_get 9 dX7_depot_35 (q := 38) rfl ckX7 (Nat.le_of_ble_eq_true rfl) fl_X7_13 (hF13.at 0 rfl) (hF13.lt 0 (Nat.le_of_ble_eq_true rfl)) rfl ?_
  refine E_bipush (x := 6) dX7_depot_38 (q := 40) rfl (by decide) ?_
  refine E_iconst (x := 2) dX7_depot_40 (q := 41) rfl (by decide) ?_
  refine E_iast dX7_depot_41 (q := 42) rfl (hF13.at 2 rfl) (hF13.lt 2 (Nat.le_of_ble_eq_true rfl)) (by decide +kernel) (up_put (i := 2) (cs' := (mdB γ 93 0 m_trace m_text m_typed 0 m_token m_place m_value (-1) (upd (upd (upd m_many (ci 4) 0) (ci 5) 0) (ci 6) 2) m_sees m_cold m_first 0 m_s m_w m_kept m_isKept m_undos m_undoMany m_foundMan m_foundHours m_foundIs m_foundMany m_row m_best)) (Nat.le_of_ble_eq_true rfl) rfl) ?_
  refine E_aload_n 0 dX7_depot_42 (q := 43) rfl rfl rfl ?_
  have hF15 : Has n 93 (mdB γ 93 0 m_trace m_text m_typed 0 m_token m_place m_value (-1) (upd (upd (upd m_many (ci 4) 0) (ci 5) 0) (ci 6) 2) m_sees m_cold m_first 0 m_s m_w m_kept m_isKept m_undos m_undoMany m_foundMan m_foundHours m_foundIs m_foundMany m_row m_best) (put 93 (mdB γ 93 0 m_trace m_text m_typed 0 m_token m_place m_value (-1) (upd (upd (upd m_many (ci 4) 0) (ci 5) 0) (ci 6) 2) m_sees m_cold m_first 0 m_s m_w m_kept m_isKept m_undos m_undoMany m_foundMan m_foundHours m_foundIs m_foundMany m_row m_best) h) := (has_put hn_m)
  refine E_get 9 dX7_depot_43 (q := 46) rfl ckX7 (Nat.le_of_ble_eq_true rfl) fl_X7_13 (hF15.at 0 rfl) (hF15.lt 0 (Nat.le_of_ble_eq_true rfl)) rfl ?_
  refine E_bipush (x := 7) dX7_depot_46 (q := 48) rfl (by decide) ?_
  refine E_iconst (x := 3) dX7_depot_48 (q := 49) rfl (by decide) ?_
  refine E_iast dX7_depot_49 (q := 50) rfl (hF15.at 2 rfl) (hF15.lt 2 (Nat.le_of_ble_eq_true rfl)) (by decide +kernel) (up_put (i := 2) (cs' := (mdB γ 93 0 m_trace m_text m_typed 0 m_token m_place m_value (-1) (upd (upd (upd (upd m_many (ci 4) 0) (ci 5) 0) (ci 6) 2) (ci 7) 3) m_sees m_cold m_first 0 m_s m_w m_kept m_isKept m_undos m_undoMany m_foundMan m_foundHours m_foundIs m_foundMany m_row m_best)) (Nat.le_of_ble_eq_true rfl) rfl) ?_
  refine E_iconst (x := 0) dX7_depot_50 (q := 51) rfl (by decide) ?_
  refine E_istore_n [(1, .int 0), (0, .ref (gB γ + 93))] dX7_depot_51 (q := 52) rfl rfl (Nat.le_of_ble_eq_true rfl) rfl ?_
  refine E_aload_n 1 dX7_depot_52 (q := 53) rfl rfl rfl ?_
  obtain ⟨z17, hxz17, hf⟩ := bnd hf
  have hF18 : Has n 93 (mdB γ 93 0 m_trace m_text m_typed 0 m_token m_place m_value (-1) (upd (upd (upd (upd m_many (ci 4) 0) (ci 5) 0) (ci 6) 2) (ci 7) 3) m_sees m_cold m_first 0 m_s m_w m_kept m_isKept m_undos m_undoMany m_foundMan m_foundHours m_foundIs m_foundMany m_row m_best) (put 93 (mdB γ 93 0 m_trace m_text m_typed 0 m_token m_place m_value (-1) (upd (upd (upd (upd m_many (ci 4) 0) (ci 5) 0) (ci 6) 2) (ci 7) 3) m_sees m_cold m_first 0 m_s m_w m_kept m_isKept m_undos m_undoMany m_foundMan m_foundHours m_foundIs m_foundMany m_row m_best) h) := (has_put hn_m)
  refine E_cV (as := []) (k := 93) (rest := []) (u' := (0, 0)) (st' := []) dX7_depot_53 (q := 56) rfl lkm_X7_advances lkv_X7_90 (Nat.le_of_ble_eq_true rfl) ckX7 (hF18.at 0 rfl) (hF18.lt 0 (Nat.le_of_ble_eq_true rfl)) ⟨Nat.le_refl _, Nat.le_refl _⟩ (Nat.le_of_ble_eq_true rfl) rfl rfl (m_X7_advances (N := N)  hF18 hxz17) rfl rfl rfl ?_
  refine Ev.heap (put_put (k := 93) (cs := (mdB γ 93 0 m_trace m_text m_typed 0 m_token m_place m_value (-1) (upd (upd (upd (upd m_many (ci 4) 0) (ci 5) 0) (ci 6) 2) (ci 7) 3) m_sees m_cold m_first 0 m_s m_w m_kept m_isKept m_undos m_undoMany m_foundMan m_foundHours m_foundIs m_foundMany m_row m_best)) (cs' := (mdB γ 93 0 m_trace m_text m_typed z17.1 z17.2.1 z17.2.2.1 z17.2.2.2 (-1) (upd (upd (upd (upd m_many (ci 4) 0) (ci 5) 0) (ci 6) 2) (ci 7) 3) m_sees m_cold m_first 0 m_s m_w m_kept m_isKept m_undos m_undoMany m_foundMan m_foundHours m_foundIs m_foundMany m_row m_best)) (show (16 : Nat) = 16 from rfl)) ?_
  obtain ⟨t82, hxt82, hf⟩ := bnd hf
  refine E_sub [1, 0] rfl ?_
  refine L_X7_depot_1 hn_m hxt82 ?_
  show Ev γ M_X7_depot _ n (put 93 (mdB γ 93 0 m_trace m_text m_typed t82.2.1 t82.2.2.1 t82.2.2.2.1 t82.2.2.2.2.1 t82.2.2.2.2.2.1 t82.2.2.2.2.2.2.1 t82.2.2.2.2.2.2.2.1 t82.2.2.2.2.2.2.2.2.1 t82.2.2.2.2.2.2.2.2.2.1 t82.2.2.2.2.2.2.2.2.2.2 m_s m_w m_kept m_isKept m_undos m_undoMany m_foundMan m_foundHours m_foundIs m_foundMany m_row m_best) h) [(0, .ref (gB γ + 93)), (1, .int t82.1)] 131 [] _
  refine E_aload_n 0 dX7_depot_131 (q := 132) rfl rfl rfl ?_
  obtain ⟨z84, hxz84, hf⟩ := bnd hf
  have hF85 : Has n 93 (mdB γ 93 0 m_trace m_text m_typed t82.2.1 t82.2.2.1 t82.2.2.2.1 t82.2.2.2.2.1 t82.2.2.2.2.2.1 t82.2.2.2.2.2.2.1 t82.2.2.2.2.2.2.2.1 t82.2.2.2.2.2.2.2.2.1 t82.2.2.2.2.2.2.2.2.2.1 t82.2.2.2.2.2.2.2.2.2.2 m_s m_w m_kept m_isKept m_undos m_undoMany m_foundMan m_foundHours m_foundIs m_foundMany m_row m_best) (put 93 (mdB γ 93 0 m_trace m_text m_typed t82.2.1 t82.2.2.1 t82.2.2.2.1 t82.2.2.2.2.1 t82.2.2.2.2.2.1 t82.2.2.2.2.2.2.1 t82.2.2.2.2.2.2.2.1 t82.2.2.2.2.2.2.2.2.1 t82.2.2.2.2.2.2.2.2.2.1 t82.2.2.2.2.2.2.2.2.2.2 m_s m_w m_kept m_isKept m_undos m_undoMany m_foundMan m_foundHours m_foundIs m_foundMany m_row m_best) h) := (has_put hn_m)
  refine E_cV (as := []) (k := 93) (rest := []) (u' := (0, 0)) (st' := [.int z84]) dX7_depot_132 (q := 135) rfl lkm_X7_isWell lkv_X7_86 (Nat.le_of_ble_eq_true rfl) ckX7 (hF85.at 0 rfl) (hF85.lt 0 (Nat.le_of_ble_eq_true rfl)) ⟨Nat.le_refl _, Nat.le_refl _⟩ (Nat.le_of_ble_eq_true rfl) rfl rfl (m_X7_isWell (N := N)  hF85 hxz84) rfl rfl rfl ?_
  refine E_if_ne dX7_depot_135 (t := 146) (by decide) (q := 138) rfl (fun c86 => ?_) (fun c86 => ?_)
  · have hf := if_f c86 hf
    refine E_aload_n 0 dX7_depot_146 (q := 147) rfl rfl rfl ?_
    obtain ⟨z87, hxz87, hf⟩ := bnd hf
    refine E_cV (as := []) (k := 93) (rest := []) (u' := (0, 0)) (st' := []) dX7_depot_147 (q := 150) rfl lkm_X7_settles lkv_X7_111 (Nat.le_of_ble_eq_true rfl) ckX7 (hF85.at 0 rfl) (hF85.lt 0 (Nat.le_of_ble_eq_true rfl)) ⟨Nat.le_refl _, Nat.le_refl _⟩ (Nat.le_of_ble_eq_true rfl) rfl rfl (m_X7_settles (N := N)  hF85 hxz87) rfl rfl rfl ?_
    refine Ev.heap (put_put (k := 93) (cs := (mdB γ 93 0 m_trace m_text m_typed t82.2.1 t82.2.2.1 t82.2.2.2.1 t82.2.2.2.2.1 t82.2.2.2.2.2.1 t82.2.2.2.2.2.2.1 t82.2.2.2.2.2.2.2.1 t82.2.2.2.2.2.2.2.2.1 t82.2.2.2.2.2.2.2.2.2.1 t82.2.2.2.2.2.2.2.2.2.2 m_s m_w m_kept m_isKept m_undos m_undoMany m_foundMan m_foundHours m_foundIs m_foundMany m_row m_best)) (cs' := (mdB γ 93 0 m_trace m_text z87.1 t82.2.1 t82.2.2.1 t82.2.2.2.1 t82.2.2.2.2.1 t82.2.2.2.2.2.1 z87.2.1 z87.2.2.1 z87.2.2.2.1 t82.2.2.2.2.2.2.2.2.2.1 t82.2.2.2.2.2.2.2.2.2.2 z87.2.2.2.2.1 m_w m_kept z87.2.2.2.2.2.1 m_undos z87.2.2.2.2.2.2.1 m_foundMan m_foundHours m_foundIs z87.2.2.2.2.2.2.2 m_row m_best)) (show (16 : Nat) = 16 from rfl)) ?_
    refine E_iload_n 1 dX7_depot_150 (q := 151) rfl rfl rfl ?_
    obtain rfl := Option.some.inj hf
    exact E_iret dX7_depot_151 rfl ⟨rfl, rfl, rfl⟩
  · have hf := if_t c86 hf
    refine E_bipush (x := (-10)) dX7_depot_138 (q := 140) rfl (by decide) ?_
    refine E_aload_n 0 dX7_depot_140 (q := 141) rfl rfl rfl ?_
    refine E_get 8 dX7_depot_141 (q := 144) rfl ckX7 (Nat.le_of_ble_eq_true rfl) fl_X7_83 (hF85.at 0 rfl) (hF85.lt 0 (Nat.le_of_ble_eq_true rfl)) rfl ?_
    refine E_isub dX7_depot_144 (q := 145) rfl ?_
    obtain rfl := Option.some.inj hf
    exact E_iret dX7_depot_145 rfl ⟨rfl, rfl, rfl⟩

-- PostReliefModel.type(I)I
def f_X7_type (N : Nat) (a1 : Int32) (m_thrown : Int32) (m_text : FN) (m_typed : Int32) : Option (Int32 × Int32 × FN × Int32) :=
  ((f_X7_in N a1 0 255).bind fun z3 => (if z3 = 0 then some ((-1), 0, m_text, m_typed) else (if m_typed = 200 then some ((-3), 0, m_text, m_typed) else (if ix m_typed 200 = true then some ((m_typed + 1), 0, (upd m_text (ci m_typed) a1), (m_typed + 1)) else none))))
set_option maxHeartbeats 4000000 in
set_option maxRecDepth 100000 in
theorem m_X7_type {γ : GX} {n : Nat} {N : Nat} {h : HP} {a1 : Int32} {m_thrown : Int32} {m_trace : Int64} {m_text : FN} {m_typed : Int32} {m_next : Int32} {m_token : Int32} {m_place : Int32} {m_value : Int32} {m_fault : Int32} {m_many : FN} {m_sees : FN} {m_cold : FN} {m_first : FN} {m_told : Int32} {m_s : FN} {m_w : FN} {m_kept : FN} {m_isKept : FN} {m_undos : FN} {m_undoMany : Int32} {m_foundMan : FN} {m_foundHours : FN} {m_foundIs : FN} {m_foundMany : Int32} {m_row : FN} {m_best : FN} (hH_m : Has n 93 (mdB γ 93 m_thrown m_trace m_text m_typed m_next m_token m_place m_value m_fault m_many m_sees m_cold m_first m_told m_s m_w m_kept m_isKept m_undos m_undoMany m_foundMan m_foundHours m_foundIs m_foundMany m_row m_best) h) {z : Int32 × Int32 × FN × Int32} (hf : f_X7_type N a1 m_thrown m_text m_typed = some z)  : Ct γ M_X7_type n h [.ref (gB γ + 93), .int a1] (Done (some (.int z.1)) n (put 93 (mdB γ 93 z.2.1 m_trace z.2.2.1 z.2.2.2 m_next m_token m_place m_value m_fault m_many m_sees m_cold m_first m_told m_s m_w m_kept m_isKept m_undos m_undoMany m_foundMan m_foundHours m_foundIs m_foundMany m_row m_best) h)) := by
  have hn_m : 93 + 16 ≤ n := hH_m.1
  refine Ct.heap (h := (put 93 (mdB γ 93 m_thrown m_trace m_text m_typed m_next m_token m_place m_value m_fault m_many m_sees m_cold m_first m_told m_s m_w m_kept m_isKept m_undos m_undoMany m_foundMan m_foundHours m_foundIs m_foundMany m_row m_best) h)) (put_self hH_m).symm ?_
  refine Ct_of_Ev (by decide) (fun h => by cases h) (Nat.le_of_ble_eq_true rfl) ?_
  show Ev γ M_X7_type (0, 0) n (put 93 (mdB γ 93 m_thrown m_trace m_text m_typed m_next m_token m_place m_value m_fault m_many m_sees m_cold m_first m_told m_s m_w m_kept m_isKept m_undos m_undoMany m_foundMan m_foundHours m_foundIs m_foundMany m_row m_best) h) [(0, .ref (gB γ + 93)), (1, .int a1)] 0 [] _
  unfold f_X7_type at hf
  refine E_aload_n 0 dX7_type_0 (q := 1) rfl rfl rfl ?_
  refine E_iconst (x := 0) dX7_type_1 (q := 2) rfl (by decide) ?_
  have hF1 : Has n 93 (mdB γ 93 m_thrown m_trace m_text m_typed m_next m_token m_place m_value m_fault m_many m_sees m_cold m_first m_told m_s m_w m_kept m_isKept m_undos m_undoMany m_foundMan m_foundHours m_foundIs m_foundMany m_row m_best) (put 93 (mdB γ 93 m_thrown m_trace m_text m_typed m_next m_token m_place m_value m_fault m_many m_sees m_cold m_first m_told m_s m_w m_kept m_isKept m_undos m_undoMany m_foundMan m_foundHours m_foundIs m_foundMany m_row m_best) h) := (has_put hn_m)
  refine E_put 0 dX7_type_2 (q := 5) rfl ckX7 (Nat.le_of_ble_eq_true rfl) fl_X7_56 rfl rfl rfl (hF1.at 0 rfl) (hF1.lt 0 (Nat.le_of_ble_eq_true rfl)) (Nat.le_of_ble_eq_true rfl) (up_put (i := 0) (cs' := (mdB γ 93 0 m_trace m_text m_typed m_next m_token m_place m_value m_fault m_many m_sees m_cold m_first m_told m_s m_w m_kept m_isKept m_undos m_undoMany m_foundMan m_foundHours m_foundIs m_foundMany m_row m_best)) (Nat.le_of_ble_eq_true rfl) rfl) ?_
  refine E_iload_n 1 dX7_type_5 (q := 6) rfl rfl rfl ?_
  refine E_iconst (x := 0) dX7_type_6 (q := 7) rfl (by decide) ?_
  refine E_sipush (x := 255) dX7_type_7 (q := 10) rfl (by decide) ?_
  obtain ⟨z3, hxz3, hf⟩ := bnd hf
  refine E_cS (as := [.int a1, .int 0, .int 255]) (rest := []) (u' := (0, 0)) (st' := [.int z3]) dX7_type_10 (q := 13) rfl lkm_X7_in lks_X7_60 (Nat.le_of_ble_eq_true rfl) ⟨Nat.le_refl _, Nat.le_refl _⟩ (Nat.le_of_ble_eq_true rfl) rfl rfl (m_X7_in (N := N)  hxz3) rfl rfl rfl ?_
  refine E_if_ne dX7_type_13 (t := 18) (by decide) (q := 16) rfl (fun c4 => ?_) (fun c4 => ?_)
  · have hf := if_f c4 hf
    refine E_aload_n 0 dX7_type_18 (q := 19) rfl rfl rfl ?_
    have hF5 : Has n 93 (mdB γ 93 0 m_trace m_text m_typed m_next m_token m_place m_value m_fault m_many m_sees m_cold m_first m_told m_s m_w m_kept m_isKept m_undos m_undoMany m_foundMan m_foundHours m_foundIs m_foundMany m_row m_best) (put 93 (mdB γ 93 0 m_trace m_text m_typed m_next m_token m_place m_value m_fault m_many m_sees m_cold m_first m_told m_s m_w m_kept m_isKept m_undos m_undoMany m_foundMan m_foundHours m_foundIs m_foundMany m_row m_best) h) := (has_put hn_m)
    refine E_get 3 dX7_type_19 (q := 22) rfl ckX7 (Nat.le_of_ble_eq_true rfl) fl_X7_64 (hF5.at 0 rfl) (hF5.lt 0 (Nat.le_of_ble_eq_true rfl)) rfl ?_
    refine E_sipush (x := 200) dX7_type_22 (q := 25) rfl (by decide) ?_
    refine E_icmp_ne dX7_type_25 (t := 31) (by decide) (q := 28) rfl (fun c6 => ?_) (fun c6 => ?_)
    · have hf := if_f c6 hf
      refine E_aload_n 0 dX7_type_31 (q := 32) rfl rfl rfl ?_
      refine E_get 2 dX7_type_32 (q := 35) rfl ckX7 (Nat.le_of_ble_eq_true rfl) fl_X7_7 (hF5.at 0 rfl) (hF5.lt 0 (Nat.le_of_ble_eq_true rfl)) rfl ?_
      refine E_aload_n 0 dX7_type_35 (q := 36) rfl rfl rfl ?_
      refine E_get 3 dX7_type_36 (q := 39) rfl ckX7 (Nat.le_of_ble_eq_true rfl) fl_X7_64 (hF5.at 0 rfl) (hF5.lt 0 (Nat.le_of_ble_eq_true rfl)) rfl ?_
      refine E_iload_n 1 dX7_type_39 (q := 40) rfl rfl rfl ?_
      obtain ⟨g7, hf⟩ := gd hf
      refine E_iast dX7_type_40 (q := 41) rfl (hF5.at 1 rfl) (hF5.lt 1 (Nat.le_of_ble_eq_true rfl)) g7 (up_put (i := 1) (cs' := (mdB γ 93 0 m_trace (upd m_text (ci m_typed) a1) m_typed m_next m_token m_place m_value m_fault m_many m_sees m_cold m_first m_told m_s m_w m_kept m_isKept m_undos m_undoMany m_foundMan m_foundHours m_foundIs m_foundMany m_row m_best)) (Nat.le_of_ble_eq_true rfl) rfl) ?_
      refine E_aload_n 0 dX7_type_41 (q := 42) rfl rfl rfl ?_
      refine E_dup dX7_type_42 (q := 43) rfl rfl ?_
      have hF9 : Has n 93 (mdB γ 93 0 m_trace (upd m_text (ci m_typed) a1) m_typed m_next m_token m_place m_value m_fault m_many m_sees m_cold m_first m_told m_s m_w m_kept m_isKept m_undos m_undoMany m_foundMan m_foundHours m_foundIs m_foundMany m_row m_best) (put 93 (mdB γ 93 0 m_trace (upd m_text (ci m_typed) a1) m_typed m_next m_token m_place m_value m_fault m_many m_sees m_cold m_first m_told m_s m_w m_kept m_isKept m_undos m_undoMany m_foundMan m_foundHours m_foundIs m_foundMany m_row m_best) h) := (has_put hn_m)
      refine E_get 3 dX7_type_43 (q := 46) rfl ckX7 (Nat.le_of_ble_eq_true rfl) fl_X7_64 (hF9.at 0 rfl) (hF9.lt 0 (Nat.le_of_ble_eq_true rfl)) rfl ?_
      refine E_iconst (x := 1) dX7_type_46 (q := 47) rfl (by decide) ?_
      refine E_iadd dX7_type_47 (q := 48) rfl ?_
      refine E_put 3 dX7_type_48 (q := 51) rfl ckX7 (Nat.le_of_ble_eq_true rfl) fl_X7_64 rfl rfl rfl (hF9.at 0 rfl) (hF9.lt 0 (Nat.le_of_ble_eq_true rfl)) (Nat.le_of_ble_eq_true rfl) (up_put (i := 0) (cs' := (mdB γ 93 0 m_trace (upd m_text (ci m_typed) a1) (m_typed + 1) m_next m_token m_place m_value m_fault m_many m_sees m_cold m_first m_told m_s m_w m_kept m_isKept m_undos m_undoMany m_foundMan m_foundHours m_foundIs m_foundMany m_row m_best)) (Nat.le_of_ble_eq_true rfl) rfl) ?_
      refine E_aload_n 0 dX7_type_51 (q := 52) rfl rfl rfl ?_
      have hF11 : Has n 93 (mdB γ 93 0 m_trace (upd m_text (ci m_typed) a1) (m_typed + 1) m_next m_token m_place m_value m_fault m_many m_sees m_cold m_first m_told m_s m_w m_kept m_isKept m_undos m_undoMany m_foundMan m_foundHours m_foundIs m_foundMany m_row m_best) (put 93 (mdB γ 93 0 m_trace (upd m_text (ci m_typed) a1) (m_typed + 1) m_next m_token m_place m_value m_fault m_many m_sees m_cold m_first m_told m_s m_w m_kept m_isKept m_undos m_undoMany m_foundMan m_foundHours m_foundIs m_foundMany m_row m_best) h) := (has_put hn_m)
      refine E_get 3 dX7_type_52 (q := 55) rfl ckX7 (Nat.le_of_ble_eq_true rfl) fl_X7_64 (hF11.at 0 rfl) (hF11.lt 0 (Nat.le_of_ble_eq_true rfl)) rfl ?_
      obtain rfl := Option.some.inj hf
      exact E_iret dX7_type_55 rfl ⟨rfl, rfl, rfl⟩
    · have hf := if_t c6 hf
      refine E_bipush (x := (-3)) dX7_type_28 (q := 30) rfl (by decide) ?_
      obtain rfl := Option.some.inj hf
      exact E_iret dX7_type_30 rfl ⟨rfl, rfl, rfl⟩
  · have hf := if_t c4 hf
    refine E_iconst (x := (-1)) dX7_type_16 (q := 17) rfl (by decide) ?_
    obtain rfl := Option.some.inj hf
    exact E_iret dX7_type_17 rfl ⟨rfl, rfl, rfl⟩

-- PostReliefModel.clear()I
def f_X7_clear (N : Nat) (m_thrown : Int32) (m_typed : Int32) : Option (Int32 × Int32 × Int32) :=
  some (m_typed, 0, 0)
set_option maxHeartbeats 4000000 in
set_option maxRecDepth 100000 in
theorem m_X7_clear {γ : GX} {n : Nat} {N : Nat} {h : HP} {m_thrown : Int32} {m_trace : Int64} {m_text : FN} {m_typed : Int32} {m_next : Int32} {m_token : Int32} {m_place : Int32} {m_value : Int32} {m_fault : Int32} {m_many : FN} {m_sees : FN} {m_cold : FN} {m_first : FN} {m_told : Int32} {m_s : FN} {m_w : FN} {m_kept : FN} {m_isKept : FN} {m_undos : FN} {m_undoMany : Int32} {m_foundMan : FN} {m_foundHours : FN} {m_foundIs : FN} {m_foundMany : Int32} {m_row : FN} {m_best : FN} (hH_m : Has n 93 (mdB γ 93 m_thrown m_trace m_text m_typed m_next m_token m_place m_value m_fault m_many m_sees m_cold m_first m_told m_s m_w m_kept m_isKept m_undos m_undoMany m_foundMan m_foundHours m_foundIs m_foundMany m_row m_best) h) {z : Int32 × Int32 × Int32} (hf : f_X7_clear N m_thrown m_typed = some z)  : Ct γ M_X7_clear n h [.ref (gB γ + 93)] (Done (some (.int z.1)) n (put 93 (mdB γ 93 z.2.1 m_trace m_text z.2.2 m_next m_token m_place m_value m_fault m_many m_sees m_cold m_first m_told m_s m_w m_kept m_isKept m_undos m_undoMany m_foundMan m_foundHours m_foundIs m_foundMany m_row m_best) h)) := by
  have hn_m : 93 + 16 ≤ n := hH_m.1
  refine Ct.heap (h := (put 93 (mdB γ 93 m_thrown m_trace m_text m_typed m_next m_token m_place m_value m_fault m_many m_sees m_cold m_first m_told m_s m_w m_kept m_isKept m_undos m_undoMany m_foundMan m_foundHours m_foundIs m_foundMany m_row m_best) h)) (put_self hH_m).symm ?_
  refine Ct_of_Ev (by decide) (fun h => by cases h) (Nat.le_of_ble_eq_true rfl) ?_
  show Ev γ M_X7_clear (0, 0) n (put 93 (mdB γ 93 m_thrown m_trace m_text m_typed m_next m_token m_place m_value m_fault m_many m_sees m_cold m_first m_told m_s m_w m_kept m_isKept m_undos m_undoMany m_foundMan m_foundHours m_foundIs m_foundMany m_row m_best) h) [(0, .ref (gB γ + 93))] 0 [] _
  unfold f_X7_clear at hf
  refine E_aload_n 0 dX7_clear_0 (q := 1) rfl rfl rfl ?_
  refine E_iconst (x := 0) dX7_clear_1 (q := 2) rfl (by decide) ?_
  have hF1 : Has n 93 (mdB γ 93 m_thrown m_trace m_text m_typed m_next m_token m_place m_value m_fault m_many m_sees m_cold m_first m_told m_s m_w m_kept m_isKept m_undos m_undoMany m_foundMan m_foundHours m_foundIs m_foundMany m_row m_best) (put 93 (mdB γ 93 m_thrown m_trace m_text m_typed m_next m_token m_place m_value m_fault m_many m_sees m_cold m_first m_told m_s m_w m_kept m_isKept m_undos m_undoMany m_foundMan m_foundHours m_foundIs m_foundMany m_row m_best) h) := (has_put hn_m)
  refine E_put 0 dX7_clear_2 (q := 5) rfl ckX7 (Nat.le_of_ble_eq_true rfl) fl_X7_56 rfl rfl rfl (hF1.at 0 rfl) (hF1.lt 0 (Nat.le_of_ble_eq_true rfl)) (Nat.le_of_ble_eq_true rfl) (up_put (i := 0) (cs' := (mdB γ 93 0 m_trace m_text m_typed m_next m_token m_place m_value m_fault m_many m_sees m_cold m_first m_told m_s m_w m_kept m_isKept m_undos m_undoMany m_foundMan m_foundHours m_foundIs m_foundMany m_row m_best)) (Nat.le_of_ble_eq_true rfl) rfl) ?_
  refine E_aload_n 0 dX7_clear_5 (q := 6) rfl rfl rfl ?_
  have hF3 : Has n 93 (mdB γ 93 0 m_trace m_text m_typed m_next m_token m_place m_value m_fault m_many m_sees m_cold m_first m_told m_s m_w m_kept m_isKept m_undos m_undoMany m_foundMan m_foundHours m_foundIs m_foundMany m_row m_best) (put 93 (mdB γ 93 0 m_trace m_text m_typed m_next m_token m_place m_value m_fault m_many m_sees m_cold m_first m_told m_s m_w m_kept m_isKept m_undos m_undoMany m_foundMan m_foundHours m_foundIs m_foundMany m_row m_best) h) := (has_put hn_m)
  refine E_get 3 dX7_clear_6 (q := 9) rfl ckX7 (Nat.le_of_ble_eq_true rfl) fl_X7_64 (hF3.at 0 rfl) (hF3.lt 0 (Nat.le_of_ble_eq_true rfl)) rfl ?_
  refine E_istore_n [(1, .int m_typed), (0, .ref (gB γ + 93))] dX7_clear_9 (q := 10) rfl rfl (Nat.le_of_ble_eq_true rfl) rfl ?_
  refine E_aload_n 1 dX7_clear_10 (q := 11) rfl rfl rfl ?_
  refine E_iconst (x := 0) dX7_clear_11 (q := 12) rfl (by decide) ?_
  refine E_put 3 dX7_clear_12 (q := 15) rfl ckX7 (Nat.le_of_ble_eq_true rfl) fl_X7_64 rfl rfl rfl (hF3.at 0 rfl) (hF3.lt 0 (Nat.le_of_ble_eq_true rfl)) (Nat.le_of_ble_eq_true rfl) (up_put (i := 0) (cs' := (mdB γ 93 0 m_trace m_text 0 m_next m_token m_place m_value m_fault m_many m_sees m_cold m_first m_told m_s m_w m_kept m_isKept m_undos m_undoMany m_foundMan m_foundHours m_foundIs m_foundMany m_row m_best)) (Nat.le_of_ble_eq_true rfl) rfl) ?_
  refine E_iload_n 0 dX7_clear_15 (q := 16) rfl rfl rfl ?_
  obtain rfl := Option.some.inj hf
  exact E_iret dX7_clear_16 rfl ⟨rfl, rfl, rfl⟩

-- PostReliefModel.isPost(I)Z
def f_X7_isPost (N : Nat) (a1 : Int32) (m_many : FN) : Option (Int32) :=
  ((f_X7_in N a1 0 ((m_many (ci 0)) - 1)).bind fun z1 => (if z1 &&& 1 = z1 then some z1 else none))
set_option maxHeartbeats 4000000 in
set_option maxRecDepth 100000 in
theorem m_X7_isPost {γ : GX} {n : Nat} {N : Nat} {h : HP} {a1 : Int32} {m_thrown : Int32} {m_trace : Int64} {m_text : FN} {m_typed : Int32} {m_next : Int32} {m_token : Int32} {m_place : Int32} {m_value : Int32} {m_fault : Int32} {m_many : FN} {m_sees : FN} {m_cold : FN} {m_first : FN} {m_told : Int32} {m_s : FN} {m_w : FN} {m_kept : FN} {m_isKept : FN} {m_undos : FN} {m_undoMany : Int32} {m_foundMan : FN} {m_foundHours : FN} {m_foundIs : FN} {m_foundMany : Int32} {m_row : FN} {m_best : FN} (hH_m : Has n 93 (mdB γ 93 m_thrown m_trace m_text m_typed m_next m_token m_place m_value m_fault m_many m_sees m_cold m_first m_told m_s m_w m_kept m_isKept m_undos m_undoMany m_foundMan m_foundHours m_foundIs m_foundMany m_row m_best) h) {z : Int32} (hf : f_X7_isPost N a1 m_many = some z)  : Ct γ M_X7_isPost n h [.ref (gB γ + 93), .int a1] (Done (some (.int z)) n h) := by
  refine Ct_of_Ev (by decide) (fun h => by cases h) (Nat.le_of_ble_eq_true rfl) ?_
  show Ev γ M_X7_isPost (0, 0) n h [(0, .ref (gB γ + 93)), (1, .int a1)] 0 [] _
  unfold f_X7_isPost at hf
  refine E_iload_n 1 dX7_isPost_0 (q := 1) rfl rfl rfl ?_
  refine E_iconst (x := 0) dX7_isPost_1 (q := 2) rfl (by decide) ?_
  refine E_aload_n 0 dX7_isPost_2 (q := 3) rfl rfl rfl ?_
  refine E_get 9 dX7_isPost_3 (q := 6) rfl ckX7 (Nat.le_of_ble_eq_true rfl) fl_X7_13 (hH_m.at 0 rfl) (hH_m.lt 0 (Nat.le_of_ble_eq_true rfl)) rfl ?_
  refine E_iconst (x := 0) dX7_isPost_6 (q := 7) rfl (by decide) ?_
  refine E_iald dX7_isPost_7 (q := 8) rfl (hH_m.at 2 rfl) (hH_m.lt 2 (Nat.le_of_ble_eq_true rfl)) (by decide +kernel) ?_
  refine E_iconst (x := 1) dX7_isPost_8 (q := 9) rfl (by decide) ?_
  refine E_isub dX7_isPost_9 (q := 10) rfl ?_
  obtain ⟨z1, hxz1, hf⟩ := bnd hf
  refine E_cS (as := [.int a1, .int 0, .int ((m_many (ci 0)) - 1)]) (rest := []) (u' := (0, 0)) (st' := [.int z1]) dX7_isPost_10 (q := 13) rfl lkm_X7_in lks_X7_60 (Nat.le_of_ble_eq_true rfl) ⟨Nat.le_refl _, Nat.le_refl _⟩ (Nat.le_of_ble_eq_true rfl) rfl rfl (m_X7_in (N := N)  hxz1) rfl rfl rfl ?_
  obtain ⟨g2, hf⟩ := gd hf
  obtain rfl := Option.some.inj hf
  exact E_zret dX7_isPost_13 rfl g2 ⟨rfl, rfl, rfl⟩

-- PostReliefModel.isMan(I)Z
def f_X7_isMan (N : Nat) (a1 : Int32) (m_many : FN) : Option (Int32) :=
  ((f_X7_in N a1 0 ((m_many (ci 1)) - 1)).bind fun z1 => (if z1 &&& 1 = z1 then some z1 else none))
set_option maxHeartbeats 4000000 in
set_option maxRecDepth 100000 in
theorem m_X7_isMan {γ : GX} {n : Nat} {N : Nat} {h : HP} {a1 : Int32} {m_thrown : Int32} {m_trace : Int64} {m_text : FN} {m_typed : Int32} {m_next : Int32} {m_token : Int32} {m_place : Int32} {m_value : Int32} {m_fault : Int32} {m_many : FN} {m_sees : FN} {m_cold : FN} {m_first : FN} {m_told : Int32} {m_s : FN} {m_w : FN} {m_kept : FN} {m_isKept : FN} {m_undos : FN} {m_undoMany : Int32} {m_foundMan : FN} {m_foundHours : FN} {m_foundIs : FN} {m_foundMany : Int32} {m_row : FN} {m_best : FN} (hH_m : Has n 93 (mdB γ 93 m_thrown m_trace m_text m_typed m_next m_token m_place m_value m_fault m_many m_sees m_cold m_first m_told m_s m_w m_kept m_isKept m_undos m_undoMany m_foundMan m_foundHours m_foundIs m_foundMany m_row m_best) h) {z : Int32} (hf : f_X7_isMan N a1 m_many = some z)  : Ct γ M_X7_isMan n h [.ref (gB γ + 93), .int a1] (Done (some (.int z)) n h) := by
  refine Ct_of_Ev (by decide) (fun h => by cases h) (Nat.le_of_ble_eq_true rfl) ?_
  show Ev γ M_X7_isMan (0, 0) n h [(0, .ref (gB γ + 93)), (1, .int a1)] 0 [] _
  unfold f_X7_isMan at hf
  refine E_iload_n 1 dX7_isMan_0 (q := 1) rfl rfl rfl ?_
  refine E_iconst (x := 0) dX7_isMan_1 (q := 2) rfl (by decide) ?_
  refine E_aload_n 0 dX7_isMan_2 (q := 3) rfl rfl rfl ?_
  refine E_get 9 dX7_isMan_3 (q := 6) rfl ckX7 (Nat.le_of_ble_eq_true rfl) fl_X7_13 (hH_m.at 0 rfl) (hH_m.lt 0 (Nat.le_of_ble_eq_true rfl)) rfl ?_
  refine E_iconst (x := 1) dX7_isMan_6 (q := 7) rfl (by decide) ?_
  refine E_iald dX7_isMan_7 (q := 8) rfl (hH_m.at 2 rfl) (hH_m.lt 2 (Nat.le_of_ble_eq_true rfl)) (by decide +kernel) ?_
  refine E_iconst (x := 1) dX7_isMan_8 (q := 9) rfl (by decide) ?_
  refine E_isub dX7_isMan_9 (q := 10) rfl ?_
  obtain ⟨z1, hxz1, hf⟩ := bnd hf
  refine E_cS (as := [.int a1, .int 0, .int ((m_many (ci 1)) - 1)]) (rest := []) (u' := (0, 0)) (st' := [.int z1]) dX7_isMan_10 (q := 13) rfl lkm_X7_in lks_X7_60 (Nat.le_of_ble_eq_true rfl) ⟨Nat.le_refl _, Nat.le_refl _⟩ (Nat.le_of_ble_eq_true rfl) rfl rfl (m_X7_in (N := N)  hxz1) rfl rfl rfl ?_
  obtain ⟨g2, hf⟩ := gd hf
  obtain rfl := Option.some.inj hf
  exact E_zret dX7_isMan_13 rfl g2 ⟨rfl, rfl, rfl⟩
