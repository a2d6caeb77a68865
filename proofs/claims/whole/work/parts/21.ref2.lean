def M_X7_manAt : MI := (yX7_manAt, cX7_manAt, 4, (some .int), false, 1, 0, 0)
theorem lkm_X7_manAt : LkM M_X7_manAt 2 := ⟨(lg_mem 58 (by decide +kernel) rfl), (lg_mem 815 (by decide +kernel) rfl), ⟨by decide, by decide, by decide +kernel⟩, (Nat.le_of_ble_eq_true rfl)⟩
def M_X7_isAsleep : MI := (yX7_isAsleep, cX7_isAsleep, 2, (some .boolean), false, 1, 0, 0)
theorem lkm_X7_isAsleep : LkM M_X7_isAsleep 2 := ⟨(lg_mem 58 (by decide +kernel) rfl), (lg_mem 826 (by decide +kernel) rfl), ⟨by decide, by decide, by decide +kernel⟩, (Nat.le_of_ble_eq_true rfl)⟩
def M_X7_standing : MI := (yX7_standing, cX7_standing, 4, (some .int), false, 1, 0, 0)
theorem lkm_X7_standing : LkM M_X7_standing 1 := ⟨(lg_mem 58 (by decide +kernel) rfl), (lg_mem 834 (by decide +kernel) rfl), ⟨by decide, by decide, by decide +kernel⟩, (Nat.le_of_ble_eq_true rfl)⟩
def M_X7_asleep : MI := (yX7_asleep, cX7_asleep, 4, (some .int), false, 2, 0, 0)
theorem lkm_X7_asleep : LkM M_X7_asleep 1 := ⟨(lg_mem 58 (by decide +kernel) rfl), (lg_mem 838 (by decide +kernel) rfl), ⟨by decide, by decide, by decide +kernel⟩, (Nat.le_of_ble_eq_true rfl)⟩
def M_X7_watched : MI := (yX7_watched, cX7_watched, 4, (some .int), false, 1, 0, 0)
theorem lkm_X7_watched : LkM M_X7_watched 1 := ⟨(lg_mem 58 (by decide +kernel) rfl), (lg_mem 846 (by decide +kernel) rfl), ⟨by decide, by decide, by decide +kernel⟩, (Nat.le_of_ble_eq_true rfl)⟩
def M_X7_watchedIn : MI := (yX7_watchedIn, cX7_watchedIn, 2, (some .int), false, 3, 0, 0)
theorem lkm_X7_watchedIn : LkM M_X7_watchedIn 1 := ⟨(lg_mem 58 (by decide +kernel) rfl), (lg_mem 842 (by decide +kernel) rfl), ⟨by decide, by decide, by decide +kernel⟩, (Nat.le_of_ble_eq_true rfl)⟩
def M_X7_notes : MI := (yX7_notes, cX7_notes, 2, none, false, 1, 0, 0)
theorem lkm_X7_notes : LkM M_X7_notes 0 := ⟨(lg_mem 58 (by decide +kernel) rfl), (lg_mem 854 (by decide +kernel) rfl), ⟨by decide, by decide, by decide +kernel⟩, (Nat.le_of_ble_eq_true rfl)⟩
def M_X7_goes : MI := (yX7_goes, cX7_goes, 6, none, false, 2, 0, 0)
theorem lkm_X7_goes : LkM M_X7_goes 1 := ⟨(lg_mem 58 (by decide +kernel) rfl), (lg_mem 869 (by decide +kernel) rfl), ⟨by decide, by decide, by decide +kernel⟩, (Nat.le_of_ble_eq_true rfl)⟩
def M_X7_nextMan : MI := (yX7_nextMan, cX7_nextMan, 6, (some .int), false, 1, 0, 0)
theorem lkm_X7_nextMan : LkM M_X7_nextMan 2 := ⟨(lg_mem 58 (by decide +kernel) rfl), (lg_mem 881 (by decide +kernel) rfl), ⟨by decide, by decide, by decide +kernel⟩, (Nat.le_of_ble_eq_true rfl)⟩
def M_X7_relieved : MI := (yX7_relieved, cX7_relieved, 10, (some .int), false, 2, 0, 0)
theorem lkm_X7_relieved : LkM M_X7_relieved 3 := ⟨(lg_mem 58 (by decide +kernel) rfl), (lg_mem 877 (by decide +kernel) rfl), ⟨by decide, by decide, by decide +kernel⟩, (Nat.le_of_ble_eq_true rfl)⟩
def M_X7_debtStanding : MI := (yX7_debtStanding, cX7_debtStanding, 4, (some .int), false, 1, 0, 0)
theorem lkm_X7_debtStanding : LkM M_X7_debtStanding 1 := ⟨(lg_mem 58 (by decide +kernel) rfl), (lg_mem 906 (by decide +kernel) rfl), ⟨by decide, by decide, by decide +kernel⟩, (Nat.le_of_ble_eq_true rfl)⟩
def M_X7_asNow : MI := (yX7_asNow, cX7_asNow, 2, none, false, 1, 0, 0)
theorem lkm_X7_asNow : LkM M_X7_asNow 0 := ⟨(lg_mem 58 (by decide +kernel) rfl), (lg_mem 893 (by decide +kernel) rfl), ⟨by decide, by decide, by decide +kernel⟩, (Nat.le_of_ble_eq_true rfl)⟩
def M_X7_goesBy : MI := (yX7_goesBy, cX7_goesBy, 2, none, false, 3, 0, 0)
theorem lkm_X7_goesBy : LkM M_X7_goesBy 1 := ⟨(lg_mem 58 (by decide +kernel) rfl), (lg_mem 897 (by decide +kernel) rfl), ⟨by decide, by decide, by decide +kernel⟩, (Nat.le_of_ble_eq_true rfl)⟩
theorem lks_X7_131 : LkS RX7 131 M_X7_isAsleep := ⟨(lg_mem 824 (by decide +kernel) rfl), (lg_mem 825 (by decide +kernel) rfl)⟩
theorem lkv_X7_135 : LkV RX7 135 M_X7_standing := ⟨(lg_mem 831 (by decide +kernel) rfl), (lg_mem 833 (by decide +kernel) rfl), (lg_mem 34 (by decide +kernel) rfl)⟩
theorem lkv_X7_139 : LkV RX7 139 M_X7_asleep := ⟨(lg_mem 835 (by decide +kernel) rfl), (lg_mem 837 (by decide +kernel) rfl), (lg_mem 35 (by decide +kernel) rfl)⟩
theorem lkv_X7_142 : LkV RX7 142 M_X7_watched := ⟨(lg_mem 843 (by decide +kernel) rfl), (lg_mem 845 (by decide +kernel) rfl), (lg_mem 37 (by decide +kernel) rfl)⟩
theorem fl_X7_38 : Cond.fieldLink RX7 38 (TX7 18).1 (TX7 18).2.1 (TX7 18).2.2.1 ∈ lw_good := (lg_mem 696 (by decide +kernel) rfl)
theorem lkv_X7_124 : LkV RX7 124 M_X7_manAt := ⟨(lg_mem 812 (by decide +kernel) rfl), (lg_mem 814 (by decide +kernel) rfl), (lg_mem 32 (by decide +kernel) rfl)⟩
theorem lkv_X7_158 : LkV RX7 158 M_X7_nextMan := ⟨(lg_mem 878 (by decide +kernel) rfl), (lg_mem 880 (by decide +kernel) rfl), (lg_mem 41 (by decide +kernel) rfl)⟩
theorem fl_X7_28 : Cond.fieldLink RX7 28 (TX7 15).1 (TX7 15).2.1 (TX7 15).2.2.1 ∈ lw_good := (lg_mem 693 (by decide +kernel) rfl)
theorem lkv_X7_154 : LkV RX7 154 M_X7_goes := ⟨(lg_mem 866 (by decide +kernel) rfl), (lg_mem 868 (by decide +kernel) rfl), (lg_mem 39 (by decide +kernel) rfl)⟩
theorem lkv_X7_161 : LkV RX7 161 M_X7_relieved := ⟨(lg_mem 874 (by decide +kernel) rfl), (lg_mem 876 (by decide +kernel) rfl), (lg_mem 40 (by decide +kernel) rfl)⟩
-- PostReliefModel.manAt([II)I
def b_X7_manAt_s_1 (N : Nat) (p2 : Int32) (m_many : FN) (m_s : FN) (v3 : Int32) : Option ((Int32) ⊕ ((Unit) ⊕ (Int32))) :=
  (if (m_many (ci 1)) ≤ v3 then some (.inr (.inl ())) else (if ix (7 + v3) 48 = true then (if (m_s (ci (7 + v3))) = (p2 + 1) then some (.inr (.inr v3)) else some (.inl (v3 + 1))) else none))
def f_X7_manAt_s (N : Nat) (a2 : Int32) (m_many : FN) (m_s : FN) : Option (Int32) :=
  ((lp (fun s => b_X7_manAt_s_1 N a2 m_many m_s s) N 0).bind (Sum.elim (fun t5e => some (-9)) (fun r_ => some r_)))
set_option maxHeartbeats 4000000 in
set_option maxRecDepth 100000 in
theorem L_X7_manAt_s_1 {γ : GX} {n : Nat} {h : HP} {Ψ : PS} {N : Nat} {p2 : Int32} {m_thrown : Int32} {m_trace : Int64} {m_text : FN} {m_typed : Int32} {m_next : Int32} {m_token : Int32} {m_place : Int32} {m_value : Int32} {m_fault : Int32} {m_many : FN} {m_sees : FN} {m_cold : FN} {m_first : FN} {m_told : Int32} {m_s : FN} {m_w : FN} {m_kept : FN} {m_isKept : FN} {m_undos : FN} {m_undoMany : Int32} {m_foundMan : FN} {m_foundHours : FN} {m_foundIs : FN} {m_foundMany : Int32} {m_row : FN} {m_best : FN} (hH_m : Has n 93 (mdB γ 93 m_thrown m_trace m_text m_typed m_next m_token m_place m_value m_fault m_many m_sees m_cold m_first m_told m_s m_w m_kept m_isKept m_undos m_undoMany m_foundMan m_foundHours m_foundIs m_foundMany m_row m_best) h) {s0 : Int32} {t : (Unit) ⊕ (Int32)} (hf : lp (fun s => b_X7_manAt_s_1 N p2 m_many m_s s) N s0 = some t) (K : Sum.elim (fun e_ => Ev γ M_X7_manAt (0, 0) n h [] 32 [] Ψ) (fun r_ => Ψ (some (.int r_)) n h) t) : Ev γ M_X7_manAt (0, 0) n h [(0, .ref (gB γ + 93)), (1, .ref (gB γ + (93 + 6))), (2, .int p2), (3, .int s0)] 2 [] Ψ := by
  refine E_lp (P := fun s => Ev γ M_X7_manAt (0, 0) n h [(0, .ref (gB γ + 93)), (1, .ref (gB γ + (93 + 6))), (2, .int p2), (3, .int s)] 2 [] Ψ) (K := fun t => Sum.elim (fun e_ => Ev γ M_X7_manAt (0, 0) n h [] 32 [] Ψ) (fun r_ => Ψ (some (.int r_)) n h) t) ?_ N s0 t hf K
  intro s r hf hP hK
  obtain ⟨v3, hs⟩ : ∃ z, z = s := ⟨s, rfl⟩; subst hs
  change b_X7_manAt_s_1 N p2 m_many m_s v3 = some r at hf
  unfold b_X7_manAt_s_1 at hf
  show Ev γ M_X7_manAt (0, 0) n h [(0, .ref (gB γ + 93)), (1, .ref (gB γ + (93 + 6))), (2, .int p2), (3, .int v3)] 2 [] Ψ
  refine E_iload_n 3 dX7_manAt_2 (q := 3) rfl rfl rfl ?_
  refine E_aload_n 0 dX7_manAt_3 (q := 4) rfl rfl rfl ?_
  refine E_get 9 dX7_manAt_4 (q := 7) rfl ckX7 (Nat.le_of_ble_eq_true rfl) fl_X7_13 (hH_m.at 0 rfl) (hH_m.lt 0 (Nat.le_of_ble_eq_true rfl)) rfl ?_
  refine E_iconst (x := 1) dX7_manAt_7 (q := 8) rfl (by decide) ?_
  refine E_iald dX7_manAt_8 (q := 9) rfl (hH_m.at 2 rfl) (hH_m.lt 2 (Nat.le_of_ble_eq_true rfl)) (by decide +kernel) ?_
  refine E_icmp_ge dX7_manAt_9 (t := 32) (by decide) (q := 12) rfl (fun c2 => ?_) (fun c2 => ?_)
  · have hf := if_t c2 hf
    exact E_sub [] rfl (hK _ (Option.some.inj hf).symm)
  · have hf := if_f c2 hf
    refine E_aload_n 1 dX7_manAt_12 (q := 13) rfl rfl rfl ?_
    refine E_bipush (x := 7) dX7_manAt_13 (q := 15) rfl (by decide) ?_
    refine E_iload_n 3 dX7_manAt_15 (q := 16) rfl rfl rfl ?_
    refine E_iadd dX7_manAt_16 (q := 17) rfl ?_
    obtain ⟨g3, hf⟩ := gd hf
    refine E_iald dX7_manAt_17 (q := 18) rfl (hH_m.at 6 rfl) (hH_m.lt 6 (Nat.le_of_ble_eq_true rfl)) g3 ?_
    refine E_iload_n 2 dX7_manAt_18 (q := 19) rfl rfl rfl ?_
    refine E_iconst (x := 1) dX7_manAt_19 (q := 20) rfl (by decide) ?_
    refine E_iadd dX7_manAt_20 (q := 21) rfl ?_
    refine E_icmp_ne dX7_manAt_21 (t := 26) (by decide) (q := 24) rfl (fun c4 => ?_) (fun c4 => ?_)
    · have hf := if_f c4 hf
      refine E_iinc 3 [(3, .int (v3 + 1)), (0, .ref (gB γ + 93)), (1, .ref (gB γ + (93 + 6))), (2, .int p2)] dX7_manAt_26 (q := 29) rfl rfl rfl (Nat.le_of_ble_eq_true rfl) rfl ?_
      refine E_goto (q := 2) dX7_manAt_29 (by decide) ?_
      exact E_sub [1, 2, 3, 0] rfl (hP _ (Option.some.inj hf).symm)
    · have hf := if_t c4 hf
      refine E_iload_n 3 dX7_manAt_24 (q := 25) rfl rfl rfl ?_
      exact E_iret dX7_manAt_25 rfl (hK _ (Option.some.inj hf).symm)
set_option maxHeartbeats 4000000 in
set_option maxRecDepth 100000 in
theorem m_X7_manAt_s {γ : GX} {n : Nat} {N : Nat} {h : HP} {a2 : Int32} {m_thrown : Int32} {m_trace : Int64} {m_text : FN} {m_typed : Int32} {m_next : Int32} {m_token : Int32} {m_place : Int32} {m_value : Int32} {m_fault : Int32} {m_many : FN} {m_sees : FN} {m_cold : FN} {m_first : FN} {m_told : Int32} {m_s : FN} {m_w : FN} {m_kept : FN} {m_isKept : FN} {m_undos : FN} {m_undoMany : Int32} {m_foundMan : FN} {m_foundHours : FN} {m_foundIs : FN} {m_foundMany : Int32} {m_row : FN} {m_best : FN} (hH_m : Has n 93 (mdB γ 93 m_thrown m_trace m_text m_typed m_next m_token m_place m_value m_fault m_many m_sees m_cold m_first m_told m_s m_w m_kept m_isKept m_undos m_undoMany m_foundMan m_foundHours m_foundIs m_foundMany m_row m_best) h) {z : Int32} (hf : f_X7_manAt_s N a2 m_many m_s = some z)  : Ct γ M_X7_manAt n h [.ref (gB γ + 93), .ref (gB γ + (93 + 6)), .int a2] (Done (some (.int z)) n h) := by
  refine Ct_of_Ev (by decide) (fun h => by cases h) (Nat.le_of_ble_eq_true rfl) ?_
  show Ev γ M_X7_manAt (0, 0) n h [(0, .ref (gB γ + 93)), (1, .ref (gB γ + (93 + 6))), (2, .int a2)] 0 [] _
  unfold f_X7_manAt_s at hf
  refine E_iconst (x := 0) dX7_manAt_0 (q := 1) rfl (by decide) ?_
  refine E_istore_n [(3, .int 0), (0, .ref (gB γ + 93)), (1, .ref (gB γ + (93 + 6))), (2, .int a2)] dX7_manAt_1 (q := 2) rfl rfl (Nat.le_of_ble_eq_true rfl) rfl ?_
  obtain ⟨t5, hxt5, hf⟩ := bnd hf
  rcases t5 with t5e | t5r
  · replace hf := sum_l hf
    refine E_sub [1, 2, 3, 0] rfl ?_
    refine L_X7_manAt_s_1 hH_m hxt5 ?_
    show Ev γ M_X7_manAt _ n h [] 32 [] _
    refine E_bipush (x := (-9)) dX7_manAt_32 (q := 34) rfl (by decide) ?_
    obtain rfl := Option.some.inj hf
    exact E_iret dX7_manAt_34 rfl ⟨rfl, rfl, rfl⟩
  · replace hf := sum_r hf
    obtain rfl := Option.some.inj hf
    refine E_sub [1, 2, 3, 0] rfl ?_
    refine L_X7_manAt_s_1 hH_m hxt5 ?_
    exact ⟨rfl, rfl, rfl⟩

-- PostReliefModel.manAt([II)I
def b_X7_manAt_w_1 (N : Nat) (p2 : Int32) (m_many : FN) (m_w : FN) (v3 : Int32) : Option ((Int32) ⊕ ((Unit) ⊕ (Int32))) :=
  (if (m_many (ci 1)) ≤ v3 then some (.inr (.inl ())) else (if ix (7 + v3) 48 = true then (if (m_w (ci (7 + v3))) = (p2 + 1) then some (.inr (.inr v3)) else some (.inl (v3 + 1))) else none))
def f_X7_manAt_w (N : Nat) (a2 : Int32) (m_many : FN) (m_w : FN) : Option (Int32) :=
  ((lp (fun s => b_X7_manAt_w_1 N a2 m_many m_w s) N 0).bind (Sum.elim (fun t5e => some (-9)) (fun r_ => some r_)))
set_option maxHeartbeats 4000000 in
set_option maxRecDepth 100000 in
theorem L_X7_manAt_w_1 {γ : GX} {n : Nat} {h : HP} {Ψ : PS} {N : Nat} {p2 : Int32} {m_thrown : Int32} {m_trace : Int64} {m_text : FN} {m_typed : Int32} {m_next : Int32} {m_token : Int32} {m_place : Int32} {m_value : Int32} {m_fault : Int32} {m_many : FN} {m_sees : FN} {m_cold : FN} {m_first : FN} {m_told : Int32} {m_s : FN} {m_w : FN} {m_kept : FN} {m_isKept : FN} {m_undos : FN} {m_undoMany : Int32} {m_foundMan : FN} {m_foundHours : FN} {m_foundIs : FN} {m_foundMany : Int32} {m_row : FN} {m_best : FN} (hH_m : Has n 93 (mdB γ 93 m_thrown m_trace m_text m_typed m_next m_token m_place m_value m_fault m_many m_sees m_cold m_first m_told m_s m_w m_kept m_isKept m_undos m_undoMany m_foundMan m_foundHours m_foundIs m_foundMany m_row m_best) h) {s0 : Int32} {t : (Unit) ⊕ (Int32)} (hf : lp (fun s => b_X7_manAt_w_1 N p2 m_many m_w s) N s0 = some t) (K : Sum.elim (fun e_ => Ev γ M_X7_manAt (0, 0) n h [] 32 [] Ψ) (fun r_ => Ψ (some (.int r_)) n h) t) : Ev γ M_X7_manAt (0, 0) n h [(0, .ref (gB γ + 93)), (1, .ref (gB γ + (93 + 7))), (2, .int p2), (3, .int s0)] 2 [] Ψ := by
  refine E_lp (P := fun s => Ev γ M_X7_manAt (0, 0) n h [(0, .ref (gB γ + 93)), (1, .ref (gB γ + (93 + 7))), (2, .int p2), (3, .int s)] 2 [] Ψ) (K := fun t => Sum.elim (fun e_ => Ev γ M_X7_manAt (0, 0) n h [] 32 [] Ψ) (fun r_ => Ψ (some (.int r_)) n h) t) ?_ N s0 t hf K
  intro s r hf hP hK
  obtain ⟨v3, hs⟩ : ∃ z, z = s := ⟨s, rfl⟩; subst hs
  change b_X7_manAt_w_1 N p2 m_many m_w v3 = some r at hf
  unfold b_X7_manAt_w_1 at hf
  show Ev γ M_X7_manAt (0, 0) n h [(0, .ref (gB γ + 93)), (1, .ref (gB γ + (93 + 7))), (2, .int p2), (3, .int v3)] 2 [] Ψ
  refine E_iload_n 3 dX7_manAt_2 (q := 3) rfl rfl rfl ?_
  refine E_aload_n 0 dX7_manAt_3 (q := 4) rfl rfl rfl ?_
  refine E_get 9 dX7_manAt_4 (q := 7) rfl ckX7 (Nat.le_of_ble_eq_true rfl) fl_X7_13 (hH_m.at 0 rfl) (hH_m.lt 0 (Nat.le_of_ble_eq_true rfl)) rfl ?_
  refine E_iconst (x := 1) dX7_manAt_7 (q := 8) rfl (by decide) ?_
  refine E_iald dX7_manAt_8 (q := 9) rfl (hH_m.at 2 rfl) (hH_m.lt 2 (Nat.le_of_ble_eq_true rfl)) (by decide +kernel) ?_
  refine E_icmp_ge dX7_manAt_9 (t := 32) (by decide) (q := 12) rfl (fun c2 => ?_) (fun c2 => ?_)
  · have hf := if_t c2 hf
    exact E_sub [] rfl (hK _ (Option.some.inj hf).symm)
  · have hf := if_f c2 hf
    refine E_aload_n 1 dX7_manAt_12 (q := 13) rfl rfl rfl ?_
    refine E_bipush (x := 7) dX7_manAt_13 (q := 15) rfl (by decide) ?_
    refine E_iload_n 3 dX7_manAt_15 (q := 16) rfl rfl rfl ?_
    refine E_iadd dX7_manAt_16 (q := 17) rfl ?_
    obtain ⟨g3, hf⟩ := gd hf
    refine E_iald dX7_manAt_17 (q := 18) rfl (hH_m.at 7 rfl) (hH_m.lt 7 (Nat.le_of_ble_eq_true rfl)) g3 ?_
    refine E_iload_n 2 dX7_manAt_18 (q := 19) rfl rfl rfl ?_
    refine E_iconst (x := 1) dX7_manAt_19 (q := 20) rfl (by decide) ?_
    refine E_iadd dX7_manAt_20 (q := 21) rfl ?_
    refine E_icmp_ne dX7_manAt_21 (t := 26) (by decide) (q := 24) rfl (fun c4 => ?_) (fun c4 => ?_)
    · have hf := if_f c4 hf
      refine E_iinc 3 [(3, .int (v3 + 1)), (0, .ref (gB γ + 93)), (1, .ref (gB γ + (93 + 7))), (2, .int p2)] dX7_manAt_26 (q := 29) rfl rfl rfl (Nat.le_of_ble_eq_true rfl) rfl ?_
      refine E_goto (q := 2) dX7_manAt_29 (by decide) ?_
      exact E_sub [1, 2, 3, 0] rfl (hP _ (Option.some.inj hf).symm)
    · have hf := if_t c4 hf
      refine E_iload_n 3 dX7_manAt_24 (q := 25) rfl rfl rfl ?_
      exact E_iret dX7_manAt_25 rfl (hK _ (Option.some.inj hf).symm)
set_option maxHeartbeats 4000000 in
set_option maxRecDepth 100000 in
theorem m_X7_manAt_w {γ : GX} {n : Nat} {N : Nat} {h : HP} {a2 : Int32} {m_thrown : Int32} {m_trace : Int64} {m_text : FN} {m_typed : Int32} {m_next : Int32} {m_token : Int32} {m_place : Int32} {m_value : Int32} {m_fault : Int32} {m_many : FN} {m_sees : FN} {m_cold : FN} {m_first : FN} {m_told : Int32} {m_s : FN} {m_w : FN} {m_kept : FN} {m_isKept : FN} {m_undos : FN} {m_undoMany : Int32} {m_foundMan : FN} {m_foundHours : FN} {m_foundIs : FN} {m_foundMany : Int32} {m_row : FN} {m_best : FN} (hH_m : Has n 93 (mdB γ 93 m_thrown m_trace m_text m_typed m_next m_token m_place m_value m_fault m_many m_sees m_cold m_first m_told m_s m_w m_kept m_isKept m_undos m_undoMany m_foundMan m_foundHours m_foundIs m_foundMany m_row m_best) h) {z : Int32} (hf : f_X7_manAt_w N a2 m_many m_w = some z)  : Ct γ M_X7_manAt n h [.ref (gB γ + 93), .ref (gB γ + (93 + 7)), .int a2] (Done (some (.int z)) n h) := by
  refine Ct_of_Ev (by decide) (fun h => by cases h) (Nat.le_of_ble_eq_true rfl) ?_
  show Ev γ M_X7_manAt (0, 0) n h [(0, .ref (gB γ + 93)), (1, .ref (gB γ + (93 + 7))), (2, .int a2)] 0 [] _
  unfold f_X7_manAt_w at hf
  refine E_iconst (x := 0) dX7_manAt_0 (q := 1) rfl (by decide) ?_
  refine E_istore_n [(3, .int 0), (0, .ref (gB γ + 93)), (1, .ref (gB γ + (93 + 7))), (2, .int a2)] dX7_manAt_1 (q := 2) rfl rfl (Nat.le_of_ble_eq_true rfl) rfl ?_
  obtain ⟨t5, hxt5, hf⟩ := bnd hf
  rcases t5 with t5e | t5r
  · replace hf := sum_l hf
    refine E_sub [1, 2, 3, 0] rfl ?_
    refine L_X7_manAt_w_1 hH_m hxt5 ?_
    show Ev γ M_X7_manAt _ n h [] 32 [] _
    refine E_bipush (x := (-9)) dX7_manAt_32 (q := 34) rfl (by decide) ?_
    obtain rfl := Option.some.inj hf
    exact E_iret dX7_manAt_34 rfl ⟨rfl, rfl, rfl⟩
  · replace hf := sum_r hf
    obtain rfl := Option.some.inj hf
    refine E_sub [1, 2, 3, 0] rfl ?_
    refine L_X7_manAt_w_1 hH_m hxt5 ?_
    exact ⟨rfl, rfl, rfl⟩

-- PostReliefModel.isAsleep([II)Z
def f_X7_isAsleep_s (N : Nat) (a1 : Int32) (m_s : FN) : Option (Int32) :=
  (if ix (7 + a1) 48 = true then (if (m_s (ci (7 + a1))) ≤ 0 then some 0 else (if ix (1 + a1) 48 = true then (if (m_s (ci (1 + a1))) < 40 then some 0 else some 1) else none)) else none)
set_option maxHeartbeats 4000000 in
set_option maxRecDepth 100000 in
theorem m_X7_isAsleep_s {γ : GX} {n : Nat} {N : Nat} {h : HP} {a1 : Int32} {m_thrown : Int32} {m_trace : Int64} {m_text : FN} {m_typed : Int32} {m_next : Int32} {m_token : Int32} {m_place : Int32} {m_value : Int32} {m_fault : Int32} {m_many : FN} {m_sees : FN} {m_cold : FN} {m_first : FN} {m_told : Int32} {m_s : FN} {m_w : FN} {m_kept : FN} {m_isKept : FN} {m_undos : FN} {m_undoMany : Int32} {m_foundMan : FN} {m_foundHours : FN} {m_foundIs : FN} {m_foundMany : Int32} {m_row : FN} {m_best : FN} (hH_m : Has n 93 (mdB γ 93 m_thrown m_trace m_text m_typed m_next m_token m_place m_value m_fault m_many m_sees m_cold m_first m_told m_s m_w m_kept m_isKept m_undos m_undoMany m_foundMan m_foundHours m_foundIs m_foundMany m_row m_best) h) {z : Int32} (hf : f_X7_isAsleep_s N a1 m_s = some z)  : Ct γ M_X7_isAsleep n h [.ref (gB γ + (93 + 6)), .int a1] (Done (some (.int z)) n h) := by
  refine Ct_of_Ev (by decide) (fun h => by cases h) (Nat.le_of_ble_eq_true rfl) ?_
  show Ev γ M_X7_isAsleep (0, 0) n h [(0, .ref (gB γ + (93 + 6))), (1, .int a1)] 0 [] _
  unfold f_X7_isAsleep_s at hf
  refine E_aload_n 0 dX7_isAsleep_0 (q := 1) rfl rfl rfl ?_
  refine E_bipush (x := 7) dX7_isAsleep_1 (q := 3) rfl (by decide) ?_
  refine E_iload_n 1 dX7_isAsleep_3 (q := 4) rfl rfl rfl ?_
  refine E_iadd dX7_isAsleep_4 (q := 5) rfl ?_
  obtain ⟨g1, hf⟩ := gd hf
  refine E_iald dX7_isAsleep_5 (q := 6) rfl (hH_m.at 6 rfl) (hH_m.lt 6 (Nat.le_of_ble_eq_true rfl)) g1 ?_
  refine E_if_le dX7_isAsleep_6 (t := 23) (by decide) (q := 9) rfl (fun c2 => ?_) (fun c2 => ?_)
  · have hf := if_t c2 hf
    refine E_iconst (x := 0) dX7_isAsleep_23 (q := 24) rfl (by decide) ?_
    obtain rfl := Option.some.inj hf
    exact E_zret dX7_isAsleep_24 rfl rfl ⟨rfl, rfl, rfl⟩
  · have hf := if_f c2 hf
    refine E_aload_n 0 dX7_isAsleep_9 (q := 10) rfl rfl rfl ?_
    refine E_iconst (x := 1) dX7_isAsleep_10 (q := 11) rfl (by decide) ?_
    refine E_iload_n 1 dX7_isAsleep_11 (q := 12) rfl rfl rfl ?_
    refine E_iadd dX7_isAsleep_12 (q := 13) rfl ?_
    obtain ⟨g3, hf⟩ := gd hf
    refine E_iald dX7_isAsleep_13 (q := 14) rfl (hH_m.at 6 rfl) (hH_m.lt 6 (Nat.le_of_ble_eq_true rfl)) g3 ?_
    refine E_bipush (x := 40) dX7_isAsleep_14 (q := 16) rfl (by decide) ?_
    refine E_icmp_lt dX7_isAsleep_16 (t := 23) (by decide) (q := 19) rfl (fun c4 => ?_) (fun c4 => ?_)
    · have hf := if_t c4 hf
      refine E_iconst (x := 0) dX7_isAsleep_23 (q := 24) rfl (by decide) ?_
      obtain rfl := Option.some.inj hf
      exact E_zret dX7_isAsleep_24 rfl rfl ⟨rfl, rfl, rfl⟩
    · have hf := if_f c4 hf
      refine E_iconst (x := 1) dX7_isAsleep_19 (q := 20) rfl (by decide) ?_
      refine E_goto (q := 24) dX7_isAsleep_20 (by decide) ?_
      obtain rfl := Option.some.inj hf
      exact E_zret dX7_isAsleep_24 rfl rfl ⟨rfl, rfl, rfl⟩

-- PostReliefModel.isAsleep([II)Z
def f_X7_isAsleep_w (N : Nat) (a1 : Int32) (m_w : FN) : Option (Int32) :=
  (if ix (7 + a1) 48 = true then (if (m_w (ci (7 + a1))) ≤ 0 then some 0 else (if ix (1 + a1) 48 = true then (if (m_w (ci (1 + a1))) < 40 then some 0 else some 1) else none)) else none)
set_option maxHeartbeats 4000000 in
set_option maxRecDepth 100000 in
theorem m_X7_isAsleep_w {γ : GX} {n : Nat} {N : Nat} {h : HP} {a1 : Int32} {m_thrown : Int32} {m_trace : Int64} {m_text : FN} {m_typed : Int32} {m_next : Int32} {m_token : Int32} {m_place : Int32} {m_value : Int32} {m_fault : Int32} {m_many : FN} {m_sees : FN} {m_cold : FN} {m_first : FN} {m_told : Int32} {m_s : FN} {m_w : FN} {m_kept : FN} {m_isKept : FN} {m_undos : FN} {m_undoMany : Int32} {m_foundMan : FN} {m_foundHours : FN} {m_foundIs : FN} {m_foundMany : Int32} {m_row : FN} {m_best : FN} (hH_m : Has n 93 (mdB γ 93 m_thrown m_trace m_text m_typed m_next m_token m_place m_value m_fault m_many m_sees m_cold m_first m_told m_s m_w m_kept m_isKept m_undos m_undoMany m_foundMan m_foundHours m_foundIs m_foundMany m_row m_best) h) {z : Int32} (hf : f_X7_isAsleep_w N a1 m_w = some z)  : Ct γ M_X7_isAsleep n h [.ref (gB γ + (93 + 7)), .int a1] (Done (some (.int z)) n h) := by
  refine Ct_of_Ev (by decide) (fun h => by cases h) (Nat.le_of_ble_eq_true rfl) ?_
  show Ev γ M_X7_isAsleep (0, 0) n h [(0, .ref (gB γ + (93 + 7))), (1, .int a1)] 0 [] _
  unfold f_X7_isAsleep_w at hf
  refine E_aload_n 0 dX7_isAsleep_0 (q := 1) rfl rfl rfl ?_
  refine E_bipush (x := 7) dX7_isAsleep_1 (q := 3) rfl (by decide) ?_
  refine E_iload_n 1 dX7_isAsleep_3 (q := 4) rfl rfl rfl ?_
  refine E_iadd dX7_isAsleep_4 (q := 5) rfl ?_
  obtain ⟨g1, hf⟩ := gd hf
  refine E_iald dX7_isAsleep_5 (q := 6) rfl (hH_m.at 7 rfl) (hH_m.lt 7 (Nat.le_of_ble_eq_true rfl)) g1 ?_
  refine E_if_le dX7_isAsleep_6 (t := 23) (by decide) (q := 9) rfl (fun c2 => ?_) (fun c2 => ?_)
  · have hf := if_t c2 hf
    refine E_iconst (x := 0) dX7_isAsleep_23 (q := 24) rfl (by decide) ?_
    obtain rfl := Option.some.inj hf
    exact E_zret dX7_isAsleep_24 rfl rfl ⟨rfl, rfl, rfl⟩
  · have hf := if_f c2 hf
    refine E_aload_n 0 dX7_isAsleep_9 (q := 10) rfl rfl rfl ?_
    refine E_iconst (x := 1) dX7_isAsleep_10 (q := 11) rfl (by decide) ?_
    refine E_iload_n 1 dX7_isAsleep_11 (q := 12) rfl rfl rfl ?_
    refine E_iadd dX7_isAsleep_12 (q := 13) rfl ?_
    obtain ⟨g3, hf⟩ := gd hf
    refine E_iald dX7_isAsleep_13 (q := 14) rfl (hH_m.at 7 rfl) (hH_m.lt 7 (Nat.le_of_ble_eq_true rfl)) g3 ?_
    refine E_bipush (x := 40) dX7_isAsleep_14 (q := 16) rfl (by decide) ?_
    refine E_icmp_lt dX7_isAsleep_16 (t := 23) (by decide) (q := 19) rfl (fun c4 => ?_) (fun c4 => ?_)
    · have hf := if_t c4 hf
      refine E_iconst (x := 0) dX7_isAsleep_23 (q := 24) rfl (by decide) ?_
      obtain rfl := Option.some.inj hf
      exact E_zret dX7_isAsleep_24 rfl rfl ⟨rfl, rfl, rfl⟩
    · have hf := if_f c4 hf
      refine E_iconst (x := 1) dX7_isAsleep_19 (q := 20) rfl (by decide) ?_
      refine E_goto (q := 24) dX7_isAsleep_20 (by decide) ?_
      obtain rfl := Option.some.inj hf
      exact E_zret dX7_isAsleep_24 rfl rfl ⟨rfl, rfl, rfl⟩

-- PostReliefModel.standing([I)I
def b_X7_standing_s_1 (N : Nat) (m_many : FN) (m_s : FN) (v2 : Int32) (v3 : Int32) : Option ((Int32 × Int32) ⊕ (Int32)) :=
  (if (m_many (ci 1)) ≤ v3 then some (.inr v2) else (if ix (7 + v3) 48 = true then (if (m_s (ci (7 + v3))) ≤ 0 then some (.inl ((v2 ||| 0), (v3 + 1))) else some (.inl ((v2 ||| ((1 : Int32) <<< (((m_s (ci (7 + v3))) - 1) &&& 31))), (v3 + 1)))) else none))
def f_X7_standing_s (N : Nat) (m_many : FN) (m_s : FN) : Option (Int32) :=
  ((lp (fun s => b_X7_standing_s_1 N m_many m_s s.1 s.2) N (0, 0)).bind fun t5 => some t5)
set_option maxHeartbeats 4000000 in
set_option maxRecDepth 100000 in
theorem L_X7_standing_s_1 {γ : GX} {n : Nat} {h : HP} {Ψ : PS} {N : Nat} {m_thrown : Int32} {m_trace : Int64} {m_text : FN} {m_typed : Int32} {m_next : Int32} {m_token : Int32} {m_place : Int32} {m_value : Int32} {m_fault : Int32} {m_many : FN} {m_sees : FN} {m_cold : FN} {m_first : FN} {m_told : Int32} {m_s : FN} {m_w : FN} {m_kept : FN} {m_isKept : FN} {m_undos : FN} {m_undoMany : Int32} {m_foundMan : FN} {m_foundHours : FN} {m_foundIs : FN} {m_foundMany : Int32} {m_row : FN} {m_best : FN} (hH_m : Has n 93 (mdB γ 93 m_thrown m_trace m_text m_typed m_next m_token m_place m_value m_fault m_many m_sees m_cold m_first m_told m_s m_w m_kept m_isKept m_undos m_undoMany m_foundMan m_foundHours m_foundIs m_foundMany m_row m_best) h) {s0 : Int32 × Int32} {t : Int32} (hf : lp (fun s => b_X7_standing_s_1 N m_many m_s s.1 s.2) N s0 = some t) (K : Ev γ M_X7_standing (0, 0) n h [(2, .int t)] 46 [] Ψ) : Ev γ M_X7_standing (0, 0) n h [(0, .ref (gB γ + 93)), (1, .ref (gB γ + (93 + 6))), (2, .int s0.1), (3, .int s0.2)] 4 [] Ψ := by
  refine E_lp (P := fun s => Ev γ M_X7_standing (0, 0) n h [(0, .ref (gB γ + 93)), (1, .ref (gB γ + (93 + 6))), (2, .int s.1), (3, .int s.2)] 4 [] Ψ) (K := fun t => Ev γ M_X7_standing (0, 0) n h [(2, .int t)] 46 [] Ψ) ?_ N s0 t hf K
  intro s r hf hP hK
  obtain ⟨v2, v3⟩ := s
  change b_X7_standing_s_1 N m_many m_s v2 v3 = some r at hf
  unfold b_X7_standing_s_1 at hf
  show Ev γ M_X7_standing (0, 0) n h [(0, .ref (gB γ + 93)), (1, .ref (gB γ + (93 + 6))), (2, .int v2), (3, .int v3)] 4 [] Ψ
  refine E_iload_n 3 dX7_standing_4 (q := 5) rfl rfl rfl ?_
  refine E_aload_n 0 dX7_standing_5 (q := 6) rfl rfl rfl ?_
  refine E_get 9 dX7_standing_6 (q := 9) rfl ckX7 (Nat.le_of_ble_eq_true rfl) fl_X7_13 (hH_m.at 0 rfl) (hH_m.lt 0 (Nat.le_of_ble_eq_true rfl)) rfl ?_
  refine E_iconst (x := 1) dX7_standing_9 (q := 10) rfl (by decide) ?_
  refine E_iald dX7_standing_10 (q := 11) rfl (hH_m.at 2 rfl) (hH_m.lt 2 (Nat.le_of_ble_eq_true rfl)) (by decide +kernel) ?_
  refine E_icmp_ge dX7_standing_11 (t := 46) (by decide) (q := 14) rfl (fun c2 => ?_) (fun c2 => ?_)
  · have hf := if_t c2 hf
    exact E_sub [2] rfl (hK _ (Option.some.inj hf).symm)
  · have hf := if_f c2 hf
    refine E_iload_n 2 dX7_standing_14 (q := 15) rfl rfl rfl ?_
    refine E_aload_n 1 dX7_standing_15 (q := 16) rfl rfl rfl ?_
    refine E_bipush (x := 7) dX7_standing_16 (q := 18) rfl (by decide) ?_
    refine E_iload_n 3 dX7_standing_18 (q := 19) rfl rfl rfl ?_
    refine E_iadd dX7_standing_19 (q := 20) rfl ?_
    obtain ⟨g3, hf⟩ := gd hf
    refine E_iald dX7_standing_20 (q := 21) rfl (hH_m.at 6 rfl) (hH_m.lt 6 (Nat.le_of_ble_eq_true rfl)) g3 ?_
    refine E_if_le dX7_standing_21 (t := 37) (by decide) (q := 24) rfl (fun c4 => ?_) (fun c4 => ?_)
    · have hf := if_t c4 hf
      refine E_iconst (x := 0) dX7_standing_37 (q := 38) rfl (by decide) ?_
      refine E_ior dX7_standing_38 (q := 39) rfl ?_
      refine E_istore_n [(2, .int (v2 ||| 0)), (0, .ref (gB γ + 93)), (1, .ref (gB γ + (93 + 6))), (3, .int v3)] dX7_standing_39 (q := 40) rfl rfl (Nat.le_of_ble_eq_true rfl) rfl ?_
      refine E_iinc 3 [(3, .int (v3 + 1)), (2, .int (v2 ||| 0)), (0, .ref (gB γ + 93)), (1, .ref (gB γ + (93 + 6)))] dX7_standing_40 (q := 43) rfl rfl rfl (Nat.le_of_ble_eq_true rfl) rfl ?_
      refine E_goto (q := 4) dX7_standing_43 (by decide) ?_
      exact E_sub [2, 3, 1, 0] rfl (hP _ (Option.some.inj hf).symm)
    · have hf := if_f c4 hf
      refine E_iconst (x := 1) dX7_standing_24 (q := 25) rfl (by decide) ?_
      refine E_aload_n 1 dX7_standing_25 (q := 26) rfl rfl rfl ?_
      refine E_bipush (x := 7) dX7_standing_26 (q := 28) rfl (by decide) ?_
      refine E_iload_n 3 dX7_standing_28 (q := 29) rfl rfl rfl ?_
      refine E_iadd dX7_standing_29 (q := 30) rfl ?_
      refine E_iald dX7_standing_30 (q := 31) rfl (hH_m.at 6 rfl) (hH_m.lt 6 (Nat.le_of_ble_eq_true rfl)) g3 ?_
      refine E_iconst (x := 1) dX7_standing_31 (q := 32) rfl (by decide) ?_
      refine E_isub dX7_standing_32 (q := 33) rfl ?_
      refine E_ishl dX7_standing_33 (q := 34) rfl ?_
      refine E_goto (q := 38) dX7_standing_34 (by decide) ?_
      refine E_ior dX7_standing_38 (q := 39) rfl ?_
      refine E_istore_n [(2, .int (v2 ||| ((1 : Int32) <<< (((m_s (ci (7 + v3))) - 1) &&& 31)))), (0, .ref (gB γ + 93)), (1, .ref (gB γ + (93 + 6))), (3, .int v3)] dX7_standing_39 (q := 40) rfl rfl (Nat.le_of_ble_eq_true rfl) rfl ?_
      refine E_iinc 3 [(3, .int (v3 + 1)), (2, .int (v2 ||| ((1 : Int32) <<< (((m_s (ci (7 + v3))) - 1) &&& 31)))), (0, .ref (gB γ + 93)), (1, .ref (gB γ + (93 + 6)))] dX7_standing_40 (q := 43) rfl rfl rfl (Nat.le_of_ble_eq_true rfl) rfl ?_
      refine E_goto (q := 4) dX7_standing_43 (by decide) ?_
      exact E_sub [2, 3, 1, 0] rfl (hP _ (Option.some.inj hf).symm)
set_option maxHeartbeats 4000000 in
set_option maxRecDepth 100000 in
theorem m_X7_standing_s {γ : GX} {n : Nat} {N : Nat} {h : HP} {m_thrown : Int32} {m_trace : Int64} {m_text : FN} {m_typed : Int32} {m_next : Int32} {m_token : Int32} {m_place : Int32} {m_value : Int32} {m_fault : Int32} {m_many : FN} {m_sees : FN} {m_cold : FN} {m_first : FN} {m_told : Int32} {m_s : FN} {m_w : FN} {m_kept : FN} {m_isKept : FN} {m_undos : FN} {m_undoMany : Int32} {m_foundMan : FN} {m_foundHours : FN} {m_foundIs : FN} {m_foundMany : Int32} {m_row : FN} {m_best : FN} (hH_m : Has n 93 (mdB γ 93 m_thrown m_trace m_text m_typed m_next m_token m_place m_value m_fault m_many m_sees m_cold m_first m_told m_s m_w m_kept m_isKept m_undos m_undoMany m_foundMan m_foundHours m_foundIs m_foundMany m_row m_best) h) {z : Int32} (hf : f_X7_standing_s N m_many m_s = some z)  : Ct γ M_X7_standing n h [.ref (gB γ + 93), .ref (gB γ + (93 + 6))] (Done (some (.int z)) n h) := by
  refine Ct_of_Ev (by decide) (fun h => by cases h) (Nat.le_of_ble_eq_true rfl) ?_
  show Ev γ M_X7_standing (0, 0) n h [(0, .ref (gB γ + 93)), (1, .ref (gB γ + (93 + 6)))] 0 [] _
  unfold f_X7_standing_s at hf
  refine E_iconst (x := 0) dX7_standing_0 (q := 1) rfl (by decide) ?_
  refine E_istore_n [(2, .int 0), (0, .ref (gB γ + 93)), (1, .ref (gB γ + (93 + 6)))] dX7_standing_1 (q := 2) rfl rfl (Nat.le_of_ble_eq_true rfl) rfl ?_
  refine E_iconst (x := 0) dX7_standing_2 (q := 3) rfl (by decide) ?_
  refine E_istore_n [(3, .int 0), (2, .int 0), (0, .ref (gB γ + 93)), (1, .ref (gB γ + (93 + 6)))] dX7_standing_3 (q := 4) rfl rfl (Nat.le_of_ble_eq_true rfl) rfl ?_
  obtain ⟨t5, hxt5, hf⟩ := bnd hf
  refine E_sub [2, 3, 1, 0] rfl ?_
  refine L_X7_standing_s_1 hH_m hxt5 ?_
  show Ev γ M_X7_standing _ n h [(2, .int t5)] 46 [] _
  refine E_iload_n 0 dX7_standing_46 (q := 47) rfl rfl rfl ?_
  obtain rfl := Option.some.inj hf
  exact E_iret dX7_standing_47 rfl ⟨rfl, rfl, rfl⟩

-- PostReliefModel.standing([I)I
def b_X7_standing_w_1 (N : Nat) (m_many : FN) (m_w : FN) (v2 : Int32) (v3 : Int32) : Option ((Int32 × Int32) ⊕ (Int32)) :=
  (if (m_many (ci 1)) ≤ v3 then some (.inr v2) else (if ix (7 + v3) 48 = true then (if (m_w (ci (7 + v3))) ≤ 0 then some (.inl ((v2 ||| 0), (v3 + 1))) else some (.inl ((v2 ||| ((1 : Int32) <<< (((m_w (ci (7 + v3))) - 1) &&& 31))), (v3 + 1)))) else none))
def f_X7_standing_w (N : Nat) (m_many : FN) (m_w : FN) : Option (Int32) :=
  ((lp (fun s => b_X7_standing_w_1 N m_many m_w s.1 s.2) N (0, 0)).bind fun t5 => some t5)
set_option maxHeartbeats 4000000 in
set_option maxRecDepth 100000 in
theorem L_X7_standing_w_1 {γ : GX} {n : Nat} {h : HP} {Ψ : PS} {N : Nat} {m_thrown : Int32} {m_trace : Int64} {m_text : FN} {m_typed : Int32} {m_next : Int32} {m_token : Int32} {m_place : Int32} {m_value : Int32} {m_fault : Int32} {m_many : FN} {m_sees : FN} {m_cold : FN} {m_first : FN} {m_told : Int32} {m_s : FN} {m_w : FN} {m_kept : FN} {m_isKept : FN} {m_undos : FN} {m_undoMany : Int32} {m_foundMan : FN} {m_foundHours : FN} {m_foundIs : FN} {m_foundMany : Int32} {m_row : FN} {m_best : FN} (hH_m : Has n 93 (mdB γ 93 m_thrown m_trace m_text m_typed m_next m_token m_place m_value m_fault m_many m_sees m_cold m_first m_told m_s m_w m_kept m_isKept m_undos m_undoMany m_foundMan m_foundHours m_foundIs m_foundMany m_row m_best) h) {s0 : Int32 × Int32} {t : Int32} (hf : lp (fun s => b_X7_standing_w_1 N m_many m_w s.1 s.2) N s0 = some t) (K : Ev γ M_X7_standing (0, 0) n h [(2, .int t)] 46 [] Ψ) : Ev γ M_X7_standing (0, 0) n h [(0, .ref (gB γ + 93)), (1, .ref (gB γ + (93 + 7))), (2, .int s0.1), (3, .int s0.2)] 4 [] Ψ := by
  refine E_lp (P := fun s => Ev γ M_X7_standing (0, 0) n h [(0, .ref (gB γ + 93)), (1, .ref (gB γ + (93 + 7))), (2, .int s.1), (3, .int s.2)] 4 [] Ψ) (K := fun t => Ev γ M_X7_standing (0, 0) n h [(2, .int t)] 46 [] Ψ) ?_ N s0 t hf K
  intro s r hf hP hK
  obtain ⟨v2, v3⟩ := s
  change b_X7_standing_w_1 N m_many m_w v2 v3 = some r at hf
  unfold b_X7_standing_w_1 at hf
  show Ev γ M_X7_standing (0, 0) n h [(0, .ref (gB γ + 93)), (1, .ref (gB γ + (93 + 7))), (2, .int v2), (3, .int v3)] 4 [] Ψ
  refine E_iload_n 3 dX7_standing_4 (q := 5) rfl rfl rfl ?_
  refine E_aload_n 0 dX7_standing_5 (q := 6) rfl rfl rfl ?_
  refine E_get 9 dX7_standing_6 (q := 9) rfl ckX7 (Nat.le_of_ble_eq_true rfl) fl_X7_13 (hH_m.at 0 rfl) (hH_m.lt 0 (Nat.le_of_ble_eq_true rfl)) rfl ?_
  refine E_iconst (x := 1) dX7_standing_9 (q := 10) rfl (by decide) ?_
  refine E_iald dX7_standing_10 (q := 11) rfl (hH_m.at 2 rfl) (hH_m.lt 2 (Nat.le_of_ble_eq_true rfl)) (by decide +kernel) ?_
  refine E_icmp_ge dX7_standing_11 (t := 46) (by decide) (q := 14) rfl (fun c2 => ?_) (fun c2 => ?_)
  · have hf := if_t c2 hf
    exact E_sub [2] rfl (hK _ (Option.some.inj hf).symm)
  · have hf := if_f c2 hf
    refine E_iload_n 2 dX7_standing_14 (q := 15) rfl rfl rfl ?_
    refine E_aload_n 1 dX7_standing_15 (q := 16) rfl rfl rfl ?_
    refine E_bipush (x := 7) dX7_standing_16 (q := 18) rfl (by decide) ?_
    refine E_iload_n 3 dX7_standing_18 (q := 19) rfl rfl rfl ?_
    refine E_iadd dX7_standing_19 (q := 20) rfl ?_
    obtain ⟨g3, hf⟩ := gd hf
    refine E_iald dX7_standing_20 (q := 21) rfl (hH_m.at 7 rfl) (hH_m.lt 7 (Nat.le_of_ble_eq_true rfl)) g3 ?_
    refine E_if_le dX7_standing_21 (t := 37) (by decide) (q := 24) rfl (fun c4 => ?_) (fun c4 => ?_)
    · have hf := if_t c4 hf
      refine E_iconst (x := 0) dX7_standing_37 (q := 38) rfl (by decide) ?_
      refine E_ior dX7_standing_38 (q := 39) rfl ?_
      refine E_istore_n [(2, .int (v2 ||| 0)), (0, .ref (gB γ + 93)), (1, .ref (gB γ + (93 + 7))), (3, .int v3)] dX7_standing_39 (q := 40) rfl rfl (Nat.le_of_ble_eq_true rfl) rfl ?_
      refine E_iinc 3 [(3, .int (v3 + 1)), (2, .int (v2 ||| 0)), (0, .ref (gB γ + 93)), (1, .ref (gB γ + (93 + 7)))] dX7_standing_40 (q := 43) rfl rfl rfl (Nat.le_of_ble_eq_true rfl) rfl ?_
      refine E_goto (q := 4) dX7_standing_43 (by decide) ?_
      exact E_sub [2, 3, 1, 0] rfl (hP _ (Option.some.inj hf).symm)
    · have hf := if_f c4 hf
      refine E_iconst (x := 1) dX7_standing_24 (q := 25) rfl (by decide) ?_
      refine E_aload_n 1 dX7_standing_25 (q := 26) rfl rfl rfl ?_
      refine E_bipush (x := 7) dX7_standing_26 (q := 28) rfl (by decide) ?_
      refine E_iload_n 3 dX7_standing_28 (q := 29) rfl rfl rfl ?_
      refine E_iadd dX7_standing_29 (q := 30) rfl ?_
      refine E_iald dX7_standing_30 (q := 31) rfl (hH_m.at 7 rfl) (hH_m.lt 7 (Nat.le_of_ble_eq_true rfl)) g3 ?_
      refine E_iconst (x := 1) dX7_standing_31 (q := 32) rfl (by decide) ?_
      refine E_isub dX7_standing_32 (q := 33) rfl ?_
      refine E_ishl dX7_standing_33 (q := 34) rfl ?_
      refine E_goto (q := 38) dX7_standing_34 (by decide) ?_
      refine E_ior dX7_standing_38 (q := 39) rfl ?_
      refine E_istore_n [(2, .int (v2 ||| ((1 : Int32) <<< (((m_w (ci (7 + v3))) - 1) &&& 31)))), (0, .ref (gB γ + 93)), (1, .ref (gB γ + (93 + 7))), (3, .int v3)] dX7_standing_39 (q := 40) rfl rfl (Nat.le_of_ble_eq_true rfl) rfl ?_
      refine E_iinc 3 [(3, .int (v3 + 1)), (2, .int (v2 ||| ((1 : Int32) <<< (((m_w (ci (7 + v3))) - 1) &&& 31)))), (0, .ref (gB γ + 93)), (1, .ref (gB γ + (93 + 7)))] dX7_standing_40 (q := 43) rfl rfl rfl (Nat.le_of_ble_eq_true rfl) rfl ?_
      refine E_goto (q := 4) dX7_standing_43 (by decide) ?_
      exact E_sub [2, 3, 1, 0] rfl (hP _ (Option.some.inj hf).symm)
set_option maxHeartbeats 4000000 in
set_option maxRecDepth 100000 in
theorem m_X7_standing_w {γ : GX} {n : Nat} {N : Nat} {h : HP} {m_thrown : Int32} {m_trace : Int64} {m_text : FN} {m_typed : Int32} {m_next : Int32} {m_token : Int32} {m_place : Int32} {m_value : Int32} {m_fault : Int32} {m_many : FN} {m_sees : FN} {m_cold : FN} {m_first : FN} {m_told : Int32} {m_s : FN} {m_w : FN} {m_kept : FN} {m_isKept : FN} {m_undos : FN} {m_undoMany : Int32} {m_foundMan : FN} {m_foundHours : FN} {m_foundIs : FN} {m_foundMany : Int32} {m_row : FN} {m_best : FN} (hH_m : Has n 93 (mdB γ 93 m_thrown m_trace m_text m_typed m_next m_token m_place m_value m_fault m_many m_sees m_cold m_first m_told m_s m_w m_kept m_isKept m_undos m_undoMany m_foundMan m_foundHours m_foundIs m_foundMany m_row m_best) h) {z : Int32} (hf : f_X7_standing_w N m_many m_w = some z)  : Ct γ M_X7_standing n h [.ref (gB γ + 93), .ref (gB γ + (93 + 7))] (Done (some (.int z)) n h) := by
  refine Ct_of_Ev (by decide) (fun h => by cases h) (Nat.le_of_ble_eq_true rfl) ?_
  show Ev γ M_X7_standing (0, 0) n h [(0, .ref (gB γ + 93)), (1, .ref (gB γ + (93 + 7)))] 0 [] _
  unfold f_X7_standing_w at hf
  refine E_iconst (x := 0) dX7_standing_0 (q := 1) rfl (by decide) ?_
  refine E_istore_n [(2, .int 0), (0, .ref (gB γ + 93)), (1, .ref (gB γ + (93 + 7)))] dX7_standing_1 (q := 2) rfl rfl (Nat.le_of_ble_eq_true rfl) rfl ?_
  refine E_iconst (x := 0) dX7_standing_2 (q := 3) rfl (by decide) ?_
  refine E_istore_n [(3, .int 0), (2, .int 0), (0, .ref (gB γ + 93)), (1, .ref (gB γ + (93 + 7)))] dX7_standing_3 (q := 4) rfl rfl (Nat.le_of_ble_eq_true rfl) rfl ?_
  obtain ⟨t5, hxt5, hf⟩ := bnd hf
  refine E_sub [2, 3, 1, 0] rfl ?_
  refine L_X7_standing_w_1 hH_m hxt5 ?_
  show Ev γ M_X7_standing _ n h [(2, .int t5)] 46 [] _
  refine E_iload_n 0 dX7_standing_46 (q := 47) rfl rfl rfl ?_
  obtain rfl := Option.some.inj hf
  exact E_iret dX7_standing_47 rfl ⟨rfl, rfl, rfl⟩

-- PostReliefModel.asleep([I)I
def b_X7_asleep_s_1 (N : Nat) (m_many : FN) (m_s : FN) (v2 : Int32) (v3 : Int32) : Option ((Int32 × Int32) ⊕ (Int32)) :=
  (if (m_many (ci 1)) ≤ v3 then some (.inr v2) else ((f_X7_isAsleep_s N v3 m_s).bind fun z3 => (if z3 = 0 then some (.inl ((v2 ||| 0), (v3 + 1))) else (if ix (7 + v3) 48 = true then some (.inl ((v2 ||| ((1 : Int32) <<< (((m_s (ci (7 + v3))) - 1) &&& 31))), (v3 + 1))) else none))))
def f_X7_asleep_s (N : Nat) (m_many : FN) (m_s : FN) : Option (Int32) :=
  ((lp (fun s => b_X7_asleep_s_1 N m_many m_s s.1 s.2) N (0, 0)).bind fun t6 => some t6)
set_option maxHeartbeats 4000000 in
set_option maxRecDepth 100000 in
theorem L_X7_asleep_s_1 {γ : GX} {n : Nat} {h : HP} {Ψ : PS} {N : Nat} {m_thrown : Int32} {m_trace : Int64} {m_text : FN} {m_typed : Int32} {m_next : Int32} {m_token : Int32} {m_place : Int32} {m_value : Int32} {m_fault : Int32} {m_many : FN} {m_sees : FN} {m_cold : FN} {m_first : FN} {m_told : Int32} {m_s : FN} {m_w : FN} {m_kept : FN} {m_isKept : FN} {m_undos : FN} {m_undoMany : Int32} {m_foundMan : FN} {m_foundHours : FN} {m_foundIs : FN} {m_foundMany : Int32} {m_row : FN} {m_best : FN} (hH_m : Has n 93 (mdB γ 93 m_thrown m_trace m_text m_typed m_next m_token m_place m_value m_fault m_many m_sees m_cold m_first m_told m_s m_w m_kept m_isKept m_undos m_undoMany m_foundMan m_foundHours m_foundIs m_foundMany m_row m_best) h) {s0 : Int32 × Int32} {t : Int32} (hf : lp (fun s => b_X7_asleep_s_1 N m_many m_s s.1 s.2) N s0 = some t) (K : Ev γ M_X7_asleep (0, 0) n h [(2, .int t)] 45 [] Ψ) : Ev γ M_X7_asleep (0, 0) n h [(0, .ref (gB γ + 93)), (1, .ref (gB γ + (93 + 6))), (2, .int s0.1), (3, .int s0.2)] 4 [] Ψ := by
  refine E_lp (P := fun s => Ev γ M_X7_asleep (0, 0) n h [(0, .ref (gB γ + 93)), (1, .ref (gB γ + (93 + 6))), (2, .int s.1), (3, .int s.2)] 4 [] Ψ) (K := fun t => Ev γ M_X7_asleep (0, 0) n h [(2, .int t)] 45 [] Ψ) ?_ N s0 t hf K
  intro s r hf hP hK
  obtain ⟨v2, v3⟩ := s
  change b_X7_asleep_s_1 N m_many m_s v2 v3 = some r at hf
  unfold b_X7_asleep_s_1 at hf
  show Ev γ M_X7_asleep (0, 0) n h [(0, .ref (gB γ + 93)), (1, .ref (gB γ + (93 + 6))), (2, .int v2), (3, .int v3)] 4 [] Ψ
  refine E_iload_n 3 dX7_asleep_4 (q := 5) rfl rfl rfl ?_
  refine E_aload_n 0 dX7_asleep_5 (q := 6) rfl rfl rfl ?_
  refine E_get 9 dX7_asleep_6 (q := 9) rfl ckX7 (Nat.le_of_ble_eq_true rfl) fl_X7_13 (hH_m.at 0 rfl) (hH_m.lt 0 (Nat.le_of_ble_eq_true rfl)) rfl ?_
  refine E_iconst (x := 1) dX7_asleep_9 (q := 10) rfl (by decide) ?_
  refine E_iald dX7_asleep_10 (q := 11) rfl (hH_m.at 2 rfl) (hH_m.lt 2 (Nat.le_of_ble_eq_true rfl)) (by decide +kernel) ?_
  refine E_icmp_ge dX7_asleep_11 (t := 45) (by decide) (q := 14) rfl (fun c2 => ?_) (fun c2 => ?_)
  · have hf := if_t c2 hf
    exact E_sub [2] rfl (hK _ (Option.some.inj hf).symm)
  · have hf := if_f c2 hf
    refine E_iload_n 2 dX7_asleep_14 (q := 15) rfl rfl rfl ?_
    refine E_aload_n 1 dX7_asleep_15 (q := 16) rfl rfl rfl ?_
    refine E_iload_n 3 dX7_asleep_16 (q := 17) rfl rfl rfl ?_
    obtain ⟨z3, hxz3, hf⟩ := bnd hf
    refine E_cS (as := [.ref (gB γ + (93 + 6)), .int v3]) (rest := [.int v2]) (u' := (0, 0)) (st' := [.int z3, .int v2]) dX7_asleep_17 (q := 20) rfl lkm_X7_isAsleep lks_X7_131 (Nat.le_of_ble_eq_true rfl) ⟨Nat.le_refl _, Nat.le_refl _⟩ (Nat.le_of_ble_eq_true rfl) rfl rfl (m_X7_isAsleep_s (N := N)  hH_m hxz3) rfl rfl rfl ?_
    refine E_if_eq dX7_asleep_20 (t := 36) (by decide) (q := 23) rfl (fun c4 => ?_) (fun c4 => ?_)
    · have hf := if_t c4 hf
      refine E_iconst (x := 0) dX7_asleep_36 (q := 37) rfl (by decide) ?_
      refine E_ior dX7_asleep_37 (q := 38) rfl ?_
      refine E_istore_n [(2, .int (v2 ||| 0)), (0, .ref (gB γ + 93)), (1, .ref (gB γ + (93 + 6))), (3, .int v3)] dX7_asleep_38 (q := 39) rfl rfl (Nat.le_of_ble_eq_true rfl) rfl ?_
      refine E_iinc 3 [(3, .int (v3 + 1)), (2, .int (v2 ||| 0)), (0, .ref (gB γ + 93)), (1, .ref (gB γ + (93 + 6)))] dX7_asleep_39 (q := 42) rfl rfl rfl (Nat.le_of_ble_eq_true rfl) rfl ?_
      refine E_goto (q := 4) dX7_asleep_42 (by decide) ?_
      exact E_sub [2, 3, 1, 0] rfl (hP _ (Option.some.inj hf).symm)
    · have hf := if_f c4 hf
      refine E_iconst (x := 1) dX7_asleep_23 (q := 24) rfl (by decide) ?_
      refine E_aload_n 1 dX7_asleep_24 (q := 25) rfl rfl rfl ?_
      refine E_bipush (x := 7) dX7_asleep_25 (q := 27) rfl (by decide) ?_
      refine E_iload_n 3 dX7_asleep_27 (q := 28) rfl rfl rfl ?_
      refine E_iadd dX7_asleep_28 (q := 29) rfl ?_
      obtain ⟨g5, hf⟩ := gd hf
      refine E_iald dX7_asleep_29 (q := 30) rfl (hH_m.at 6 rfl) (hH_m.lt 6 (Nat.le_of_ble_eq_true rfl)) g5 ?_
      refine E_iconst (x := 1) dX7_asleep_30 (q := 31) rfl (by decide) ?_
      refine E_isub dX7_asleep_31 (q := 32) rfl ?_
      refine E_ishl dX7_asleep_32 (q := 33) rfl ?_
      refine E_goto (q := 37) dX7_asleep_33 (by decide) ?_
      refine E_ior dX7_asleep_37 (q := 38) rfl ?_
      refine E_istore_n [(2, .int (v2 ||| ((1 : Int32) <<< (((m_s (ci (7 + v3))) - 1) &&& 31)))), (0, .ref (gB γ + 93)), (1, .ref (gB γ + (93 + 6))), (3, .int v3)] dX7_asleep_38 (q := 39) rfl rfl (Nat.le_of_ble_eq_true rfl) rfl ?_
      refine E_iinc 3 [(3, .int (v3 + 1)), (2, .int (v2 ||| ((1 : Int32) <<< (((m_s (ci (7 + v3))) - 1) &&& 31)))), (0, .ref (gB γ + 93)), (1, .ref (gB γ + (93 + 6)))] dX7_asleep_39 (q := 42) rfl rfl rfl (Nat.le_of_ble_eq_true rfl) rfl ?_
      refine E_goto (q := 4) dX7_asleep_42 (by decide) ?_
      exact E_sub [2, 3, 1, 0] rfl (hP _ (Option.some.inj hf).symm)
set_option maxHeartbeats 4000000 in
set_option maxRecDepth 100000 in
theorem m_X7_asleep_s {γ : GX} {n : Nat} {N : Nat} {h : HP} {m_thrown : Int32} {m_trace : Int64} {m_text : FN} {m_typed : Int32} {m_next : Int32} {m_token : Int32} {m_place : Int32} {m_value : Int32} {m_fault : Int32} {m_many : FN} {m_sees : FN} {m_cold : FN} {m_first : FN} {m_told : Int32} {m_s : FN} {m_w : FN} {m_kept : FN} {m_isKept : FN} {m_undos : FN} {m_undoMany : Int32} {m_foundMan : FN} {m_foundHours : FN} {m_foundIs : FN} {m_foundMany : Int32} {m_row : FN} {m_best : FN} (hH_m : Has n 93 (mdB γ 93 m_thrown m_trace m_text m_typed m_next m_token m_place m_value m_fault m_many m_sees m_cold m_first m_told m_s m_w m_kept m_isKept m_undos m_undoMany m_foundMan m_foundHours m_foundIs m_foundMany m_row m_best) h) {z : Int32} (hf : f_X7_asleep_s N m_many m_s = some z)  : Ct γ M_X7_asleep n h [.ref (gB γ + 93), .ref (gB γ + (93 + 6))] (Done (some (.int z)) n h) := by
  refine Ct_of_Ev (by decide) (fun h => by cases h) (Nat.le_of_ble_eq_true rfl) ?_
  show Ev γ M_X7_asleep (0, 0) n h [(0, .ref (gB γ + 93)), (1, .ref (gB γ + (93 + 6)))] 0 [] _
  unfold f_X7_asleep_s at hf
  refine E_iconst (x := 0) dX7_asleep_0 (q := 1) rfl (by decide) ?_
  refine E_istore_n [(2, .int 0), (0, .ref (gB γ + 93)), (1, .ref (gB γ + (93 + 6)))] dX7_asleep_1 (q := 2) rfl rfl (Nat.le_of_ble_eq_true rfl) rfl ?_
  refine E_iconst (x := 0) dX7_asleep_2 (q := 3) rfl (by decide) ?_
  refine E_istore_n [(3, .int 0), (2, .int 0), (0, .ref (gB γ + 93)), (1, .ref (gB γ + (93 + 6)))] dX7_asleep_3 (q := 4) rfl rfl (Nat.le_of_ble_eq_true rfl) rfl ?_
  obtain ⟨t6, hxt6, hf⟩ := bnd hf
  refine E_sub [2, 3, 1, 0] rfl ?_
  refine L_X7_asleep_s_1 hH_m hxt6 ?_
  show Ev γ M_X7_asleep _ n h [(2, .int t6)] 45 [] _
  refine E_iload_n 0 dX7_asleep_45 (q := 46) rfl rfl rfl ?_
  obtain rfl := Option.some.inj hf
  exact E_iret dX7_asleep_46 rfl ⟨rfl, rfl, rfl⟩

-- PostReliefModel.asleep([I)I
def b_X7_asleep_w_1 (N : Nat) (m_many : FN) (m_w : FN) (v2 : Int32) (v3 : Int32) : Option ((Int32 × Int32) ⊕ (Int32)) :=
  (if (m_many (ci 1)) ≤ v3 then some (.inr v2) else ((f_X7_isAsleep_w N v3 m_w).bind fun z3 => (if z3 = 0 then some (.inl ((v2 ||| 0), (v3 + 1))) else (if ix (7 + v3) 48 = true then some (.inl ((v2 ||| ((1 : Int32) <<< (((m_w (ci (7 + v3))) - 1) &&& 31))), (v3 + 1))) else none))))
def f_X7_asleep_w (N : Nat) (m_many : FN) (m_w : FN) : Option (Int32) :=
  ((lp (fun s => b_X7_asleep_w_1 N m_many m_w s.1 s.2) N (0, 0)).bind fun t6 => some t6)
set_option maxHeartbeats 4000000 in
set_option maxRecDepth 100000 in
theorem L_X7_asleep_w_1 {γ : GX} {n : Nat} {h : HP} {Ψ : PS} {N : Nat} {m_thrown : Int32} {m_trace : Int64} {m_text : FN} {m_typed : Int32} {m_next : Int32} {m_token : Int32} {m_place : Int32} {m_value : Int32} {m_fault : Int32} {m_many : FN} {m_sees : FN} {m_cold : FN} {m_first : FN} {m_told : Int32} {m_s : FN} {m_w : FN} {m_kept : FN} {m_isKept : FN} {m_undos : FN} {m_undoMany : Int32} {m_foundMan : FN} {m_foundHours : FN} {m_foundIs : FN} {m_foundMany : Int32} {m_row : FN} {m_best : FN} (hH_m : Has n 93 (mdB γ 93 m_thrown m_trace m_text m_typed m_next m_token m_place m_value m_fault m_many m_sees m_cold m_first m_told m_s m_w m_kept m_isKept m_undos m_undoMany m_foundMan m_foundHours m_foundIs m_foundMany m_row m_best) h) {s0 : Int32 × Int32} {t : Int32} (hf : lp (fun s => b_X7_asleep_w_1 N m_many m_w s.1 s.2) N s0 = some t) (K : Ev γ M_X7_asleep (0, 0) n h [(2, .int t)] 45 [] Ψ) : Ev γ M_X7_asleep (0, 0) n h [(0, .ref (gB γ + 93)), (1, .ref (gB γ + (93 + 7))), (2, .int s0.1), (3, .int s0.2)] 4 [] Ψ := by
  refine E_lp (P := fun s => Ev γ M_X7_asleep (0, 0) n h [(0, .ref (gB γ + 93)), (1, .ref (gB γ + (93 + 7))), (2, .int s.1), (3, .int s.2)] 4 [] Ψ) (K := fun t => Ev γ M_X7_asleep (0, 0) n h [(2, .int t)] 45 [] Ψ) ?_ N s0 t hf K
  intro s r hf hP hK
  obtain ⟨v2, v3⟩ := s
  change b_X7_asleep_w_1 N m_many m_w v2 v3 = some r at hf
  unfold b_X7_asleep_w_1 at hf
  show Ev γ M_X7_asleep (0, 0) n h [(0, .ref (gB γ + 93)), (1, .ref (gB γ + (93 + 7))), (2, .int v2), (3, .int v3)] 4 [] Ψ
  refine E_iload_n 3 dX7_asleep_4 (q := 5) rfl rfl rfl ?_
  refine E_aload_n 0 dX7_asleep_5 (q := 6) rfl rfl rfl ?_
  refine E_get 9 dX7_asleep_6 (q := 9) rfl ckX7 (Nat.le_of_ble_eq_true rfl) fl_X7_13 (hH_m.at 0 rfl) (hH_m.lt 0 (Nat.le_of_ble_eq_true rfl)) rfl ?_
  refine E_iconst (x := 1) dX7_asleep_9 (q := 10) rfl (by decide) ?_
  refine E_iald dX7_asleep_10 (q := 11) rfl (hH_m.at 2 rfl) (hH_m.lt 2 (Nat.le_of_ble_eq_true rfl)) (by decide +kernel) ?_
  refine E_icmp_ge dX7_asleep_11 (t := 45) (by decide) (q := 14) rfl (fun c2 => ?_) (fun c2 => ?_)
  · have hf := if_t c2 hf
    exact E_sub [2] rfl (hK _ (Option.some.inj hf).symm)
  · have hf := if_f c2 hf
    refine E_iload_n 2 dX7_asleep_14 (q := 15) rfl rfl rfl ?_
    refine E_aload_n 1 dX7_asleep_15 (q := 16) rfl rfl rfl ?_
    refine E_iload_n 3 dX7_asleep_16 (q := 17) rfl rfl rfl ?_
    obtain ⟨z3, hxz3, hf⟩ := bnd hf
    refine E_cS (as := [.ref (gB γ + (93 + 7)), .int v3]) (rest := [.int v2]) (u' := (0, 0)) (st' := [.int z3, .int v2]) dX7_asleep_17 (q := 20) rfl lkm_X7_isAsleep lks_X7_131 (Nat.le_of_ble_eq_true rfl) ⟨Nat.le_refl _, Nat.le_refl _⟩ (Nat.le_of_ble_eq_true rfl) rfl rfl (m_X7_isAsleep_w (N := N)  hH_m hxz3) rfl rfl rfl ?_
    refine E_if_eq dX7_asleep_20 (t := 36) (by decide) (q := 23) rfl (fun c4 => ?_) (fun c4 => ?_)
    · have hf := if_t c4 hf
      refine E_iconst (x := 0) dX7_asleep_36 (q := 37) rfl (by decide) ?_
      refine E_ior dX7_asleep_37 (q := 38) rfl ?_
      refine E_istore_n [(2, .int (v2 ||| 0)), (0, .ref (gB γ + 93)), (1, .ref (gB γ + (93 + 7))), (3, .int v3)] dX7_asleep_38 (q := 39) rfl rfl (Nat.le_of_ble_eq_true rfl) rfl ?_
      refine E_iinc 3 [(3, .int (v3 + 1)), (2, .int (v2 ||| 0)), (0, .ref (gB γ + 93)), (1, .ref (gB γ + (93 + 7)))] dX7_asleep_39 (q := 42) rfl rfl rfl (Nat.le_of_ble_eq_true rfl) rfl ?_
      refine E_goto (q := 4) dX7_asleep_42 (by decide) ?_
      exact E_sub [2, 3, 1, 0] rfl (hP _ (Option.some.inj hf).symm)
    · have hf := if_f c4 hf
      refine E_iconst (x := 1) dX7_asleep_23 (q := 24) rfl (by decide) ?_
      refine E_aload_n 1 dX7_asleep_24 (q := 25) rfl rfl rfl ?_
      refine E_bipush (x := 7) dX7_asleep_25 (q := 27) rfl (by decide) ?_
      refine E_iload_n 3 dX7_asleep_27 (q := 28) rfl rfl rfl ?_
      refine E_iadd dX7_asleep_28 (q := 29) rfl ?_
      obtain ⟨g5, hf⟩ := gd hf
      refine E_iald dX7_asleep_29 (q := 30) rfl (hH_m.at 7 rfl) (hH_m.lt 7 (Nat.le_of_ble_eq_true rfl)) g5 ?_
      refine E_iconst (x := 1) dX7_asleep_30 (q := 31) rfl (by decide) ?_
      refine E_isub dX7_asleep_31 (q := 32) rfl ?_
      refine E_ishl dX7_asleep_32 (q := 33) rfl ?_
      refine E_goto (q := 37) dX7_asleep_33 (by decide) ?_
      refine E_ior dX7_asleep_37 (q := 38) rfl ?_
      refine E_istore_n [(2, .int (v2 ||| ((1 : Int32) <<< (((m_w (ci (7 + v3))) - 1) &&& 31)))), (0, .ref (gB γ + 93)), (1, .ref (gB γ + (93 + 7))), (3, .int v3)] dX7_asleep_38 (q := 39) rfl rfl (Nat.le_of_ble_eq_true rfl) rfl ?_
      refine E_iinc 3 [(3, .int (v3 + 1)), (2, .int (v2 ||| ((1 : Int32) <<< (((m_w (ci (7 + v3))) - 1) &&& 31)))), (0, .ref (gB γ + 93)), (1, .ref (gB γ + (93 + 7)))] dX7_asleep_39 (q := 42) rfl rfl rfl (Nat.le_of_ble_eq_true rfl) rfl ?_
      refine E_goto (q := 4) dX7_asleep_42 (by decide) ?_
      exact E_sub [2, 3, 1, 0] rfl (hP _ (Option.some.inj hf).symm)
set_option maxHeartbeats 4000000 in
set_option maxRecDepth 100000 in
theorem m_X7_asleep_w {γ : GX} {n : Nat} {N : Nat} {h : HP} {m_thrown : Int32} {m_trace : Int64} {m_text : FN} {m_typed : Int32} {m_next : Int32} {m_token : Int32} {m_place : Int32} {m_value : Int32} {m_fault : Int32} {m_many : FN} {m_sees : FN} {m_cold : FN} {m_first : FN} {m_told : Int32} {m_s : FN} {m_w : FN} {m_kept : FN} {m_isKept : FN} {m_undos : FN} {m_undoMany : Int32} {m_foundMan : FN} {m_foundHours : FN} {m_foundIs : FN} {m_foundMany : Int32} {m_row : FN} {m_best : FN} (hH_m : Has n 93 (mdB γ 93 m_thrown m_trace m_text m_typed m_next m_token m_place m_value m_fault m_many m_sees m_cold m_first m_told m_s m_w m_kept m_isKept m_undos m_undoMany m_foundMan m_foundHours m_foundIs m_foundMany m_row m_best) h) {z : Int32} (hf : f_X7_asleep_w N m_many m_w = some z)  : Ct γ M_X7_asleep n h [.ref (gB γ + 93), .ref (gB γ + (93 + 7))] (Done (some (.int z)) n h) := by
  refine Ct_of_Ev (by decide) (fun h => by cases h) (Nat.le_of_ble_eq_true rfl) ?_
  show Ev γ M_X7_asleep (0, 0) n h [(0, .ref (gB γ + 93)), (1, .ref (gB γ + (93 + 7)))] 0 [] _
  unfold f_X7_asleep_w at hf
  refine E_iconst (x := 0) dX7_asleep_0 (q := 1) rfl (by decide) ?_
  refine E_istore_n [(2, .int 0), (0, .ref (gB γ + 93)), (1, .ref (gB γ + (93 + 7)))] dX7_asleep_1 (q := 2) rfl rfl (Nat.le_of_ble_eq_true rfl) rfl ?_
  refine E_iconst (x := 0) dX7_asleep_2 (q := 3) rfl (by decide) ?_
  refine E_istore_n [(3, .int 0), (2, .int 0), (0, .ref (gB γ + 93)), (1, .ref (gB γ + (93 + 7)))] dX7_asleep_3 (q := 4) rfl rfl (Nat.le_of_ble_eq_true rfl) rfl ?_
  obtain ⟨t6, hxt6, hf⟩ := bnd hf
  refine E_sub [2, 3, 1, 0] rfl ?_
  refine L_X7_asleep_w_1 hH_m hxt6 ?_
  show Ev γ M_X7_asleep _ n h [(2, .int t6)] 45 [] _
  refine E_iload_n 0 dX7_asleep_45 (q := 46) rfl rfl rfl ?_
  obtain rfl := Option.some.inj hf
  exact E_iret dX7_asleep_46 rfl ⟨rfl, rfl, rfl⟩

-- PostReliefModel.watched(I)I
def b_X7_watched_1 (N : Nat) (p1 : Int32) (m_many : FN) (m_sees : FN) (v2 : Int32) (v3 : Int32) : Option ((Int32 × Int32) ⊕ (Int32)) :=
  (if (m_many (ci 0)) ≤ v3 then some (.inr v2) else (if ((p1 >>> (v3 &&& 31)) &&& 1) = 1 then (if ix v3 10 = true then some (.inl ((v2 ||| (m_sees (ci v3))), (v3 + 1))) else none) else some (.inl ((v2 ||| 0), (v3 + 1)))))
def f_X7_watched (N : Nat) (a1 : Int32) (m_many : FN) (m_sees : FN) : Option (Int32) :=
  ((lp (fun s => b_X7_watched_1 N a1 m_many m_sees s.1 s.2) N (a1, 0)).bind fun t5 => some t5)
set_option maxHeartbeats 4000000 in
set_option maxRecDepth 100000 in
theorem L_X7_watched_1 {γ : GX} {n : Nat} {h : HP} {Ψ : PS} {N : Nat} {p1 : Int32} {m_thrown : Int32} {m_trace : Int64} {m_text : FN} {m_typed : Int32} {m_next : Int32} {m_token : Int32} {m_place : Int32} {m_value : Int32} {m_fault : Int32} {m_many : FN} {m_sees : FN} {m_cold : FN} {m_first : FN} {m_told : Int32} {m_s : FN} {m_w : FN} {m_kept : FN} {m_isKept : FN} {m_undos : FN} {m_undoMany : Int32} {m_foundMan : FN} {m_foundHours : FN} {m_foundIs : FN} {m_foundMany : Int32} {m_row : FN} {m_best : FN} (hH_m : Has n 93 (mdB γ 93 m_thrown m_trace m_text m_typed m_next m_token m_place m_value m_fault m_many m_sees m_cold m_first m_told m_s m_w m_kept m_isKept m_undos m_undoMany m_foundMan m_foundHours m_foundIs m_foundMany m_row m_best) h) {s0 : Int32 × Int32} {t : Int32} (hf : lp (fun s => b_X7_watched_1 N p1 m_many m_sees s.1 s.2) N s0 = some t) (K : Ev γ M_X7_watched (0, 0) n h [(2, .int t)] 42 [] Ψ) : Ev γ M_X7_watched (0, 0) n h [(0, .ref (gB γ + 93)), (1, .int p1), (2, .int s0.1), (3, .int s0.2)] 4 [] Ψ := by
  refine E_lp (P := fun s => Ev γ M_X7_watched (0, 0) n h [(0, .ref (gB γ + 93)), (1, .int p1), (2, .int s.1), (3, .int s.2)] 4 [] Ψ) (K := fun t => Ev γ M_X7_watched (0, 0) n h [(2, .int t)] 42 [] Ψ) ?_ N s0 t hf K
  intro s r hf hP hK
  obtain ⟨v2, v3⟩ := s
  change b_X7_watched_1 N p1 m_many m_sees v2 v3 = some r at hf
  unfold b_X7_watched_1 at hf
  show Ev γ M_X7_watched (0, 0) n h [(0, .ref (gB γ + 93)), (1, .int p1), (2, .int v2), (3, .int v3)] 4 [] Ψ
  refine E_iload_n 3 dX7_watched_4 (q := 5) rfl rfl rfl ?_
  refine E_aload_n 0 dX7_watched_5 (q := 6) rfl rfl rfl ?_
  refine E_get 9 dX7_watched_6 (q := 9) rfl ckX7 (Nat.le_of_ble_eq_true rfl) fl_X7_13 (hH_m.at 0 rfl) (hH_m.lt 0 (Nat.le_of_ble_eq_true rfl)) rfl ?_
  refine E_iconst (x := 0) dX7_watched_9 (q := 10) rfl (by decide) ?_
  refine E_iald dX7_watched_10 (q := 11) rfl (hH_m.at 2 rfl) (hH_m.lt 2 (Nat.le_of_ble_eq_true rfl)) (by decide +kernel) ?_
  refine E_icmp_ge dX7_watched_11 (t := 42) (by decide) (q := 14) rfl (fun c2 => ?_) (fun c2 => ?_)
  · have hf := if_t c2 hf
    exact E_sub [2] rfl (hK _ (Option.some.inj hf).symm)
  · have hf := if_f c2 hf
    refine E_iload_n 2 dX7_watched_14 (q := 15) rfl rfl rfl ?_
    refine E_iload_n 1 dX7_watched_15 (q := 16) rfl rfl rfl ?_
    refine E_iload_n 3 dX7_watched_16 (q := 17) rfl rfl rfl ?_
    refine E_ishr dX7_watched_17 (q := 18) rfl ?_
    refine E_iconst (x := 1) dX7_watched_18 (q := 19) rfl (by decide) ?_
    refine E_iand dX7_watched_19 (q := 20) rfl ?_
    refine E_iconst (x := 1) dX7_watched_20 (q := 21) rfl (by decide) ?_
    refine E_icmp_ne dX7_watched_21 (t := 33) (by decide) (q := 24) rfl (fun c3 => ?_) (fun c3 => ?_)
    · have hf := if_f c3 hf
      refine E_iconst (x := 0) dX7_watched_33 (q := 34) rfl (by decide) ?_
      refine E_ior dX7_watched_34 (q := 35) rfl ?_
      refine E_istore_n [(2, .int (v2 ||| 0)), (0, .ref (gB γ + 93)), (1, .int p1), (3, .int v3)] dX7_watched_35 (q := 36) rfl rfl (Nat.le_of_ble_eq_true rfl) rfl ?_
      refine E_iinc 3 [(3, .int (v3 + 1)), (2, .int (v2 ||| 0)), (0, .ref (gB γ + 93)), (1, .int p1)] dX7_watched_36 (q := 39) rfl rfl rfl (Nat.le_of_ble_eq_true rfl) rfl ?_
      refine E_goto (q := 4) dX7_watched_39 (by decide) ?_
      exact E_sub [2, 3, 1, 0] rfl (hP _ (Option.some.inj hf).symm)
    · have hf := if_t c3 hf
      refine E_aload_n 0 dX7_watched_24 (q := 25) rfl rfl rfl ?_
      refine E_get 10 dX7_watched_25 (q := 28) rfl ckX7 (Nat.le_of_ble_eq_true rfl) fl_X7_16 (hH_m.at 0 rfl) (hH_m.lt 0 (Nat.le_of_ble_eq_true rfl)) rfl ?_
      refine E_iload_n 3 dX7_watched_28 (q := 29) rfl rfl rfl ?_
      obtain ⟨g4, hf⟩ := gd hf
      refine E_iald dX7_watched_29 (q := 30) rfl (hH_m.at 3 rfl) (hH_m.lt 3 (Nat.le_of_ble_eq_true rfl)) g4 ?_
      refine E_goto (q := 34) dX7_watched_30 (by decide) ?_
      refine E_ior dX7_watched_34 (q := 35) rfl ?_
      refine E_istore_n [(2, .int (v2 ||| (m_sees (ci v3)))), (0, .ref (gB γ + 93)), (1, .int p1), (3, .int v3)] dX7_watched_35 (q := 36) rfl rfl (Nat.le_of_ble_eq_true rfl) rfl ?_
      refine E_iinc 3 [(3, .int (v3 + 1)), (2, .int (v2 ||| (m_sees (ci v3)))), (0, .ref (gB γ + 93)), (1, .int p1)] dX7_watched_36 (q := 39) rfl rfl rfl (Nat.le_of_ble_eq_true rfl) rfl ?_
      refine E_goto (q := 4) dX7_watched_39 (by decide) ?_
      exact E_sub [2, 3, 1, 0] rfl (hP _ (Option.some.inj hf).symm)
set_option maxHeartbeats 4000000 in
set_option maxRecDepth 100000 in
theorem m_X7_watched {γ : GX} {n : Nat} {N : Nat} {h : HP} {a1 : Int32} {m_thrown : Int32} {m_trace : Int64} {m_text : FN} {m_typed : Int32} {m_next : Int32} {m_token : Int32} {m_place : Int32} {m_value : Int32} {m_fault : Int32} {m_many : FN} {m_sees : FN} {m_cold : FN} {m_first : FN} {m_told : Int32} {m_s : FN} {m_w : FN} {m_kept : FN} {m_isKept : FN} {m_undos : FN} {m_undoMany : Int32} {m_foundMan : FN} {m_foundHours : FN} {m_foundIs : FN} {m_foundMany : Int32} {m_row : FN} {m_best : FN} (hH_m : Has n 93 (mdB γ 93 m_thrown m_trace m_text m_typed m_next m_token m_place m_value m_fault m_many m_sees m_cold m_first m_told m_s m_w m_kept m_isKept m_undos m_undoMany m_foundMan m_foundHours m_foundIs m_foundMany m_row m_best) h) {z : Int32} (hf : f_X7_watched N a1 m_many m_sees = some z)  : Ct γ M_X7_watched n h [.ref (gB γ + 93), .int a1] (Done (some (.int z)) n h) := by
  refine Ct_of_Ev (by decide) (fun h => by cases h) (Nat.le_of_ble_eq_true rfl) ?_
  show Ev γ M_X7_watched (0, 0) n h [(0, .ref (gB γ + 93)), (1, .int a1)] 0 [] _
  unfold f_X7_watched at hf
  refine E_iload_n 1 dX7_watched_0 (q := 1) rfl rfl rfl ?_
  refine E_istore_n [(2, .int a1), (0, .ref (gB γ + 93)), (1, .int a1)] dX7_watched_1 (q := 2) rfl rfl (Nat.le_of_ble_eq_true rfl) rfl ?_
  refine E_iconst (x := 0) dX7_watched_2 (q := 3) rfl (by decide) ?_
  refine E_istore_n [(3, .int 0), (2, .int a1), (0, .ref (gB γ + 93)), (1, .int a1)] dX7_watched_3 (q := 4) rfl rfl (Nat.le_of_ble_eq_true rfl) rfl ?_
  obtain ⟨t5, hxt5, hf⟩ := bnd hf
  refine E_sub [2, 3, 1, 0] rfl ?_
  refine L_X7_watched_1 hH_m hxt5 ?_
  show Ev γ M_X7_watched _ n h [(2, .int t5)] 42 [] _
  refine E_iload_n 0 dX7_watched_42 (q := 43) rfl rfl rfl ?_
  obtain rfl := Option.some.inj hf
  exact E_iret dX7_watched_43 rfl ⟨rfl, rfl, rfl⟩

-- PostReliefModel.watchedIn([I)I
def f_X7_watchedIn_s (N : Nat) (m_many : FN) (m_sees : FN) (m_s : FN) : Option (Int32) :=
  ((f_X7_standing_s N m_many m_s).bind fun z1 => ((f_X7_asleep_s N m_many m_s).bind fun z2 => ((f_X7_watched N (z1 &&& (z2 ^^^ (-1))) m_many m_sees).bind fun z3 => some z3)))
set_option maxHeartbeats 4000000 in
set_option maxRecDepth 100000 in
theorem m_X7_watchedIn_s {γ : GX} {n : Nat} {N : Nat} {h : HP} {m_thrown : Int32} {m_trace : Int64} {m_text : FN} {m_typed : Int32} {m_next : Int32} {m_token : Int32} {m_place : Int32} {m_value : Int32} {m_fault : Int32} {m_many : FN} {m_sees : FN} {m_cold : FN} {m_first : FN} {m_told : Int32} {m_s : FN} {m_w : FN} {m_kept : FN} {m_isKept : FN} {m_undos : FN} {m_undoMany : Int32} {m_foundMan : FN} {m_foundHours : FN} {m_foundIs : FN} {m_foundMany : Int32} {m_row : FN} {m_best : FN} (hH_m : Has n 93 (mdB γ 93 m_thrown m_trace m_text m_typed m_next m_token m_place m_value m_fault m_many m_sees m_cold m_first m_told m_s m_w m_kept m_isKept m_undos m_undoMany m_foundMan m_foundHours m_foundIs m_foundMany m_row m_best) h) {z : Int32} (hf : f_X7_watchedIn_s N m_many m_sees m_s = some z)  : Ct γ M_X7_watchedIn n h [.ref (gB γ + 93), .ref (gB γ + (93 + 6))] (Done (some (.int z)) n h) := by
  refine Ct_of_Ev (by decide) (fun h => by cases h) (Nat.le_of_ble_eq_true rfl) ?_
  show Ev γ M_X7_watchedIn (0, 0) n h [(0, .ref (gB γ + 93)), (1, .ref (gB γ + (93 + 6)))] 0 [] _
  unfold f_X7_watchedIn_s at hf
  refine E_aload_n 0 dX7_watchedIn_0 (q := 1) rfl rfl rfl ?_
  refine E_aload_n 0 dX7_watchedIn_1 (q := 2) rfl rfl rfl ?_
  refine E_aload_n 1 dX7_watchedIn_2 (q := 3) rfl rfl rfl ?_
  obtain ⟨z1, hxz1, hf⟩ := bnd hf
  refine E_cV (as := [.ref (gB γ + (93 + 6))]) (k := 93) (rest := [.ref (gB γ + 93)]) (u' := (0, 0)) (st' := [.int z1, .ref (gB γ + 93)]) dX7_watchedIn_3 (q := 6) rfl lkm_X7_standing lkv_X7_135 (Nat.le_of_ble_eq_true rfl) ckX7 (hH_m.at 0 rfl) (hH_m.lt 0 (Nat.le_of_ble_eq_true rfl)) ⟨Nat.le_refl _, Nat.le_refl _⟩ (Nat.le_of_ble_eq_true rfl) rfl rfl (m_X7_standing_s (N := N)  hH_m hxz1) rfl rfl rfl ?_
  refine E_aload_n 0 dX7_watchedIn_6 (q := 7) rfl rfl rfl ?_
  refine E_aload_n 1 dX7_watchedIn_7 (q := 8) rfl rfl rfl ?_
  obtain ⟨z2, hxz2, hf⟩ := bnd hf
  refine E_cV (as := [.ref (gB γ + (93 + 6))]) (k := 93) (rest := [.int z1, .ref (gB γ + 93)]) (u' := (0, 0)) (st' := [.int z2, .int z1, .ref (gB γ + 93)]) dX7_watchedIn_8 (q := 11) rfl lkm_X7_asleep lkv_X7_139 (Nat.le_of_ble_eq_true rfl) ckX7 (hH_m.at 0 rfl) (hH_m.lt 0 (Nat.le_of_ble_eq_true rfl)) ⟨Nat.le_refl _, Nat.le_refl _⟩ (Nat.le_of_ble_eq_true rfl) rfl rfl (m_X7_asleep_s (N := N)  hH_m hxz2) rfl rfl rfl ?_
  refine E_iconst (x := (-1)) dX7_watchedIn_11 (q := 12) rfl (by decide) ?_
  refine E_ixor dX7_watchedIn_12 (q := 13) rfl ?_
  refine E_iand dX7_watchedIn_13 (q := 14) rfl ?_
  obtain ⟨z3, hxz3, hf⟩ := bnd hf
  refine E_cV (as := [.int (z1 &&& (z2 ^^^ (-1)))]) (k := 93) (rest := []) (u' := (0, 0)) (st' := [.int z3]) dX7_watchedIn_14 (q := 17) rfl lkm_X7_watched lkv_X7_142 (Nat.le_of_ble_eq_true rfl) ckX7 (hH_m.at 0 rfl) (hH_m.lt 0 (Nat.le_of_ble_eq_true rfl)) ⟨Nat.le_refl _, Nat.le_refl _⟩ (Nat.le_of_ble_eq_true rfl) rfl rfl (m_X7_watched (N := N)  hH_m hxz3) rfl rfl rfl ?_
  obtain rfl := Option.some.inj hf
  exact E_iret dX7_watchedIn_17 rfl ⟨rfl, rfl, rfl⟩

-- PostReliefModel.watchedIn([I)I
def f_X7_watchedIn_w (N : Nat) (m_many : FN) (m_sees : FN) (m_w : FN) : Option (Int32) :=
  ((f_X7_standing_w N m_many m_w).bind fun z1 => ((f_X7_asleep_w N m_many m_w).bind fun z2 => ((f_X7_watched N (z1 &&& (z2 ^^^ (-1))) m_many m_sees).bind fun z3 => some z3)))
set_option maxHeartbeats 4000000 in
set_option maxRecDepth 100000 in
theorem m_X7_watchedIn_w {γ : GX} {n : Nat} {N : Nat} {h : HP} {m_thrown : Int32} {m_trace : Int64} {m_text : FN} {m_typed : Int32} {m_next : Int32} {m_token : Int32} {m_place : Int32} {m_value : Int32} {m_fault : Int32} {m_many : FN} {m_sees : FN} {m_cold : FN} {m_first : FN} {m_told : Int32} {m_s : FN} {m_w : FN} {m_kept : FN} {m_isKept : FN} {m_undos : FN} {m_undoMany : Int32} {m_foundMan : FN} {m_foundHours : FN} {m_foundIs : FN} {m_foundMany : Int32} {m_row : FN} {m_best : FN} (hH_m : Has n 93 (mdB γ 93 m_thrown m_trace m_text m_typed m_next m_token m_place m_value m_fault m_many m_sees m_cold m_first m_told m_s m_w m_kept m_isKept m_undos m_undoMany m_foundMan m_foundHours m_foundIs m_foundMany m_row m_best) h) {z : Int32} (hf : f_X7_watchedIn_w N m_many m_sees m_w = some z)  : Ct γ M_X7_watchedIn n h [.ref (gB γ + 93), .ref (gB γ + (93 + 7))] (Done (some (.int z)) n h) := by
  refine Ct_of_Ev (by decide) (fun h => by cases h) (Nat.le_of_ble_eq_true rfl) ?_
  show Ev γ M_X7_watchedIn (0, 0) n h [(0, .ref (gB γ + 93)), (1, .ref (gB γ + (93 + 7)))] 0 [] _
  unfold f_X7_watchedIn_w at hf
  refine E_aload_n 0 dX7_watchedIn_0 (q := 1) rfl rfl rfl ?_
  refine E_aload_n 0 dX7_watchedIn_1 (q := 2) rfl rfl rfl ?_
  refine E_aload_n 1 dX7_watchedIn_2 (q := 3) rfl rfl rfl ?_
  obtain ⟨z1, hxz1, hf⟩ := bnd hf
  refine E_cV (as := [.ref (gB γ + (93 + 7))]) (k := 93) (rest := [.ref (gB γ + 93)]) (u' := (0, 0)) (st' := [.int z1, .ref (gB γ + 93)]) dX7_watchedIn_3 (q := 6) rfl lkm_X7_standing lkv_X7_135 (Nat.le_of_ble_eq_true rfl) ckX7 (hH_m.at 0 rfl) (hH_m.lt 0 (Nat.le_of_ble_eq_true rfl)) ⟨Nat.le_refl _, Nat.le_refl _⟩ (Nat.le_of_ble_eq_true rfl) rfl rfl (m_X7_standing_w (N := N)  hH_m hxz1) rfl rfl rfl ?_
  refine E_aload_n 0 dX7_watchedIn_6 (q := 7) rfl rfl rfl ?_
  refine E_aload_n 1 dX7_watchedIn_7 (q := 8) rfl rfl rfl ?_
  obtain ⟨z2, hxz2, hf⟩ := bnd hf
  refine E_cV (as := [.ref (gB γ + (93 + 7))]) (k := 93) (rest := [.int z1, .ref (gB γ + 93)]) (u' := (0, 0)) (st' := [.int z2, .int z1, .ref (gB γ + 93)]) dX7_watchedIn_8 (q := 11) rfl lkm_X7_asleep lkv_X7_139 (Nat.le_of_ble_eq_true rfl) ckX7 (hH_m.at 0 rfl) (hH_m.lt 0 (Nat.le_of_ble_eq_true rfl)) ⟨Nat.le_refl _, Nat.le_refl _⟩ (Nat.le_of_ble_eq_true rfl) rfl rfl (m_X7_asleep_w (N := N)  hH_m hxz2) rfl rfl rfl ?_
  refine E_iconst (x := (-1)) dX7_watchedIn_11 (q := 12) rfl (by decide) ?_
  refine E_ixor dX7_watchedIn_12 (q := 13) rfl ?_
  refine E_iand dX7_watchedIn_13 (q := 14) rfl ?_
  obtain ⟨z3, hxz3, hf⟩ := bnd hf
  refine E_cV (as := [.int (z1 &&& (z2 ^^^ (-1)))]) (k := 93) (rest := []) (u' := (0, 0)) (st' := [.int z3]) dX7_watchedIn_14 (q := 17) rfl lkm_X7_watched lkv_X7_142 (Nat.le_of_ble_eq_true rfl) ckX7 (hH_m.at 0 rfl) (hH_m.lt 0 (Nat.le_of_ble_eq_true rfl)) ⟨Nat.le_refl _, Nat.le_refl _⟩ (Nat.le_of_ble_eq_true rfl) rfl rfl (m_X7_watched (N := N)  hH_m hxz3) rfl rfl rfl ?_
  obtain rfl := Option.some.inj hf
  exact E_iret dX7_watchedIn_17 rfl ⟨rfl, rfl, rfl⟩

-- PostReliefModel.notes()V
def b_X7_notes_1 (N : Nat) (v1 : Int32) (m_undos : FN) : Option ((Int32 × FN) ⊕ (FN)) :=
  (if 432 ≤ v1 then some (.inr m_undos) else (if ix (v1 + 48) 480 = true then (if ix v1 480 = true then some (.inl ((v1 + 1), (upd m_undos (ci v1) (m_undos (ci (v1 + 48)))))) else none) else none))
def b_X7_notes_2 (N : Nat) (m_s : FN) (m_undoMany : Int32) (v1 : Int32) (m_undos : FN) : Option ((Int32 × FN) ⊕ (FN)) :=
  (if 48 ≤ v1 then some (.inr m_undos) else (if ix v1 48 = true then (if ix ((48 * m_undoMany) + v1) 480 = true then some (.inl ((v1 + 1), (upd m_undos (ci ((48 * m_undoMany) + v1)) (m_s (ci v1))))) else none) else none))
def b_X7_notes_3 (N : Nat) (m_s : FN) (m_undoMany : Int32) (v1 : Int32) (m_undos : FN) : Option ((Int32 × FN) ⊕ (FN)) :=
  (if 48 ≤ v1 then some (.inr m_undos) else (if ix v1 48 = true then (if ix ((48 * m_undoMany) + v1) 480 = true then some (.inl ((v1 + 1), (upd m_undos (ci ((48 * m_undoMany) + v1)) (m_s (ci v1))))) else none) else none))
def f_X7_notes (N : Nat) (m_s : FN) (m_undos : FN) (m_undoMany : Int32) : Option (FN × Int32) :=
  (if m_undoMany = 10 then ((lp (fun s => b_X7_notes_1 N s.1 s.2) N (0, m_undos)).bind fun t9 => ((lp (fun s => b_X7_notes_2 N m_s 9 s.1 s.2) N (0, t9)).bind fun t19 => some (t19, (9 + 1)))) else ((lp (fun s => b_X7_notes_3 N m_s m_undoMany s.1 s.2) N (0, m_undos)).bind fun t29 => some (t29, (m_undoMany + 1))))
set_option maxHeartbeats 4000000 in
set_option maxRecDepth 100000 in
theorem L_X7_notes_1 {γ : GX} {n : Nat} {h : HP} {Ψ : PS} {N : Nat} {m_thrown : Int32} {m_trace : Int64} {m_text : FN} {m_typed : Int32} {m_next : Int32} {m_token : Int32} {m_place : Int32} {m_value : Int32} {m_fault : Int32} {m_many : FN} {m_sees : FN} {m_cold : FN} {m_first : FN} {m_told : Int32} {m_s : FN} {m_w : FN} {m_kept : FN} {m_isKept : FN} {m_undoMany : Int32} {m_foundMan : FN} {m_foundHours : FN} {m_foundIs : FN} {m_foundMany : Int32} {m_row : FN} {m_best : FN} (hn_m : 93 + 16 ≤ n) {s0 : Int32 × FN} {t : FN} (hf : lp (fun s => b_X7_notes_1 N s.1 s.2) N s0 = some t) (K : Ev γ M_X7_notes (0, 0) n (put 93 (mdB γ 93 m_thrown m_trace m_text m_typed m_next m_token m_place m_value m_fault m_many m_sees m_cold m_first m_told m_s m_w m_kept m_isKept t m_undoMany m_foundMan m_foundHours m_foundIs m_foundMany m_row m_best) h) [(0, .ref (gB γ + 93))] 39 [] Ψ) : Ev γ M_X7_notes (0, 0) n (put 93 (mdB γ 93 m_thrown m_trace m_text m_typed m_next m_token m_place m_value m_fault m_many m_sees m_cold m_first m_told m_s m_w m_kept m_isKept s0.2 m_undoMany m_foundMan m_foundHours m_foundIs m_foundMany m_row m_best) h) [(0, .ref (gB γ + 93)), (1, .int s0.1)] 11 [] Ψ := by
  refine E_lp (P := fun s => Ev γ M_X7_notes (0, 0) n (put 93 (mdB γ 93 m_thrown m_trace m_text m_typed m_next m_token m_place m_value m_fault m_many m_sees m_cold m_first m_told m_s m_w m_kept m_isKept s.2 m_undoMany m_foundMan m_foundHours m_foundIs m_foundMany m_row m_best) h) [(0, .ref (gB γ + 93)), (1, .int s.1)] 11 [] Ψ) (K := fun t => Ev γ M_X7_notes (0, 0) n (put 93 (mdB γ 93 m_thrown m_trace m_text m_typed m_next m_token m_place m_value m_fault m_many m_sees m_cold m_first m_told m_s m_w m_kept m_isKept t m_undoMany m_foundMan m_foundHours m_foundIs m_foundMany m_row m_best) h) [(0, .ref (gB γ + 93))] 39 [] Ψ) ?_ N s0 t hf K
  intro s r hf hP hK
  obtain ⟨v1, m_undos⟩ := s
  change b_X7_notes_1 N v1 m_undos = some r at hf
  unfold b_X7_notes_1 at hf
  show Ev γ M_X7_notes (0, 0) n (put 93 (mdB γ 93 m_thrown m_trace m_text m_typed m_next m_token m_place m_value m_fault m_many m_sees m_cold m_first m_told m_s m_w m_kept m_isKept m_undos m_undoMany m_foundMan m_foundHours m_foundIs m_foundMany m_row m_best) h) [(0, .ref (gB γ + 93)), (1, .int v1)] 11 [] Ψ
  refine E_iload_n 1 dX7_notes_11 (q := 12) rfl rfl rfl ?_
  refine E_sipush (x := 432) dX7_notes_12 (q := 15) rfl (by decide) ?_
  refine E_icmp_ge dX7_notes_15 (t := 39) (by decide) (q := 18) rfl (fun c4 => ?_) (fun c4 => ?_)
  · have hf := if_t c4 hf
    exact E_sub [0] rfl (hK _ (Option.some.inj hf).symm)
  · have hf := if_f c4 hf
    refine E_aload_n 0 dX7_notes_18 (q := 19) rfl rfl rfl ?_
    have hF5 : Has n 93 (mdB γ 93 m_thrown m_trace m_text m_typed m_next m_token m_place m_value m_fault m_many m_sees m_cold m_first m_told m_s m_w m_kept m_isKept m_undos m_undoMany m_foundMan m_foundHours m_foundIs m_foundMany m_row m_best) (put 93 (mdB γ 93 m_thrown m_trace m_text m_typed m_next m_token m_place m_value m_fault m_many m_sees m_cold m_first m_told m_s m_w m_kept m_isKept m_undos m_undoMany m_foundMan m_foundHours m_foundIs m_foundMany m_row m_best) h) := (has_put hn_m)
    refine E_get 18 dX7_notes_19 (q := 22) rfl ckX7 (Nat.le_of_ble_eq_true rfl) fl_X7_38 (hF5.at 0 rfl) (hF5.lt 0 (Nat.le_of_ble_eq_true rfl)) rfl ?_
    refine E_iload_n 1 dX7_notes_22 (q := 23) rfl rfl rfl ?_
    refine E_aload_n 0 dX7_notes_23 (q := 24) rfl rfl rfl ?_
    refine E_get 18 dX7_notes_24 (q := 27) rfl ckX7 (Nat.le_of_ble_eq_true rfl) fl_X7_38 (hF5.at 0 rfl) (hF5.lt 0 (Nat.le_of_ble_eq_true rfl)) rfl ?_
    refine E_iload_n 1 dX7_notes_27 (q := 28) rfl rfl rfl ?_
    refine E_bipush (x := 48) dX7_notes_28 (q := 30) rfl (by decide) ?_
    refine E_iadd dX7_notes_30 (q := 31) rfl ?_
    obtain ⟨g6, hf⟩ := gd hf
    refine E_iald dX7_notes_31 (q := 32) rfl (hF5.at 10 rfl) (hF5.lt 10 (Nat.le_of_ble_eq_true rfl)) g6 ?_
    obtain ⟨g7, hf⟩ := gd hf
    refine E_iast dX7_notes_32 (q := 33) rfl (hF5.at 10 rfl) (hF5.lt 10 (Nat.le_of_ble_eq_true rfl)) g7 (up_put (i := 10) (cs' := (mdB γ 93 m_thrown m_trace m_text m_typed m_next m_token m_place m_value m_fault m_many m_sees m_cold m_first m_told m_s m_w m_kept m_isKept (upd m_undos (ci v1) (m_undos (ci (v1 + 48)))) m_undoMany m_foundMan m_foundHours m_foundIs m_foundMany m_row m_best)) (Nat.le_of_ble_eq_true rfl) rfl) ?_
    refine E_iinc 1 [(1, .int (v1 + 1)), (0, .ref (gB γ + 93))] dX7_notes_33 (q := 36) rfl rfl rfl (Nat.le_of_ble_eq_true rfl) rfl ?_
    refine E_goto (q := 11) dX7_notes_36 (by decide) ?_
    exact E_sub [1, 0] rfl (hP _ (Option.some.inj hf).symm)
set_option maxHeartbeats 4000000 in
set_option maxRecDepth 100000 in
theorem L_X7_notes_2 {γ : GX} {n : Nat} {h : HP} {Ψ : PS} {N : Nat} {m_thrown : Int32} {m_trace : Int64} {m_text : FN} {m_typed : Int32} {m_next : Int32} {m_token : Int32} {m_place : Int32} {m_value : Int32} {m_fault : Int32} {m_many : FN} {m_sees : FN} {m_cold : FN} {m_first : FN} {m_told : Int32} {m_s : FN} {m_w : FN} {m_kept : FN} {m_isKept : FN} {m_undoMany : Int32} {m_foundMan : FN} {m_foundHours : FN} {m_foundIs : FN} {m_foundMany : Int32} {m_row : FN} {m_best : FN} (hn_m : 93 + 16 ≤ n) {s0 : Int32 × FN} {t : FN} (hf : lp (fun s => b_X7_notes_2 N m_s m_undoMany s.1 s.2) N s0 = some t) (K : Ev γ M_X7_notes (0, 0) n (put 93 (mdB γ 93 m_thrown m_trace m_text m_typed m_next m_token m_place m_value m_fault m_many m_sees m_cold m_first m_told m_s m_w m_kept m_isKept t m_undoMany m_foundMan m_foundHours m_foundIs m_foundMany m_row m_best) h) [(0, .ref (gB γ + 93))] 79 [] Ψ) : Ev γ M_X7_notes (0, 0) n (put 93 (mdB γ 93 m_thrown m_trace m_text m_typed m_next m_token m_place m_value m_fault m_many m_sees m_cold m_first m_told m_s m_w m_kept m_isKept s0.2 m_undoMany m_foundMan m_foundHours m_foundIs m_foundMany m_row m_best) h) [(0, .ref (gB γ + 93)), (1, .int s0.1)] 47 [] Ψ := by
  refine E_lp (P := fun s => Ev γ M_X7_notes (0, 0) n (put 93 (mdB γ 93 m_thrown m_trace m_text m_typed m_next m_token m_place m_value m_fault m_many m_sees m_cold m_first m_told m_s m_w m_kept m_isKept s.2 m_undoMany m_foundMan m_foundHours m_foundIs m_foundMany m_row m_best) h) [(0, .ref (gB γ + 93)), (1, .int s.1)] 47 [] Ψ) (K := fun t => Ev γ M_X7_notes (0, 0) n (put 93 (mdB γ 93 m_thrown m_trace m_text m_typed m_next m_token m_place m_value m_fault m_many m_sees m_cold m_first m_told m_s m_w m_kept m_isKept t m_undoMany m_foundMan m_foundHours m_foundIs m_foundMany m_row m_best) h) [(0, .ref (gB γ + 93))] 79 [] Ψ) ?_ N s0 t hf K
  intro s r hf hP hK
  obtain ⟨v1, m_undos⟩ := s
  change b_X7_notes_2 N m_s m_undoMany v1 m_undos = some r at hf
  unfold b_X7_notes_2 at hf
  show Ev γ M_X7_notes (0, 0) n (put 93 (mdB γ 93 m_thrown m_trace m_text m_typed m_next m_token m_place m_value m_fault m_many m_sees m_cold m_first m_told m_s m_w m_kept m_isKept m_undos m_undoMany m_foundMan m_foundHours m_foundIs m_foundMany m_row m_best) h) [(0, .ref (gB γ + 93)), (1, .int v1)] 47 [] Ψ
  refine E_iload_n 1 dX7_notes_47 (q := 48) rfl rfl rfl ?_
  refine E_bipush (x := 48) dX7_notes_48 (q := 50) rfl (by decide) ?_
  refine E_icmp_ge dX7_notes_50 (t := 79) (by decide) (q := 53) rfl (fun c14 => ?_) (fun c14 => ?_)
  · have hf := if_t c14 hf
    exact E_sub [0] rfl (hK _ (Option.some.inj hf).symm)
  · have hf := if_f c14 hf
    refine E_aload_n 0 dX7_notes_53 (q := 54) rfl rfl rfl ?_
    have hF15 : Has n 93 (mdB γ 93 m_thrown m_trace m_text m_typed m_next m_token m_place m_value m_fault m_many m_sees m_cold m_first m_told m_s m_w m_kept m_isKept m_undos m_undoMany m_foundMan m_foundHours m_foundIs m_foundMany m_row m_best) (put 93 (mdB γ 93 m_thrown m_trace m_text m_typed m_next m_token m_place m_value m_fault m_many m_sees m_cold m_first m_told m_s m_w m_kept m_isKept m_undos m_undoMany m_foundMan m_foundHours m_foundIs m_foundMany m_row m_best) h) := (has_put hn_m)
    refine E_get 18 dX7_notes_54 (q := 57) rfl ckX7 (Nat.le_of_ble_eq_true rfl) fl_X7_38 (hF15.at 0 rfl) (hF15.lt 0 (Nat.le_of_ble_eq_true rfl)) rfl ?_
    refine E_bipush (x := 48) dX7_notes_57 (q := 59) rfl (by decide) ?_
    refine E_aload_n 0 dX7_notes_59 (q := 60) rfl rfl rfl ?_
    refine E_get 19 dX7_notes_60 (q := 63) rfl ckX7 (Nat.le_of_ble_eq_true rfl) fl_X7_117 (hF15.at 0 rfl) (hF15.lt 0 (Nat.le_of_ble_eq_true rfl)) rfl ?_
    refine E_imul dX7_notes_63 (q := 64) rfl ?_
    refine E_iload_n 1 dX7_notes_64 (q := 65) rfl rfl rfl ?_
    refine E_iadd dX7_notes_65 (q := 66) rfl ?_
    refine E_aload_n 0 dX7_notes_66 (q := 67) rfl rfl rfl ?_
    refine E_get 14 dX7_notes_67 (q := 70) rfl ckX7 (Nat.le_of_ble_eq_true rfl) fl_X7_25 (hF15.at 0 rfl) (hF15.lt 0 (Nat.le_of_ble_eq_true rfl)) rfl ?_
    refine E_iload_n 1 dX7_notes_70 (q := 71) rfl rfl rfl ?_
    obtain ⟨g16, hf⟩ := gd hf
    refine E_iald dX7_notes_71 (q := 72) rfl (hF15.at 6 rfl) (hF15.lt 6 (Nat.le_of_ble_eq_true rfl)) g16 ?_
    obtain ⟨g17, hf⟩ := gd hf
    refine E_iast dX7_notes_72 (q := 73) rfl (hF15.at 10 rfl) (hF15.lt 10 (Nat.le_of_ble_eq_true rfl)) g17 (up_put (i := 10) (cs' := (mdB γ 93 m_thrown m_trace m_text m_typed m_next m_token m_place m_value m_fault m_many m_sees m_cold m_first m_told m_s m_w m_kept m_isKept (upd m_undos (ci ((48 * m_undoMany) + v1)) (m_s (ci v1))) m_undoMany m_foundMan m_foundHours m_foundIs m_foundMany m_row m_best)) (Nat.le_of_ble_eq_true rfl) rfl) ?_
    refine E_iinc 1 [(1, .int (v1 + 1)), (0, .ref (gB γ + 93))] dX7_notes_73 (q := 76) rfl rfl rfl (Nat.le_of_ble_eq_true rfl) rfl ?_
    refine E_goto (q := 47) dX7_notes_76 (by decide) ?_
    exact E_sub [1, 0] rfl (hP _ (Option.some.inj hf).symm)
set_option maxHeartbeats 4000000 in
set_option maxRecDepth 100000 in
theorem L_X7_notes_3 {γ : GX} {n : Nat} {h : HP} {Ψ : PS} {N : Nat} {m_thrown : Int32} {m_trace : Int64} {m_text : FN} {m_typed : Int32} {m_next : Int32} {m_token : Int32} {m_place : Int32} {m_value : Int32} {m_fault : Int32} {m_many : FN} {m_sees : FN} {m_cold : FN} {m_first : FN} {m_told : Int32} {m_s : FN} {m_w : FN} {m_kept : FN} {m_isKept : FN} {m_undoMany : Int32} {m_foundMan : FN} {m_foundHours : FN} {m_foundIs : FN} {m_foundMany : Int32} {m_row : FN} {m_best : FN} (hn_m : 93 + 16 ≤ n) {s0 : Int32 × FN} {t : FN} (hf : lp (fun s => b_X7_notes_3 N m_s m_undoMany s.1 s.2) N s0 = some t) (K : Ev γ M_X7_notes (0, 0) n (put 93 (mdB γ 93 m_thrown m_trace m_text m_typed m_next m_token m_place m_value m_fault m_many m_sees m_cold m_first m_told m_s m_w m_kept m_isKept t m_undoMany m_foundMan m_foundHours m_foundIs m_foundMany m_row m_best) h) [(0, .ref (gB γ + 93))] 79 [] Ψ) : Ev γ M_X7_notes (0, 0) n (put 93 (mdB γ 93 m_thrown m_trace m_text m_typed m_next m_token m_place m_value m_fault m_many m_sees m_cold m_first m_told m_s m_w m_kept m_isKept s0.2 m_undoMany m_foundMan m_foundHours m_foundIs m_foundMany m_row m_best) h) [(0, .ref (gB γ + 93)), (1, .int s0.1)] 47 [] Ψ := by
  refine E_lp (P := fun s => Ev γ M_X7_notes (0, 0) n (put 93 (mdB γ 93 m_thrown m_trace m_text m_typed m_next m_token m_place m_value m_fault m_many m_sees m_cold m_first m_told m_s m_w m_kept m_isKept s.2 m_undoMany m_foundMan m_foundHours m_foundIs m_foundMany m_row m_best) h) [(0, .ref (gB γ + 93)), (1, .int s.1)] 47 [] Ψ) (K := fun t => Ev γ M_X7_notes (0, 0) n (put 93 (mdB γ 93 m_thrown m_trace m_text m_typed m_next m_token m_place m_value m_fault m_many m_sees m_cold m_first m_told m_s m_w m_kept m_isKept t m_undoMany m_foundMan m_foundHours m_foundIs m_foundMany m_row m_best) h) [(0, .ref (gB γ + 93))] 79 [] Ψ) ?_ N s0 t hf K
  intro s r hf hP hK
  obtain ⟨v1, m_undos⟩ := s
  change b_X7_notes_3 N m_s m_undoMany v1 m_undos = some r at hf
  unfold b_X7_notes_3 at hf
  show Ev γ M_X7_notes (0, 0) n (put 93 (mdB γ 93 m_thrown m_trace m_text m_typed m_next m_token m_place m_value m_fault m_many m_sees m_cold m_first m_told m_s m_w m_kept m_isKept m_undos m_undoMany m_foundMan m_foundHours m_foundIs m_foundMany m_row m_best) h) [(0, .ref (gB γ + 93)), (1, .int v1)] 47 [] Ψ
  refine E_iload_n 1 dX7_notes_47 (q := 48) rfl rfl rfl ?_
  refine E_bipush (x := 48) dX7_notes_48 (q := 50) rfl (by decide) ?_
  refine E_icmp_ge dX7_notes_50 (t := 79) (by decide) (q := 53) rfl (fun c24 => ?_) (fun c24 => ?_)
  · have hf := if_t c24 hf
    exact E_sub [0] rfl (hK _ (Option.some.inj hf).symm)
  · have hf := if_f c24 hf
    refine E_aload_n 0 dX7_notes_53 (q := 54) rfl rfl rfl ?_
    have hF25 : Has n 93 (mdB γ 93 m_thrown m_trace m_text m_typed m_next m_token m_place m_value m_fault m_many m_sees m_cold m_first m_told m_s m_w m_kept m_isKept m_undos m_undoMany m_foundMan m_foundHours m_foundIs m_foundMany m_row m_best) (put 93 (mdB γ 93 m_thrown m_trace m_text m_typed m_next m_token m_place m_value m_fault m_many m_sees m_cold m_first m_told m_s m_w m_kept m_isKept m_undos m_undoMany m_foundMan m_foundHours m_foundIs m_foundMany m_row m_best) h) := (has_put hn_m)
    refine E_get 18 dX7_notes_54 (q := 57) rfl ckX7 (Nat.le_of_ble_eq_true rfl) fl_X7_38 (hF25.at 0 rfl) (hF25.lt 0 (Nat.le_of_ble_eq_true rfl)) rfl ?_
    refine E_bipush (x := 48) dX7_notes_57 (q := 59) rfl (by decide) ?_
    refine E_aload_n 0 dX7_notes_59 (q := 60) rfl rfl rfl ?_
    refine E_get 19 dX7_notes_60 (q := 63) rfl ckX7 (Nat.le_of_ble_eq_true rfl) fl_X7_117 (hF25.at 0 rfl) (hF25.lt 0 (Nat.le_of_ble_eq_true rfl)) rfl ?_
    refine E_imul dX7_notes_63 (q := 64) rfl ?_
    refine E_iload_n 1 dX7_notes_64 (q := 65) rfl rfl rfl ?_
    refine E_iadd dX7_notes_65 (q := 66) rfl ?_
    refine E_aload_n 0 dX7_notes_66 (q := 67) rfl rfl rfl ?_
    refine E_get 14 dX7_notes_67 (q := 70) rfl ckX7 (Nat.le_of_ble_eq_true rfl) fl_X7_25 (hF25.at 0 rfl) (hF25.lt 0 (Nat.le_of_ble_eq_true rfl)) rfl ?_
    refine E_iload_n 1 dX7_notes_70 (q := 71) rfl rfl rfl ?_
    obtain ⟨g26, hf⟩ := gd hf
    refine E_iald dX7_notes_71 (q := 72) rfl (hF25.at 6 rfl) (hF25.lt 6 (Nat.le_of_ble_eq_true rfl)) g26 ?_
    obtain ⟨g27, hf⟩ := gd hf
    refine E_iast dX7_notes_72 (q := 73) rfl (hF25.at 10 rfl) (hF25.lt 10 (Nat.le_of_ble_eq_true rfl)) g27 (up_put (i := 10) (cs' := (mdB γ 93 m_thrown m_trace m_text m_typed m_next m_token m_place m_value m_fault m_many m_sees m_cold m_first m_told m_s m_w m_kept m_isKept (upd m_undos (ci ((48 * m_undoMany) + v1)) (m_s (ci v1))) m_undoMany m_foundMan m_foundHours m_foundIs m_foundMany m_row m_best)) (Nat.le_of_ble_eq_true rfl) rfl) ?_
    refine E_iinc 1 [(1, .int (v1 + 1)), (0, .ref (gB γ + 93))] dX7_notes_73 (q := 76) rfl rfl rfl (Nat.le_of_ble_eq_true rfl) rfl ?_
    refine E_goto (q := 47) dX7_notes_76 (by decide) ?_
    exact E_sub [1, 0] rfl (hP _ (Option.some.inj hf).symm)
set_option maxHeartbeats 4000000 in
set_option maxRecDepth 100000 in
theorem m_X7_notes {γ : GX} {n : Nat} {N : Nat} {h : HP} {m_thrown : Int32} {m_trace : Int64} {m_text : FN} {m_typed : Int32} {m_next : Int32} {m_token : Int32} {m_place : Int32} {m_value : Int32} {m_fault : Int32} {m_many : FN} {m_sees : FN} {m_cold : FN} {m_first : FN} {m_told : Int32} {m_s : FN} {m_w : FN} {m_kept : FN} {m_isKept : FN} {m_undos : FN} {m_undoMany : Int32} {m_foundMan : FN} {m_foundHours : FN} {m_foundIs : FN} {m_foundMany : Int32} {m_row : FN} {m_best : FN} (hH_m : Has n 93 (mdB γ 93 m_thrown m_trace m_text m_typed m_next m_token m_place m_value m_fault m_many m_sees m_cold m_first m_told m_s m_w m_kept m_isKept m_undos m_undoMany m_foundMan m_foundHours m_foundIs m_foundMany m_row m_best) h) {z : FN × Int32} (hf : f_X7_notes N m_s m_undos m_undoMany = some z)  : Ct γ M_X7_notes n h [.ref (gB γ + 93)] (Done none n (put 93 (mdB γ 93 m_thrown m_trace m_text m_typed m_next m_token m_place m_value m_fault m_many m_sees m_cold m_first m_told m_s m_w m_kept m_isKept z.1 z.2 m_foundMan m_foundHours m_foundIs m_foundMany m_row m_best) h)) := by
  have hn_m : 93 + 16 ≤ n := hH_m.1
  refine Ct.heap (h := (put 93 (mdB γ 93 m_thrown m_trace m_text m_typed m_next m_token m_place m_value m_fault m_many m_sees m_cold m_first m_told m_s m_w m_kept m_isKept m_undos m_undoMany m_foundMan m_foundHours m_foundIs m_foundMany m_row m_best) h)) (put_self hH_m).symm ?_
  refine Ct_of_Ev (by decide) (fun h => by cases h) (Nat.le_of_ble_eq_true rfl) ?_
  show Ev γ M_X7_notes (0, 0) n (put 93 (mdB γ 93 m_thrown m_trace m_text m_typed m_next m_token m_place m_value m_fault m_many m_sees m_cold m_first m_told m_s m_w m_kept m_isKept m_undos m_undoMany m_foundMan m_foundHours m_foundIs m_foundMany m_row m_best) h) [(0, .ref (gB γ + 93))] 0 [] _
  unfold f_X7_notes at hf
  refine E_aload_n 0 dX7_notes_0 (q := 1) rfl rfl rfl ?_
  have hF1 : Has n 93 (mdB γ 93 m_thrown m_trace m_text m_typed m_next m_token m_place m_value m_fault m_many m_sees m_cold m_first m_told m_s m_w m_kept m_isKept m_undos m_undoMany m_foundMan m_foundHours m_foundIs m_foundMany m_row m_best) (put 93 (mdB γ 93 m_thrown m_trace m_text m_typed m_next m_token m_place m_value m_fault m_many m_sees m_cold m_first m_told m_s m_w m_kept m_isKept m_undos m_undoMany m_foundMan m_foundHours m_foundIs m_foundMany m_row m_best) h) := (has_put hn_m)
  refine E_get 19 dX7_notes_1 (q := 4) rfl ckX7 (Nat.le_of_ble_eq_true rfl) fl_X7_117 (hF1.at 0 rfl) (hF1.lt 0 (Nat.le_of_ble_eq_true rfl)) rfl ?_
  refine E_bipush (x := 10) dX7_notes_4 (q := 6) rfl (by decide) ?_
  refine E_icmp_ne dX7_notes_6 (t := 45) (by decide) (q := 9) rfl (fun c2 => ?_) (fun c2 => ?_)
  · have hf := if_f c2 hf
    refine E_iconst (x := 0) dX7_notes_45 (q := 46) rfl (by decide) ?_
    refine E_istore_n [(1, .int 0), (0, .ref (gB γ + 93))] dX7_notes_46 (q := 47) rfl rfl (Nat.le_of_ble_eq_true rfl) rfl ?_
    obtain ⟨t29, hxt29, hf⟩ := bnd hf
    refine E_sub [1, 0] rfl ?_
    refine L_X7_notes_3 hn_m hxt29 ?_
    show Ev γ M_X7_notes _ n (put 93 (mdB γ 93 m_thrown m_trace m_text m_typed m_next m_token m_place m_value m_fault m_many m_sees m_cold m_first m_told m_s m_w m_kept m_isKept t29 m_undoMany m_foundMan m_foundHours m_foundIs m_foundMany m_row m_best) h) [(0, .ref (gB γ + 93))] 79 [] _
    refine E_aload_n 0 dX7_notes_79 (q := 80) rfl rfl rfl ?_
    refine E_dup dX7_notes_80 (q := 81) rfl rfl ?_
    have hF31 : Has n 93 (mdB γ 93 m_thrown m_trace m_text m_typed m_next m_token m_place m_value m_fault m_many m_sees m_cold m_first m_told m_s m_w m_kept m_isKept t29 m_undoMany m_foundMan m_foundHours m_foundIs m_foundMany m_row m_best) (put 93 (mdB γ 93 m_thrown m_trace m_text m_typed m_next m_token m_place m_value m_fault m_many m_sees m_cold m_first m_told m_s m_w m_kept m_isKept t29 m_undoMany m_foundMan m_foundHours m_foundIs m_foundMany m_row m_best) h) := (has_put hn_m)
    refine E_get 19 dX7_notes_81 (q := 84) rfl ckX7 (Nat.le_of_ble_eq_true rfl) fl_X7_117 (hF31.at 0 rfl) (hF31.lt 0 (Nat.le_of_ble_eq_true rfl)) rfl ?_
    refine E_iconst (x := 1) dX7_notes_84 (q := 85) rfl (by decide) ?_
    refine E_iadd dX7_notes_85 (q := 86) rfl ?_
    refine E_put 19 dX7_notes_86 (q := 89) rfl ckX7 (Nat.le_of_ble_eq_true rfl) fl_X7_117 rfl rfl rfl (hF31.at 0 rfl) (hF31.lt 0 (Nat.le_of_ble_eq_true rfl)) (Nat.le_of_ble_eq_true rfl) (up_put (i := 0) (cs' := (mdB γ 93 m_thrown m_trace m_text m_typed m_next m_token m_place m_value m_fault m_many m_sees m_cold m_first m_told m_s m_w m_kept m_isKept t29 (m_undoMany + 1) m_foundMan m_foundHours m_foundIs m_foundMany m_row m_best)) (Nat.le_of_ble_eq_true rfl) rfl) ?_
    obtain rfl := Option.some.inj hf
    exact E_vret dX7_notes_89 rfl ⟨rfl, rfl, rfl⟩
  · have hf := if_t c2 hf
    refine E_iconst (x := 0) dX7_notes_9 (q := 10) rfl (by decide) ?_
    refine E_istore_n [(1, .int 0), (0, .ref (gB γ + 93))] dX7_notes_10 (q := 11) rfl rfl (Nat.le_of_ble_eq_true rfl) rfl ?_
    obtain ⟨t9, hxt9, hf⟩ := bnd hf
    refine E_sub [1, 0] rfl ?_
    refine L_X7_notes_1 hn_m hxt9 ?_
    show Ev γ M_X7_notes _ n (put 93 (mdB γ 93 m_thrown m_trace m_text m_typed m_next m_token m_place m_value m_fault m_many m_sees m_cold m_first m_told m_s m_w m_kept m_isKept t9 m_undoMany m_foundMan m_foundHours m_foundIs m_foundMany m_row m_best) h) [(0, .ref (gB γ + 93))] 39 [] _
    refine E_aload_n 0 dX7_notes_39 (q := 40) rfl rfl rfl ?_
    refine E_bipush (x := 9) dX7_notes_40 (q := 42) rfl (by decide) ?_
    have hF11 : Has n 93 (mdB γ 93 m_thrown m_trace m_text m_typed m_next m_token m_place m_value m_fault m_many m_sees m_cold m_first m_told m_s m_w m_kept m_isKept t9 m_undoMany m_foundMan m_foundHours m_foundIs m_foundMany m_row m_best) (put 93 (mdB γ 93 m_thrown m_trace m_text m_typed m_next m_token m_place m_value m_fault m_many m_sees m_cold m_first m_told m_s m_w m_kept m_isKept t9 m_undoMany m_foundMan m_foundHours m_foundIs m_foundMany m_row m_best) h) := (has_put hn_m)
    refine E_put 19 dX7_notes_42 (q := 45) rfl ckX7 (Nat.le_of_ble_eq_true rfl) fl_X7_117 rfl rfl rfl (hF11.at 0 rfl) (hF11.lt 0 (Nat.le_of_ble_eq_true rfl)) (Nat.le_of_ble_eq_true rfl) (up_put (i := 0) (cs' := (mdB γ 93 m_thrown m_trace m_text m_typed m_next m_token m_place m_value m_fault m_many m_sees m_cold m_first m_told m_s m_w m_kept m_isKept t9 9 m_foundMan m_foundHours m_foundIs m_foundMany m_row m_best)) (Nat.le_of_ble_eq_true rfl) rfl) ?_
    refine E_iconst (x := 0) dX7_notes_45 (q := 46) rfl (by decide) ?_
    refine E_istore_n [(1, .int 0), (0, .ref (gB γ + 93))] dX7_notes_46 (q := 47) rfl rfl (Nat.le_of_ble_eq_true rfl) rfl ?_
    obtain ⟨t19, hxt19, hf⟩ := bnd hf
    refine E_sub [1, 0] rfl ?_
    refine L_X7_notes_2 hn_m hxt19 ?_
    show Ev γ M_X7_notes _ n (put 93 (mdB γ 93 m_thrown m_trace m_text m_typed m_next m_token m_place m_value m_fault m_many m_sees m_cold m_first m_told m_s m_w m_kept m_isKept t19 9 m_foundMan m_foundHours m_foundIs m_foundMany m_row m_best) h) [(0, .ref (gB γ + 93))] 79 [] _
    refine E_aload_n 0 dX7_notes_79 (q := 80) rfl rfl rfl ?_
    refine E_dup dX7_notes_80 (q := 81) rfl rfl ?_
    have hF21 : Has n 93 (mdB γ 93 m_thrown m_trace m_text m_typed m_next m_token m_place m_value m_fault m_many m_sees m_cold m_first m_told m_s m_w m_kept m_isKept t19 9 m_foundMan m_foundHours m_foundIs m_foundMany m_row m_best) (put 93 (mdB γ 93 m_thrown m_trace m_text m_typed m_next m_token m_place m_value m_fault m_many m_sees m_cold m_first m_told m_s m_w m_kept m_isKept t19 9 m_foundMan m_foundHours m_foundIs m_foundMany m_row m_best) h) := (has_put hn_m)
    refine E_get 19 dX7_notes_81 (q := 84) rfl ckX7 (Nat.le_of_ble_eq_true rfl) fl_X7_117 (hF21.at 0 rfl) (hF21.lt 0 (Nat.le_of_ble_eq_true rfl)) rfl ?_
    refine E_iconst (x := 1) dX7_notes_84 (q := 85) rfl (by decide) ?_
    refine E_iadd dX7_notes_85 (q := 86) rfl ?_
    refine E_put 19 dX7_notes_86 (q := 89) rfl ckX7 (Nat.le_of_ble_eq_true rfl) fl_X7_117 rfl rfl rfl (hF21.at 0 rfl) (hF21.lt 0 (Nat.le_of_ble_eq_true rfl)) (Nat.le_of_ble_eq_true rfl) (up_put (i := 0) (cs' := (mdB γ 93 m_thrown m_trace m_text m_typed m_next m_token m_place m_value m_fault m_many m_sees m_cold m_first m_told m_s m_w m_kept m_isKept t19 (9 + 1) m_foundMan m_foundHours m_foundIs m_foundMany m_row m_best)) (Nat.le_of_ble_eq_true rfl) rfl) ?_
    obtain rfl := Option.some.inj hf
    exact E_vret dX7_notes_89 rfl ⟨rfl, rfl, rfl⟩

-- PostReliefModel.goes([I)V
def b_X7_goes_s_1 (N : Nat) (p2 : Int32) (m_many : FN) (m_cold : FN) (v3 : Int32) (m_s : FN) : Option ((Int32 × FN) ⊕ (FN)) :=
  (if (m_many (ci 1)) ≤ v3 then some (.inr m_s) else (if ix (7 + v3) 48 = true then (if ix (1 + v3) 48 = true then (if ((m_s (ci (7 + v3))) - 1) < 0 then (if 0 ≤ ((m_s (ci (1 + v3))) - (m_many (ci 3))) then (if ((m_s (ci (1 + v3))) - (m_many (ci 3))) ≤ 60 then some (.inl ((v3 + 1), (upd m_s (ci (1 + v3)) ((m_s (ci (1 + v3))) - (m_many (ci 3)))))) else some (.inl ((v3 + 1), (upd m_s (ci (1 + v3)) 60)))) else some (.inl ((v3 + 1), (upd m_s (ci (1 + v3)) 0)))) else ((f_X7_in N p2 2 4).bind fun z13 => (if z13 = 0 then (if ix ((m_s (ci (7 + v3))) - 1) 10 = true then (if ix (13 + ((m_s (ci (7 + v3))) - 1)) 48 = true then (if ix ((18 + (5 * v3)) + ((m_s (ci (7 + v3))) - 1)) 48 = true then (if 0 ≤ ((((m_s (ci (1 + v3))) + 4) + 0) + ((m_cold (ci ((m_s (ci (7 + v3))) - 1))) / 3)) then (if ((((m_s (ci (1 + v3))) + 4) + 0) + ((m_cold (ci ((m_s (ci (7 + v3))) - 1))) / 3)) ≤ 60 then some (.inl ((v3 + 1), (upd (upd (upd m_s (ci (13 + ((m_s (ci (7 + v3))) - 1))) ((m_s (ci (13 + ((m_s (ci (7 + v3))) - 1)))) + 1)) (ci ((18 + (5 * v3)) + ((m_s (ci (7 + v3))) - 1))) (((upd m_s (ci (13 + ((m_s (ci (7 + v3))) - 1))) ((m_s (ci (13 + ((m_s (ci (7 + v3))) - 1)))) + 1)) (ci ((18 + (5 * v3)) + ((m_s (ci (7 + v3))) - 1)))) + 1)) (ci (1 + v3)) ((((m_s (ci (1 + v3))) + 4) + 0) + ((m_cold (ci ((m_s (ci (7 + v3))) - 1))) / 3))))) else some (.inl ((v3 + 1), (upd (upd (upd m_s (ci (13 + ((m_s (ci (7 + v3))) - 1))) ((m_s (ci (13 + ((m_s (ci (7 + v3))) - 1)))) + 1)) (ci ((18 + (5 * v3)) + ((m_s (ci (7 + v3))) - 1))) (((upd m_s (ci (13 + ((m_s (ci (7 + v3))) - 1))) ((m_s (ci (13 + ((m_s (ci (7 + v3))) - 1)))) + 1)) (ci ((18 + (5 * v3)) + ((m_s (ci (7 + v3))) - 1)))) + 1)) (ci (1 + v3)) 60)))) else some (.inl ((v3 + 1), (upd (upd (upd m_s (ci (13 + ((m_s (ci (7 + v3))) - 1))) ((m_s (ci (13 + ((m_s (ci (7 + v3))) - 1)))) + 1)) (ci ((18 + (5 * v3)) + ((m_s (ci (7 + v3))) - 1))) (((upd m_s (ci (13 + ((m_s (ci (7 + v3))) - 1))) ((m_s (ci (13 + ((m_s (ci (7 + v3))) - 1)))) + 1)) (ci ((18 + (5 * v3)) + ((m_s (ci (7 + v3))) - 1)))) + 1)) (ci (1 + v3)) 0)))) else none) else none) else none) else (if ix ((m_s (ci (7 + v3))) - 1) 10 = true then (if ix (13 + ((m_s (ci (7 + v3))) - 1)) 48 = true then (if ix ((18 + (5 * v3)) + ((m_s (ci (7 + v3))) - 1)) 48 = true then (if 0 ≤ ((((m_s (ci (1 + v3))) + 4) + 2) + ((m_cold (ci ((m_s (ci (7 + v3))) - 1))) / 3)) then (if ((((m_s (ci (1 + v3))) + 4) + 2) + ((m_cold (ci ((m_s (ci (7 + v3))) - 1))) / 3)) ≤ 60 then some (.inl ((v3 + 1), (upd (upd (upd m_s (ci (13 + ((m_s (ci (7 + v3))) - 1))) ((m_s (ci (13 + ((m_s (ci (7 + v3))) - 1)))) + 1)) (ci ((18 + (5 * v3)) + ((m_s (ci (7 + v3))) - 1))) (((upd m_s (ci (13 + ((m_s (ci (7 + v3))) - 1))) ((m_s (ci (13 + ((m_s (ci (7 + v3))) - 1)))) + 1)) (ci ((18 + (5 * v3)) + ((m_s (ci (7 + v3))) - 1)))) + 1)) (ci (1 + v3)) ((((m_s (ci (1 + v3))) + 4) + 2) + ((m_cold (ci ((m_s (ci (7 + v3))) - 1))) / 3))))) else some (.inl ((v3 + 1), (upd (upd (upd m_s (ci (13 + ((m_s (ci (7 + v3))) - 1))) ((m_s (ci (13 + ((m_s (ci (7 + v3))) - 1)))) + 1)) (ci ((18 + (5 * v3)) + ((m_s (ci (7 + v3))) - 1))) (((upd m_s (ci (13 + ((m_s (ci (7 + v3))) - 1))) ((m_s (ci (13 + ((m_s (ci (7 + v3))) - 1)))) + 1)) (ci ((18 + (5 * v3)) + ((m_s (ci (7 + v3))) - 1)))) + 1)) (ci (1 + v3)) 60)))) else some (.inl ((v3 + 1), (upd (upd (upd m_s (ci (13 + ((m_s (ci (7 + v3))) - 1))) ((m_s (ci (13 + ((m_s (ci (7 + v3))) - 1)))) + 1)) (ci ((18 + (5 * v3)) + ((m_s (ci (7 + v3))) - 1))) (((upd m_s (ci (13 + ((m_s (ci (7 + v3))) - 1))) ((m_s (ci (13 + ((m_s (ci (7 + v3))) - 1)))) + 1)) (ci ((18 + (5 * v3)) + ((m_s (ci (7 + v3))) - 1)))) + 1)) (ci (1 + v3)) 0)))) else none) else none) else none)))) else none) else none))
def f_X7_goes_s (N : Nat) (m_many : FN) (m_cold : FN) (m_s : FN) : Option (FN) :=
  ((lp (fun s => b_X7_goes_s_1 N ((m_s (ci 0)) % 12) m_many m_cold s.1 s.2) N (0, m_s)).bind fun t43 => some (upd t43 (ci 0) ((t43 (ci 0)) + 1)))
set_option maxHeartbeats 4000000 in
set_option maxRecDepth 100000 in
theorem L_X7_goes_s_1 {γ : GX} {n : Nat} {h : HP} {Ψ : PS} {N : Nat} {p2 : Int32} {m_thrown : Int32} {m_trace : Int64} {m_text : FN} {m_typed : Int32} {m_next : Int32} {m_token : Int32} {m_place : Int32} {m_value : Int32} {m_fault : Int32} {m_many : FN} {m_sees : FN} {m_cold : FN} {m_first : FN} {m_told : Int32} {m_w : FN} {m_kept : FN} {m_isKept : FN} {m_undos : FN} {m_undoMany : Int32} {m_foundMan : FN} {m_foundHours : FN} {m_foundIs : FN} {m_foundMany : Int32} {m_row : FN} {m_best : FN} (hn_m : 93 + 16 ≤ n) {s0 : Int32 × FN} {t : FN} (hf : lp (fun s => b_X7_goes_s_1 N p2 m_many m_cold s.1 s.2) N s0 = some t) (K : Ev γ M_X7_goes (0, 0) n (put 93 (mdB γ 93 m_thrown m_trace m_text m_typed m_next m_token m_place m_value m_fault m_many m_sees m_cold m_first m_told t m_w m_kept m_isKept m_undos m_undoMany m_foundMan m_foundHours m_foundIs m_foundMany m_row m_best) h) [(1, .ref (gB γ + (93 + 6)))] 142 [] Ψ) : Ev γ M_X7_goes (0, 0) n (put 93 (mdB γ 93 m_thrown m_trace m_text m_typed m_next m_token m_place m_value m_fault m_many m_sees m_cold m_first m_told s0.2 m_w m_kept m_isKept m_undos m_undoMany m_foundMan m_foundHours m_foundIs m_foundMany m_row m_best) h) [(0, .ref (gB γ + 93)), (1, .ref (gB γ + (93 + 6))), (2, .int p2), (3, .int s0.1)] 9 [] Ψ := by
  refine E_lp (P := fun s => Ev γ M_X7_goes (0, 0) n (put 93 (mdB γ 93 m_thrown m_trace m_text m_typed m_next m_token m_place m_value m_fault m_many m_sees m_cold m_first m_told s.2 m_w m_kept m_isKept m_undos m_undoMany m_foundMan m_foundHours m_foundIs m_foundMany m_row m_best) h) [(0, .ref (gB γ + 93)), (1, .ref (gB γ + (93 + 6))), (2, .int p2), (3, .int s.1)] 9 [] Ψ) (K := fun t => Ev γ M_X7_goes (0, 0) n (put 93 (mdB γ 93 m_thrown m_trace m_text m_typed m_next m_token m_place m_value m_fault m_many m_sees m_cold m_first m_told t m_w m_kept m_isKept m_undos m_undoMany m_foundMan m_foundHours m_foundIs m_foundMany m_row m_best) h) [(1, .ref (gB γ + (93 + 6)))] 142 [] Ψ) ?_ N s0 t hf K
  intro s r hf hP hK
  obtain ⟨v3, m_s⟩ := s
  change b_X7_goes_s_1 N p2 m_many m_cold v3 m_s = some r at hf
  unfold b_X7_goes_s_1 at hf
  show Ev γ M_X7_goes (0, 0) n (put 93 (mdB γ 93 m_thrown m_trace m_text m_typed m_next m_token m_place m_value m_fault m_many m_sees m_cold m_first m_told m_s m_w m_kept m_isKept m_undos m_undoMany m_foundMan m_foundHours m_foundIs m_foundMany m_row m_best) h) [(0, .ref (gB γ + 93)), (1, .ref (gB γ + (93 + 6))), (2, .int p2), (3, .int v3)] 9 [] Ψ
  refine E_iload_n 3 dX7_goes_9 (q := 10) rfl rfl rfl ?_
  refine E_aload_n 0 dX7_goes_10 (q := 11) rfl rfl rfl ?_
  have hF3 : Has n 93 (mdB γ 93 m_thrown m_trace m_text m_typed m_next m_token m_place m_value m_fault m_many m_sees m_cold m_first m_told m_s m_w m_kept m_isKept m_undos m_undoMany m_foundMan m_foundHours m_foundIs m_foundMany m_row m_best) (put 93 (mdB γ 93 m_thrown m_trace m_text m_typed m_next m_token m_place m_value m_fault m_many m_sees m_cold m_first m_told m_s m_w m_kept m_isKept m_undos m_undoMany m_foundMan m_foundHours m_foundIs m_foundMany m_row m_best) h) := (has_put hn_m)
  refine E_get 9 dX7_goes_11 (q := 14) rfl ckX7 (Nat.le_of_ble_eq_true rfl) fl_X7_13 (hF3.at 0 rfl) (hF3.lt 0 (Nat.le_of_ble_eq_true rfl)) rfl ?_
  refine E_iconst (x := 1) dX7_goes_14 (q := 15) rfl (by decide) ?_
  refine E_iald dX7_goes_15 (q := 16) rfl (hF3.at 2 rfl) (hF3.lt 2 (Nat.le_of_ble_eq_true rfl)) (by decide +kernel) ?_
  refine E_icmp_ge dX7_goes_16 (t := 142) (by decide) (q := 19) rfl (fun c4 => ?_) (fun c4 => ?_)
  · have hf := if_t c4 hf
    exact E_sub [1] rfl (hK _ (Option.some.inj hf).symm)
  · have hf := if_f c4 hf
    refine E_aload_n 1 dX7_goes_19 (q := 20) rfl rfl rfl ?_
    refine E_bipush (x := 7) dX7_goes_20 (q := 22) rfl (by decide) ?_
    refine E_iload_n 3 dX7_goes_22 (q := 23) rfl rfl rfl ?_
    refine E_iadd dX7_goes_23 (q := 24) rfl ?_
    obtain ⟨g5, hf⟩ := gd hf
    refine E_iald dX7_goes_24 (q := 25) rfl (hF3.at 6 rfl) (hF3.lt 6 (Nat.le_of_ble_eq_true rfl)) g5 ?_
    refine E_iconst (x := 1) dX7_goes_25 (q := 26) rfl (by decide) ?_
    refine E_isub dX7_goes_26 (q := 27) rfl ?_
    refine E_istore [(4, .int ((m_s (ci (7 + v3))) - 1)), (0, .ref (gB γ + 93)), (1, .ref (gB γ + (93 + 6))), (2, .int p2), (3, .int v3)] dX7_goes_27 (q := 29) rfl (Nat.le_of_ble_eq_true rfl) rfl ?_
    refine E_aload_n 2 dX7_goes_29 (q := 30) rfl rfl rfl ?_
    refine E_iconst (x := 1) dX7_goes_30 (q := 31) rfl (by decide) ?_
    refine E_iload_n 4 dX7_goes_31 (q := 32) rfl rfl rfl ?_
    refine E_iadd dX7_goes_32 (q := 33) rfl ?_
    obtain ⟨g6, hf⟩ := gd hf
    refine E_iald dX7_goes_33 (q := 34) rfl (hF3.at 6 rfl) (hF3.lt 6 (Nat.le_of_ble_eq_true rfl)) g6 ?_
    refine E_aload_n 1 dX7_goes_34 (q := 35) rfl rfl rfl ?_
    refine E_get 9 dX7_goes_35 (q := 38) rfl ckX7 (Nat.le_of_ble_eq_true rfl) fl_X7_13 (hF3.at 0 rfl) (hF3.lt 0 (Nat.le_of_ble_eq_true rfl)) rfl ?_
    refine E_iconst (x := 3) dX7_goes_38 (q := 39) rfl (by decide) ?_
    refine E_iald dX7_goes_39 (q := 40) rfl (hF3.at 2 rfl) (hF3.lt 2 (Nat.le_of_ble_eq_true rfl)) (by decide +kernel) ?_
    refine E_isub dX7_goes_40 (q := 41) rfl ?_
    refine E_istore [(5, .int ((m_s (ci (1 + v3))) - (m_many (ci 3)))), (4, .int ((m_s (ci (7 + v3))) - 1)), (0, .ref (gB γ + 93)), (1, .ref (gB γ + (93 + 6))), (2, .int p2), (3, .int v3)] dX7_goes_41 (q := 43) rfl (Nat.le_of_ble_eq_true rfl) rfl ?_
    refine E_iload 1 dX7_goes_43 (q := 45) rfl rfl ?_
    refine E_if_lt dX7_goes_45 (t := 108) (by decide) (q := 48) rfl (fun c7 => ?_) (fun c7 => ?_)
    · have hf := if_t c7 hf
      refine E_aload_n 3 dX7_goes_108 (q := 109) rfl rfl rfl ?_
      refine E_iconst (x := 1) dX7_goes_109 (q := 110) rfl (by decide) ?_
      refine E_iload_n 5 dX7_goes_110 (q := 111) rfl rfl rfl ?_
      refine E_iadd dX7_goes_111 (q := 112) rfl ?_
      refine E_iload 0 dX7_goes_112 (q := 114) rfl rfl ?_
      refine E_if_ge dX7_goes_114 (t := 121) (by decide) (q := 117) rfl (fun c8 => ?_) (fun c8 => ?_)
      · have hf := if_t c8 hf
        refine E_iload 0 dX7_goes_121 (q := 123) rfl rfl ?_
        refine E_bipush (x := 60) dX7_goes_123 (q := 125) rfl (by decide) ?_
        refine E_icmp_le dX7_goes_125 (t := 133) (by decide) (q := 128) rfl (fun c9 => ?_) (fun c9 => ?_)
        · have hf := if_t c9 hf
          refine E_iload 0 dX7_goes_133 (q := 135) rfl rfl ?_
          refine E_iast dX7_goes_135 (q := 136) rfl (hF3.at 6 rfl) (hF3.lt 6 (Nat.le_of_ble_eq_true rfl)) g6 (up_put (i := 6) (cs' := (mdB γ 93 m_thrown m_trace m_text m_typed m_next m_token m_place m_value m_fault m_many m_sees m_cold m_first m_told (upd m_s (ci (1 + v3)) ((m_s (ci (1 + v3))) - (m_many (ci 3)))) m_w m_kept m_isKept m_undos m_undoMany m_foundMan m_foundHours m_foundIs m_foundMany m_row m_best)) (Nat.le_of_ble_eq_true rfl) rfl) ?_
          refine E_iinc 5 [(3, .int (v3 + 1)), (5, .int ((m_s (ci (1 + v3))) - (m_many (ci 3)))), (4, .int ((m_s (ci (7 + v3))) - 1)), (0, .ref (gB γ + 93)), (1, .ref (gB γ + (93 + 6))), (2, .int p2)] dX7_goes_136 (q := 139) rfl rfl rfl (Nat.le_of_ble_eq_true rfl) rfl ?_
          refine E_goto (q := 9) dX7_goes_139 (by decide) ?_
          exact E_sub [3, 4, 5, 0] rfl (hP _ (Option.some.inj hf).symm)
        · have hf := if_f c9 hf
          refine E_bipush (x := 60) dX7_goes_128 (q := 130) rfl (by decide) ?_
          refine E_goto (q := 135) dX7_goes_130 (by decide) ?_
          refine E_iast dX7_goes_135 (q := 136) rfl (hF3.at 6 rfl) (hF3.lt 6 (Nat.le_of_ble_eq_true rfl)) g6 (up_put (i := 6) (cs' := (mdB γ 93 m_thrown m_trace m_text m_typed m_next m_token m_place m_value m_fault m_many m_sees m_cold m_first m_told (upd m_s (ci (1 + v3)) 60) m_w m_kept m_isKept m_undos m_undoMany m_foundMan m_foundHours m_foundIs m_foundMany m_row m_best)) (Nat.le_of_ble_eq_true rfl) rfl) ?_
          refine E_iinc 5 [(3, .int (v3 + 1)), (5, .int ((m_s (ci (1 + v3))) - (m_many (ci 3)))), (4, .int ((m_s (ci (7 + v3))) - 1)), (0, .ref (gB γ + 93)), (1, .ref (gB γ + (93 + 6))), (2, .int p2)] dX7_goes_136 (q := 139) rfl rfl rfl (Nat.le_of_ble_eq_true rfl) rfl ?_
          refine E_goto (q := 9) dX7_goes_139 (by decide) ?_
          exact E_sub [3, 4, 5, 0] rfl (hP _ (Option.some.inj hf).symm)
      · have hf := if_f c8 hf
        refine E_iconst (x := 0) dX7_goes_117 (q := 118) rfl (by decide) ?_
        refine E_goto (q := 135) dX7_goes_118 (by decide) ?_
        refine E_iast dX7_goes_135 (q := 136) rfl (hF3.at 6 rfl) (hF3.lt 6 (Nat.le_of_ble_eq_true rfl)) g6 (up_put (i := 6) (cs' := (mdB γ 93 m_thrown m_trace m_text m_typed m_next m_token m_place m_value m_fault m_many m_sees m_cold m_first m_told (upd m_s (ci (1 + v3)) 0) m_w m_kept m_isKept m_undos m_undoMany m_foundMan m_foundHours m_foundIs m_foundMany m_row m_best)) (Nat.le_of_ble_eq_true rfl) rfl) ?_
        refine E_iinc 5 [(3, .int (v3 + 1)), (5, .int ((m_s (ci (1 + v3))) - (m_many (ci 3)))), (4, .int ((m_s (ci (7 + v3))) - 1)), (0, .ref (gB γ + 93)), (1, .ref (gB γ + (93 + 6))), (2, .int p2)] dX7_goes_136 (q := 139) rfl rfl rfl (Nat.le_of_ble_eq_true rfl) rfl ?_
        refine E_goto (q := 9) dX7_goes_139 (by decide) ?_
        exact E_sub [3, 4, 5, 0] rfl (hP _ (Option.some.inj hf).symm)
    · have hf := if_f c7 hf
      refine E_aload_n 3 dX7_goes_48 (q := 49) rfl rfl rfl ?_
      refine E_iconst (x := 1) dX7_goes_49 (q := 50) rfl (by decide) ?_
      refine E_iload_n 5 dX7_goes_50 (q := 51) rfl rfl rfl ?_
      refine E_iadd dX7_goes_51 (q := 52) rfl ?_
      refine E_iald dX7_goes_52 (q := 53) rfl (hF3.at 6 rfl) (hF3.lt 6 (Nat.le_of_ble_eq_true rfl)) g6 ?_
      refine E_iconst (x := 4) dX7_goes_53 (q := 54) rfl (by decide) ?_
      refine E_iadd dX7_goes_54 (q := 55) rfl ?_
      refine E_iload_n 4 dX7_goes_55 (q := 56) rfl rfl rfl ?_
      refine E_iconst (x := 2) dX7_goes_56 (q := 57) rfl (by decide) ?_
      refine E_iconst (x := 4) dX7_goes_57 (q := 58) rfl (by decide) ?_
      obtain ⟨z13, hxz13, hf⟩ := bnd hf
      refine E_cS (as := [.int p2, .int 2, .int 4]) (rest := [.int ((m_s (ci (1 + v3))) + 4)]) (u' := (0, 0)) (st' := [.int z13, .int ((m_s (ci (1 + v3))) + 4)]) dX7_goes_58 (q := 61) rfl lkm_X7_in lks_X7_60 (Nat.le_of_ble_eq_true rfl) ⟨Nat.le_refl _, Nat.le_refl _⟩ (Nat.le_of_ble_eq_true rfl) rfl rfl (m_X7_in (N := N)  hxz13) rfl rfl rfl ?_
      refine E_if_eq dX7_goes_61 (t := 68) (by decide) (q := 64) rfl (fun c14 => ?_) (fun c14 => ?_)
      · have hf := if_t c14 hf
        refine E_iconst (x := 0) dX7_goes_68 (q := 69) rfl (by decide) ?_
        refine E_iadd dX7_goes_69 (q := 70) rfl ?_
        refine E_aload_n 2 dX7_goes_70 (q := 71) rfl rfl rfl ?_
        refine E_get 11 dX7_goes_71 (q := 74) rfl ckX7 (Nat.le_of_ble_eq_true rfl) fl_X7_19 (hF3.at 0 rfl) (hF3.lt 0 (Nat.le_of_ble_eq_true rfl)) rfl ?_
        refine E_iload 1 dX7_goes_74 (q := 76) rfl rfl ?_
        obtain ⟨g15, hf⟩ := gd hf
        refine E_iald dX7_goes_76 (q := 77) rfl (hF3.at 4 rfl) (hF3.lt 4 (Nat.le_of_ble_eq_true rfl)) g15 ?_
        refine E_iconst (x := 3) dX7_goes_77 (q := 78) rfl (by decide) ?_
        refine E_idiv dX7_goes_78 (q := 79) rfl (by decide) ?_
        refine E_iadd dX7_goes_79 (q := 80) rfl ?_
        refine E_istore [(5, .int ((((m_s (ci (1 + v3))) + 4) + 0) + ((m_cold (ci ((m_s (ci (7 + v3))) - 1))) / 3))), (4, .int ((m_s (ci (7 + v3))) - 1)), (0, .ref (gB γ + 93)), (1, .ref (gB γ + (93 + 6))), (2, .int p2), (3, .int v3)] dX7_goes_80 (q := 82) rfl (Nat.le_of_ble_eq_true rfl) rfl ?_
        refine E_aload_n 3 dX7_goes_82 (q := 83) rfl rfl rfl ?_
        refine E_bipush (x := 13) dX7_goes_83 (q := 85) rfl (by decide) ?_
        refine E_iload 1 dX7_goes_85 (q := 87) rfl rfl ?_
        refine E_iadd dX7_goes_87 (q := 88) rfl ?_
        refine E_dup2 dX7_goes_88 (q := 89) rfl rfl rfl ?_
        obtain ⟨g16, hf⟩ := gd hf
        refine E_iald dX7_goes_89 (q := 90) rfl (hF3.at 6 rfl) (hF3.lt 6 (Nat.le_of_ble_eq_true rfl)) g16 ?_
        refine E_iconst (x := 1) dX7_goes_90 (q := 91) rfl (by decide) ?_
        refine E_iadd dX7_goes_91 (q := 92) rfl ?_
        refine E_iast dX7_goes_92 (q := 93) rfl (hF3.at 6 rfl) (hF3.lt 6 (Nat.le_of_ble_eq_true rfl)) g16 (up_put (i := 6) (cs' := (mdB γ 93 m_thrown m_trace m_text m_typed m_next m_token m_place m_value m_fault m_many m_sees m_cold m_first m_told (upd m_s (ci (13 + ((m_s (ci (7 + v3))) - 1))) ((m_s (ci (13 + ((m_s (ci (7 + v3))) - 1)))) + 1)) m_w m_kept m_isKept m_undos m_undoMany m_foundMan m_foundHours m_foundIs m_foundMany m_row m_best)) (Nat.le_of_ble_eq_true rfl) rfl) ?_
        refine E_aload_n 3 dX7_goes_93 (q := 94) rfl rfl rfl ?_
        refine E_bipush (x := 18) dX7_goes_94 (q := 96) rfl (by decide) ?_
        refine E_iconst (x := 5) dX7_goes_96 (q := 97) rfl (by decide) ?_
        refine E_iload_n 5 dX7_goes_97 (q := 98) rfl rfl rfl ?_
        refine E_imul dX7_goes_98 (q := 99) rfl ?_
        refine E_iadd dX7_goes_99 (q := 100) rfl ?_
        refine E_iload 1 dX7_goes_100 (q := 102) rfl rfl ?_
        refine E_iadd dX7_goes_102 (q := 103) rfl ?_
        refine E_dup2 dX7_goes_103 (q := 104) rfl rfl rfl ?_
        obtain ⟨g18, hf⟩ := gd hf
        have hF19 : Has n 93 (mdB γ 93 m_thrown m_trace m_text m_typed m_next m_token m_place m_value m_fault m_many m_sees m_cold m_first m_told (upd m_s (ci (13 + ((m_s (ci (7 + v3))) - 1))) ((m_s (ci (13 + ((m_s (ci (7 + v3))) - 1)))) + 1)) m_w m_kept m_isKept m_undos m_undoMany m_foundMan m_foundHours m_foundIs m_foundMany m_row m_best) (put 93 (mdB γ 93 m_thrown m_trace m_text m_typed m_next m_token m_place m_value m_fault m_many m_sees m_cold m_first m_told (upd m_s (ci (13 + ((m_s (ci (7 + v3))) - 1))) ((m_s (ci (13 + ((m_s (ci (7 + v3))) - 1)))) + 1)) m_w m_kept m_isKept m_undos m_undoMany m_foundMan m_foundHours m_foundIs m_foundMany m_row m_best) h) := (has_put hn_m)
        refine E_iald dX7_goes_104 (q := 105) rfl (hF19.at 6 rfl) (hF19.lt 6 (Nat.le_of_ble_eq_true rfl)) g18 ?_
        refine E_iconst (x := 1) dX7_goes_105 (q := 106) rfl (by decide) ?_
        refine E_iadd dX7_goes_106 (q := 107) rfl ?_
        refine E_iast dX7_goes_107 (q := 108) rfl (hF19.at 6 rfl) (hF19.lt 6 (Nat.le_of_ble_eq_true rfl)) g18 (up_put (i := 6) (cs' := (mdB γ 93 m_thrown m_trace m_text m_typed m_next m_token m_place m_value m_fault m_many m_sees m_cold m_first m_told (upd (upd m_s (ci (13 + ((m_s (ci (7 + v3))) - 1))) ((m_s (ci (13 + ((m_s (ci (7 + v3))) - 1)))) + 1)) (ci ((18 + (5 * v3)) + ((m_s (ci (7 + v3))) - 1))) (((upd m_s (ci (13 + ((m_s (ci (7 + v3))) - 1))) ((m_s (ci (13 + ((m_s (ci (7 + v3))) - 1)))) + 1)) (ci ((18 + (5 * v3)) + ((m_s (ci (7 + v3))) - 1)))) + 1)) m_w m_kept m_isKept m_undos m_undoMany m_foundMan m_foundHours m_foundIs m_foundMany m_row m_best)) (Nat.le_of_ble_eq_true rfl) rfl) ?_
        refine E_aload_n 3 dX7_goes_108 (q := 109) rfl rfl rfl ?_
        refine E_iconst (x := 1) dX7_goes_109 (q := 110) rfl (by decide) ?_
        refine E_iload_n 5 dX7_goes_110 (q := 111) rfl rfl rfl ?_
        refine E_iadd dX7_goes_111 (q := 112) rfl ?_
        refine E_iload 0 dX7_goes_112 (q := 114) rfl rfl ?_
        refine E_if_ge dX7_goes_114 (t := 121) (by decide) (q := 117) rfl (fun c21 => ?_) (fun c21 => ?_)
        · have hf := if_t c21 hf
          refine E_iload 0 dX7_goes_121 (q := 123) rfl rfl ?_
          refine E_bipush (x := 60) dX7_goes_123 (q := 125) rfl (by decide) ?_
          refine E_icmp_le dX7_goes_125 (t := 133) (by decide) (q := 128) rfl (fun c22 => ?_) (fun c22 => ?_)
          · have hf := if_t c22 hf
            refine E_iload 0 dX7_goes_133 (q := 135) rfl rfl ?_
            have hF23 : Has n 93 (mdB γ 93 m_thrown m_trace m_text m_typed m_next m_token m_place m_value m_fault m_many m_sees m_cold m_first m_told (upd (upd m_s (ci (13 + ((m_s (ci (7 + v3))) - 1))) ((m_s (ci (13 + ((m_s (ci (7 + v3))) - 1)))) + 1)) (ci ((18 + (5 * v3)) + ((m_s (ci (7 + v3))) - 1))) (((upd m_s (ci (13 + ((m_s (ci (7 + v3))) - 1))) ((m_s (ci (13 + ((m_s (ci (7 + v3))) - 1)))) + 1)) (ci ((18 + (5 * v3)) + ((m_s (ci (7 + v3))) - 1)))) + 1)) m_w m_kept m_isKept m_undos m_undoMany m_foundMan m_foundHours m_foundIs m_foundMany m_row m_best) (put 93 (mdB γ 93 m_thrown m_trace m_text m_typed m_next m_token m_place m_value m_fault m_many m_sees m_cold m_first m_told (upd (upd m_s (ci (13 + ((m_s (ci (7 + v3))) - 1))) ((m_s (ci (13 + ((m_s (ci (7 + v3))) - 1)))) + 1)) (ci ((18 + (5 * v3)) + ((m_s (ci (7 + v3))) - 1))) (((upd m_s (ci (13 + ((m_s (ci (7 + v3))) - 1))) ((m_s (ci (13 + ((m_s (ci (7 + v3))) - 1)))) + 1)) (ci ((18 + (5 * v3)) + ((m_s (ci (7 + v3))) - 1)))) + 1)) m_w m_kept m_isKept m_undos m_undoMany m_foundMan m_foundHours m_foundIs m_foundMany m_row m_best) h) := (has_put hn_m)
            refine E_iast dX7_goes_135 (q := 136) rfl (hF23.at 6 rfl) (hF23.lt 6 (Nat.le_of_ble_eq_true rfl)) g6 (up_put (i := 6) (cs' := (mdB γ 93 m_thrown m_trace m_text m_typed m_next m_token m_place m_value m_fault m_many m_sees m_cold m_first m_told (upd (upd (upd m_s (ci (13 + ((m_s (ci (7 + v3))) - 1))) ((m_s (ci (13 + ((m_s (ci (7 + v3))) - 1)))) + 1)) (ci ((18 + (5 * v3)) + ((m_s (ci (7 + v3))) - 1))) (((upd m_s (ci (13 + ((m_s (ci (7 + v3))) - 1))) ((m_s (ci (13 + ((m_s (ci (7 + v3))) - 1)))) + 1)) (ci ((18 + (5 * v3)) + ((m_s (ci (7 + v3))) - 1)))) + 1)) (ci (1 + v3)) ((((m_s (ci (1 + v3))) + 4) + 0) + ((m_cold (ci ((m_s (ci (7 + v3))) - 1))) / 3))) m_w m_kept m_isKept m_undos m_undoMany m_foundMan m_foundHours m_foundIs m_foundMany m_row m_best)) (Nat.le_of_ble_eq_true rfl) rfl) ?_
            refine E_iinc 5 [(3, .int (v3 + 1)), (5, .int ((((m_s (ci (1 + v3))) + 4) + 0) + ((m_cold (ci ((m_s (ci (7 + v3))) - 1))) / 3))), (4, .int ((m_s (ci (7 + v3))) - 1)), (0, .ref (gB γ + 93)), (1, .ref (gB γ + (93 + 6))), (2, .int p2)] dX7_goes_136 (q := 139) rfl rfl rfl (Nat.le_of_ble_eq_true rfl) rfl ?_
            refine E_goto (q := 9) dX7_goes_139 (by decide) ?_
            exact E_sub [3, 4, 5, 0] rfl (hP _ (Option.some.inj hf).symm)
          · have hf := if_f c22 hf
            refine E_bipush (x := 60) dX7_goes_128 (q := 130) rfl (by decide) ?_
            refine E_goto (q := 135) dX7_goes_130 (by decide) ?_
            have hF25 : Has n 93 (mdB γ 93 m_thrown m_trace m_text m_typed m_next m_token m_place m_value m_fault m_many m_sees m_cold m_first m_told (upd (upd m_s (ci (13 + ((m_s (ci (7 + v3))) - 1))) ((m_s (ci (13 + ((m_s (ci (7 + v3))) - 1)))) + 1)) (ci ((18 + (5 * v3)) + ((m_s (ci (7 + v3))) - 1))) (((upd m_s (ci (13 + ((m_s (ci (7 + v3))) - 1))) ((m_s (ci (13 + ((m_s (ci (7 + v3))) - 1)))) + 1)) (ci ((18 + (5 * v3)) + ((m_s (ci (7 + v3))) - 1)))) + 1)) m_w m_kept m_isKept m_undos m_undoMany m_foundMan m_foundHours m_foundIs m_foundMany m_row m_best) (put 93 (mdB γ 93 m_thrown m_trace m_text m_typed m_next m_token m_place m_value m_fault m_many m_sees m_cold m_first m_told (upd (upd m_s (ci (13 + ((m_s (ci (7 + v3))) - 1))) ((m_s (ci (13 + ((m_s (ci (7 + v3))) - 1)))) + 1)) (ci ((18 + (5 * v3)) + ((m_s (ci (7 + v3))) - 1))) (((upd m_s (ci (13 + ((m_s (ci (7 + v3))) - 1))) ((m_s (ci (13 + ((m_s (ci (7 + v3))) - 1)))) + 1)) (ci ((18 + (5 * v3)) + ((m_s (ci (7 + v3))) - 1)))) + 1)) m_w m_kept m_isKept m_undos m_undoMany m_foundMan m_foundHours m_foundIs m_foundMany m_row m_best) h) := (has_put hn_m)
            refine E_iast dX7_goes_135 (q := 136) rfl (hF25.at 6 rfl) (hF25.lt 6 (Nat.le_of_ble_eq_true rfl)) g6 (up_put (i := 6) (cs' := (mdB γ 93 m_thrown m_trace m_text m_typed m_next m_token m_place m_value m_fault m_many m_sees m_cold m_first m_told (upd (upd (upd m_s (ci (13 + ((m_s (ci (7 + v3))) - 1))) ((m_s (ci (13 + ((m_s (ci (7 + v3))) - 1)))) + 1)) (ci ((18 + (5 * v3)) + ((m_s (ci (7 + v3))) - 1))) (((upd m_s (ci (13 + ((m_s (ci (7 + v3))) - 1))) ((m_s (ci (13 + ((m_s (ci (7 + v3))) - 1)))) + 1)) (ci ((18 + (5 * v3)) + ((m_s (ci (7 + v3))) - 1)))) + 1)) (ci (1 + v3)) 60) m_w m_kept m_isKept m_undos m_undoMany m_foundMan m_foundHours m_foundIs m_foundMany m_row m_best)) (Nat.le_of_ble_eq_true rfl) rfl) ?_
            refine E_iinc 5 [(3, .int (v3 + 1)), (5, .int ((((m_s (ci (1 + v3))) + 4) + 0) + ((m_cold (ci ((m_s (ci (7 + v3))) - 1))) / 3))), (4, .int ((m_s (ci (7 + v3))) - 1)), (0, .ref (gB γ + 93)), (1, .ref (gB γ + (93 + 6))), (2, .int p2)] dX7_goes_136 (q := 139) rfl rfl rfl (Nat.le_of_ble_eq_true rfl) rfl ?_
            refine E_goto (q := 9) dX7_goes_139 (by decide) ?_
            exact E_sub [3, 4, 5, 0] rfl (hP _ (Option.some.inj hf).symm)
        · have hf := if_f c21 hf
          refine E_iconst (x := 0) dX7_goes_117 (q := 118) rfl (by decide) ?_
          refine E_goto (q := 135) dX7_goes_118 (by decide) ?_
          have hF27 : Has n 93 (mdB γ 93 m_thrown m_trace m_text m_typed m_next m_token m_place m_value m_fault m_many m_sees m_cold m_first m_told (upd (upd m_s (ci (13 + ((m_s (ci (7 + v3))) - 1))) ((m_s (ci (13 + ((m_s (ci (7 + v3))) - 1)))) + 1)) (ci ((18 + (5 * v3)) + ((m_s (ci (7 + v3))) - 1))) (((upd m_s (ci (13 + ((m_s (ci (7 + v3))) - 1))) ((m_s (ci (13 + ((m_s (ci (7 + v3))) - 1)))) + 1)) (ci ((18 + (5 * v3)) + ((m_s (ci (7 + v3))) - 1)))) + 1)) m_w m_kept m_isKept m_undos m_undoMany m_foundMan m_foundHours m_foundIs m_foundMany m_row m_best) (put 93 (mdB γ 93 m_thrown m_trace m_text m_typed m_next m_token m_place m_value m_fault m_many m_sees m_cold m_first m_told (upd (upd m_s (ci (13 + ((m_s (ci (7 + v3))) - 1))) ((m_s (ci (13 + ((m_s (ci (7 + v3))) - 1)))) + 1)) (ci ((18 + (5 * v3)) + ((m_s (ci (7 + v3))) - 1))) (((upd m_s (ci (13 + ((m_s (ci (7 + v3))) - 1))) ((m_s (ci (13 + ((m_s (ci (7 + v3))) - 1)))) + 1)) (ci ((18 + (5 * v3)) + ((m_s (ci (7 + v3))) - 1)))) + 1)) m_w m_kept m_isKept m_undos m_undoMany m_foundMan m_foundHours m_foundIs m_foundMany m_row m_best) h) := (has_put hn_m)
          refine E_iast dX7_goes_135 (q := 136) rfl (hF27.at 6 rfl) (hF27.lt 6 (Nat.le_of_ble_eq_true rfl)) g6 (up_put (i := 6) (cs' := (mdB γ 93 m_thrown m_trace m_text m_typed m_next m_token m_place m_value m_fault m_many m_sees m_cold m_first m_told (upd (upd (upd m_s (ci (13 + ((m_s (ci (7 + v3))) - 1))) ((m_s (ci (13 + ((m_s (ci (7 + v3))) - 1)))) + 1)) (ci ((18 + (5 * v3)) + ((m_s (ci (7 + v3))) - 1))) (((upd m_s (ci (13 + ((m_s (ci (7 + v3))) - 1))) ((m_s (ci (13 + ((m_s (ci (7 + v3))) - 1)))) + 1)) (ci ((18 + (5 * v3)) + ((m_s (ci (7 + v3))) - 1)))) + 1)) (ci (1 + v3)) 0) m_w m_kept m_isKept m_undos m_undoMany m_foundMan m_foundHours m_foundIs m_foundMany m_row m_best)) (Nat.le_of_ble_eq_true rfl) rfl) ?_
          refine E_iinc 5 [(3, .int (v3 + 1)), (5, .int ((((m_s (ci (1 + v3))) + 4) + 0) + ((m_cold (ci ((m_s (ci (7 + v3))) - 1))) / 3))), (4, .int ((m_s (ci (7 + v3))) - 1)), (0, .ref (gB γ + 93)), (1, .ref (gB γ + (93 + 6))), (2, .int p2)] dX7_goes_136 (q := 139) rfl rfl rfl (Nat.le_of_ble_eq_true rfl) rfl ?_
          refine E_goto (q := 9) dX7_goes_139 (by decide) ?_
          exact E_sub [3, 4, 5, 0] rfl (hP _ (Option.some.inj hf).symm)
      · have hf := if_f c14 hf
        refine E_iconst (x := 2) dX7_goes_64 (q := 65) rfl (by decide) ?_
        refine E_goto (q := 69) dX7_goes_65 (by decide) ?_
        refine E_iadd dX7_goes_69 (q := 70) rfl ?_
        refine E_aload_n 2 dX7_goes_70 (q := 71) rfl rfl rfl ?_
        refine E_get 11 dX7_goes_71 (q := 74) rfl ckX7 (Nat.le_of_ble_eq_true rfl) fl_X7_19 (hF3.at 0 rfl) (hF3.lt 0 (Nat.le_of_ble_eq_true rfl)) rfl ?_
        refine E_iload 1 dX7_goes_74 (q := 76) rfl rfl ?_
        obtain ⟨g29, hf⟩ := gd hf
        refine E_iald dX7_goes_76 (q := 77) rfl (hF3.at 4 rfl) (hF3.lt 4 (Nat.le_of_ble_eq_true rfl)) g29 ?_
        refine E_iconst (x := 3) dX7_goes_77 (q := 78) rfl (by decide) ?_
        refine E_idiv dX7_goes_78 (q := 79) rfl (by decide) ?_
        refine E_iadd dX7_goes_79 (q := 80) rfl ?_
        refine E_istore [(5, .int ((((m_s (ci (1 + v3))) + 4) + 2) + ((m_cold (ci ((m_s (ci (7 + v3))) - 1))) / 3))), (4, .int ((m_s (ci (7 + v3))) - 1)), (0, .ref (gB γ + 93)), (1, .ref (gB γ + (93 + 6))), (2, .int p2), (3, .int v3)] dX7_goes_80 (q := 82) rfl (Nat.le_of_ble_eq_true rfl) rfl ?_
        refine E_aload_n 3 dX7_goes_82 (q := 83) rfl rfl rfl ?_
        refine E_bipush (x := 13) dX7_goes_83 (q := 85) rfl (by decide) ?_
        refine E_iload 1 dX7_goes_85 (q := 87) rfl rfl ?_
        refine E_iadd dX7_goes_87 (q := 88) rfl ?_
        refine E_dup2 dX7_goes_88 (q := 89) rfl rfl rfl ?_
        obtain ⟨g30, hf⟩ := gd hf
        refine E_iald dX7_goes_89 (q := 90) rfl (hF3.at 6 rfl) (hF3.lt 6 (Nat.le_of_ble_eq_true rfl)) g30 ?_
        refine E_iconst (x := 1) dX7_goes_90 (q := 91) rfl (by decide) ?_
        refine E_iadd dX7_goes_91 (q := 92) rfl ?_
        refine E_iast dX7_goes_92 (q := 93) rfl (hF3.at 6 rfl) (hF3.lt 6 (Nat.le_of_ble_eq_true rfl)) g30 (up_put (i := 6) (cs' := (mdB γ 93 m_thrown m_trace m_text m_typed m_next m_token m_place m_value m_fault m_many m_sees m_cold m_first m_told (upd m_s (ci (13 + ((m_s (ci (7 + v3))) - 1))) ((m_s (ci (13 + ((m_s (ci (7 + v3))) - 1)))) + 1)) m_w m_kept m_isKept m_undos m_undoMany m_foundMan m_foundHours m_foundIs m_foundMany m_row m_best)) (Nat.le_of_ble_eq_true rfl) rfl) ?_
        refine E_aload_n 3 dX7_goes_93 (q := 94) rfl rfl rfl ?_
        refine E_bipush (x := 18) dX7_goes_94 (q := 96) rfl (by decide) ?_
        refine E_iconst (x := 5) dX7_goes_96 (q := 97) rfl (by decide) ?_
        refine E_iload_n 5 dX7_goes_97 (q := 98) rfl rfl rfl ?_
        refine E_imul dX7_goes_98 (q := 99) rfl ?_
        refine E_iadd dX7_goes_99 (q := 100) rfl ?_
        refine E_iload 1 dX7_goes_100 (q := 102) rfl rfl ?_
        refine E_iadd dX7_goes_102 (q := 103) rfl ?_
        refine E_dup2 dX7_goes_103 (q := 104) rfl rfl rfl ?_
        obtain ⟨g32, hf⟩ := gd hf
        have hF33 : Has n 93 (mdB γ 93 m_thrown m_trace m_text m_typed m_next m_token m_place m_value m_fault m_many m_sees m_cold m_first m_told (upd m_s (ci (13 + ((m_s (ci (7 + v3))) - 1))) ((m_s (ci (13 + ((m_s (ci (7 + v3))) - 1)))) + 1)) m_w m_kept m_isKept m_undos m_undoMany m_foundMan m_foundHours m_foundIs m_foundMany m_row m_best) (put 93 (mdB γ 93 m_thrown m_trace m_text m_typed m_next m_token m_place m_value m_fault m_many m_sees m_cold m_first m_told (upd m_s (ci (13 + ((m_s (ci (7 + v3))) - 1))) ((m_s (ci (13 + ((m_s (ci (7 + v3))) - 1)))) + 1)) m_w m_kept m_isKept m_undos m_undoMany m_foundMan m_foundHours m_foundIs m_foundMany m_row m_best) h) := (has_put hn_m)
        refine E_iald dX7_goes_104 (q := 105) rfl (hF33.at 6 rfl) (hF33.lt 6 (Nat.le_of_ble_eq_true rfl)) g32 ?_
        refine E_iconst (x := 1) dX7_goes_105 (q := 106) rfl (by decide) ?_
        refine E_iadd dX7_goes_106 (q := 107) rfl ?_
        refine E_iast dX7_goes_107 (q := 108) rfl (hF33.at 6 rfl) (hF33.lt 6 (Nat.le_of_ble_eq_true rfl)) g32 (up_put (i := 6) (cs' := (mdB γ 93 m_thrown m_trace m_text m_typed m_next m_token m_place m_value m_fault m_many m_sees m_cold m_first m_told (upd (upd m_s (ci (13 + ((m_s (ci (7 + v3))) - 1))) ((m_s (ci (13 + ((m_s (ci (7 + v3))) - 1)))) + 1)) (ci ((18 + (5 * v3)) + ((m_s (ci (7 + v3))) - 1))) (((upd m_s (ci (13 + ((m_s (ci (7 + v3))) - 1))) ((m_s (ci (13 + ((m_s (ci (7 + v3))) - 1)))) + 1)) (ci ((18 + (5 * v3)) + ((m_s (ci (7 + v3))) - 1)))) + 1)) m_w m_kept m_isKept m_undos m_undoMany m_foundMan m_foundHours m_foundIs m_foundMany m_row m_best)) (Nat.le_of_ble_eq_true rfl) rfl) ?_
        refine E_aload_n 3 dX7_goes_108 (q := 109) rfl rfl rfl ?_
        refine E_iconst (x := 1) dX7_goes_109 (q := 110) rfl (by decide) ?_
        refine E_iload_n 5 dX7_goes_110 (q := 111) rfl rfl rfl ?_
        refine E_iadd dX7_goes_111 (q := 112) rfl ?_
        refine E_iload 0 dX7_goes_112 (q := 114) rfl rfl ?_
        refine E_if_ge dX7_goes_114 (t := 121) (by decide) (q := 117) rfl (fun c35 => ?_) (fun c35 => ?_)
        · have hf := if_t c35 hf
          refine E_iload 0 dX7_goes_121 (q := 123) rfl rfl ?_
          refine E_bipush (x := 60) dX7_goes_123 (q := 125) rfl (by decide) ?_
          refine E_icmp_le dX7_goes_125 (t := 133) (by decide) (q := 128) rfl (fun c36 => ?_) (fun c36 => ?_)
          · have hf := if_t c36 hf
            refine E_iload 0 dX7_goes_133 (q := 135) rfl rfl ?_
            have hF37 : Has n 93 (mdB γ 93 m_thrown m_trace m_text m_typed m_next m_token m_place m_value m_fault m_many m_sees m_cold m_first m_told (upd (upd m_s (ci (13 + ((m_s (ci (7 + v3))) - 1))) ((m_s (ci (13 + ((m_s (ci (7 + v3))) - 1)))) + 1)) (ci ((18 + (5 * v3)) + ((m_s (ci (7 + v3))) - 1))) (((upd m_s (ci (13 + ((m_s (ci (7 + v3))) - 1))) ((m_s (ci (13 + ((m_s (ci (7 + v3))) - 1)))) + 1)) (ci ((18 + (5 * v3)) + ((m_s (ci (7 + v3))) - 1)))) + 1)) m_w m_kept m_isKept m_undos m_undoMany m_foundMan m_foundHours m_foundIs m_foundMany m_row m_best) (put 93 (mdB γ 93 m_thrown m_trace m_text m_typed m_next m_token m_place m_value m_fault m_many m_sees m_cold m_first m_told (upd (upd m_s (ci (13 + ((m_s (ci (7 + v3))) - 1))) ((m_s (ci (13 + ((m_s (ci (7 + v3))) - 1)))) + 1)) (ci ((18 + (5 * v3)) + ((m_s (ci (7 + v3))) - 1))) (((upd m_s (ci (13 + ((m_s (ci (7 + v3))) - 1))) ((m_s (ci (13 + ((m_s (ci (7 + v3))) - 1)))) + 1)) (ci ((18 + (5 * v3)) + ((m_s (ci (7 + v3))) - 1)))) + 1)) m_w m_kept m_isKept m_undos m_undoMany m_foundMan m_foundHours m_foundIs m_foundMany m_row m_best) h) := (has_put hn_m)
            refine E_iast dX7_goes_135 (q := 136) rfl (hF37.at 6 rfl) (hF37.lt 6 (Nat.le_of_ble_eq_true rfl)) g6 (up_put (i := 6) (cs' := (mdB γ 93 m_thrown m_trace m_text m_typed m_next m_token m_place m_value m_fault m_many m_sees m_cold m_first m_told (upd (upd (upd m_s (ci (13 + ((m_s (ci (7 + v3))) - 1))) ((m_s (ci (13 + ((m_s (ci (7 + v3))) - 1)))) + 1)) (ci ((18 + (5 * v3)) + ((m_s (ci (7 + v3))) - 1))) (((upd m_s (ci (13 + ((m_s (ci (7 + v3))) - 1))) ((m_s (ci (13 + ((m_s (ci (7 + v3))) - 1)))) + 1)) (ci ((18 + (5 * v3)) + ((m_s (ci (7 + v3))) - 1)))) + 1)) (ci (1 + v3)) ((((m_s (ci (1 + v3))) + 4) + 2) + ((m_cold (ci ((m_s (ci (7 + v3))) - 1))) / 3))) m_w m_kept m_isKept m_undos m_undoMany m_foundMan m_foundHours m_foundIs m_foundMany m_row m_best)) (Nat.le_of_ble_eq_true rfl) rfl) ?_
            refine E_iinc 5 [(3, .int (v3 + 1)), (5, .int ((((m_s (ci (1 + v3))) + 4) + 2) + ((m_cold (ci ((m_s (ci (7 + v3))) - 1))) / 3))), (4, .int ((m_s (ci (7 + v3))) - 1)), (0, .ref (gB γ + 93)), (1, .ref (gB γ + (93 + 6))), (2, .int p2)] dX7_goes_136 (q := 139) rfl rfl rfl (Nat.le_of_ble_eq_true rfl) rfl ?_
            refine E_goto (q := 9) dX7_goes_139 (by decide) ?_
            exact E_sub [3, 4, 5, 0] rfl (hP _ (Option.some.inj hf).symm)
          · have hf := if_f c36 hf
            refine E_bipush (x := 60) dX7_goes_128 (q := 130) rfl (by decide) ?_
            refine E_goto (q := 135) dX7_goes_130 (by decide) ?_
            have hF39 : Has n 93 (mdB γ 93 m_thrown m_trace m_text m_typed m_next m_token m_place m_value m_fault m_many m_sees m_cold m_first m_told (upd (upd m_s (ci (13 + ((m_s (ci (7 + v3))) - 1))) ((m_s (ci (13 + ((m_s (ci (7 + v3))) - 1)))) + 1)) (ci ((18 + (5 * v3)) + ((m_s (ci (7 + v3))) - 1))) (((upd m_s (ci (13 + ((m_s (ci (7 + v3))) - 1))) ((m_s (ci (13 + ((m_s (ci (7 + v3))) - 1)))) + 1)) (ci ((18 + (5 * v3)) + ((m_s (ci (7 + v3))) - 1)))) + 1)) m_w m_kept m_isKept m_undos m_undoMany m_foundMan m_foundHours m_foundIs m_foundMany m_row m_best) (put 93 (mdB γ 93 m_thrown m_trace m_text m_typed m_next m_token m_place m_value m_fault m_many m_sees m_cold m_first m_told (upd (upd m_s (ci (13 + ((m_s (ci (7 + v3))) - 1))) ((m_s (ci (13 + ((m_s (ci (7 + v3))) - 1)))) + 1)) (ci ((18 + (5 * v3)) + ((m_s (ci (7 + v3))) - 1))) (((upd m_s (ci (13 + ((m_s (ci (7 + v3))) - 1))) ((m_s (ci (13 + ((m_s (ci (7 + v3))) - 1)))) + 1)) (ci ((18 + (5 * v3)) + ((m_s (ci (7 + v3))) - 1)))) + 1)) m_w m_kept m_isKept m_undos m_undoMany m_foundMan m_foundHours m_foundIs m_foundMany m_row m_best) h) := (has_put hn_m)
            refine E_iast dX7_goes_135 (q := 136) rfl (hF39.at 6 rfl) (hF39.lt 6 (Nat.le_of_ble_eq_true rfl)) g6 (up_put (i := 6) (cs' := (mdB γ 93 m_thrown m_trace m_text m_typed m_next m_token m_place m_value m_fault m_many m_sees m_cold m_first m_told (upd (upd (upd m_s (ci (13 + ((m_s (ci (7 + v3))) - 1))) ((m_s (ci (13 + ((m_s (ci (7 + v3))) - 1)))) + 1)) (ci ((18 + (5 * v3)) + ((m_s (ci (7 + v3))) - 1))) (((upd m_s (ci (13 + ((m_s (ci (7 + v3))) - 1))) ((m_s (ci (13 + ((m_s (ci (7 + v3))) - 1)))) + 1)) (ci ((18 + (5 * v3)) + ((m_s (ci (7 + v3))) - 1)))) + 1)) (ci (1 + v3)) 60) m_w m_kept m_isKept m_undos m_undoMany m_foundMan m_foundHours m_foundIs m_foundMany m_row m_best)) (Nat.le_of_ble_eq_true rfl) rfl) ?_
            refine E_iinc 5 [(3, .int (v3 + 1)), (5, .int ((((m_s (ci (1 + v3))) + 4) + 2) + ((m_cold (ci ((m_s (ci (7 + v3))) - 1))) / 3))), (4, .int ((m_s (ci (7 + v3))) - 1)), (0, .ref (gB γ + 93)), (1, .ref (gB γ + (93 + 6))), (2, .int p2)] dX7_goes_136 (q := 139) rfl rfl rfl (Nat.le_of_ble_eq_true rfl) rfl ?_
            refine E_goto (q := 9) dX7_goes_139 (by decide) ?_
            exact E_sub [3, 4, 5, 0] rfl (hP _ (Option.some.inj hf).symm)
        · have hf := if_f c35 hf
          refine E_iconst (x := 0) dX7_goes_117 (q := 118) rfl (by decide) ?_
          refine E_goto (q := 135) dX7_goes_118 (by decide) ?_
          have hF41 : Has n 93 (mdB γ 93 m_thrown m_trace m_text m_typed m_next m_token m_place m_value m_fault m_many m_sees m_cold m_first m_told (upd (upd m_s (ci (13 + ((m_s (ci (7 + v3))) - 1))) ((m_s (ci (13 + ((m_s (ci (7 + v3))) - 1)))) + 1)) (ci ((18 + (5 * v3)) + ((m_s (ci (7 + v3))) - 1))) (((upd m_s (ci (13 + ((m_s (ci (7 + v3))) - 1))) ((m_s (ci (13 + ((m_s (ci (7 + v3))) - 1)))) + 1)) (ci ((18 + (5 * v3)) + ((m_s (ci (7 + v3))) - 1)))) + 1)) m_w m_kept m_isKept m_undos m_undoMany m_foundMan m_foundHours m_foundIs m_foundMany m_row m_best) (put 93 (mdB γ 93 m_thrown m_trace m_text m_typed m_next m_token m_place m_value m_fault m_many m_sees m_cold m_first m_told (upd (upd m_s (ci (13 + ((m_s (ci (7 + v3))) - 1))) ((m_s (ci (13 + ((m_s (ci (7 + v3))) - 1)))) + 1)) (ci ((18 + (5 * v3)) + ((m_s (ci (7 + v3))) - 1))) (((upd m_s (ci (13 + ((m_s (ci (7 + v3))) - 1))) ((m_s (ci (13 + ((m_s (ci (7 + v3))) - 1)))) + 1)) (ci ((18 + (5 * v3)) + ((m_s (ci (7 + v3))) - 1)))) + 1)) m_w m_kept m_isKept m_undos m_undoMany m_foundMan m_foundHours m_foundIs m_foundMany m_row m_best) h) := (has_put hn_m)
          refine E_iast dX7_goes_135 (q := 136) rfl (hF41.at 6 rfl) (hF41.lt 6 (Nat.le_of_ble_eq_true rfl)) g6 (up_put (i := 6) (cs' := (mdB γ 93 m_thrown m_trace m_text m_typed m_next m_token m_place m_value m_fault m_many m_sees m_cold m_first m_told (upd (upd (upd m_s (ci (13 + ((m_s (ci (7 + v3))) - 1))) ((m_s (ci (13 + ((m_s (ci (7 + v3))) - 1)))) + 1)) (ci ((18 + (5 * v3)) + ((m_s (ci (7 + v3))) - 1))) (((upd m_s (ci (13 + ((m_s (ci (7 + v3))) - 1))) ((m_s (ci (13 + ((m_s (ci (7 + v3))) - 1)))) + 1)) (ci ((18 + (5 * v3)) + ((m_s (ci (7 + v3))) - 1)))) + 1)) (ci (1 + v3)) 0) m_w m_kept m_isKept m_undos m_undoMany m_foundMan m_foundHours m_foundIs m_foundMany m_row m_best)) (Nat.le_of_ble_eq_true rfl) rfl) ?_
          refine E_iinc 5 [(3, .int (v3 + 1)), (5, .int ((((m_s (ci (1 + v3))) + 4) + 2) + ((m_cold (ci ((m_s (ci (7 + v3))) - 1))) / 3))), (4, .int ((m_s (ci (7 + v3))) - 1)), (0, .ref (gB γ + 93)), (1, .ref (gB γ + (93 + 6))), (2, .int p2)] dX7_goes_136 (q := 139) rfl rfl rfl (Nat.le_of_ble_eq_true rfl) rfl ?_
          refine E_goto (q := 9) dX7_goes_139 (by decide) ?_
          exact E_sub [3, 4, 5, 0] rfl (hP _ (Option.some.inj hf).symm)
set_option maxHeartbeats 4000000 in
set_option maxRecDepth 100000 in
theorem m_X7_goes_s {γ : GX} {n : Nat} {N : Nat} {h : HP} {m_thrown : Int32} {m_trace : Int64} {m_text : FN} {m_typed : Int32} {m_next : Int32} {m_token : Int32} {m_place : Int32} {m_value : Int32} {m_fault : Int32} {m_many : FN} {m_sees : FN} {m_cold : FN} {m_first : FN} {m_told : Int32} {m_s : FN} {m_w : FN} {m_kept : FN} {m_isKept : FN} {m_undos : FN} {m_undoMany : Int32} {m_foundMan : FN} {m_foundHours : FN} {m_foundIs : FN} {m_foundMany : Int32} {m_row : FN} {m_best : FN} (hH_m : Has n 93 (mdB γ 93 m_thrown m_trace m_text m_typed m_next m_token m_place m_value m_fault m_many m_sees m_cold m_first m_told m_s m_w m_kept m_isKept m_undos m_undoMany m_foundMan m_foundHours m_foundIs m_foundMany m_row m_best) h) {z : FN} (hf : f_X7_goes_s N m_many m_cold m_s = some z)  : Ct γ M_X7_goes n h [.ref (gB γ + 93), .ref (gB γ + (93 + 6))] (Done none n (put 93 (mdB γ 93 m_thrown m_trace m_text m_typed m_next m_token m_place m_value m_fault m_many m_sees m_cold m_first m_told z m_w m_kept m_isKept m_undos m_undoMany m_foundMan m_foundHours m_foundIs m_foundMany m_row m_best) h)) := by
  have hn_m : 93 + 16 ≤ n := hH_m.1
  refine Ct.heap (h := (put 93 (mdB γ 93 m_thrown m_trace m_text m_typed m_next m_token m_place m_value m_fault m_many m_sees m_cold m_first m_told m_s m_w m_kept m_isKept m_undos m_undoMany m_foundMan m_foundHours m_foundIs m_foundMany m_row m_best) h)) (put_self hH_m).symm ?_
  refine Ct_of_Ev (by decide) (fun h => by cases h) (Nat.le_of_ble_eq_true rfl) ?_
  show Ev γ M_X7_goes (0, 0) n (put 93 (mdB γ 93 m_thrown m_trace m_text m_typed m_next m_token m_place m_value m_fault m_many m_sees m_cold m_first m_told m_s m_w m_kept m_isKept m_undos m_undoMany m_foundMan m_foundHours m_foundIs m_foundMany m_row m_best) h) [(0, .ref (gB γ + 93)), (1, .ref (gB γ + (93 + 6)))] 0 [] _
  unfold f_X7_goes_s at hf
  refine E_aload_n 1 dX7_goes_0 (q := 1) rfl rfl rfl ?_
  refine E_iconst (x := 0) dX7_goes_1 (q := 2) rfl (by decide) ?_
  have hF1 : Has n 93 (mdB γ 93 m_thrown m_trace m_text m_typed m_next m_token m_place m_value m_fault m_many m_sees m_cold m_first m_told m_s m_w m_kept m_isKept m_undos m_undoMany m_foundMan m_foundHours m_foundIs m_foundMany m_row m_best) (put 93 (mdB γ 93 m_thrown m_trace m_text m_typed m_next m_token m_place m_value m_fault m_many m_sees m_cold m_first m_told m_s m_w m_kept m_isKept m_undos m_undoMany m_foundMan m_foundHours m_foundIs m_foundMany m_row m_best) h) := (has_put hn_m)
  refine E_iald dX7_goes_2 (q := 3) rfl (hF1.at 6 rfl) (hF1.lt 6 (Nat.le_of_ble_eq_true rfl)) (by decide +kernel) ?_
  refine E_bipush (x := 12) dX7_goes_3 (q := 5) rfl (by decide) ?_
  refine E_irem dX7_goes_5 (q := 6) rfl (by decide) ?_
  refine E_istore_n [(2, .int ((m_s (ci 0)) % 12)), (0, .ref (gB γ + 93)), (1, .ref (gB γ + (93 + 6)))] dX7_goes_6 (q := 7) rfl rfl (Nat.le_of_ble_eq_true rfl) rfl ?_
  refine E_iconst (x := 0) dX7_goes_7 (q := 8) rfl (by decide) ?_
  refine E_istore_n [(3, .int 0), (2, .int ((m_s (ci 0)) % 12)), (0, .ref (gB γ + 93)), (1, .ref (gB γ + (93 + 6)))] dX7_goes_8 (q := 9) rfl rfl (Nat.le_of_ble_eq_true rfl) rfl ?_
  obtain ⟨t43, hxt43, hf⟩ := bnd hf
  refine E_sub [2, 3, 1, 0] rfl ?_
  refine L_X7_goes_s_1 hn_m hxt43 ?_
  show Ev γ M_X7_goes _ n (put 93 (mdB γ 93 m_thrown m_trace m_text m_typed m_next m_token m_place m_value m_fault m_many m_sees m_cold m_first m_told t43 m_w m_kept m_isKept m_undos m_undoMany m_foundMan m_foundHours m_foundIs m_foundMany m_row m_best) h) [(1, .ref (gB γ + (93 + 6)))] 142 [] _
  refine E_aload_n 0 dX7_goes_142 (q := 143) rfl rfl rfl ?_
  refine E_iconst (x := 0) dX7_goes_143 (q := 144) rfl (by decide) ?_
  refine E_dup2 dX7_goes_144 (q := 145) rfl rfl rfl ?_
  have hF45 : Has n 93 (mdB γ 93 m_thrown m_trace m_text m_typed m_next m_token m_place m_value m_fault m_many m_sees m_cold m_first m_told t43 m_w m_kept m_isKept m_undos m_undoMany m_foundMan m_foundHours m_foundIs m_foundMany m_row m_best) (put 93 (mdB γ 93 m_thrown m_trace m_text m_typed m_next m_token m_place m_value m_fault m_many m_sees m_cold m_first m_told t43 m_w m_kept m_isKept m_undos m_undoMany m_foundMan m_foundHours m_foundIs m_foundMany m_row m_best) h) := (has_put hn_m)
  refine E_iald dX7_goes_145 (q := 146) rfl (hF45.at 6 rfl) (hF45.lt 6 (Nat.le_of_ble_eq_true rfl)) (by decide +kernel) ?_
  refine E_iconst (x := 1) dX7_goes_146 (q := 147) rfl (by decide) ?_
  refine E_iadd dX7_goes_147 (q := 148) rfl ?_
  refine E_iast dX7_goes_148 (q := 149) rfl (hF45.at 6 rfl) (hF45.lt 6 (Nat.le_of_ble_eq_true rfl)) (by decide +kernel) (up_put (i := 6) (cs' := (mdB γ 93 m_thrown m_trace m_text m_typed m_next m_token m_place m_value m_fault m_many m_sees m_cold m_first m_told (upd t43 (ci 0) ((t43 (ci 0)) + 1)) m_w m_kept m_isKept m_undos m_undoMany m_foundMan m_foundHours m_foundIs m_foundMany m_row m_best)) (Nat.le_of_ble_eq_true rfl) rfl) ?_
  obtain rfl := Option.some.inj hf
  exact E_vret dX7_goes_149 rfl ⟨rfl, rfl, rfl⟩

-- PostReliefModel.goes([I)V
def b_X7_goes_w_1 (N : Nat) (p2 : Int32) (m_many : FN) (m_cold : FN) (v3 : Int32) (m_w : FN) : Option ((Int32 × FN) ⊕ (FN)) :=
  (if (m_many (ci 1)) ≤ v3 then some (.inr m_w) else (if ix (7 + v3) 48 = true then (if ix (1 + v3) 48 = true then (if ((m_w (ci (7 + v3))) - 1) < 0 then (if 0 ≤ ((m_w (ci (1 + v3))) - (m_many (ci 3))) then (if ((m_w (ci (1 + v3))) - (m_many (ci 3))) ≤ 60 then some (.inl ((v3 + 1), (upd m_w (ci (1 + v3)) ((m_w (ci (1 + v3))) - (m_many (ci 3)))))) else some (.inl ((v3 + 1), (upd m_w (ci (1 + v3)) 60)))) else some (.inl ((v3 + 1), (upd m_w (ci (1 + v3)) 0)))) else ((f_X7_in N p2 2 4).bind fun z13 => (if z13 = 0 then (if ix ((m_w (ci (7 + v3))) - 1) 10 = true then (if ix (13 + ((m_w (ci (7 + v3))) - 1)) 48 = true then (if ix ((18 + (5 * v3)) + ((m_w (ci (7 + v3))) - 1)) 48 = true then (if 0 ≤ ((((m_w (ci (1 + v3))) + 4) + 0) + ((m_cold (ci ((m_w (ci (7 + v3))) - 1))) / 3)) then (if ((((m_w (ci (1 + v3))) + 4) + 0) + ((m_cold (ci ((m_w (ci (7 + v3))) - 1))) / 3)) ≤ 60 then some (.inl ((v3 + 1), (upd (upd (upd m_w (ci (13 + ((m_w (ci (7 + v3))) - 1))) ((m_w (ci (13 + ((m_w (ci (7 + v3))) - 1)))) + 1)) (ci ((18 + (5 * v3)) + ((m_w (ci (7 + v3))) - 1))) (((upd m_w (ci (13 + ((m_w (ci (7 + v3))) - 1))) ((m_w (ci (13 + ((m_w (ci (7 + v3))) - 1)))) + 1)) (ci ((18 + (5 * v3)) + ((m_w (ci (7 + v3))) - 1)))) + 1)) (ci (1 + v3)) ((((m_w (ci (1 + v3))) + 4) + 0) + ((m_cold (ci ((m_w (ci (7 + v3))) - 1))) / 3))))) else some (.inl ((v3 + 1), (upd (upd (upd m_w (ci (13 + ((m_w (ci (7 + v3))) - 1))) ((m_w (ci (13 + ((m_w (ci (7 + v3))) - 1)))) + 1)) (ci ((18 + (5 * v3)) + ((m_w (ci (7 + v3))) - 1))) (((upd m_w (ci (13 + ((m_w (ci (7 + v3))) - 1))) ((m_w (ci (13 + ((m_w (ci (7 + v3))) - 1)))) + 1)) (ci ((18 + (5 * v3)) + ((m_w (ci (7 + v3))) - 1)))) + 1)) (ci (1 + v3)) 60)))) else some (.inl ((v3 + 1), (upd (upd (upd m_w (ci (13 + ((m_w (ci (7 + v3))) - 1))) ((m_w (ci (13 + ((m_w (ci (7 + v3))) - 1)))) + 1)) (ci ((18 + (5 * v3)) + ((m_w (ci (7 + v3))) - 1))) (((upd m_w (ci (13 + ((m_w (ci (7 + v3))) - 1))) ((m_w (ci (13 + ((m_w (ci (7 + v3))) - 1)))) + 1)) (ci ((18 + (5 * v3)) + ((m_w (ci (7 + v3))) - 1)))) + 1)) (ci (1 + v3)) 0)))) else none) else none) else none) else (if ix ((m_w (ci (7 + v3))) - 1) 10 = true then (if ix (13 + ((m_w (ci (7 + v3))) - 1)) 48 = true then (if ix ((18 + (5 * v3)) + ((m_w (ci (7 + v3))) - 1)) 48 = true then (if 0 ≤ ((((m_w (ci (1 + v3))) + 4) + 2) + ((m_cold (ci ((m_w (ci (7 + v3))) - 1))) / 3)) then (if ((((m_w (ci (1 + v3))) + 4) + 2) + ((m_cold (ci ((m_w (ci (7 + v3))) - 1))) / 3)) ≤ 60 then some (.inl ((v3 + 1), (upd (upd (upd m_w (ci (13 + ((m_w (ci (7 + v3))) - 1))) ((m_w (ci (13 + ((m_w (ci (7 + v3))) - 1)))) + 1)) (ci ((18 + (5 * v3)) + ((m_w (ci (7 + v3))) - 1))) (((upd m_w (ci (13 + ((m_w (ci (7 + v3))) - 1))) ((m_w (ci (13 + ((m_w (ci (7 + v3))) - 1)))) + 1)) (ci ((18 + (5 * v3)) + ((m_w (ci (7 + v3))) - 1)))) + 1)) (ci (1 + v3)) ((((m_w (ci (1 + v3))) + 4) + 2) + ((m_cold (ci ((m_w (ci (7 + v3))) - 1))) / 3))))) else some (.inl ((v3 + 1), (upd (upd (upd m_w (ci (13 + ((m_w (ci (7 + v3))) - 1))) ((m_w (ci (13 + ((m_w (ci (7 + v3))) - 1)))) + 1)) (ci ((18 + (5 * v3)) + ((m_w (ci (7 + v3))) - 1))) (((upd m_w (ci (13 + ((m_w (ci (7 + v3))) - 1))) ((m_w (ci (13 + ((m_w (ci (7 + v3))) - 1)))) + 1)) (ci ((18 + (5 * v3)) + ((m_w (ci (7 + v3))) - 1)))) + 1)) (ci (1 + v3)) 60)))) else some (.inl ((v3 + 1), (upd (upd (upd m_w (ci (13 + ((m_w (ci (7 + v3))) - 1))) ((m_w (ci (13 + ((m_w (ci (7 + v3))) - 1)))) + 1)) (ci ((18 + (5 * v3)) + ((m_w (ci (7 + v3))) - 1))) (((upd m_w (ci (13 + ((m_w (ci (7 + v3))) - 1))) ((m_w (ci (13 + ((m_w (ci (7 + v3))) - 1)))) + 1)) (ci ((18 + (5 * v3)) + ((m_w (ci (7 + v3))) - 1)))) + 1)) (ci (1 + v3)) 0)))) else none) else none) else none)))) else none) else none))
def f_X7_goes_w (N : Nat) (m_many : FN) (m_cold : FN) (m_w : FN) : Option (FN) :=
  ((lp (fun s => b_X7_goes_w_1 N ((m_w (ci 0)) % 12) m_many m_cold s.1 s.2) N (0, m_w)).bind fun t43 => some (upd t43 (ci 0) ((t43 (ci 0)) + 1)))
set_option maxHeartbeats 4000000 in
set_option maxRecDepth 100000 in
theorem L_X7_goes_w_1 {γ : GX} {n : Nat} {h : HP} {Ψ : PS} {N : Nat} {p2 : Int32} {m_thrown : Int32} {m_trace : Int64} {m_text : FN} {m_typed : Int32} {m_next : Int32} {m_token : Int32} {m_place : Int32} {m_value : Int32} {m_fault : Int32} {m_many : FN} {m_sees : FN} {m_cold : FN} {m_first : FN} {m_told : Int32} {m_s : FN} {m_kept : FN} {m_isKept : FN} {m_undos : FN} {m_undoMany : Int32} {m_foundMan : FN} {m_foundHours : FN} {m_foundIs : FN} {m_foundMany : Int32} {m_row : FN} {m_best : FN} (hn_m : 93 + 16 ≤ n) {s0 : Int32 × FN} {t : FN} (hf : lp (fun s => b_X7_goes_w_1 N p2 m_many m_cold s.1 s.2) N s0 = some t) (K : Ev γ M_X7_goes (0, 0) n (put 93 (mdB γ 93 m_thrown m_trace m_text m_typed m_next m_token m_place m_value m_fault m_many m_sees m_cold m_first m_told m_s t m_kept m_isKept m_undos m_undoMany m_foundMan m_foundHours m_foundIs m_foundMany m_row m_best) h) [(1, .ref (gB γ + (93 + 7)))] 142 [] Ψ) : Ev γ M_X7_goes (0, 0) n (put 93 (mdB γ 93 m_thrown m_trace m_text m_typed m_next m_token m_place m_value m_fault m_many m_sees m_cold m_first m_told m_s s0.2 m_kept m_isKept m_undos m_undoMany m_foundMan m_foundHours m_foundIs m_foundMany m_row m_best) h) [(0, .ref (gB γ + 93)), (1, .ref (gB γ + (93 + 7))), (2, .int p2), (3, .int s0.1)] 9 [] Ψ := by
  refine E_lp (P := fun s => Ev γ M_X7_goes (0, 0) n (put 93 (mdB γ 93 m_thrown m_trace m_text m_typed m_next m_token m_place m_value m_fault m_many m_sees m_cold m_first m_told m_s s.2 m_kept m_isKept m_undos m_undoMany m_foundMan m_foundHours m_foundIs m_foundMany m_row m_best) h) [(0, .ref (gB γ + 93)), (1, .ref (gB γ + (93 + 7))), (2, .int p2), (3, .int s.1)] 9 [] Ψ) (K := fun t => Ev γ M_X7_goes (0, 0) n (put 93 (mdB γ 93 m_thrown m_trace m_text m_typed m_next m_token m_place m_value m_fault m_many m_sees m_cold m_first m_told m_s t m_kept m_isKept m_undos m_undoMany m_foundMan m_foundHours m_foundIs m_foundMany m_row m_best) h) [(1, .ref (gB γ + (93 + 7)))] 142 [] Ψ) ?_ N s0 t hf K
  intro s r hf hP hK
  obtain ⟨v3, m_w⟩ := s
  change b_X7_goes_w_1 N p2 m_many m_cold v3 m_w = some r at hf
  unfold b_X7_goes_w_1 at hf
  show Ev γ M_X7_goes (0, 0) n (put 93 (mdB γ 93 m_thrown m_trace m_text m_typed m_next m_token m_place m_value m_fault m_many m_sees m_cold m_first m_told m_s m_w m_kept m_isKept m_undos m_undoMany m_foundMan m_foundHours m_foundIs m_foundMany m_row m_best) h) [(0, .ref (gB γ + 93)), (1, .ref (gB γ + (93 + 7))), (2, .int p2), (3, .int v3)] 9 [] Ψ
  refine E_iload_n 3 dX7_goes_9 (q := 10) rfl rfl rfl ?_
  refine E_aload_n 0 dX7_goes_10 (q := 11) rfl rfl rfl ?_
  have hF3 : Has n 93 (mdB γ 93 m_thrown m_trace m_text m_typed m_next m_token m_place m_value m_fault m_many m_sees m_cold m_first m_told m_s m_w m_kept m_isKept m_undos m_undoMany m_foundMan m_foundHours m_foundIs m_foundMany m_row m_best) (put 93 (mdB γ 93 m_thrown m_trace m_text m_typed m_next m_token m_place m_value m_fault m_many m_sees m_cold m_first m_told m_s m_w m_kept m_isKept m_undos m_undoMany m_foundMan m_foundHours m_foundIs m_foundMany m_row m_best) h) := (has_put hn_m)
  refine E_get 9 dX7_goes_11 (q := 14) rfl ckX7 (Nat.le_of_ble_eq_true rfl) fl_X7_13 (hF3.at 0 rfl) (hF3.lt 0 (Nat.le_of_ble_eq_true rfl)) rfl ?_
  refine E_iconst (x := 1) dX7_goes_14 (q := 15) rfl (by decide) ?_
  refine E_iald dX7_goes_15 (q := 16) rfl (hF3.at 2 rfl) (hF3.lt 2 (Nat.le_of_ble_eq_true rfl)) (by decide +kernel) ?_
  refine E_icmp_ge dX7_goes_16 (t := 142) (by decide) (q := 19) rfl (fun c4 => ?_) (fun c4 => ?_)
  · have hf := if_t c4 hf
    exact E_sub [1] rfl (hK _ (Option.some.inj hf).symm)
  · have hf := if_f c4 hf
    refine E_aload_n 1 dX7_goes_19 (q := 20) rfl rfl rfl ?_
    refine E_bipush (x := 7) dX7_goes_20 (q := 22) rfl (by decide) ?_
    refine E_iload_n 3 dX7_goes_22 (q := 23) rfl rfl rfl ?_
    refine E_iadd dX7_goes_23 (q := 24) rfl ?_
    obtain ⟨g5, hf⟩ := gd hf
    refine E_iald dX7_goes_24 (q := 25) rfl (hF3.at 7 rfl) (hF3.lt 7 (Nat.le_of_ble_eq_true rfl)) g5 ?_
    refine E_iconst (x := 1) dX7_goes_25 (q := 26) rfl (by decide) ?_
    refine E_isub dX7_goes_26 (q := 27) rfl ?_
    refine E_istore [(4, .int ((m_w (ci (7 + v3))) - 1)), (0, .ref (gB γ + 93)), (1, .ref (gB γ + (93 + 7))), (2, .int p2), (3, .int v3)] dX7_goes_27 (q := 29) rfl (Nat.le_of_ble_eq_true rfl) rfl ?_
    refine E_aload_n 2 dX7_goes_29 (q := 30) rfl rfl rfl ?_
    refine E_iconst (x := 1) dX7_goes_30 (q := 31) rfl (by decide) ?_
    refine E_iload_n 4 dX7_goes_31 (q := 32) rfl rfl rfl ?_
    refine E_iadd dX7_goes_32 (q := 33) rfl ?_
    obtain ⟨g6, hf⟩ := gd hf
    refine E_iald dX7_goes_33 (q := 34) rfl (hF3.at 7 rfl) (hF3.lt 7 (Nat.le_of_ble_eq_true rfl)) g6 ?_
    refine E_aload_n 1 dX7_goes_34 (q := 35) rfl rfl rfl ?_
    refine E_get 9 dX7_goes_35 (q := 38) rfl ckX7 (Nat.le_of_ble_eq_true rfl) fl_X7_13 (hF3.at 0 rfl) (hF3.lt 0 (Nat.le_of_ble_eq_true rfl)) rfl ?_
    refine E_iconst (x := 3) dX7_goes_38 (q := 39) rfl (by decide) ?_
    refine E_iald dX7_goes_39 (q := 40) rfl (hF3.at 2 rfl) (hF3.lt 2 (Nat.le_of_ble_eq_true rfl)) (by decide +kernel) ?_
    refine E_isub dX7_goes_40 (q := 41) rfl ?_
    refine E_istore [(5, .int ((m_w (ci (1 + v3))) - (m_many (ci 3)))), (4, .int ((m_w (ci (7 + v3))) - 1)), (0, .ref (gB γ + 93)), (1, .ref (gB γ + (93 + 7))), (2, .int p2), (3, .int v3)] dX7_goes_41 (q := 43) rfl (Nat.le_of_ble_eq_true rfl) rfl ?_
    refine E_iload 1 dX7_goes_43 (q := 45) rfl rfl ?_
    refine E_if_lt dX7_goes_45 (t := 108) (by decide) (q := 48) rfl (fun c7 => ?_) (fun c7 => ?_)
    · have hf := if_t c7 hf
      refine E_aload_n 3 dX7_goes_108 (q := 109) rfl rfl rfl ?_
      refine E_iconst (x := 1) dX7_goes_109 (q := 110) rfl (by decide) ?_
      refine E_iload_n 5 dX7_goes_110 (q := 111) rfl rfl rfl ?_
      refine E_iadd dX7_goes_111 (q := 112) rfl ?_
      refine E_iload 0 dX7_goes_112 (q := 114) rfl rfl ?_
      refine E_if_ge dX7_goes_114 (t := 121) (by decide) (q := 117) rfl (fun c8 => ?_) (fun c8 => ?_)
      · have hf := if_t c8 hf
        refine E_iload 0 dX7_goes_121 (q := 123) rfl rfl ?_
        refine E_bipush (x := 60) dX7_goes_123 (q := 125) rfl (by decide) ?_
        refine E_icmp_le dX7_goes_125 (t := 133) (by decide) (q := 128) rfl (fun c9 => ?_) (fun c9 => ?_)
        · have hf := if_t c9 hf
          refine E_iload 0 dX7_goes_133 (q := 135) rfl rfl ?_
          refine E_iast dX7_goes_135 (q := 136) rfl (hF3.at 7 rfl) (hF3.lt 7 (Nat.le_of_ble_eq_true rfl)) g6 (up_put (i := 7) (cs' := (mdB γ 93 m_thrown m_trace m_text m_typed m_next m_token m_place m_value m_fault m_many m_sees m_cold m_first m_told m_s (upd m_w (ci (1 + v3)) ((m_w (ci (1 + v3))) - (m_many (ci 3)))) m_kept m_isKept m_undos m_undoMany m_foundMan m_foundHours m_foundIs m_foundMany m_row m_best)) (Nat.le_of_ble_eq_true rfl) rfl) ?_
          refine E_iinc 5 [(3, .int (v3 + 1)), (5, .int ((m_w (ci (1 + v3))) - (m_many (ci 3)))), (4, .int ((m_w (ci (7 + v3))) - 1)), (0, .ref (gB γ + 93)), (1, .ref (gB γ + (93 + 7))), (2, .int p2)] dX7_goes_136 (q := 139) rfl rfl rfl (Nat.le_of_ble_eq_true rfl) rfl ?_
          refine E_goto (q := 9) dX7_goes_139 (by decide) ?_
          exact E_sub [3, 4, 5, 0] rfl (hP _ (Option.some.inj hf).symm)
        · have hf := if_f c9 hf
          refine E_bipush (x := 60) dX7_goes_128 (q := 130) rfl (by decide) ?_
          refine E_goto (q := 135) dX7_goes_130 (by decide) ?_
          refine E_iast dX7_goes_135 (q := 136) rfl (hF3.at 7 rfl) (hF3.lt 7 (Nat.le_of_ble_eq_true rfl)) g6 (up_put (i := 7) (cs' := (mdB γ 93 m_thrown m_trace m_text m_typed m_next m_token m_place m_value m_fault m_many m_sees m_cold m_first m_told m_s (upd m_w (ci (1 + v3)) 60) m_kept m_isKept m_undos m_undoMany m_foundMan m_foundHours m_foundIs m_foundMany m_row m_best)) (Nat.le_of_ble_eq_true rfl) rfl) ?_
          refine E_iinc 5 [(3, .int (v3 + 1)), (5, .int ((m_w (ci (1 + v3))) - (m_many (ci 3)))), (4, .int ((m_w (ci (7 + v3))) - 1)), (0, .ref (gB γ + 93)), (1, .ref (gB γ + (93 + 7))), (2, .int p2)] dX7_goes_136 (q := 139) rfl rfl rfl (Nat.le_of_ble_eq_true rfl) rfl ?_
          refine E_goto (q := 9) dX7_goes_139 (by decide) ?_
          exact E_sub [3, 4, 5, 0] rfl (hP _ (Option.some.inj hf).symm)
      · have hf := if_f c8 hf
        refine E_iconst (x := 0) dX7_goes_117 (q := 118) rfl (by decide) ?_
        refine E_goto (q := 135) dX7_goes_118 (by decide) ?_
        refine E_iast dX7_goes_135 (q := 136) rfl (hF3.at 7 rfl) (hF3.lt 7 (Nat.le_of_ble_eq_true rfl)) g6 (up_put (i := 7) (cs' := (mdB γ 93 m_thrown m_trace m_text m_typed m_next m_token m_place m_value m_fault m_many m_sees m_cold m_first m_told m_s (upd m_w (ci (1 + v3)) 0) m_kept m_isKept m_undos m_undoMany m_foundMan m_foundHours m_foundIs m_foundMany m_row m_best)) (Nat.le_of_ble_eq_true rfl) rfl) ?_
        refine E_iinc 5 [(3, .int (v3 + 1)), (5, .int ((m_w (ci (1 + v3))) - (m_many (ci 3)))), (4, .int ((m_w (ci (7 + v3))) - 1)), (0, .ref (gB γ + 93)), (1, .ref (gB γ + (93 + 7))), (2, .int p2)] dX7_goes_136 (q := 139) rfl rfl rfl (Nat.le_of_ble_eq_true rfl) rfl ?_
        refine E_goto (q := 9) dX7_goes_139 (by decide) ?_
        exact E_sub [3, 4, 5, 0] rfl (hP _ (Option.some.inj hf).symm)
    · have hf := if_f c7 hf
      refine E_aload_n 3 dX7_goes_48 (q := 49) rfl rfl rfl ?_
      refine E_iconst (x := 1) dX7_goes_49 (q := 50) rfl (by decide) ?_
      refine E_iload_n 5 dX7_goes_50 (q := 51) rfl rfl rfl ?_
      refine E_iadd dX7_goes_51 (q := 52) rfl ?_
      refine E_iald dX7_goes_52 (q := 53) rfl (hF3.at 7 rfl) (hF3.lt 7 (Nat.le_of_ble_eq_true rfl)) g6 ?_
      refine E_iconst (x := 4) dX7_goes_53 (q := 54) rfl (by decide) ?_
      refine E_iadd dX7_goes_54 (q := 55) rfl ?_
      refine E_iload_n 4 dX7_goes_55 (q := 56) rfl rfl rfl ?_
      refine E_iconst (x := 2) dX7_goes_56 (q := 57) rfl (by decide) ?_
      refine E_iconst (x := 4) dX7_goes_57 (q := 58) rfl (by decide) ?_
      obtain ⟨z13, hxz13, hf⟩ := bnd hf
      refine E_cS (as := [.int p2, .int 2, .int 4]) (rest := [.int ((m_w (ci (1 + v3))) + 4)]) (u' := (0, 0)) (st' := [.int z13, .int ((m_w (ci (1 + v3))) + 4)]) dX7_goes_58 (q := 61) rfl lkm_X7_in lks_X7_60 (Nat.le_of_ble_eq_true rfl) ⟨Nat.le_refl _, Nat.le_refl _⟩ (Nat.le_of_ble_eq_true rfl) rfl rfl (m_X7_in (N := N)  hxz13) rfl rfl rfl ?_
      refine E_if_eq dX7_goes_61 (t := 68) (by decide) (q := 64) rfl (fun c14 => ?_) (fun c14 => ?_)
      · have hf := if_t c14 hf
        refine E_iconst (x := 0) dX7_goes_68 (q := 69) rfl (by decide) ?_
        refine E_iadd dX7_goes_69 (q := 70) rfl ?_
        refine E_aload_n 2 dX7_goes_70 (q := 71) rfl rfl rfl ?_
        refine E_get 11 dX7_goes_71 (q := 74) rfl ckX7 (Nat.le_of_ble_eq_true rfl) fl_X7_19 (hF3.at 0 rfl) (hF3.lt 0 (Nat.le_of_ble_eq_true rfl)) rfl ?_
        refine E_iload 1 dX7_goes_74 (q := 76) rfl rfl ?_
        obtain ⟨g15, hf⟩ := gd hf
        refine E_iald dX7_goes_76 (q := 77) rfl (hF3.at 4 rfl) (hF3.lt 4 (Nat.le_of_ble_eq_true rfl)) g15 ?_
        refine E_iconst (x := 3) dX7_goes_77 (q := 78) rfl (by decide) ?_
        refine E_idiv dX7_goes_78 (q := 79) rfl (by decide) ?_
        refine E_iadd dX7_goes_79 (q := 80) rfl ?_
        refine E_istore [(5, .int ((((m_w (ci (1 + v3))) + 4) + 0) + ((m_cold (ci ((m_w (ci (7 + v3))) - 1))) / 3))), (4, .int ((m_w (ci (7 + v3))) - 1)), (0, .ref (gB γ + 93)), (1, .ref (gB γ + (93 + 7))), (2, .int p2), (3, .int v3)] dX7_goes_80 (q := 82) rfl (Nat.le_of_ble_eq_true rfl) rfl ?_
        refine E_aload_n 3 dX7_goes_82 (q := 83) rfl rfl rfl ?_
        refine E_bipush (x := 13) dX7_goes_83 (q := 85) rfl (by decide) ?_
        refine E_iload 1 dX7_goes_85 (q := 87) rfl rfl ?_
        refine E_iadd dX7_goes_87 (q := 88) rfl ?_
        refine E_dup2 dX7_goes_88 (q := 89) rfl rfl rfl ?_
        obtain ⟨g16, hf⟩ := gd hf
        refine E_iald dX7_goes_89 (q := 90) rfl (hF3.at 7 rfl) (hF3.lt 7 (Nat.le_of_ble_eq_true rfl)) g16 ?_
        refine E_iconst (x := 1) dX7_goes_90 (q := 91) rfl (by decide) ?_
        refine E_iadd dX7_goes_91 (q := 92) rfl ?_
        refine E_iast dX7_goes_92 (q := 93) rfl (hF3.at 7 rfl) (hF3.lt 7 (Nat.le_of_ble_eq_true rfl)) g16 (up_put (i := 7) (cs' := (mdB γ 93 m_thrown m_trace m_text m_typed m_next m_token m_place m_value m_fault m_many m_sees m_cold m_first m_told m_s (upd m_w (ci (13 + ((m_w (ci (7 + v3))) - 1))) ((m_w (ci (13 + ((m_w (ci (7 + v3))) - 1)))) + 1)) m_kept m_isKept m_undos m_undoMany m_foundMan m_foundHours m_foundIs m_foundMany m_row m_best)) (Nat.le_of_ble_eq_true rfl) rfl) ?_
        refine E_aload_n 3 dX7_goes_93 (q := 94) rfl rfl rfl ?_
        refine E_bipush (x := 18) dX7_goes_94 (q := 96) rfl (by decide) ?_
        refine E_iconst (x := 5) dX7_goes_96 (q := 97) rfl (by decide) ?_
        refine E_iload_n 5 dX7_goes_97 (q := 98) rfl rfl rfl ?_
        refine E_imul dX7_goes_98 (q := 99) rfl ?_
        refine E_iadd dX7_goes_99 (q := 100) rfl ?_
        refine E_iload 1 dX7_goes_100 (q := 102) rfl rfl ?_
        refine E_iadd dX7_goes_102 (q := 103) rfl ?_
        refine E_dup2 dX7_goes_103 (q := 104) rfl rfl rfl ?_
        obtain ⟨g18, hf⟩ := gd hf
        have hF19 : Has n 93 (mdB γ 93 m_thrown m_trace m_text m_typed m_next m_token m_place m_value m_fault m_many m_sees m_cold m_first m_told m_s (upd m_w (ci (13 + ((m_w (ci (7 + v3))) - 1))) ((m_w (ci (13 + ((m_w (ci (7 + v3))) - 1)))) + 1)) m_kept m_isKept m_undos m_undoMany m_foundMan m_foundHours m_foundIs m_foundMany m_row m_best) (put 93 (mdB γ 93 m_thrown m_trace m_text m_typed m_next m_token m_place m_value m_fault m_many m_sees m_cold m_first m_told m_s (upd m_w (ci (13 + ((m_w (ci (7 + v3))) - 1))) ((m_w (ci (13 + ((m_w (ci (7 + v3))) - 1)))) + 1)) m_kept m_isKept m_undos m_undoMany m_foundMan m_foundHours m_foundIs m_foundMany m_row m_best) h) := (has_put hn_m)
        refine E_iald dX7_goes_104 (q := 105) rfl (hF19.at 7 rfl) (hF19.lt 7 (Nat.le_of_ble_eq_true rfl)) g18 ?_
        refine E_iconst (x := 1) dX7_goes_105 (q := 106) rfl (by decide) ?_
        refine E_iadd dX7_goes_106 (q := 107) rfl ?_
        refine E_iast dX7_goes_107 (q := 108) rfl (hF19.at 7 rfl) (hF19.lt 7 (Nat.le_of_ble_eq_true rfl)) g18 (up_put (i := 7) (cs' := (mdB γ 93 m_thrown m_trace m_text m_typed m_next m_token m_place m_value m_fault m_many m_sees m_cold m_first m_told m_s (upd (upd m_w (ci (13 + ((m_w (ci (7 + v3))) - 1))) ((m_w (ci (13 + ((m_w (ci (7 + v3))) - 1)))) + 1)) (ci ((18 + (5 * v3)) + ((m_w (ci (7 + v3))) - 1))) (((upd m_w (ci (13 + ((m_w (ci (7 + v3))) - 1))) ((m_w (ci (13 + ((m_w (ci (7 + v3))) - 1)))) + 1)) (ci ((18 + (5 * v3)) + ((m_w (ci (7 + v3))) - 1)))) + 1)) m_kept m_isKept m_undos m_undoMany m_foundMan m_foundHours m_foundIs m_foundMany m_row m_best)) (Nat.le_of_ble_eq_true rfl) rfl) ?_
        refine E_aload_n 3 dX7_goes_108 (q := 109) rfl rfl rfl ?_
        refine E_iconst (x := 1) dX7_goes_109 (q := 110) rfl (by decide) ?_
        refine E_iload_n 5 dX7_goes_110 (q := 111) rfl rfl rfl ?_
        refine E_iadd dX7_goes_111 (q := 112) rfl ?_
        refine E_iload 0 dX7_goes_112 (q := 114) rfl rfl ?_
        refine E_if_ge dX7_goes_114 (t := 121) (by decide) (q := 117) rfl (fun c21 => ?_) (fun c21 => ?_)
        · have hf := if_t c21 hf
          refine E_iload 0 dX7_goes_121 (q := 123) rfl rfl ?_
          refine E_bipush (x := 60) dX7_goes_123 (q := 125) rfl (by decide) ?_
          refine E_icmp_le dX7_goes_125 (t := 133) (by decide) (q := 128) rfl (fun c22 => ?_) (fun c22 => ?_)
          · have hf := if_t c22 hf
            refine E_iload 0 dX7_goes_133 (q := 135) rfl rfl ?_
            have hF23 : Has n 93 (mdB γ 93 m_thrown m_trace m_text m_typed m_next m_token m_place m_value m_fault m_many m_sees m_cold m_first m_told m_s (upd (upd m_w (ci (13 + ((m_w (ci (7 + v3))) - 1))) ((m_w (ci (13 + ((m_w (ci (7 + v3))) - 1)))) + 1)) (ci ((18 + (5 * v3)) + ((m_w (ci (7 + v3))) - 1))) (((upd m_w (ci (13 + ((m_w (ci (7 + v3))) - 1))) ((m_w (ci (13 + ((m_w (ci (7 + v3))) - 1)))) + 1)) (ci ((18 + (5 * v3)) + ((m_w (ci (7 + v3))) - 1)))) + 1)) m_kept m_isKept m_undos m_undoMany m_foundMan m_foundHours m_foundIs m_foundMany m_row m_best) (put 93 (mdB γ 93 m_thrown m_trace m_text m_typed m_next m_token m_place m_value m_fault m_many m_sees m_cold m_first m_told m_s (upd (upd m_w (ci (13 + ((m_w (ci (7 + v3))) - 1))) ((m_w (ci (13 + ((m_w (ci (7 + v3))) - 1)))) + 1)) (ci ((18 + (5 * v3)) + ((m_w (ci (7 + v3))) - 1))) (((upd m_w (ci (13 + ((m_w (ci (7 + v3))) - 1))) ((m_w (ci (13 + ((m_w (ci (7 + v3))) - 1)))) + 1)) (ci ((18 + (5 * v3)) + ((m_w (ci (7 + v3))) - 1)))) + 1)) m_kept m_isKept m_undos m_undoMany m_foundMan m_foundHours m_foundIs m_foundMany m_row m_best) h) := (has_put hn_m)
            refine E_iast dX7_goes_135 (q := 136) rfl (hF23.at 7 rfl) (hF23.lt 7 (Nat.le_of_ble_eq_true rfl)) g6 (up_put (i := 7) (cs' := (mdB γ 93 m_thrown m_trace m_text m_typed m_next m_token m_place m_value m_fault m_many m_sees m_cold m_first m_told m_s (upd (upd (upd m_w (ci (13 + ((m_w (ci (7 + v3))) - 1))) ((m_w (ci (13 + ((m_w (ci (7 + v3))) - 1)))) + 1)) (ci ((18 + (5 * v3)) + ((m_w (ci (7 + v3))) - 1))) (((upd m_w (ci (13 + ((m_w (ci (7 + v3))) - 1))) ((m_w (ci (13 + ((m_w (ci (7 + v3))) - 1)))) + 1)) (ci ((18 + (5 * v3)) + ((m_w (ci (7 + v3))) - 1)))) + 1)) (ci (1 + v3)) ((((m_w (ci (1 + v3))) + 4) + 0) + ((m_cold (ci ((m_w (ci (7 + v3))) - 1))) / 3))) m_kept m_isKept m_undos m_undoMany m_foundMan m_foundHours m_foundIs m_foundMany m_row m_best)) (Nat.le_of_ble_eq_true rfl) rfl) ?_
            refine E_iinc 5 [(3, .int (v3 + 1)), (5, .int ((((m_w (ci (1 + v3))) + 4) + 0) + ((m_cold (ci ((m_w (ci (7 + v3))) - 1))) / 3))), (4, .int ((m_w (ci (7 + v3))) - 1)), (0, .ref (gB γ + 93)), (1, .ref (gB γ + (93 + 7))), (2, .int p2)] dX7_goes_136 (q := 139) rfl rfl rfl (Nat.le_of_ble_eq_true rfl) rfl ?_
            refine E_goto (q := 9) dX7_goes_139 (by decide) ?_
            exact E_sub [3, 4, 5, 0] rfl (hP _ (Option.some.inj hf).symm)
          · have hf := if_f c22 hf
            refine E_bipush (x := 60) dX7_goes_128 (q := 130) rfl (by decide) ?_
            refine E_goto (q := 135) dX7_goes_130 (by decide) ?_
            have hF25 : Has n 93 (mdB γ 93 m_thrown m_trace m_text m_typed m_next m_token m_place m_value m_fault m_many m_sees m_cold m_first m_told m_s (upd (upd m_w (ci (13 + ((m_w (ci (7 + v3))) - 1))) ((m_w (ci (13 + ((m_w (ci (7 + v3))) - 1)))) + 1)) (ci ((18 + (5 * v3)) + ((m_w (ci (7 + v3))) - 1))) (((upd m_w (ci (13 + ((m_w (ci (7 + v3))) - 1))) ((m_w (ci (13 + ((m_w (ci (7 + v3))) - 1)))) + 1)) (ci ((18 + (5 * v3)) + ((m_w (ci (7 + v3))) - 1)))) + 1)) m_kept m_isKept m_undos m_undoMany m_foundMan m_foundHours m_foundIs m_foundMany m_row m_best) (put 93 (mdB γ 93 m_thrown m_trace m_text m_typed m_next m_token m_place m_value m_fault m_many m_sees m_cold m_first m_told m_s (upd (upd m_w (ci (13 + ((m_w (ci (7 + v3))) - 1))) ((m_w (ci (13 + ((m_w (ci (7 + v3))) - 1)))) + 1)) (ci ((18 + (5 * v3)) + ((m_w (ci (7 + v3))) - 1))) (((upd m_w (ci (13 + ((m_w (ci (7 + v3))) - 1))) ((m_w (ci (13 + ((m_w (ci (7 + v3))) - 1)))) + 1)) (ci ((18 + (5 * v3)) + ((m_w (ci (7 + v3))) - 1)))) + 1)) m_kept m_isKept m_undos m_undoMany m_foundMan m_foundHours m_foundIs m_foundMany m_row m_best) h) := (has_put hn_m)
            refine E_iast dX7_goes_135 (q := 136) rfl (hF25.at 7 rfl) (hF25.lt 7 (Nat.le_of_ble_eq_true rfl)) g6 (up_put (i := 7) (cs' := (mdB γ 93 m_thrown m_trace m_text m_typed m_next m_token m_place m_value m_fault m_many m_sees m_cold m_first m_told m_s (upd (upd (upd m_w (ci (13 + ((m_w (ci (7 + v3))) - 1))) ((m_w (ci (13 + ((m_w (ci (7 + v3))) - 1)))) + 1)) (ci ((18 + (5 * v3)) + ((m_w (ci (7 + v3))) - 1))) (((upd m_w (ci (13 + ((m_w (ci (7 + v3))) - 1))) ((m_w (ci (13 + ((m_w (ci (7 + v3))) - 1)))) + 1)) (ci ((18 + (5 * v3)) + ((m_w (ci (7 + v3))) - 1)))) + 1)) (ci (1 + v3)) 60) m_kept m_isKept m_undos m_undoMany m_foundMan m_foundHours m_foundIs m_foundMany m_row m_best)) (Nat.le_of_ble_eq_true rfl) rfl) ?_
            refine E_iinc 5 [(3, .int (v3 + 1)), (5, .int ((((m_w (ci (1 + v3))) + 4) + 0) + ((m_cold (ci ((m_w (ci (7 + v3))) - 1))) / 3))), (4, .int ((m_w (ci (7 + v3))) - 1)), (0, .ref (gB γ + 93)), (1, .ref (gB γ + (93 + 7))), (2, .int p2)] dX7_goes_136 (q := 139) rfl rfl rfl (Nat.le_of_ble_eq_true rfl) rfl ?_
            refine E_goto (q := 9) dX7_goes_139 (by decide) ?_
            exact E_sub [3, 4, 5, 0] rfl (hP _ (Option.some.inj hf).symm)
        · have hf := if_f c21 hf
          refine E_iconst (x := 0) dX7_goes_117 (q := 118) rfl (by decide) ?_
          refine E_goto (q := 135) dX7_goes_118 (by decide) ?_
          have hF27 : Has n 93 (mdB γ 93 m_thrown m_trace m_text m_typed m_next m_token m_place m_value m_fault m_many m_sees m_cold m_first m_told m_s (upd (upd m_w (ci (13 + ((m_w (ci (7 + v3))) - 1))) ((m_w (ci (13 + ((m_w (ci (7 + v3))) - 1)))) + 1)) (ci ((18 + (5 * v3)) + ((m_w (ci (7 + v3))) - 1))) (((upd m_w (ci (13 + ((m_w (ci (7 + v3))) - 1))) ((m_w (ci (13 + ((m_w (ci (7 + v3))) - 1)))) + 1)) (ci ((18 + (5 * v3)) + ((m_w (ci (7 + v3))) - 1)))) + 1)) m_kept m_isKept m_undos m_undoMany m_foundMan m_foundHours m_foundIs m_foundMany m_row m_best) (put 93 (mdB γ 93 m_thrown m_trace m_text m_typed m_next m_token m_place m_value m_fault m_many m_sees m_cold m_first m_told m_s (upd (upd m_w (ci (13 + ((m_w (ci (7 + v3))) - 1))) ((m_w (ci (13 + ((m_w (ci (7 + v3))) - 1)))) + 1)) (ci ((18 + (5 * v3)) + ((m_w (ci (7 + v3))) - 1))) (((upd m_w (ci (13 + ((m_w (ci (7 + v3))) - 1))) ((m_w (ci (13 + ((m_w (ci (7 + v3))) - 1)))) + 1)) (ci ((18 + (5 * v3)) + ((m_w (ci (7 + v3))) - 1)))) + 1)) m_kept m_isKept m_undos m_undoMany m_foundMan m_foundHours m_foundIs m_foundMany m_row m_best) h) := (has_put hn_m)
          refine E_iast dX7_goes_135 (q := 136) rfl (hF27.at 7 rfl) (hF27.lt 7 (Nat.le_of_ble_eq_true rfl)) g6 (up_put (i := 7) (cs' := (mdB γ 93 m_thrown m_trace m_text m_typed m_next m_token m_place m_value m_fault m_many m_sees m_cold m_first m_told m_s (upd (upd (upd m_w (ci (13 + ((m_w (ci (7 + v3))) - 1))) ((m_w (ci (13 + ((m_w (ci (7 + v3))) - 1)))) + 1)) (ci ((18 + (5 * v3)) + ((m_w (ci (7 + v3))) - 1))) (((upd m_w (ci (13 + ((m_w (ci (7 + v3))) - 1))) ((m_w (ci (13 + ((m_w (ci (7 + v3))) - 1)))) + 1)) (ci ((18 + (5 * v3)) + ((m_w (ci (7 + v3))) - 1)))) + 1)) (ci (1 + v3)) 0) m_kept m_isKept m_undos m_undoMany m_foundMan m_foundHours m_foundIs m_foundMany m_row m_best)) (Nat.le_of_ble_eq_true rfl) rfl) ?_
          refine E_iinc 5 [(3, .int (v3 + 1)), (5, .int ((((m_w (ci (1 + v3))) + 4) + 0) + ((m_cold (ci ((m_w (ci (7 + v3))) - 1))) / 3))), (4, .int ((m_w (ci (7 + v3))) - 1)), (0, .ref (gB γ + 93)), (1, .ref (gB γ + (93 + 7))), (2, .int p2)] dX7_goes_136 (q := 139) rfl rfl rfl (Nat.le_of_ble_eq_true rfl) rfl ?_
          refine E_goto (q := 9) dX7_goes_139 (by decide) ?_
          exact E_sub [3, 4, 5, 0] rfl (hP _ (Option.some.inj hf).symm)
      · have hf := if_f c14 hf
        refine E_iconst (x := 2) dX7_goes_64 (q := 65) rfl (by decide) ?_
        refine E_goto (q := 69) dX7_goes_65 (by decide) ?_
        refine E_iadd dX7_goes_69 (q := 70) rfl ?_
        refine E_aload_n 2 dX7_goes_70 (q := 71) rfl rfl rfl ?_
        refine E_get 11 dX7_goes_71 (q := 74) rfl ckX7 (Nat.le_of_ble_eq_true rfl) fl_X7_19 (hF3.at 0 rfl) (hF3.lt 0 (Nat.le_of_ble_eq_true rfl)) rfl ?_
        refine E_iload 1 dX7_goes_74 (q := 76) rfl rfl ?_
        obtain ⟨g29, hf⟩ := gd hf
        refine E_iald dX7_goes_76 (q := 77) rfl (hF3.at 4 rfl) (hF3.lt 4 (Nat.le_of_ble_eq_true rfl)) g29 ?_
        refine E_iconst (x := 3) dX7_goes_77 (q := 78) rfl (by decide) ?_
        refine E_idiv dX7_goes_78 (q := 79) rfl (by decide) ?_
        refine E_iadd dX7_goes_79 (q := 80) rfl ?_
        refine E_istore [(5, .int ((((m_w (ci (1 + v3))) + 4) + 2) + ((m_cold (ci ((m_w (ci (7 + v3))) - 1))) / 3))), (4, .int ((m_w (ci (7 + v3))) - 1)), (0, .ref (gB γ + 93)), (1, .ref (gB γ + (93 + 7))), (2, .int p2), (3, .int v3)] dX7_goes_80 (q := 82) rfl (Nat.le_of_ble_eq_true rfl) rfl ?_
        refine E_aload_n 3 dX7_goes_82 (q := 83) rfl rfl rfl ?_
        refine E_bipush (x := 13) dX7_goes_83 (q := 85) rfl (by decide) ?_
        refine E_iload 1 dX7_goes_85 (q := 87) rfl rfl ?_
        refine E_iadd dX7_goes_87 (q := 88) rfl ?_
        refine E_dup2 dX7_goes_88 (q := 89) rfl rfl rfl ?_
        obtain ⟨g30, hf⟩ := gd hf
        refine E_iald dX7_goes_89 (q := 90) rfl (hF3.at 7 rfl) (hF3.lt 7 (Nat.le_of_ble_eq_true rfl)) g30 ?_
        refine E_iconst (x := 1) dX7_goes_90 (q := 91) rfl (by decide) ?_
        refine E_iadd dX7_goes_91 (q := 92) rfl ?_
        refine E_iast dX7_goes_92 (q := 93) rfl (hF3.at 7 rfl) (hF3.lt 7 (Nat.le_of_ble_eq_true rfl)) g30 (up_put (i := 7) (cs' := (mdB γ 93 m_thrown m_trace m_text m_typed m_next m_token m_place m_value m_fault m_many m_sees m_cold m_first m_told m_s (upd m_w (ci (13 + ((m_w (ci (7 + v3))) - 1))) ((m_w (ci (13 + ((m_w (ci (7 + v3))) - 1)))) + 1)) m_kept m_isKept m_undos m_undoMany m_foundMan m_foundHours m_foundIs m_foundMany m_row m_best)) (Nat.le_of_ble_eq_true rfl) rfl) ?_
        refine E_aload_n 3 dX7_goes_93 (q := 94) rfl rfl rfl ?_
        refine E_bipush (x := 18) dX7_goes_94 (q := 96) rfl (by decide) ?_
        refine E_iconst (x := 5) dX7_goes_96 (q := 97) rfl (by decide) ?_
        refine E_iload_n 5 dX7_goes_97 (q := 98) rfl rfl rfl ?_
        refine E_imul dX7_goes_98 (q := 99) rfl ?_
        refine E_iadd dX7_goes_99 (q := 100) rfl ?_
        refine E_iload 1 dX7_goes_100 (q := 102) rfl rfl ?_
        refine E_iadd dX7_goes_102 (q := 103) rfl ?_
        refine E_dup2 dX7_goes_103 (q := 104) rfl rfl rfl ?_
        obtain ⟨g32, hf⟩ := gd hf
        have hF33 : Has n 93 (mdB γ 93 m_thrown m_trace m_text m_typed m_next m_token m_place m_value m_fault m_many m_sees m_cold m_first m_told m_s (upd m_w (ci (13 + ((m_w (ci (7 + v3))) - 1))) ((m_w (ci (13 + ((m_w (ci (7 + v3))) - 1)))) + 1)) m_kept m_isKept m_undos m_undoMany m_foundMan m_foundHours m_foundIs m_foundMany m_row m_best) (put 93 (mdB γ 93 m_thrown m_trace m_text m_typed m_next m_token m_place m_value m_fault m_many m_sees m_cold m_first m_told m_s (upd m_w (ci (13 + ((m_w (ci (7 + v3))) - 1))) ((m_w (ci (13 + ((m_w (ci (7 + v3))) - 1)))) + 1)) m_kept m_isKept m_undos m_undoMany m_foundMan m_foundHours m_foundIs m_foundMany m_row m_best) h) := (has_put hn_m)
        refine E_iald dX7_goes_104 (q := 105) rfl (hF33.at 7 rfl) (hF33.lt 7 (Nat.le_of_ble_eq_true rfl)) g32 ?_
        refine E_iconst (x := 1) dX7_goes_105 (q := 106) rfl (by decide) ?_
        refine E_iadd dX7_goes_106 (q := 107) rfl ?_
        refine E_iast dX7_goes_107 (q := 108) rfl (hF33.at 7 rfl) (hF33.lt 7 (Nat.le_of_ble_eq_true rfl)) g32 (up_put (i := 7) (cs' := (mdB γ 93 m_thrown m_trace m_text m_typed m_next m_token m_place m_value m_fault m_many m_sees m_cold m_first m_told m_s (upd (upd m_w (ci (13 + ((m_w (ci (7 + v3))) - 1))) ((m_w (ci (13 + ((m_w (ci (7 + v3))) - 1)))) + 1)) (ci ((18 + (5 * v3)) + ((m_w (ci (7 + v3))) - 1))) (((upd m_w (ci (13 + ((m_w (ci (7 + v3))) - 1))) ((m_w (ci (13 + ((m_w (ci (7 + v3))) - 1)))) + 1)) (ci ((18 + (5 * v3)) + ((m_w (ci (7 + v3))) - 1)))) + 1)) m_kept m_isKept m_undos m_undoMany m_foundMan m_foundHours m_foundIs m_foundMany m_row m_best)) (Nat.le_of_ble_eq_true rfl) rfl) ?_
        refine E_aload_n 3 dX7_goes_108 (q := 109) rfl rfl rfl ?_
        refine E_iconst (x := 1) dX7_goes_109 (q := 110) rfl (by decide) ?_
        refine E_iload_n 5 dX7_goes_110 (q := 111) rfl rfl rfl ?_
        refine E_iadd dX7_goes_111 (q := 112) rfl ?_
        refine E_iload 0 dX7_goes_112 (q := 114) rfl rfl ?_
        refine E_if_ge dX7_goes_114 (t := 121) (by decide) (q := 117) rfl (fun c35 => ?_) (fun c35 => ?_)
        · have hf := if_t c35 hf
          refine E_iload 0 dX7_goes_121 (q := 123) rfl rfl ?_
          refine E_bipush (x := 60) dX7_goes_123 (q := 125) rfl (by decide) ?_
          refine E_icmp_le dX7_goes_125 (t := 133) (by decide) (q := 128) rfl (fun c36 => ?_) (fun c36 => ?_)
          · have hf := if_t c36 hf
            refine E_iload 0 dX7_goes_133 (q := 135) rfl rfl ?_
            have hF37 : Has n 93 (mdB γ 93 m_thrown m_trace m_text m_typed m_next m_token m_place m_value m_fault m_many m_sees m_cold m_first m_told m_s (upd (upd m_w (ci (13 + ((m_w (ci (7 + v3))) - 1))) ((m_w (ci (13 + ((m_w (ci (7 + v3))) - 1)))) + 1)) (ci ((18 + (5 * v3)) + ((m_w (ci (7 + v3))) - 1))) (((upd m_w (ci (13 + ((m_w (ci (7 + v3))) - 1))) ((m_w (ci (13 + ((m_w (ci (7 + v3))) - 1)))) + 1)) (ci ((18 + (5 * v3)) + ((m_w (ci (7 + v3))) - 1)))) + 1)) m_kept m_isKept m_undos m_undoMany m_foundMan m_foundHours m_foundIs m_foundMany m_row m_best) (put 93 (mdB γ 93 m_thrown m_trace m_text m_typed m_next m_token m_place m_value m_fault m_many m_sees m_cold m_first m_told m_s (upd (upd m_w (ci (13 + ((m_w (ci (7 + v3))) - 1))) ((m_w (ci (13 + ((m_w (ci (7 + v3))) - 1)))) + 1)) (ci ((18 + (5 * v3)) + ((m_w (ci (7 + v3))) - 1))) (((upd m_w (ci (13 + ((m_w (ci (7 + v3))) - 1))) ((m_w (ci (13 + ((m_w (ci (7 + v3))) - 1)))) + 1)) (ci ((18 + (5 * v3)) + ((m_w (ci (7 + v3))) - 1)))) + 1)) m_kept m_isKept m_undos m_undoMany m_foundMan m_foundHours m_foundIs m_foundMany m_row m_best) h) := (has_put hn_m)
            refine E_iast dX7_goes_135 (q := 136) rfl (hF37.at 7 rfl) (hF37.lt 7 (Nat.le_of_ble_eq_true rfl)) g6 (up_put (i := 7) (cs' := (mdB γ 93 m_thrown m_trace m_text m_typed m_next m_token m_place m_value m_fault m_many m_sees m_cold m_first m_told m_s (upd (upd (upd m_w (ci (13 + ((m_w (ci (7 + v3))) - 1))) ((m_w (ci (13 + ((m_w (ci (7 + v3))) - 1)))) + 1)) (ci ((18 + (5 * v3)) + ((m_w (ci (7 + v3))) - 1))) (((upd m_w (ci (13 + ((m_w (ci (7 + v3))) - 1))) ((m_w (ci (13 + ((m_w (ci (7 + v3))) - 1)))) + 1)) (ci ((18 + (5 * v3)) + ((m_w (ci (7 + v3))) - 1)))) + 1)) (ci (1 + v3)) ((((m_w (ci (1 + v3))) + 4) + 2) + ((m_cold (ci ((m_w (ci (7 + v3))) - 1))) / 3))) m_kept m_isKept m_undos m_undoMany m_foundMan m_foundHours m_foundIs m_foundMany m_row m_best)) (Nat.le_of_ble_eq_true rfl) rfl) ?_
            refine E_iinc 5 [(3, .int (v3 + 1)), (5, .int ((((m_w (ci (1 + v3))) + 4) + 2) + ((m_cold (ci ((m_w (ci (7 + v3))) - 1))) / 3))), (4, .int ((m_w (ci (7 + v3))) - 1)), (0, .ref (gB γ + 93)), (1, .ref (gB γ + (93 + 7))), (2, .int p2)] dX7_goes_136 (q := 139) rfl rfl rfl (Nat.le_of_ble_eq_true rfl) rfl ?_
            refine E_goto (q := 9) dX7_goes_139 (by decide) ?_
            exact E_sub [3, 4, 5, 0] rfl (hP _ (Option.some.inj hf).symm)
          · have hf := if_f c36 hf
            refine E_bipush (x := 60) dX7_goes_128 (q := 130) rfl (by decide) ?_
            refine E_goto (q := 135) dX7_goes_130 (by decide) ?_
            have hF39 : Has n 93 (mdB γ 93 m_thrown m_trace m_text m_typed m_next m_token m_place m_value m_fault m_many m_sees m_cold m_first m_told m_s (upd (upd m_w (ci (13 + ((m_w (ci (7 + v3))) - 1))) ((m_w (ci (13 + ((m_w (ci (7 + v3))) - 1)))) + 1)) (ci ((18 + (5 * v3)) + ((m_w (ci (7 + v3))) - 1))) (((upd m_w (ci (13 + ((m_w (ci (7 + v3))) - 1))) ((m_w (ci (13 + ((m_w (ci (7 + v3))) - 1)))) + 1)) (ci ((18 + (5 * v3)) + ((m_w (ci (7 + v3))) - 1)))) + 1)) m_kept m_isKept m_undos m_undoMany m_foundMan m_foundHours m_foundIs m_foundMany m_row m_best) (put 93 (mdB γ 93 m_thrown m_trace m_text m_typed m_next m_token m_place m_value m_fault m_many m_sees m_cold m_first m_told m_s (upd (upd m_w (ci (13 + ((m_w (ci (7 + v3))) - 1))) ((m_w (ci (13 + ((m_w (ci (7 + v3))) - 1)))) + 1)) (ci ((18 + (5 * v3)) + ((m_w (ci (7 + v3))) - 1))) (((upd m_w (ci (13 + ((m_w (ci (7 + v3))) - 1))) ((m_w (ci (13 + ((m_w (ci (7 + v3))) - 1)))) + 1)) (ci ((18 + (5 * v3)) + ((m_w (ci (7 + v3))) - 1)))) + 1)) m_kept m_isKept m_undos m_undoMany m_foundMan m_foundHours m_foundIs m_foundMany m_row m_best) h) := (has_put hn_m)
            refine E_iast dX7_goes_135 (q := 136) rfl (hF39.at 7 rfl) (hF39.lt 7 (Nat.le_of_ble_eq_true rfl)) g6 (up_put (i := 7) (cs' := (mdB γ 93 m_thrown m_trace m_text m_typed m_next m_token m_place m_value m_fault m_many m_sees m_cold m_first m_told m_s (upd (upd (upd m_w (ci (13 + ((m_w (ci (7 + v3))) - 1))) ((m_w (ci (13 + ((m_w (ci (7 + v3))) - 1)))) + 1)) (ci ((18 + (5 * v3)) + ((m_w (ci (7 + v3))) - 1))) (((upd m_w (ci (13 + ((m_w (ci (7 + v3))) - 1))) ((m_w (ci (13 + ((m_w (ci (7 + v3))) - 1)))) + 1)) (ci ((18 + (5 * v3)) + ((m_w (ci (7 + v3))) - 1)))) + 1)) (ci (1 + v3)) 60) m_kept m_isKept m_undos m_undoMany m_foundMan m_foundHours m_foundIs m_foundMany m_row m_best)) (Nat.le_of_ble_eq_true rfl) rfl) ?_
            refine E_iinc 5 [(3, .int (v3 + 1)), (5, .int ((((m_w (ci (1 + v3))) + 4) + 2) + ((m_cold (ci ((m_w (ci (7 + v3))) - 1))) / 3))), (4, .int ((m_w (ci (7 + v3))) - 1)), (0, .ref (gB γ + 93)), (1, .ref (gB γ + (93 + 7))), (2, .int p2)] dX7_goes_136 (q := 139) rfl rfl rfl (Nat.le_of_ble_eq_true rfl) rfl ?_
            refine E_goto (q := 9) dX7_goes_139 (by decide) ?_
            exact E_sub [3, 4, 5, 0] rfl (hP _ (Option.some.inj hf).symm)
        · have hf := if_f c35 hf
          refine E_iconst (x := 0) dX7_goes_117 (q := 118) rfl (by decide) ?_
          refine E_goto (q := 135) dX7_goes_118 (by decide) ?_
          have hF41 : Has n 93 (mdB γ 93 m_thrown m_trace m_text m_typed m_next m_token m_place m_value m_fault m_many m_sees m_cold m_first m_told m_s (upd (upd m_w (ci (13 + ((m_w (ci (7 + v3))) - 1))) ((m_w (ci (13 + ((m_w (ci (7 + v3))) - 1)))) + 1)) (ci ((18 + (5 * v3)) + ((m_w (ci (7 + v3))) - 1))) (((upd m_w (ci (13 + ((m_w (ci (7 + v3))) - 1))) ((m_w (ci (13 + ((m_w (ci (7 + v3))) - 1)))) + 1)) (ci ((18 + (5 * v3)) + ((m_w (ci (7 + v3))) - 1)))) + 1)) m_kept m_isKept m_undos m_undoMany m_foundMan m_foundHours m_foundIs m_foundMany m_row m_best) (put 93 (mdB γ 93 m_thrown m_trace m_text m_typed m_next m_token m_place m_value m_fault m_many m_sees m_cold m_first m_told m_s (upd (upd m_w (ci (13 + ((m_w (ci (7 + v3))) - 1))) ((m_w (ci (13 + ((m_w (ci (7 + v3))) - 1)))) + 1)) (ci ((18 + (5 * v3)) + ((m_w (ci (7 + v3))) - 1))) (((upd m_w (ci (13 + ((m_w (ci (7 + v3))) - 1))) ((m_w (ci (13 + ((m_w (ci (7 + v3))) - 1)))) + 1)) (ci ((18 + (5 * v3)) + ((m_w (ci (7 + v3))) - 1)))) + 1)) m_kept m_isKept m_undos m_undoMany m_foundMan m_foundHours m_foundIs m_foundMany m_row m_best) h) := (has_put hn_m)
          refine E_iast dX7_goes_135 (q := 136) rfl (hF41.at 7 rfl) (hF41.lt 7 (Nat.le_of_ble_eq_true rfl)) g6 (up_put (i := 7) (cs' := (mdB γ 93 m_thrown m_trace m_text m_typed m_next m_token m_place m_value m_fault m_many m_sees m_cold m_first m_told m_s (upd (upd (upd m_w (ci (13 + ((m_w (ci (7 + v3))) - 1))) ((m_w (ci (13 + ((m_w (ci (7 + v3))) - 1)))) + 1)) (ci ((18 + (5 * v3)) + ((m_w (ci (7 + v3))) - 1))) (((upd m_w (ci (13 + ((m_w (ci (7 + v3))) - 1))) ((m_w (ci (13 + ((m_w (ci (7 + v3))) - 1)))) + 1)) (ci ((18 + (5 * v3)) + ((m_w (ci (7 + v3))) - 1)))) + 1)) (ci (1 + v3)) 0) m_kept m_isKept m_undos m_undoMany m_foundMan m_foundHours m_foundIs m_foundMany m_row m_best)) (Nat.le_of_ble_eq_true rfl) rfl) ?_
          refine E_iinc 5 [(3, .int (v3 + 1)), (5, .int ((((m_w (ci (1 + v3))) + 4) + 2) + ((m_cold (ci ((m_w (ci (7 + v3))) - 1))) / 3))), (4, .int ((m_w (ci (7 + v3))) - 1)), (0, .ref (gB γ + 93)), (1, .ref (gB γ + (93 + 7))), (2, .int p2)] dX7_goes_136 (q := 139) rfl rfl rfl (Nat.le_of_ble_eq_true rfl) rfl ?_
          refine E_goto (q := 9) dX7_goes_139 (by decide) ?_
          exact E_sub [3, 4, 5, 0] rfl (hP _ (Option.some.inj hf).symm)
set_option maxHeartbeats 4000000 in
set_option maxRecDepth 100000 in
theorem m_X7_goes_w {γ : GX} {n : Nat} {N : Nat} {h : HP} {m_thrown : Int32} {m_trace : Int64} {m_text : FN} {m_typed : Int32} {m_next : Int32} {m_token : Int32} {m_place : Int32} {m_value : Int32} {m_fault : Int32} {m_many : FN} {m_sees : FN} {m_cold : FN} {m_first : FN} {m_told : Int32} {m_s : FN} {m_w : FN} {m_kept : FN} {m_isKept : FN} {m_undos : FN} {m_undoMany : Int32} {m_foundMan : FN} {m_foundHours : FN} {m_foundIs : FN} {m_foundMany : Int32} {m_row : FN} {m_best : FN} (hH_m : Has n 93 (mdB γ 93 m_thrown m_trace m_text m_typed m_next m_token m_place m_value m_fault m_many m_sees m_cold m_first m_told m_s m_w m_kept m_isKept m_undos m_undoMany m_foundMan m_foundHours m_foundIs m_foundMany m_row m_best) h) {z : FN} (hf : f_X7_goes_w N m_many m_cold m_w = some z)  : Ct γ M_X7_goes n h [.ref (gB γ + 93), .ref (gB γ + (93 + 7))] (Done none n (put 93 (mdB γ 93 m_thrown m_trace m_text m_typed m_next m_token m_place m_value m_fault m_many m_sees m_cold m_first m_told m_s z m_kept m_isKept m_undos m_undoMany m_foundMan m_foundHours m_foundIs m_foundMany m_row m_best) h)) := by
  have hn_m : 93 + 16 ≤ n := hH_m.1
  refine Ct.heap (h := (put 93 (mdB γ 93 m_thrown m_trace m_text m_typed m_next m_token m_place m_value m_fault m_many m_sees m_cold m_first m_told m_s m_w m_kept m_isKept m_undos m_undoMany m_foundMan m_foundHours m_foundIs m_foundMany m_row m_best) h)) (put_self hH_m).symm ?_
  refine Ct_of_Ev (by decide) (fun h => by cases h) (Nat.le_of_ble_eq_true rfl) ?_
  show Ev γ M_X7_goes (0, 0) n (put 93 (mdB γ 93 m_thrown m_trace m_text m_typed m_next m_token m_place m_value m_fault m_many m_sees m_cold m_first m_told m_s m_w m_kept m_isKept m_undos m_undoMany m_foundMan m_foundHours m_foundIs m_foundMany m_row m_best) h) [(0, .ref (gB γ + 93)), (1, .ref (gB γ + (93 + 7)))] 0 [] _
  unfold f_X7_goes_w at hf
  refine E_aload_n 1 dX7_goes_0 (q := 1) rfl rfl rfl ?_
  refine E_iconst (x := 0) dX7_goes_1 (q := 2) rfl (by decide) ?_
  have hF1 : Has n 93 (mdB γ 93 m_thrown m_trace m_text m_typed m_next m_token m_place m_value m_fault m_many m_sees m_cold m_first m_told m_s m_w m_kept m_isKept m_undos m_undoMany m_foundMan m_foundHours m_foundIs m_foundMany m_row m_best) (put 93 (mdB γ 93 m_thrown m_trace m_text m_typed m_next m_token m_place m_value m_fault m_many m_sees m_cold m_first m_told m_s m_w m_kept m_isKept m_undos m_undoMany m_foundMan m_foundHours m_foundIs m_foundMany m_row m_best) h) := (has_put hn_m)
  refine E_iald dX7_goes_2 (q := 3) rfl (hF1.at 7 rfl) (hF1.lt 7 (Nat.le_of_ble_eq_true rfl)) (by decide +kernel) ?_
  refine E_bipush (x := 12) dX7_goes_3 (q := 5) rfl (by decide) ?_
  refine E_irem dX7_goes_5 (q := 6) rfl (by decide) ?_
  refine E_istore_n [(2, .int ((m_w (ci 0)) % 12)), (0, .ref (gB γ + 93)), (1, .ref (gB γ + (93 + 7)))] dX7_goes_6 (q := 7) rfl rfl (Nat.le_of_ble_eq_true rfl) rfl ?_
  refine E_iconst (x := 0) dX7_goes_7 (q := 8) rfl (by decide) ?_
  refine E_istore_n [(3, .int 0), (2, .int ((m_w (ci 0)) % 12)), (0, .ref (gB γ + 93)), (1, .ref (gB γ + (93 + 7)))] dX7_goes_8 (q := 9) rfl rfl (Nat.le_of_ble_eq_true rfl) rfl ?_
  obtain ⟨t43, hxt43, hf⟩ := bnd hf
  refine E_sub [2, 3, 1, 0] rfl ?_
  refine L_X7_goes_w_1 hn_m hxt43 ?_
  show Ev γ M_X7_goes _ n (put 93 (mdB γ 93 m_thrown m_trace m_text m_typed m_next m_token m_place m_value m_fault m_many m_sees m_cold m_first m_told m_s t43 m_kept m_isKept m_undos m_undoMany m_foundMan m_foundHours m_foundIs m_foundMany m_row m_best) h) [(1, .ref (gB γ + (93 + 7)))] 142 [] _
  refine E_aload_n 0 dX7_goes_142 (q := 143) rfl rfl rfl ?_
  refine E_iconst (x := 0) dX7_goes_143 (q := 144) rfl (by decide) ?_
  refine E_dup2 dX7_goes_144 (q := 145) rfl rfl rfl ?_
  have hF45 : Has n 93 (mdB γ 93 m_thrown m_trace m_text m_typed m_next m_token m_place m_value m_fault m_many m_sees m_cold m_first m_told m_s t43 m_kept m_isKept m_undos m_undoMany m_foundMan m_foundHours m_foundIs m_foundMany m_row m_best) (put 93 (mdB γ 93 m_thrown m_trace m_text m_typed m_next m_token m_place m_value m_fault m_many m_sees m_cold m_first m_told m_s t43 m_kept m_isKept m_undos m_undoMany m_foundMan m_foundHours m_foundIs m_foundMany m_row m_best) h) := (has_put hn_m)
  refine E_iald dX7_goes_145 (q := 146) rfl (hF45.at 7 rfl) (hF45.lt 7 (Nat.le_of_ble_eq_true rfl)) (by decide +kernel) ?_
  refine E_iconst (x := 1) dX7_goes_146 (q := 147) rfl (by decide) ?_
  refine E_iadd dX7_goes_147 (q := 148) rfl ?_
  refine E_iast dX7_goes_148 (q := 149) rfl (hF45.at 7 rfl) (hF45.lt 7 (Nat.le_of_ble_eq_true rfl)) (by decide +kernel) (up_put (i := 7) (cs' := (mdB γ 93 m_thrown m_trace m_text m_typed m_next m_token m_place m_value m_fault m_many m_sees m_cold m_first m_told m_s (upd t43 (ci 0) ((t43 (ci 0)) + 1)) m_kept m_isKept m_undos m_undoMany m_foundMan m_foundHours m_foundIs m_foundMany m_row m_best)) (Nat.le_of_ble_eq_true rfl) rfl) ?_
  obtain rfl := Option.some.inj hf
  exact E_vret dX7_goes_149 rfl ⟨rfl, rfl, rfl⟩

-- PostReliefModel.nextMan([II)I
def b_X7_nextMan_s_1 (N : Nat) (p2 : Int32) (m_many : FN) (m_s : FN) (v3 : Int32) (v4 : Int32) : Option ((Int32 × Int32) ⊕ (Int32)) :=
  (if (m_many (ci 1)) ≤ v4 then some (.inr v3) else (if ix (7 + v4) 48 = true then (if (m_s (ci (7 + v4))) = 0 then (if ((p2 >>> (v4 &&& 31)) &&& 1) = 0 then (if v3 = (-9) then some (.inl (v4, (v4 + 1))) else (if ix (1 + v4) 48 = true then (if ix (1 + v3) 48 = true then (if (m_s (ci (1 + v3))) ≤ (m_s (ci (1 + v4))) then some (.inl (v3, (v4 + 1))) else some (.inl (v4, (v4 + 1)))) else none) else none)) else some (.inl (v3, (v4 + 1)))) else some (.inl (v3, (v4 + 1)))) else none))
def f_X7_nextMan_s (N : Nat) (a2 : Int32) (m_many : FN) (m_s : FN) : Option (Int32) :=
  ((lp (fun s => b_X7_nextMan_s_1 N a2 m_many m_s s.1 s.2) N ((-9), 0)).bind fun t10 => some t10)
set_option maxHeartbeats 4000000 in
set_option maxRecDepth 100000 in
theorem L_X7_nextMan_s_1 {γ : GX} {n : Nat} {h : HP} {Ψ : PS} {N : Nat} {p2 : Int32} {m_thrown : Int32} {m_trace : Int64} {m_text : FN} {m_typed : Int32} {m_next : Int32} {m_token : Int32} {m_place : Int32} {m_value : Int32} {m_fault : Int32} {m_many : FN} {m_sees : FN} {m_cold : FN} {m_first : FN} {m_told : Int32} {m_s : FN} {m_w : FN} {m_kept : FN} {m_isKept : FN} {m_undos : FN} {m_undoMany : Int32} {m_foundMan : FN} {m_foundHours : FN} {m_foundIs : FN} {m_foundMany : Int32} {m_row : FN} {m_best : FN} (hH_m : Has n 93 (mdB γ 93 m_thrown m_trace m_text m_typed m_next m_token m_place m_value m_fault m_many m_sees m_cold m_first m_told m_s m_w m_kept m_isKept m_undos m_undoMany m_foundMan m_foundHours m_foundIs m_foundMany m_row m_best) h) {s0 : Int32 × Int32} {t : Int32} (hf : lp (fun s => b_X7_nextMan_s_1 N p2 m_many m_s s.1 s.2) N s0 = some t) (K : Ev γ M_X7_nextMan (0, 0) n h [(3, .int t)] 81 [] Ψ) : Ev γ M_X7_nextMan (0, 0) n h [(0, .ref (gB γ + 93)), (1, .ref (gB γ + (93 + 6))), (2, .int p2), (3, .int s0.1), (4, .int s0.2)] 6 [] Ψ := by
  refine E_lp (P := fun s => Ev γ M_X7_nextMan (0, 0) n h [(0, .ref (gB γ + 93)), (1, .ref (gB γ + (93 + 6))), (2, .int p2), (3, .int s.1), (4, .int s.2)] 6 [] Ψ) (K := fun t => Ev γ M_X7_nextMan (0, 0) n h [(3, .int t)] 81 [] Ψ) ?_ N s0 t hf K
  intro s r hf hP hK
  obtain ⟨v3, v4⟩ := s
  change b_X7_nextMan_s_1 N p2 m_many m_s v3 v4 = some r at hf
  unfold b_X7_nextMan_s_1 at hf
  show Ev γ M_X7_nextMan (0, 0) n h [(0, .ref (gB γ + 93)), (1, .ref (gB γ + (93 + 6))), (2, .int p2), (3, .int v3), (4, .int v4)] 6 [] Ψ
  refine E_iload 4 dX7_nextMan_6 (q := 8) rfl rfl ?_
  refine E_aload_n 0 dX7_nextMan_8 (q := 9) rfl rfl rfl ?_
  refine E_get 9 dX7_nextMan_9 (q := 12) rfl ckX7 (Nat.le_of_ble_eq_true rfl) fl_X7_13 (hH_m.at 0 rfl) (hH_m.lt 0 (Nat.le_of_ble_eq_true rfl)) rfl ?_
  refine E_iconst (x := 1) dX7_nextMan_12 (q := 13) rfl (by decide) ?_
  refine E_iald dX7_nextMan_13 (q := 14) rfl (hH_m.at 2 rfl) (hH_m.lt 2 (Nat.le_of_ble_eq_true rfl)) (by decide +kernel) ?_
  refine E_icmp_ge dX7_nextMan_14 (t := 81) (by decide) (q := 17) rfl (fun c2 => ?_) (fun c2 => ?_)
  · have hf := if_t c2 hf
    exact E_sub [3] rfl (hK _ (Option.some.inj hf).symm)
  · have hf := if_f c2 hf
    refine E_aload_n 1 dX7_nextMan_17 (q := 18) rfl rfl rfl ?_
    refine E_bipush (x := 7) dX7_nextMan_18 (q := 20) rfl (by decide) ?_
    refine E_iload 4 dX7_nextMan_20 (q := 22) rfl rfl ?_
    refine E_iadd dX7_nextMan_22 (q := 23) rfl ?_
    obtain ⟨g3, hf⟩ := gd hf
    refine E_iald dX7_nextMan_23 (q := 24) rfl (hH_m.at 6 rfl) (hH_m.lt 6 (Nat.le_of_ble_eq_true rfl)) g3 ?_
    refine E_if_ne dX7_nextMan_24 (t := 40) (by decide) (q := 27) rfl (fun c4 => ?_) (fun c4 => ?_)
    · have hf := if_f c4 hf
      refine E_iconst (x := 0) dX7_nextMan_40 (q := 41) rfl (by decide) ?_
      refine E_istore [(5, .int 0), (0, .ref (gB γ + 93)), (1, .ref (gB γ + (93 + 6))), (2, .int p2), (3, .int v3), (4, .int v4)] dX7_nextMan_41 (q := 43) rfl (Nat.le_of_ble_eq_true rfl) rfl ?_
      refine E_iload 0 dX7_nextMan_43 (q := 45) rfl rfl ?_
      refine E_if_eq dX7_nextMan_45 (t := 73) (by decide) (q := 48) rfl (fun _ => ?_) (fun c => absurd c (by decide))
      refine E_iload_n 4 dX7_nextMan_73 (q := 74) rfl rfl rfl ?_
      refine E_istore_n [(3, .int v3), (5, .int 0), (0, .ref (gB γ + 93)), (1, .ref (gB γ + (93 + 6))), (2, .int p2), (4, .int v4)] dX7_nextMan_74 (q := 75) rfl rfl (Nat.le_of_ble_eq_true rfl) rfl ?_
      refine E_iinc 5 [(4, .int (v4 + 1)), (3, .int v3), (5, .int 0), (0, .ref (gB γ + 93)), (1, .ref (gB γ + (93 + 6))), (2, .int p2)] dX7_nextMan_75 (q := 78) rfl rfl rfl (Nat.le_of_ble_eq_true rfl) rfl ?_
      refine E_goto (q := 6) dX7_nextMan_78 (by decide) ?_
      exact E_sub [3, 4, 5, 1, 0] rfl (hP _ (Option.some.inj hf).symm)
    · have hf := if_t c4 hf
      refine E_iload_n 2 dX7_nextMan_27 (q := 28) rfl rfl rfl ?_
      refine E_iload 4 dX7_nextMan_28 (q := 30) rfl rfl ?_
      refine E_ishr dX7_nextMan_30 (q := 31) rfl ?_
      refine E_iconst (x := 1) dX7_nextMan_31 (q := 32) rfl (by decide) ?_
      refine E_iand dX7_nextMan_32 (q := 33) rfl ?_
      refine E_if_ne dX7_nextMan_33 (t := 40) (by decide) (q := 36) rfl (fun c5 => ?_) (fun c5 => ?_)
      · have hf := if_f c5 hf
        refine E_iconst (x := 0) dX7_nextMan_40 (q := 41) rfl (by decide) ?_
        refine E_istore [(5, .int 0), (0, .ref (gB γ + 93)), (1, .ref (gB γ + (93 + 6))), (2, .int p2), (3, .int v3), (4, .int v4)] dX7_nextMan_41 (q := 43) rfl (Nat.le_of_ble_eq_true rfl) rfl ?_
        refine E_iload 0 dX7_nextMan_43 (q := 45) rfl rfl ?_
        refine E_if_eq dX7_nextMan_45 (t := 73) (by decide) (q := 48) rfl (fun _ => ?_) (fun c => absurd c (by decide))
        refine E_iload_n 4 dX7_nextMan_73 (q := 74) rfl rfl rfl ?_
        refine E_istore_n [(3, .int v3), (5, .int 0), (0, .ref (gB γ + 93)), (1, .ref (gB γ + (93 + 6))), (2, .int p2), (4, .int v4)] dX7_nextMan_74 (q := 75) rfl rfl (Nat.le_of_ble_eq_true rfl) rfl ?_
        refine E_iinc 5 [(4, .int (v4 + 1)), (3, .int v3), (5, .int 0), (0, .ref (gB γ + 93)), (1, .ref (gB γ + (93 + 6))), (2, .int p2)] dX7_nextMan_75 (q := 78) rfl rfl rfl (Nat.le_of_ble_eq_true rfl) rfl ?_
        refine E_goto (q := 6) dX7_nextMan_78 (by decide) ?_
        exact E_sub [3, 4, 5, 1, 0] rfl (hP _ (Option.some.inj hf).symm)
      · have hf := if_t c5 hf
        refine E_iconst (x := 1) dX7_nextMan_36 (q := 37) rfl (by decide) ?_
        refine E_goto (q := 41) dX7_nextMan_37 (by decide) ?_
        refine E_istore [(5, .int 1), (0, .ref (gB γ + 93)), (1, .ref (gB γ + (93 + 6))), (2, .int p2), (3, .int v3), (4, .int v4)] dX7_nextMan_41 (q := 43) rfl (Nat.le_of_ble_eq_true rfl) rfl ?_
        refine E_iload 0 dX7_nextMan_43 (q := 45) rfl rfl ?_
        refine E_if_eq dX7_nextMan_45 (t := 73) (by decide) (q := 48) rfl (fun c => absurd c (by decide)) (fun _ => ?_)
        refine E_iload_n 4 dX7_nextMan_48 (q := 49) rfl rfl rfl ?_
        refine E_bipush (x := (-9)) dX7_nextMan_49 (q := 51) rfl (by decide) ?_
        refine E_icmp_eq dX7_nextMan_51 (t := 68) (by decide) (q := 54) rfl (fun c6 => ?_) (fun c6 => ?_)
        · have hf := if_t c6 hf
          refine E_iload 5 dX7_nextMan_68 (q := 70) rfl rfl ?_
          refine E_goto (q := 74) dX7_nextMan_70 (by decide) ?_
          refine E_istore_n [(3, .int v4), (5, .int 1), (0, .ref (gB γ + 93)), (1, .ref (gB γ + (93 + 6))), (2, .int p2), (4, .int v4)] dX7_nextMan_74 (q := 75) rfl rfl (Nat.le_of_ble_eq_true rfl) rfl ?_
          refine E_iinc 5 [(4, .int (v4 + 1)), (3, .int v4), (5, .int 1), (0, .ref (gB γ + 93)), (1, .ref (gB γ + (93 + 6))), (2, .int p2)] dX7_nextMan_75 (q := 78) rfl rfl rfl (Nat.le_of_ble_eq_true rfl) rfl ?_
          refine E_goto (q := 6) dX7_nextMan_78 (by decide) ?_
          exact E_sub [3, 4, 5, 1, 0] rfl (hP _ (Option.some.inj hf).symm)
        · have hf := if_f c6 hf
          refine E_aload_n 2 dX7_nextMan_54 (q := 55) rfl rfl rfl ?_
          refine E_iconst (x := 1) dX7_nextMan_55 (q := 56) rfl (by decide) ?_
          refine E_iload 5 dX7_nextMan_56 (q := 58) rfl rfl ?_
          refine E_iadd dX7_nextMan_58 (q := 59) rfl ?_
          obtain ⟨g7, hf⟩ := gd hf
          refine E_iald dX7_nextMan_59 (q := 60) rfl (hH_m.at 6 rfl) (hH_m.lt 6 (Nat.le_of_ble_eq_true rfl)) g7 ?_
          refine E_aload_n 2 dX7_nextMan_60 (q := 61) rfl rfl rfl ?_
          refine E_iconst (x := 1) dX7_nextMan_61 (q := 62) rfl (by decide) ?_
          refine E_iload_n 4 dX7_nextMan_62 (q := 63) rfl rfl rfl ?_
          refine E_iadd dX7_nextMan_63 (q := 64) rfl ?_
          obtain ⟨g8, hf⟩ := gd hf
          refine E_iald dX7_nextMan_64 (q := 65) rfl (hH_m.at 6 rfl) (hH_m.lt 6 (Nat.le_of_ble_eq_true rfl)) g8 ?_
          refine E_icmp_ge dX7_nextMan_65 (t := 73) (by decide) (q := 68) rfl (fun c9 => ?_) (fun c9 => ?_)
          · have hf := if_t c9 hf
            refine E_iload_n 4 dX7_nextMan_73 (q := 74) rfl rfl rfl ?_
            refine E_istore_n [(3, .int v3), (5, .int 1), (0, .ref (gB γ + 93)), (1, .ref (gB γ + (93 + 6))), (2, .int p2), (4, .int v4)] dX7_nextMan_74 (q := 75) rfl rfl (Nat.le_of_ble_eq_true rfl) rfl ?_
            refine E_iinc 5 [(4, .int (v4 + 1)), (3, .int v3), (5, .int 1), (0, .ref (gB γ + 93)), (1, .ref (gB γ + (93 + 6))), (2, .int p2)] dX7_nextMan_75 (q := 78) rfl rfl rfl (Nat.le_of_ble_eq_true rfl) rfl ?_
            refine E_goto (q := 6) dX7_nextMan_78 (by decide) ?_
            exact E_sub [3, 4, 5, 1, 0] rfl (hP _ (Option.some.inj hf).symm)
          · have hf := if_f c9 hf
            refine E_iload 5 dX7_nextMan_68 (q := 70) rfl rfl ?_
            refine E_goto (q := 74) dX7_nextMan_70 (by decide) ?_
            refine E_istore_n [(3, .int v4), (5, .int 1), (0, .ref (gB γ + 93)), (1, .ref (gB γ + (93 + 6))), (2, .int p2), (4, .int v4)] dX7_nextMan_74 (q := 75) rfl rfl (Nat.le_of_ble_eq_true rfl) rfl ?_
            refine E_iinc 5 [(4, .int (v4 + 1)), (3, .int v4), (5, .int 1), (0, .ref (gB γ + 93)), (1, .ref (gB γ + (93 + 6))), (2, .int p2)] dX7_nextMan_75 (q := 78) rfl rfl rfl (Nat.le_of_ble_eq_true rfl) rfl ?_
            refine E_goto (q := 6) dX7_nextMan_78 (by decide) ?_
            exact E_sub [3, 4, 5, 1, 0] rfl (hP _ (Option.some.inj hf).symm)
set_option maxHeartbeats 4000000 in
set_option maxRecDepth 100000 in
theorem m_X7_nextMan_s {γ : GX} {n : Nat} {N : Nat} {h : HP} {a2 : Int32} {m_thrown : Int32} {m_trace : Int64} {m_text : FN} {m_typed : Int32} {m_next : Int32} {m_token : Int32} {m_place : Int32} {m_value : Int32} {m_fault : Int32} {m_many : FN} {m_sees : FN} {m_cold : FN} {m_first : FN} {m_told : Int32} {m_s : FN} {m_w : FN} {m_kept : FN} {m_isKept : FN} {m_undos : FN} {m_undoMany : Int32} {m_foundMan : FN} {m_foundHours : FN} {m_foundIs : FN} {m_foundMany : Int32} {m_row : FN} {m_best : FN} (hH_m : Has n 93 (mdB γ 93 m_thrown m_trace m_text m_typed m_next m_token m_place m_value m_fault m_many m_sees m_cold m_first m_told m_s m_w m_kept m_isKept m_undos m_undoMany m_foundMan m_foundHours m_foundIs m_foundMany m_row m_best) h) {z : Int32} (hf : f_X7_nextMan_s N a2 m_many m_s = some z)  : Ct γ M_X7_nextMan n h [.ref (gB γ + 93), .ref (gB γ + (93 + 6)), .int a2] (Done (some (.int z)) n h) := by
  refine Ct_of_Ev (by decide) (fun h => by cases h) (Nat.le_of_ble_eq_true rfl) ?_
  show Ev γ M_X7_nextMan (0, 0) n h [(0, .ref (gB γ + 93)), (1, .ref (gB γ + (93 + 6))), (2, .int a2)] 0 [] _
  unfold f_X7_nextMan_s at hf
  refine E_bipush (x := (-9)) dX7_nextMan_0 (q := 2) rfl (by decide) ?_
  refine E_istore_n [(3, .int (-9)), (0, .ref (gB γ + 93)), (1, .ref (gB γ + (93 + 6))), (2, .int a2)] dX7_nextMan_2 (q := 3) rfl rfl (Nat.le_of_ble_eq_true rfl) rfl ?_
  refine E_iconst (x := 0) dX7_nextMan_3 (q := 4) rfl (by decide) ?_
  refine E_istore [(4, .int 0), (3, .int (-9)), (0, .ref (gB γ + 93)), (1, .ref (gB γ + (93 + 6))), (2, .int a2)] dX7_nextMan_4 (q := 6) rfl (Nat.le_of_ble_eq_true rfl) rfl ?_
  obtain ⟨t10, hxt10, hf⟩ := bnd hf
  refine E_sub [2, 3, 4, 1, 0] rfl ?_
  refine L_X7_nextMan_s_1 hH_m hxt10 ?_
  show Ev γ M_X7_nextMan _ n h [(3, .int t10)] 81 [] _
  refine E_iload_n 0 dX7_nextMan_81 (q := 82) rfl rfl rfl ?_
  obtain rfl := Option.some.inj hf
  exact E_iret dX7_nextMan_82 rfl ⟨rfl, rfl, rfl⟩

-- PostReliefModel.nextMan([II)I
def b_X7_nextMan_w_1 (N : Nat) (p2 : Int32) (m_many : FN) (m_w : FN) (v3 : Int32) (v4 : Int32) : Option ((Int32 × Int32) ⊕ (Int32)) :=
  (if (m_many (ci 1)) ≤ v4 then some (.inr v3) else (if ix (7 + v4) 48 = true then (if (m_w (ci (7 + v4))) = 0 then (if ((p2 >>> (v4 &&& 31)) &&& 1) = 0 then (if v3 = (-9) then some (.inl (v4, (v4 + 1))) else (if ix (1 + v4) 48 = true then (if ix (1 + v3) 48 = true then (if (m_w (ci (1 + v3))) ≤ (m_w (ci (1 + v4))) then some (.inl (v3, (v4 + 1))) else some (.inl (v4, (v4 + 1)))) else none) else none)) else some (.inl (v3, (v4 + 1)))) else some (.inl (v3, (v4 + 1)))) else none))
def f_X7_nextMan_w (N : Nat) (a2 : Int32) (m_many : FN) (m_w : FN) : Option (Int32) :=
  ((lp (fun s => b_X7_nextMan_w_1 N a2 m_many m_w s.1 s.2) N ((-9), 0)).bind fun t10 => some t10)
set_option maxHeartbeats 4000000 in
set_option maxRecDepth 100000 in
theorem L_X7_nextMan_w_1 {γ : GX} {n : Nat} {h : HP} {Ψ : PS} {N : Nat} {p2 : Int32} {m_thrown : Int32} {m_trace : Int64} {m_text : FN} {m_typed : Int32} {m_next : Int32} {m_token : Int32} {m_place : Int32} {m_value : Int32} {m_fault : Int32} {m_many : FN} {m_sees : FN} {m_cold : FN} {m_first : FN} {m_told : Int32} {m_s : FN} {m_w : FN} {m_kept : FN} {m_isKept : FN} {m_undos : FN} {m_undoMany : Int32} {m_foundMan : FN} {m_foundHours : FN} {m_foundIs : FN} {m_foundMany : Int32} {m_row : FN} {m_best : FN} (hH_m : Has n 93 (mdB γ 93 m_thrown m_trace m_text m_typed m_next m_token m_place m_value m_fault m_many m_sees m_cold m_first m_told m_s m_w m_kept m_isKept m_undos m_undoMany m_foundMan m_foundHours m_foundIs m_foundMany m_row m_best) h) {s0 : Int32 × Int32} {t : Int32} (hf : lp (fun s => b_X7_nextMan_w_1 N p2 m_many m_w s.1 s.2) N s0 = some t) (K : Ev γ M_X7_nextMan (0, 0) n h [(3, .int t)] 81 [] Ψ) : Ev γ M_X7_nextMan (0, 0) n h [(0, .ref (gB γ + 93)), (1, .ref (gB γ + (93 + 7))), (2, .int p2), (3, .int s0.1), (4, .int s0.2)] 6 [] Ψ := by
  refine E_lp (P := fun s => Ev γ M_X7_nextMan (0, 0) n h [(0, .ref (gB γ + 93)), (1, .ref (gB γ + (93 + 7))), (2, .int p2), (3, .int s.1), (4, .int s.2)] 6 [] Ψ) (K := fun t => Ev γ M_X7_nextMan (0, 0) n h [(3, .int t)] 81 [] Ψ) ?_ N s0 t hf K
  intro s r hf hP hK
  obtain ⟨v3, v4⟩ := s
  change b_X7_nextMan_w_1 N p2 m_many m_w v3 v4 = some r at hf
  unfold b_X7_nextMan_w_1 at hf
  show Ev γ M_X7_nextMan (0, 0) n h [(0, .ref (gB γ + 93)), (1, .ref (gB γ + (93 + 7))), (2, .int p2), (3, .int v3), (4, .int v4)] 6 [] Ψ
  refine E_iload 4 dX7_nextMan_6 (q := 8) rfl rfl ?_
  refine E_aload_n 0 dX7_nextMan_8 (q := 9) rfl rfl rfl ?_
  refine E_get 9 dX7_nextMan_9 (q := 12) rfl ckX7 (Nat.le_of_ble_eq_true rfl) fl_X7_13 (hH_m.at 0 rfl) (hH_m.lt 0 (Nat.le_of_ble_eq_true rfl)) rfl ?_
  refine E_iconst (x := 1) dX7_nextMan_12 (q := 13) rfl (by decide) ?_
  refine E_iald dX7_nextMan_13 (q := 14) rfl (hH_m.at 2 rfl) (hH_m.lt 2 (Nat.le_of_ble_eq_true rfl)) (by decide +kernel) ?_
  refine E_icmp_ge dX7_nextMan_14 (t := 81) (by decide) (q := 17) rfl (fun c2 => ?_) (fun c2 => ?_)
  · have hf := if_t c2 hf
    exact E_sub [3] rfl (hK _ (Option.some.inj hf).symm)
  · have hf := if_f c2 hf
    refine E_aload_n 1 dX7_nextMan_17 (q := 18) rfl rfl rfl ?_
    refine E_bipush (x := 7) dX7_nextMan_18 (q := 20) rfl (by decide) ?_
    refine E_iload 4 dX7_nextMan_20 (q := 22) rfl rfl ?_
    refine E_iadd dX7_nextMan_22 (q := 23) rfl ?_
    obtain ⟨g3, hf⟩ := gd hf
    refine E_iald dX7_nextMan_23 (q := 24) rfl (hH_m.at 7 rfl) (hH_m.lt 7 (Nat.le_of_ble_eq_true rfl)) g3 ?_
    refine E_if_ne dX7_nextMan_24 (t := 40) (by decide) (q := 27) rfl (fun c4 => ?_) (fun c4 => ?_)
    · have hf := if_f c4 hf
      refine E_iconst (x := 0) dX7_nextMan_40 (q := 41) rfl (by decide) ?_
      refine E_istore [(5, .int 0), (0, .ref (gB γ + 93)), (1, .ref (gB γ + (93 + 7))), (2, .int p2), (3, .int v3), (4, .int v4)] dX7_nextMan_41 (q := 43) rfl (Nat.le_of_ble_eq_true rfl) rfl ?_
      refine E_iload 0 dX7_nextMan_43 (q := 45) rfl rfl ?_
      refine E_if_eq dX7_nextMan_45 (t := 73) (by decide) (q := 48) rfl (fun _ => ?_) (fun c => absurd c (by decide))
      refine E_iload_n 4 dX7_nextMan_73 (q := 74) rfl rfl rfl ?_
      refine E_istore_n [(3, .int v3), (5, .int 0), (0, .ref (gB γ + 93)), (1, .ref (gB γ + (93 + 7))), (2, .int p2), (4, .int v4)] dX7_nextMan_74 (q := 75) rfl rfl (Nat.le_of_ble_eq_true rfl) rfl ?_
      refine E_iinc 5 [(4, .int (v4 + 1)), (3, .int v3), (5, .int 0), (0, .ref (gB γ + 93)), (1, .ref (gB γ + (93 + 7))), (2, .int p2)] dX7_nextMan_75 (q := 78) rfl rfl rfl (Nat.le_of_ble_eq_true rfl) rfl ?_
      refine E_goto (q := 6) dX7_nextMan_78 (by decide) ?_
      exact E_sub [3, 4, 5, 1, 0] rfl (hP _ (Option.some.inj hf).symm)
    · have hf := if_t c4 hf
      refine E_iload_n 2 dX7_nextMan_27 (q := 28) rfl rfl rfl ?_
      refine E_iload 4 dX7_nextMan_28 (q := 30) rfl rfl ?_
      refine E_ishr dX7_nextMan_30 (q := 31) rfl ?_
      refine E_iconst (x := 1) dX7_nextMan_31 (q := 32) rfl (by decide) ?_
      refine E_iand dX7_nextMan_32 (q := 33) rfl ?_
      refine E_if_ne dX7_nextMan_33 (t := 40) (by decide) (q := 36) rfl (fun c5 => ?_) (fun c5 => ?_)
      · have hf := if_f c5 hf
        refine E_iconst (x := 0) dX7_nextMan_40 (q := 41) rfl (by decide) ?_
        refine E_istore [(5, .int 0), (0, .ref (gB γ + 93)), (1, .ref (gB γ + (93 + 7))), (2, .int p2), (3, .int v3), (4, .int v4)] dX7_nextMan_41 (q := 43) rfl (Nat.le_of_ble_eq_true rfl) rfl ?_
        refine E_iload 0 dX7_nextMan_43 (q := 45) rfl rfl ?_
        refine E_if_eq dX7_nextMan_45 (t := 73) (by decide) (q := 48) rfl (fun _ => ?_) (fun c => absurd c (by decide))
        refine E_iload_n 4 dX7_nextMan_73 (q := 74) rfl rfl rfl ?_
        refine E_istore_n [(3, .int v3), (5, .int 0), (0, .ref (gB γ + 93)), (1, .ref (gB γ + (93 + 7))), (2, .int p2), (4, .int v4)] dX7_nextMan_74 (q := 75) rfl rfl (Nat.le_of_ble_eq_true rfl) rfl ?_
        refine E_iinc 5 [(4, .int (v4 + 1)), (3, .int v3), (5, .int 0), (0, .ref (gB γ + 93)), (1, .ref (gB γ + (93 + 7))), (2, .int p2)] dX7_nextMan_75 (q := 78) rfl rfl rfl (Nat.le_of_ble_eq_true rfl) rfl ?_
        refine E_goto (q := 6) dX7_nextMan_78 (by decide) ?_
        exact E_sub [3, 4, 5, 1, 0] rfl (hP _ (Option.some.inj hf).symm)
      · have hf := if_t c5 hf
        refine E_iconst (x := 1) dX7_nextMan_36 (q := 37) rfl (by decide) ?_
        refine E_goto (q := 41) dX7_nextMan_37 (by decide) ?_
        refine E_istore [(5, .int 1), (0, .ref (gB γ + 93)), (1, .ref (gB γ + (93 + 7))), (2, .int p2), (3, .int v3), (4, .int v4)] dX7_nextMan_41 (q := 43) rfl (Nat.le_of_ble_eq_true rfl) rfl ?_
        refine E_iload 0 dX7_nextMan_43 (q := 45) rfl rfl ?_
        refine E_if_eq dX7_nextMan_45 (t := 73) (by decide) (q := 48) rfl (fun c => absurd c (by decide)) (fun _ => ?_)
        refine E_iload_n 4 dX7_nextMan_48 (q := 49) rfl rfl rfl ?_
        refine E_bipush (x := (-9)) dX7_nextMan_49 (q := 51) rfl (by decide) ?_
        refine E_icmp_eq dX7_nextMan_51 (t := 68) (by decide) (q := 54) rfl (fun c6 => ?_) (fun c6 => ?_)
        · have hf := if_t c6 hf
          refine E_iload 5 dX7_nextMan_68 (q := 70) rfl rfl ?_
          refine E_goto (q := 74) dX7_nextMan_70 (by decide) ?_
          refine E_istore_n [(3, .int v4), (5, .int 1), (0, .ref (gB γ + 93)), (1, .ref (gB γ + (93 + 7))), (2, .int p2), (4, .int v4)] dX7_nextMan_74 (q := 75) rfl rfl (Nat.le_of_ble_eq_true rfl) rfl ?_
          refine E_iinc 5 [(4, .int (v4 + 1)), (3, .int v4), (5, .int 1), (0, .ref (gB γ + 93)), (1, .ref (gB γ + (93 + 7))), (2, .int p2)] dX7_nextMan_75 (q := 78) rfl rfl rfl (Nat.le_of_ble_eq_true rfl) rfl ?_
          refine E_goto (q := 6) dX7_nextMan_78 (by decide) ?_
          exact E_sub [3, 4, 5, 1, 0] rfl (hP _ (Option.some.inj hf).symm)
        · have hf := if_f c6 hf
          refine E_aload_n 2 dX7_nextMan_54 (q := 55) rfl rfl rfl ?_
          refine E_iconst (x := 1) dX7_nextMan_55 (q := 56) rfl (by decide) ?_
          refine E_iload 5 dX7_nextMan_56 (q := 58) rfl rfl ?_
          refine E_iadd dX7_nextMan_58 (q := 59) rfl ?_
          obtain ⟨g7, hf⟩ := gd hf
          refine E_iald dX7_nextMan_59 (q := 60) rfl (hH_m.at 7 rfl) (hH_m.lt 7 (Nat.le_of_ble_eq_true rfl)) g7 ?_
          refine E_aload_n 2 dX7_nextMan_60 (q := 61) rfl rfl rfl ?_
          refine E_iconst (x := 1) dX7_nextMan_61 (q := 62) rfl (by decide) ?_
          refine E_iload_n 4 dX7_nextMan_62 (q := 63) rfl rfl rfl ?_
          refine E_iadd dX7_nextMan_63 (q := 64) rfl ?_
          obtain ⟨g8, hf⟩ := gd hf
          refine E_iald dX7_nextMan_64 (q := 65) rfl (hH_m.at 7 rfl) (hH_m.lt 7 (Nat.le_of_ble_eq_true rfl)) g8 ?_
          refine E_icmp_ge dX7_nextMan_65 (t := 73) (by decide) (q := 68) rfl (fun c9 => ?_) (fun c9 => ?_)
          · have hf := if_t c9 hf
            refine E_iload_n 4 dX7_nextMan_73 (q := 74) rfl rfl rfl ?_
            refine E_istore_n [(3, .int v3), (5, .int 1), (0, .ref (gB γ + 93)), (1, .ref (gB γ + (93 + 7))), (2, .int p2), (4, .int v4)] dX7_nextMan_74 (q := 75) rfl rfl (Nat.le_of_ble_eq_true rfl) rfl ?_
            refine E_iinc 5 [(4, .int (v4 + 1)), (3, .int v3), (5, .int 1), (0, .ref (gB γ + 93)), (1, .ref (gB γ + (93 + 7))), (2, .int p2)] dX7_nextMan_75 (q := 78) rfl rfl rfl (Nat.le_of_ble_eq_true rfl) rfl ?_
            refine E_goto (q := 6) dX7_nextMan_78 (by decide) ?_
            exact E_sub [3, 4, 5, 1, 0] rfl (hP _ (Option.some.inj hf).symm)
          · have hf := if_f c9 hf
            refine E_iload 5 dX7_nextMan_68 (q := 70) rfl rfl ?_
            refine E_goto (q := 74) dX7_nextMan_70 (by decide) ?_
            refine E_istore_n [(3, .int v4), (5, .int 1), (0, .ref (gB γ + 93)), (1, .ref (gB γ + (93 + 7))), (2, .int p2), (4, .int v4)] dX7_nextMan_74 (q := 75) rfl rfl (Nat.le_of_ble_eq_true rfl) rfl ?_
            refine E_iinc 5 [(4, .int (v4 + 1)), (3, .int v4), (5, .int 1), (0, .ref (gB γ + 93)), (1, .ref (gB γ + (93 + 7))), (2, .int p2)] dX7_nextMan_75 (q := 78) rfl rfl rfl (Nat.le_of_ble_eq_true rfl) rfl ?_
            refine E_goto (q := 6) dX7_nextMan_78 (by decide) ?_
            exact E_sub [3, 4, 5, 1, 0] rfl (hP _ (Option.some.inj hf).symm)
set_option maxHeartbeats 4000000 in
set_option maxRecDepth 100000 in
theorem m_X7_nextMan_w {γ : GX} {n : Nat} {N : Nat} {h : HP} {a2 : Int32} {m_thrown : Int32} {m_trace : Int64} {m_text : FN} {m_typed : Int32} {m_next : Int32} {m_token : Int32} {m_place : Int32} {m_value : Int32} {m_fault : Int32} {m_many : FN} {m_sees : FN} {m_cold : FN} {m_first : FN} {m_told : Int32} {m_s : FN} {m_w : FN} {m_kept : FN} {m_isKept : FN} {m_undos : FN} {m_undoMany : Int32} {m_foundMan : FN} {m_foundHours : FN} {m_foundIs : FN} {m_foundMany : Int32} {m_row : FN} {m_best : FN} (hH_m : Has n 93 (mdB γ 93 m_thrown m_trace m_text m_typed m_next m_token m_place m_value m_fault m_many m_sees m_cold m_first m_told m_s m_w m_kept m_isKept m_undos m_undoMany m_foundMan m_foundHours m_foundIs m_foundMany m_row m_best) h) {z : Int32} (hf : f_X7_nextMan_w N a2 m_many m_w = some z)  : Ct γ M_X7_nextMan n h [.ref (gB γ + 93), .ref (gB γ + (93 + 7)), .int a2] (Done (some (.int z)) n h) := by
  refine Ct_of_Ev (by decide) (fun h => by cases h) (Nat.le_of_ble_eq_true rfl) ?_
  show Ev γ M_X7_nextMan (0, 0) n h [(0, .ref (gB γ + 93)), (1, .ref (gB γ + (93 + 7))), (2, .int a2)] 0 [] _
  unfold f_X7_nextMan_w at hf
  refine E_bipush (x := (-9)) dX7_nextMan_0 (q := 2) rfl (by decide) ?_
  refine E_istore_n [(3, .int (-9)), (0, .ref (gB γ + 93)), (1, .ref (gB γ + (93 + 7))), (2, .int a2)] dX7_nextMan_2 (q := 3) rfl rfl (Nat.le_of_ble_eq_true rfl) rfl ?_
  refine E_iconst (x := 0) dX7_nextMan_3 (q := 4) rfl (by decide) ?_
  refine E_istore [(4, .int 0), (3, .int (-9)), (0, .ref (gB γ + 93)), (1, .ref (gB γ + (93 + 7))), (2, .int a2)] dX7_nextMan_4 (q := 6) rfl (Nat.le_of_ble_eq_true rfl) rfl ?_
  obtain ⟨t10, hxt10, hf⟩ := bnd hf
  refine E_sub [2, 3, 4, 1, 0] rfl ?_
  refine L_X7_nextMan_w_1 hH_m hxt10 ?_
  show Ev γ M_X7_nextMan _ n h [(3, .int t10)] 81 [] _
  refine E_iload_n 0 dX7_nextMan_81 (q := 82) rfl rfl rfl ?_
  obtain rfl := Option.some.inj hf
  exact E_iret dX7_nextMan_82 rfl ⟨rfl, rfl, rfl⟩

-- PostReliefModel.relieved([III)I
def b_X7_relieved_s_1 (N : Nat) (p2 : Int32) (p3 : Int32) (m_many : FN) (v4 : Int32) (v5 : Int32) (v6 : Int32) (m_s : FN) : Option ((Int32 × Int32 × Int32 × FN) ⊕ (Int32 × FN)) :=
  (if (m_many (ci 0)) ≤ v6 then some (.inr (v4, m_s)) else (if p3 = 1 then (if ¬ (m_many (ci 0)) = 0 then ((f_X7_manAt_s N ((p2 + v6) % (m_many (ci 0))) m_many m_s).bind fun z6 => ((f_X7_nextMan_s N v5 m_many m_s).bind fun z7 => (if z6 = (-9) then some (.inl (v4, v5, (v6 + 1), m_s)) else (if ix (13 + ((p2 + v6) % (m_many (ci 0)))) 48 = true then (if (m_s (ci (13 + ((p2 + v6) % (m_many (ci 0)))))) < (m_many (ci 2)) then some (.inl (v4, v5, (v6 + 1), m_s)) else (if z7 = (-9) then some (.inl (v4, v5, (v6 + 1), m_s)) else (if ix (7 + z6) 48 = true then (if ix (7 + z7) 48 = true then some (.inl ((v4 + 1), (v5 ||| ((1 : Int32) <<< (z6 &&& 31))), (v6 + 1), (upd (upd (upd m_s (ci (7 + z6)) 0) (ci (7 + z7)) (((p2 + v6) % (m_many (ci 0))) + 1)) (ci (13 + ((p2 + v6) % (m_many (ci 0))))) 0))) else none) else none))) else none)))) else none) else (if ¬ (m_many (ci 0)) = 0 then ((f_X7_manAt_s N ((p2 + ((m_many (ci 0)) - v6)) % (m_many (ci 0))) m_many m_s).bind fun z20 => ((f_X7_nextMan_s N v5 m_many m_s).bind fun z21 => (if z20 = (-9) then some (.inl (v4, v5, (v6 + 1), m_s)) else (if ix (13 + ((p2 + ((m_many (ci 0)) - v6)) % (m_many (ci 0)))) 48 = true then (if (m_s (ci (13 + ((p2 + ((m_many (ci 0)) - v6)) % (m_many (ci 0)))))) < (m_many (ci 2)) then some (.inl (v4, v5, (v6 + 1), m_s)) else (if z21 = (-9) then some (.inl (v4, v5, (v6 + 1), m_s)) else (if ix (7 + z20) 48 = true then (if ix (7 + z21) 48 = true then some (.inl ((v4 + 1), (v5 ||| ((1 : Int32) <<< (z20 &&& 31))), (v6 + 1), (upd (upd (upd m_s (ci (7 + z20)) 0) (ci (7 + z21)) (((p2 + ((m_many (ci 0)) - v6)) % (m_many (ci 0))) + 1)) (ci (13 + ((p2 + ((m_many (ci 0)) - v6)) % (m_many (ci 0))))) 0))) else none) else none))) else none)))) else none)))
def f_X7_relieved_s (N : Nat) (a2 : Int32) (a3 : Int32) (m_many : FN) (m_s : FN) : Option (Int32 × FN) :=
  ((lp (fun s => b_X7_relieved_s_1 N a2 a3 m_many s.1 s.2.1 s.2.2.1 s.2.2.2) N (0, 0, 0, m_s)).bind fun t33 => some (t33.1, t33.2))
set_option maxHeartbeats 4000000 in
set_option maxRecDepth 100000 in
theorem L_X7_relieved_s_1 {γ : GX} {n : Nat} {h : HP} {Ψ : PS} {N : Nat} {p2 : Int32} {p3 : Int32} {m_thrown : Int32} {m_trace : Int64} {m_text : FN} {m_typed : Int32} {m_next : Int32} {m_token : Int32} {m_place : Int32} {m_value : Int32} {m_fault : Int32} {m_many : FN} {m_sees : FN} {m_cold : FN} {m_first : FN} {m_told : Int32} {m_w : FN} {m_kept : FN} {m_isKept : FN} {m_undos : FN} {m_undoMany : Int32} {m_foundMan : FN} {m_foundHours : FN} {m_foundIs : FN} {m_foundMany : Int32} {m_row : FN} {m_best : FN} (hn_m : 93 + 16 ≤ n) {s0 : Int32 × Int32 × Int32 × FN} {t : Int32 × FN} (hf : lp (fun s => b_X7_relieved_s_1 N p2 p3 m_many s.1 s.2.1 s.2.2.1 s.2.2.2) N s0 = some t) (K : Ev γ M_X7_relieved (0, 0) n (put 93 (mdB γ 93 m_thrown m_trace m_text m_typed m_next m_token m_place m_value m_fault m_many m_sees m_cold m_first m_told t.2 m_w m_kept m_isKept m_undos m_undoMany m_foundMan m_foundHours m_foundIs m_foundMany m_row m_best) h) [(4, .int t.1)] 143 [] Ψ) : Ev γ M_X7_relieved (0, 0) n (put 93 (mdB γ 93 m_thrown m_trace m_text m_typed m_next m_token m_place m_value m_fault m_many m_sees m_cold m_first m_told s0.2.2.2 m_w m_kept m_isKept m_undos m_undoMany m_foundMan m_foundHours m_foundIs m_foundMany m_row m_best) h) [(0, .ref (gB γ + 93)), (1, .ref (gB γ + (93 + 6))), (2, .int p2), (3, .int p3), (4, .int s0.1), (5, .int s0.2.1), (6, .int s0.2.2.1)] 9 [] Ψ := by
  refine E_lp (P := fun s => Ev γ M_X7_relieved (0, 0) n (put 93 (mdB γ 93 m_thrown m_trace m_text m_typed m_next m_token m_place m_value m_fault m_many m_sees m_cold m_first m_told s.2.2.2 m_w m_kept m_isKept m_undos m_undoMany m_foundMan m_foundHours m_foundIs m_foundMany m_row m_best) h) [(0, .ref (gB γ + 93)), (1, .ref (gB γ + (93 + 6))), (2, .int p2), (3, .int p3), (4, .int s.1), (5, .int s.2.1), (6, .int s.2.2.1)] 9 [] Ψ) (K := fun t => Ev γ M_X7_relieved (0, 0) n (put 93 (mdB γ 93 m_thrown m_trace m_text m_typed m_next m_token m_place m_value m_fault m_many m_sees m_cold m_first m_told t.2 m_w m_kept m_isKept m_undos m_undoMany m_foundMan m_foundHours m_foundIs m_foundMany m_row m_best) h) [(4, .int t.1)] 143 [] Ψ) ?_ N s0 t hf K
  intro s r hf hP hK
  obtain ⟨v4, v5, v6, m_s⟩ := s
  change b_X7_relieved_s_1 N p2 p3 m_many v4 v5 v6 m_s = some r at hf
  unfold b_X7_relieved_s_1 at hf
  show Ev γ M_X7_relieved (0, 0) n (put 93 (mdB γ 93 m_thrown m_trace m_text m_typed m_next m_token m_place m_value m_fault m_many m_sees m_cold m_first m_told m_s m_w m_kept m_isKept m_undos m_undoMany m_foundMan m_foundHours m_foundIs m_foundMany m_row m_best) h) [(0, .ref (gB γ + 93)), (1, .ref (gB γ + (93 + 6))), (2, .int p2), (3, .int p3), (4, .int v4), (5, .int v5), (6, .int v6)] 9 [] Ψ
  refine E_iload 6 dX7_relieved_9 (q := 11) rfl rfl ?_
  refine E_aload_n 0 dX7_relieved_11 (q := 12) rfl rfl rfl ?_
  have hF2 : Has n 93 (mdB γ 93 m_thrown m_trace m_text m_typed m_next m_token m_place m_value m_fault m_many m_sees m_cold m_first m_told m_s m_w m_kept m_isKept m_undos m_undoMany m_foundMan m_foundHours m_foundIs m_foundMany m_row m_best) (put 93 (mdB γ 93 m_thrown m_trace m_text m_typed m_next m_token m_place m_value m_fault m_many m_sees m_cold m_first m_told m_s m_w m_kept m_isKept m_undos m_undoMany m_foundMan m_foundHours m_foundIs m_foundMany m_row m_best) h) := (has_put hn_m)
  refine E_get 9 dX7_relieved_12 (q := 15) rfl ckX7 (Nat.le_of_ble_eq_true rfl) fl_X7_13 (hF2.at 0 rfl) (hF2.lt 0 (Nat.le_of_ble_eq_true rfl)) rfl ?_
  refine E_iconst (x := 0) dX7_relieved_15 (q := 16) rfl (by decide) ?_
  refine E_iald dX7_relieved_16 (q := 17) rfl (hF2.at 2 rfl) (hF2.lt 2 (Nat.le_of_ble_eq_true rfl)) (by decide +kernel) ?_
  refine E_icmp_ge dX7_relieved_17 (t := 143) (by decide) (q := 20) rfl (fun c3 => ?_) (fun c3 => ?_)
  · have hf := if_t c3 hf
    exact E_sub [4] rfl (hK _ (Option.some.inj hf).symm)
  · have hf := if_f c3 hf
    refine E_iload_n 2 dX7_relieved_20 (q := 21) rfl rfl rfl ?_
    refine E_iload_n 3 dX7_relieved_21 (q := 22) rfl rfl rfl ?_
    refine E_iconst (x := 1) dX7_relieved_22 (q := 23) rfl (by decide) ?_
    refine E_icmp_ne dX7_relieved_23 (t := 31) (by decide) (q := 26) rfl (fun c4 => ?_) (fun c4 => ?_)
    · have hf := if_f c4 hf
      refine E_aload_n 0 dX7_relieved_31 (q := 32) rfl rfl rfl ?_
      refine E_get 9 dX7_relieved_32 (q := 35) rfl ckX7 (Nat.le_of_ble_eq_true rfl) fl_X7_13 (hF2.at 0 rfl) (hF2.lt 0 (Nat.le_of_ble_eq_true rfl)) rfl ?_
      refine E_iconst (x := 0) dX7_relieved_35 (q := 36) rfl (by decide) ?_
      refine E_iald dX7_relieved_36 (q := 37) rfl (hF2.at 2 rfl) (hF2.lt 2 (Nat.le_of_ble_eq_true rfl)) (by decide +kernel) ?_
      refine E_iload 6 dX7_relieved_37 (q := 39) rfl rfl ?_
      refine E_isub dX7_relieved_39 (q := 40) rfl ?_
      refine E_iadd dX7_relieved_40 (q := 41) rfl ?_
      refine E_aload_n 0 dX7_relieved_41 (q := 42) rfl rfl rfl ?_
      refine E_get 9 dX7_relieved_42 (q := 45) rfl ckX7 (Nat.le_of_ble_eq_true rfl) fl_X7_13 (hF2.at 0 rfl) (hF2.lt 0 (Nat.le_of_ble_eq_true rfl)) rfl ?_
      refine E_iconst (x := 0) dX7_relieved_45 (q := 46) rfl (by decide) ?_
      refine E_iald dX7_relieved_46 (q := 47) rfl (hF2.at 2 rfl) (hF2.lt 2 (Nat.le_of_ble_eq_true rfl)) (by decide +kernel) ?_
      obtain ⟨g19, hf⟩ := gd hf
      refine E_irem dX7_relieved_47 (q := 48) rfl g19 ?_
      refine E_istore [(7, .int ((p2 + ((m_many (ci 0)) - v6)) % (m_many (ci 0)))), (0, .ref (gB γ + 93)), (1, .ref (gB γ + (93 + 6))), (2, .int p2), (3, .int p3), (4, .int v4), (5, .int v5), (6, .int v6)] dX7_relieved_48 (q := 50) rfl (Nat.le_of_ble_eq_true rfl) rfl ?_
      refine E_aload_n 1 dX7_relieved_50 (q := 51) rfl rfl rfl ?_
      refine E_aload_n 2 dX7_relieved_51 (q := 52) rfl rfl rfl ?_
      refine E_iload 0 dX7_relieved_52 (q := 54) rfl rfl ?_
      obtain ⟨z20, hxz20, hf⟩ := bnd hf
      refine E_cV (as := [.ref (gB γ + (93 + 6)), .int ((p2 + ((m_many (ci 0)) - v6)) % (m_many (ci 0)))]) (k := 93) (rest := []) (u' := (0, 0)) (st' := [.int z20]) dX7_relieved_54 (q := 57) rfl lkm_X7_manAt lkv_X7_124 (Nat.le_of_ble_eq_true rfl) ckX7 (hF2.at 0 rfl) (hF2.lt 0 (Nat.le_of_ble_eq_true rfl)) ⟨Nat.le_refl _, Nat.le_refl _⟩ (Nat.le_of_ble_eq_true rfl) rfl rfl (m_X7_manAt_s (N := N)  hF2 hxz20) rfl rfl rfl ?_
      refine E_istore [(8, .int z20), (7, .int ((p2 + ((m_many (ci 0)) - v6)) % (m_many (ci 0)))), (0, .ref (gB γ + 93)), (1, .ref (gB γ + (93 + 6))), (2, .int p2), (3, .int p3), (4, .int v4), (5, .int v5), (6, .int v6)] dX7_relieved_57 (q := 59) rfl (Nat.le_of_ble_eq_true rfl) rfl ?_
      refine E_aload_n 2 dX7_relieved_59 (q := 60) rfl rfl rfl ?_
      refine E_aload_n 3 dX7_relieved_60 (q := 61) rfl rfl rfl ?_
      refine E_iload 7 dX7_relieved_61 (q := 63) rfl rfl ?_
      obtain ⟨z21, hxz21, hf⟩ := bnd hf
      refine E_cV (as := [.ref (gB γ + (93 + 6)), .int v5]) (k := 93) (rest := []) (u' := (0, 0)) (st' := [.int z21]) dX7_relieved_63 (q := 66) rfl lkm_X7_nextMan lkv_X7_158 (Nat.le_of_ble_eq_true rfl) ckX7 (hF2.at 0 rfl) (hF2.lt 0 (Nat.le_of_ble_eq_true rfl)) ⟨Nat.le_refl _, Nat.le_refl _⟩ (Nat.le_of_ble_eq_true rfl) rfl rfl (m_X7_nextMan_s (N := N)  hF2 hxz21) rfl rfl rfl ?_
      refine E_istore [(9, .int z21), (8, .int z20), (7, .int ((p2 + ((m_many (ci 0)) - v6)) % (m_many (ci 0)))), (0, .ref (gB γ + 93)), (1, .ref (gB γ + (93 + 6))), (2, .int p2), (3, .int p3), (4, .int v4), (5, .int v5), (6, .int v6)] dX7_relieved_66 (q := 68) rfl (Nat.le_of_ble_eq_true rfl) rfl ?_
      refine E_iload 1 dX7_relieved_68 (q := 70) rfl rfl ?_
      refine E_bipush (x := (-9)) dX7_relieved_70 (q := 72) rfl (by decide) ?_
      refine E_icmp_eq dX7_relieved_72 (t := 137) (by decide) (q := 75) rfl (fun c22 => ?_) (fun c22 => ?_)
      · have hf := if_t c22 hf
        refine E_iinc 9 [(6, .int (v6 + 1)), (9, .int z21), (8, .int z20), (7, .int ((p2 + ((m_many (ci 0)) - v6)) % (m_many (ci 0)))), (0, .ref (gB γ + 93)), (1, .ref (gB γ + (93 + 6))), (2, .int p2), (3, .int p3), (4, .int v4), (5, .int v5)] dX7_relieved_137 (q := 140) rfl rfl rfl (Nat.le_of_ble_eq_true rfl) rfl ?_
        refine E_goto (q := 9) dX7_relieved_140 (by decide) ?_
        exact E_sub [4, 5, 6, 7, 8, 9, 0] rfl (hP _ (Option.some.inj hf).symm)
      · have hf := if_f c22 hf
        refine E_aload_n 4 dX7_relieved_75 (q := 76) rfl rfl rfl ?_
        refine E_bipush (x := 13) dX7_relieved_76 (q := 78) rfl (by decide) ?_
        refine E_iload 2 dX7_relieved_78 (q := 80) rfl rfl ?_
        refine E_iadd dX7_relieved_80 (q := 81) rfl ?_
        obtain ⟨g23, hf⟩ := gd hf
        refine E_iald dX7_relieved_81 (q := 82) rfl (hF2.at 6 rfl) (hF2.lt 6 (Nat.le_of_ble_eq_true rfl)) g23 ?_
        refine E_aload_n 3 dX7_relieved_82 (q := 83) rfl rfl rfl ?_
        refine E_get 9 dX7_relieved_83 (q := 86) rfl ckX7 (Nat.le_of_ble_eq_true rfl) fl_X7_13 (hF2.at 0 rfl) (hF2.lt 0 (Nat.le_of_ble_eq_true rfl)) rfl ?_
        refine E_iconst (x := 2) dX7_relieved_86 (q := 87) rfl (by decide) ?_
        refine E_iald dX7_relieved_87 (q := 88) rfl (hF2.at 2 rfl) (hF2.lt 2 (Nat.le_of_ble_eq_true rfl)) (by decide +kernel) ?_
        refine E_icmp_lt dX7_relieved_88 (t := 137) (by decide) (q := 91) rfl (fun c24 => ?_) (fun c24 => ?_)
        · have hf := if_t c24 hf
          refine E_iinc 9 [(6, .int (v6 + 1)), (9, .int z21), (8, .int z20), (7, .int ((p2 + ((m_many (ci 0)) - v6)) % (m_many (ci 0)))), (0, .ref (gB γ + 93)), (1, .ref (gB γ + (93 + 6))), (2, .int p2), (3, .int p3), (4, .int v4), (5, .int v5)] dX7_relieved_137 (q := 140) rfl rfl rfl (Nat.le_of_ble_eq_true rfl) rfl ?_
          refine E_goto (q := 9) dX7_relieved_140 (by decide) ?_
          exact E_sub [4, 5, 6, 7, 8, 9, 0] rfl (hP _ (Option.some.inj hf).symm)
        · have hf := if_f c24 hf
          refine E_iload 0 dX7_relieved_91 (q := 93) rfl rfl ?_
          refine E_bipush (x := (-9)) dX7_relieved_93 (q := 95) rfl (by decide) ?_
          refine E_icmp_eq dX7_relieved_95 (t := 137) (by decide) (q := 98) rfl (fun c25 => ?_) (fun c25 => ?_)
          · have hf := if_t c25 hf
            refine E_iinc 9 [(6, .int (v6 + 1)), (9, .int z21), (8, .int z20), (7, .int ((p2 + ((m_many (ci 0)) - v6)) % (m_many (ci 0)))), (0, .ref (gB γ + 93)), (1, .ref (gB γ + (93 + 6))), (2, .int p2), (3, .int p3), (4, .int v4), (5, .int v5)] dX7_relieved_137 (q := 140) rfl rfl rfl (Nat.le_of_ble_eq_true rfl) rfl ?_
            refine E_goto (q := 9) dX7_relieved_140 (by decide) ?_
            exact E_sub [4, 5, 6, 7, 8, 9, 0] rfl (hP _ (Option.some.inj hf).symm)
          · have hf := if_f c25 hf
            refine E_aload_n 4 dX7_relieved_98 (q := 99) rfl rfl rfl ?_
            refine E_bipush (x := 7) dX7_relieved_99 (q := 101) rfl (by decide) ?_
            refine E_iload 1 dX7_relieved_101 (q := 103) rfl rfl ?_
            refine E_iadd dX7_relieved_103 (q := 104) rfl ?_
            refine E_iconst (x := 0) dX7_relieved_104 (q := 105) rfl (by decide) ?_
            obtain ⟨g26, hf⟩ := gd hf
            refine E_iast dX7_relieved_105 (q := 106) rfl (hF2.at 6 rfl) (hF2.lt 6 (Nat.le_of_ble_eq_true rfl)) g26 (up_put (i := 6) (cs' := (mdB γ 93 m_thrown m_trace m_text m_typed m_next m_token m_place m_value m_fault m_many m_sees m_cold m_first m_told (upd m_s (ci (7 + z20)) 0) m_w m_kept m_isKept m_undos m_undoMany m_foundMan m_foundHours m_foundIs m_foundMany m_row m_best)) (Nat.le_of_ble_eq_true rfl) rfl) ?_
            refine E_iload 8 dX7_relieved_106 (q := 108) rfl rfl ?_
            refine E_iconst (x := 1) dX7_relieved_108 (q := 109) rfl (by decide) ?_
            refine E_iload 1 dX7_relieved_109 (q := 111) rfl rfl ?_
            refine E_ishl dX7_relieved_111 (q := 112) rfl ?_
            refine E_ior dX7_relieved_112 (q := 113) rfl ?_
            refine E_istore [(5, .int (v5 ||| ((1 : Int32) <<< (z20 &&& 31)))), (9, .int z21), (8, .int z20), (7, .int ((p2 + ((m_many (ci 0)) - v6)) % (m_many (ci 0)))), (0, .ref (gB γ + 93)), (1, .ref (gB γ + (93 + 6))), (2, .int p2), (3, .int p3), (4, .int v4), (6, .int v6)] dX7_relieved_113 (q := 115) rfl (Nat.le_of_ble_eq_true rfl) rfl ?_
            refine E_aload_n 5 dX7_relieved_115 (q := 116) rfl rfl rfl ?_
            refine E_bipush (x := 7) dX7_relieved_116 (q := 118) rfl (by decide) ?_
            refine E_iload 1 dX7_relieved_118 (q := 120) rfl rfl ?_
            refine E_iadd dX7_relieved_120 (q := 121) rfl ?_
            refine E_iload 3 dX7_relieved_121 (q := 123) rfl rfl ?_
            refine E_iconst (x := 1) dX7_relieved_123 (q := 124) rfl (by decide) ?_
            refine E_iadd dX7_relieved_124 (q := 125) rfl ?_
            obtain ⟨g28, hf⟩ := gd hf
            have hF29 : Has n 93 (mdB γ 93 m_thrown m_trace m_text m_typed m_next m_token m_place m_value m_fault m_many m_sees m_cold m_first m_told (upd m_s (ci (7 + z20)) 0) m_w m_kept m_isKept m_undos m_undoMany m_foundMan m_foundHours m_foundIs m_foundMany m_row m_best) (put 93 (mdB γ 93 m_thrown m_trace m_text m_typed m_next m_token m_place m_value m_fault m_many m_sees m_cold m_first m_told (upd m_s (ci (7 + z20)) 0) m_w m_kept m_isKept m_undos m_undoMany m_foundMan m_foundHours m_foundIs m_foundMany m_row m_best) h) := (has_put hn_m)
            refine E_iast dX7_relieved_125 (q := 126) rfl (hF29.at 6 rfl) (hF29.lt 6 (Nat.le_of_ble_eq_true rfl)) g28 (up_put (i := 6) (cs' := (mdB γ 93 m_thrown m_trace m_text m_typed m_next m_token m_place m_value m_fault m_many m_sees m_cold m_first m_told (upd (upd m_s (ci (7 + z20)) 0) (ci (7 + z21)) (((p2 + ((m_many (ci 0)) - v6)) % (m_many (ci 0))) + 1)) m_w m_kept m_isKept m_undos m_undoMany m_foundMan m_foundHours m_foundIs m_foundMany m_row m_best)) (Nat.le_of_ble_eq_true rfl) rfl) ?_
            refine E_aload_n 5 dX7_relieved_126 (q := 127) rfl rfl rfl ?_
            refine E_bipush (x := 13) dX7_relieved_127 (q := 129) rfl (by decide) ?_
            refine E_iload 3 dX7_relieved_129 (q := 131) rfl rfl ?_
            refine E_iadd dX7_relieved_131 (q := 132) rfl ?_
            refine E_iconst (x := 0) dX7_relieved_132 (q := 133) rfl (by decide) ?_
            have hF31 : Has n 93 (mdB γ 93 m_thrown m_trace m_text m_typed m_next m_token m_place m_value m_fault m_many m_sees m_cold m_first m_told (upd (upd m_s (ci (7 + z20)) 0) (ci (7 + z21)) (((p2 + ((m_many (ci 0)) - v6)) % (m_many (ci 0))) + 1)) m_w m_kept m_isKept m_undos m_undoMany m_foundMan m_foundHours m_foundIs m_foundMany m_row m_best) (put 93 (mdB γ 93 m_thrown m_trace m_text m_typed m_next m_token m_place m_value m_fault m_many m_sees m_cold m_first m_told (upd (upd m_s (ci (7 + z20)) 0) (ci (7 + z21)) (((p2 + ((m_many (ci 0)) - v6)) % (m_many (ci 0))) + 1)) m_w m_kept m_isKept m_undos m_undoMany m_foundMan m_foundHours m_foundIs m_foundMany m_row m_best) h) := (has_put hn_m)
            refine E_iast dX7_relieved_133 (q := 134) rfl (hF31.at 6 rfl) (hF31.lt 6 (Nat.le_of_ble_eq_true rfl)) g23 (up_put (i := 6) (cs' := (mdB γ 93 m_thrown m_trace m_text m_typed m_next m_token m_place m_value m_fault m_many m_sees m_cold m_first m_told (upd (upd (upd m_s (ci (7 + z20)) 0) (ci (7 + z21)) (((p2 + ((m_many (ci 0)) - v6)) % (m_many (ci 0))) + 1)) (ci (13 + ((p2 + ((m_many (ci 0)) - v6)) % (m_many (ci 0))))) 0) m_w m_kept m_isKept m_undos m_undoMany m_foundMan m_foundHours m_foundIs m_foundMany m_row m_best)) (Nat.le_of_ble_eq_true rfl) rfl) ?_
            refine E_iinc 8 [(4, .int (v4 + 1)), (5, .int (v5 ||| ((1 : Int32) <<< (z20 &&& 31)))), (9, .int z21), (8, .int z20), (7, .int ((p2 + ((m_many (ci 0)) - v6)) % (m_many (ci 0)))), (0, .ref (gB γ + 93)), (1, .ref (gB γ + (93 + 6))), (2, .int p2), (3, .int p3), (6, .int v6)] dX7_relieved_134 (q := 137) rfl rfl rfl (Nat.le_of_ble_eq_true rfl) rfl ?_
            refine E_iinc 9 [(6, .int (v6 + 1)), (4, .int (v4 + 1)), (5, .int (v5 ||| ((1 : Int32) <<< (z20 &&& 31)))), (9, .int z21), (8, .int z20), (7, .int ((p2 + ((m_many (ci 0)) - v6)) % (m_many (ci 0)))), (0, .ref (gB γ + 93)), (1, .ref (gB γ + (93 + 6))), (2, .int p2), (3, .int p3)] dX7_relieved_137 (q := 140) rfl rfl rfl (Nat.le_of_ble_eq_true rfl) rfl ?_
            refine E_goto (q := 9) dX7_relieved_140 (by decide) ?_
            exact E_sub [6, 7, 8, 9, 1, 2, 0] rfl (hP _ (Option.some.inj hf).symm)
    · have hf := if_t c4 hf
      refine E_iload 6 dX7_relieved_26 (q := 28) rfl rfl ?_
      refine E_goto (q := 40) dX7_relieved_28 (by decide) ?_
      refine E_iadd dX7_relieved_40 (q := 41) rfl ?_
      refine E_aload_n 0 dX7_relieved_41 (q := 42) rfl rfl rfl ?_
      refine E_get 9 dX7_relieved_42 (q := 45) rfl ckX7 (Nat.le_of_ble_eq_true rfl) fl_X7_13 (hF2.at 0 rfl) (hF2.lt 0 (Nat.le_of_ble_eq_true rfl)) rfl ?_
      refine E_iconst (x := 0) dX7_relieved_45 (q := 46) rfl (by decide) ?_
      refine E_iald dX7_relieved_46 (q := 47) rfl (hF2.at 2 rfl) (hF2.lt 2 (Nat.le_of_ble_eq_true rfl)) (by decide +kernel) ?_
      obtain ⟨g5, hf⟩ := gd hf
      refine E_irem dX7_relieved_47 (q := 48) rfl g5 ?_
      refine E_istore [(7, .int ((p2 + v6) % (m_many (ci 0)))), (0, .ref (gB γ + 93)), (1, .ref (gB γ + (93 + 6))), (2, .int p2), (3, .int p3), (4, .int v4), (5, .int v5), (6, .int v6)] dX7_relieved_48 (q := 50) rfl (Nat.le_of_ble_eq_true rfl) rfl ?_
      refine E_aload_n 1 dX7_relieved_50 (q := 51) rfl rfl rfl ?_
      refine E_aload_n 2 dX7_relieved_51 (q := 52) rfl rfl rfl ?_
      refine E_iload 0 dX7_relieved_52 (q := 54) rfl rfl ?_
      obtain ⟨z6, hxz6, hf⟩ := bnd hf
      refine E_cV (as := [.ref (gB γ + (93 + 6)), .int ((p2 + v6) % (m_many (ci 0)))]) (k := 93) (rest := []) (u' := (0, 0)) (st' := [.int z6]) dX7_relieved_54 (q := 57) rfl lkm_X7_manAt lkv_X7_124 (Nat.le_of_ble_eq_true rfl) ckX7 (hF2.at 0 rfl) (hF2.lt 0 (Nat.le_of_ble_eq_true rfl)) ⟨Nat.le_refl _, Nat.le_refl _⟩ (Nat.le_of_ble_eq_true rfl) rfl rfl (m_X7_manAt_s (N := N)  hF2 hxz6) rfl rfl rfl ?_
      refine E_istore [(8, .int z6), (7, .int ((p2 + v6) % (m_many (ci 0)))), (0, .ref (gB γ + 93)), (1, .ref (gB γ + (93 + 6))), (2, .int p2), (3, .int p3), (4, .int v4), (5, .int v5), (6, .int v6)] dX7_relieved_57 (q := 59) rfl (Nat.le_of_ble_eq_true rfl) rfl ?_
      refine E_aload_n 2 dX7_relieved_59 (q := 60) rfl rfl rfl ?_
      refine E_aload_n 3 dX7_relieved_60 (q := 61) rfl rfl rfl ?_
      refine E_iload 7 dX7_relieved_61 (q := 63) rfl rfl ?_
      obtain ⟨z7, hxz7, hf⟩ := bnd hf
      refine E_cV (as := [.ref (gB γ + (93 + 6)), .int v5]) (k := 93) (rest := []) (u' := (0, 0)) (st' := [.int z7]) dX7_relieved_63 (q := 66) rfl lkm_X7_nextMan lkv_X7_158 (Nat.le_of_ble_eq_true rfl) ckX7 (hF2.at 0 rfl) (hF2.lt 0 (Nat.le_of_ble_eq_true rfl)) ⟨Nat.le_refl _, Nat.le_refl _⟩ (Nat.le_of_ble_eq_true rfl) rfl rfl (m_X7_nextMan_s (N := N)  hF2 hxz7) rfl rfl rfl ?_
      refine E_istore [(9, .int z7), (8, .int z6), (7, .int ((p2 + v6) % (m_many (ci 0)))), (0, .ref (gB γ + 93)), (1, .ref (gB γ + (93 + 6))), (2, .int p2), (3, .int p3), (4, .int v4), (5, .int v5), (6, .int v6)] dX7_relieved_66 (q := 68) rfl (Nat.le_of_ble_eq_true rfl) rfl ?_
      refine E_iload 1 dX7_relieved_68 (q := 70) rfl rfl ?_
      refine E_bipush (x := (-9)) dX7_relieved_70 (q := 72) rfl (by decide) ?_
      refine E_icmp_eq dX7_relieved_72 (t := 137) (by decide) (q := 75) rfl (fun c8 => ?_) (fun c8 => ?_)
      · have hf := if_t c8 hf
        refine E_iinc 9 [(6, .int (v6 + 1)), (9, .int z7), (8, .int z6), (7, .int ((p2 + v6) % (m_many (ci 0)))), (0, .ref (gB γ + 93)), (1, .ref (gB γ + (93 + 6))), (2, .int p2), (3, .int p3), (4, .int v4), (5, .int v5)] dX7_relieved_137 (q := 140) rfl rfl rfl (Nat.le_of_ble_eq_true rfl) rfl ?_
        refine E_goto (q := 9) dX7_relieved_140 (by decide) ?_
        exact E_sub [4, 5, 6, 7, 8, 9, 0] rfl (hP _ (Option.some.inj hf).symm)
      · have hf := if_f c8 hf
        refine E_aload_n 4 dX7_relieved_75 (q := 76) rfl rfl rfl ?_
        refine E_bipush (x := 13) dX7_relieved_76 (q := 78) rfl (by decide) ?_
        refine E_iload 2 dX7_relieved_78 (q := 80) rfl rfl ?_
        refine E_iadd dX7_relieved_80 (q := 81) rfl ?_
        obtain ⟨g9, hf⟩ := gd hf
        refine E_iald dX7_relieved_81 (q := 82) rfl (hF2.at 6 rfl) (hF2.lt 6 (Nat.le_of_ble_eq_true rfl)) g9 ?_
        refine E_aload_n 3 dX7_relieved_82 (q := 83) rfl rfl rfl ?_
        refine E_get 9 dX7_relieved_83 (q := 86) rfl ckX7 (Nat.le_of_ble_eq_true rfl) fl_X7_13 (hF2.at 0 rfl) (hF2.lt 0 (Nat.le_of_ble_eq_true rfl)) rfl ?_
        refine E_iconst (x := 2) dX7_relieved_86 (q := 87) rfl (by decide) ?_
        refine E_iald dX7_relieved_87 (q := 88) rfl (hF2.at 2 rfl) (hF2.lt 2 (Nat.le_of_ble_eq_true rfl)) (by decide +kernel) ?_
        refine E_icmp_lt dX7_relieved_88 (t := 137) (by decide) (q := 91) rfl (fun c10 => ?_) (fun c10 => ?_)
        · have hf := if_t c10 hf
          refine E_iinc 9 [(6, .int (v6 + 1)), (9, .int z7), (8, .int z6), (7, .int ((p2 + v6) % (m_many (ci 0)))), (0, .ref (gB γ + 93)), (1, .ref (gB γ + (93 + 6))), (2, .int p2), (3, .int p3), (4, .int v4), (5, .int v5)] dX7_relieved_137 (q := 140) rfl rfl rfl (Nat.le_of_ble_eq_true rfl) rfl ?_
          refine E_goto (q := 9) dX7_relieved_140 (by decide) ?_
          exact E_sub [4, 5, 6, 7, 8, 9, 0] rfl (hP _ (Option.some.inj hf).symm)
        · have hf := if_f c10 hf
          refine E_iload 0 dX7_relieved_91 (q := 93) rfl rfl ?_
          refine E_bipush (x := (-9)) dX7_relieved_93 (q := 95) rfl (by decide) ?_
          refine E_icmp_eq dX7_relieved_95 (t := 137) (by decide) (q := 98) rfl (fun c11 => ?_) (fun c11 => ?_)
          · have hf := if_t c11 hf
            refine E_iinc 9 [(6, .int (v6 + 1)), (9, .int z7), (8, .int z6), (7, .int ((p2 + v6) % (m_many (ci 0)))), (0, .ref (gB γ + 93)), (1, .ref (gB γ + (93 + 6))), (2, .int p2), (3, .int p3), (4, .int v4), (5, .int v5)] dX7_relieved_137 (q := 140) rfl rfl rfl (Nat.le_of_ble_eq_true rfl) rfl ?_
            refine E_goto (q := 9) dX7_relieved_140 (by decide) ?_
            exact E_sub [4, 5, 6, 7, 8, 9, 0] rfl (hP _ (Option.some.inj hf).symm)
          · have hf := if_f c11 hf
            refine E_aload_n 4 dX7_relieved_98 (q := 99) rfl rfl rfl ?_
            refine E_bipush (x := 7) dX7_relieved_99 (q := 101) rfl (by decide) ?_
            refine E_iload 1 dX7_relieved_101 (q := 103) rfl rfl ?_
            refine E_iadd dX7_relieved_103 (q := 104) rfl ?_
            refine E_iconst (x := 0) dX7_relieved_104 (q := 105) rfl (by decide) ?_
            obtain ⟨g12, hf⟩ := gd hf
            refine E_iast dX7_relieved_105 (q := 106) rfl (hF2.at 6 rfl) (hF2.lt 6 (Nat.le_of_ble_eq_true rfl)) g12 (up_put (i := 6) (cs' := (mdB γ 93 m_thrown m_trace m_text m_typed m_next m_token m_place m_value m_fault m_many m_sees m_cold m_first m_told (upd m_s (ci (7 + z6)) 0) m_w m_kept m_isKept m_undos m_undoMany m_foundMan m_foundHours m_foundIs m_foundMany m_row m_best)) (Nat.le_of_ble_eq_true rfl) rfl) ?_
            refine E_iload 8 dX7_relieved_106 (q := 108) rfl rfl ?_
            refine E_iconst (x := 1) dX7_relieved_108 (q := 109) rfl (by decide) ?_
            refine E_iload 1 dX7_relieved_109 (q := 111) rfl rfl ?_
            refine E_ishl dX7_relieved_111 (q := 112) rfl ?_
            refine E_ior dX7_relieved_112 (q := 113) rfl ?_
            refine E_istore [(5, .int (v5 ||| ((1 : Int32) <<< (z6 &&& 31)))), (9, .int z7), (8, .int z6), (7, .int ((p2 + v6) % (m_many (ci 0)))), (0, .ref (gB γ + 93)), (1, .ref (gB γ + (93 + 6))), (2, .int p2), (3, .int p3), (4, .int v4), (6, .int v6)] dX7_relieved_113 (q := 115) rfl (Nat.le_of_ble_eq_true rfl) rfl ?_
            refine E_aload_n 5 dX7_relieved_115 (q := 116) rfl rfl rfl ?_
            refine E_bipush (x := 7) dX7_relieved_116 (q := 118) rfl (by decide) ?_
            refine E_iload 1 dX7_relieved_118 (q := 120) rfl rfl ?_
            refine E_iadd dX7_relieved_120 (q := 121) rfl ?_
            refine E_iload 3 dX7_relieved_121 (q := 123) rfl rfl ?_
            refine E_iconst (x := 1) dX7_relieved_123 (q := 124) rfl (by decide) ?_
            refine E_iadd dX7_relieved_124 (q := 125) rfl ?_
            obtain ⟨g14, hf⟩ := gd hf
            have hF15 : Has n 93 (mdB γ 93 m_thrown m_trace m_text m_typed m_next m_token m_place m_value m_fault m_many m_sees m_cold m_first m_told (upd m_s (ci (7 + z6)) 0) m_w m_kept m_isKept m_undos m_undoMany m_foundMan m_foundHours m_foundIs m_foundMany m_row m_best) (put 93 (mdB γ 93 m_thrown m_trace m_text m_typed m_next m_token m_place m_value m_fault m_many m_sees m_cold m_first m_told (upd m_s (ci (7 + z6)) 0) m_w m_kept m_isKept m_undos m_undoMany m_foundMan m_foundHours m_foundIs m_foundMany m_row m_best) h) := (has_put hn_m)
            refine E_iast dX7_relieved_125 (q := 126) rfl (hF15.at 6 rfl) (hF15.lt 6 (Nat.le_of_ble_eq_true rfl)) g14 (up_put (i := 6) (cs' := (mdB γ 93 m_thrown m_trace m_text m_typed m_next m_token m_place m_value m_fault m_many m_sees m_cold m_first m_told (upd (upd m_s (ci (7 + z6)) 0) (ci (7 + z7)) (((p2 + v6) % (m_many (ci 0))) + 1)) m_w m_kept m_isKept m_undos m_undoMany m_foundMan m_foundHours m_foundIs m_foundMany m_row m_best)) (Nat.le_of_ble_eq_true rfl) rfl) ?_
            refine E_aload_n 5 dX7_relieved_126 (q := 127) rfl rfl rfl ?_
            refine E_bipush (x := 13) dX7_relieved_127 (q := 129) rfl (by decide) ?_
            refine E_iload 3 dX7_relieved_129 (q := 131) rfl rfl ?_
            refine E_iadd dX7_relieved_131 (q := 132) rfl ?_
            refine E_iconst (x := 0) dX7_relieved_132 (q := 133) rfl (by decide) ?_
            have hF17 : Has n 93 (mdB γ 93 m_thrown m_trace m_text m_typed m_next m_token m_place m_value m_fault m_many m_sees m_cold m_first m_told (upd (upd m_s (ci (7 + z6)) 0) (ci (7 + z7)) (((p2 + v6) % (m_many (ci 0))) + 1)) m_w m_kept m_isKept m_undos m_undoMany m_foundMan m_foundHours m_foundIs m_foundMany m_row m_best) (put 93 (mdB γ 93 m_thrown m_trace m_text m_typed m_next m_token m_place m_value m_fault m_many m_sees m_cold m_first m_told (upd (upd m_s (ci (7 + z6)) 0) (ci (7 + z7)) (((p2 + v6) % (m_many (ci 0))) + 1)) m_w m_kept m_isKept m_undos m_undoMany m_foundMan m_foundHours m_foundIs m_foundMany m_row m_best) h) := (has_put hn_m)
            refine E_iast dX7_relieved_133 (q := 134) rfl (hF17.at 6 rfl) (hF17.lt 6 (Nat.le_of_ble_eq_true rfl)) g9 (up_put (i := 6) (cs' := (mdB γ 93 m_thrown m_trace m_text m_typed m_next m_token m_place m_value m_fault m_many m_sees m_cold m_first m_told (upd (upd (upd m_s (ci (7 + z6)) 0) (ci (7 + z7)) (((p2 + v6) % (m_many (ci 0))) + 1)) (ci (13 + ((p2 + v6) % (m_many (ci 0))))) 0) m_w m_kept m_isKept m_undos m_undoMany m_foundMan m_foundHours m_foundIs m_foundMany m_row m_best)) (Nat.le_of_ble_eq_true rfl) rfl) ?_
            refine E_iinc 8 [(4, .int (v4 + 1)), (5, .int (v5 ||| ((1 : Int32) <<< (z6 &&& 31)))), (9, .int z7), (8, .int z6), (7, .int ((p2 + v6) % (m_many (ci 0)))), (0, .ref (gB γ + 93)), (1, .ref (gB γ + (93 + 6))), (2, .int p2), (3, .int p3), (6, .int v6)] dX7_relieved_134 (q := 137) rfl rfl rfl (Nat.le_of_ble_eq_true rfl) rfl ?_
            refine E_iinc 9 [(6, .int (v6 + 1)), (4, .int (v4 + 1)), (5, .int (v5 ||| ((1 : Int32) <<< (z6 &&& 31)))), (9, .int z7), (8, .int z6), (7, .int ((p2 + v6) % (m_many (ci 0)))), (0, .ref (gB γ + 93)), (1, .ref (gB γ + (93 + 6))), (2, .int p2), (3, .int p3)] dX7_relieved_137 (q := 140) rfl rfl rfl (Nat.le_of_ble_eq_true rfl) rfl ?_
            refine E_goto (q := 9) dX7_relieved_140 (by decide) ?_
            exact E_sub [6, 7, 8, 9, 1, 2, 0] rfl (hP _ (Option.some.inj hf).symm)
set_option maxHeartbeats 4000000 in
set_option maxRecDepth 100000 in
theorem m_X7_relieved_s {γ : GX} {n : Nat} {N : Nat} {h : HP} {a2 : Int32} {a3 : Int32} {m_thrown : Int32} {m_trace : Int64} {m_text : FN} {m_typed : Int32} {m_next : Int32} {m_token : Int32} {m_place : Int32} {m_value : Int32} {m_fault : Int32} {m_many : FN} {m_sees : FN} {m_cold : FN} {m_first : FN} {m_told : Int32} {m_s : FN} {m_w : FN} {m_kept : FN} {m_isKept : FN} {m_undos : FN} {m_undoMany : Int32} {m_foundMan : FN} {m_foundHours : FN} {m_foundIs : FN} {m_foundMany : Int32} {m_row : FN} {m_best : FN} (hH_m : Has n 93 (mdB γ 93 m_thrown m_trace m_text m_typed m_next m_token m_place m_value m_fault m_many m_sees m_cold m_first m_told m_s m_w m_kept m_isKept m_undos m_undoMany m_foundMan m_foundHours m_foundIs m_foundMany m_row m_best) h) {z : Int32 × FN} (hf : f_X7_relieved_s N a2 a3 m_many m_s = some z)  : Ct γ M_X7_relieved n h [.ref (gB γ + 93), .ref (gB γ + (93 + 6)), .int a2, .int a3] (Done (some (.int z.1)) n (put 93 (mdB γ 93 m_thrown m_trace m_text m_typed m_next m_token m_place m_value m_fault m_many m_sees m_cold m_first m_told z.2 m_w m_kept m_isKept m_undos m_undoMany m_foundMan m_foundHours m_foundIs m_foundMany m_row m_best) h)) := by
  have hn_m : 93 + 16 ≤ n := hH_m.1
  refine Ct.heap (h := (put 93 (mdB γ 93 m_thrown m_trace m_text m_typed m_next m_token m_place m_value m_fault m_many m_sees m_cold m_first m_told m_s m_w m_kept m_isKept m_undos m_undoMany m_foundMan m_foundHours m_foundIs m_foundMany m_row m_best) h)) (put_self hH_m).symm ?_
  refine Ct_of_Ev (by decide) (fun h => by cases h) (Nat.le_of_ble_eq_true rfl) ?_
  show Ev γ M_X7_relieved (0, 0) n (put 93 (mdB γ 93 m_thrown m_trace m_text m_typed m_next m_token m_place m_value m_fault m_many m_sees m_cold m_first m_told m_s m_w m_kept m_isKept m_undos m_undoMany m_foundMan m_foundHours m_foundIs m_foundMany m_row m_best) h) [(0, .ref (gB γ + 93)), (1, .ref (gB γ + (93 + 6))), (2, .int a2), (3, .int a3)] 0 [] _
  unfold f_X7_relieved_s at hf
  refine E_iconst (x := 0) dX7_relieved_0 (q := 1) rfl (by decide) ?_
  refine E_istore [(4, .int 0), (0, .ref (gB γ + 93)), (1, .ref (gB γ + (93 + 6))), (2, .int a2), (3, .int a3)] dX7_relieved_1 (q := 3) rfl (Nat.le_of_ble_eq_true rfl) rfl ?_
  refine E_iconst (x := 0) dX7_relieved_3 (q := 4) rfl (by decide) ?_
  refine E_istore [(5, .int 0), (4, .int 0), (0, .ref (gB γ + 93)), (1, .ref (gB γ + (93 + 6))), (2, .int a2), (3, .int a3)] dX7_relieved_4 (q := 6) rfl (Nat.le_of_ble_eq_true rfl) rfl ?_
  refine E_iconst (x := 0) dX7_relieved_6 (q := 7) rfl (by decide) ?_
  refine E_istore [(6, .int 0), (5, .int 0), (4, .int 0), (0, .ref (gB γ + 93)), (1, .ref (gB γ + (93 + 6))), (2, .int a2), (3, .int a3)] dX7_relieved_7 (q := 9) rfl (Nat.le_of_ble_eq_true rfl) rfl ?_
  obtain ⟨t33, hxt33, hf⟩ := bnd hf
  refine E_sub [3, 4, 5, 6, 2, 1, 0] rfl ?_
  refine L_X7_relieved_s_1 hn_m hxt33 ?_
  show Ev γ M_X7_relieved _ n (put 93 (mdB γ 93 m_thrown m_trace m_text m_typed m_next m_token m_place m_value m_fault m_many m_sees m_cold m_first m_told t33.2 m_w m_kept m_isKept m_undos m_undoMany m_foundMan m_foundHours m_foundIs m_foundMany m_row m_best) h) [(4, .int t33.1)] 143 [] _
  refine E_iload 0 dX7_relieved_143 (q := 145) rfl rfl ?_
  obtain rfl := Option.some.inj hf
  exact E_iret dX7_relieved_145 rfl ⟨rfl, rfl, rfl⟩

-- PostReliefModel.relieved([III)I
def b_X7_relieved_w_1 (N : Nat) (p2 : Int32) (p3 : Int32) (m_many : FN) (v4 : Int32) (v5 : Int32) (v6 : Int32) (m_w : FN) : Option ((Int32 × Int32 × Int32 × FN) ⊕ (Int32 × FN)) :=
  (if (m_many (ci 0)) ≤ v6 then some (.inr (v4, m_w)) else (if p3 = 1 then (if ¬ (m_many (ci 0)) = 0 then ((f_X7_manAt_w N ((p2 + v6) % (m_many (ci 0))) m_many m_w).bind fun z6 => ((f_X7_nextMan_w N v5 m_many m_w).bind fun z7 => (if z6 = (-9) then some (.inl (v4, v5, (v6 + 1), m_w)) else (if ix (13 + ((p2 + v6) % (m_many (ci 0)))) 48 = true then (if (m_w (ci (13 + ((p2 + v6) % (m_many (ci 0)))))) < (m_many (ci 2)) then some (.inl (v4, v5, (v6 + 1), m_w)) else (if z7 = (-9) then some (.inl (v4, v5, (v6 + 1), m_w)) else (if ix (7 + z6) 48 = true then (if ix (7 + z7) 48 = true then some (.inl ((v4 + 1), (v5 ||| ((1 : Int32) <<< (z6 &&& 31))), (v6 + 1), (upd (upd (upd m_w (ci (7 + z6)) 0) (ci (7 + z7)) (((p2 + v6) % (m_many (ci 0))) + 1)) (ci (13 + ((p2 + v6) % (m_many (ci 0))))) 0))) else none) else none))) else none)))) else none) else (if ¬ (m_many (ci 0)) = 0 then ((f_X7_manAt_w N ((p2 + ((m_many (ci 0)) - v6)) % (m_many (ci 0))) m_many m_w).bind fun z20 => ((f_X7_nextMan_w N v5 m_many m_w).bind fun z21 => (if z20 = (-9) then some (.inl (v4, v5, (v6 + 1), m_w)) else (if ix (13 + ((p2 + ((m_many (ci 0)) - v6)) % (m_many (ci 0)))) 48 = true then (if (m_w (ci (13 + ((p2 + ((m_many (ci 0)) - v6)) % (m_many (ci 0)))))) < (m_many (ci 2)) then some (.inl (v4, v5, (v6 + 1), m_w)) else (if z21 = (-9) then some (.inl (v4, v5, (v6 + 1), m_w)) else (if ix (7 + z20) 48 = true then (if ix (7 + z21) 48 = true then some (.inl ((v4 + 1), (v5 ||| ((1 : Int32) <<< (z20 &&& 31))), (v6 + 1), (upd (upd (upd m_w (ci (7 + z20)) 0) (ci (7 + z21)) (((p2 + ((m_many (ci 0)) - v6)) % (m_many (ci 0))) + 1)) (ci (13 + ((p2 + ((m_many (ci 0)) - v6)) % (m_many (ci 0))))) 0))) else none) else none))) else none)))) else none)))
def f_X7_relieved_w (N : Nat) (a2 : Int32) (a3 : Int32) (m_many : FN) (m_w : FN) : Option (Int32 × FN) :=
  ((lp (fun s => b_X7_relieved_w_1 N a2 a3 m_many s.1 s.2.1 s.2.2.1 s.2.2.2) N (0, 0, 0, m_w)).bind fun t33 => some (t33.1, t33.2))
set_option maxHeartbeats 4000000 in
set_option maxRecDepth 100000 in
theorem L_X7_relieved_w_1 {γ : GX} {n : Nat} {h : HP} {Ψ : PS} {N : Nat} {p2 : Int32} {p3 : Int32} {m_thrown : Int32} {m_trace : Int64} {m_text : FN} {m_typed : Int32} {m_next : Int32} {m_token : Int32} {m_place : Int32} {m_value : Int32} {m_fault : Int32} {m_many : FN} {m_sees : FN} {m_cold : FN} {m_first : FN} {m_told : Int32} {m_s : FN} {m_kept : FN} {m_isKept : FN} {m_undos : FN} {m_undoMany : Int32} {m_foundMan : FN} {m_foundHours : FN} {m_foundIs : FN} {m_foundMany : Int32} {m_row : FN} {m_best : FN} (hn_m : 93 + 16 ≤ n) {s0 : Int32 × Int32 × Int32 × FN} {t : Int32 × FN} (hf : lp (fun s => b_X7_relieved_w_1 N p2 p3 m_many s.1 s.2.1 s.2.2.1 s.2.2.2) N s0 = some t) (K : Ev γ M_X7_relieved (0, 0) n (put 93 (mdB γ 93 m_thrown m_trace m_text m_typed m_next m_token m_place m_value m_fault m_many m_sees m_cold m_first m_told m_s t.2 m_kept m_isKept m_undos m_undoMany m_foundMan m_foundHours m_foundIs m_foundMany m_row m_best) h) [(4, .int t.1)] 143 [] Ψ) : Ev γ M_X7_relieved (0, 0) n (put 93 (mdB γ 93 m_thrown m_trace m_text m_typed m_next m_token m_place m_value m_fault m_many m_sees m_cold m_first m_told m_s s0.2.2.2 m_kept m_isKept m_undos m_undoMany m_foundMan m_foundHours m_foundIs m_foundMany m_row m_best) h) [(0, .ref (gB γ + 93)), (1, .ref (gB γ + (93 + 7))), (2, .int p2), (3, .int p3), (4, .int s0.1), (5, .int s0.2.1), (6, .int s0.2.2.1)] 9 [] Ψ := by
  refine E_lp (P := fun s => Ev γ M_X7_relieved (0, 0) n (put 93 (mdB γ 93 m_thrown m_trace m_text m_typed m_next m_token m_place m_value m_fault m_many m_sees m_cold m_first m_told m_s s.2.2.2 m_kept m_isKept m_undos m_undoMany m_foundMan m_foundHours m_foundIs m_foundMany m_row m_best) h) [(0, .ref (gB γ + 93)), (1, .ref (gB γ + (93 + 7))), (2, .int p2), (3, .int p3), (4, .int s.1), (5, .int s.2.1), (6, .int s.2.2.1)] 9 [] Ψ) (K := fun t => Ev γ M_X7_relieved (0, 0) n (put 93 (mdB γ 93 m_thrown m_trace m_text m_typed m_next m_token m_place m_value m_fault m_many m_sees m_cold m_first m_told m_s t.2 m_kept m_isKept m_undos m_undoMany m_foundMan m_foundHours m_foundIs m_foundMany m_row m_best) h) [(4, .int t.1)] 143 [] Ψ) ?_ N s0 t hf K
  intro s r hf hP hK
  obtain ⟨v4, v5, v6, m_w⟩ := s
  change b_X7_relieved_w_1 N p2 p3 m_many v4 v5 v6 m_w = some r at hf
  unfold b_X7_relieved_w_1 at hf
  show Ev γ M_X7_relieved (0, 0) n (put 93 (mdB γ 93 m_thrown m_trace m_text m_typed m_next m_token m_place m_value m_fault m_many m_sees m_cold m_first m_told m_s m_w m_kept m_isKept m_undos m_undoMany m_foundMan m_foundHours m_foundIs m_foundMany m_row m_best) h) [(0, .ref (gB γ + 93)), (1, .ref (gB γ + (93 + 7))), (2, .int p2), (3, .int p3), (4, .int v4), (5, .int v5), (6, .int v6)] 9 [] Ψ
  refine E_iload 6 dX7_relieved_9 (q := 11) rfl rfl ?_
  refine E_aload_n 0 dX7_relieved_11 (q := 12) rfl rfl rfl ?_
  have hF2 : Has n 93 (mdB γ 93 m_thrown m_trace m_text m_typed m_next m_token m_place m_value m_fault m_many m_sees m_cold m_first m_told m_s m_w m_kept m_isKept m_undos m_undoMany m_foundMan m_foundHours m_foundIs m_foundMany m_row m_best) (put 93 (mdB γ 93 m_thrown m_trace m_text m_typed m_next m_token m_place m_value m_fault m_many m_sees m_cold m_first m_told m_s m_w m_kept m_isKept m_undos m_undoMany m_foundMan m_foundHours m_foundIs m_foundMany m_row m_best) h) := (has_put hn_m)
  refine E_get 9 dX7_relieved_12 (q := 15) rfl ckX7 (Nat.le_of_ble_eq_true rfl) fl_X7_13 (hF2.at 0 rfl) (hF2.lt 0 (Nat.le_of_ble_eq_true rfl)) rfl ?_
  refine E_iconst (x := 0) dX7_relieved_15 (q := 16) rfl (by decide) ?_
  refine E_iald dX7_relieved_16 (q := 17) rfl (hF2.at 2 rfl) (hF2.lt 2 (Nat.le_of_ble_eq_true rfl)) (by decide +kernel) ?_
  refine E_icmp_ge dX7_relieved_17 (t := 143) (by decide) (q := 20) rfl (fun c3 => ?_) (fun c3 => ?_)
  · have hf := if_t c3 hf
    exact E_sub [4] rfl (hK _ (Option.some.inj hf).symm)
  · have hf := if_f c3 hf
    refine E_iload_n 2 dX7_relieved_20 (q := 21) rfl rfl rfl ?_
    refine E_iload_n 3 dX7_relieved_21 (q := 22) rfl rfl rfl ?_
    refine E_iconst (x := 1) dX7_relieved_22 (q := 23) rfl (by decide) ?_
    refine E_icmp_ne dX7_relieved_23 (t := 31) (by decide) (q := 26) rfl (fun c4 => ?_) (fun c4 => ?_)
    · have hf := if_f c4 hf
      refine E_aload_n 0 dX7_relieved_31 (q := 32) rfl rfl rfl ?_
      refine E_get 9 dX7_relieved_32 (q := 35) rfl ckX7 (Nat.le_of_ble_eq_true rfl) fl_X7_13 (hF2.at 0 rfl) (hF2.lt 0 (Nat.le_of_ble_eq_true rfl)) rfl ?_
      refine E_iconst (x := 0) dX7_relieved_35 (q := 36) rfl (by decide) ?_
      refine E_iald dX7_relieved_36 (q := 37) rfl (hF2.at 2 rfl) (hF2.lt 2 (Nat.le_of_ble_eq_true rfl)) (by decide +kernel) ?_
      refine E_iload 6 dX7_relieved_37 (q := 39) rfl rfl ?_
      refine E_isub dX7_relieved_39 (q := 40) rfl ?_
      refine E_iadd dX7_relieved_40 (q := 41) rfl ?_
      refine E_aload_n 0 dX7_relieved_41 (q := 42) rfl rfl rfl ?_
      refine E_get 9 dX7_relieved_42 (q := 45) rfl ckX7 (Nat.le_of_ble_eq_true rfl) fl_X7_13 (hF2.at 0 rfl) (hF2.lt 0 (Nat.le_of_ble_eq_true rfl)) rfl ?_
      refine E_iconst (x := 0) dX7_relieved_45 (q := 46) rfl (by decide) ?_
      refine E_iald dX7_relieved_46 (q := 47) rfl (hF2.at 2 rfl) (hF2.lt 2 (Nat.le_of_ble_eq_true rfl)) (by decide +kernel) ?_
      obtain ⟨g19, hf⟩ := gd hf
      refine E_irem dX7_relieved_47 (q := 48) rfl g19 ?_
      refine E_istore [(7, .int ((p2 + ((m_many (ci 0)) - v6)) % (m_many (ci 0)))), (0, .ref (gB γ + 93)), (1, .ref (gB γ + (93 + 7))), (2, .int p2), (3, .int p3), (4, .int v4), (5, .int v5), (6, .int v6)] dX7_relieved_48 (q := 50) rfl (Nat.le_of_ble_eq_true rfl) rfl ?_
      refine E_aload_n 1 dX7_relieved_50 (q := 51) rfl rfl rfl ?_
      refine E_aload_n 2 dX7_relieved_51 (q := 52) rfl rfl rfl ?_
      refine E_iload 0 dX7_relieved_52 (q := 54) rfl rfl ?_
      obtain ⟨z20, hxz20, hf⟩ := bnd hf
      refine E_cV (as := [.ref (gB γ + (93 + 7)), .int ((p2 + ((m_many (ci 0)) - v6)) % (m_many (ci 0)))]) (k := 93) (rest := []) (u' := (0, 0)) (st' := [.int z20]) dX7_relieved_54 (q := 57) rfl lkm_X7_manAt lkv_X7_124 (Nat.le_of_ble_eq_true rfl) ckX7 (hF2.at 0 rfl) (hF2.lt 0 (Nat.le_of_ble_eq_true rfl)) ⟨Nat.le_refl _, Nat.le_refl _⟩ (Nat.le_of_ble_eq_true rfl) rfl rfl (m_X7_manAt_w (N := N)  hF2 hxz20) rfl rfl rfl ?_
      refine E_istore [(8, .int z20), (7, .int ((p2 + ((m_many (ci 0)) - v6)) % (m_many (ci 0)))), (0, .ref (gB γ + 93)), (1, .ref (gB γ + (93 + 7))), (2, .int p2), (3, .int p3), (4, .int v4), (5, .int v5), (6, .int v6)] dX7_relieved_57 (q := 59) rfl (Nat.le_of_ble_eq_true rfl) rfl ?_
      refine E_aload_n 2 dX7_relieved_59 (q := 60) rfl rfl rfl ?_
      refine E_aload_n 3 dX7_relieved_60 (q := 61) rfl rfl rfl ?_
      refine E_iload 7 dX7_relieved_61 (q := 63) rfl rfl ?_
      obtain ⟨z21, hxz21, hf⟩ := bnd hf
      refine E_cV (as := [.ref (gB γ + (93 + 7)), .int v5]) (k := 93) (rest := []) (u' := (0, 0)) (st' := [.int z21]) dX7_relieved_63 (q := 66) rfl lkm_X7_nextMan lkv_X7_158 (Nat.le_of_ble_eq_true rfl) ckX7 (hF2.at 0 rfl) (hF2.lt 0 (Nat.le_of_ble_eq_true rfl)) ⟨Nat.le_refl _, Nat.le_refl _⟩ (Nat.le_of_ble_eq_true rfl) rfl rfl (m_X7_nextMan_w (N := N)  hF2 hxz21) rfl rfl rfl ?_
      refine E_istore [(9, .int z21), (8, .int z20), (7, .int ((p2 + ((m_many (ci 0)) - v6)) % (m_many (ci 0)))), (0, .ref (gB γ + 93)), (1, .ref (gB γ + (93 + 7))), (2, .int p2), (3, .int p3), (4, .int v4), (5, .int v5), (6, .int v6)] dX7_relieved_66 (q := 68) rfl (Nat.le_of_ble_eq_true rfl) rfl ?_
      refine E_iload 1 dX7_relieved_68 (q := 70) rfl rfl ?_
      refine E_bipush (x := (-9)) dX7_relieved_70 (q := 72) rfl (by decide) ?_
      refine E_icmp_eq dX7_relieved_72 (t := 137) (by decide) (q := 75) rfl (fun c22 => ?_) (fun c22 => ?_)
      · have hf := if_t c22 hf
        refine E_iinc 9 [(6, .int (v6 + 1)), (9, .int z21), (8, .int z20), (7, .int ((p2 + ((m_many (ci 0)) - v6)) % (m_many (ci 0)))), (0, .ref (gB γ + 93)), (1, .ref (gB γ + (93 + 7))), (2, .int p2), (3, .int p3), (4, .int v4), (5, .int v5)] dX7_relieved_137 (q := 140) rfl rfl rfl (Nat.le_of_ble_eq_true rfl) rfl ?_
        refine E_goto (q := 9) dX7_relieved_140 (by decide) ?_
        exact E_sub [4, 5, 6, 7, 8, 9, 0] rfl (hP _ (Option.some.inj hf).symm)
      · have hf := if_f c22 hf
        refine E_aload_n 4 dX7_relieved_75 (q := 76) rfl rfl rfl ?_
        refine E_bipush (x := 13) dX7_relieved_76 (q := 78) rfl (by decide) ?_
        refine E_iload 2 dX7_relieved_78 (q := 80) rfl rfl ?_
        refine E_iadd dX7_relieved_80 (q := 81) rfl ?_
        obtain ⟨g23, hf⟩ := gd hf
        refine E_iald dX7_relieved_81 (q := 82) rfl (hF2.at 7 rfl) (hF2.lt 7 (Nat.le_of_ble_eq_true rfl)) g23 ?_
        refine E_aload_n 3 dX7_relieved_82 (q := 83) rfl rfl rfl ?_
        refine E_get 9 dX7_relieved_83 (q := 86) rfl ckX7 (Nat.le_of_ble_eq_true rfl) fl_X7_13 (hF2.at 0 rfl) (hF2.lt 0 (Nat.le_of_ble_eq_true rfl)) rfl ?_
        refine E_iconst (x := 2) dX7_relieved_86 (q := 87) rfl (by decide) ?_
        refine E_iald dX7_relieved_87 (q := 88) rfl (hF2.at 2 rfl) (hF2.lt 2 (Nat.le_of_ble_eq_true rfl)) (by decide +kernel) ?_
        refine E_icmp_lt dX7_relieved_88 (t := 137) (by decide) (q := 91) rfl (fun c24 => ?_) (fun c24 => ?_)
        · have hf := if_t c24 hf
          refine E_iinc 9 [(6, .int (v6 + 1)), (9, .int z21), (8, .int z20), (7, .int ((p2 + ((m_many (ci 0)) - v6)) % (m_many (ci 0)))), (0, .ref (gB γ + 93)), (1, .ref (gB γ + (93 + 7))), (2, .int p2), (3, .int p3), (4, .int v4), (5, .int v5)] dX7_relieved_137 (q := 140) rfl rfl rfl (Nat.le_of_ble_eq_true rfl) rfl ?_
          refine E_goto (q := 9) dX7_relieved_140 (by decide) ?_
          exact E_sub [4, 5, 6, 7, 8, 9, 0] rfl (hP _ (Option.some.inj hf).symm)
        · have hf := if_f c24 hf
          refine E_iload 0 dX7_relieved_91 (q := 93) rfl rfl ?_
          refine E_bipush (x := (-9)) dX7_relieved_93 (q := 95) rfl (by decide) ?_
          refine E_icmp_eq dX7_relieved_95 (t := 137) (by decide) (q := 98) rfl (fun c25 => ?_) (fun c25 => ?_)
          · have hf := if_t c25 hf
            refine E_iinc 9 [(6, .int (v6 + 1)), (9, .int z21), (8, .int z20), (7, .int ((p2 + ((m_many (ci 0)) - v6)) % (m_many (ci 0)))), (0, .ref (gB γ + 93)), (1, .ref (gB γ + (93 + 7))), (2, .int p2), (3, .int p3), (4, .int v4), (5, .int v5)] dX7_relieved_137 (q := 140) rfl rfl rfl (Nat.le_of_ble_eq_true rfl) rfl ?_
            refine E_goto (q := 9) dX7_relieved_140 (by decide) ?_
            exact E_sub [4, 5, 6, 7, 8, 9, 0] rfl (hP _ (Option.some.inj hf).symm)
          · have hf := if_f c25 hf
            refine E_aload_n 4 dX7_relieved_98 (q := 99) rfl rfl rfl ?_
            refine E_bipush (x := 7) dX7_relieved_99 (q := 101) rfl (by decide) ?_
            refine E_iload 1 dX7_relieved_101 (q := 103) rfl rfl ?_
            refine E_iadd dX7_relieved_103 (q := 104) rfl ?_
            refine E_iconst (x := 0) dX7_relieved_104 (q := 105) rfl (by decide) ?_
            obtain ⟨g26, hf⟩ := gd hf
            refine E_iast dX7_relieved_105 (q := 106) rfl (hF2.at 7 rfl) (hF2.lt 7 (Nat.le_of_ble_eq_true rfl)) g26 (up_put (i := 7) (cs' := (mdB γ 93 m_thrown m_trace m_text m_typed m_next m_token m_place m_value m_fault m_many m_sees m_cold m_first m_told m_s (upd m_w (ci (7 + z20)) 0) m_kept m_isKept m_undos m_undoMany m_foundMan m_foundHours m_foundIs m_foundMany m_row m_best)) (Nat.le_of_ble_eq_true rfl) rfl) ?_
            refine E_iload 8 dX7_relieved_106 (q := 108) rfl rfl ?_
            refine E_iconst (x := 1) dX7_relieved_108 (q := 109) rfl (by decide) ?_
            refine E_iload 1 dX7_relieved_109 (q := 111) rfl rfl ?_
            refine E_ishl dX7_relieved_111 (q := 112) rfl ?_
            refine E_ior dX7_relieved_112 (q := 113) rfl ?_
            refine E_istore [(5, .int (v5 ||| ((1 : Int32) <<< (z20 &&& 31)))), (9, .int z21), (8, .int z20), (7, .int ((p2 + ((m_many (ci 0)) - v6)) % (m_many (ci 0)))), (0, .ref (gB γ + 93)), (1, .ref (gB γ + (93 + 7))), (2, .int p2), (3, .int p3), (4, .int v4), (6, .int v6)] dX7_relieved_113 (q := 115) rfl (Nat.le_of_ble_eq_true rfl) rfl ?_
            refine E_aload_n 5 dX7_relieved_115 (q := 116) rfl rfl rfl ?_
            refine E_bipush (x := 7) dX7_relieved_116 (q := 118) rfl (by decide) ?_
            refine E_iload 1 dX7_relieved_118 (q := 120) rfl rfl ?_
            refine E_iadd dX7_relieved_120 (q := 121) rfl ?_
            refine E_iload 3 dX7_relieved_121 (q := 123) rfl rfl ?_
            refine E_iconst (x := 1) dX7_relieved_123 (q := 124) rfl (by decide) ?_
            refine E_iadd dX7_relieved_124 (q := 125) rfl ?_
            obtain ⟨g28, hf⟩ := gd hf
            have hF29 : Has n 93 (mdB γ 93 m_thrown m_trace m_text m_typed m_next m_token m_place m_value m_fault m_many m_sees m_cold m_first m_told m_s (upd m_w (ci (7 + z20)) 0) m_kept m_isKept m_undos m_undoMany m_foundMan m_foundHours m_foundIs m_foundMany m_row m_best) (put 93 (mdB γ 93 m_thrown m_trace m_text m_typed m_next m_token m_place m_value m_fault m_many m_sees m_cold m_first m_told m_s (upd m_w (ci (7 + z20)) 0) m_kept m_isKept m_undos m_undoMany m_foundMan m_foundHours m_foundIs m_foundMany m_row m_best) h) := (has_put hn_m)
            refine E_iast dX7_relieved_125 (q := 126) rfl (hF29.at 7 rfl) (hF29.lt 7 (Nat.le_of_ble_eq_true rfl)) g28 (up_put (i := 7) (cs' := (mdB γ 93 m_thrown m_trace m_text m_typed m_next m_token m_place m_value m_fault m_many m_sees m_cold m_first m_told m_s (upd (upd m_w (ci (7 + z20)) 0) (ci (7 + z21)) (((p2 + ((m_many (ci 0)) - v6)) % (m_many (ci 0))) + 1)) m_kept m_isKept m_undos m_undoMany m_foundMan m_foundHours m_foundIs m_foundMany m_row m_best)) (Nat.le_of_ble_eq_true rfl) rfl) ?_
            refine E_aload_n 5 dX7_relieved_126 (q := 127) rfl rfl rfl ?_
            refine E_bipush (x := 13) dX7_relieved_127 (q := 129) rfl (by decide) ?_
            refine E_iload 3 dX7_relieved_129 (q := 131) rfl rfl ?_
            refine E_iadd dX7_relieved_131 (q := 132) rfl ?_
            refine E_iconst (x := 0) dX7_relieved_132 (q := 133) rfl (by decide) ?_
            have hF31 : Has n 93 (mdB γ 93 m_thrown m_trace m_text m_typed m_next m_token m_place m_value m_fault m_many m_sees m_cold m_first m_told m_s (upd (upd m_w (ci (7 + z20)) 0) (ci (7 + z21)) (((p2 + ((m_many (ci 0)) - v6)) % (m_many (ci 0))) + 1)) m_kept m_isKept m_undos m_undoMany m_foundMan m_foundHours m_foundIs m_foundMany m_row m_best) (put 93 (mdB γ 93 m_thrown m_trace m_text m_typed m_next m_token m_place m_value m_fault m_many m_sees m_cold m_first m_told m_s (upd (upd m_w (ci (7 + z20)) 0) (ci (7 + z21)) (((p2 + ((m_many (ci 0)) - v6)) % (m_many (ci 0))) + 1)) m_kept m_isKept m_undos m_undoMany m_foundMan m_foundHours m_foundIs m_foundMany m_row m_best) h) := (has_put hn_m)
            refine E_iast dX7_relieved_133 (q := 134) rfl (hF31.at 7 rfl) (hF31.lt 7 (Nat.le_of_ble_eq_true rfl)) g23 (up_put (i := 7) (cs' := (mdB γ 93 m_thrown m_trace m_text m_typed m_next m_token m_place m_value m_fault m_many m_sees m_cold m_first m_told m_s (upd (upd (upd m_w (ci (7 + z20)) 0) (ci (7 + z21)) (((p2 + ((m_many (ci 0)) - v6)) % (m_many (ci 0))) + 1)) (ci (13 + ((p2 + ((m_many (ci 0)) - v6)) % (m_many (ci 0))))) 0) m_kept m_isKept m_undos m_undoMany m_foundMan m_foundHours m_foundIs m_foundMany m_row m_best)) (Nat.le_of_ble_eq_true rfl) rfl) ?_
            refine E_iinc 8 [(4, .int (v4 + 1)), (5, .int (v5 ||| ((1 : Int32) <<< (z20 &&& 31)))), (9, .int z21), (8, .int z20), (7, .int ((p2 + ((m_many (ci 0)) - v6)) % (m_many (ci 0)))), (0, .ref (gB γ + 93)), (1, .ref (gB γ + (93 + 7))), (2, .int p2), (3, .int p3), (6, .int v6)] dX7_relieved_134 (q := 137) rfl rfl rfl (Nat.le_of_ble_eq_true rfl) rfl ?_
            refine E_iinc 9 [(6, .int (v6 + 1)), (4, .int (v4 + 1)), (5, .int (v5 ||| ((1 : Int32) <<< (z20 &&& 31)))), (9, .int z21), (8, .int z20), (7, .int ((p2 + ((m_many (ci 0)) - v6)) % (m_many (ci 0)))), (0, .ref (gB γ + 93)), (1, .ref (gB γ + (93 + 7))), (2, .int p2), (3, .int p3)] dX7_relieved_137 (q := 140) rfl rfl rfl (Nat.le_of_ble_eq_true rfl) rfl ?_
            refine E_goto (q := 9) dX7_relieved_140 (by decide) ?_
            exact E_sub [6, 7, 8, 9, 1, 2, 0] rfl (hP _ (Option.some.inj hf).symm)
    · have hf := if_t c4 hf
      refine E_iload 6 dX7_relieved_26 (q := 28) rfl rfl ?_
      refine E_goto (q := 40) dX7_relieved_28 (by decide) ?_
      refine E_iadd dX7_relieved_40 (q := 41) rfl ?_
      refine E_aload_n 0 dX7_relieved_41 (q := 42) rfl rfl rfl ?_
      refine E_get 9 dX7_relieved_42 (q := 45) rfl ckX7 (Nat.le_of_ble_eq_true rfl) fl_X7_13 (hF2.at 0 rfl) (hF2.lt 0 (Nat.le_of_ble_eq_true rfl)) rfl ?_
      refine E_iconst (x := 0) dX7_relieved_45 (q := 46) rfl (by decide) ?_
      refine E_iald dX7_relieved_46 (q := 47) rfl (hF2.at 2 rfl) (hF2.lt 2 (Nat.le_of_ble_eq_true rfl)) (by decide +kernel) ?_
      obtain ⟨g5, hf⟩ := gd hf
      refine E_irem dX7_relieved_47 (q := 48) rfl g5 ?_
      refine E_istore [(7, .int ((p2 + v6) % (m_many (ci 0)))), (0, .ref (gB γ + 93)), (1, .ref (gB γ + (93 + 7))), (2, .int p2), (3, .int p3), (4, .int v4), (5, .int v5), (6, .int v6)] dX7_relieved_48 (q := 50) rfl (Nat.le_of_ble_eq_true rfl) rfl ?_
      refine E_aload_n 1 dX7_relieved_50 (q := 51) rfl rfl rfl ?_
      refine E_aload_n 2 dX7_relieved_51 (q := 52) rfl rfl rfl ?_
      refine E_iload 0 dX7_relieved_52 (q := 54) rfl rfl ?_
      obtain ⟨z6, hxz6, hf⟩ := bnd hf
      refine E_cV (as := [.ref (gB γ + (93 + 7)), .int ((p2 + v6) % (m_many (ci 0)))]) (k := 93) (rest := []) (u' := (0, 0)) (st' := [.int z6]) dX7_relieved_54 (q := 57) rfl lkm_X7_manAt lkv_X7_124 (Nat.le_of_ble_eq_true rfl) ckX7 (hF2.at 0 rfl) (hF2.lt 0 (Nat.le_of_ble_eq_true rfl)) ⟨Nat.le_refl _, Nat.le_refl _⟩ (Nat.le_of_ble_eq_true rfl) rfl rfl (m_X7_manAt_w (N := N)  hF2 hxz6) rfl rfl rfl ?_
      refine E_istore [(8, .int z6), (7, .int ((p2 + v6) % (m_many (ci 0)))), (0, .ref (gB γ + 93)), (1, .ref (gB γ + (93 + 7))), (2, .int p2), (3, .int p3), (4, .int v4), (5, .int v5), (6, .int v6)] dX7_relieved_57 (q := 59) rfl (Nat.le_of_ble_eq_true rfl) rfl ?_
      refine E_aload_n 2 dX7_relieved_59 (q := 60) rfl rfl rfl ?_
      refine E_aload_n 3 dX7_relieved_60 (q := 61) rfl rfl rfl ?_
      refine E_iload 7 dX7_relieved_61 (q := 63) rfl rfl ?_
      obtain ⟨z7, hxz7, hf⟩ := bnd hf
      refine E_cV (as := [.ref (gB γ + (93 + 7)), .int v5]) (k := 93) (rest := []) (u' := (0, 0)) (st' := [.int z7]) dX7_relieved_63 (q := 66) rfl lkm_X7_nextMan lkv_X7_158 (Nat.le_of_ble_eq_true rfl) ckX7 (hF2.at 0 rfl) (hF2.lt 0 (Nat.le_of_ble_eq_true rfl)) ⟨Nat.le_refl _, Nat.le_refl _⟩ (Nat.le_of_ble_eq_true rfl) rfl rfl (m_X7_nextMan_w (N := N)  hF2 hxz7) rfl rfl rfl ?_
      refine E_istore [(9, .int z7), (8, .int z6), (7, .int ((p2 + v6) % (m_many (ci 0)))), (0, .ref (gB γ + 93)), (1, .ref (gB γ + (93 + 7))), (2, .int p2), (3, .int p3), (4, .int v4), (5, .int v5), (6, .int v6)] dX7_relieved_66 (q := 68) rfl (Nat.le_of_ble_eq_true rfl) rfl ?_
      refine E_iload 1 dX7_relieved_68 (q := 70) rfl rfl ?_
      refine E_bipush (x := (-9)) dX7_relieved_70 (q := 72) rfl (by decide) ?_
      refine E_icmp_eq dX7_relieved_72 (t := 137) (by decide) (q := 75) rfl (fun c8 => ?_) (fun c8 => ?_)
      · have hf := if_t c8 hf
        refine E_iinc 9 [(6, .int (v6 + 1)), (9, .int z7), (8, .int z6), (7, .int ((p2 + v6) % (m_many (ci 0)))), (0, .ref (gB γ + 93)), (1, .ref (gB γ + (93 + 7))), (2, .int p2), (3, .int p3), (4, .int v4), (5, .int v5)] dX7_relieved_137 (q := 140) rfl rfl rfl (Nat.le_of_ble_eq_true rfl) rfl ?_
        refine E_goto (q := 9) dX7_relieved_140 (by decide) ?_
        exact E_sub [4, 5, 6, 7, 8, 9, 0] rfl (hP _ (Option.some.inj hf).symm)
      · have hf := if_f c8 hf
        refine E_aload_n 4 dX7_relieved_75 (q := 76) rfl rfl rfl ?_
        refine E_bipush (x := 13) dX7_relieved_76 (q := 78) rfl (by decide) ?_
        refine E_iload 2 dX7_relieved_78 (q := 80) rfl rfl ?_
        refine E_iadd dX7_relieved_80 (q := 81) rfl ?_
        obtain ⟨g9, hf⟩ := gd hf
        refine E_iald dX7_relieved_81 (q := 82) rfl (hF2.at 7 rfl) (hF2.lt 7 (Nat.le_of_ble_eq_true rfl)) g9 ?_
        refine E_aload_n 3 dX7_relieved_82 (q := 83) rfl rfl rfl ?_
        refine E_get 9 dX7_relieved_83 (q := 86) rfl ckX7 (Nat.le_of_ble_eq_true rfl) fl_X7_13 (hF2.at 0 rfl) (hF2.lt 0 (Nat.le_of_ble_eq_true rfl)) rfl ?_
        refine E_iconst (x := 2) dX7_relieved_86 (q := 87) rfl (by decide) ?_
        refine E_iald dX7_relieved_87 (q := 88) rfl (hF2.at 2 rfl) (hF2.lt 2 (Nat.le_of_ble_eq_true rfl)) (by decide +kernel) ?_
        refine E_icmp_lt dX7_relieved_88 (t := 137) (by decide) (q := 91) rfl (fun c10 => ?_) (fun c10 => ?_)
        · have hf := if_t c10 hf
          refine E_iinc 9 [(6, .int (v6 + 1)), (9, .int z7), (8, .int z6), (7, .int ((p2 + v6) % (m_many (ci 0)))), (0, .ref (gB γ + 93)), (1, .ref (gB γ + (93 + 7))), (2, .int p2), (3, .int p3), (4, .int v4), (5, .int v5)] dX7_relieved_137 (q := 140) rfl rfl rfl (Nat.le_of_ble_eq_true rfl) rfl ?_
          refine E_goto (q := 9) dX7_relieved_140 (by decide) ?_
          exact E_sub [4, 5, 6, 7, 8, 9, 0] rfl (hP _ (Option.some.inj hf).symm)
        · have hf := if_f c10 hf
          refine E_iload 0 dX7_relieved_91 (q := 93) rfl rfl ?_
          refine E_bipush (x := (-9)) dX7_relieved_93 (q := 95) rfl (by decide) ?_
          refine E_icmp_eq dX7_relieved_95 (t := 137) (by decide) (q := 98) rfl (fun c11 => ?_) (fun c11 => ?_)
          · have hf := if_t c11 hf
            refine E_iinc 9 [(6, .int (v6 + 1)), (9, .int z7), (8, .int z6), (7, .int ((p2 + v6) % (m_many (ci 0)))), (0, .ref (gB γ + 93)), (1, .ref (gB γ + (93 + 7))), (2, .int p2), (3, .int p3), (4, .int v4), (5, .int v5)] dX7_relieved_137 (q := 140) rfl rfl rfl (Nat.le_of_ble_eq_true rfl) rfl ?_
            refine E_goto (q := 9) dX7_relieved_140 (by decide) ?_
            exact E_sub [4, 5, 6, 7, 8, 9, 0] rfl (hP _ (Option.some.inj hf).symm)
          · have hf := if_f c11 hf
            refine E_aload_n 4 dX7_relieved_98 (q := 99) rfl rfl rfl ?_
            refine E_bipush (x := 7) dX7_relieved_99 (q := 101) rfl (by decide) ?_
            refine E_iload 1 dX7_relieved_101 (q := 103) rfl rfl ?_
            refine E_iadd dX7_relieved_103 (q := 104) rfl ?_
            refine E_iconst (x := 0) dX7_relieved_104 (q := 105) rfl (by decide) ?_
            obtain ⟨g12, hf⟩ := gd hf
            refine E_iast dX7_relieved_105 (q := 106) rfl (hF2.at 7 rfl) (hF2.lt 7 (Nat.le_of_ble_eq_true rfl)) g12 (up_put (i := 7) (cs' := (mdB γ 93 m_thrown m_trace m_text m_typed m_next m_token m_place m_value m_fault m_many m_sees m_cold m_first m_told m_s (upd m_w (ci (7 + z6)) 0) m_kept m_isKept m_undos m_undoMany m_foundMan m_foundHours m_foundIs m_foundMany m_row m_best)) (Nat.le_of_ble_eq_true rfl) rfl) ?_
            refine E_iload 8 dX7_relieved_106 (q := 108) rfl rfl ?_
            refine E_iconst (x := 1) dX7_relieved_108 (q := 109) rfl (by decide) ?_
            refine E_iload 1 dX7_relieved_109 (q := 111) rfl rfl ?_
            refine E_ishl dX7_relieved_111 (q := 112) rfl ?_
            refine E_ior dX7_relieved_112 (q := 113) rfl ?_
            refine E_istore [(5, .int (v5 ||| ((1 : Int32) <<< (z6 &&& 31)))), (9, .int z7), (8, .int z6), (7, .int ((p2 + v6) % (m_many (ci 0)))), (0, .ref (gB γ + 93)), (1, .ref (gB γ + (93 + 7))), (2, .int p2), (3, .int p3), (4, .int v4), (6, .int v6)] dX7_relieved_113 (q := 115) rfl (Nat.le_of_ble_eq_true rfl) rfl ?_
            refine E_aload_n 5 dX7_relieved_115 (q := 116) rfl rfl rfl ?_
            refine E_bipush (x := 7) dX7_relieved_116 (q := 118) rfl (by decide) ?_
            refine E_iload 1 dX7_relieved_118 (q := 120) rfl rfl ?_
            refine E_iadd dX7_relieved_120 (q := 121) rfl ?_
            refine E_iload 3 dX7_relieved_121 (q := 123) rfl rfl ?_
            refine E_iconst (x := 1) dX7_relieved_123 (q := 124) rfl (by decide) ?_
            refine E_iadd dX7_relieved_124 (q := 125) rfl ?_
            obtain ⟨g14, hf⟩ := gd hf
            have hF15 : Has n 93 (mdB γ 93 m_thrown m_trace m_text m_typed m_next m_token m_place m_value m_fault m_many m_sees m_cold m_first m_told m_s (upd m_w (ci (7 + z6)) 0) m_kept m_isKept m_undos m_undoMany m_foundMan m_foundHours m_foundIs m_foundMany m_row m_best) (put 93 (mdB γ 93 m_thrown m_trace m_text m_typed m_next m_token m_place m_value m_fault m_many m_sees m_cold m_first m_told m_s (upd m_w (ci (7 + z6)) 0) m_kept m_isKept m_undos m_undoMany m_foundMan m_foundHours m_foundIs m_foundMany m_row m_best) h) := (has_put hn_m)
            refine E_iast dX7_relieved_125 (q := 126) rfl (hF15.at 7 rfl) (hF15.lt 7 (Nat.le_of_ble_eq_true rfl)) g14 (up_put (i := 7) (cs' := (mdB γ 93 m_thrown m_trace m_text m_typed m_next m_token m_place m_value m_fault m_many m_sees m_cold m_first m_told m_s (upd (upd m_w (ci (7 + z6)) 0) (ci (7 + z7)) (((p2 + v6) % (m_many (ci 0))) + 1)) m_kept m_isKept m_undos m_undoMany m_foundMan m_foundHours m_foundIs m_foundMany m_row m_best)) (Nat.le_of_ble_eq_true rfl) rfl) ?_
            refine E_aload_n 5 dX7_relieved_126 (q := 127) rfl rfl rfl ?_
            refine E_bipush (x := 13) dX7_relieved_127 (q := 129) rfl (by decide) ?_
            refine E_iload 3 dX7_relieved_129 (q := 131) rfl rfl ?_
            refine E_iadd dX7_relieved_131 (q := 132) rfl ?_
            refine E_iconst (x := 0) dX7_relieved_132 (q := 133) rfl (by decide) ?_
            have hF17 : Has n 93 (mdB γ 93 m_thrown m_trace m_text m_typed m_next m_token m_place m_value m_fault m_many m_sees m_cold m_first m_told m_s (upd (upd m_w (ci (7 + z6)) 0) (ci (7 + z7)) (((p2 + v6) % (m_many (ci 0))) + 1)) m_kept m_isKept m_undos m_undoMany m_foundMan m_foundHours m_foundIs m_foundMany m_row m_best) (put 93 (mdB γ 93 m_thrown m_trace m_text m_typed m_next m_token m_place m_value m_fault m_many m_sees m_cold m_first m_told m_s (upd (upd m_w (ci (7 + z6)) 0) (ci (7 + z7)) (((p2 + v6) % (m_many (ci 0))) + 1)) m_kept m_isKept m_undos m_undoMany m_foundMan m_foundHours m_foundIs m_foundMany m_row m_best) h) := (has_put hn_m)
            refine E_iast dX7_relieved_133 (q := 134) rfl (hF17.at 7 rfl) (hF17.lt 7 (Nat.le_of_ble_eq_true rfl)) g9 (up_put (i := 7) (cs' := (mdB γ 93 m_thrown m_trace m_text m_typed m_next m_token m_place m_value m_fault m_many m_sees m_cold m_first m_told m_s (upd (upd (upd m_w (ci (7 + z6)) 0) (ci (7 + z7)) (((p2 + v6) % (m_many (ci 0))) + 1)) (ci (13 + ((p2 + v6) % (m_many (ci 0))))) 0) m_kept m_isKept m_undos m_undoMany m_foundMan m_foundHours m_foundIs m_foundMany m_row m_best)) (Nat.le_of_ble_eq_true rfl) rfl) ?_
            refine E_iinc 8 [(4, .int (v4 + 1)), (5, .int (v5 ||| ((1 : Int32) <<< (z6 &&& 31)))), (9, .int z7), (8, .int z6), (7, .int ((p2 + v6) % (m_many (ci 0)))), (0, .ref (gB γ + 93)), (1, .ref (gB γ + (93 + 7))), (2, .int p2), (3, .int p3), (6, .int v6)] dX7_relieved_134 (q := 137) rfl rfl rfl (Nat.le_of_ble_eq_true rfl) rfl ?_
            refine E_iinc 9 [(6, .int (v6 + 1)), (4, .int (v4 + 1)), (5, .int (v5 ||| ((1 : Int32) <<< (z6 &&& 31)))), (9, .int z7), (8, .int z6), (7, .int ((p2 + v6) % (m_many (ci 0)))), (0, .ref (gB γ + 93)), (1, .ref (gB γ + (93 + 7))), (2, .int p2), (3, .int p3)] dX7_relieved_137 (q := 140) rfl rfl rfl (Nat.le_of_ble_eq_true rfl) rfl ?_
            refine E_goto (q := 9) dX7_relieved_140 (by decide) ?_
            exact E_sub [6, 7, 8, 9, 1, 2, 0] rfl (hP _ (Option.some.inj hf).symm)
set_option maxHeartbeats 4000000 in
set_option maxRecDepth 100000 in
theorem m_X7_relieved_w {γ : GX} {n : Nat} {N : Nat} {h : HP} {a2 : Int32} {a3 : Int32} {m_thrown : Int32} {m_trace : Int64} {m_text : FN} {m_typed : Int32} {m_next : Int32} {m_token : Int32} {m_place : Int32} {m_value : Int32} {m_fault : Int32} {m_many : FN} {m_sees : FN} {m_cold : FN} {m_first : FN} {m_told : Int32} {m_s : FN} {m_w : FN} {m_kept : FN} {m_isKept : FN} {m_undos : FN} {m_undoMany : Int32} {m_foundMan : FN} {m_foundHours : FN} {m_foundIs : FN} {m_foundMany : Int32} {m_row : FN} {m_best : FN} (hH_m : Has n 93 (mdB γ 93 m_thrown m_trace m_text m_typed m_next m_token m_place m_value m_fault m_many m_sees m_cold m_first m_told m_s m_w m_kept m_isKept m_undos m_undoMany m_foundMan m_foundHours m_foundIs m_foundMany m_row m_best) h) {z : Int32 × FN} (hf : f_X7_relieved_w N a2 a3 m_many m_w = some z)  : Ct γ M_X7_relieved n h [.ref (gB γ + 93), .ref (gB γ + (93 + 7)), .int a2, .int a3] (Done (some (.int z.1)) n (put 93 (mdB γ 93 m_thrown m_trace m_text m_typed m_next m_token m_place m_value m_fault m_many m_sees m_cold m_first m_told m_s z.2 m_kept m_isKept m_undos m_undoMany m_foundMan m_foundHours m_foundIs m_foundMany m_row m_best) h)) := by
  have hn_m : 93 + 16 ≤ n := hH_m.1
  refine Ct.heap (h := (put 93 (mdB γ 93 m_thrown m_trace m_text m_typed m_next m_token m_place m_value m_fault m_many m_sees m_cold m_first m_told m_s m_w m_kept m_isKept m_undos m_undoMany m_foundMan m_foundHours m_foundIs m_foundMany m_row m_best) h)) (put_self hH_m).symm ?_
  refine Ct_of_Ev (by decide) (fun h => by cases h) (Nat.le_of_ble_eq_true rfl) ?_
  show Ev γ M_X7_relieved (0, 0) n (put 93 (mdB γ 93 m_thrown m_trace m_text m_typed m_next m_token m_place m_value m_fault m_many m_sees m_cold m_first m_told m_s m_w m_kept m_isKept m_undos m_undoMany m_foundMan m_foundHours m_foundIs m_foundMany m_row m_best) h) [(0, .ref (gB γ + 93)), (1, .ref (gB γ + (93 + 7))), (2, .int a2), (3, .int a3)] 0 [] _
  unfold f_X7_relieved_w at hf
  refine E_iconst (x := 0) dX7_relieved_0 (q := 1) rfl (by decide) ?_
  refine E_istore [(4, .int 0), (0, .ref (gB γ + 93)), (1, .ref (gB γ + (93 + 7))), (2, .int a2), (3, .int a3)] dX7_relieved_1 (q := 3) rfl (Nat.le_of_ble_eq_true rfl) rfl ?_
  refine E_iconst (x := 0) dX7_relieved_3 (q := 4) rfl (by decide) ?_
  refine E_istore [(5, .int 0), (4, .int 0), (0, .ref (gB γ + 93)), (1, .ref (gB γ + (93 + 7))), (2, .int a2), (3, .int a3)] dX7_relieved_4 (q := 6) rfl (Nat.le_of_ble_eq_true rfl) rfl ?_
  refine E_iconst (x := 0) dX7_relieved_6 (q := 7) rfl (by decide) ?_
  refine E_istore [(6, .int 0), (5, .int 0), (4, .int 0), (0, .ref (gB γ + 93)), (1, .ref (gB γ + (93 + 7))), (2, .int a2), (3, .int a3)] dX7_relieved_7 (q := 9) rfl (Nat.le_of_ble_eq_true rfl) rfl ?_
  obtain ⟨t33, hxt33, hf⟩ := bnd hf
  refine E_sub [3, 4, 5, 6, 2, 1, 0] rfl ?_
  refine L_X7_relieved_w_1 hn_m hxt33 ?_
  show Ev γ M_X7_relieved _ n (put 93 (mdB γ 93 m_thrown m_trace m_text m_typed m_next m_token m_place m_value m_fault m_many m_sees m_cold m_first m_told m_s t33.2 m_kept m_isKept m_undos m_undoMany m_foundMan m_foundHours m_foundIs m_foundMany m_row m_best) h) [(4, .int t33.1)] 143 [] _
  refine E_iload 0 dX7_relieved_143 (q := 145) rfl rfl ?_
  obtain rfl := Option.some.inj hf
  exact E_iret dX7_relieved_145 rfl ⟨rfl, rfl, rfl⟩

-- PostReliefModel.debtStanding([I)I
def b_X7_debtStanding_w_1 (N : Nat) (m_many : FN) (m_w : FN) (v2 : Int32) (v3 : Int32) : Option ((Int32 × Int32) ⊕ (Int32)) :=
  (if (m_many (ci 1)) ≤ v3 then some (.inr v2) else (if ix (7 + v3) 48 = true then (if (m_w (ci (7 + v3))) ≤ 0 then some (.inl ((v2 + 0), (v3 + 1))) else (if ix (1 + v3) 48 = true then some (.inl ((v2 + (m_w (ci (1 + v3)))), (v3 + 1))) else none)) else none))
def f_X7_debtStanding_w (N : Nat) (m_many : FN) (m_w : FN) : Option (Int32) :=
  ((lp (fun s => b_X7_debtStanding_w_1 N m_many m_w s.1 s.2) N (0, 0)).bind fun t6 => some t6)
set_option maxHeartbeats 4000000 in
set_option maxRecDepth 100000 in
theorem L_X7_debtStanding_w_1 {γ : GX} {n : Nat} {h : HP} {Ψ : PS} {N : Nat} {m_thrown : Int32} {m_trace : Int64} {m_text : FN} {m_typed : Int32} {m_next : Int32} {m_token : Int32} {m_place : Int32} {m_value : Int32} {m_fault : Int32} {m_many : FN} {m_sees : FN} {m_cold : FN} {m_first : FN} {m_told : Int32} {m_s : FN} {m_w : FN} {m_kept : FN} {m_isKept : FN} {m_undos : FN} {m_undoMany : Int32} {m_foundMan : FN} {m_foundHours : FN} {m_foundIs : FN} {m_foundMany : Int32} {m_row : FN} {m_best : FN} (hH_m : Has n 93 (mdB γ 93 m_thrown m_trace m_text m_typed m_next m_token m_place m_value m_fault m_many m_sees m_cold m_first m_told m_s m_w m_kept m_isKept m_undos m_undoMany m_foundMan m_foundHours m_foundIs m_foundMany m_row m_best) h) {s0 : Int32 × Int32} {t : Int32} (hf : lp (fun s => b_X7_debtStanding_w_1 N m_many m_w s.1 s.2) N s0 = some t) (K : Ev γ M_X7_debtStanding (0, 0) n h [(2, .int t)] 41 [] Ψ) : Ev γ M_X7_debtStanding (0, 0) n h [(0, .ref (gB γ + 93)), (1, .ref (gB γ + (93 + 7))), (2, .int s0.1), (3, .int s0.2)] 4 [] Ψ := by
  refine E_lp (P := fun s => Ev γ M_X7_debtStanding (0, 0) n h [(0, .ref (gB γ + 93)), (1, .ref (gB γ + (93 + 7))), (2, .int s.1), (3, .int s.2)] 4 [] Ψ) (K := fun t => Ev γ M_X7_debtStanding (0, 0) n h [(2, .int t)] 41 [] Ψ) ?_ N s0 t hf K
  intro s r hf hP hK
  obtain ⟨v2, v3⟩ := s
  change b_X7_debtStanding_w_1 N m_many m_w v2 v3 = some r at hf
  unfold b_X7_debtStanding_w_1 at hf
  show Ev γ M_X7_debtStanding (0, 0) n h [(0, .ref (gB γ + 93)), (1, .ref (gB γ + (93 + 7))), (2, .int v2), (3, .int v3)] 4 [] Ψ
  refine E_iload_n 3 dX7_debtStanding_4 (q := 5) rfl rfl rfl ?_
  refine E_aload_n 0 dX7_debtStanding_5 (q := 6) rfl rfl rfl ?_
  refine E_get 9 dX7_debtStanding_6 (q := 9) rfl ckX7 (Nat.le_of_ble_eq_true rfl) fl_X7_13 (hH_m.at 0 rfl) (hH_m.lt 0 (Nat.le_of_ble_eq_true rfl)) rfl ?_
  refine E_iconst (x := 1) dX7_debtStanding_9 (q := 10) rfl (by decide) ?_
  refine E_iald dX7_debtStanding_10 (q := 11) rfl (hH_m.at 2 rfl) (hH_m.lt 2 (Nat.le_of_ble_eq_true rfl)) (by decide +kernel) ?_
  refine E_icmp_ge dX7_debtStanding_11 (t := 41) (by decide) (q := 14) rfl (fun c2 => ?_) (fun c2 => ?_)
  · have hf := if_t c2 hf
    exact E_sub [2] rfl (hK _ (Option.some.inj hf).symm)
  · have hf := if_f c2 hf
    refine E_iload_n 2 dX7_debtStanding_14 (q := 15) rfl rfl rfl ?_
    refine E_aload_n 1 dX7_debtStanding_15 (q := 16) rfl rfl rfl ?_
    refine E_bipush (x := 7) dX7_debtStanding_16 (q := 18) rfl (by decide) ?_
    refine E_iload_n 3 dX7_debtStanding_18 (q := 19) rfl rfl rfl ?_
    refine E_iadd dX7_debtStanding_19 (q := 20) rfl ?_
    obtain ⟨g3, hf⟩ := gd hf
    refine E_iald dX7_debtStanding_20 (q := 21) rfl (hH_m.at 7 rfl) (hH_m.lt 7 (Nat.le_of_ble_eq_true rfl)) g3 ?_
    refine E_if_le dX7_debtStanding_21 (t := 32) (by decide) (q := 24) rfl (fun c4 => ?_) (fun c4 => ?_)
    · have hf := if_t c4 hf
      refine E_iconst (x := 0) dX7_debtStanding_32 (q := 33) rfl (by decide) ?_
      refine E_iadd dX7_debtStanding_33 (q := 34) rfl ?_
      refine E_istore_n [(2, .int (v2 + 0)), (0, .ref (gB γ + 93)), (1, .ref (gB γ + (93 + 7))), (3, .int v3)] dX7_debtStanding_34 (q := 35) rfl rfl (Nat.le_of_ble_eq_true rfl) rfl ?_
      refine E_iinc 3 [(3, .int (v3 + 1)), (2, .int (v2 + 0)), (0, .ref (gB γ + 93)), (1, .ref (gB γ + (93 + 7)))] dX7_debtStanding_35 (q := 38) rfl rfl rfl (Nat.le_of_ble_eq_true rfl) rfl ?_
      refine E_goto (q := 4) dX7_debtStanding_38 (by decide) ?_
      exact E_sub [2, 3, 1, 0] rfl (hP _ (Option.some.inj hf).symm)
    · have hf := if_f c4 hf
      refine E_aload_n 1 dX7_debtStanding_24 (q := 25) rfl rfl rfl ?_
      refine E_iconst (x := 1) dX7_debtStanding_25 (q := 26) rfl (by decide) ?_
      refine E_iload_n 3 dX7_debtStanding_26 (q := 27) rfl rfl rfl ?_
      refine E_iadd dX7_debtStanding_27 (q := 28) rfl ?_
      obtain ⟨g5, hf⟩ := gd hf
      refine E_iald dX7_debtStanding_28 (q := 29) rfl (hH_m.at 7 rfl) (hH_m.lt 7 (Nat.le_of_ble_eq_true rfl)) g5 ?_
      refine E_goto (q := 33) dX7_debtStanding_29 (by decide) ?_
      refine E_iadd dX7_debtStanding_33 (q := 34) rfl ?_
      refine E_istore_n [(2, .int (v2 + (m_w (ci (1 + v3))))), (0, .ref (gB γ + 93)), (1, .ref (gB γ + (93 + 7))), (3, .int v3)] dX7_debtStanding_34 (q := 35) rfl rfl (Nat.le_of_ble_eq_true rfl) rfl ?_
      refine E_iinc 3 [(3, .int (v3 + 1)), (2, .int (v2 + (m_w (ci (1 + v3))))), (0, .ref (gB γ + 93)), (1, .ref (gB γ + (93 + 7)))] dX7_debtStanding_35 (q := 38) rfl rfl rfl (Nat.le_of_ble_eq_true rfl) rfl ?_
      refine E_goto (q := 4) dX7_debtStanding_38 (by decide) ?_
      exact E_sub [2, 3, 1, 0] rfl (hP _ (Option.some.inj hf).symm)
set_option maxHeartbeats 4000000 in
set_option maxRecDepth 100000 in
theorem m_X7_debtStanding_w {γ : GX} {n : Nat} {N : Nat} {h : HP} {m_thrown : Int32} {m_trace : Int64} {m_text : FN} {m_typed : Int32} {m_next : Int32} {m_token : Int32} {m_place : Int32} {m_value : Int32} {m_fault : Int32} {m_many : FN} {m_sees : FN} {m_cold : FN} {m_first : FN} {m_told : Int32} {m_s : FN} {m_w : FN} {m_kept : FN} {m_isKept : FN} {m_undos : FN} {m_undoMany : Int32} {m_foundMan : FN} {m_foundHours : FN} {m_foundIs : FN} {m_foundMany : Int32} {m_row : FN} {m_best : FN} (hH_m : Has n 93 (mdB γ 93 m_thrown m_trace m_text m_typed m_next m_token m_place m_value m_fault m_many m_sees m_cold m_first m_told m_s m_w m_kept m_isKept m_undos m_undoMany m_foundMan m_foundHours m_foundIs m_foundMany m_row m_best) h) {z : Int32} (hf : f_X7_debtStanding_w N m_many m_w = some z)  : Ct γ M_X7_debtStanding n h [.ref (gB γ + 93), .ref (gB γ + (93 + 7))] (Done (some (.int z)) n h) := by
  refine Ct_of_Ev (by decide) (fun h => by cases h) (Nat.le_of_ble_eq_true rfl) ?_
  show Ev γ M_X7_debtStanding (0, 0) n h [(0, .ref (gB γ + 93)), (1, .ref (gB γ + (93 + 7)))] 0 [] _
  unfold f_X7_debtStanding_w at hf
  refine E_iconst (x := 0) dX7_debtStanding_0 (q := 1) rfl (by decide) ?_
  refine E_istore_n [(2, .int 0), (0, .ref (gB γ + 93)), (1, .ref (gB γ + (93 + 7)))] dX7_debtStanding_1 (q := 2) rfl rfl (Nat.le_of_ble_eq_true rfl) rfl ?_
  refine E_iconst (x := 0) dX7_debtStanding_2 (q := 3) rfl (by decide) ?_
  refine E_istore_n [(3, .int 0), (2, .int 0), (0, .ref (gB γ + 93)), (1, .ref (gB γ + (93 + 7)))] dX7_debtStanding_3 (q := 4) rfl rfl (Nat.le_of_ble_eq_true rfl) rfl ?_
  obtain ⟨t6, hxt6, hf⟩ := bnd hf
  refine E_sub [2, 3, 1, 0] rfl ?_
  refine L_X7_debtStanding_w_1 hH_m hxt6 ?_
  show Ev γ M_X7_debtStanding _ n h [(2, .int t6)] 41 [] _
  refine E_iload_n 0 dX7_debtStanding_41 (q := 42) rfl rfl rfl ?_
  obtain rfl := Option.some.inj hf
  exact E_iret dX7_debtStanding_42 rfl ⟨rfl, rfl, rfl⟩

-- PostReliefModel.asNow()V
def b_X7_asNow_1 (N : Nat) (m_s : FN) (v1 : Int32) (m_w : FN) : Option ((Int32 × FN) ⊕ (FN)) :=
  (if 48 ≤ v1 then some (.inr m_w) else (if ix v1 48 = true then some (.inl ((v1 + 1), (upd m_w (ci v1) (m_s (ci v1))))) else none))
def f_X7_asNow (N : Nat) (m_s : FN) (m_w : FN) : Option (FN) :=
  ((lp (fun s => b_X7_asNow_1 N m_s s.1 s.2) N (0, m_w)).bind fun t6 => some t6)
set_option maxHeartbeats 4000000 in
set_option maxRecDepth 100000 in
theorem L_X7_asNow_1 {γ : GX} {n : Nat} {h : HP} {Ψ : PS} {N : Nat} {m_thrown : Int32} {m_trace : Int64} {m_text : FN} {m_typed : Int32} {m_next : Int32} {m_token : Int32} {m_place : Int32} {m_value : Int32} {m_fault : Int32} {m_many : FN} {m_sees : FN} {m_cold : FN} {m_first : FN} {m_told : Int32} {m_s : FN} {m_kept : FN} {m_isKept : FN} {m_undos : FN} {m_undoMany : Int32} {m_foundMan : FN} {m_foundHours : FN} {m_foundIs : FN} {m_foundMany : Int32} {m_row : FN} {m_best : FN} (hn_m : 93 + 16 ≤ n) {s0 : Int32 × FN} {t : FN} (hf : lp (fun s => b_X7_asNow_1 N m_s s.1 s.2) N s0 = some t) (K : Ev γ M_X7_asNow (0, 0) n (put 93 (mdB γ 93 m_thrown m_trace m_text m_typed m_next m_token m_place m_value m_fault m_many m_sees m_cold m_first m_told m_s t m_kept m_isKept m_undos m_undoMany m_foundMan m_foundHours m_foundIs m_foundMany m_row m_best) h) [] 26 [] Ψ) : Ev γ M_X7_asNow (0, 0) n (put 93 (mdB γ 93 m_thrown m_trace m_text m_typed m_next m_token m_place m_value m_fault m_many m_sees m_cold m_first m_told m_s s0.2 m_kept m_isKept m_undos m_undoMany m_foundMan m_foundHours m_foundIs m_foundMany m_row m_best) h) [(0, .ref (gB γ + 93)), (1, .int s0.1)] 2 [] Ψ := by
  refine E_lp (P := fun s => Ev γ M_X7_asNow (0, 0) n (put 93 (mdB γ 93 m_thrown m_trace m_text m_typed m_next m_token m_place m_value m_fault m_many m_sees m_cold m_first m_told m_s s.2 m_kept m_isKept m_undos m_undoMany m_foundMan m_foundHours m_foundIs m_foundMany m_row m_best) h) [(0, .ref (gB γ + 93)), (1, .int s.1)] 2 [] Ψ) (K := fun t => Ev γ M_X7_asNow (0, 0) n (put 93 (mdB γ 93 m_thrown m_trace m_text m_typed m_next m_token m_place m_value m_fault m_many m_sees m_cold m_first m_told m_s t m_kept m_isKept m_undos m_undoMany m_foundMan m_foundHours m_foundIs m_foundMany m_row m_best) h) [] 26 [] Ψ) ?_ N s0 t hf K
  intro s r hf hP hK
  obtain ⟨v1, m_w⟩ := s
  change b_X7_asNow_1 N m_s v1 m_w = some r at hf
  unfold b_X7_asNow_1 at hf
  show Ev γ M_X7_asNow (0, 0) n (put 93 (mdB γ 93 m_thrown m_trace m_text m_typed m_next m_token m_place m_value m_fault m_many m_sees m_cold m_first m_told m_s m_w m_kept m_isKept m_undos m_undoMany m_foundMan m_foundHours m_foundIs m_foundMany m_row m_best) h) [(0, .ref (gB γ + 93)), (1, .int v1)] 2 [] Ψ
  refine E_iload_n 1 dX7_asNow_2 (q := 3) rfl rfl rfl ?_
  refine E_bipush (x := 48) dX7_asNow_3 (q := 5) rfl (by decide) ?_
  refine E_icmp_ge dX7_asNow_5 (t := 26) (by decide) (q := 8) rfl (fun c2 => ?_) (fun c2 => ?_)
  · have hf := if_t c2 hf
    exact E_sub [] rfl (hK _ (Option.some.inj hf).symm)
  · have hf := if_f c2 hf
    refine E_aload_n 0 dX7_asNow_8 (q := 9) rfl rfl rfl ?_
    have hF3 : Has n 93 (mdB γ 93 m_thrown m_trace m_text m_typed m_next m_token m_place m_value m_fault m_many m_sees m_cold m_first m_told m_s m_w m_kept m_isKept m_undos m_undoMany m_foundMan m_foundHours m_foundIs m_foundMany m_row m_best) (put 93 (mdB γ 93 m_thrown m_trace m_text m_typed m_next m_token m_place m_value m_fault m_many m_sees m_cold m_first m_told m_s m_w m_kept m_isKept m_undos m_undoMany m_foundMan m_foundHours m_foundIs m_foundMany m_row m_best) h) := (has_put hn_m)
    refine E_get 15 dX7_asNow_9 (q := 12) rfl ckX7 (Nat.le_of_ble_eq_true rfl) fl_X7_28 (hF3.at 0 rfl) (hF3.lt 0 (Nat.le_of_ble_eq_true rfl)) rfl ?_
    refine E_iload_n 1 dX7_asNow_12 (q := 13) rfl rfl rfl ?_
    refine E_aload_n 0 dX7_asNow_13 (q := 14) rfl rfl rfl ?_
    refine E_get 14 dX7_asNow_14 (q := 17) rfl ckX7 (Nat.le_of_ble_eq_true rfl) fl_X7_25 (hF3.at 0 rfl) (hF3.lt 0 (Nat.le_of_ble_eq_true rfl)) rfl ?_
    refine E_iload_n 1 dX7_asNow_17 (q := 18) rfl rfl rfl ?_
    obtain ⟨g4, hf⟩ := gd hf
    refine E_iald dX7_asNow_18 (q := 19) rfl (hF3.at 6 rfl) (hF3.lt 6 (Nat.le_of_ble_eq_true rfl)) g4 ?_
    refine E_iast dX7_asNow_19 (q := 20) rfl (hF3.at 7 rfl) (hF3.lt 7 (Nat.le_of_ble_eq_true rfl)) g4 (up_put (i := 7) (cs' := (mdB γ 93 m_thrown m_trace m_text m_typed m_next m_token m_place m_value m_fault m_many m_sees m_cold m_first m_told m_s (upd m_w (ci v1) (m_s (ci v1))) m_kept m_isKept m_undos m_undoMany m_foundMan m_foundHours m_foundIs m_foundMany m_row m_best)) (Nat.le_of_ble_eq_true rfl) rfl) ?_
    refine E_iinc 1 [(1, .int (v1 + 1)), (0, .ref (gB γ + 93))] dX7_asNow_20 (q := 23) rfl rfl rfl (Nat.le_of_ble_eq_true rfl) rfl ?_
    refine E_goto (q := 2) dX7_asNow_23 (by decide) ?_
    exact E_sub [1, 0] rfl (hP _ (Option.some.inj hf).symm)
set_option maxHeartbeats 4000000 in
set_option maxRecDepth 100000 in
theorem m_X7_asNow {γ : GX} {n : Nat} {N : Nat} {h : HP} {m_thrown : Int32} {m_trace : Int64} {m_text : FN} {m_typed : Int32} {m_next : Int32} {m_token : Int32} {m_place : Int32} {m_value : Int32} {m_fault : Int32} {m_many : FN} {m_sees : FN} {m_cold : FN} {m_first : FN} {m_told : Int32} {m_s : FN} {m_w : FN} {m_kept : FN} {m_isKept : FN} {m_undos : FN} {m_undoMany : Int32} {m_foundMan : FN} {m_foundHours : FN} {m_foundIs : FN} {m_foundMany : Int32} {m_row : FN} {m_best : FN} (hH_m : Has n 93 (mdB γ 93 m_thrown m_trace m_text m_typed m_next m_token m_place m_value m_fault m_many m_sees m_cold m_first m_told m_s m_w m_kept m_isKept m_undos m_undoMany m_foundMan m_foundHours m_foundIs m_foundMany m_row m_best) h) {z : FN} (hf : f_X7_asNow N m_s m_w = some z)  : Ct γ M_X7_asNow n h [.ref (gB γ + 93)] (Done none n (put 93 (mdB γ 93 m_thrown m_trace m_text m_typed m_next m_token m_place m_value m_fault m_many m_sees m_cold m_first m_told m_s z m_kept m_isKept m_undos m_undoMany m_foundMan m_foundHours m_foundIs m_foundMany m_row m_best) h)) := by
  have hn_m : 93 + 16 ≤ n := hH_m.1
  refine Ct.heap (h := (put 93 (mdB γ 93 m_thrown m_trace m_text m_typed m_next m_token m_place m_value m_fault m_many m_sees m_cold m_first m_told m_s m_w m_kept m_isKept m_undos m_undoMany m_foundMan m_foundHours m_foundIs m_foundMany m_row m_best) h)) (put_self hH_m).symm ?_
  refine Ct_of_Ev (by decide) (fun h => by cases h) (Nat.le_of_ble_eq_true rfl) ?_
  show Ev γ M_X7_asNow (0, 0) n (put 93 (mdB γ 93 m_thrown m_trace m_text m_typed m_next m_token m_place m_value m_fault m_many m_sees m_cold m_first m_told m_s m_w m_kept m_isKept m_undos m_undoMany m_foundMan m_foundHours m_foundIs m_foundMany m_row m_best) h) [(0, .ref (gB γ + 93))] 0 [] _
  unfold f_X7_asNow at hf
  refine E_iconst (x := 0) dX7_asNow_0 (q := 1) rfl (by decide) ?_
  refine E_istore_n [(1, .int 0), (0, .ref (gB γ + 93))] dX7_asNow_1 (q := 2) rfl rfl (Nat.le_of_ble_eq_true rfl) rfl ?_
  obtain ⟨t6, hxt6, hf⟩ := bnd hf
  refine E_sub [1, 0] rfl ?_
  refine L_X7_asNow_1 hn_m hxt6 ?_
  show Ev γ M_X7_asNow _ n (put 93 (mdB γ 93 m_thrown m_trace m_text m_typed m_next m_token m_place m_value m_fault m_many m_sees m_cold m_first m_told m_s t6 m_kept m_isKept m_undos m_undoMany m_foundMan m_foundHours m_foundIs m_foundMany m_row m_best) h) [] 26 [] _
  obtain rfl := Option.some.inj hf
  exact E_vret dX7_asNow_26 rfl ⟨rfl, rfl, rfl⟩

-- PostReliefModel.goesBy(I)V
def f_X7_goesBy (N : Nat) (a1 : Int32) (m_many : FN) (m_cold : FN) (m_w : FN) : Option (FN) :=
  ((f_X7_goes_w N m_many m_cold m_w).bind fun z2 => (if a1 = 1 then ((f_X7_relieved_w N 0 1 m_many z2).bind fun z6 => some z6.2) else some z2))
set_option maxHeartbeats 4000000 in
set_option maxRecDepth 100000 in
theorem m_X7_goesBy {γ : GX} {n : Nat} {N : Nat} {h : HP} {a1 : Int32} {m_thrown : Int32} {m_trace : Int64} {m_text : FN} {m_typed : Int32} {m_next : Int32} {m_token : Int32} {m_place : Int32} {m_value : Int32} {m_fault : Int32} {m_many : FN} {m_sees : FN} {m_cold : FN} {m_first : FN} {m_told : Int32} {m_s : FN} {m_w : FN} {m_kept : FN} {m_isKept : FN} {m_undos : FN} {m_undoMany : Int32} {m_foundMan : FN} {m_foundHours : FN} {m_foundIs : FN} {m_foundMany : Int32} {m_row : FN} {m_best : FN} (hH_m : Has n 93 (mdB γ 93 m_thrown m_trace m_text m_typed m_next m_token m_place m_value m_fault m_many m_sees m_cold m_first m_told m_s m_w m_kept m_isKept m_undos m_undoMany m_foundMan m_foundHours m_foundIs m_foundMany m_row m_best) h) {z : FN} (hf : f_X7_goesBy N a1 m_many m_cold m_w = some z)  : Ct γ M_X7_goesBy n h [.ref (gB γ + 93), .int a1] (Done none n (put 93 (mdB γ 93 m_thrown m_trace m_text m_typed m_next m_token m_place m_value m_fault m_many m_sees m_cold m_first m_told m_s z m_kept m_isKept m_undos m_undoMany m_foundMan m_foundHours m_foundIs m_foundMany m_row m_best) h)) := by
  have hn_m : 93 + 16 ≤ n := hH_m.1
  refine Ct.heap (h := (put 93 (mdB γ 93 m_thrown m_trace m_text m_typed m_next m_token m_place m_value m_fault m_many m_sees m_cold m_first m_told m_s m_w m_kept m_isKept m_undos m_undoMany m_foundMan m_foundHours m_foundIs m_foundMany m_row m_best) h)) (put_self hH_m).symm ?_
  refine Ct_of_Ev (by decide) (fun h => by cases h) (Nat.le_of_ble_eq_true rfl) ?_
  show Ev γ M_X7_goesBy (0, 0) n (put 93 (mdB γ 93 m_thrown m_trace m_text m_typed m_next m_token m_place m_value m_fault m_many m_sees m_cold m_first m_told m_s m_w m_kept m_isKept m_undos m_undoMany m_foundMan m_foundHours m_foundIs m_foundMany m_row m_best) h) [(0, .ref (gB γ + 93)), (1, .int a1)] 0 [] _
  unfold f_X7_goesBy at hf
  refine E_aload_n 0 dX7_goesBy_0 (q := 1) rfl rfl rfl ?_
  refine E_aload_n 0 dX7_goesBy_1 (q := 2) rfl rfl rfl ?_
  have hF1 : Has n 93 (mdB γ 93 m_thrown m_trace m_text m_typed m_next m_token m_place m_value m_fault m_many m_sees m_cold m_first m_told m_s m_w m_kept m_isKept m_undos m_undoMany m_foundMan m_foundHours m_foundIs m_foundMany m_row m_best) (put 93 (mdB γ 93 m_thrown m_trace m_text m_typed m_next m_token m_place m_value m_fault m_many m_sees m_cold m_first m_told m_s m_w m_kept m_isKept m_undos m_undoMany m_foundMan m_foundHours m_foundIs m_foundMany m_row m_best) h) := (has_put hn_m)
  refine E_get 15 dX7_goesBy_2 (q := 5) rfl ckX7 (Nat.le_of_ble_eq_true rfl) fl_X7_28 (hF1.at 0 rfl) (hF1.lt 0 (Nat.le_of_ble_eq_true rfl)) rfl ?_
  obtain ⟨z2, hxz2, hf⟩ := bnd hf
  refine E_cV (as := [.ref (gB γ + (93 + 7))]) (k := 93) (rest := []) (u' := (0, 0)) (st' := []) dX7_goesBy_5 (q := 8) rfl lkm_X7_goes lkv_X7_154 (Nat.le_of_ble_eq_true rfl) ckX7 (hF1.at 0 rfl) (hF1.lt 0 (Nat.le_of_ble_eq_true rfl)) ⟨Nat.le_refl _, Nat.le_refl _⟩ (Nat.le_of_ble_eq_true rfl) rfl rfl (m_X7_goes_w (N := N)  hF1 hxz2) rfl rfl rfl ?_
  refine Ev.heap (put_put (k := 93) (cs := (mdB γ 93 m_thrown m_trace m_text m_typed m_next m_token m_place m_value m_fault m_many m_sees m_cold m_first m_told m_s m_w m_kept m_isKept m_undos m_undoMany m_foundMan m_foundHours m_foundIs m_foundMany m_row m_best)) (cs' := (mdB γ 93 m_thrown m_trace m_text m_typed m_next m_token m_place m_value m_fault m_many m_sees m_cold m_first m_told m_s z2 m_kept m_isKept m_undos m_undoMany m_foundMan m_foundHours m_foundIs m_foundMany m_row m_best)) (show (16 : Nat) = 16 from rfl)) ?_
  refine E_iload_n 1 dX7_goesBy_8 (q := 9) rfl rfl rfl ?_
  refine E_iconst (x := 1) dX7_goesBy_9 (q := 10) rfl (by decide) ?_
  refine E_icmp_ne dX7_goesBy_10 (t := 24) (by decide) (q := 13) rfl (fun c4 => ?_) (fun c4 => ?_)
  · have hf := if_f c4 hf
    obtain rfl := Option.some.inj hf
    exact E_vret dX7_goesBy_24 rfl ⟨rfl, rfl, rfl⟩
  · have hf := if_t c4 hf
    refine E_aload_n 0 dX7_goesBy_13 (q := 14) rfl rfl rfl ?_
    refine E_aload_n 0 dX7_goesBy_14 (q := 15) rfl rfl rfl ?_
    have hF5 : Has n 93 (mdB γ 93 m_thrown m_trace m_text m_typed m_next m_token m_place m_value m_fault m_many m_sees m_cold m_first m_told m_s z2 m_kept m_isKept m_undos m_undoMany m_foundMan m_foundHours m_foundIs m_foundMany m_row m_best) (put 93 (mdB γ 93 m_thrown m_trace m_text m_typed m_next m_token m_place m_value m_fault m_many m_sees m_cold m_first m_told m_s z2 m_kept m_isKept m_undos m_undoMany m_foundMan m_foundHours m_foundIs m_foundMany m_row m_best) h) := (has_put hn_m)
    refine E_get 15 dX7_goesBy_15 (q := 18) rfl ckX7 (Nat.le_of_ble_eq_true rfl) fl_X7_28 (hF5.at 0 rfl) (hF5.lt 0 (Nat.le_of_ble_eq_true rfl)) rfl ?_
    refine E_iconst (x := 0) dX7_goesBy_18 (q := 19) rfl (by decide) ?_
    refine E_iconst (x := 1) dX7_goesBy_19 (q := 20) rfl (by decide) ?_
    obtain ⟨z6, hxz6, hf⟩ := bnd hf
    refine E_cV (as := [.ref (gB γ + (93 + 7)), .int 0, .int 1]) (k := 93) (rest := []) (u' := (0, 0)) (st' := [.int z6.1]) dX7_goesBy_20 (q := 23) rfl lkm_X7_relieved lkv_X7_161 (Nat.le_of_ble_eq_true rfl) ckX7 (hF5.at 0 rfl) (hF5.lt 0 (Nat.le_of_ble_eq_true rfl)) ⟨Nat.le_refl _, Nat.le_refl _⟩ (Nat.le_of_ble_eq_true rfl) rfl rfl (m_X7_relieved_w (N := N)  hF5 hxz6) rfl rfl rfl ?_
    refine Ev.heap (put_put (k := 93) (cs := (mdB γ 93 m_thrown m_trace m_text m_typed m_next m_token m_place m_value m_fault m_many m_sees m_cold m_first m_told m_s z2 m_kept m_isKept m_undos m_undoMany m_foundMan m_foundHours m_foundIs m_foundMany m_row m_best)) (cs' := (mdB γ 93 m_thrown m_trace m_text m_typed m_next m_token m_place m_value m_fault m_many m_sees m_cold m_first m_told m_s z6.2 m_kept m_isKept m_undos m_undoMany m_foundMan m_foundHours m_foundIs m_foundMany m_row m_best)) (show (16 : Nat) = 16 from rfl)) ?_
    refine E_pop dX7_goesBy_23 (q := 24) rfl rfl ?_
    obtain rfl := Option.some.inj hf
    exact E_vret dX7_goesBy_24 rfl ⟨rfl, rfl, rfl⟩
