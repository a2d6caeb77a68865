def M_X7_post : MI := (yX7_post, cX7_post, 3, (some .int), false, 3, 0, 0)
theorem lkm_X7_post : LkM M_X7_post 2 := ⟨(lg_mem 58 (by decide +kernel) rfl), (lg_mem 807 (by decide +kernel) rfl), ⟨by decide, by decide, by decide +kernel⟩, (Nat.le_of_ble_eq_true rfl)⟩
def M_X7_man : MI := (yX7_man, cX7_man, 3, (some .int), false, 3, 0, 0)
theorem lkm_X7_man : LkM M_X7_man 2 := ⟨(lg_mem 58 (by decide +kernel) rfl), (lg_mem 819 (by decide +kernel) rfl), ⟨by decide, by decide, by decide +kernel⟩, (Nat.le_of_ble_eq_true rfl)⟩
def M_X7_now : MI := (yX7_now, cX7_now, 2, (some .int), false, 4, 0, 0)
theorem lkm_X7_now : LkM M_X7_now 1 := ⟨(lg_mem 58 (by decide +kernel) rfl), (lg_mem 830 (by decide +kernel) rfl), ⟨by decide, by decide, by decide +kernel⟩, (Nat.le_of_ble_eq_true rfl)⟩
def M_X7_sends : MI := (yX7_sends, cX7_sends, 3, (some .int), false, 3, 0, 0)
theorem lkm_X7_sends : LkM M_X7_sends 2 := ⟨(lg_mem 58 (by decide +kernel) rfl), (lg_mem 850 (by decide +kernel) rfl), ⟨by decide, by decide, by decide +kernel⟩, (Nat.le_of_ble_eq_true rfl)⟩
def M_X7_calls : MI := (yX7_calls, cX7_calls, 3, (some .int), false, 3, 0, 0)
theorem lkm_X7_calls : LkM M_X7_calls 1 := ⟨(lg_mem 58 (by decide +kernel) rfl), (lg_mem 861 (by decide +kernel) rfl), ⟨by decide, by decide, by decide +kernel⟩, (Nat.le_of_ble_eq_true rfl)⟩
def M_X7_hour : MI := (yX7_hour, cX7_hour, 1, (some .int), false, 3, 0, 0)
theorem lkm_X7_hour : LkM M_X7_hour 0 := ⟨(lg_mem 58 (by decide +kernel) rfl), (lg_mem 865 (by decide +kernel) rfl), ⟨by decide, by decide, by decide +kernel⟩, (Nat.le_of_ble_eq_true rfl)⟩
def M_X7_relieves : MI := (yX7_relieves, cX7_relieves, 3, (some .int), false, 3, 0, 0)
theorem lkm_X7_relieves : LkM M_X7_relieves 2 := ⟨(lg_mem 58 (by decide +kernel) rfl), (lg_mem 873 (by decide +kernel) rfl), ⟨by decide, by decide, by decide +kernel⟩, (Nat.le_of_ble_eq_true rfl)⟩
def M_X7_undo : MI := (yX7_undo, cX7_undo, 2, (some .int), false, 1, 0, 0)
theorem lkm_X7_undo : LkM M_X7_undo 0 := ⟨(lg_mem 58 (by decide +kernel) rfl), (lg_mem 885 (by decide +kernel) rfl), ⟨by decide, by decide, by decide +kernel⟩, (Nat.le_of_ble_eq_true rfl)⟩
def M_X7_inHours : MI := (yX7_inHours, cX7_inHours, 7, (some .int), false, 4, 0, 0)
theorem lkm_X7_inHours : LkM M_X7_inHours 3 := ⟨(lg_mem 58 (by decide +kernel) rfl), (lg_mem 889 (by decide +kernel) rfl), ⟨by decide, by decide, by decide +kernel⟩, (Nat.le_of_ble_eq_true rfl)⟩
def M_X7_round : MI := (yX7_round, cX7_round, 7, (some .int), false, 3, 0, 0)
theorem lkm_X7_round : LkM M_X7_round 1 := ⟨(lg_mem 58 (by decide +kernel) rfl), (lg_mem 901 (by decide +kernel) rfl), ⟨by decide, by decide, by decide +kernel⟩, (Nat.le_of_ble_eq_true rfl)⟩
def M_X7_greatest : MI := (yX7_greatest, cX7_greatest, 3, (some .int), false, 3, 0, 0)
theorem lkm_X7_greatest : LkM M_X7_greatest 0 := ⟨(lg_mem 58 (by decide +kernel) rfl), (lg_mem 918 (by decide +kernel) rfl), ⟨by decide, by decide, by decide +kernel⟩, (Nat.le_of_ble_eq_true rfl)⟩
def M_X7_isRow : MI := (yX7_isRow, cX7_isRow, 6, (some .boolean), false, 1, 0, 0)
theorem lkm_X7_isRow : LkM M_X7_isRow 1 := ⟨(lg_mem 58 (by decide +kernel) rfl), (lg_mem 914 (by decide +kernel) rfl), ⟨by decide, by decide, by decide +kernel⟩, (Nat.le_of_ble_eq_true rfl)⟩
def M_X7_rota : MI := (yX7_rota, cX7_rota, 7, (some .int), false, 4, 0, 0)
theorem lkm_X7_rota : LkM M_X7_rota 1 := ⟨(lg_mem 58 (by decide +kernel) rfl), (lg_mem 910 (by decide +kernel) rfl), ⟨by decide, by decide, by decide +kernel⟩, (Nat.le_of_ble_eq_true rfl)⟩
def M_X7_seenBy : MI := (yX7_seenBy, cX7_seenBy, 4, (some .int), false, 1, 0, 0)
theorem lkm_X7_seenBy : LkM M_X7_seenBy 1 := ⟨(lg_mem 58 (by decide +kernel) rfl), (lg_mem 926 (by decide +kernel) rfl), ⟨by decide, by decide, by decide +kernel⟩, (Nat.le_of_ble_eq_true rfl)⟩
def M_X7_leave : MI := (yX7_leave, cX7_leave, 4, (some .int), false, 2, 0, 0)
theorem lkm_X7_leave : LkM M_X7_leave 0 := ⟨(lg_mem 58 (by decide +kernel) rfl), (lg_mem 922 (by decide +kernel) rfl), ⟨by decide, by decide, by decide +kernel⟩, (Nat.le_of_ble_eq_true rfl)⟩
def M_X7_two : MI := (yX7_two, cX7_two, 5, (some .int), false, 2, 0, 0)
theorem lkm_X7_two : LkM M_X7_two 0 := ⟨(lg_mem 58 (by decide +kernel) rfl), (lg_mem 930 (by decide +kernel) rfl), ⟨by decide, by decide, by decide +kernel⟩, (Nat.le_of_ble_eq_true rfl)⟩
def M_X7_unseen : MI := (yX7_unseen, cX7_unseen, 5, (some .int), false, 4, 0, 0)
theorem lkm_X7_unseen : LkM M_X7_unseen 2 := ⟨(lg_mem 58 (by decide +kernel) rfl), (lg_mem 934 (by decide +kernel) rfl), ⟨by decide, by decide, by decide +kernel⟩, (Nat.le_of_ble_eq_true rfl)⟩
theorem lkv_X7_120 : LkV RX7 120 M_X7_isPost := ⟨(lg_mem 808 (by decide +kernel) rfl), (lg_mem 810 (by decide +kernel) rfl), (lg_mem 31 (by decide +kernel) rfl)⟩
theorem lkv_X7_128 : LkV RX7 128 M_X7_isMan := ⟨(lg_mem 820 (by decide +kernel) rfl), (lg_mem 822 (by decide +kernel) rfl), (lg_mem 33 (by decide +kernel) rfl)⟩
theorem lkv_X7_145 : LkV RX7 145 M_X7_watchedIn := ⟨(lg_mem 839 (by decide +kernel) rfl), (lg_mem 841 (by decide +kernel) rfl), (lg_mem 36 (by decide +kernel) rfl)⟩
theorem lkv_X7_148 : LkV RX7 148 M_X7_notes := ⟨(lg_mem 851 (by decide +kernel) rfl), (lg_mem 853 (by decide +kernel) rfl), (lg_mem 38 (by decide +kernel) rfl)⟩
theorem lks_X7_151 : LkS RX7 151 M_X7_ones := ⟨(lg_mem 855 (by decide +kernel) rfl), (lg_mem 856 (by decide +kernel) rfl)⟩
theorem lkv_X7_165 : LkV RX7 165 M_X7_asNow := ⟨(lg_mem 890 (by decide +kernel) rfl), (lg_mem 892 (by decide +kernel) rfl), (lg_mem 42 (by decide +kernel) rfl)⟩
theorem lkv_X7_168 : LkV RX7 168 M_X7_goesBy := ⟨(lg_mem 894 (by decide +kernel) rfl), (lg_mem 896 (by decide +kernel) rfl), (lg_mem 43 (by decide +kernel) rfl)⟩
theorem cw_X7_171 : Cond.constant RX7 171 1000000 ∈ lw_good := (lg_mem 902 (by decide +kernel) rfl)
theorem lkv_X7_172 : LkV RX7 172 M_X7_debtStanding := ⟨(lg_mem 903 (by decide +kernel) rfl), (lg_mem 905 (by decide +kernel) rfl), (lg_mem 44 (by decide +kernel) rfl)⟩
theorem fl_X7_50 : Cond.fieldLink RX7 50 (TX7 24).1 (TX7 24).2.1 (TX7 24).2.2.1 ∈ lw_good := (lg_mem 702 (by decide +kernel) rfl)
theorem fl_X7_53 : Cond.fieldLink RX7 53 (TX7 25).1 (TX7 25).2.1 (TX7 25).2.2.1 ∈ lw_good := (lg_mem 703 (by decide +kernel) rfl)
theorem lkv_X7_175 : LkV RX7 175 M_X7_isRow := ⟨(lg_mem 911 (by decide +kernel) rfl), (lg_mem 913 (by decide +kernel) rfl), (lg_mem 45 (by decide +kernel) rfl)⟩
theorem lkv_X7_178 : LkV RX7 178 M_X7_greatest := ⟨(lg_mem 915 (by decide +kernel) rfl), (lg_mem 917 (by decide +kernel) rfl), (lg_mem 46 (by decide +kernel) rfl)⟩
theorem lkv_X7_182 : LkV RX7 182 M_X7_seenBy := ⟨(lg_mem 923 (by decide +kernel) rfl), (lg_mem 925 (by decide +kernel) rfl), (lg_mem 47 (by decide +kernel) rfl)⟩
-- PostReliefModel.post(II)I
def f_X7_post (N : Nat) (a1 : Int32) (a2 : Int32) (m_thrown : Int32) (m_many : FN) (m_sees : FN) (m_cold : FN) (m_s : FN) : Option (Int32 × Int32) :=
  ((f_X7_isPost N a1 m_many).bind fun z3 => (if z3 = 0 then some ((-1), 0) else ((f_X7_in N a2 0 3).bind fun z6 => (if z6 = 0 then some ((-1), 0) else (if a2 = 0 then (if ix a1 10 = true then some ((m_sees (ci a1)), 0) else none) else (if a2 = 1 then (if ix a1 10 = true then some ((m_cold (ci a1)), 0) else none) else (if a2 = 2 then ((f_X7_manAt_s N a1 m_many m_s).bind fun z13 => some (z13, 0)) else (if ix (13 + a1) 48 = true then some ((m_s (ci (13 + a1))), 0) else none))))))))
set_option maxHeartbeats 4000000 in
set_option maxRecDepth 100000 in
theorem m_X7_post {γ : GX} {n : Nat} {N : Nat} {h : HP} {a1 : Int32} {a2 : Int32} {m_thrown : Int32} {m_trace : Int64} {m_text : FN} {m_typed : Int32} {m_next : Int32} {m_token : Int32} {m_place : Int32} {m_value : Int32} {m_fault : Int32} {m_many : FN} {m_sees : FN} {m_cold : FN} {m_first : FN} {m_told : Int32} {m_s : FN} {m_w : FN} {m_kept : FN} {m_isKept : FN} {m_undos : FN} {m_undoMany : Int32} {m_foundMan : FN} {m_foundHours : FN} {m_foundIs : FN} {m_foundMany : Int32} {m_row : FN} {m_best : FN} (hH_m : Has n 93 (mdB γ 93 m_thrown m_trace m_text m_typed m_next m_token m_place m_value m_fault m_many m_sees m_cold m_first m_told m_s m_w m_kept m_isKept m_undos m_undoMany m_foundMan m_foundHours m_foundIs m_foundMany m_row m_best) h) {z : Int32 × Int32} (hf : f_X7_post N a1 a2 m_thrown m_many m_sees m_cold m_s = some z)  : Ct γ M_X7_post n h [.ref (gB γ + 93), .int a1, .int a2] (Done (some (.int z.1)) n (put 93 (mdB γ 93 z.2 m_trace m_text m_typed m_next m_token m_place m_value m_fault m_many m_sees m_cold m_first m_told m_s m_w m_kept m_isKept m_undos m_undoMany m_foundMan m_foundHours m_foundIs m_foundMany m_row m_best) h)) := by
  have hn_m : 93 + 16 ≤ n := hH_m.1
  refine Ct.heap (h := (put 93 (mdB γ 93 m_thrown m_trace m_text m_typed m_next m_token m_place m_value m_fault m_many m_sees m_cold m_first m_told m_s m_w m_kept m_isKept m_undos m_undoMany m_foundMan m_foundHours m_foundIs m_foundMany m_row m_best) h)) (put_self hH_m).symm ?_
  refine Ct_of_Ev (by decide) (fun h => by cases h) (Nat.le_of_ble_eq_true rfl) ?_
  show Ev γ M_X7_post (0, 0) n (put 93 (mdB γ 93 m_thrown m_trace m_text m_typed m_next m_token m_place m_value m_fault m_many m_sees m_cold m_first m_told m_s m_w m_kept m_isKept m_undos m_undoMany m_foundMan m_foundHours m_foundIs m_foundMany m_row m_best) h) [(0, .ref (gB γ + 93)), (1, .int a1), (2, .int a2)] 0 [] _
  unfold f_X7_post at hf
  refine E_aload_n 0 dX7_post_0 (q := 1) rfl rfl rfl ?_
  refine E_iconst (x := 0) dX7_post_1 (q := 2) rfl (by decide) ?_
  have hF1 : Has n 93 (mdB γ 93 m_thrown m_trace m_text m_typed m_next m_token m_place m_value m_fault m_many m_sees m_cold m_first m_told m_s m_w m_kept m_isKept m_undos m_undoMany m_foundMan m_foundHours m_foundIs m_foundMany m_row m_best) (put 93 (mdB γ 93 m_thrown m_trace m_text m_typed m_next m_token m_place m_value m_fault m_many m_sees m_cold m_first m_told m_s m_w m_kept m_isKept m_undos m_undoMany m_foundMan m_foundHours m_foundIs m_foundMany m_row m_best) h) := (has_put hn_m)
  refine E_put 0 dX7_post_2 (q := 5) rfl ckX7 (Nat.le_of_ble_eq_true rfl) fl_X7_56 rfl rfl rfl (hF1.at 0 rfl) (hF1.lt 0 (Nat.le_of_ble_eq_true rfl)) (Nat.le_of_ble_eq_true rfl) (up_put (i := 0) (cs' := (mdB γ 93 0 m_trace m_text m_typed m_next m_token m_place m_value m_fault m_many m_sees m_cold m_first m_told m_s m_w m_kept m_isKept m_undos m_undoMany m_foundMan m_foundHours m_foundIs m_foundMany m_row m_best)) (Nat.le_of_ble_eq_true rfl) rfl) ?_
  refine E_aload_n 0 dX7_post_5 (q := 6) rfl rfl rfl ?_
  refine E_iload_n 1 dX7_post_6 (q := 7) rfl rfl rfl ?_
  obtain ⟨z3, hxz3, hf⟩ := bnd hf
  have hF4 : Has n 93 (mdB γ 93 0 m_trace m_text m_typed m_next m_token m_place m_value m_fault m_many m_sees m_cold m_first m_told m_s m_w m_kept m_isKept m_undos m_undoMany m_foundMan m_foundHours m_foundIs m_foundMany m_row m_best) (put 93 (mdB γ 93 0 m_trace m_text m_typed m_next m_token m_place m_value m_fault m_many m_sees m_cold m_first m_told m_s m_w m_kept m_isKept m_undos m_undoMany m_foundMan m_foundHours m_foundIs m_foundMany m_row m_best) h) := (has_put hn_m)
  refine E_cV (as := [.int a1]) (k := 93) (rest := []) (u' := (0, 0)) (st' := [.int z3]) dX7_post_7 (q := 10) rfl lkm_X7_isPost lkv_X7_120 (Nat.le_of_ble_eq_true rfl) ckX7 (hF4.at 0 rfl) (hF4.lt 0 (Nat.le_of_ble_eq_true rfl)) ⟨Nat.le_refl _, Nat.le_refl _⟩ (Nat.le_of_ble_eq_true rfl) rfl rfl (m_X7_isPost (N := N)  hF4 hxz3) rfl rfl rfl ?_
  refine E_if_eq dX7_post_10 (t := 22) (by decide) (q := 13) rfl (fun c5 => ?_) (fun c5 => ?_)
  · have hf := if_t c5 hf
    refine E_iconst (x := (-1)) dX7_post_22 (q := 23) rfl (by decide) ?_
    obtain rfl := Option.some.inj hf
    exact E_iret dX7_post_23 rfl ⟨rfl, rfl, rfl⟩
  · have hf := if_f c5 hf
    refine E_iload_n 2 dX7_post_13 (q := 14) rfl rfl rfl ?_
    refine E_iconst (x := 0) dX7_post_14 (q := 15) rfl (by decide) ?_
    refine E_iconst (x := 3) dX7_post_15 (q := 16) rfl (by decide) ?_
    obtain ⟨z6, hxz6, hf⟩ := bnd hf
    refine E_cS (as := [.int a2, .int 0, .int 3]) (rest := []) (u' := (0, 0)) (st' := [.int z6]) dX7_post_16 (q := 19) rfl lkm_X7_in lks_X7_60 (Nat.le_of_ble_eq_true rfl) ⟨Nat.le_refl _, Nat.le_refl _⟩ (Nat.le_of_ble_eq_true rfl) rfl rfl (m_X7_in (N := N)  hxz6) rfl rfl rfl ?_
    refine E_if_ne dX7_post_19 (t := 24) (by decide) (q := 22) rfl (fun c7 => ?_) (fun c7 => ?_)
    · have hf := if_f c7 hf
      refine E_iload_n 2 dX7_post_24 (q := 25) rfl rfl rfl ?_
      refine E_if_ne dX7_post_25 (t := 37) (by decide) (q := 28) rfl (fun c8 => ?_) (fun c8 => ?_)
      · have hf := if_f c8 hf
        refine E_iload_n 2 dX7_post_37 (q := 38) rfl rfl rfl ?_
        refine E_iconst (x := 1) dX7_post_38 (q := 39) rfl (by decide) ?_
        refine E_icmp_ne dX7_post_39 (t := 51) (by decide) (q := 42) rfl (fun c10 => ?_) (fun c10 => ?_)
        · have hf := if_f c10 hf
          refine E_iload_n 2 dX7_post_51 (q := 52) rfl rfl rfl ?_
          refine E_iconst (x := 2) dX7_post_52 (q := 53) rfl (by decide) ?_
          refine E_icmp_ne dX7_post_53 (t := 68) (by decide) (q := 56) rfl (fun c12 => ?_) (fun c12 => ?_)
          · have hf := if_f c12 hf
            refine E_aload_n 0 dX7_post_68 (q := 69) rfl rfl rfl ?_
            refine E_get 14 dX7_post_69 (q := 72) rfl ckX7 (Nat.le_of_ble_eq_true rfl) fl_X7_25 (hF4.at 0 rfl) (hF4.lt 0 (Nat.le_of_ble_eq_true rfl)) rfl ?_
            refine E_bipush (x := 13) dX7_post_72 (q := 74) rfl (by decide) ?_
            refine E_iload_n 1 dX7_post_74 (q := 75) rfl rfl rfl ?_
            refine E_iadd dX7_post_75 (q := 76) rfl ?_
            obtain ⟨g14, hf⟩ := gd hf
            refine E_iald dX7_post_76 (q := 77) rfl (hF4.at 6 rfl) (hF4.lt 6 (Nat.le_of_ble_eq_true rfl)) g14 ?_
            obtain rfl := Option.some.inj hf
            exact E_iret dX7_post_77 rfl ⟨rfl, rfl, rfl⟩
          · have hf := if_t c12 hf
            refine E_aload_n 0 dX7_post_56 (q := 57) rfl rfl rfl ?_
            refine E_aload_n 0 dX7_post_57 (q := 58) rfl rfl rfl ?_
            refine E_get 14 dX7_post_58 (q := 61) rfl ckX7 (Nat.le_of_ble_eq_true rfl) fl_X7_25 (hF4.at 0 rfl) (hF4.lt 0 (Nat.le_of_ble_eq_true rfl)) rfl ?_
            refine E_iload_n 1 dX7_post_61 (q := 62) rfl rfl rfl ?_
            obtain ⟨z13, hxz13, hf⟩ := bnd hf
            refine E_cV (as := [.ref (gB γ + (93 + 6)), .int a1]) (k := 93) (rest := []) (u' := (0, 0)) (st' := [.int z13]) dX7_post_62 (q := 65) rfl lkm_X7_manAt lkv_X7_124 (Nat.le_of_ble_eq_true rfl) ckX7 (hF4.at 0 rfl) (hF4.lt 0 (Nat.le_of_ble_eq_true rfl)) ⟨Nat.le_refl _, Nat.le_refl _⟩ (Nat.le_of_ble_eq_true rfl) rfl rfl (m_X7_manAt_s (N := N)  hF4 hxz13) rfl rfl rfl ?_
            refine E_goto (q := 77) dX7_post_65 (by decide) ?_
            obtain rfl := Option.some.inj hf
            exact E_iret dX7_post_77 rfl ⟨rfl, rfl, rfl⟩
        · have hf := if_t c10 hf
          refine E_aload_n 0 dX7_post_42 (q := 43) rfl rfl rfl ?_
          refine E_get 11 dX7_post_43 (q := 46) rfl ckX7 (Nat.le_of_ble_eq_true rfl) fl_X7_19 (hF4.at 0 rfl) (hF4.lt 0 (Nat.le_of_ble_eq_true rfl)) rfl ?_
          refine E_iload_n 1 dX7_post_46 (q := 47) rfl rfl rfl ?_
          obtain ⟨g11, hf⟩ := gd hf
          refine E_iald dX7_post_47 (q := 48) rfl (hF4.at 4 rfl) (hF4.lt 4 (Nat.le_of_ble_eq_true rfl)) g11 ?_
          refine E_goto (q := 77) dX7_post_48 (by decide) ?_
          obtain rfl := Option.some.inj hf
          exact E_iret dX7_post_77 rfl ⟨rfl, rfl, rfl⟩
      · have hf := if_t c8 hf
        refine E_aload_n 0 dX7_post_28 (q := 29) rfl rfl rfl ?_
        refine E_get 10 dX7_post_29 (q := 32) rfl ckX7 (Nat.le_of_ble_eq_true rfl) fl_X7_16 (hF4.at 0 rfl) (hF4.lt 0 (Nat.le_of_ble_eq_true rfl)) rfl ?_
        refine E_iload_n 1 dX7_post_32 (q := 33) rfl rfl rfl ?_
        obtain ⟨g9, hf⟩ := gd hf
        refine E_iald dX7_post_33 (q := 34) rfl (hF4.at 3 rfl) (hF4.lt 3 (Nat.le_of_ble_eq_true rfl)) g9 ?_
        refine E_goto (q := 77) dX7_post_34 (by decide) ?_
        obtain rfl := Option.some.inj hf
        exact E_iret dX7_post_77 rfl ⟨rfl, rfl, rfl⟩
    · have hf := if_t c7 hf
      refine E_iconst (x := (-1)) dX7_post_22 (q := 23) rfl (by decide) ?_
      obtain rfl := Option.some.inj hf
      exact E_iret dX7_post_23 rfl ⟨rfl, rfl, rfl⟩

-- PostReliefModel.man(II)I
def f_X7_man (N : Nat) (a1 : Int32) (a2 : Int32) (m_thrown : Int32) (m_many : FN) (m_s : FN) : Option (Int32 × Int32) :=
  ((f_X7_isMan N a1 m_many).bind fun z3 => (if z3 = 0 then some ((-1), 0) else ((f_X7_in N a2 0 2).bind fun z6 => (if z6 = 0 then some ((-1), 0) else (if a2 = 0 then (if ix (1 + a1) 48 = true then some ((m_s (ci (1 + a1))), 0) else none) else (if a2 = 1 then (if ix (7 + a1) 48 = true then (if (m_s (ci (7 + a1))) = 0 then some ((-9), 0) else some (((m_s (ci (7 + a1))) - 1), 0)) else none) else ((f_X7_isAsleep_s N a1 m_s).bind fun z13 => (if z13 = 0 then some (0, 0) else some (1, 0)))))))))
set_option maxHeartbeats 4000000 in
set_option maxRecDepth 100000 in
theorem m_X7_man {γ : GX} {n : Nat} {N : Nat} {h : HP} {a1 : Int32} {a2 : Int32} {m_thrown : Int32} {m_trace : Int64} {m_text : FN} {m_typed : Int32} {m_next : Int32} {m_token : Int32} {m_place : Int32} {m_value : Int32} {m_fault : Int32} {m_many : FN} {m_sees : FN} {m_cold : FN} {m_first : FN} {m_told : Int32} {m_s : FN} {m_w : FN} {m_kept : FN} {m_isKept : FN} {m_undos : FN} {m_undoMany : Int32} {m_foundMan : FN} {m_foundHours : FN} {m_foundIs : FN} {m_foundMany : Int32} {m_row : FN} {m_best : FN} (hH_m : Has n 93 (mdB γ 93 m_thrown m_trace m_text m_typed m_next m_token m_place m_value m_fault m_many m_sees m_cold m_first m_told m_s m_w m_kept m_isKept m_undos m_undoMany m_foundMan m_foundHours m_foundIs m_foundMany m_row m_best) h) {z : Int32 × Int32} (hf : f_X7_man N a1 a2 m_thrown m_many m_s = some z)  : Ct γ M_X7_man n h [.ref (gB γ + 93), .int a1, .int a2] (Done (some (.int z.1)) n (put 93 (mdB γ 93 z.2 m_trace m_text m_typed m_next m_token m_place m_value m_fault m_many m_sees m_cold m_first m_told m_s m_w m_kept m_isKept m_undos m_undoMany m_foundMan m_foundHours m_foundIs m_foundMany m_row m_best) h)) := by
  have hn_m : 93 + 16 ≤ n := hH_m.1
  refine Ct.heap (h := (put 93 (mdB γ 93 m_thrown m_trace m_text m_typed m_next m_token m_place m_value m_fault m_many m_sees m_cold m_first m_told m_s m_w m_kept m_isKept m_undos m_undoMany m_foundMan m_foundHours m_foundIs m_foundMany m_row m_best) h)) (put_self hH_m).symm ?_
  refine Ct_of_Ev (by decide) (fun h => by cases h) (Nat.le_of_ble_eq_true rfl) ?_
  show Ev γ M_X7_man (0, 0) n (put 93 (mdB γ 93 m_thrown m_trace m_text m_typed m_next m_token m_place m_value m_fault m_many m_sees m_cold m_first m_told m_s m_w m_kept m_isKept m_undos m_undoMany m_foundMan m_foundHours m_foundIs m_foundMany m_row m_best) h) [(0, .ref (gB γ + 93)), (1, .int a1), (2, .int a2)] 0 [] _
  unfold f_X7_man at hf
  refine E_aload_n 0 dX7_man_0 (q := 1) rfl rfl rfl ?_
  refine E_iconst (x := 0) dX7_man_1 (q := 2) rfl (by decide) ?_
  have hF1 : Has n 93 (mdB γ 93 m_thrown m_trace m_text m_typed m_next m_token m_place m_value m_fault m_many m_sees m_cold m_first m_told m_s m_w m_kept m_isKept m_undos m_undoMany m_foundMan m_foundHours m_foundIs m_foundMany m_row m_best) (put 93 (mdB γ 93 m_thrown m_trace m_text m_typed m_next m_token m_place m_value m_fault m_many m_sees m_cold m_first m_told m_s m_w m_kept m_isKept m_undos m_undoMany m_foundMan m_foundHours m_foundIs m_foundMany m_row m_best) h) := (has_put hn_m)
  refine E_put 0 dX7_man_2 (q := 5) rfl ckX7 (Nat.le_of_ble_eq_true rfl) fl_X7_56 rfl rfl rfl (hF1.at 0 rfl) (hF1.lt 0 (Nat.le_of_ble_eq_true rfl)) (Nat.le_of_ble_eq_true rfl) (up_put (i := 0) (cs' := (mdB γ 93 0 m_trace m_text m_typed m_next m_token m_place m_value m_fault m_many m_sees m_cold m_first m_told m_s m_w m_kept m_isKept m_undos m_undoMany m_foundMan m_foundHours m_foundIs m_foundMany m_row m_best)) (Nat.le_of_ble_eq_true rfl) rfl) ?_
  refine E_aload_n 0 dX7_man_5 (q := 6) rfl rfl rfl ?_
  refine E_iload_n 1 dX7_man_6 (q := 7) rfl rfl rfl ?_
  obtain ⟨z3, hxz3, hf⟩ := bnd hf
  have hF4 : Has n 93 (mdB γ 93 0 m_trace m_text m_typed m_next m_token m_place m_value m_fault m_many m_sees m_cold m_first m_told m_s m_w m_kept m_isKept m_undos m_undoMany m_foundMan m_foundHours m_foundIs m_foundMany m_row m_best) (put 93 (mdB γ 93 0 m_trace m_text m_typed m_next m_token m_place m_value m_fault m_many m_sees m_cold m_first m_told m_s m_w m_kept m_isKept m_undos m_undoMany m_foundMan m_foundHours m_foundIs m_foundMany m_row m_best) h) := (has_put hn_m)
  refine E_cV (as := [.int a1]) (k := 93) (rest := []) (u' := (0, 0)) (st' := [.int z3]) dX7_man_7 (q := 10) rfl lkm_X7_isMan lkv_X7_128 (Nat.le_of_ble_eq_true rfl) ckX7 (hF4.at 0 rfl) (hF4.lt 0 (Nat.le_of_ble_eq_true rfl)) ⟨Nat.le_refl _, Nat.le_refl _⟩ (Nat.le_of_ble_eq_true rfl) rfl rfl (m_X7_isMan (N := N)  hF4 hxz3) rfl rfl rfl ?_
  refine E_if_eq dX7_man_10 (t := 22) (by decide) (q := 13) rfl (fun c5 => ?_) (fun c5 => ?_)
  · have hf := if_t c5 hf
    refine E_iconst (x := (-1)) dX7_man_22 (q := 23) rfl (by decide) ?_
    obtain rfl := Option.some.inj hf
    exact E_iret dX7_man_23 rfl ⟨rfl, rfl, rfl⟩
  · have hf := if_f c5 hf
    refine E_iload_n 2 dX7_man_13 (q := 14) rfl rfl rfl ?_
    refine E_iconst (x := 0) dX7_man_14 (q := 15) rfl (by decide) ?_
    refine E_iconst (x := 2) dX7_man_15 (q := 16) rfl (by decide) ?_
    obtain ⟨z6, hxz6, hf⟩ := bnd hf
    refine E_cS (as := [.int a2, .int 0, .int 2]) (rest := []) (u' := (0, 0)) (st' := [.int z6]) dX7_man_16 (q := 19) rfl lkm_X7_in lks_X7_60 (Nat.le_of_ble_eq_true rfl) ⟨Nat.le_refl _, Nat.le_refl _⟩ (Nat.le_of_ble_eq_true rfl) rfl rfl (m_X7_in (N := N)  hxz6) rfl rfl rfl ?_
    refine E_if_ne dX7_man_19 (t := 24) (by decide) (q := 22) rfl (fun c7 => ?_) (fun c7 => ?_)
    · have hf := if_f c7 hf
      refine E_iload_n 2 dX7_man_24 (q := 25) rfl rfl rfl ?_
      refine E_if_ne dX7_man_25 (t := 39) (by decide) (q := 28) rfl (fun c8 => ?_) (fun c8 => ?_)
      · have hf := if_f c8 hf
        refine E_iload_n 2 dX7_man_39 (q := 40) rfl rfl rfl ?_
        refine E_iconst (x := 1) dX7_man_40 (q := 41) rfl (by decide) ?_
        refine E_icmp_ne dX7_man_41 (t := 75) (by decide) (q := 44) rfl (fun c10 => ?_) (fun c10 => ?_)
        · have hf := if_f c10 hf
          refine E_aload_n 0 dX7_man_75 (q := 76) rfl rfl rfl ?_
          refine E_get 14 dX7_man_76 (q := 79) rfl ckX7 (Nat.le_of_ble_eq_true rfl) fl_X7_25 (hF4.at 0 rfl) (hF4.lt 0 (Nat.le_of_ble_eq_true rfl)) rfl ?_
          refine E_iload_n 1 dX7_man_79 (q := 80) rfl rfl rfl ?_
          obtain ⟨z13, hxz13, hf⟩ := bnd hf
          refine E_cS (as := [.ref (gB γ + (93 + 6)), .int a1]) (rest := []) (u' := (0, 0)) (st' := [.int z13]) dX7_man_80 (q := 83) rfl lkm_X7_isAsleep lks_X7_131 (Nat.le_of_ble_eq_true rfl) ⟨Nat.le_refl _, Nat.le_refl _⟩ (Nat.le_of_ble_eq_true rfl) rfl rfl (m_X7_isAsleep_s (N := N)  hF4 hxz13) rfl rfl rfl ?_
          refine E_if_eq dX7_man_83 (t := 90) (by decide) (q := 86) rfl (fun c14 => ?_) (fun c14 => ?_)
          · have hf := if_t c14 hf
            refine E_iconst (x := 0) dX7_man_90 (q := 91) rfl (by decide) ?_
            obtain rfl := Option.some.inj hf
            exact E_iret dX7_man_91 rfl ⟨rfl, rfl, rfl⟩
          · have hf := if_f c14 hf
            refine E_iconst (x := 1) dX7_man_86 (q := 87) rfl (by decide) ?_
            refine E_goto (q := 91) dX7_man_87 (by decide) ?_
            obtain rfl := Option.some.inj hf
            exact E_iret dX7_man_91 rfl ⟨rfl, rfl, rfl⟩
        · have hf := if_t c10 hf
          refine E_aload_n 0 dX7_man_44 (q := 45) rfl rfl rfl ?_
          refine E_get 14 dX7_man_45 (q := 48) rfl ckX7 (Nat.le_of_ble_eq_true rfl) fl_X7_25 (hF4.at 0 rfl) (hF4.lt 0 (Nat.le_of_ble_eq_true rfl)) rfl ?_
          refine E_bipush (x := 7) dX7_man_48 (q := 50) rfl (by decide) ?_
          refine E_iload_n 1 dX7_man_50 (q := 51) rfl rfl rfl ?_
          refine E_iadd dX7_man_51 (q := 52) rfl ?_
          obtain ⟨g11, hf⟩ := gd hf
          refine E_iald dX7_man_52 (q := 53) rfl (hF4.at 6 rfl) (hF4.lt 6 (Nat.le_of_ble_eq_true rfl)) g11 ?_
          refine E_if_ne dX7_man_53 (t := 61) (by decide) (q := 56) rfl (fun c12 => ?_) (fun c12 => ?_)
          · have hf := if_f c12 hf
            refine E_aload_n 0 dX7_man_61 (q := 62) rfl rfl rfl ?_
            refine E_get 14 dX7_man_62 (q := 65) rfl ckX7 (Nat.le_of_ble_eq_true rfl) fl_X7_25 (hF4.at 0 rfl) (hF4.lt 0 (Nat.le_of_ble_eq_true rfl)) rfl ?_
            refine E_bipush (x := 7) dX7_man_65 (q := 67) rfl (by decide) ?_
            refine E_iload_n 1 dX7_man_67 (q := 68) rfl rfl rfl ?_
            refine E_iadd dX7_man_68 (q := 69) rfl ?_
            refine E_iald dX7_man_69 (q := 70) rfl (hF4.at 6 rfl) (hF4.lt 6 (Nat.le_of_ble_eq_true rfl)) g11 ?_
            refine E_iconst (x := 1) dX7_man_70 (q := 71) rfl (by decide) ?_
            refine E_isub dX7_man_71 (q := 72) rfl ?_
            refine E_goto (q := 91) dX7_man_72 (by decide) ?_
            obtain rfl := Option.some.inj hf
            exact E_iret dX7_man_91 rfl ⟨rfl, rfl, rfl⟩
          · have hf := if_t c12 hf
            refine E_bipush (x := (-9)) dX7_man_56 (q := 58) rfl (by decide) ?_
            refine E_goto (q := 91) dX7_man_58 (by decide) ?_
            obtain rfl := Option.some.inj hf
            exact E_iret dX7_man_91 rfl ⟨rfl, rfl, rfl⟩
      · have hf := if_t c8 hf
        refine E_aload_n 0 dX7_man_28 (q := 29) rfl rfl rfl ?_
        refine E_get 14 dX7_man_29 (q := 32) rfl ckX7 (Nat.le_of_ble_eq_true rfl) fl_X7_25 (hF4.at 0 rfl) (hF4.lt 0 (Nat.le_of_ble_eq_true rfl)) rfl ?_
        refine E_iconst (x := 1) dX7_man_32 (q := 33) rfl (by decide) ?_
        refine E_iload_n 1 dX7_man_33 (q := 34) rfl rfl rfl ?_
        refine E_iadd dX7_man_34 (q := 35) rfl ?_
        obtain ⟨g9, hf⟩ := gd hf
        refine E_iald dX7_man_35 (q := 36) rfl (hF4.at 6 rfl) (hF4.lt 6 (Nat.le_of_ble_eq_true rfl)) g9 ?_
        refine E_goto (q := 91) dX7_man_36 (by decide) ?_
        obtain rfl := Option.some.inj hf
        exact E_iret dX7_man_91 rfl ⟨rfl, rfl, rfl⟩
    · have hf := if_t c7 hf
      refine E_iconst (x := (-1)) dX7_man_22 (q := 23) rfl (by decide) ?_
      obtain rfl := Option.some.inj hf
      exact E_iret dX7_man_23 rfl ⟨rfl, rfl, rfl⟩

-- PostReliefModel.now(I)I
def f_X7_now (N : Nat) (a1 : Int32) (m_thrown : Int32) (m_many : FN) (m_sees : FN) (m_s : FN) (m_undoMany : Int32) : Option (Int32 × Int32) :=
  ((f_X7_in N a1 0 4).bind fun z3 => (if z3 = 0 then some ((-1), 0) else (if 2 ≤ a1 then (if a1 = 2 then ((f_X7_asleep_s N m_many m_s).bind fun z8 => some (z8, 0)) else (if a1 = 3 then ((f_X7_watchedIn_s N m_many m_sees m_s).bind fun z11 => some (z11, 0)) else some (m_undoMany, 0))) else (if a1 = 0 then some ((m_s (ci 0)), 0) else ((f_X7_standing_s N m_many m_s).bind fun z16 => some (z16, 0))))))
set_option maxHeartbeats 4000000 in
set_option maxRecDepth 100000 in
theorem m_X7_now {γ : GX} {n : Nat} {N : Nat} {h : HP} {a1 : Int32} {m_thrown : Int32} {m_trace : Int64} {m_text : FN} {m_typed : Int32} {m_next : Int32} {m_token : Int32} {m_place : Int32} {m_value : Int32} {m_fault : Int32} {m_many : FN} {m_sees : FN} {m_cold : FN} {m_first : FN} {m_told : Int32} {m_s : FN} {m_w : FN} {m_kept : FN} {m_isKept : FN} {m_undos : FN} {m_undoMany : Int32} {m_foundMan : FN} {m_foundHours : FN} {m_foundIs : FN} {m_foundMany : Int32} {m_row : FN} {m_best : FN} (hH_m : Has n 93 (mdB γ 93 m_thrown m_trace m_text m_typed m_next m_token m_place m_value m_fault m_many m_sees m_cold m_first m_told m_s m_w m_kept m_isKept m_undos m_undoMany m_foundMan m_foundHours m_foundIs m_foundMany m_row m_best) h) {z : Int32 × Int32} (hf : f_X7_now N a1 m_thrown m_many m_sees m_s m_undoMany = some z)  : Ct γ M_X7_now n h [.ref (gB γ + 93), .int a1] (Done (some (.int z.1)) n (put 93 (mdB γ 93 z.2 m_trace m_text m_typed m_next m_token m_place m_value m_fault m_many m_sees m_cold m_first m_told m_s m_w m_kept m_isKept m_undos m_undoMany m_foundMan m_foundHours m_foundIs m_foundMany m_row m_best) h)) := by
  have hn_m : 93 + 16 ≤ n := hH_m.1
  refine Ct.heap (h := (put 93 (mdB γ 93 m_thrown m_trace m_text m_typed m_next m_token m_place m_value m_fault m_many m_sees m_cold m_first m_told m_s m_w m_kept m_isKept m_undos m_undoMany m_foundMan m_foundHours m_foundIs m_foundMany m_row m_best) h)) (put_self hH_m).symm ?_
  refine Ct_of_Ev (by decide) (fun h => by cases h) (Nat.le_of_ble_eq_true rfl) ?_
  show Ev γ M_X7_now (0, 0) n (put 93 (mdB γ 93 m_thrown m_trace m_text m_typed m_next m_token m_place m_value m_fault m_many m_sees m_cold m_first m_told m_s m_w m_kept m_isKept m_undos m_undoMany m_foundMan m_foundHours m_foundIs m_foundMany m_row m_best) h) [(0, .ref (gB γ + 93)), (1, .int a1)] 0 [] _
  unfold f_X7_now at hf
  refine E_aload_n 0 dX7_now_0 (q := 1) rfl rfl rfl ?_
  refine E_iconst (x := 0) dX7_now_1 (q := 2) rfl (by decide) ?_
  have hF1 : Has n 93 (mdB γ 93 m_thrown m_trace m_text m_typed m_next m_token m_place m_value m_fault m_many m_sees m_cold m_first m_told m_s m_w m_kept m_isKept m_undos m_undoMany m_foundMan m_foundHours m_foundIs m_foundMany m_row m_best) (put 93 (mdB γ 93 m_thrown m_trace m_text m_typed m_next m_token m_place m_value m_fault m_many m_sees m_cold m_first m_told m_s m_w m_kept m_isKept m_undos m_undoMany m_foundMan m_foundHours m_foundIs m_foundMany m_row m_best) h) := (has_put hn_m)
  refine E_put 0 dX7_now_2 (q := 5) rfl ckX7 (Nat.le_of_ble_eq_true rfl) fl_X7_56 rfl rfl rfl (hF1.at 0 rfl) (hF1.lt 0 (Nat.le_of_ble_eq_true rfl)) (Nat.le_of_ble_eq_true rfl) (up_put (i := 0) (cs' := (mdB γ 93 0 m_trace m_text m_typed m_next m_token m_place m_value m_fault m_many m_sees m_cold m_first m_told m_s m_w m_kept m_isKept m_undos m_undoMany m_foundMan m_foundHours m_foundIs m_foundMany m_row m_best)) (Nat.le_of_ble_eq_true rfl) rfl) ?_
  refine E_iload_n 1 dX7_now_5 (q := 6) rfl rfl rfl ?_
  refine E_iconst (x := 0) dX7_now_6 (q := 7) rfl (by decide) ?_
  refine E_iconst (x := 4) dX7_now_7 (q := 8) rfl (by decide) ?_
  obtain ⟨z3, hxz3, hf⟩ := bnd hf
  refine E_cS (as := [.int a1, .int 0, .int 4]) (rest := []) (u' := (0, 0)) (st' := [.int z3]) dX7_now_8 (q := 11) rfl lkm_X7_in lks_X7_60 (Nat.le_of_ble_eq_true rfl) ⟨Nat.le_refl _, Nat.le_refl _⟩ (Nat.le_of_ble_eq_true rfl) rfl rfl (m_X7_in (N := N)  hxz3) rfl rfl rfl ?_
  refine E_if_ne dX7_now_11 (t := 16) (by decide) (q := 14) rfl (fun c4 => ?_) (fun c4 => ?_)
  · have hf := if_f c4 hf
    refine E_iload_n 1 dX7_now_16 (q := 17) rfl rfl rfl ?_
    refine E_iconst (x := 2) dX7_now_17 (q := 18) rfl (by decide) ?_
    refine E_icmp_ge dX7_now_18 (t := 43) (by decide) (q := 21) rfl (fun c5 => ?_) (fun c5 => ?_)
    · have hf := if_t c5 hf
      refine E_iload_n 1 dX7_now_43 (q := 44) rfl rfl rfl ?_
      refine E_iconst (x := 2) dX7_now_44 (q := 45) rfl (by decide) ?_
      refine E_icmp_ne dX7_now_45 (t := 59) (by decide) (q := 48) rfl (fun c6 => ?_) (fun c6 => ?_)
      · have hf := if_f c6 hf
        refine E_iload_n 1 dX7_now_59 (q := 60) rfl rfl rfl ?_
        refine E_iconst (x := 3) dX7_now_60 (q := 61) rfl (by decide) ?_
        refine E_icmp_ne dX7_now_61 (t := 75) (by decide) (q := 64) rfl (fun c9 => ?_) (fun c9 => ?_)
        · have hf := if_f c9 hf
          refine E_aload_n 0 dX7_now_75 (q := 76) rfl rfl rfl ?_
          have hF12 : Has n 93 (mdB γ 93 0 m_trace m_text m_typed m_next m_token m_place m_value m_fault m_many m_sees m_cold m_first m_told m_s m_w m_kept m_isKept m_undos m_undoMany m_foundMan m_foundHours m_foundIs m_foundMany m_row m_best) (put 93 (mdB γ 93 0 m_trace m_text m_typed m_next m_token m_place m_value m_fault m_many m_sees m_cold m_first m_told m_s m_w m_kept m_isKept m_undos m_undoMany m_foundMan m_foundHours m_foundIs m_foundMany m_row m_best) h) := (has_put hn_m)
          refine E_get 19 dX7_now_76 (q := 79) rfl ckX7 (Nat.le_of_ble_eq_true rfl) fl_X7_117 (hF12.at 0 rfl) (hF12.lt 0 (Nat.le_of_ble_eq_true rfl)) rfl ?_
          obtain rfl := Option.some.inj hf
          exact E_iret dX7_now_79 rfl ⟨rfl, rfl, rfl⟩
        · have hf := if_t c9 hf
          refine E_aload_n 0 dX7_now_64 (q := 65) rfl rfl rfl ?_
          refine E_aload_n 0 dX7_now_65 (q := 66) rfl rfl rfl ?_
          have hF10 : Has n 93 (mdB γ 93 0 m_trace m_text m_typed m_next m_token m_place m_value m_fault m_many m_sees m_cold m_first m_told m_s m_w m_kept m_isKept m_undos m_undoMany m_foundMan m_foundHours m_foundIs m_foundMany m_row m_best) (put 93 (mdB γ 93 0 m_trace m_text m_typed m_next m_token m_place m_value m_fault m_many m_sees m_cold m_first m_told m_s m_w m_kept m_isKept m_undos m_undoMany m_foundMan m_foundHours m_foundIs m_foundMany m_row m_best) h) := (has_put hn_m)
          refine E_get 14 dX7_now_66 (q := 69) rfl ckX7 (Nat.le_of_ble_eq_true rfl) fl_X7_25 (hF10.at 0 rfl) (hF10.lt 0 (Nat.le_of_ble_eq_true rfl)) rfl ?_
          obtain ⟨z11, hxz11, hf⟩ := bnd hf
          refine E_cV (as := [.ref (gB γ + (93 + 6))]) (k := 93) (rest := []) (u' := (0, 0)) (st' := [.int z11]) dX7_now_69 (q := 72) rfl lkm_X7_watchedIn lkv_X7_145 (Nat.le_of_ble_eq_true rfl) ckX7 (hF10.at 0 rfl) (hF10.lt 0 (Nat.le_of_ble_eq_true rfl)) ⟨Nat.le_refl _, Nat.le_refl _⟩ (Nat.le_of_ble_eq_true rfl) rfl rfl (m_X7_watchedIn_s (N := N)  hF10 hxz11) rfl rfl rfl ?_
          refine E_goto (q := 79) dX7_now_72 (by decide) ?_
          obtain rfl := Option.some.inj hf
          exact E_iret dX7_now_79 rfl ⟨rfl, rfl, rfl⟩
      · have hf := if_t c6 hf
        refine E_aload_n 0 dX7_now_48 (q := 49) rfl rfl rfl ?_
        refine E_aload_n 0 dX7_now_49 (q := 50) rfl rfl rfl ?_
        have hF7 : Has n 93 (mdB γ 93 0 m_trace m_text m_typed m_next m_token m_place m_value m_fault m_many m_sees m_cold m_first m_told m_s m_w m_kept m_isKept m_undos m_undoMany m_foundMan m_foundHours m_foundIs m_foundMany m_row m_best) (put 93 (mdB γ 93 0 m_trace m_text m_typed m_next m_token m_place m_value m_fault m_many m_sees m_cold m_first m_told m_s m_w m_kept m_isKept m_undos m_undoMany m_foundMan m_foundHours m_foundIs m_foundMany m_row m_best) h) := (has_put hn_m)
        refine E_get 14 dX7_now_50 (q := 53) rfl ckX7 (Nat.le_of_ble_eq_true rfl) fl_X7_25 (hF7.at 0 rfl) (hF7.lt 0 (Nat.le_of_ble_eq_true rfl)) rfl ?_
        obtain ⟨z8, hxz8, hf⟩ := bnd hf
        refine E_cV (as := [.ref (gB γ + (93 + 6))]) (k := 93) (rest := []) (u' := (0, 0)) (st' := [.int z8]) dX7_now_53 (q := 56) rfl lkm_X7_asleep lkv_X7_139 (Nat.le_of_ble_eq_true rfl) ckX7 (hF7.at 0 rfl) (hF7.lt 0 (Nat.le_of_ble_eq_true rfl)) ⟨Nat.le_refl _, Nat.le_refl _⟩ (Nat.le_of_ble_eq_true rfl) rfl rfl (m_X7_asleep_s (N := N)  hF7 hxz8) rfl rfl rfl ?_
        refine E_goto (q := 79) dX7_now_56 (by decide) ?_
        obtain rfl := Option.some.inj hf
        exact E_iret dX7_now_79 rfl ⟨rfl, rfl, rfl⟩
    · have hf := if_f c5 hf
      refine E_iload_n 1 dX7_now_21 (q := 22) rfl rfl rfl ?_
      refine E_if_ne dX7_now_22 (t := 34) (by decide) (q := 25) rfl (fun c13 => ?_) (fun c13 => ?_)
      · have hf := if_f c13 hf
        refine E_aload_n 0 dX7_now_34 (q := 35) rfl rfl rfl ?_
        refine E_aload_n 0 dX7_now_35 (q := 36) rfl rfl rfl ?_
        have hF15 : Has n 93 (mdB γ 93 0 m_trace m_text m_typed m_next m_token m_place m_value m_fault m_many m_sees m_cold m_first m_told m_s m_w m_kept m_isKept m_undos m_undoMany m_foundMan m_foundHours m_foundIs m_foundMany m_row m_best) (put 93 (mdB γ 93 0 m_trace m_text m_typed m_next m_token m_place m_value m_fault m_many m_sees m_cold m_first m_told m_s m_w m_kept m_isKept m_undos m_undoMany m_foundMan m_foundHours m_foundIs m_foundMany m_row m_best) h) := (has_put hn_m)
        refine E_get 14 dX7_now_36 (q := 39) rfl ckX7 (Nat.le_of_ble_eq_true rfl) fl_X7_25 (hF15.at 0 rfl) (hF15.lt 0 (Nat.le_of_ble_eq_true rfl)) rfl ?_
        obtain ⟨z16, hxz16, hf⟩ := bnd hf
        refine E_cV (as := [.ref (gB γ + (93 + 6))]) (k := 93) (rest := []) (u' := (0, 0)) (st' := [.int z16]) dX7_now_39 (q := 42) rfl lkm_X7_standing lkv_X7_135 (Nat.le_of_ble_eq_true rfl) ckX7 (hF15.at 0 rfl) (hF15.lt 0 (Nat.le_of_ble_eq_true rfl)) ⟨Nat.le_refl _, Nat.le_refl _⟩ (Nat.le_of_ble_eq_true rfl) rfl rfl (m_X7_standing_s (N := N)  hF15 hxz16) rfl rfl rfl ?_
        obtain rfl := Option.some.inj hf
        exact E_iret dX7_now_42 rfl ⟨rfl, rfl, rfl⟩
      · have hf := if_t c13 hf
        refine E_aload_n 0 dX7_now_25 (q := 26) rfl rfl rfl ?_
        have hF14 : Has n 93 (mdB γ 93 0 m_trace m_text m_typed m_next m_token m_place m_value m_fault m_many m_sees m_cold m_first m_told m_s m_w m_kept m_isKept m_undos m_undoMany m_foundMan m_foundHours m_foundIs m_foundMany m_row m_best) (put 93 (mdB γ 93 0 m_trace m_text m_typed m_next m_token m_place m_value m_fault m_many m_sees m_cold m_first m_told m_s m_w m_kept m_isKept m_undos m_undoMany m_foundMan m_foundHours m_foundIs m_foundMany m_row m_best) h) := (has_put hn_m)
        refine E_get 14 dX7_now_26 (q := 29) rfl ckX7 (Nat.le_of_ble_eq_true rfl) fl_X7_25 (hF14.at 0 rfl) (hF14.lt 0 (Nat.le_of_ble_eq_true rfl)) rfl ?_
        refine E_iconst (x := 0) dX7_now_29 (q := 30) rfl (by decide) ?_
        refine E_iald dX7_now_30 (q := 31) rfl (hF14.at 6 rfl) (hF14.lt 6 (Nat.le_of_ble_eq_true rfl)) (by decide +kernel) ?_
        refine E_goto (q := 42) dX7_now_31 (by decide) ?_
        obtain rfl := Option.some.inj hf
        exact E_iret dX7_now_42 rfl ⟨rfl, rfl, rfl⟩
  · have hf := if_t c4 hf
    refine E_iconst (x := (-1)) dX7_now_14 (q := 15) rfl (by decide) ?_
    obtain rfl := Option.some.inj hf
    exact E_iret dX7_now_15 rfl ⟨rfl, rfl, rfl⟩

-- PostReliefModel.sends(II)I
def f_X7_sends (N : Nat) (a1 : Int32) (a2 : Int32) (m_thrown : Int32) (m_many : FN) (m_s : FN) (m_undos : FN) (m_undoMany : Int32) : Option (Int32 × Int32 × FN × FN × Int32) :=
  ((f_X7_isMan N a1 m_many).bind fun z3 => (if z3 = 0 then some ((-1), 0, m_s, m_undos, m_undoMany) else ((f_X7_isPost N a2 m_many).bind fun z6 => (if z6 = 0 then some ((-1), 0, m_s, m_undos, m_undoMany) else (if ix (7 + a1) 48 = true then (if 0 < (m_s (ci (7 + a1))) then some ((-2), 0, m_s, m_undos, m_undoMany) else ((f_X7_manAt_s N a2 m_many m_s).bind fun z10 => (if z10 = (-9) then ((f_X7_notes N m_s m_undos m_undoMany).bind fun z12 => (if ix (13 + a2) 48 = true then ((f_X7_standing_s N m_many (upd (upd m_s (ci (7 + a1)) (a2 + 1)) (ci (13 + a2)) 0)).bind fun z20 => ((f_X7_ones N z20).bind fun z21 => some (z21, 0, (upd (upd m_s (ci (7 + a1)) (a2 + 1)) (ci (13 + a2)) 0), z12.1, z12.2))) else none)) else some ((-2), 0, m_s, m_undos, m_undoMany)))) else none)))))
set_option maxHeartbeats 4000000 in
set_option maxRecDepth 100000 in
theorem m_X7_sends {γ : GX} {n : Nat} {N : Nat} {h : HP} {a1 : Int32} {a2 : Int32} {m_thrown : Int32} {m_trace : Int64} {m_text : FN} {m_typed : Int32} {m_next : Int32} {m_token : Int32} {m_place : Int32} {m_value : Int32} {m_fault : Int32} {m_many : FN} {m_sees : FN} {m_cold : FN} {m_first : FN} {m_told : Int32} {m_s : FN} {m_w : FN} {m_kept : FN} {m_isKept : FN} {m_undos : FN} {m_undoMany : Int32} {m_foundMan : FN} {m_foundHours : FN} {m_foundIs : FN} {m_foundMany : Int32} {m_row : FN} {m_best : FN} (hH_m : Has n 93 (mdB γ 93 m_thrown m_trace m_text m_typed m_next m_token m_place m_value m_fault m_many m_sees m_cold m_first m_told m_s m_w m_kept m_isKept m_undos m_undoMany m_foundMan m_foundHours m_foundIs m_foundMany m_row m_best) h) {z : Int32 × Int32 × FN × FN × Int32} (hf : f_X7_sends N a1 a2 m_thrown m_many m_s m_undos m_undoMany = some z)  : Ct γ M_X7_sends n h [.ref (gB γ + 93), .int a1, .int a2] (Done (some (.int z.1)) n (put 93 (mdB γ 93 z.2.1 m_trace m_text m_typed m_next m_token m_place m_value m_fault m_many m_sees m_cold m_first m_told z.2.2.1 m_w m_kept m_isKept z.2.2.2.1 z.2.2.2.2 m_foundMan m_foundHours m_foundIs m_foundMany m_row m_best) h)) := by
  have hn_m : 93 + 16 ≤ n := hH_m.1
  refine Ct.heap (h := (put 93 (mdB γ 93 m_thrown m_trace m_text m_typed m_next m_token m_place m_value m_fault m_many m_sees m_cold m_first m_told m_s m_w m_kept m_isKept m_undos m_undoMany m_foundMan m_foundHours m_foundIs m_foundMany m_row m_best) h)) (put_self hH_m).symm ?_
  refine Ct_of_Ev (by decide) (fun h => by cases h) (Nat.le_of_ble_eq_true rfl) ?_
  show Ev γ M_X7_sends (0, 0) n (put 93 (mdB γ 93 m_thrown m_trace m_text m_typed m_next m_token m_place m_value m_fault m_many m_sees m_cold m_first m_told m_s m_w m_kept m_isKept m_undos m_undoMany m_foundMan m_foundHours m_foundIs m_foundMany m_row m_best) h) [(0, .ref (gB γ + 93)), (1, .int a1), (2, .int a2)] 0 [] _
  unfold f_X7_sends at hf
  refine E_aload_n 0 dX7_sends_0 (q := 1) rfl rfl rfl ?_
  refine E_iconst (x := 0) dX7_sends_1 (q := 2) rfl (by decide) ?_
  have hF1 : Has n 93 (mdB γ 93 m_thrown m_trace m_text m_typed m_next m_token m_place m_value m_fault m_many m_sees m_cold m_first m_told m_s m_w m_kept m_isKept m_undos m_undoMany m_foundMan m_foundHours m_foundIs m_foundMany m_row m_best) (put 93 (mdB γ 93 m_thrown m_trace m_text m_typed m_next m_token m_place m_value m_fault m_many m_sees m_cold m_first m_told m_s m_w m_kept m_isKept m_undos m_undoMany m_foundMan m_foundHours m_foundIs m_foundMany m_row m_best) h) := (has_put hn_m)
  refine E_put 0 dX7_sends_2 (q := 5) rfl ckX7 (Nat.le_of_ble_eq_true rfl) fl_X7_56 rfl rfl rfl (hF1.at 0 rfl) (hF1.lt 0 (Nat.le_of_ble_eq_true rfl)) (Nat.le_of_ble_eq_true rfl) (up_put (i := 0) (cs' := (mdB γ 93 0 m_trace m_text m_typed m_next m_token m_place m_value m_fault m_many m_sees m_cold m_first m_told m_s m_w m_kept m_isKept m_undos m_undoMany m_foundMan m_foundHours m_foundIs m_foundMany m_row m_best)) (Nat.le_of_ble_eq_true rfl) rfl) ?_
  refine E_aload_n 0 dX7_sends_5 (q := 6) rfl rfl rfl ?_
  refine E_iload_n 1 dX7_sends_6 (q := 7) rfl rfl rfl ?_
  obtain ⟨z3, hxz3, hf⟩ := bnd hf
  have hF4 : Has n 93 (mdB γ 93 0 m_trace m_text m_typed m_next m_token m_place m_value m_fault m_many m_sees m_cold m_first m_told m_s m_w m_kept m_isKept m_undos m_undoMany m_foundMan m_foundHours m_foundIs m_foundMany m_row m_best) (put 93 (mdB γ 93 0 m_trace m_text m_typed m_next m_token m_place m_value m_fault m_many m_sees m_cold m_first m_told m_s m_w m_kept m_isKept m_undos m_undoMany m_foundMan m_foundHours m_foundIs m_foundMany m_row m_best) h) := (has_put hn_m)
  refine E_cV (as := [.int a1]) (k := 93) (rest := []) (u' := (0, 0)) (st' := [.int z3]) dX7_sends_7 (q := 10) rfl lkm_X7_isMan lkv_X7_128 (Nat.le_of_ble_eq_true rfl) ckX7 (hF4.at 0 rfl) (hF4.lt 0 (Nat.le_of_ble_eq_true rfl)) ⟨Nat.le_refl _, Nat.le_refl _⟩ (Nat.le_of_ble_eq_true rfl) rfl rfl (m_X7_isMan (N := N)  hF4 hxz3) rfl rfl rfl ?_
  refine E_if_eq dX7_sends_10 (t := 21) (by decide) (q := 13) rfl (fun c5 => ?_) (fun c5 => ?_)
  · have hf := if_t c5 hf
    refine E_iconst (x := (-1)) dX7_sends_21 (q := 22) rfl (by decide) ?_
    obtain rfl := Option.some.inj hf
    exact E_iret dX7_sends_22 rfl ⟨rfl, rfl, rfl⟩
  · have hf := if_f c5 hf
    refine E_aload_n 0 dX7_sends_13 (q := 14) rfl rfl rfl ?_
    refine E_iload_n 2 dX7_sends_14 (q := 15) rfl rfl rfl ?_
    obtain ⟨z6, hxz6, hf⟩ := bnd hf
    refine E_cV (as := [.int a2]) (k := 93) (rest := []) (u' := (0, 0)) (st' := [.int z6]) dX7_sends_15 (q := 18) rfl lkm_X7_isPost lkv_X7_120 (Nat.le_of_ble_eq_true rfl) ckX7 (hF4.at 0 rfl) (hF4.lt 0 (Nat.le_of_ble_eq_true rfl)) ⟨Nat.le_refl _, Nat.le_refl _⟩ (Nat.le_of_ble_eq_true rfl) rfl rfl (m_X7_isPost (N := N)  hF4 hxz6) rfl rfl rfl ?_
    refine E_if_ne dX7_sends_18 (t := 23) (by decide) (q := 21) rfl (fun c7 => ?_) (fun c7 => ?_)
    · have hf := if_f c7 hf
      refine E_aload_n 0 dX7_sends_23 (q := 24) rfl rfl rfl ?_
      refine E_get 14 dX7_sends_24 (q := 27) rfl ckX7 (Nat.le_of_ble_eq_true rfl) fl_X7_25 (hF4.at 0 rfl) (hF4.lt 0 (Nat.le_of_ble_eq_true rfl)) rfl ?_
      refine E_bipush (x := 7) dX7_sends_27 (q := 29) rfl (by decide) ?_
      refine E_iload_n 1 dX7_sends_29 (q := 30) rfl rfl rfl ?_
      refine E_iadd dX7_sends_30 (q := 31) rfl ?_
      obtain ⟨g8, hf⟩ := gd hf
      refine E_iald dX7_sends_31 (q := 32) rfl (hF4.at 6 rfl) (hF4.lt 6 (Nat.le_of_ble_eq_true rfl)) g8 ?_
      refine E_if_gt dX7_sends_32 (t := 49) (by decide) (q := 35) rfl (fun c9 => ?_) (fun c9 => ?_)
      · have hf := if_t c9 hf
        refine E_bipush (x := (-2)) dX7_sends_49 (q := 51) rfl (by decide) ?_
        obtain rfl := Option.some.inj hf
        exact E_iret dX7_sends_51 rfl ⟨rfl, rfl, rfl⟩
      · have hf := if_f c9 hf
        refine E_aload_n 0 dX7_sends_35 (q := 36) rfl rfl rfl ?_
        refine E_aload_n 0 dX7_sends_36 (q := 37) rfl rfl rfl ?_
        refine E_get 14 dX7_sends_37 (q := 40) rfl ckX7 (Nat.le_of_ble_eq_true rfl) fl_X7_25 (hF4.at 0 rfl) (hF4.lt 0 (Nat.le_of_ble_eq_true rfl)) rfl ?_
        refine E_iload_n 2 dX7_sends_40 (q := 41) rfl rfl rfl ?_
        obtain ⟨z10, hxz10, hf⟩ := bnd hf
        refine E_cV (as := [.ref (gB γ + (93 + 6)), .int a2]) (k := 93) (rest := []) (u' := (0, 0)) (st' := [.int z10]) dX7_sends_41 (q := 44) rfl lkm_X7_manAt lkv_X7_124 (Nat.le_of_ble_eq_true rfl) ckX7 (hF4.at 0 rfl) (hF4.lt 0 (Nat.le_of_ble_eq_true rfl)) ⟨Nat.le_refl _, Nat.le_refl _⟩ (Nat.le_of_ble_eq_true rfl) rfl rfl (m_X7_manAt_s (N := N)  hF4 hxz10) rfl rfl rfl ?_
        refine E_bipush (x := (-9)) dX7_sends_44 (q := 46) rfl (by decide) ?_
        refine E_icmp_eq dX7_sends_46 (t := 52) (by decide) (q := 49) rfl (fun c11 => ?_) (fun c11 => ?_)
        · have hf := if_t c11 hf
          refine E_aload_n 0 dX7_sends_52 (q := 53) rfl rfl rfl ?_
          obtain ⟨z12, hxz12, hf⟩ := bnd hf
          refine E_cV (as := []) (k := 93) (rest := []) (u' := (0, 0)) (st' := []) dX7_sends_53 (q := 56) rfl lkm_X7_notes lkv_X7_148 (Nat.le_of_ble_eq_true rfl) ckX7 (hF4.at 0 rfl) (hF4.lt 0 (Nat.le_of_ble_eq_true rfl)) ⟨Nat.le_refl _, Nat.le_refl _⟩ (Nat.le_of_ble_eq_true rfl) rfl rfl (m_X7_notes (N := N)  hF4 hxz12) rfl rfl rfl ?_
          refine Ev.heap (put_put (k := 93) (cs := (mdB γ 93 0 m_trace m_text m_typed m_next m_token m_place m_value m_fault m_many m_sees m_cold m_first m_told m_s m_w m_kept m_isKept m_undos m_undoMany m_foundMan m_foundHours m_foundIs m_foundMany m_row m_best)) (cs' := (mdB γ 93 0 m_trace m_text m_typed m_next m_token m_place m_value m_fault m_many m_sees m_cold m_first m_told m_s m_w m_kept m_isKept z12.1 z12.2 m_foundMan m_foundHours m_foundIs m_foundMany m_row m_best)) (show (16 : Nat) = 16 from rfl)) ?_
          refine E_aload_n 0 dX7_sends_56 (q := 57) rfl rfl rfl ?_
          have hF14 : Has n 93 (mdB γ 93 0 m_trace m_text m_typed m_next m_token m_place m_value m_fault m_many m_sees m_cold m_first m_told m_s m_w m_kept m_isKept z12.1 z12.2 m_foundMan m_foundHours m_foundIs m_foundMany m_row m_best) (put 93 (mdB γ 93 0 m_trace m_text m_typed m_next m_token m_place m_value m_fault m_many m_sees m_cold m_first m_told m_s m_w m_kept m_isKept z12.1 z12.2 m_foundMan m_foundHours m_foundIs m_foundMany m_row m_best) h) := (has_put hn_m)
          refine E_get 14 dX7_sends_57 (q := 60) rfl ckX7 (Nat.le_of_ble_eq_true rfl) fl_X7_25 (hF14.at 0 rfl) (hF14.lt 0 (Nat.le_of_ble_eq_true rfl)) rfl ?_
          refine E_bipush (x := 7) dX7_sends_60 (q := 62) rfl (by decide) ?_
          refine E_iload_n 1 dX7_sends_62 (q := 63) rfl rfl rfl ?_
          refine E_iadd dX7_sends_63 (q := 64) rfl ?_
          refine E_iload_n 2 dX7_sends_64 (q := 65) rfl rfl rfl ?_
          refine E_iconst (x := 1) dX7_sends_65 (q := 66) rfl (by decide) ?_
          refine E_iadd dX7_sends_66 (q := 67) rfl ?_
          refine E_iast dX7_sends_67 (q := 68) rfl (hF14.at 6 rfl) (hF14.lt 6 (Nat.le_of_ble_eq_true rfl)) g8 (up_put (i := 6) (cs' := (mdB γ 93 0 m_trace m_text m_typed m_next m_token m_place m_value m_fault m_many m_sees m_cold m_first m_told (upd m_s (ci (7 + a1)) (a2 + 1)) m_w m_kept m_isKept z12.1 z12.2 m_foundMan m_foundHours m_foundIs m_foundMany m_row m_best)) (Nat.le_of_ble_eq_true rfl) rfl) ?_
          refine E_aload_n 0 dX7_sends_68 (q := 69) rfl rfl rfl ?_
          have hF16 : Has n 93 (mdB γ 93 0 m_trace m_text m_typed m_next m_token m_place m_value m_fault m_many m_sees m_cold m_first m_told (upd m_s (ci (7 + a1)) (a2 + 1)) m_w m_kept m_isKept z12.1 z12.2 m_foundMan m_foundHours m_foundIs m_foundMany m_row m_best) (put 93 (mdB γ 93 0 m_trace m_text m_typed m_next m_token m_place m_value m_fault m_many m_sees m_cold m_first m_told (upd m_s (ci (7 + a1)) (a2 + 1)) m_w m_kept m_isKept z12.1 z12.2 m_foundMan m_foundHours m_foundIs m_foundMany m_row m_best) h) := (has_put hn_m)
          refine E_get 14 dX7_sends_69 (q := 72) rfl ckX7 (Nat.le_of_ble_eq_true rfl) fl_X7_25 (hF16.at 0 rfl) (hF16.lt 0 (Nat.le_of_ble_eq_true rfl)) rfl ?_
          refine E_bipush (x := 13) dX7_sends_72 (q := 74) rfl (by decide) ?_
          refine E_iload_n 2 dX7_sends_74 (q := 75) rfl rfl rfl ?_
          refine E_iadd dX7_sends_75 (q := 76) rfl ?_
          refine E_iconst (x := 0) dX7_sends_76 (q := 77) rfl (by decide) ?_
          obtain ⟨g17, hf⟩ := gd hf
          refine E_iast dX7_sends_77 (q := 78) rfl (hF16.at 6 rfl) (hF16.lt 6 (Nat.le_of_ble_eq_true rfl)) g17 (up_put (i := 6) (cs' := (mdB γ 93 0 m_trace m_text m_typed m_next m_token m_place m_value m_fault m_many m_sees m_cold m_first m_told (upd (upd m_s (ci (7 + a1)) (a2 + 1)) (ci (13 + a2)) 0) m_w m_kept m_isKept z12.1 z12.2 m_foundMan m_foundHours m_foundIs m_foundMany m_row m_best)) (Nat.le_of_ble_eq_true rfl) rfl) ?_
          refine E_aload_n 0 dX7_sends_78 (q := 79) rfl rfl rfl ?_
          refine E_aload_n 0 dX7_sends_79 (q := 80) rfl rfl rfl ?_
          have hF19 : Has n 93 (mdB γ 93 0 m_trace m_text m_typed m_next m_token m_place m_value m_fault m_many m_sees m_cold m_first m_told (upd (upd m_s (ci (7 + a1)) (a2 + 1)) (ci (13 + a2)) 0) m_w m_kept m_isKept z12.1 z12.2 m_foundMan m_foundHours m_foundIs m_foundMany m_row m_best) (put 93 (mdB γ 93 0 m_trace m_text m_typed m_next m_token m_place m_value m_fault m_many m_sees m_cold m_first m_told (upd (upd m_s (ci (7 + a1)) (a2 + 1)) (ci (13 + a2)) 0) m_w m_kept m_isKept z12.1 z12.2 m_foundMan m_foundHours m_foundIs m_foundMany m_row m_best) h) := (has_put hn_m)
          refine E_get 14 dX7_sends_80 (q := 83) rfl ckX7 (Nat.le_of_ble_eq_true rfl) fl_X7_25 (hF19.at 0 rfl) (hF19.lt 0 (Nat.le_of_ble_eq_true rfl)) rfl ?_
          obtain ⟨z20, hxz20, hf⟩ := bnd hf
          refine E_cV (as := [.ref (gB γ + (93 + 6))]) (k := 93) (rest := []) (u' := (0, 0)) (st' := [.int z20]) dX7_sends_83 (q := 86) rfl lkm_X7_standing lkv_X7_135 (Nat.le_of_ble_eq_true rfl) ckX7 (hF19.at 0 rfl) (hF19.lt 0 (Nat.le_of_ble_eq_true rfl)) ⟨Nat.le_refl _, Nat.le_refl _⟩ (Nat.le_of_ble_eq_true rfl) rfl rfl (m_X7_standing_s (N := N)  hF19 hxz20) rfl rfl rfl ?_
          obtain ⟨z21, hxz21, hf⟩ := bnd hf
          refine E_cS (as := [.int z20]) (rest := []) (u' := (0, 0)) (st' := [.int z21]) dX7_sends_86 (q := 89) rfl lkm_X7_ones lks_X7_151 (Nat.le_of_ble_eq_true rfl) ⟨Nat.le_refl _, Nat.le_refl _⟩ (Nat.le_of_ble_eq_true rfl) rfl rfl (m_X7_ones (N := N)  hxz21) rfl rfl rfl ?_
          obtain rfl := Option.some.inj hf
          exact E_iret dX7_sends_89 rfl ⟨rfl, rfl, rfl⟩
        · have hf := if_f c11 hf
          refine E_bipush (x := (-2)) dX7_sends_49 (q := 51) rfl (by decide) ?_
          obtain rfl := Option.some.inj hf
          exact E_iret dX7_sends_51 rfl ⟨rfl, rfl, rfl⟩
    · have hf := if_t c7 hf
      refine E_iconst (x := (-1)) dX7_sends_21 (q := 22) rfl (by decide) ?_
      obtain rfl := Option.some.inj hf
      exact E_iret dX7_sends_22 rfl ⟨rfl, rfl, rfl⟩

-- PostReliefModel.calls(I)I
def f_X7_calls (N : Nat) (a1 : Int32) (m_thrown : Int32) (m_many : FN) (m_s : FN) (m_undos : FN) (m_undoMany : Int32) : Option (Int32 × Int32 × FN × FN × Int32) :=
  ((f_X7_isPost N a1 m_many).bind fun z3 => (if z3 = 0 then some ((-1), 0, m_s, m_undos, m_undoMany) else ((f_X7_manAt_s N a1 m_many m_s).bind fun z6 => (if z6 = (-9) then some ((-2), 0, m_s, m_undos, m_undoMany) else ((f_X7_notes N m_s m_undos m_undoMany).bind fun z8 => (if ix (7 + z6) 48 = true then (if ix (13 + a1) 48 = true then some (z6, 0, (upd (upd m_s (ci (7 + z6)) 0) (ci (13 + a1)) 0), z8.1, z8.2) else none) else none))))))
set_option maxHeartbeats 4000000 in
set_option maxRecDepth 100000 in
theorem m_X7_calls {γ : GX} {n : Nat} {N : Nat} {h : HP} {a1 : Int32} {m_thrown : Int32} {m_trace : Int64} {m_text : FN} {m_typed : Int32} {m_next : Int32} {m_token : Int32} {m_place : Int32} {m_value : Int32} {m_fault : Int32} {m_many : FN} {m_sees : FN} {m_cold : FN} {m_first : FN} {m_told : Int32} {m_s : FN} {m_w : FN} {m_kept : FN} {m_isKept : FN} {m_undos : FN} {m_undoMany : Int32} {m_foundMan : FN} {m_foundHours : FN} {m_foundIs : FN} {m_foundMany : Int32} {m_row : FN} {m_best : FN} (hH_m : Has n 93 (mdB γ 93 m_thrown m_trace m_text m_typed m_next m_token m_place m_value m_fault m_many m_sees m_cold m_first m_told m_s m_w m_kept m_isKept m_undos m_undoMany m_foundMan m_foundHours m_foundIs m_foundMany m_row m_best) h) {z : Int32 × Int32 × FN × FN × Int32} (hf : f_X7_calls N a1 m_thrown m_many m_s m_undos m_undoMany = some z)  : Ct γ M_X7_calls n h [.ref (gB γ + 93), .int a1] (Done (some (.int z.1)) n (put 93 (mdB γ 93 z.2.1 m_trace m_text m_typed m_next m_token m_place m_value m_fault m_many m_sees m_cold m_first m_told z.2.2.1 m_w m_kept m_isKept z.2.2.2.1 z.2.2.2.2 m_foundMan m_foundHours m_foundIs m_foundMany m_row m_best) h)) := by
  have hn_m : 93 + 16 ≤ n := hH_m.1
  refine Ct.heap (h := (put 93 (mdB γ 93 m_thrown m_trace m_text m_typed m_next m_token m_place m_value m_fault m_many m_sees m_cold m_first m_told m_s m_w m_kept m_isKept m_undos m_undoMany m_foundMan m_foundHours m_foundIs m_foundMany m_row m_best) h)) (put_self hH_m).symm ?_
  refine Ct_of_Ev (by decide) (fun h => by cases h) (Nat.le_of_ble_eq_true rfl) ?_
  show Ev γ M_X7_calls (0, 0) n (put 93 (mdB γ 93 m_thrown m_trace m_text m_typed m_next m_token m_place m_value m_fault m_many m_sees m_cold m_first m_told m_s m_w m_kept m_isKept m_undos m_undoMany m_foundMan m_foundHours m_foundIs m_foundMany m_row m_best) h) [(0, .ref (gB γ + 93)), (1, .int a1)] 0 [] _
  unfold f_X7_calls at hf
  refine E_aload_n 0 dX7_calls_0 (q := 1) rfl rfl rfl ?_
  refine E_iconst (x := 0) dX7_calls_1 (q := 2) rfl (by decide) ?_
  have hF1 : Has n 93 (mdB γ 93 m_thrown m_trace m_text m_typed m_next m_token m_place m_value m_fault m_many m_sees m_cold m_first m_told m_s m_w m_kept m_isKept m_undos m_undoMany m_foundMan m_foundHours m_foundIs m_foundMany m_row m_best) (put 93 (mdB γ 93 m_thrown m_trace m_text m_typed m_next m_token m_place m_value m_fault m_many m_sees m_cold m_first m_told m_s m_w m_kept m_isKept m_undos m_undoMany m_foundMan m_foundHours m_foundIs m_foundMany m_row m_best) h) := (has_put hn_m)
  refine E_put 0 dX7_calls_2 (q := 5) rfl ckX7 (Nat.le_of_ble_eq_true rfl) fl_X7_56 rfl rfl rfl (hF1.at 0 rfl) (hF1.lt 0 (Nat.le_of_ble_eq_true rfl)) (Nat.le_of_ble_eq_true rfl) (up_put (i := 0) (cs' := (mdB γ 93 0 m_trace m_text m_typed m_next m_token m_place m_value m_fault m_many m_sees m_cold m_first m_told m_s m_w m_kept m_isKept m_undos m_undoMany m_foundMan m_foundHours m_foundIs m_foundMany m_row m_best)) (Nat.le_of_ble_eq_true rfl) rfl) ?_
  refine E_aload_n 0 dX7_calls_5 (q := 6) rfl rfl rfl ?_
  refine E_iload_n 1 dX7_calls_6 (q := 7) rfl rfl rfl ?_
  obtain ⟨z3, hxz3, hf⟩ := bnd hf
  have hF4 : Has n 93 (mdB γ 93 0 m_trace m_text m_typed m_next m_token m_place m_value m_fault m_many m_sees m_cold m_first m_told m_s m_w m_kept m_isKept m_undos m_undoMany m_foundMan m_foundHours m_foundIs m_foundMany m_row m_best) (put 93 (mdB γ 93 0 m_trace m_text m_typed m_next m_token m_place m_value m_fault m_many m_sees m_cold m_first m_told m_s m_w m_kept m_isKept m_undos m_undoMany m_foundMan m_foundHours m_foundIs m_foundMany m_row m_best) h) := (has_put hn_m)
  refine E_cV (as := [.int a1]) (k := 93) (rest := []) (u' := (0, 0)) (st' := [.int z3]) dX7_calls_7 (q := 10) rfl lkm_X7_isPost lkv_X7_120 (Nat.le_of_ble_eq_true rfl) ckX7 (hF4.at 0 rfl) (hF4.lt 0 (Nat.le_of_ble_eq_true rfl)) ⟨Nat.le_refl _, Nat.le_refl _⟩ (Nat.le_of_ble_eq_true rfl) rfl rfl (m_X7_isPost (N := N)  hF4 hxz3) rfl rfl rfl ?_
  refine E_if_ne dX7_calls_10 (t := 15) (by decide) (q := 13) rfl (fun c5 => ?_) (fun c5 => ?_)
  · have hf := if_f c5 hf
    refine E_aload_n 0 dX7_calls_15 (q := 16) rfl rfl rfl ?_
    refine E_aload_n 0 dX7_calls_16 (q := 17) rfl rfl rfl ?_
    refine E_get 14 dX7_calls_17 (q := 20) rfl ckX7 (Nat.le_of_ble_eq_true rfl) fl_X7_25 (hF4.at 0 rfl) (hF4.lt 0 (Nat.le_of_ble_eq_true rfl)) rfl ?_
    refine E_iload_n 1 dX7_calls_20 (q := 21) rfl rfl rfl ?_
    obtain ⟨z6, hxz6, hf⟩ := bnd hf
    refine E_cV (as := [.ref (gB γ + (93 + 6)), .int a1]) (k := 93) (rest := []) (u' := (0, 0)) (st' := [.int z6]) dX7_calls_21 (q := 24) rfl lkm_X7_manAt lkv_X7_124 (Nat.le_of_ble_eq_true rfl) ckX7 (hF4.at 0 rfl) (hF4.lt 0 (Nat.le_of_ble_eq_true rfl)) ⟨Nat.le_refl _, Nat.le_refl _⟩ (Nat.le_of_ble_eq_true rfl) rfl rfl (m_X7_manAt_s (N := N)  hF4 hxz6) rfl rfl rfl ?_
    refine E_istore_n [(2, .int z6), (0, .ref (gB γ + 93)), (1, .int a1)] dX7_calls_24 (q := 25) rfl rfl (Nat.le_of_ble_eq_true rfl) rfl ?_
    refine E_iload_n 0 dX7_calls_25 (q := 26) rfl rfl rfl ?_
    refine E_bipush (x := (-9)) dX7_calls_26 (q := 28) rfl (by decide) ?_
    refine E_icmp_ne dX7_calls_28 (t := 34) (by decide) (q := 31) rfl (fun c7 => ?_) (fun c7 => ?_)
    · have hf := if_f c7 hf
      refine E_aload_n 1 dX7_calls_34 (q := 35) rfl rfl rfl ?_
      obtain ⟨z8, hxz8, hf⟩ := bnd hf
      refine E_cV (as := []) (k := 93) (rest := []) (u' := (0, 0)) (st' := []) dX7_calls_35 (q := 38) rfl lkm_X7_notes lkv_X7_148 (Nat.le_of_ble_eq_true rfl) ckX7 (hF4.at 0 rfl) (hF4.lt 0 (Nat.le_of_ble_eq_true rfl)) ⟨Nat.le_refl _, Nat.le_refl _⟩ (Nat.le_of_ble_eq_true rfl) rfl rfl (m_X7_notes (N := N)  hF4 hxz8) rfl rfl rfl ?_
      refine Ev.heap (put_put (k := 93) (cs := (mdB γ 93 0 m_trace m_text m_typed m_next m_token m_place m_value m_fault m_many m_sees m_cold m_first m_told m_s m_w m_kept m_isKept m_undos m_undoMany m_foundMan m_foundHours m_foundIs m_foundMany m_row m_best)) (cs' := (mdB γ 93 0 m_trace m_text m_typed m_next m_token m_place m_value m_fault m_many m_sees m_cold m_first m_told m_s m_w m_kept m_isKept z8.1 z8.2 m_foundMan m_foundHours m_foundIs m_foundMany m_row m_best)) (show (16 : Nat) = 16 from rfl)) ?_
      refine E_aload_n 1 dX7_calls_38 (q := 39) rfl rfl rfl ?_
      have hF10 : Has n 93 (mdB γ 93 0 m_trace m_text m_typed m_next m_token m_place m_value m_fault m_many m_sees m_cold m_first m_told m_s m_w m_kept m_isKept z8.1 z8.2 m_foundMan m_foundHours m_foundIs m_foundMany m_row m_best) (put 93 (mdB γ 93 0 m_trace m_text m_typed m_next m_token m_place m_value m_fault m_many m_sees m_cold m_first m_told m_s m_w m_kept m_isKept z8.1 z8.2 m_foundMan m_foundHours m_foundIs m_foundMany m_row m_best) h) := (has_put hn_m)
      refine E_get 14 dX7_calls_39 (q := 42) rfl ckX7 (Nat.le_of_ble_eq_true rfl) fl_X7_25 (hF10.at 0 rfl) (hF10.lt 0 (Nat.le_of_ble_eq_true rfl)) rfl ?_
      refine E_bipush (x := 7) dX7_calls_42 (q := 44) rfl (by decide) ?_
      refine E_iload_n 0 dX7_calls_44 (q := 45) rfl rfl rfl ?_
      refine E_iadd dX7_calls_45 (q := 46) rfl ?_
      refine E_iconst (x := 0) dX7_calls_46 (q := 47) rfl (by decide) ?_
      obtain ⟨g11, hf⟩ := gd hf
      refine E_iast dX7_calls_47 (q := 48) rfl (hF10.at 6 rfl) (hF10.lt 6 (Nat.le_of_ble_eq_true rfl)) g11 (up_put (i := 6) (cs' := (mdB γ 93 0 m_trace m_text m_typed m_next m_token m_place m_value m_fault m_many m_sees m_cold m_first m_told (upd m_s (ci (7 + z6)) 0) m_w m_kept m_isKept z8.1 z8.2 m_foundMan m_foundHours m_foundIs m_foundMany m_row m_best)) (Nat.le_of_ble_eq_true rfl) rfl) ?_
      refine E_aload_n 1 dX7_calls_48 (q := 49) rfl rfl rfl ?_
      have hF13 : Has n 93 (mdB γ 93 0 m_trace m_text m_typed m_next m_token m_place m_value m_fault m_many m_sees m_cold m_first m_told (upd m_s (ci (7 + z6)) 0) m_w m_kept m_isKept z8.1 z8.2 m_foundMan m_foundHours m_foundIs m_foundMany m_row m_best) (put 93 (mdB γ 93 0 m_trace m_text m_typed m_next m_token m_place m_value m_fault m_many m_sees m_cold m_first m_told (upd m_s (ci (7 + z6)) 0) m_w m_kept m_isKept z8.1 z8.2 m_foundMan m_foundHours m_foundIs m_foundMany m_row m_best) h) := (has_put hn_m)
      refine E_get 14 dX7_calls_49 (q := 52) rfl ckX7 (Nat.le_of_ble_eq_true rfl) fl_X7_25 (hF13.at 0 rfl) (hF13.lt 0 (Nat.le_of_ble_eq_true rfl)) rfl ?_
      refine E_bipush (x := 13) dX7_calls_52 (q := 54) rfl (by decide) ?_
      refine E_iload_n 2 dX7_calls_54 (q := 55) rfl rfl rfl ?_
      refine E_iadd dX7_calls_55 (q := 56) rfl ?_
      refine E_iconst (x := 0) dX7_calls_56 (q := 57) rfl (by decide) ?_
      obtain ⟨g14, hf⟩ := gd hf
      refine E_iast dX7_calls_57 (q := 58) rfl (hF13.at 6 rfl) (hF13.lt 6 (Nat.le_of_ble_eq_true rfl)) g14 (up_put (i := 6) (cs' := (mdB γ 93 0 m_trace m_text m_typed m_next m_token m_place m_value m_fault m_many m_sees m_cold m_first m_told (upd (upd m_s (ci (7 + z6)) 0) (ci (13 + a1)) 0) m_w m_kept m_isKept z8.1 z8.2 m_foundMan m_foundHours m_foundIs m_foundMany m_row m_best)) (Nat.le_of_ble_eq_true rfl) rfl) ?_
      refine E_iload_n 0 dX7_calls_58 (q := 59) rfl rfl rfl ?_
      obtain rfl := Option.some.inj hf
      exact E_iret dX7_calls_59 rfl ⟨rfl, rfl, rfl⟩
    · have hf := if_t c7 hf
      refine E_bipush (x := (-2)) dX7_calls_31 (q := 33) rfl (by decide) ?_
      obtain rfl := Option.some.inj hf
      exact E_iret dX7_calls_33 rfl ⟨rfl, rfl, rfl⟩
  · have hf := if_t c5 hf
    refine E_iconst (x := (-1)) dX7_calls_13 (q := 14) rfl (by decide) ?_
    obtain rfl := Option.some.inj hf
    exact E_iret dX7_calls_14 rfl ⟨rfl, rfl, rfl⟩

-- PostReliefModel.hour()I
def f_X7_hour (N : Nat) (m_thrown : Int32) (m_many : FN) (m_cold : FN) (m_s : FN) (m_undos : FN) (m_undoMany : Int32) : Option (Int32 × Int32 × FN × FN × Int32) :=
  (if (m_s (ci 0)) = 200 then some ((-2), 0, m_s, m_undos, m_undoMany) else ((f_X7_notes N m_s m_undos m_undoMany).bind fun z5 => ((f_X7_goes_s N m_many m_cold m_s).bind fun z8 => ((f_X7_asleep_s N m_many z8).bind fun z11 => some (z11, 0, z8, z5.1, z5.2)))))
set_option maxHeartbeats 4000000 in
set_option maxRecDepth 100000 in
theorem m_X7_hour {γ : GX} {n : Nat} {N : Nat} {h : HP} {m_thrown : Int32} {m_trace : Int64} {m_text : FN} {m_typed : Int32} {m_next : Int32} {m_token : Int32} {m_place : Int32} {m_value : Int32} {m_fault : Int32} {m_many : FN} {m_sees : FN} {m_cold : FN} {m_first : FN} {m_told : Int32} {m_s : FN} {m_w : FN} {m_kept : FN} {m_isKept : FN} {m_undos : FN} {m_undoMany : Int32} {m_foundMan : FN} {m_foundHours : FN} {m_foundIs : FN} {m_foundMany : Int32} {m_row : FN} {m_best : FN} (hH_m : Has n 93 (mdB γ 93 m_thrown m_trace m_text m_typed m_next m_token m_place m_value m_fault m_many m_sees m_cold m_first m_told m_s m_w m_kept m_isKept m_undos m_undoMany m_foundMan m_foundHours m_foundIs m_foundMany m_row m_best) h) {z : Int32 × Int32 × FN × FN × Int32} (hf : f_X7_hour N m_thrown m_many m_cold m_s m_undos m_undoMany = some z)  : Ct γ M_X7_hour n h [.ref (gB γ + 93)] (Done (some (.int z.1)) n (put 93 (mdB γ 93 z.2.1 m_trace m_text m_typed m_next m_token m_place m_value m_fault m_many m_sees m_cold m_first m_told z.2.2.1 m_w m_kept m_isKept z.2.2.2.1 z.2.2.2.2 m_foundMan m_foundHours m_foundIs m_foundMany m_row m_best) h)) := by
  have hn_m : 93 + 16 ≤ n := hH_m.1
  refine Ct.heap (h := (put 93 (mdB γ 93 m_thrown m_trace m_text m_typed m_next m_token m_place m_value m_fault m_many m_sees m_cold m_first m_told m_s m_w m_kept m_isKept m_undos m_undoMany m_foundMan m_foundHours m_foundIs m_foundMany m_row m_best) h)) (put_self hH_m).symm ?_
  refine Ct_of_Ev (by decide) (fun h => by cases h) (Nat.le_of_ble_eq_true rfl) ?_
  show Ev γ M_X7_hour (0, 0) n (put 93 (mdB γ 93 m_thrown m_trace m_text m_typed m_next m_token m_place m_value m_fault m_many m_sees m_cold m_first m_told m_s m_w m_kept m_isKept m_undos m_undoMany m_foundMan m_foundHours m_foundIs m_foundMany m_row m_best) h) [(0, .ref (gB γ + 93))] 0 [] _
  unfold f_X7_hour at hf
  refine E_aload_n 0 dX7_hour_0 (q := 1) rfl rfl rfl ?_
  refine E_iconst (x := 0) dX7_hour_1 (q := 2) rfl (by decide) ?_
  have hF1 : Has n 93 (mdB γ 93 m_thrown m_trace m_text m_typed m_next m_token m_place m_value m_fault m_many m_sees m_cold m_first m_told m_s m_w m_kept m_isKept m_undos m_undoMany m_foundMan m_foundHours m_foundIs m_foundMany m_row m_best) (put 93 (mdB γ 93 m_thrown m_trace m_text m_typed m_next m_token m_place m_value m_fault m_many m_sees m_cold m_first m_told m_s m_w m_kept m_isKept m_undos m_undoMany m_foundMan m_foundHours m_foundIs m_foundMany m_row m_best) h) := (has_put hn_m)
  refine E_put 0 dX7_hour_2 (q := 5) rfl ckX7 (Nat.le_of_ble_eq_true rfl) fl_X7_56 rfl rfl rfl (hF1.at 0 rfl) (hF1.lt 0 (Nat.le_of_ble_eq_true rfl)) (Nat.le_of_ble_eq_true rfl) (up_put (i := 0) (cs' := (mdB γ 93 0 m_trace m_text m_typed m_next m_token m_place m_value m_fault m_many m_sees m_cold m_first m_told m_s m_w m_kept m_isKept m_undos m_undoMany m_foundMan m_foundHours m_foundIs m_foundMany m_row m_best)) (Nat.le_of_ble_eq_true rfl) rfl) ?_
  refine E_aload_n 0 dX7_hour_5 (q := 6) rfl rfl rfl ?_
  have hF3 : Has n 93 (mdB γ 93 0 m_trace m_text m_typed m_next m_token m_place m_value m_fault m_many m_sees m_cold m_first m_told m_s m_w m_kept m_isKept m_undos m_undoMany m_foundMan m_foundHours m_foundIs m_foundMany m_row m_best) (put 93 (mdB γ 93 0 m_trace m_text m_typed m_next m_token m_place m_value m_fault m_many m_sees m_cold m_first m_told m_s m_w m_kept m_isKept m_undos m_undoMany m_foundMan m_foundHours m_foundIs m_foundMany m_row m_best) h) := (has_put hn_m)
  refine E_get 14 dX7_hour_6 (q := 9) rfl ckX7 (Nat.le_of_ble_eq_true rfl) fl_X7_25 (hF3.at 0 rfl) (hF3.lt 0 (Nat.le_of_ble_eq_true rfl)) rfl ?_
  refine E_iconst (x := 0) dX7_hour_9 (q := 10) rfl (by decide) ?_
  refine E_iald dX7_hour_10 (q := 11) rfl (hF3.at 6 rfl) (hF3.lt 6 (Nat.le_of_ble_eq_true rfl)) (by decide +kernel) ?_
  refine E_sipush (x := 200) dX7_hour_11 (q := 14) rfl (by decide) ?_
  refine E_icmp_ne dX7_hour_14 (t := 20) (by decide) (q := 17) rfl (fun c4 => ?_) (fun c4 => ?_)
  · have hf := if_f c4 hf
    refine E_aload_n 0 dX7_hour_20 (q := 21) rfl rfl rfl ?_
    obtain ⟨z5, hxz5, hf⟩ := bnd hf
    refine E_cV (as := []) (k := 93) (rest := []) (u' := (0, 0)) (st' := []) dX7_hour_21 (q := 24) rfl lkm_X7_notes lkv_X7_148 (Nat.le_of_ble_eq_true rfl) ckX7 (hF3.at 0 rfl) (hF3.lt 0 (Nat.le_of_ble_eq_true rfl)) ⟨Nat.le_refl _, Nat.le_refl _⟩ (Nat.le_of_ble_eq_true rfl) rfl rfl (m_X7_notes (N := N)  hF3 hxz5) rfl rfl rfl ?_
    refine Ev.heap (put_put (k := 93) (cs := (mdB γ 93 0 m_trace m_text m_typed m_next m_token m_place m_value m_fault m_many m_sees m_cold m_first m_told m_s m_w m_kept m_isKept m_undos m_undoMany m_foundMan m_foundHours m_foundIs m_foundMany m_row m_best)) (cs' := (mdB γ 93 0 m_trace m_text m_typed m_next m_token m_place m_value m_fault m_many m_sees m_cold m_first m_told m_s m_w m_kept m_isKept z5.1 z5.2 m_foundMan m_foundHours m_foundIs m_foundMany m_row m_best)) (show (16 : Nat) = 16 from rfl)) ?_
    refine E_aload_n 0 dX7_hour_24 (q := 25) rfl rfl rfl ?_
    refine E_aload_n 0 dX7_hour_25 (q := 26) rfl rfl rfl ?_
    have hF7 : Has n 93 (mdB γ 93 0 m_trace m_text m_typed m_next m_token m_place m_value m_fault m_many m_sees m_cold m_first m_told m_s m_w m_kept m_isKept z5.1 z5.2 m_foundMan m_foundHours m_foundIs m_foundMany m_row m_best) (put 93 (mdB γ 93 0 m_trace m_text m_typed m_next m_token m_place m_value m_fault m_many m_sees m_cold m_first m_told m_s m_w m_kept m_isKept z5.1 z5.2 m_foundMan m_foundHours m_foundIs m_foundMany m_row m_best) h) := (has_put hn_m)
    refine E_get 14 dX7_hour_26 (q := 29) rfl ckX7 (Nat.le_of_ble_eq_true rfl) fl_X7_25 (hF7.at 0 rfl) (hF7.lt 0 (Nat.le_of_ble_eq_true rfl)) rfl ?_
    obtain ⟨z8, hxz8, hf⟩ := bnd hf
    refine E_cV (as := [.ref (gB γ + (93 + 6))]) (k := 93) (rest := []) (u' := (0, 0)) (st' := []) dX7_hour_29 (q := 32) rfl lkm_X7_goes lkv_X7_154 (Nat.le_of_ble_eq_true rfl) ckX7 (hF7.at 0 rfl) (hF7.lt 0 (Nat.le_of_ble_eq_true rfl)) ⟨Nat.le_refl _, Nat.le_refl _⟩ (Nat.le_of_ble_eq_true rfl) rfl rfl (m_X7_goes_s (N := N)  hF7 hxz8) rfl rfl rfl ?_
    refine Ev.heap (put_put (k := 93) (cs := (mdB γ 93 0 m_trace m_text m_typed m_next m_token m_place m_value m_fault m_many m_sees m_cold m_first m_told m_s m_w m_kept m_isKept z5.1 z5.2 m_foundMan m_foundHours m_foundIs m_foundMany m_row m_best)) (cs' := (mdB γ 93 0 m_trace m_text m_typed m_next m_token m_place m_value m_fault m_many m_sees m_cold m_first m_told z8 m_w m_kept m_isKept z5.1 z5.2 m_foundMan m_foundHours m_foundIs m_foundMany m_row m_best)) (show (16 : Nat) = 16 from rfl)) ?_
    refine E_aload_n 0 dX7_hour_32 (q := 33) rfl rfl rfl ?_
    refine E_aload_n 0 dX7_hour_33 (q := 34) rfl rfl rfl ?_
    have hF10 : Has n 93 (mdB γ 93 0 m_trace m_text m_typed m_next m_token m_place m_value m_fault m_many m_sees m_cold m_first m_told z8 m_w m_kept m_isKept z5.1 z5.2 m_foundMan m_foundHours m_foundIs m_foundMany m_row m_best) (put 93 (mdB γ 93 0 m_trace m_text m_typed m_next m_token m_place m_value m_fault m_many m_sees m_cold m_first m_told z8 m_w m_kept m_isKept z5.1 z5.2 m_foundMan m_foundHours m_foundIs m_foundMany m_row m_best) h) := (has_put hn_m)
    refine E_get 14 dX7_hour_34 (q := 37) rfl ckX7 (Nat.le_of_ble_eq_true rfl) fl_X7_25 (hF10.at 0 rfl) (hF10.lt 0 (Nat.le_of_ble_eq_true rfl)) rfl ?_
    obtain ⟨z11, hxz11, hf⟩ := bnd hf
    refine E_cV (as := [.ref (gB γ + (93 + 6))]) (k := 93) (rest := []) (u' := (0, 0)) (st' := [.int z11]) dX7_hour_37 (q := 40) rfl lkm_X7_asleep lkv_X7_139 (Nat.le_of_ble_eq_true rfl) ckX7 (hF10.at 0 rfl) (hF10.lt 0 (Nat.le_of_ble_eq_true rfl)) ⟨Nat.le_refl _, Nat.le_refl _⟩ (Nat.le_of_ble_eq_true rfl) rfl rfl (m_X7_asleep_s (N := N)  hF10 hxz11) rfl rfl rfl ?_
    obtain rfl := Option.some.inj hf
    exact E_iret dX7_hour_40 rfl ⟨rfl, rfl, rfl⟩
  · have hf := if_t c4 hf
    refine E_bipush (x := (-2)) dX7_hour_17 (q := 19) rfl (by decide) ?_
    obtain rfl := Option.some.inj hf
    exact E_iret dX7_hour_19 rfl ⟨rfl, rfl, rfl⟩

-- PostReliefModel.relieves(II)I
def f_X7_relieves (N : Nat) (a1 : Int32) (a2 : Int32) (m_thrown : Int32) (m_many : FN) (m_s : FN) (m_undos : FN) (m_undoMany : Int32) : Option (Int32 × Int32 × FN × FN × Int32) :=
  ((f_X7_isPost N a1 m_many).bind fun z3 => (if z3 = 0 then some ((-1), 0, m_s, m_undos, m_undoMany) else ((f_X7_in N a2 0 1).bind fun z6 => (if z6 = 0 then some ((-1), 0, m_s, m_undos, m_undoMany) else ((f_X7_notes N m_s m_undos m_undoMany).bind fun z8 => ((f_X7_relieved_s N a1 a2 m_many m_s).bind fun z11 => some (z11.1, 0, z11.2, z8.1, z8.2)))))))
set_option maxHeartbeats 4000000 in
set_option maxRecDepth 100000 in
theorem m_X7_relieves {γ : GX} {n : Nat} {N : Nat} {h : HP} {a1 : Int32} {a2 : Int32} {m_thrown : Int32} {m_trace : Int64} {m_text : FN} {m_typed : Int32} {m_next : Int32} {m_token : Int32} {m_place : Int32} {m_value : Int32} {m_fault : Int32} {m_many : FN} {m_sees : FN} {m_cold : FN} {m_first : FN} {m_told : Int32} {m_s : FN} {m_w : FN} {m_kept : FN} {m_isKept : FN} {m_undos : FN} {m_undoMany : Int32} {m_foundMan : FN} {m_foundHours : FN} {m_foundIs : FN} {m_foundMany : Int32} {m_row : FN} {m_best : FN} (hH_m : Has n 93 (mdB γ 93 m_thrown m_trace m_text m_typed m_next m_token m_place m_value m_fault m_many m_sees m_cold m_first m_told m_s m_w m_kept m_isKept m_undos m_undoMany m_foundMan m_foundHours m_foundIs m_foundMany m_row m_best) h) {z : Int32 × Int32 × FN × FN × Int32} (hf : f_X7_relieves N a1 a2 m_thrown m_many m_s m_undos m_undoMany = some z)  : Ct γ M_X7_relieves n h [.ref (gB γ + 93), .int a1, .int a2] (Done (some (.int z.1)) n (put 93 (mdB γ 93 z.2.1 m_trace m_text m_typed m_next m_token m_place m_value m_fault m_many m_sees m_cold m_first m_told z.2.2.1 m_w m_kept m_isKept z.2.2.2.1 z.2.2.2.2 m_foundMan m_foundHours m_foundIs m_foundMany m_row m_best) h)) := by
  have hn_m : 93 + 16 ≤ n := hH_m.1
  refine Ct.heap (h := (put 93 (mdB γ 93 m_thrown m_trace m_text m_typed m_next m_token m_place m_value m_fault m_many m_sees m_cold m_first m_told m_s m_w m_kept m_isKept m_undos m_undoMany m_foundMan m_foundHours m_foundIs m_foundMany m_row m_best) h)) (put_self hH_m).symm ?_
  refine Ct_of_Ev (by decide) (fun h => by cases h) (Nat.le_of_ble_eq_true rfl) ?_
  show Ev γ M_X7_relieves (0, 0) n (put 93 (mdB γ 93 m_thrown m_trace m_text m_typed m_next m_token m_place m_value m_fault m_many m_sees m_cold m_first m_told m_s m_w m_kept m_isKept m_undos m_undoMany m_foundMan m_foundHours m_foundIs m_foundMany m_row m_best) h) [(0, .ref (gB γ + 93)), (1, .int a1), (2, .int a2)] 0 [] _
  unfold f_X7_relieves at hf
  refine E_aload_n 0 dX7_relieves_0 (q := 1) rfl rfl rfl ?_
  refine E_iconst (x := 0) dX7_relieves_1 (q := 2) rfl (by decide) ?_
  have hF1 : Has n 93 (mdB γ 93 m_thrown m_trace m_text m_typed m_next m_token m_place m_value m_fault m_many m_sees m_cold m_first m_told m_s m_w m_kept m_isKept m_undos m_undoMany m_foundMan m_foundHours m_foundIs m_foundMany m_row m_best) (put 93 (mdB γ 93 m_thrown m_trace m_text m_typed m_next m_token m_place m_value m_fault m_many m_sees m_cold m_first m_told m_s m_w m_kept m_isKept m_undos m_undoMany m_foundMan m_foundHours m_foundIs m_foundMany m_row m_best) h) := (has_put hn_m)
  refine E_put 0 dX7_relieves_2 (q := 5) rfl ckX7 (Nat.le_of_ble_eq_true rfl) fl_X7_56 rfl rfl rfl (hF1.at 0 rfl) (hF1.lt 0 (Nat.le_of_ble_eq_true rfl)) (Nat.le_of_ble_eq_true rfl) (up_put (i := 0) (cs' := (mdB γ 93 0 m_trace m_text m_typed m_next m_token m_place m_value m_fault m_many m_sees m_cold m_first m_told m_s m_w m_kept m_isKept m_undos m_undoMany m_foundMan m_foundHours m_foundIs m_foundMany m_row m_best)) (Nat.le_of_ble_eq_true rfl) rfl) ?_
  refine E_aload_n 0 dX7_relieves_5 (q := 6) rfl rfl rfl ?_
  refine E_iload_n 1 dX7_relieves_6 (q := 7) rfl rfl rfl ?_
  obtain ⟨z3, hxz3, hf⟩ := bnd hf
  have hF4 : Has n 93 (mdB γ 93 0 m_trace m_text m_typed m_next m_token m_place m_value m_fault m_many m_sees m_cold m_first m_told m_s m_w m_kept m_isKept m_undos m_undoMany m_foundMan m_foundHours m_foundIs m_foundMany m_row m_best) (put 93 (mdB γ 93 0 m_trace m_text m_typed m_next m_token m_place m_value m_fault m_many m_sees m_cold m_first m_told m_s m_w m_kept m_isKept m_undos m_undoMany m_foundMan m_foundHours m_foundIs m_foundMany m_row m_best) h) := (has_put hn_m)
  refine E_cV (as := [.int a1]) (k := 93) (rest := []) (u' := (0, 0)) (st' := [.int z3]) dX7_relieves_7 (q := 10) rfl lkm_X7_isPost lkv_X7_120 (Nat.le_of_ble_eq_true rfl) ckX7 (hF4.at 0 rfl) (hF4.lt 0 (Nat.le_of_ble_eq_true rfl)) ⟨Nat.le_refl _, Nat.le_refl _⟩ (Nat.le_of_ble_eq_true rfl) rfl rfl (m_X7_isPost (N := N)  hF4 hxz3) rfl rfl rfl ?_
  refine E_if_eq dX7_relieves_10 (t := 22) (by decide) (q := 13) rfl (fun c5 => ?_) (fun c5 => ?_)
  · have hf := if_t c5 hf
    refine E_iconst (x := (-1)) dX7_relieves_22 (q := 23) rfl (by decide) ?_
    obtain rfl := Option.some.inj hf
    exact E_iret dX7_relieves_23 rfl ⟨rfl, rfl, rfl⟩
  · have hf := if_f c5 hf
    refine E_iload_n 2 dX7_relieves_13 (q := 14) rfl rfl rfl ?_
    refine E_iconst (x := 0) dX7_relieves_14 (q := 15) rfl (by decide) ?_
    refine E_iconst (x := 1) dX7_relieves_15 (q := 16) rfl (by decide) ?_
    obtain ⟨z6, hxz6, hf⟩ := bnd hf
    refine E_cS (as := [.int a2, .int 0, .int 1]) (rest := []) (u' := (0, 0)) (st' := [.int z6]) dX7_relieves_16 (q := 19) rfl lkm_X7_in lks_X7_60 (Nat.le_of_ble_eq_true rfl) ⟨Nat.le_refl _, Nat.le_refl _⟩ (Nat.le_of_ble_eq_true rfl) rfl rfl (m_X7_in (N := N)  hxz6) rfl rfl rfl ?_
    refine E_if_ne dX7_relieves_19 (t := 24) (by decide) (q := 22) rfl (fun c7 => ?_) (fun c7 => ?_)
    · have hf := if_f c7 hf
      refine E_aload_n 0 dX7_relieves_24 (q := 25) rfl rfl rfl ?_
      obtain ⟨z8, hxz8, hf⟩ := bnd hf
      refine E_cV (as := []) (k := 93) (rest := []) (u' := (0, 0)) (st' := []) dX7_relieves_25 (q := 28) rfl lkm_X7_notes lkv_X7_148 (Nat.le_of_ble_eq_true rfl) ckX7 (hF4.at 0 rfl) (hF4.lt 0 (Nat.le_of_ble_eq_true rfl)) ⟨Nat.le_refl _, Nat.le_refl _⟩ (Nat.le_of_ble_eq_true rfl) rfl rfl (m_X7_notes (N := N)  hF4 hxz8) rfl rfl rfl ?_
      refine Ev.heap (put_put (k := 93) (cs := (mdB γ 93 0 m_trace m_text m_typed m_next m_token m_place m_value m_fault m_many m_sees m_cold m_first m_told m_s m_w m_kept m_isKept m_undos m_undoMany m_foundMan m_foundHours m_foundIs m_foundMany m_row m_best)) (cs' := (mdB γ 93 0 m_trace m_text m_typed m_next m_token m_place m_value m_fault m_many m_sees m_cold m_first m_told m_s m_w m_kept m_isKept z8.1 z8.2 m_foundMan m_foundHours m_foundIs m_foundMany m_row m_best)) (show (16 : Nat) = 16 from rfl)) ?_
      refine E_aload_n 0 dX7_relieves_28 (q := 29) rfl rfl rfl ?_
      refine E_aload_n 0 dX7_relieves_29 (q := 30) rfl rfl rfl ?_
      have hF10 : Has n 93 (mdB γ 93 0 m_trace m_text m_typed m_next m_token m_place m_value m_fault m_many m_sees m_cold m_first m_told m_s m_w m_kept m_isKept z8.1 z8.2 m_foundMan m_foundHours m_foundIs m_foundMany m_row m_best) (put 93 (mdB γ 93 0 m_trace m_text m_typed m_next m_token m_place m_value m_fault m_many m_sees m_cold m_first m_told m_s m_w m_kept m_isKept z8.1 z8.2 m_foundMan m_foundHours m_foundIs m_foundMany m_row m_best) h) := (has_put hn_m)
      refine E_get 14 dX7_relieves_30 (q := 33) rfl ckX7 (Nat.le_of_ble_eq_true rfl) fl_X7_25 (hF10.at 0 rfl) (hF10.lt 0 (Nat.le_of_ble_eq_true rfl)) rfl ?_
      refine E_iload_n 1 dX7_relieves_33 (q := 34) rfl rfl rfl ?_
      refine E_iload_n 2 dX7_relieves_34 (q := 35) rfl rfl rfl ?_
      obtain ⟨z11, hxz11, hf⟩ := bnd hf
      refine E_cV (as := [.ref (gB γ + (93 + 6)), .int a1, .int a2]) (k := 93) (rest := []) (u' := (0, 0)) (st' := [.int z11.1]) dX7_relieves_35 (q := 38) rfl lkm_X7_relieved lkv_X7_161 (Nat.le_of_ble_eq_true rfl) ckX7 (hF10.at 0 rfl) (hF10.lt 0 (Nat.le_of_ble_eq_true rfl)) ⟨Nat.le_refl _, Nat.le_refl _⟩ (Nat.le_of_ble_eq_true rfl) rfl rfl (m_X7_relieved_s (N := N)  hF10 hxz11) rfl rfl rfl ?_
      refine Ev.heap (put_put (k := 93) (cs := (mdB γ 93 0 m_trace m_text m_typed m_next m_token m_place m_value m_fault m_many m_sees m_cold m_first m_told m_s m_w m_kept m_isKept z8.1 z8.2 m_foundMan m_foundHours m_foundIs m_foundMany m_row m_best)) (cs' := (mdB γ 93 0 m_trace m_text m_typed m_next m_token m_place m_value m_fault m_many m_sees m_cold m_first m_told z11.2 m_w m_kept m_isKept z8.1 z8.2 m_foundMan m_foundHours m_foundIs m_foundMany m_row m_best)) (show (16 : Nat) = 16 from rfl)) ?_
      obtain rfl := Option.some.inj hf
      exact E_iret dX7_relieves_38 rfl ⟨rfl, rfl, rfl⟩
    · have hf := if_t c7 hf
      refine E_iconst (x := (-1)) dX7_relieves_22 (q := 23) rfl (by decide) ?_
      obtain rfl := Option.some.inj hf
      exact E_iret dX7_relieves_23 rfl ⟨rfl, rfl, rfl⟩

-- PostReliefModel.undo()I
def b_X7_undo_1 (N : Nat) (m_undos : FN) (m_undoMany : Int32) (v1 : Int32) (m_s : FN) : Option ((Int32 × FN) ⊕ (FN)) :=
  (if 48 ≤ v1 then some (.inr m_s) else (if ix ((48 * m_undoMany) + v1) 480 = true then (if ix v1 48 = true then some (.inl ((v1 + 1), (upd m_s (ci v1) (m_undos (ci ((48 * m_undoMany) + v1)))))) else none) else none))
def f_X7_undo (N : Nat) (m_thrown : Int32) (m_s : FN) (m_undos : FN) (m_undoMany : Int32) : Option (Int32 × Int32 × FN × Int32) :=
  (if m_undoMany = 0 then some ((-2), 0, m_s, m_undoMany) else ((lp (fun s => b_X7_undo_1 N m_undos (m_undoMany - 1) s.1 s.2) N (0, m_s)).bind fun t12 => some ((m_undoMany - 1), 0, t12, (m_undoMany - 1))))
set_option maxHeartbeats 4000000 in
set_option maxRecDepth 100000 in
theorem L_X7_undo_1 {γ : GX} {n : Nat} {h : HP} {Ψ : PS} {N : Nat} {m_thrown : Int32} {m_trace : Int64} {m_text : FN} {m_typed : Int32} {m_next : Int32} {m_token : Int32} {m_place : Int32} {m_value : Int32} {m_fault : Int32} {m_many : FN} {m_sees : FN} {m_cold : FN} {m_first : FN} {m_told : Int32} {m_w : FN} {m_kept : FN} {m_isKept : FN} {m_undos : FN} {m_undoMany : Int32} {m_foundMan : FN} {m_foundHours : FN} {m_foundIs : FN} {m_foundMany : Int32} {m_row : FN} {m_best : FN} (hn_m : 93 + 16 ≤ n) {s0 : Int32 × FN} {t : FN} (hf : lp (fun s => b_X7_undo_1 N m_undos m_undoMany s.1 s.2) N s0 = some t) (K : Ev γ M_X7_undo (0, 0) n (put 93 (mdB γ 93 m_thrown m_trace m_text m_typed m_next m_token m_place m_value m_fault m_many m_sees m_cold m_first m_told t m_w m_kept m_isKept m_undos m_undoMany m_foundMan m_foundHours m_foundIs m_foundMany m_row m_best) h) [(0, .ref (gB γ + 93))] 59 [] Ψ) : Ev γ M_X7_undo (0, 0) n (put 93 (mdB γ 93 m_thrown m_trace m_text m_typed m_next m_token m_place m_value m_fault m_many m_sees m_cold m_first m_told s0.2 m_w m_kept m_isKept m_undos m_undoMany m_foundMan m_foundHours m_foundIs m_foundMany m_row m_best) h) [(0, .ref (gB γ + 93)), (1, .int s0.1)] 27 [] Ψ := by
  refine E_lp (P := fun s => Ev γ M_X7_undo (0, 0) n (put 93 (mdB γ 93 m_thrown m_trace m_text m_typed m_next m_token m_place m_value m_fault m_many m_sees m_cold m_first m_told s.2 m_w m_kept m_isKept m_undos m_undoMany m_foundMan m_foundHours m_foundIs m_foundMany m_row m_best) h) [(0, .ref (gB γ + 93)), (1, .int s.1)] 27 [] Ψ) (K := fun t => Ev γ M_X7_undo (0, 0) n (put 93 (mdB γ 93 m_thrown m_trace m_text m_typed m_next m_token m_place m_value m_fault m_many m_sees m_cold m_first m_told t m_w m_kept m_isKept m_undos m_undoMany m_foundMan m_foundHours m_foundIs m_foundMany m_row m_best) h) [(0, .ref (gB γ + 93))] 59 [] Ψ) ?_ N s0 t hf K
  intro s r hf hP hK
  obtain ⟨v1, m_s⟩ := s
  change b_X7_undo_1 N m_undos m_undoMany v1 m_s = some r at hf
  unfold b_X7_undo_1 at hf
  show Ev γ M_X7_undo (0, 0) n (put 93 (mdB γ 93 m_thrown m_trace m_text m_typed m_next m_token m_place m_value m_fault m_many m_sees m_cold m_first m_told m_s m_w m_kept m_isKept m_undos m_undoMany m_foundMan m_foundHours m_foundIs m_foundMany m_row m_best) h) [(0, .ref (gB γ + 93)), (1, .int v1)] 27 [] Ψ
  refine E_iload_n 1 dX7_undo_27 (q := 28) rfl rfl rfl ?_
  refine E_bipush (x := 48) dX7_undo_28 (q := 30) rfl (by decide) ?_
  refine E_icmp_ge dX7_undo_30 (t := 59) (by decide) (q := 33) rfl (fun c7 => ?_) (fun c7 => ?_)
  · have hf := if_t c7 hf
    exact E_sub [0] rfl (hK _ (Option.some.inj hf).symm)
  · have hf := if_f c7 hf
    refine E_aload_n 0 dX7_undo_33 (q := 34) rfl rfl rfl ?_
    have hF8 : Has n 93 (mdB γ 93 m_thrown m_trace m_text m_typed m_next m_token m_place m_value m_fault m_many m_sees m_cold m_first m_told m_s m_w m_kept m_isKept m_undos m_undoMany m_foundMan m_foundHours m_foundIs m_foundMany m_row m_best) (put 93 (mdB γ 93 m_thrown m_trace m_text m_typed m_next m_token m_place m_value m_fault m_many m_sees m_cold m_first m_told m_s m_w m_kept m_isKept m_undos m_undoMany m_foundMan m_foundHours m_foundIs m_foundMany m_row m_best) h) := (has_put hn_m)
    refine E_get 14 dX7_undo_34 (q := 37) rfl ckX7 (Nat.le_of_ble_eq_true rfl) fl_X7_25 (hF8.at 0 rfl) (hF8.lt 0 (Nat.le_of_ble_eq_true rfl)) rfl ?_
    refine E_iload_n 1 dX7_undo_37 (q := 38) rfl rfl rfl ?_
    refine E_aload_n 0 dX7_undo_38 (q := 39) rfl rfl rfl ?_
    refine E_get 18 dX7_undo_39 (q := 42) rfl ckX7 (Nat.le_of_ble_eq_true rfl) fl_X7_38 (hF8.at 0 rfl) (hF8.lt 0 (Nat.le_of_ble_eq_true rfl)) rfl ?_
    refine E_bipush (x := 48) dX7_undo_42 (q := 44) rfl (by decide) ?_
    refine E_aload_n 0 dX7_undo_44 (q := 45) rfl rfl rfl ?_
    refine E_get 19 dX7_undo_45 (q := 48) rfl ckX7 (Nat.le_of_ble_eq_true rfl) fl_X7_117 (hF8.at 0 rfl) (hF8.lt 0 (Nat.le_of_ble_eq_true rfl)) rfl ?_
    refine E_imul dX7_undo_48 (q := 49) rfl ?_
    refine E_iload_n 1 dX7_undo_49 (q := 50) rfl rfl rfl ?_
    refine E_iadd dX7_undo_50 (q := 51) rfl ?_
    obtain ⟨g9, hf⟩ := gd hf
    refine E_iald dX7_undo_51 (q := 52) rfl (hF8.at 10 rfl) (hF8.lt 10 (Nat.le_of_ble_eq_true rfl)) g9 ?_
    obtain ⟨g10, hf⟩ := gd hf
    refine E_iast dX7_undo_52 (q := 53) rfl (hF8.at 6 rfl) (hF8.lt 6 (Nat.le_of_ble_eq_true rfl)) g10 (up_put (i := 6) (cs' := (mdB γ 93 m_thrown m_trace m_text m_typed m_next m_token m_place m_value m_fault m_many m_sees m_cold m_first m_told (upd m_s (ci v1) (m_undos (ci ((48 * m_undoMany) + v1)))) m_w m_kept m_isKept m_undos m_undoMany m_foundMan m_foundHours m_foundIs m_foundMany m_row m_best)) (Nat.le_of_ble_eq_true rfl) rfl) ?_
    refine E_iinc 1 [(1, .int (v1 + 1)), (0, .ref (gB γ + 93))] dX7_undo_53 (q := 56) rfl rfl rfl (Nat.le_of_ble_eq_true rfl) rfl ?_
    refine E_goto (q := 27) dX7_undo_56 (by decide) ?_
    exact E_sub [1, 0] rfl (hP _ (Option.some.inj hf).symm)
set_option maxHeartbeats 4000000 in
set_option maxRecDepth 100000 in
theorem m_X7_undo {γ : GX} {n : Nat} {N : Nat} {h : HP} {m_thrown : Int32} {m_trace : Int64} {m_text : FN} {m_typed : Int32} {m_next : Int32} {m_token : Int32} {m_place : Int32} {m_value : Int32} {m_fault : Int32} {m_many : FN} {m_sees : FN} {m_cold : FN} {m_first : FN} {m_told : Int32} {m_s : FN} {m_w : FN} {m_kept : FN} {m_isKept : FN} {m_undos : FN} {m_undoMany : Int32} {m_foundMan : FN} {m_foundHours : FN} {m_foundIs : FN} {m_foundMany : Int32} {m_row : FN} {m_best : FN} (hH_m : Has n 93 (mdB γ 93 m_thrown m_trace m_text m_typed m_next m_token m_place m_value m_fault m_many m_sees m_cold m_first m_told m_s m_w m_kept m_isKept m_undos m_undoMany m_foundMan m_foundHours m_foundIs m_foundMany m_row m_best) h) {z : Int32 × Int32 × FN × Int32} (hf : f_X7_undo N m_thrown m_s m_undos m_undoMany = some z)  : Ct γ M_X7_undo n h [.ref (gB γ + 93)] (Done (some (.int z.1)) n (put 93 (mdB γ 93 z.2.1 m_trace m_text m_typed m_next m_token m_place m_value m_fault m_many m_sees m_cold m_first m_told z.2.2.1 m_w m_kept m_isKept m_undos z.2.2.2 m_foundMan m_foundHours m_foundIs m_foundMany m_row m_best) h)) := by
  have hn_m : 93 + 16 ≤ n := hH_m.1
  refine Ct.heap (h := (put 93 (mdB γ 93 m_thrown m_trace m_text m_typed m_next m_token m_place m_value m_fault m_many m_sees m_cold m_first m_told m_s m_w m_kept m_isKept m_undos m_undoMany m_foundMan m_foundHours m_foundIs m_foundMany m_row m_best) h)) (put_self hH_m).symm ?_
  refine Ct_of_Ev (by decide) (fun h => by cases h) (Nat.le_of_ble_eq_true rfl) ?_
  show Ev γ M_X7_undo (0, 0) n (put 93 (mdB γ 93 m_thrown m_trace m_text m_typed m_next m_token m_place m_value m_fault m_many m_sees m_cold m_first m_told m_s m_w m_kept m_isKept m_undos m_undoMany m_foundMan m_foundHours m_foundIs m_foundMany m_row m_best) h) [(0, .ref (gB γ + 93))] 0 [] _
  unfold f_X7_undo at hf
  refine E_aload_n 0 dX7_undo_0 (q := 1) rfl rfl rfl ?_
  refine E_iconst (x := 0) dX7_undo_1 (q := 2) rfl (by decide) ?_
  have hF1 : Has n 93 (mdB γ 93 m_thrown m_trace m_text m_typed m_next m_token m_place m_value m_fault m_many m_sees m_cold m_first m_told m_s m_w m_kept m_isKept m_undos m_undoMany m_foundMan m_foundHours m_foundIs m_foundMany m_row m_best) (put 93 (mdB γ 93 m_thrown m_trace m_text m_typed m_next m_token m_place m_value m_fault m_many m_sees m_cold m_first m_told m_s m_w m_kept m_isKept m_undos m_undoMany m_foundMan m_foundHours m_foundIs m_foundMany m_row m_best) h) := (has_put hn_m)
  refine E_put 0 dX7_undo_2 (q := 5) rfl ckX7 (Nat.le_of_ble_eq_true rfl) fl_X7_56 rfl rfl rfl (hF1.at 0 rfl) (hF1.lt 0 (Nat.le_of_ble_eq_true rfl)) (Nat.le_of_ble_eq_true rfl) (up_put (i := 0) (cs' := (mdB γ 93 0 m_trace m_text m_typed m_next m_token m_place m_value m_fault m_many m_sees m_cold m_first m_told m_s m_w m_kept m_isKept m_undos m_undoMany m_foundMan m_foundHours m_foundIs m_foundMany m_row m_best)) (Nat.le_of_ble_eq_true rfl) rfl) ?_
  refine E_aload_n 0 dX7_undo_5 (q := 6) rfl rfl rfl ?_
  have hF3 : Has n 93 (mdB γ 93 0 m_trace m_text m_typed m_next m_token m_place m_value m_fault m_many m_sees m_cold m_first m_told m_s m_w m_kept m_isKept m_undos m_undoMany m_foundMan m_foundHours m_foundIs m_foundMany m_row m_best) (put 93 (mdB γ 93 0 m_trace m_text m_typed m_next m_token m_place m_value m_fault m_many m_sees m_cold m_first m_told m_s m_w m_kept m_isKept m_undos m_undoMany m_foundMan m_foundHours m_foundIs m_foundMany m_row m_best) h) := (has_put hn_m)
  refine E_get 19 dX7_undo_6 (q := 9) rfl ckX7 (Nat.le_of_ble_eq_true rfl) fl_X7_117 (hF3.at 0 rfl) (hF3.lt 0 (Nat.le_of_ble_eq_true rfl)) rfl ?_
  refine E_if_ne dX7_undo_9 (t := 15) (by decide) (q := 12) rfl (fun c4 => ?_) (fun c4 => ?_)
  · have hf := if_f c4 hf
    refine E_aload_n 0 dX7_undo_15 (q := 16) rfl rfl rfl ?_
    refine E_dup dX7_undo_16 (q := 17) rfl rfl ?_
    refine E_get 19 dX7_undo_17 (q := 20) rfl ckX7 (Nat.le_of_ble_eq_true rfl) fl_X7_117 (hF3.at 0 rfl) (hF3.lt 0 (Nat.le_of_ble_eq_true rfl)) rfl ?_
    refine E_iconst (x := 1) dX7_undo_20 (q := 21) rfl (by decide) ?_
    refine E_isub dX7_undo_21 (q := 22) rfl ?_
    refine E_put 19 dX7_undo_22 (q := 25) rfl ckX7 (Nat.le_of_ble_eq_true rfl) fl_X7_117 rfl rfl rfl (hF3.at 0 rfl) (hF3.lt 0 (Nat.le_of_ble_eq_true rfl)) (Nat.le_of_ble_eq_true rfl) (up_put (i := 0) (cs' := (mdB γ 93 0 m_trace m_text m_typed m_next m_token m_place m_value m_fault m_many m_sees m_cold m_first m_told m_s m_w m_kept m_isKept m_undos (m_undoMany - 1) m_foundMan m_foundHours m_foundIs m_foundMany m_row m_best)) (Nat.le_of_ble_eq_true rfl) rfl) ?_
    refine E_iconst (x := 0) dX7_undo_25 (q := 26) rfl (by decide) ?_
    refine E_istore_n [(1, .int 0), (0, .ref (gB γ + 93))] dX7_undo_26 (q := 27) rfl rfl (Nat.le_of_ble_eq_true rfl) rfl ?_
    obtain ⟨t12, hxt12, hf⟩ := bnd hf
    refine E_sub [1, 0] rfl ?_
    refine L_X7_undo_1 hn_m hxt12 ?_
    show Ev γ M_X7_undo _ n (put 93 (mdB γ 93 0 m_trace m_text m_typed m_next m_token m_place m_value m_fault m_many m_sees m_cold m_first m_told t12 m_w m_kept m_isKept m_undos (m_undoMany - 1) m_foundMan m_foundHours m_foundIs m_foundMany m_row m_best) h) [(0, .ref (gB γ + 93))] 59 [] _
    refine E_aload_n 0 dX7_undo_59 (q := 60) rfl rfl rfl ?_
    have hF14 : Has n 93 (mdB γ 93 0 m_trace m_text m_typed m_next m_token m_place m_value m_fault m_many m_sees m_cold m_first m_told t12 m_w m_kept m_isKept m_undos (m_undoMany - 1) m_foundMan m_foundHours m_foundIs m_foundMany m_row m_best) (put 93 (mdB γ 93 0 m_trace m_text m_typed m_next m_token m_place m_value m_fault m_many m_sees m_cold m_first m_told t12 m_w m_kept m_isKept m_undos (m_undoMany - 1) m_foundMan m_foundHours m_foundIs m_foundMany m_row m_best) h) := (has_put hn_m)
    refine E_get 19 dX7_undo_60 (q := 63) rfl ckX7 (Nat.le_of_ble_eq_true rfl) fl_X7_117 (hF14.at 0 rfl) (hF14.lt 0 (Nat.le_of_ble_eq_true rfl)) rfl ?_
    obtain rfl := Option.some.inj hf
    exact E_iret dX7_undo_63 rfl ⟨rfl, rfl, rfl⟩
  · have hf := if_t c4 hf
    refine E_bipush (x := (-2)) dX7_undo_12 (q := 14) rfl (by decide) ?_
    obtain rfl := Option.some.inj hf
    exact E_iret dX7_undo_14 rfl ⟨rfl, rfl, rfl⟩

-- PostReliefModel.inHours(III)I
def b_X7_inHours_1 (N : Nat) (p1 : Int32) (p2 : Int32) (p3 : Int32) (m_many : FN) (m_cold : FN) (v4 : Int32) (v5 : Int32) (m_w : FN) : Option ((Int32 × Int32 × FN) ⊕ (Int32 × FN)) :=
  (if p1 ≤ v5 then some (.inr (v4, m_w)) else ((f_X7_goesBy N p2 m_many m_cold m_w).bind fun z17 => ((f_X7_asleep_w N m_many z17).bind fun z21 => ((f_X7_ones N z21).bind fun z22 => (if z22 ≤ v4 then some (.inl (v4, (v5 + 1), z17)) else ((f_X7_asleep_w N m_many z17).bind fun z24 => ((f_X7_ones N z24).bind fun z25 => some (.inl (z25, (v5 + 1), z17)))))))))
def b_X7_inHours_2 (N : Nat) (p3 : Int32) (p4 : Int32) (m_many : FN) (m_w : FN) (v5 : Int32) (v6 : Int32) : Option ((Int32 × Int32) ⊕ (Int32)) :=
  (if (m_many (ci 1)) ≤ v6 then some (.inr v5) else (if ix (1 + v6) 48 = true then (if (m_w (ci (1 + v6))) ≤ v5 then some (.inl (v5, (v6 + 1))) else some (.inl ((m_w (ci (1 + v6))), (v6 + 1)))) else none))
def f_X7_inHours (N : Nat) (a1 : Int32) (a2 : Int32) (a3 : Int32) (m_thrown : Int32) (m_many : FN) (m_cold : FN) (m_s : FN) (m_w : FN) : Option (Int32 × Int32 × FN) :=
  ((f_X7_in N a1 0 60).bind fun z3 => (if z3 = 0 then some ((-1), 0, m_w) else ((f_X7_in N a2 0 1).bind fun z5 => (if z5 = 0 then some ((-1), 0, m_w) else ((f_X7_in N a3 0 2).bind fun z7 => (if z7 = 0 then some ((-1), 0, m_w) else ((f_X7_asNow N m_s m_w).bind fun z9 => ((f_X7_asleep_w N m_many z9).bind fun z13 => ((f_X7_ones N z13).bind fun z14 => ((lp (fun s => b_X7_inHours_1 N a1 a2 a3 m_many m_cold s.1 s.2.1 s.2.2) N (z14, 0, z9)).bind fun t26 => ((lp (fun s => b_X7_inHours_2 N a3 t26.1 m_many t26.2 s.1 s.2) N (0, 0)).bind fun t33 => (if a3 = 0 then ((f_X7_asleep_w N m_many t26.2).bind fun z37 => some (z37, 0, t26.2)) else (if a3 = 1 then some (t26.1, 0, t26.2) else some (t33, 0, t26.2))))))))))))))
set_option maxHeartbeats 4000000 in
set_option maxRecDepth 100000 in
theorem L_X7_inHours_1 {γ : GX} {n : Nat} {h : HP} {Ψ : PS} {N : Nat} {p1 : Int32} {p2 : Int32} {p3 : Int32} {m_thrown : Int32} {m_trace : Int64} {m_text : FN} {m_typed : Int32} {m_next : Int32} {m_token : Int32} {m_place : Int32} {m_value : Int32} {m_fault : Int32} {m_many : FN} {m_sees : FN} {m_cold : FN} {m_first : FN} {m_told : Int32} {m_s : FN} {m_kept : FN} {m_isKept : FN} {m_undos : FN} {m_undoMany : Int32} {m_foundMan : FN} {m_foundHours : FN} {m_foundIs : FN} {m_foundMany : Int32} {m_row : FN} {m_best : FN} (hn_m : 93 + 16 ≤ n) {s0 : Int32 × Int32 × FN} {t : Int32 × FN} (hf : lp (fun s => b_X7_inHours_1 N p1 p2 p3 m_many m_cold s.1 s.2.1 s.2.2) N s0 = some t) (K : Ev γ M_X7_inHours (0, 0) n (put 93 (mdB γ 93 m_thrown m_trace m_text m_typed m_next m_token m_place m_value m_fault m_many m_sees m_cold m_first m_told m_s t.2 m_kept m_isKept m_undos m_undoMany m_foundMan m_foundHours m_foundIs m_foundMany m_row m_best) h) [(0, .ref (gB γ + 93)), (3, .int p3), (4, .int t.1)] 106 [] Ψ) : Ev γ M_X7_inHours (0, 0) n (put 93 (mdB γ 93 m_thrown m_trace m_text m_typed m_next m_token m_place m_value m_fault m_many m_sees m_cold m_first m_told m_s s0.2.2 m_kept m_isKept m_undos m_undoMany m_foundMan m_foundHours m_foundIs m_foundMany m_row m_best) h) [(0, .ref (gB γ + 93)), (1, .int p1), (2, .int p2), (3, .int p3), (4, .int s0.1), (5, .int s0.2.1)] 55 [] Ψ := by
  refine E_lp (P := fun s => Ev γ M_X7_inHours (0, 0) n (put 93 (mdB γ 93 m_thrown m_trace m_text m_typed m_next m_token m_place m_value m_fault m_many m_sees m_cold m_first m_told m_s s.2.2 m_kept m_isKept m_undos m_undoMany m_foundMan m_foundHours m_foundIs m_foundMany m_row m_best) h) [(0, .ref (gB γ + 93)), (1, .int p1), (2, .int p2), (3, .int p3), (4, .int s.1), (5, .int s.2.1)] 55 [] Ψ) (K := fun t => Ev γ M_X7_inHours (0, 0) n (put 93 (mdB γ 93 m_thrown m_trace m_text m_typed m_next m_token m_place m_value m_fault m_many m_sees m_cold m_first m_told m_s t.2 m_kept m_isKept m_undos m_undoMany m_foundMan m_foundHours m_foundIs m_foundMany m_row m_best) h) [(0, .ref (gB γ + 93)), (3, .int p3), (4, .int t.1)] 106 [] Ψ) ?_ N s0 t hf K
  intro s r hf hP hK
  obtain ⟨v4, v5, m_w⟩ := s
  change b_X7_inHours_1 N p1 p2 p3 m_many m_cold v4 v5 m_w = some r at hf
  unfold b_X7_inHours_1 at hf
  show Ev γ M_X7_inHours (0, 0) n (put 93 (mdB γ 93 m_thrown m_trace m_text m_typed m_next m_token m_place m_value m_fault m_many m_sees m_cold m_first m_told m_s m_w m_kept m_isKept m_undos m_undoMany m_foundMan m_foundHours m_foundIs m_foundMany m_row m_best) h) [(0, .ref (gB γ + 93)), (1, .int p1), (2, .int p2), (3, .int p3), (4, .int v4), (5, .int v5)] 55 [] Ψ
  refine E_iload 5 dX7_inHours_55 (q := 57) rfl rfl ?_
  refine E_iload_n 1 dX7_inHours_57 (q := 58) rfl rfl rfl ?_
  refine E_icmp_ge dX7_inHours_58 (t := 106) (by decide) (q := 61) rfl (fun c16 => ?_) (fun c16 => ?_)
  · have hf := if_t c16 hf
    exact E_sub [0, 3, 4] rfl (hK _ (Option.some.inj hf).symm)
  · have hf := if_f c16 hf
    refine E_aload_n 0 dX7_inHours_61 (q := 62) rfl rfl rfl ?_
    refine E_iload_n 2 dX7_inHours_62 (q := 63) rfl rfl rfl ?_
    obtain ⟨z17, hxz17, hf⟩ := bnd hf
    have hF18 : Has n 93 (mdB γ 93 m_thrown m_trace m_text m_typed m_next m_token m_place m_value m_fault m_many m_sees m_cold m_first m_told m_s m_w m_kept m_isKept m_undos m_undoMany m_foundMan m_foundHours m_foundIs m_foundMany m_row m_best) (put 93 (mdB γ 93 m_thrown m_trace m_text m_typed m_next m_token m_place m_value m_fault m_many m_sees m_cold m_first m_told m_s m_w m_kept m_isKept m_undos m_undoMany m_foundMan m_foundHours m_foundIs m_foundMany m_row m_best) h) := (has_put hn_m)
    refine E_cV (as := [.int p2]) (k := 93) (rest := []) (u' := (0, 0)) (st' := []) dX7_inHours_63 (q := 66) rfl lkm_X7_goesBy lkv_X7_168 (Nat.le_of_ble_eq_true rfl) ckX7 (hF18.at 0 rfl) (hF18.lt 0 (Nat.le_of_ble_eq_true rfl)) ⟨Nat.le_refl _, Nat.le_refl _⟩ (Nat.le_of_ble_eq_true rfl) rfl rfl (m_X7_goesBy (N := N)  hF18 hxz17) rfl rfl rfl ?_
    refine Ev.heap (put_put (k := 93) (cs := (mdB γ 93 m_thrown m_trace m_text m_typed m_next m_token m_place m_value m_fault m_many m_sees m_cold m_first m_told m_s m_w m_kept m_isKept m_undos m_undoMany m_foundMan m_foundHours m_foundIs m_foundMany m_row m_best)) (cs' := (mdB γ 93 m_thrown m_trace m_text m_typed m_next m_token m_place m_value m_fault m_many m_sees m_cold m_first m_told m_s z17 m_kept m_isKept m_undos m_undoMany m_foundMan m_foundHours m_foundIs m_foundMany m_row m_best)) (show (16 : Nat) = 16 from rfl)) ?_
    refine E_aload_n 0 dX7_inHours_66 (q := 67) rfl rfl rfl ?_
    refine E_aload_n 0 dX7_inHours_67 (q := 68) rfl rfl rfl ?_
    have hF20 : Has n 93 (mdB γ 93 m_thrown m_trace m_text m_typed m_next m_token m_place m_value m_fault m_many m_sees m_cold m_first m_told m_s z17 m_kept m_isKept m_undos m_undoMany m_foundMan m_foundHours m_foundIs m_foundMany m_row m_best) (put 93 (mdB γ 93 m_thrown m_trace m_text m_typed m_next m_token m_place m_value m_fault m_many m_sees m_cold m_first m_told m_s z17 m_kept m_isKept m_undos m_undoMany m_foundMan m_foundHours m_foundIs m_foundMany m_row m_best) h) := (has_put hn_m)
    refine E_get 15 dX7_inHours_68 (q := 71) rfl ckX7 (Nat.le_of_ble_eq_true rfl) fl_X7_28 (hF20.at 0 rfl) (hF20.lt 0 (Nat.le_of_ble_eq_true rfl)) rfl ?_
    obtain ⟨z21, hxz21, hf⟩ := bnd hf
    refine E_cV (as := [.ref (gB γ + (93 + 7))]) (k := 93) (rest := []) (u' := (0, 0)) (st' := [.int z21]) dX7_inHours_71 (q := 74) rfl lkm_X7_asleep lkv_X7_139 (Nat.le_of_ble_eq_true rfl) ckX7 (hF20.at 0 rfl) (hF20.lt 0 (Nat.le_of_ble_eq_true rfl)) ⟨Nat.le_refl _, Nat.le_refl _⟩ (Nat.le_of_ble_eq_true rfl) rfl rfl (m_X7_asleep_w (N := N)  hF20 hxz21) rfl rfl rfl ?_
    obtain ⟨z22, hxz22, hf⟩ := bnd hf
    refine E_cS (as := [.int z21]) (rest := []) (u' := (0, 0)) (st' := [.int z22]) dX7_inHours_74 (q := 77) rfl lkm_X7_ones lks_X7_151 (Nat.le_of_ble_eq_true rfl) ⟨Nat.le_refl _, Nat.le_refl _⟩ (Nat.le_of_ble_eq_true rfl) rfl rfl (m_X7_ones (N := N)  hxz22) rfl rfl rfl ?_
    refine E_iload 4 dX7_inHours_77 (q := 79) rfl rfl ?_
    refine E_icmp_le dX7_inHours_79 (t := 96) (by decide) (q := 82) rfl (fun c23 => ?_) (fun c23 => ?_)
    · have hf := if_t c23 hf
      refine E_iload 4 dX7_inHours_96 (q := 98) rfl rfl ?_
      refine E_istore [(4, .int v4), (0, .ref (gB γ + 93)), (1, .int p1), (2, .int p2), (3, .int p3), (5, .int v5)] dX7_inHours_98 (q := 100) rfl (Nat.le_of_ble_eq_true rfl) rfl ?_
      refine E_iinc 5 [(5, .int (v5 + 1)), (4, .int v4), (0, .ref (gB γ + 93)), (1, .int p1), (2, .int p2), (3, .int p3)] dX7_inHours_100 (q := 103) rfl rfl rfl (Nat.le_of_ble_eq_true rfl) rfl ?_
      refine E_goto (q := 55) dX7_inHours_103 (by decide) ?_
      exact E_sub [2, 3, 4, 5, 1, 0] rfl (hP _ (Option.some.inj hf).symm)
    · have hf := if_f c23 hf
      refine E_aload_n 0 dX7_inHours_82 (q := 83) rfl rfl rfl ?_
      refine E_aload_n 0 dX7_inHours_83 (q := 84) rfl rfl rfl ?_
      refine E_get 15 dX7_inHours_84 (q := 87) rfl ckX7 (Nat.le_of_ble_eq_true rfl) fl_X7_28 (hF20.at 0 rfl) (hF20.lt 0 (Nat.le_of_ble_eq_true rfl)) rfl ?_
      obtain ⟨z24, hxz24, hf⟩ := bnd hf
      refine E_cV (as := [.ref (gB γ + (93 + 7))]) (k := 93) (rest := []) (u' := (0, 0)) (st' := [.int z24]) dX7_inHours_87 (q := 90) rfl lkm_X7_asleep lkv_X7_139 (Nat.le_of_ble_eq_true rfl) ckX7 (hF20.at 0 rfl) (hF20.lt 0 (Nat.le_of_ble_eq_true rfl)) ⟨Nat.le_refl _, Nat.le_refl _⟩ (Nat.le_of_ble_eq_true rfl) rfl rfl (m_X7_asleep_w (N := N)  hF20 hxz24) rfl rfl rfl ?_
      obtain ⟨z25, hxz25, hf⟩ := bnd hf
      refine E_cS (as := [.int z24]) (rest := []) (u' := (0, 0)) (st' := [.int z25]) dX7_inHours_90 (q := 93) rfl lkm_X7_ones lks_X7_151 (Nat.le_of_ble_eq_true rfl) ⟨Nat.le_refl _, Nat.le_refl _⟩ (Nat.le_of_ble_eq_true rfl) rfl rfl (m_X7_ones (N := N)  hxz25) rfl rfl rfl ?_
      refine E_goto (q := 98) dX7_inHours_93 (by decide) ?_
      refine E_istore [(4, .int z25), (0, .ref (gB γ + 93)), (1, .int p1), (2, .int p2), (3, .int p3), (5, .int v5)] dX7_inHours_98 (q := 100) rfl (Nat.le_of_ble_eq_true rfl) rfl ?_
      refine E_iinc 5 [(5, .int (v5 + 1)), (4, .int z25), (0, .ref (gB γ + 93)), (1, .int p1), (2, .int p2), (3, .int p3)] dX7_inHours_100 (q := 103) rfl rfl rfl (Nat.le_of_ble_eq_true rfl) rfl ?_
      refine E_goto (q := 55) dX7_inHours_103 (by decide) ?_
      exact E_sub [2, 3, 4, 5, 1, 0] rfl (hP _ (Option.some.inj hf).symm)
set_option maxHeartbeats 4000000 in
set_option maxRecDepth 100000 in
theorem L_X7_inHours_2 {γ : GX} {n : Nat} {h : HP} {Ψ : PS} {N : Nat} {p3 : Int32} {p4 : Int32} {m_thrown : Int32} {m_trace : Int64} {m_text : FN} {m_typed : Int32} {m_next : Int32} {m_token : Int32} {m_place : Int32} {m_value : Int32} {m_fault : Int32} {m_many : FN} {m_sees : FN} {m_cold : FN} {m_first : FN} {m_told : Int32} {m_s : FN} {m_w : FN} {m_kept : FN} {m_isKept : FN} {m_undos : FN} {m_undoMany : Int32} {m_foundMan : FN} {m_foundHours : FN} {m_foundIs : FN} {m_foundMany : Int32} {m_row : FN} {m_best : FN} (hn_m : 93 + 16 ≤ n) {s0 : Int32 × Int32} {t : Int32} (hf : lp (fun s => b_X7_inHours_2 N p3 p4 m_many m_w s.1 s.2) N s0 = some t) (K : Ev γ M_X7_inHours (0, 0) n (put 93 (mdB γ 93 m_thrown m_trace m_text m_typed m_next m_token m_place m_value m_fault m_many m_sees m_cold m_first m_told m_s m_w m_kept m_isKept m_undos m_undoMany m_foundMan m_foundHours m_foundIs m_foundMany m_row m_best) h) [(0, .ref (gB γ + 93)), (3, .int p3), (4, .int p4), (5, .int t)] 159 [] Ψ) : Ev γ M_X7_inHours (0, 0) n (put 93 (mdB γ 93 m_thrown m_trace m_text m_typed m_next m_token m_place m_value m_fault m_many m_sees m_cold m_first m_told m_s m_w m_kept m_isKept m_undos m_undoMany m_foundMan m_foundHours m_foundIs m_foundMany m_row m_best) h) [(0, .ref (gB γ + 93)), (3, .int p3), (4, .int p4), (5, .int s0.1), (6, .int s0.2)] 112 [] Ψ := by
  refine E_lp (P := fun s => Ev γ M_X7_inHours (0, 0) n (put 93 (mdB γ 93 m_thrown m_trace m_text m_typed m_next m_token m_place m_value m_fault m_many m_sees m_cold m_first m_told m_s m_w m_kept m_isKept m_undos m_undoMany m_foundMan m_foundHours m_foundIs m_foundMany m_row m_best) h) [(0, .ref (gB γ + 93)), (3, .int p3), (4, .int p4), (5, .int s.1), (6, .int s.2)] 112 [] Ψ) (K := fun t => Ev γ M_X7_inHours (0, 0) n (put 93 (mdB γ 93 m_thrown m_trace m_text m_typed m_next m_token m_place m_value m_fault m_many m_sees m_cold m_first m_told m_s m_w m_kept m_isKept m_undos m_undoMany m_foundMan m_foundHours m_foundIs m_foundMany m_row m_best) h) [(0, .ref (gB γ + 93)), (3, .int p3), (4, .int p4), (5, .int t)] 159 [] Ψ) ?_ N s0 t hf K
  intro s r hf hP hK
  obtain ⟨v5, v6⟩ := s
  change b_X7_inHours_2 N p3 p4 m_many m_w v5 v6 = some r at hf
  unfold b_X7_inHours_2 at hf
  show Ev γ M_X7_inHours (0, 0) n (put 93 (mdB γ 93 m_thrown m_trace m_text m_typed m_next m_token m_place m_value m_fault m_many m_sees m_cold m_first m_told m_s m_w m_kept m_isKept m_undos m_undoMany m_foundMan m_foundHours m_foundIs m_foundMany m_row m_best) h) [(0, .ref (gB γ + 93)), (3, .int p3), (4, .int p4), (5, .int v5), (6, .int v6)] 112 [] Ψ
  refine E_iload 4 dX7_inHours_112 (q := 114) rfl rfl ?_
  refine E_aload_n 0 dX7_inHours_114 (q := 115) rfl rfl rfl ?_
  have hF29 : Has n 93 (mdB γ 93 m_thrown m_trace m_text m_typed m_next m_token m_place m_value m_fault m_many m_sees m_cold m_first m_told m_s m_w m_kept m_isKept m_undos m_undoMany m_foundMan m_foundHours m_foundIs m_foundMany m_row m_best) (put 93 (mdB γ 93 m_thrown m_trace m_text m_typed m_next m_token m_place m_value m_fault m_many m_sees m_cold m_first m_told m_s m_w m_kept m_isKept m_undos m_undoMany m_foundMan m_foundHours m_foundIs m_foundMany m_row m_best) h) := (has_put hn_m)
  refine E_get 9 dX7_inHours_115 (q := 118) rfl ckX7 (Nat.le_of_ble_eq_true rfl) fl_X7_13 (hF29.at 0 rfl) (hF29.lt 0 (Nat.le_of_ble_eq_true rfl)) rfl ?_
  refine E_iconst (x := 1) dX7_inHours_118 (q := 119) rfl (by decide) ?_
  refine E_iald dX7_inHours_119 (q := 120) rfl (hF29.at 2 rfl) (hF29.lt 2 (Nat.le_of_ble_eq_true rfl)) (by decide +kernel) ?_
  refine E_icmp_ge dX7_inHours_120 (t := 159) (by decide) (q := 123) rfl (fun c30 => ?_) (fun c30 => ?_)
  · have hf := if_t c30 hf
    exact E_sub [0, 1, 2, 3] rfl (hK _ (Option.some.inj hf).symm)
  · have hf := if_f c30 hf
    refine E_aload_n 0 dX7_inHours_123 (q := 124) rfl rfl rfl ?_
    refine E_get 15 dX7_inHours_124 (q := 127) rfl ckX7 (Nat.le_of_ble_eq_true rfl) fl_X7_28 (hF29.at 0 rfl) (hF29.lt 0 (Nat.le_of_ble_eq_true rfl)) rfl ?_
    refine E_iconst (x := 1) dX7_inHours_127 (q := 128) rfl (by decide) ?_
    refine E_iload 4 dX7_inHours_128 (q := 130) rfl rfl ?_
    refine E_iadd dX7_inHours_130 (q := 131) rfl ?_
    obtain ⟨g31, hf⟩ := gd hf
    refine E_iald dX7_inHours_131 (q := 132) rfl (hF29.at 7 rfl) (hF29.lt 7 (Nat.le_of_ble_eq_true rfl)) g31 ?_
    refine E_iload 3 dX7_inHours_132 (q := 134) rfl rfl ?_
    refine E_icmp_le dX7_inHours_134 (t := 149) (by decide) (q := 137) rfl (fun c32 => ?_) (fun c32 => ?_)
    · have hf := if_t c32 hf
      refine E_iload 3 dX7_inHours_149 (q := 151) rfl rfl ?_
      refine E_istore [(5, .int v5), (0, .ref (gB γ + 93)), (3, .int p3), (4, .int p4), (6, .int v6)] dX7_inHours_151 (q := 153) rfl (Nat.le_of_ble_eq_true rfl) rfl ?_
      refine E_iinc 4 [(6, .int (v6 + 1)), (5, .int v5), (0, .ref (gB γ + 93)), (3, .int p3), (4, .int p4)] dX7_inHours_153 (q := 156) rfl rfl rfl (Nat.le_of_ble_eq_true rfl) rfl ?_
      refine E_goto (q := 112) dX7_inHours_156 (by decide) ?_
      exact E_sub [2, 3, 4, 1, 0] rfl (hP _ (Option.some.inj hf).symm)
    · have hf := if_f c32 hf
      refine E_aload_n 0 dX7_inHours_137 (q := 138) rfl rfl rfl ?_
      refine E_get 15 dX7_inHours_138 (q := 141) rfl ckX7 (Nat.le_of_ble_eq_true rfl) fl_X7_28 (hF29.at 0 rfl) (hF29.lt 0 (Nat.le_of_ble_eq_true rfl)) rfl ?_
      refine E_iconst (x := 1) dX7_inHours_141 (q := 142) rfl (by decide) ?_
      refine E_iload 4 dX7_inHours_142 (q := 144) rfl rfl ?_
      refine E_iadd dX7_inHours_144 (q := 145) rfl ?_
      refine E_iald dX7_inHours_145 (q := 146) rfl (hF29.at 7 rfl) (hF29.lt 7 (Nat.le_of_ble_eq_true rfl)) g31 ?_
      refine E_goto (q := 151) dX7_inHours_146 (by decide) ?_
      refine E_istore [(5, .int (m_w (ci (1 + v6)))), (0, .ref (gB γ + 93)), (3, .int p3), (4, .int p4), (6, .int v6)] dX7_inHours_151 (q := 153) rfl (Nat.le_of_ble_eq_true rfl) rfl ?_
      refine E_iinc 4 [(6, .int (v6 + 1)), (5, .int (m_w (ci (1 + v6)))), (0, .ref (gB γ + 93)), (3, .int p3), (4, .int p4)] dX7_inHours_153 (q := 156) rfl rfl rfl (Nat.le_of_ble_eq_true rfl) rfl ?_
      refine E_goto (q := 112) dX7_inHours_156 (by decide) ?_
      exact E_sub [2, 3, 4, 1, 0] rfl (hP _ (Option.some.inj hf).symm)
set_option maxHeartbeats 4000000 in
set_option maxRecDepth 100000 in
theorem m_X7_inHours {γ : GX} {n : Nat} {N : Nat} {h : HP} {a1 : Int32} {a2 : Int32} {a3 : Int32} {m_thrown : Int32} {m_trace : Int64} {m_text : FN} {m_typed : Int32} {m_next : Int32} {m_token : Int32} {m_place : Int32} {m_value : Int32} {m_fault : Int32} {m_many : FN} {m_sees : FN} {m_cold : FN} {m_first : FN} {m_told : Int32} {m_s : FN} {m_w : FN} {m_kept : FN} {m_isKept : FN} {m_undos : FN} {m_undoMany : Int32} {m_foundMan : FN} {m_foundHours : FN} {m_foundIs : FN} {m_foundMany : Int32} {m_row : FN} {m_best : FN} (hH_m : Has n 93 (mdB γ 93 m_thrown m_trace m_text m_typed m_next m_token m_place m_value m_fault m_many m_sees m_cold m_first m_told m_s m_w m_kept m_isKept m_undos m_undoMany m_foundMan m_foundHours m_foundIs m_foundMany m_row m_best) h) {z : Int32 × Int32 × FN} (hf : f_X7_inHours N a1 a2 a3 m_thrown m_many m_cold m_s m_w = some z)  : Ct γ M_X7_inHours n h [.ref (gB γ + 93), .int a1, .int a2, .int a3] (Done (some (.int z.1)) n (put 93 (mdB γ 93 z.2.1 m_trace m_text m_typed m_next m_token m_place m_value m_fault m_many m_sees m_cold m_first m_told m_s z.2.2 m_kept m_isKept m_undos m_undoMany m_foundMan m_foundHours m_foundIs m_foundMany m_row m_best) h)) := by
  have hn_m : 93 + 16 ≤ n := hH_m.1
  refine Ct.heap (h := (put 93 (mdB γ 93 m_thrown m_trace m_text m_typed m_next m_token m_place m_value m_fault m_many m_sees m_cold m_first m_told m_s m_w m_kept m_isKept m_undos m_undoMany m_foundMan m_foundHours m_foundIs m_foundMany m_row m_best) h)) (put_self hH_m).symm ?_
  refine Ct_of_Ev (by decide) (fun h => by cases h) (Nat.le_of_ble_eq_true rfl) ?_
  show Ev γ M_X7_inHours (0, 0) n (put 93 (mdB γ 93 m_thrown m_trace m_text m_typed m_next m_token m_place m_value m_fault m_many m_sees m_cold m_first m_told m_s m_w m_kept m_isKept m_undos m_undoMany m_foundMan m_foundHours m_foundIs m_foundMany m_row m_best) h) [(0, .ref (gB γ + 93)), (1, .int a1), (2, .int a2), (3, .int a3)] 0 [] _
  unfold f_X7_inHours at hf
  refine E_aload_n 0 dX7_inHours_0 (q := 1) rfl rfl rfl ?_
  refine E_iconst (x := 0) dX7_inHours_1 (q := 2) rfl (by decide) ?_
  have hF1 : Has n 93 (mdB γ 93 m_thrown m_trace m_text m_typed m_next m_token m_place m_value m_fault m_many m_sees m_cold m_first m_told m_s m_w m_kept m_isKept m_undos m_undoMany m_foundMan m_foundHours m_foundIs m_foundMany m_row m_best) (put 93 (mdB γ 93 m_thrown m_trace m_text m_typed m_next m_token m_place m_value m_fault m_many m_sees m_cold m_first m_told m_s m_w m_kept m_isKept m_undos m_undoMany m_foundMan m_foundHours m_foundIs m_foundMany m_row m_best) h) := (has_put hn_m)
  refine E_put 0 dX7_inHours_2 (q := 5) rfl ckX7 (Nat.le_of_ble_eq_true rfl) fl_X7_56 rfl rfl rfl (hF1.at 0 rfl) (hF1.lt 0 (Nat.le_of_ble_eq_true rfl)) (Nat.le_of_ble_eq_true rfl) (up_put (i := 0) (cs' := (mdB γ 93 0 m_trace m_text m_typed m_next m_token m_place m_value m_fault m_many m_sees m_cold m_first m_told m_s m_w m_kept m_isKept m_undos m_undoMany m_foundMan m_foundHours m_foundIs m_foundMany m_row m_best)) (Nat.le_of_ble_eq_true rfl) rfl) ?_
  refine E_iload_n 1 dX7_inHours_5 (q := 6) rfl rfl rfl ?_
  refine E_iconst (x := 0) dX7_inHours_6 (q := 7) rfl (by decide) ?_
  refine E_bipush (x := 60) dX7_inHours_7 (q := 9) rfl (by decide) ?_
  obtain ⟨z3, hxz3, hf⟩ := bnd hf
  refine E_cS (as := [.int a1, .int 0, .int 60]) (rest := []) (u' := (0, 0)) (st' := [.int z3]) dX7_inHours_9 (q := 12) rfl lkm_X7_in lks_X7_60 (Nat.le_of_ble_eq_true rfl) ⟨Nat.le_refl _, Nat.le_refl _⟩ (Nat.le_of_ble_eq_true rfl) rfl rfl (m_X7_in (N := N)  hxz3) rfl rfl rfl ?_
  refine E_if_eq dX7_inHours_12 (t := 33) (by decide) (q := 15) rfl (fun c4 => ?_) (fun c4 => ?_)
  · have hf := if_t c4 hf
    refine E_iconst (x := (-1)) dX7_inHours_33 (q := 34) rfl (by decide) ?_
    obtain rfl := Option.some.inj hf
    exact E_iret dX7_inHours_34 rfl ⟨rfl, rfl, rfl⟩
  · have hf := if_f c4 hf
    refine E_iload_n 2 dX7_inHours_15 (q := 16) rfl rfl rfl ?_
    refine E_iconst (x := 0) dX7_inHours_16 (q := 17) rfl (by decide) ?_
    refine E_iconst (x := 1) dX7_inHours_17 (q := 18) rfl (by decide) ?_
    obtain ⟨z5, hxz5, hf⟩ := bnd hf
    refine E_cS (as := [.int a2, .int 0, .int 1]) (rest := []) (u' := (0, 0)) (st' := [.int z5]) dX7_inHours_18 (q := 21) rfl lkm_X7_in lks_X7_60 (Nat.le_of_ble_eq_true rfl) ⟨Nat.le_refl _, Nat.le_refl _⟩ (Nat.le_of_ble_eq_true rfl) rfl rfl (m_X7_in (N := N)  hxz5) rfl rfl rfl ?_
    refine E_if_eq dX7_inHours_21 (t := 33) (by decide) (q := 24) rfl (fun c6 => ?_) (fun c6 => ?_)
    · have hf := if_t c6 hf
      refine E_iconst (x := (-1)) dX7_inHours_33 (q := 34) rfl (by decide) ?_
      obtain rfl := Option.some.inj hf
      exact E_iret dX7_inHours_34 rfl ⟨rfl, rfl, rfl⟩
    · have hf := if_f c6 hf
      refine E_iload_n 3 dX7_inHours_24 (q := 25) rfl rfl rfl ?_
      refine E_iconst (x := 0) dX7_inHours_25 (q := 26) rfl (by decide) ?_
      refine E_iconst (x := 2) dX7_inHours_26 (q := 27) rfl (by decide) ?_
      obtain ⟨z7, hxz7, hf⟩ := bnd hf
      refine E_cS (as := [.int a3, .int 0, .int 2]) (rest := []) (u' := (0, 0)) (st' := [.int z7]) dX7_inHours_27 (q := 30) rfl lkm_X7_in lks_X7_60 (Nat.le_of_ble_eq_true rfl) ⟨Nat.le_refl _, Nat.le_refl _⟩ (Nat.le_of_ble_eq_true rfl) rfl rfl (m_X7_in (N := N)  hxz7) rfl rfl rfl ?_
      refine E_if_ne dX7_inHours_30 (t := 35) (by decide) (q := 33) rfl (fun c8 => ?_) (fun c8 => ?_)
      · have hf := if_f c8 hf
        refine E_aload_n 0 dX7_inHours_35 (q := 36) rfl rfl rfl ?_
        obtain ⟨z9, hxz9, hf⟩ := bnd hf
        have hF10 : Has n 93 (mdB γ 93 0 m_trace m_text m_typed m_next m_token m_place m_value m_fault m_many m_sees m_cold m_first m_told m_s m_w m_kept m_isKept m_undos m_undoMany m_foundMan m_foundHours m_foundIs m_foundMany m_row m_best) (put 93 (mdB γ 93 0 m_trace m_text m_typed m_next m_token m_place m_value m_fault m_many m_sees m_cold m_first m_told m_s m_w m_kept m_isKept m_undos m_undoMany m_foundMan m_foundHours m_foundIs m_foundMany m_row m_best) h) := (has_put hn_m)
        refine E_cV (as := []) (k := 93) (rest := []) (u' := (0, 0)) (st' := []) dX7_inHours_36 (q := 39) rfl lkm_X7_asNow lkv_X7_165 (Nat.le_of_ble_eq_true rfl) ckX7 (hF10.at 0 rfl) (hF10.lt 0 (Nat.le_of_ble_eq_true rfl)) ⟨Nat.le_refl _, Nat.le_refl _⟩ (Nat.le_of_ble_eq_true rfl) rfl rfl (m_X7_asNow (N := N)  hF10 hxz9) rfl rfl rfl ?_
        refine Ev.heap (put_put (k := 93) (cs := (mdB γ 93 0 m_trace m_text m_typed m_next m_token m_place m_value m_fault m_many m_sees m_cold m_first m_told m_s m_w m_kept m_isKept m_undos m_undoMany m_foundMan m_foundHours m_foundIs m_foundMany m_row m_best)) (cs' := (mdB γ 93 0 m_trace m_text m_typed m_next m_token m_place m_value m_fault m_many m_sees m_cold m_first m_told m_s z9 m_kept m_isKept m_undos m_undoMany m_foundMan m_foundHours m_foundIs m_foundMany m_row m_best)) (show (16 : Nat) = 16 from rfl)) ?_
        refine E_aload_n 0 dX7_inHours_39 (q := 40) rfl rfl rfl ?_
        refine E_aload_n 0 dX7_inHours_40 (q := 41) rfl rfl rfl ?_
        have hF12 : Has n 93 (mdB γ 93 0 m_trace m_text m_typed m_next m_token m_place m_value m_fault m_many m_sees m_cold m_first m_told m_s z9 m_kept m_isKept m_undos m_undoMany m_foundMan m_foundHours m_foundIs m_foundMany m_row m_best) (put 93 (mdB γ 93 0 m_trace m_text m_typed m_next m_token m_place m_value m_fault m_many m_sees m_cold m_first m_told m_s z9 m_kept m_isKept m_undos m_undoMany m_foundMan m_foundHours m_foundIs m_foundMany m_row m_best) h) := (has_put hn_m)
        refine E_get 15 dX7_inHours_41 (q := 44) rfl ckX7 (Nat.le_of_ble_eq_true rfl) fl_X7_28 (hF12.at 0 rfl) (hF12.lt 0 (Nat.le_of_ble_eq_true rfl)) rfl ?_
        obtain ⟨z13, hxz13, hf⟩ := bnd hf
        refine E_cV (as := [.ref (gB γ + (93 + 7))]) (k := 93) (rest := []) (u' := (0, 0)) (st' := [.int z13]) dX7_inHours_44 (q := 47) rfl lkm_X7_asleep lkv_X7_139 (Nat.le_of_ble_eq_true rfl) ckX7 (hF12.at 0 rfl) (hF12.lt 0 (Nat.le_of_ble_eq_true rfl)) ⟨Nat.le_refl _, Nat.le_refl _⟩ (Nat.le_of_ble_eq_true rfl) rfl rfl (m_X7_asleep_w (N := N)  hF12 hxz13) rfl rfl rfl ?_
        obtain ⟨z14, hxz14, hf⟩ := bnd hf
        refine E_cS (as := [.int z13]) (rest := []) (u' := (0, 0)) (st' := [.int z14]) dX7_inHours_47 (q := 50) rfl lkm_X7_ones lks_X7_151 (Nat.le_of_ble_eq_true rfl) ⟨Nat.le_refl _, Nat.le_refl _⟩ (Nat.le_of_ble_eq_true rfl) rfl rfl (m_X7_ones (N := N)  hxz14) rfl rfl rfl ?_
        refine E_istore [(4, .int z14), (0, .ref (gB γ + 93)), (1, .int a1), (2, .int a2), (3, .int a3)] dX7_inHours_50 (q := 52) rfl (Nat.le_of_ble_eq_true rfl) rfl ?_
        refine E_iconst (x := 0) dX7_inHours_52 (q := 53) rfl (by decide) ?_
        refine E_istore [(5, .int 0), (4, .int z14), (0, .ref (gB γ + 93)), (1, .int a1), (2, .int a2), (3, .int a3)] dX7_inHours_53 (q := 55) rfl (Nat.le_of_ble_eq_true rfl) rfl ?_
        obtain ⟨t26, hxt26, hf⟩ := bnd hf
        refine E_sub [2, 3, 4, 5, 1, 0] rfl ?_
        refine L_X7_inHours_1 hn_m hxt26 ?_
        show Ev γ M_X7_inHours _ n (put 93 (mdB γ 93 0 m_trace m_text m_typed m_next m_token m_place m_value m_fault m_many m_sees m_cold m_first m_told m_s t26.2 m_kept m_isKept m_undos m_undoMany m_foundMan m_foundHours m_foundIs m_foundMany m_row m_best) h) [(0, .ref (gB γ + 93)), (3, .int a3), (4, .int t26.1)] 106 [] _
        refine E_iconst (x := 0) dX7_inHours_106 (q := 107) rfl (by decide) ?_
        refine E_istore [(5, .int 0), (0, .ref (gB γ + 93)), (3, .int a3), (4, .int t26.1)] dX7_inHours_107 (q := 109) rfl (Nat.le_of_ble_eq_true rfl) rfl ?_
        refine E_iconst (x := 0) dX7_inHours_109 (q := 110) rfl (by decide) ?_
        refine E_istore [(6, .int 0), (5, .int 0), (0, .ref (gB γ + 93)), (3, .int a3), (4, .int t26.1)] dX7_inHours_110 (q := 112) rfl (Nat.le_of_ble_eq_true rfl) rfl ?_
        obtain ⟨t33, hxt33, hf⟩ := bnd hf
        refine E_sub [2, 3, 4, 1, 0] rfl ?_
        refine L_X7_inHours_2 hn_m hxt33 ?_
        show Ev γ M_X7_inHours _ n (put 93 (mdB γ 93 0 m_trace m_text m_typed m_next m_token m_place m_value m_fault m_many m_sees m_cold m_first m_told m_s t26.2 m_kept m_isKept m_undos m_undoMany m_foundMan m_foundHours m_foundIs m_foundMany m_row m_best) h) [(0, .ref (gB γ + 93)), (3, .int a3), (4, .int t26.1), (5, .int t33)] 159 [] _
        refine E_iload_n 1 dX7_inHours_159 (q := 160) rfl rfl rfl ?_
        refine E_if_ne dX7_inHours_160 (t := 174) (by decide) (q := 163) rfl (fun c35 => ?_) (fun c35 => ?_)
        · have hf := if_f c35 hf
          refine E_iload_n 1 dX7_inHours_174 (q := 175) rfl rfl rfl ?_
          refine E_iconst (x := 1) dX7_inHours_175 (q := 176) rfl (by decide) ?_
          refine E_icmp_ne dX7_inHours_176 (t := 184) (by decide) (q := 179) rfl (fun c38 => ?_) (fun c38 => ?_)
          · have hf := if_f c38 hf
            refine E_iload 3 dX7_inHours_184 (q := 186) rfl rfl ?_
            obtain rfl := Option.some.inj hf
            exact E_iret dX7_inHours_186 rfl ⟨rfl, rfl, rfl⟩
          · have hf := if_t c38 hf
            refine E_iload 2 dX7_inHours_179 (q := 181) rfl rfl ?_
            refine E_goto (q := 186) dX7_inHours_181 (by decide) ?_
            obtain rfl := Option.some.inj hf
            exact E_iret dX7_inHours_186 rfl ⟨rfl, rfl, rfl⟩
        · have hf := if_t c35 hf
          refine E_aload_n 0 dX7_inHours_163 (q := 164) rfl rfl rfl ?_
          refine E_aload_n 0 dX7_inHours_164 (q := 165) rfl rfl rfl ?_
          have hF36 : Has n 93 (mdB γ 93 0 m_trace m_text m_typed m_next m_token m_place m_value m_fault m_many m_sees m_cold m_first m_told m_s t26.2 m_kept m_isKept m_undos m_undoMany m_foundMan m_foundHours m_foundIs m_foundMany m_row m_best) (put 93 (mdB γ 93 0 m_trace m_text m_typed m_next m_token m_place m_value m_fault m_many m_sees m_cold m_first m_told m_s t26.2 m_kept m_isKept m_undos m_undoMany m_foundMan m_foundHours m_foundIs m_foundMany m_row m_best) h) := (has_put hn_m)
          refine E_get 15 dX7_inHours_165 (q := 168) rfl ckX7 (Nat.le_of_ble_eq_true rfl) fl_X7_28 (hF36.at 0 rfl) (hF36.lt 0 (Nat.le_of_ble_eq_true rfl)) rfl ?_
          obtain ⟨z37, hxz37, hf⟩ := bnd hf
          refine E_cV (as := [.ref (gB γ + (93 + 7))]) (k := 93) (rest := []) (u' := (0, 0)) (st' := [.int z37]) dX7_inHours_168 (q := 171) rfl lkm_X7_asleep lkv_X7_139 (Nat.le_of_ble_eq_true rfl) ckX7 (hF36.at 0 rfl) (hF36.lt 0 (Nat.le_of_ble_eq_true rfl)) ⟨Nat.le_refl _, Nat.le_refl _⟩ (Nat.le_of_ble_eq_true rfl) rfl rfl (m_X7_asleep_w (N := N)  hF36 hxz37) rfl rfl rfl ?_
          refine E_goto (q := 186) dX7_inHours_171 (by decide) ?_
          obtain rfl := Option.some.inj hf
          exact E_iret dX7_inHours_186 rfl ⟨rfl, rfl, rfl⟩
      · have hf := if_t c8 hf
        refine E_iconst (x := (-1)) dX7_inHours_33 (q := 34) rfl (by decide) ?_
        obtain rfl := Option.some.inj hf
        exact E_iret dX7_inHours_34 rfl ⟨rfl, rfl, rfl⟩

-- PostReliefModel.round(I)I
def b_X7_round_1 (N : Nat) (p1 : Int32) (m_many : FN) (m_s : FN) (v2 : Int32) (v3 : Int32) (v4 : Int32) (m_w : FN) : Option ((Int32 × Int32 × Int32 × FN) ⊕ (Int32 × Int32 × FN)) :=
  (if (2 * (m_many (ci 0))) ≤ v4 then some (.inr (v2, v3, m_w)) else (if (m_many (ci 0)) ≤ v4 then ((f_X7_asNow N m_s m_w).bind fun z9 => (if ¬ (m_many (ci 0)) = 0 then ((f_X7_relieved_w N (v4 % (m_many (ci 0))) 0 m_many z9).bind fun z13 => ((f_X7_debtStanding_w N m_many z13.2).bind fun z16 => (if v3 ≤ z16 then some (.inl (v2, v3, (v4 + 1), z13.2)) else some (.inl (((10 * 0) + (v4 % (m_many (ci 0)))), z16, (v4 + 1), z13.2))))) else none)) else ((f_X7_asNow N m_s m_w).bind fun z18 => (if ¬ (m_many (ci 0)) = 0 then ((f_X7_relieved_w N (v4 % (m_many (ci 0))) 1 m_many z18).bind fun z22 => ((f_X7_debtStanding_w N m_many z22.2).bind fun z25 => (if v3 ≤ z25 then some (.inl (v2, v3, (v4 + 1), z22.2)) else some (.inl (((10 * 1) + (v4 % (m_many (ci 0)))), z25, (v4 + 1), z22.2))))) else none))))
def f_X7_round (N : Nat) (a1 : Int32) (m_thrown : Int32) (m_many : FN) (m_s : FN) (m_w : FN) : Option (Int32 × Int32 × FN) :=
  ((f_X7_in N a1 0 1).bind fun z3 => (if z3 = 0 then some ((-1), 0, m_w) else ((lp (fun s => b_X7_round_1 N a1 m_many m_s s.1 s.2.1 s.2.2.1 s.2.2.2) N ((-9), 1000000, 0, m_w)).bind fun t27 => (if t27.1 = (-9) then some (t27.1, 0, t27.2.2) else (if a1 = 0 then some (t27.1, 0, t27.2.2) else some (t27.2.1, 0, t27.2.2))))))
set_option maxHeartbeats 4000000 in
set_option maxRecDepth 100000 in
theorem L_X7_round_1 {γ : GX} {n : Nat} {h : HP} {Ψ : PS} {N : Nat} {p1 : Int32} {m_thrown : Int32} {m_trace : Int64} {m_text : FN} {m_typed : Int32} {m_next : Int32} {m_token : Int32} {m_place : Int32} {m_value : Int32} {m_fault : Int32} {m_many : FN} {m_sees : FN} {m_cold : FN} {m_first : FN} {m_told : Int32} {m_s : FN} {m_kept : FN} {m_isKept : FN} {m_undos : FN} {m_undoMany : Int32} {m_foundMan : FN} {m_foundHours : FN} {m_foundIs : FN} {m_foundMany : Int32} {m_row : FN} {m_best : FN} (hn_m : 93 + 16 ≤ n) {s0 : Int32 × Int32 × Int32 × FN} {t : Int32 × Int32 × FN} (hf : lp (fun s => b_X7_round_1 N p1 m_many m_s s.1 s.2.1 s.2.2.1 s.2.2.2) N s0 = some t) (K : Ev γ M_X7_round (0, 0) n (put 93 (mdB γ 93 m_thrown m_trace m_text m_typed m_next m_token m_place m_value m_fault m_many m_sees m_cold m_first m_told m_s t.2.2 m_kept m_isKept m_undos m_undoMany m_foundMan m_foundHours m_foundIs m_foundMany m_row m_best) h) [(1, .int p1), (2, .int t.1), (3, .int t.2.1)] 135 [] Ψ) : Ev γ M_X7_round (0, 0) n (put 93 (mdB γ 93 m_thrown m_trace m_text m_typed m_next m_token m_place m_value m_fault m_many m_sees m_cold m_first m_told m_s s0.2.2.2 m_kept m_isKept m_undos m_undoMany m_foundMan m_foundHours m_foundIs m_foundMany m_row m_best) h) [(0, .ref (gB γ + 93)), (1, .int p1), (2, .int s0.1), (3, .int s0.2.1), (4, .int s0.2.2.1)] 25 [] Ψ := by
  refine E_lp (P := fun s => Ev γ M_X7_round (0, 0) n (put 93 (mdB γ 93 m_thrown m_trace m_text m_typed m_next m_token m_place m_value m_fault m_many m_sees m_cold m_first m_told m_s s.2.2.2 m_kept m_isKept m_undos m_undoMany m_foundMan m_foundHours m_foundIs m_foundMany m_row m_best) h) [(0, .ref (gB γ + 93)), (1, .int p1), (2, .int s.1), (3, .int s.2.1), (4, .int s.2.2.1)] 25 [] Ψ) (K := fun t => Ev γ M_X7_round (0, 0) n (put 93 (mdB γ 93 m_thrown m_trace m_text m_typed m_next m_token m_place m_value m_fault m_many m_sees m_cold m_first m_told m_s t.2.2 m_kept m_isKept m_undos m_undoMany m_foundMan m_foundHours m_foundIs m_foundMany m_row m_best) h) [(1, .int p1), (2, .int t.1), (3, .int t.2.1)] 135 [] Ψ) ?_ N s0 t hf K
  intro s r hf hP hK
  obtain ⟨v2, v3, v4, m_w⟩ := s
  change b_X7_round_1 N p1 m_many m_s v2 v3 v4 m_w = some r at hf
  unfold b_X7_round_1 at hf
  show Ev γ M_X7_round (0, 0) n (put 93 (mdB γ 93 m_thrown m_trace m_text m_typed m_next m_token m_place m_value m_fault m_many m_sees m_cold m_first m_told m_s m_w m_kept m_isKept m_undos m_undoMany m_foundMan m_foundHours m_foundIs m_foundMany m_row m_best) h) [(0, .ref (gB γ + 93)), (1, .int p1), (2, .int v2), (3, .int v3), (4, .int v4)] 25 [] Ψ
  refine E_iload 4 dX7_round_25 (q := 27) rfl rfl ?_
  refine E_iconst (x := 2) dX7_round_27 (q := 28) rfl (by decide) ?_
  refine E_aload_n 0 dX7_round_28 (q := 29) rfl rfl rfl ?_
  have hF6 : Has n 93 (mdB γ 93 m_thrown m_trace m_text m_typed m_next m_token m_place m_value m_fault m_many m_sees m_cold m_first m_told m_s m_w m_kept m_isKept m_undos m_undoMany m_foundMan m_foundHours m_foundIs m_foundMany m_row m_best) (put 93 (mdB γ 93 m_thrown m_trace m_text m_typed m_next m_token m_place m_value m_fault m_many m_sees m_cold m_first m_told m_s m_w m_kept m_isKept m_undos m_undoMany m_foundMan m_foundHours m_foundIs m_foundMany m_row m_best) h) := (has_put hn_m)
  refine E_get 9 dX7_round_29 (q := 32) rfl ckX7 (Nat.le_of_ble_eq_true rfl) fl_X7_13 (hF6.at 0 rfl) (hF6.lt 0 (Nat.le_of_ble_eq_true rfl)) rfl ?_
  refine E_iconst (x := 0) dX7_round_32 (q := 33) rfl (by decide) ?_
  refine E_iald dX7_round_33 (q := 34) rfl (hF6.at 2 rfl) (hF6.lt 2 (Nat.le_of_ble_eq_true rfl)) (by decide +kernel) ?_
  refine E_imul dX7_round_34 (q := 35) rfl ?_
  refine E_icmp_ge dX7_round_35 (t := 135) (by decide) (q := 38) rfl (fun c7 => ?_) (fun c7 => ?_)
  · have hf := if_t c7 hf
    exact E_sub [1, 2, 3] rfl (hK _ (Option.some.inj hf).symm)
  · have hf := if_f c7 hf
    refine E_iload 4 dX7_round_38 (q := 40) rfl rfl ?_
    refine E_aload_n 0 dX7_round_40 (q := 41) rfl rfl rfl ?_
    refine E_get 9 dX7_round_41 (q := 44) rfl ckX7 (Nat.le_of_ble_eq_true rfl) fl_X7_13 (hF6.at 0 rfl) (hF6.lt 0 (Nat.le_of_ble_eq_true rfl)) rfl ?_
    refine E_iconst (x := 0) dX7_round_44 (q := 45) rfl (by decide) ?_
    refine E_iald dX7_round_45 (q := 46) rfl (hF6.at 2 rfl) (hF6.lt 2 (Nat.le_of_ble_eq_true rfl)) (by decide +kernel) ?_
    refine E_icmp_ge dX7_round_46 (t := 53) (by decide) (q := 49) rfl (fun c8 => ?_) (fun c8 => ?_)
    · have hf := if_t c8 hf
      refine E_iconst (x := 0) dX7_round_53 (q := 54) rfl (by decide) ?_
      refine E_istore [(5, .int 0), (0, .ref (gB γ + 93)), (1, .int p1), (2, .int v2), (3, .int v3), (4, .int v4)] dX7_round_54 (q := 56) rfl (Nat.le_of_ble_eq_true rfl) rfl ?_
      refine E_aload_n 1 dX7_round_56 (q := 57) rfl rfl rfl ?_
      obtain ⟨z9, hxz9, hf⟩ := bnd hf
      refine E_cV (as := []) (k := 93) (rest := []) (u' := (0, 0)) (st' := []) dX7_round_57 (q := 60) rfl lkm_X7_asNow lkv_X7_165 (Nat.le_of_ble_eq_true rfl) ckX7 (hF6.at 0 rfl) (hF6.lt 0 (Nat.le_of_ble_eq_true rfl)) ⟨Nat.le_refl _, Nat.le_refl _⟩ (Nat.le_of_ble_eq_true rfl) rfl rfl (m_X7_asNow (N := N)  hF6 hxz9) rfl rfl rfl ?_
      refine Ev.heap (put_put (k := 93) (cs := (mdB γ 93 m_thrown m_trace m_text m_typed m_next m_token m_place m_value m_fault m_many m_sees m_cold m_first m_told m_s m_w m_kept m_isKept m_undos m_undoMany m_foundMan m_foundHours m_foundIs m_foundMany m_row m_best)) (cs' := (mdB γ 93 m_thrown m_trace m_text m_typed m_next m_token m_place m_value m_fault m_many m_sees m_cold m_first m_told m_s z9 m_kept m_isKept m_undos m_undoMany m_foundMan m_foundHours m_foundIs m_foundMany m_row m_best)) (show (16 : Nat) = 16 from rfl)) ?_
      refine E_aload_n 1 dX7_round_60 (q := 61) rfl rfl rfl ?_
      refine E_aload_n 1 dX7_round_61 (q := 62) rfl rfl rfl ?_
      have hF11 : Has n 93 (mdB γ 93 m_thrown m_trace m_text m_typed m_next m_token m_place m_value m_fault m_many m_sees m_cold m_first m_told m_s z9 m_kept m_isKept m_undos m_undoMany m_foundMan m_foundHours m_foundIs m_foundMany m_row m_best) (put 93 (mdB γ 93 m_thrown m_trace m_text m_typed m_next m_token m_place m_value m_fault m_many m_sees m_cold m_first m_told m_s z9 m_kept m_isKept m_undos m_undoMany m_foundMan m_foundHours m_foundIs m_foundMany m_row m_best) h) := (has_put hn_m)
      refine E_get 15 dX7_round_62 (q := 65) rfl ckX7 (Nat.le_of_ble_eq_true rfl) fl_X7_28 (hF11.at 0 rfl) (hF11.lt 0 (Nat.le_of_ble_eq_true rfl)) rfl ?_
      refine E_iload 5 dX7_round_65 (q := 67) rfl rfl ?_
      refine E_aload_n 1 dX7_round_67 (q := 68) rfl rfl rfl ?_
      refine E_get 9 dX7_round_68 (q := 71) rfl ckX7 (Nat.le_of_ble_eq_true rfl) fl_X7_13 (hF11.at 0 rfl) (hF11.lt 0 (Nat.le_of_ble_eq_true rfl)) rfl ?_
      refine E_iconst (x := 0) dX7_round_71 (q := 72) rfl (by decide) ?_
      refine E_iald dX7_round_72 (q := 73) rfl (hF11.at 2 rfl) (hF11.lt 2 (Nat.le_of_ble_eq_true rfl)) (by decide +kernel) ?_
      obtain ⟨g12, hf⟩ := gd hf
      refine E_irem dX7_round_73 (q := 74) rfl g12 ?_
      refine E_iload 0 dX7_round_74 (q := 76) rfl rfl ?_
      obtain ⟨z13, hxz13, hf⟩ := bnd hf
      refine E_cV (as := [.ref (gB γ + (93 + 7)), .int (v4 % (m_many (ci 0))), .int 0]) (k := 93) (rest := []) (u' := (0, 0)) (st' := [.int z13.1]) dX7_round_76 (q := 79) rfl lkm_X7_relieved lkv_X7_161 (Nat.le_of_ble_eq_true rfl) ckX7 (hF11.at 0 rfl) (hF11.lt 0 (Nat.le_of_ble_eq_true rfl)) ⟨Nat.le_refl _, Nat.le_refl _⟩ (Nat.le_of_ble_eq_true rfl) rfl rfl (m_X7_relieved_w (N := N)  hF11 hxz13) rfl rfl rfl ?_
      refine Ev.heap (put_put (k := 93) (cs := (mdB γ 93 m_thrown m_trace m_text m_typed m_next m_token m_place m_value m_fault m_many m_sees m_cold m_first m_told m_s z9 m_kept m_isKept m_undos m_undoMany m_foundMan m_foundHours m_foundIs m_foundMany m_row m_best)) (cs' := (mdB γ 93 m_thrown m_trace m_text m_typed m_next m_token m_place m_value m_fault m_many m_sees m_cold m_first m_told m_s z13.2 m_kept m_isKept m_undos m_undoMany m_foundMan m_foundHours m_foundIs m_foundMany m_row m_best)) (show (16 : Nat) = 16 from rfl)) ?_
      refine E_pop dX7_round_79 (q := 80) rfl rfl ?_
      refine E_aload_n 1 dX7_round_80 (q := 81) rfl rfl rfl ?_
      refine E_aload_n 1 dX7_round_81 (q := 82) rfl rfl rfl ?_
      have hF15 : Has n 93 (mdB γ 93 m_thrown m_trace m_text m_typed m_next m_token m_place m_value m_fault m_many m_sees m_cold m_first m_told m_s z13.2 m_kept m_isKept m_undos m_undoMany m_foundMan m_foundHours m_foundIs m_foundMany m_row m_best) (put 93 (mdB γ 93 m_thrown m_trace m_text m_typed m_next m_token m_place m_value m_fault m_many m_sees m_cold m_first m_told m_s z13.2 m_kept m_isKept m_undos m_undoMany m_foundMan m_foundHours m_foundIs m_foundMany m_row m_best) h) := (has_put hn_m)
      refine E_get 15 dX7_round_82 (q := 85) rfl ckX7 (Nat.le_of_ble_eq_true rfl) fl_X7_28 (hF15.at 0 rfl) (hF15.lt 0 (Nat.le_of_ble_eq_true rfl)) rfl ?_
      obtain ⟨z16, hxz16, hf⟩ := bnd hf
      refine E_cV (as := [.ref (gB γ + (93 + 7))]) (k := 93) (rest := []) (u' := (0, 0)) (st' := [.int z16]) dX7_round_85 (q := 88) rfl lkm_X7_debtStanding lkv_X7_172 (Nat.le_of_ble_eq_true rfl) ckX7 (hF15.at 0 rfl) (hF15.lt 0 (Nat.le_of_ble_eq_true rfl)) ⟨Nat.le_refl _, Nat.le_refl _⟩ (Nat.le_of_ble_eq_true rfl) rfl rfl (m_X7_debtStanding_w (N := N)  hF15 hxz16) rfl rfl rfl ?_
      refine E_istore [(6, .int z16), (5, .int 0), (0, .ref (gB γ + 93)), (1, .int p1), (2, .int v2), (3, .int v3), (4, .int v4)] dX7_round_88 (q := 90) rfl (Nat.le_of_ble_eq_true rfl) rfl ?_
      refine E_iload 0 dX7_round_90 (q := 92) rfl rfl ?_
      refine E_iload_n 5 dX7_round_92 (q := 93) rfl rfl rfl ?_
      refine E_icmp_ge dX7_round_93 (t := 114) (by decide) (q := 96) rfl (fun c17 => ?_) (fun c17 => ?_)
      · have hf := if_t c17 hf
        refine E_iload_n 4 dX7_round_114 (q := 115) rfl rfl rfl ?_
        refine E_istore_n [(2, .int v2), (6, .int z16), (5, .int 0), (0, .ref (gB γ + 93)), (1, .int p1), (3, .int v3), (4, .int v4)] dX7_round_115 (q := 116) rfl rfl (Nat.le_of_ble_eq_true rfl) rfl ?_
        refine E_iload 1 dX7_round_116 (q := 118) rfl rfl ?_
        refine E_iload_n 5 dX7_round_118 (q := 119) rfl rfl rfl ?_
        refine E_icmp_ge dX7_round_119 (t := 127) (by decide) (q := 122) rfl (fun _ => ?_) (fun c => absurd c17 c)
        refine E_iload_n 5 dX7_round_127 (q := 128) rfl rfl rfl ?_
        refine E_istore_n [(3, .int v3), (2, .int v2), (6, .int z16), (5, .int 0), (0, .ref (gB γ + 93)), (1, .int p1), (4, .int v4)] dX7_round_128 (q := 129) rfl rfl (Nat.le_of_ble_eq_true rfl) rfl ?_
        refine E_iinc 6 [(4, .int (v4 + 1)), (3, .int v3), (2, .int v2), (6, .int z16), (5, .int 0), (0, .ref (gB γ + 93)), (1, .int p1)] dX7_round_129 (q := 132) rfl rfl rfl (Nat.le_of_ble_eq_true rfl) rfl ?_
        refine E_goto (q := 25) dX7_round_132 (by decide) ?_
        exact E_sub [5, 6, 2, 1, 0] rfl (hP _ (Option.some.inj hf).symm)
      · have hf := if_f c17 hf
        refine E_bipush (x := 10) dX7_round_96 (q := 98) rfl (by decide) ?_
        refine E_iload 1 dX7_round_98 (q := 100) rfl rfl ?_
        refine E_imul dX7_round_100 (q := 101) rfl ?_
        refine E_iload 6 dX7_round_101 (q := 103) rfl rfl ?_
        refine E_aload_n 2 dX7_round_103 (q := 104) rfl rfl rfl ?_
        refine E_get 9 dX7_round_104 (q := 107) rfl ckX7 (Nat.le_of_ble_eq_true rfl) fl_X7_13 (hF15.at 0 rfl) (hF15.lt 0 (Nat.le_of_ble_eq_true rfl)) rfl ?_
        refine E_iconst (x := 0) dX7_round_107 (q := 108) rfl (by decide) ?_
        refine E_iald dX7_round_108 (q := 109) rfl (hF15.at 2 rfl) (hF15.lt 2 (Nat.le_of_ble_eq_true rfl)) (by decide +kernel) ?_
        refine E_irem dX7_round_109 (q := 110) rfl g12 ?_
        refine E_iadd dX7_round_110 (q := 111) rfl ?_
        refine E_goto (q := 115) dX7_round_111 (by decide) ?_
        refine E_istore_n [(2, .int ((10 * 0) + (v4 % (m_many (ci 0))))), (6, .int z16), (5, .int 0), (0, .ref (gB γ + 93)), (1, .int p1), (3, .int v3), (4, .int v4)] dX7_round_115 (q := 116) rfl rfl (Nat.le_of_ble_eq_true rfl) rfl ?_
        refine E_iload 1 dX7_round_116 (q := 118) rfl rfl ?_
        refine E_iload_n 5 dX7_round_118 (q := 119) rfl rfl rfl ?_
        refine E_icmp_ge dX7_round_119 (t := 127) (by decide) (q := 122) rfl (fun c => absurd c c17) (fun _ => ?_)
        refine E_iload 1 dX7_round_122 (q := 124) rfl rfl ?_
        refine E_goto (q := 128) dX7_round_124 (by decide) ?_
        refine E_istore_n [(3, .int z16), (2, .int ((10 * 0) + (v4 % (m_many (ci 0))))), (6, .int z16), (5, .int 0), (0, .ref (gB γ + 93)), (1, .int p1), (4, .int v4)] dX7_round_128 (q := 129) rfl rfl (Nat.le_of_ble_eq_true rfl) rfl ?_
        refine E_iinc 6 [(4, .int (v4 + 1)), (3, .int z16), (2, .int ((10 * 0) + (v4 % (m_many (ci 0))))), (6, .int z16), (5, .int 0), (0, .ref (gB γ + 93)), (1, .int p1)] dX7_round_129 (q := 132) rfl rfl rfl (Nat.le_of_ble_eq_true rfl) rfl ?_
        refine E_goto (q := 25) dX7_round_132 (by decide) ?_
        exact E_sub [5, 6, 2, 1, 0] rfl (hP _ (Option.some.inj hf).symm)
    · have hf := if_f c8 hf
      refine E_iconst (x := 1) dX7_round_49 (q := 50) rfl (by decide) ?_
      refine E_goto (q := 54) dX7_round_50 (by decide) ?_
      refine E_istore [(5, .int 1), (0, .ref (gB γ + 93)), (1, .int p1), (2, .int v2), (3, .int v3), (4, .int v4)] dX7_round_54 (q := 56) rfl (Nat.le_of_ble_eq_true rfl) rfl ?_
      refine E_aload_n 1 dX7_round_56 (q := 57) rfl rfl rfl ?_
      obtain ⟨z18, hxz18, hf⟩ := bnd hf
      refine E_cV (as := []) (k := 93) (rest := []) (u' := (0, 0)) (st' := []) dX7_round_57 (q := 60) rfl lkm_X7_asNow lkv_X7_165 (Nat.le_of_ble_eq_true rfl) ckX7 (hF6.at 0 rfl) (hF6.lt 0 (Nat.le_of_ble_eq_true rfl)) ⟨Nat.le_refl _, Nat.le_refl _⟩ (Nat.le_of_ble_eq_true rfl) rfl rfl (m_X7_asNow (N := N)  hF6 hxz18) rfl rfl rfl ?_
      refine Ev.heap (put_put (k := 93) (cs := (mdB γ 93 m_thrown m_trace m_text m_typed m_next m_token m_place m_value m_fault m_many m_sees m_cold m_first m_told m_s m_w m_kept m_isKept m_undos m_undoMany m_foundMan m_foundHours m_foundIs m_foundMany m_row m_best)) (cs' := (mdB γ 93 m_thrown m_trace m_text m_typed m_next m_token m_place m_value m_fault m_many m_sees m_cold m_first m_told m_s z18 m_kept m_isKept m_undos m_undoMany m_foundMan m_foundHours m_foundIs m_foundMany m_row m_best)) (show (16 : Nat) = 16 from rfl)) ?_
      refine E_aload_n 1 dX7_round_60 (q := 61) rfl rfl rfl ?_
      refine E_aload_n 1 dX7_round_61 (q := 62) rfl rfl rfl ?_
      have hF20 : Has n 93 (mdB γ 93 m_thrown m_trace m_text m_typed m_next m_token m_place m_value m_fault m_many m_sees m_cold m_first m_told m_s z18 m_kept m_isKept m_undos m_undoMany m_foundMan m_foundHours m_foundIs m_foundMany m_row m_best) (put 93 (mdB γ 93 m_thrown m_trace m_text m_typed m_next m_token m_place m_value m_fault m_many m_sees m_cold m_first m_told m_s z18 m_kept m_isKept m_undos m_undoMany m_foundMan m_foundHours m_foundIs m_foundMany m_row m_best) h) := (has_put hn_m)
      refine E_get 15 dX7_round_62 (q := 65) rfl ckX7 (Nat.le_of_ble_eq_true rfl) fl_X7_28 (hF20.at 0 rfl) (hF20.lt 0 (Nat.le_of_ble_eq_true rfl)) rfl ?_
      refine E_iload 5 dX7_round_65 (q := 67) rfl rfl ?_
      refine E_aload_n 1 dX7_round_67 (q := 68) rfl rfl rfl ?_
      refine E_get 9 dX7_round_68 (q := 71) rfl ckX7 (Nat.le_of_ble_eq_true rfl) fl_X7_13 (hF20.at 0 rfl) (hF20.lt 0 (Nat.le_of_ble_eq_true rfl)) rfl ?_
      refine E_iconst (x := 0) dX7_round_71 (q := 72) rfl (by decide) ?_
      refine E_iald dX7_round_72 (q := 73) rfl (hF20.at 2 rfl) (hF20.lt 2 (Nat.le_of_ble_eq_true rfl)) (by decide +kernel) ?_
      obtain ⟨g21, hf⟩ := gd hf
      refine E_irem dX7_round_73 (q := 74) rfl g21 ?_
      refine E_iload 0 dX7_round_74 (q := 76) rfl rfl ?_
      obtain ⟨z22, hxz22, hf⟩ := bnd hf
      refine E_cV (as := [.ref (gB γ + (93 + 7)), .int (v4 % (m_many (ci 0))), .int 1]) (k := 93) (rest := []) (u' := (0, 0)) (st' := [.int z22.1]) dX7_round_76 (q := 79) rfl lkm_X7_relieved lkv_X7_161 (Nat.le_of_ble_eq_true rfl) ckX7 (hF20.at 0 rfl) (hF20.lt 0 (Nat.le_of_ble_eq_true rfl)) ⟨Nat.le_refl _, Nat.le_refl _⟩ (Nat.le_of_ble_eq_true rfl) rfl rfl (m_X7_relieved_w (N := N)  hF20 hxz22) rfl rfl rfl ?_
      refine Ev.heap (put_put (k := 93) (cs := (mdB γ 93 m_thrown m_trace m_text m_typed m_next m_token m_place m_value m_fault m_many m_sees m_cold m_first m_told m_s z18 m_kept m_isKept m_undos m_undoMany m_foundMan m_foundHours m_foundIs m_foundMany m_row m_best)) (cs' := (mdB γ 93 m_thrown m_trace m_text m_typed m_next m_token m_place m_value m_fault m_many m_sees m_cold m_first m_told m_s z22.2 m_kept m_isKept m_undos m_undoMany m_foundMan m_foundHours m_foundIs m_foundMany m_row m_best)) (show (16 : Nat) = 16 from rfl)) ?_
      refine E_pop dX7_round_79 (q := 80) rfl rfl ?_
      refine E_aload_n 1 dX7_round_80 (q := 81) rfl rfl rfl ?_
      refine E_aload_n 1 dX7_round_81 (q := 82) rfl rfl rfl ?_
      have hF24 : Has n 93 (mdB γ 93 m_thrown m_trace m_text m_typed m_next m_token m_place m_value m_fault m_many m_sees m_cold m_first m_told m_s z22.2 m_kept m_isKept m_undos m_undoMany m_foundMan m_foundHours m_foundIs m_foundMany m_row m_best) (put 93 (mdB γ 93 m_thrown m_trace m_text m_typed m_next m_token m_place m_value m_fault m_many m_sees m_cold m_first m_told m_s z22.2 m_kept m_isKept m_undos m_undoMany m_foundMan m_foundHours m_foundIs m_foundMany m_row m_best) h) := (has_put hn_m)
      refine E_get 15 dX7_round_82 (q := 85) rfl ckX7 (Nat.le_of_ble_eq_true rfl) fl_X7_28 (hF24.at 0 rfl) (hF24.lt 0 (Nat.le_of_ble_eq_true rfl)) rfl ?_
      obtain ⟨z25, hxz25, hf⟩ := bnd hf
      refine E_cV (as := [.ref (gB γ + (93 + 7))]) (k := 93) (rest := []) (u' := (0, 0)) (st' := [.int z25]) dX7_round_85 (q := 88) rfl lkm_X7_debtStanding lkv_X7_172 (Nat.le_of_ble_eq_true rfl) ckX7 (hF24.at 0 rfl) (hF24.lt 0 (Nat.le_of_ble_eq_true rfl)) ⟨Nat.le_refl _, Nat.le_refl _⟩ (Nat.le_of_ble_eq_true rfl) rfl rfl (m_X7_debtStanding_w (N := N)  hF24 hxz25) rfl rfl rfl ?_
      refine E_istore [(6, .int z25), (5, .int 1), (0, .ref (gB γ + 93)), (1, .int p1), (2, .int v2), (3, .int v3), (4, .int v4)] dX7_round_88 (q := 90) rfl (Nat.le_of_ble_eq_true rfl) rfl ?_
      refine E_iload 0 dX7_round_90 (q := 92) rfl rfl ?_
      refine E_iload_n 5 dX7_round_92 (q := 93) rfl rfl rfl ?_
      refine E_icmp_ge dX7_round_93 (t := 114) (by decide) (q := 96) rfl (fun c26 => ?_) (fun c26 => ?_)
      · have hf := if_t c26 hf
        refine E_iload_n 4 dX7_round_114 (q := 115) rfl rfl rfl ?_
        refine E_istore_n [(2, .int v2), (6, .int z25), (5, .int 1), (0, .ref (gB γ + 93)), (1, .int p1), (3, .int v3), (4, .int v4)] dX7_round_115 (q := 116) rfl rfl (Nat.le_of_ble_eq_true rfl) rfl ?_
        refine E_iload 1 dX7_round_116 (q := 118) rfl rfl ?_
        refine E_iload_n 5 dX7_round_118 (q := 119) rfl rfl rfl ?_
        refine E_icmp_ge dX7_round_119 (t := 127) (by decide) (q := 122) rfl (fun _ => ?_) (fun c => absurd c26 c)
        refine E_iload_n 5 dX7_round_127 (q := 128) rfl rfl rfl ?_
        refine E_istore_n [(3, .int v3), (2, .int v2), (6, .int z25), (5, .int 1), (0, .ref (gB γ + 93)), (1, .int p1), (4, .int v4)] dX7_round_128 (q := 129) rfl rfl (Nat.le_of_ble_eq_true rfl) rfl ?_
        refine E_iinc 6 [(4, .int (v4 + 1)), (3, .int v3), (2, .int v2), (6, .int z25), (5, .int 1), (0, .ref (gB γ + 93)), (1, .int p1)] dX7_round_129 (q := 132) rfl rfl rfl (Nat.le_of_ble_eq_true rfl) rfl ?_
        refine E_goto (q := 25) dX7_round_132 (by decide) ?_
        exact E_sub [5, 6, 2, 1, 0] rfl (hP _ (Option.some.inj hf).symm)
      · have hf := if_f c26 hf
        refine E_bipush (x := 10) dX7_round_96 (q := 98) rfl (by decide) ?_
        refine E_iload 1 dX7_round_98 (q := 100) rfl rfl ?_
        refine E_imul dX7_round_100 (q := 101) rfl ?_
        refine E_iload 6 dX7_round_101 (q := 103) rfl rfl ?_
        refine E_aload_n 2 dX7_round_103 (q := 104) rfl rfl rfl ?_
        refine E_get 9 dX7_round_104 (q := 107) rfl ckX7 (Nat.le_of_ble_eq_true rfl) fl_X7_13 (hF24.at 0 rfl) (hF24.lt 0 (Nat.le_of_ble_eq_true rfl)) rfl ?_
        refine E_iconst (x := 0) dX7_round_107 (q := 108) rfl (by decide) ?_
        refine E_iald dX7_round_108 (q := 109) rfl (hF24.at 2 rfl) (hF24.lt 2 (Nat.le_of_ble_eq_true rfl)) (by decide +kernel) ?_
        refine E_irem dX7_round_109 (q := 110) rfl g21 ?_
        refine E_iadd dX7_round_110 (q := 111) rfl ?_
        refine E_goto (q := 115) dX7_round_111 (by decide) ?_
        refine E_istore_n [(2, .int ((10 * 1) + (v4 % (m_many (ci 0))))), (6, .int z25), (5, .int 1), (0, .ref (gB γ + 93)), (1, .int p1), (3, .int v3), (4, .int v4)] dX7_round_115 (q := 116) rfl rfl (Nat.le_of_ble_eq_true rfl) rfl ?_
        refine E_iload 1 dX7_round_116 (q := 118) rfl rfl ?_
        refine E_iload_n 5 dX7_round_118 (q := 119) rfl rfl rfl ?_
        refine E_icmp_ge dX7_round_119 (t := 127) (by decide) (q := 122) rfl (fun c => absurd c c26) (fun _ => ?_)
        refine E_iload 1 dX7_round_122 (q := 124) rfl rfl ?_
        refine E_goto (q := 128) dX7_round_124 (by decide) ?_
        refine E_istore_n [(3, .int z25), (2, .int ((10 * 1) + (v4 % (m_many (ci 0))))), (6, .int z25), (5, .int 1), (0, .ref (gB γ + 93)), (1, .int p1), (4, .int v4)] dX7_round_128 (q := 129) rfl rfl (Nat.le_of_ble_eq_true rfl) rfl ?_
        refine E_iinc 6 [(4, .int (v4 + 1)), (3, .int z25), (2, .int ((10 * 1) + (v4 % (m_many (ci 0))))), (6, .int z25), (5, .int 1), (0, .ref (gB γ + 93)), (1, .int p1)] dX7_round_129 (q := 132) rfl rfl rfl (Nat.le_of_ble_eq_true rfl) rfl ?_
        refine E_goto (q := 25) dX7_round_132 (by decide) ?_
        exact E_sub [5, 6, 2, 1, 0] rfl (hP _ (Option.some.inj hf).symm)
set_option maxHeartbeats 4000000 in
set_option maxRecDepth 100000 in
theorem m_X7_round {γ : GX} {n : Nat} {N : Nat} {h : HP} {a1 : Int32} {m_thrown : Int32} {m_trace : Int64} {m_text : FN} {m_typed : Int32} {m_next : Int32} {m_token : Int32} {m_place : Int32} {m_value : Int32} {m_fault : Int32} {m_many : FN} {m_sees : FN} {m_cold : FN} {m_first : FN} {m_told : Int32} {m_s : FN} {m_w : FN} {m_kept : FN} {m_isKept : FN} {m_undos : FN} {m_undoMany : Int32} {m_foundMan : FN} {m_foundHours : FN} {m_foundIs : FN} {m_foundMany : Int32} {m_row : FN} {m_best : FN} (hH_m : Has n 93 (mdB γ 93 m_thrown m_trace m_text m_typed m_next m_token m_place m_value m_fault m_many m_sees m_cold m_first m_told m_s m_w m_kept m_isKept m_undos m_undoMany m_foundMan m_foundHours m_foundIs m_foundMany m_row m_best) h) {z : Int32 × Int32 × FN} (hf : f_X7_round N a1 m_thrown m_many m_s m_w = some z)  : Ct γ M_X7_round n h [.ref (gB γ + 93), .int a1] (Done (some (.int z.1)) n (put 93 (mdB γ 93 z.2.1 m_trace m_text m_typed m_next m_token m_place m_value m_fault m_many m_sees m_cold m_first m_told m_s z.2.2 m_kept m_isKept m_undos m_undoMany m_foundMan m_foundHours m_foundIs m_foundMany m_row m_best) h)) := by
  have hn_m : 93 + 16 ≤ n := hH_m.1
  refine Ct.heap (h := (put 93 (mdB γ 93 m_thrown m_trace m_text m_typed m_next m_token m_place m_value m_fault m_many m_sees m_cold m_first m_told m_s m_w m_kept m_isKept m_undos m_undoMany m_foundMan m_foundHours m_foundIs m_foundMany m_row m_best) h)) (put_self hH_m).symm ?_
  refine Ct_of_Ev (by decide) (fun h => by cases h) (Nat.le_of_ble_eq_true rfl) ?_
  show Ev γ M_X7_round (0, 0) n (put 93 (mdB γ 93 m_thrown m_trace m_text m_typed m_next m_token m_place m_value m_fault m_many m_sees m_cold m_first m_told m_s m_w m_kept m_isKept m_undos m_undoMany m_foundMan m_foundHours m_foundIs m_foundMany m_row m_best) h) [(0, .ref (gB γ + 93)), (1, .int a1)] 0 [] _
  unfold f_X7_round at hf
  refine E_aload_n 0 dX7_round_0 (q := 1) rfl rfl rfl ?_
  refine E_iconst (x := 0) dX7_round_1 (q := 2) rfl (by decide) ?_
  have hF1 : Has n 93 (mdB γ 93 m_thrown m_trace m_text m_typed m_next m_token m_place m_value m_fault m_many m_sees m_cold m_first m_told m_s m_w m_kept m_isKept m_undos m_undoMany m_foundMan m_foundHours m_foundIs m_foundMany m_row m_best) (put 93 (mdB γ 93 m_thrown m_trace m_text m_typed m_next m_token m_place m_value m_fault m_many m_sees m_cold m_first m_told m_s m_w m_kept m_isKept m_undos m_undoMany m_foundMan m_foundHours m_foundIs m_foundMany m_row m_best) h) := (has_put hn_m)
  refine E_put 0 dX7_round_2 (q := 5) rfl ckX7 (Nat.le_of_ble_eq_true rfl) fl_X7_56 rfl rfl rfl (hF1.at 0 rfl) (hF1.lt 0 (Nat.le_of_ble_eq_true rfl)) (Nat.le_of_ble_eq_true rfl) (up_put (i := 0) (cs' := (mdB γ 93 0 m_trace m_text m_typed m_next m_token m_place m_value m_fault m_many m_sees m_cold m_first m_told m_s m_w m_kept m_isKept m_undos m_undoMany m_foundMan m_foundHours m_foundIs m_foundMany m_row m_best)) (Nat.le_of_ble_eq_true rfl) rfl) ?_
  refine E_iload_n 1 dX7_round_5 (q := 6) rfl rfl rfl ?_
  refine E_iconst (x := 0) dX7_round_6 (q := 7) rfl (by decide) ?_
  refine E_iconst (x := 1) dX7_round_7 (q := 8) rfl (by decide) ?_
  obtain ⟨z3, hxz3, hf⟩ := bnd hf
  refine E_cS (as := [.int a1, .int 0, .int 1]) (rest := []) (u' := (0, 0)) (st' := [.int z3]) dX7_round_8 (q := 11) rfl lkm_X7_in lks_X7_60 (Nat.le_of_ble_eq_true rfl) ⟨Nat.le_refl _, Nat.le_refl _⟩ (Nat.le_of_ble_eq_true rfl) rfl rfl (m_X7_in (N := N)  hxz3) rfl rfl rfl ?_
  refine E_if_ne dX7_round_11 (t := 16) (by decide) (q := 14) rfl (fun c4 => ?_) (fun c4 => ?_)
  · have hf := if_f c4 hf
    refine E_bipush (x := (-9)) dX7_round_16 (q := 18) rfl (by decide) ?_
    refine E_istore_n [(2, .int (-9)), (0, .ref (gB γ + 93)), (1, .int a1)] dX7_round_18 (q := 19) rfl rfl (Nat.le_of_ble_eq_true rfl) rfl ?_
    refine E_ldc dX7_round_19 (q := 21) rfl cw_X7_171 ?_
    refine E_istore_n [(3, .int 1000000), (2, .int (-9)), (0, .ref (gB γ + 93)), (1, .int a1)] dX7_round_21 (q := 22) rfl rfl (Nat.le_of_ble_eq_true rfl) rfl ?_
    refine E_iconst (x := 0) dX7_round_22 (q := 23) rfl (by decide) ?_
    refine E_istore [(4, .int 0), (3, .int 1000000), (2, .int (-9)), (0, .ref (gB γ + 93)), (1, .int a1)] dX7_round_23 (q := 25) rfl (Nat.le_of_ble_eq_true rfl) rfl ?_
    obtain ⟨t27, hxt27, hf⟩ := bnd hf
    refine E_sub [3, 4, 2, 1, 0] rfl ?_
    refine L_X7_round_1 hn_m hxt27 ?_
    show Ev γ M_X7_round _ n (put 93 (mdB γ 93 0 m_trace m_text m_typed m_next m_token m_place m_value m_fault m_many m_sees m_cold m_first m_told m_s t27.2.2 m_kept m_isKept m_undos m_undoMany m_foundMan m_foundHours m_foundIs m_foundMany m_row m_best) h) [(1, .int a1), (2, .int t27.1), (3, .int t27.2.1)] 135 [] _
    refine E_iload_n 1 dX7_round_135 (q := 136) rfl rfl rfl ?_
    refine E_bipush (x := (-9)) dX7_round_136 (q := 138) rfl (by decide) ?_
    refine E_icmp_eq dX7_round_138 (t := 145) (by decide) (q := 141) rfl (fun c29 => ?_) (fun c29 => ?_)
    · have hf := if_t c29 hf
      refine E_iload_n 1 dX7_round_145 (q := 146) rfl rfl rfl ?_
      refine E_goto (q := 150) dX7_round_146 (by decide) ?_
      obtain rfl := Option.some.inj hf
      exact E_iret dX7_round_150 rfl ⟨rfl, rfl, rfl⟩
    · have hf := if_f c29 hf
      refine E_iload_n 0 dX7_round_141 (q := 142) rfl rfl rfl ?_
      refine E_if_ne dX7_round_142 (t := 149) (by decide) (q := 145) rfl (fun c30 => ?_) (fun c30 => ?_)
      · have hf := if_f c30 hf
        refine E_iload_n 2 dX7_round_149 (q := 150) rfl rfl rfl ?_
        obtain rfl := Option.some.inj hf
        exact E_iret dX7_round_150 rfl ⟨rfl, rfl, rfl⟩
      · have hf := if_t c30 hf
        refine E_iload_n 1 dX7_round_145 (q := 146) rfl rfl rfl ?_
        refine E_goto (q := 150) dX7_round_146 (by decide) ?_
        obtain rfl := Option.some.inj hf
        exact E_iret dX7_round_150 rfl ⟨rfl, rfl, rfl⟩
  · have hf := if_t c4 hf
    refine E_iconst (x := (-1)) dX7_round_14 (q := 15) rfl (by decide) ?_
    obtain rfl := Option.some.inj hf
    exact E_iret dX7_round_15 rfl ⟨rfl, rfl, rfl⟩

-- PostReliefModel.greatest()I
def b_X7_greatest_1 (N : Nat) (m_many : FN) (v1 : Int32) (m_w : FN) : Option ((Int32 × FN) ⊕ (FN)) :=
  (if (m_many (ci 1)) ≤ v1 then some (.inr m_w) else (if ix (7 + v1) 48 = true then some (.inl ((v1 + 1), (upd m_w (ci (7 + v1)) 0))) else none))
def b_X7_greatest_2 (N : Nat) (m_many : FN) (m_row : FN) (v1 : Int32) (m_w : FN) : Option ((Int32 × FN) ⊕ (FN)) :=
  (if (m_many (ci 0)) ≤ v1 then some (.inr m_w) else (if ix v1 5 = true then (if ix (7 + (m_row (ci v1))) 48 = true then some (.inl ((v1 + 1), (upd m_w (ci (7 + (m_row (ci v1)))) (v1 + 1)))) else none) else none))
def b_X7_greatest_3 (N : Nat) (m_many : FN) (m_cold : FN) (v1 : Int32) (m_w : FN) : Option ((Int32 × FN) ⊕ (FN)) :=
  (if (m_many (ci 2)) ≤ v1 then some (.inr m_w) else ((f_X7_goes_w N m_many m_cold m_w).bind fun z22 => some (.inl ((v1 + 1), z22))))
def b_X7_greatest_4 (N : Nat) (m_many : FN) (m_w : FN) (m_row : FN) (v1 : Int32) (v2 : Int32) : Option ((Int32 × Int32) ⊕ (Int32)) :=
  (if (m_many (ci 0)) ≤ v2 then some (.inr v1) else (if ix v2 5 = true then (if ix (1 + (m_row (ci v2))) 48 = true then (if (m_w (ci (1 + (m_row (ci v2))))) ≤ v1 then some (.inl (v1, (v2 + 1))) else some (.inl ((m_w (ci (1 + (m_row (ci v2))))), (v2 + 1)))) else none) else none))
def f_X7_greatest (N : Nat) (m_many : FN) (m_cold : FN) (m_s : FN) (m_w : FN) (m_row : FN) : Option (Int32 × FN) :=
  ((f_X7_asNow N m_s m_w).bind fun z1 => ((lp (fun s => b_X7_greatest_1 N m_many s.1 s.2) N (0, z1)).bind fun t9 => ((lp (fun s => b_X7_greatest_2 N m_many m_row s.1 s.2) N (0, t9)).bind fun t17 => ((lp (fun s => b_X7_greatest_3 N m_many m_cold s.1 s.2) N (0, t17)).bind fun t24 => ((lp (fun s => b_X7_greatest_4 N m_many t24 m_row s.1 s.2) N (0, 0)).bind fun t32 => some (t32, t24))))))
set_option maxHeartbeats 4000000 in
set_option maxRecDepth 100000 in
theorem L_X7_greatest_1 {γ : GX} {n : Nat} {h : HP} {Ψ : PS} {N : Nat} {m_thrown : Int32} {m_trace : Int64} {m_text : FN} {m_typed : Int32} {m_next : Int32} {m_token : Int32} {m_place : Int32} {m_value : Int32} {m_fault : Int32} {m_many : FN} {m_sees : FN} {m_cold : FN} {m_first : FN} {m_told : Int32} {m_s : FN} {m_kept : FN} {m_isKept : FN} {m_undos : FN} {m_undoMany : Int32} {m_foundMan : FN} {m_foundHours : FN} {m_foundIs : FN} {m_foundMany : Int32} {m_row : FN} {m_best : FN} (hn_m : 93 + 16 ≤ n) {s0 : Int32 × FN} {t : FN} (hf : lp (fun s => b_X7_greatest_1 N m_many s.1 s.2) N s0 = some t) (K : Ev γ M_X7_greatest (0, 0) n (put 93 (mdB γ 93 m_thrown m_trace m_text m_typed m_next m_token m_place m_value m_fault m_many m_sees m_cold m_first m_told m_s t m_kept m_isKept m_undos m_undoMany m_foundMan m_foundHours m_foundIs m_foundMany m_row m_best) h) [(0, .ref (gB γ + 93))] 32 [] Ψ) : Ev γ M_X7_greatest (0, 0) n (put 93 (mdB γ 93 m_thrown m_trace m_text m_typed m_next m_token m_place m_value m_fault m_many m_sees m_cold m_first m_told m_s s0.2 m_kept m_isKept m_undos m_undoMany m_foundMan m_foundHours m_foundIs m_foundMany m_row m_best) h) [(0, .ref (gB γ + 93)), (1, .int s0.1)] 6 [] Ψ := by
  refine E_lp (P := fun s => Ev γ M_X7_greatest (0, 0) n (put 93 (mdB γ 93 m_thrown m_trace m_text m_typed m_next m_token m_place m_value m_fault m_many m_sees m_cold m_first m_told m_s s.2 m_kept m_isKept m_undos m_undoMany m_foundMan m_foundHours m_foundIs m_foundMany m_row m_best) h) [(0, .ref (gB γ + 93)), (1, .int s.1)] 6 [] Ψ) (K := fun t => Ev γ M_X7_greatest (0, 0) n (put 93 (mdB γ 93 m_thrown m_trace m_text m_typed m_next m_token m_place m_value m_fault m_many m_sees m_cold m_first m_told m_s t m_kept m_isKept m_undos m_undoMany m_foundMan m_foundHours m_foundIs m_foundMany m_row m_best) h) [(0, .ref (gB γ + 93))] 32 [] Ψ) ?_ N s0 t hf K
  intro s r hf hP hK
  obtain ⟨v1, m_w⟩ := s
  change b_X7_greatest_1 N m_many v1 m_w = some r at hf
  unfold b_X7_greatest_1 at hf
  show Ev γ M_X7_greatest (0, 0) n (put 93 (mdB γ 93 m_thrown m_trace m_text m_typed m_next m_token m_place m_value m_fault m_many m_sees m_cold m_first m_told m_s m_w m_kept m_isKept m_undos m_undoMany m_foundMan m_foundHours m_foundIs m_foundMany m_row m_best) h) [(0, .ref (gB γ + 93)), (1, .int v1)] 6 [] Ψ
  refine E_iload_n 1 dX7_greatest_6 (q := 7) rfl rfl rfl ?_
  refine E_aload_n 0 dX7_greatest_7 (q := 8) rfl rfl rfl ?_
  have hF5 : Has n 93 (mdB γ 93 m_thrown m_trace m_text m_typed m_next m_token m_place m_value m_fault m_many m_sees m_cold m_first m_told m_s m_w m_kept m_isKept m_undos m_undoMany m_foundMan m_foundHours m_foundIs m_foundMany m_row m_best) (put 93 (mdB γ 93 m_thrown m_trace m_text m_typed m_next m_token m_place m_value m_fault m_many m_sees m_cold m_first m_told m_s m_w m_kept m_isKept m_undos m_undoMany m_foundMan m_foundHours m_foundIs m_foundMany m_row m_best) h) := (has_put hn_m)
  refine E_get 9 dX7_greatest_8 (q := 11) rfl ckX7 (Nat.le_of_ble_eq_true rfl) fl_X7_13 (hF5.at 0 rfl) (hF5.lt 0 (Nat.le_of_ble_eq_true rfl)) rfl ?_
  refine E_iconst (x := 1) dX7_greatest_11 (q := 12) rfl (by decide) ?_
  refine E_iald dX7_greatest_12 (q := 13) rfl (hF5.at 2 rfl) (hF5.lt 2 (Nat.le_of_ble_eq_true rfl)) (by decide +kernel) ?_
  refine E_icmp_ge dX7_greatest_13 (t := 32) (by decide) (q := 16) rfl (fun c6 => ?_) (fun c6 => ?_)
  · have hf := if_t c6 hf
    exact E_sub [0] rfl (hK _ (Option.some.inj hf).symm)
  · have hf := if_f c6 hf
    refine E_aload_n 0 dX7_greatest_16 (q := 17) rfl rfl rfl ?_
    refine E_get 15 dX7_greatest_17 (q := 20) rfl ckX7 (Nat.le_of_ble_eq_true rfl) fl_X7_28 (hF5.at 0 rfl) (hF5.lt 0 (Nat.le_of_ble_eq_true rfl)) rfl ?_
    refine E_bipush (x := 7) dX7_greatest_20 (q := 22) rfl (by decide) ?_
    refine E_iload_n 1 dX7_greatest_22 (q := 23) rfl rfl rfl ?_
    refine E_iadd dX7_greatest_23 (q := 24) rfl ?_
    refine E_iconst (x := 0) dX7_greatest_24 (q := 25) rfl (by decide) ?_
    obtain ⟨g7, hf⟩ := gd hf
    refine E_iast dX7_greatest_25 (q := 26) rfl (hF5.at 7 rfl) (hF5.lt 7 (Nat.le_of_ble_eq_true rfl)) g7 (up_put (i := 7) (cs' := (mdB γ 93 m_thrown m_trace m_text m_typed m_next m_token m_place m_value m_fault m_many m_sees m_cold m_first m_told m_s (upd m_w (ci (7 + v1)) 0) m_kept m_isKept m_undos m_undoMany m_foundMan m_foundHours m_foundIs m_foundMany m_row m_best)) (Nat.le_of_ble_eq_true rfl) rfl) ?_
    refine E_iinc 1 [(1, .int (v1 + 1)), (0, .ref (gB γ + 93))] dX7_greatest_26 (q := 29) rfl rfl rfl (Nat.le_of_ble_eq_true rfl) rfl ?_
    refine E_goto (q := 6) dX7_greatest_29 (by decide) ?_
    exact E_sub [1, 0] rfl (hP _ (Option.some.inj hf).symm)
set_option maxHeartbeats 4000000 in
set_option maxRecDepth 100000 in
theorem L_X7_greatest_2 {γ : GX} {n : Nat} {h : HP} {Ψ : PS} {N : Nat} {m_thrown : Int32} {m_trace : Int64} {m_text : FN} {m_typed : Int32} {m_next : Int32} {m_token : Int32} {m_place : Int32} {m_value : Int32} {m_fault : Int32} {m_many : FN} {m_sees : FN} {m_cold : FN} {m_first : FN} {m_told : Int32} {m_s : FN} {m_kept : FN} {m_isKept : FN} {m_undos : FN} {m_undoMany : Int32} {m_foundMan : FN} {m_foundHours : FN} {m_foundIs : FN} {m_foundMany : Int32} {m_row : FN} {m_best : FN} (hn_m : 93 + 16 ≤ n) {s0 : Int32 × FN} {t : FN} (hf : lp (fun s => b_X7_greatest_2 N m_many m_row s.1 s.2) N s0 = some t) (K : Ev γ M_X7_greatest (0, 0) n (put 93 (mdB γ 93 m_thrown m_trace m_text m_typed m_next m_token m_place m_value m_fault m_many m_sees m_cold m_first m_told m_s t m_kept m_isKept m_undos m_undoMany m_foundMan m_foundHours m_foundIs m_foundMany m_row m_best) h) [(0, .ref (gB γ + 93))] 67 [] Ψ) : Ev γ M_X7_greatest (0, 0) n (put 93 (mdB γ 93 m_thrown m_trace m_text m_typed m_next m_token m_place m_value m_fault m_many m_sees m_cold m_first m_told m_s s0.2 m_kept m_isKept m_undos m_undoMany m_foundMan m_foundHours m_foundIs m_foundMany m_row m_best) h) [(0, .ref (gB γ + 93)), (1, .int s0.1)] 34 [] Ψ := by
  refine E_lp (P := fun s => Ev γ M_X7_greatest (0, 0) n (put 93 (mdB γ 93 m_thrown m_trace m_text m_typed m_next m_token m_place m_value m_fault m_many m_sees m_cold m_first m_told m_s s.2 m_kept m_isKept m_undos m_undoMany m_foundMan m_foundHours m_foundIs m_foundMany m_row m_best) h) [(0, .ref (gB γ + 93)), (1, .int s.1)] 34 [] Ψ) (K := fun t => Ev γ M_X7_greatest (0, 0) n (put 93 (mdB γ 93 m_thrown m_trace m_text m_typed m_next m_token m_place m_value m_fault m_many m_sees m_cold m_first m_told m_s t m_kept m_isKept m_undos m_undoMany m_foundMan m_foundHours m_foundIs m_foundMany m_row m_best) h) [(0, .ref (gB γ + 93))] 67 [] Ψ) ?_ N s0 t hf K
  intro s r hf hP hK
  obtain ⟨v1, m_w⟩ := s
  change b_X7_greatest_2 N m_many m_row v1 m_w = some r at hf
  unfold b_X7_greatest_2 at hf
  show Ev γ M_X7_greatest (0, 0) n (put 93 (mdB γ 93 m_thrown m_trace m_text m_typed m_next m_token m_place m_value m_fault m_many m_sees m_cold m_first m_told m_s m_w m_kept m_isKept m_undos m_undoMany m_foundMan m_foundHours m_foundIs m_foundMany m_row m_best) h) [(0, .ref (gB γ + 93)), (1, .int v1)] 34 [] Ψ
  refine E_iload_n 1 dX7_greatest_34 (q := 35) rfl rfl rfl ?_
  refine E_aload_n 0 dX7_greatest_35 (q := 36) rfl rfl rfl ?_
  have hF12 : Has n 93 (mdB γ 93 m_thrown m_trace m_text m_typed m_next m_token m_place m_value m_fault m_many m_sees m_cold m_first m_told m_s m_w m_kept m_isKept m_undos m_undoMany m_foundMan m_foundHours m_foundIs m_foundMany m_row m_best) (put 93 (mdB γ 93 m_thrown m_trace m_text m_typed m_next m_token m_place m_value m_fault m_many m_sees m_cold m_first m_told m_s m_w m_kept m_isKept m_undos m_undoMany m_foundMan m_foundHours m_foundIs m_foundMany m_row m_best) h) := (has_put hn_m)
  refine E_get 9 dX7_greatest_36 (q := 39) rfl ckX7 (Nat.le_of_ble_eq_true rfl) fl_X7_13 (hF12.at 0 rfl) (hF12.lt 0 (Nat.le_of_ble_eq_true rfl)) rfl ?_
  refine E_iconst (x := 0) dX7_greatest_39 (q := 40) rfl (by decide) ?_
  refine E_iald dX7_greatest_40 (q := 41) rfl (hF12.at 2 rfl) (hF12.lt 2 (Nat.le_of_ble_eq_true rfl)) (by decide +kernel) ?_
  refine E_icmp_ge dX7_greatest_41 (t := 67) (by decide) (q := 44) rfl (fun c13 => ?_) (fun c13 => ?_)
  · have hf := if_t c13 hf
    exact E_sub [0] rfl (hK _ (Option.some.inj hf).symm)
  · have hf := if_f c13 hf
    refine E_aload_n 0 dX7_greatest_44 (q := 45) rfl rfl rfl ?_
    refine E_get 15 dX7_greatest_45 (q := 48) rfl ckX7 (Nat.le_of_ble_eq_true rfl) fl_X7_28 (hF12.at 0 rfl) (hF12.lt 0 (Nat.le_of_ble_eq_true rfl)) rfl ?_
    refine E_bipush (x := 7) dX7_greatest_48 (q := 50) rfl (by decide) ?_
    refine E_aload_n 0 dX7_greatest_50 (q := 51) rfl rfl rfl ?_
    refine E_get 24 dX7_greatest_51 (q := 54) rfl ckX7 (Nat.le_of_ble_eq_true rfl) fl_X7_50 (hF12.at 0 rfl) (hF12.lt 0 (Nat.le_of_ble_eq_true rfl)) rfl ?_
    refine E_iload_n 1 dX7_greatest_54 (q := 55) rfl rfl rfl ?_
    obtain ⟨g14, hf⟩ := gd hf
    refine E_iald dX7_greatest_55 (q := 56) rfl (hF12.at 14 rfl) (hF12.lt 14 (Nat.le_of_ble_eq_true rfl)) g14 ?_
    refine E_iadd dX7_greatest_56 (q := 57) rfl ?_
    refine E_iload_n 1 dX7_greatest_57 (q := 58) rfl rfl rfl ?_
    refine E_iconst (x := 1) dX7_greatest_58 (q := 59) rfl (by decide) ?_
    refine E_iadd dX7_greatest_59 (q := 60) rfl ?_
    obtain ⟨g15, hf⟩ := gd hf
    refine E_iast dX7_greatest_60 (q := 61) rfl (hF12.at 7 rfl) (hF12.lt 7 (Nat.le_of_ble_eq_true rfl)) g15 (up_put (i := 7) (cs' := (mdB γ 93 m_thrown m_trace m_text m_typed m_next m_token m_place m_value m_fault m_many m_sees m_cold m_first m_told m_s (upd m_w (ci (7 + (m_row (ci v1)))) (v1 + 1)) m_kept m_isKept m_undos m_undoMany m_foundMan m_foundHours m_foundIs m_foundMany m_row m_best)) (Nat.le_of_ble_eq_true rfl) rfl) ?_
    refine E_iinc 1 [(1, .int (v1 + 1)), (0, .ref (gB γ + 93))] dX7_greatest_61 (q := 64) rfl rfl rfl (Nat.le_of_ble_eq_true rfl) rfl ?_
    refine E_goto (q := 34) dX7_greatest_64 (by decide) ?_
    exact E_sub [1, 0] rfl (hP _ (Option.some.inj hf).symm)
set_option maxHeartbeats 4000000 in
set_option maxRecDepth 100000 in
theorem L_X7_greatest_3 {γ : GX} {n : Nat} {h : HP} {Ψ : PS} {N : Nat} {m_thrown : Int32} {m_trace : Int64} {m_text : FN} {m_typed : Int32} {m_next : Int32} {m_token : Int32} {m_place : Int32} {m_value : Int32} {m_fault : Int32} {m_many : FN} {m_sees : FN} {m_cold : FN} {m_first : FN} {m_told : Int32} {m_s : FN} {m_kept : FN} {m_isKept : FN} {m_undos : FN} {m_undoMany : Int32} {m_foundMan : FN} {m_foundHours : FN} {m_foundIs : FN} {m_foundMany : Int32} {m_row : FN} {m_best : FN} (hn_m : 93 + 16 ≤ n) {s0 : Int32 × FN} {t : FN} (hf : lp (fun s => b_X7_greatest_3 N m_many m_cold s.1 s.2) N s0 = some t) (K : Ev γ M_X7_greatest (0, 0) n (put 93 (mdB γ 93 m_thrown m_trace m_text m_typed m_next m_token m_place m_value m_fault m_many m_sees m_cold m_first m_told m_s t m_kept m_isKept m_undos m_undoMany m_foundMan m_foundHours m_foundIs m_foundMany m_row m_best) h) [(0, .ref (gB γ + 93))] 93 [] Ψ) : Ev γ M_X7_greatest (0, 0) n (put 93 (mdB γ 93 m_thrown m_trace m_text m_typed m_next m_token m_place m_value m_fault m_many m_sees m_cold m_first m_told m_s s0.2 m_kept m_isKept m_undos m_undoMany m_foundMan m_foundHours m_foundIs m_foundMany m_row m_best) h) [(0, .ref (gB γ + 93)), (1, .int s0.1)] 69 [] Ψ := by
  refine E_lp (P := fun s => Ev γ M_X7_greatest (0, 0) n (put 93 (mdB γ 93 m_thrown m_trace m_text m_typed m_next m_token m_place m_value m_fault m_many m_sees m_cold m_first m_told m_s s.2 m_kept m_isKept m_undos m_undoMany m_foundMan m_foundHours m_foundIs m_foundMany m_row m_best) h) [(0, .ref (gB γ + 93)), (1, .int s.1)] 69 [] Ψ) (K := fun t => Ev γ M_X7_greatest (0, 0) n (put 93 (mdB γ 93 m_thrown m_trace m_text m_typed m_next m_token m_place m_value m_fault m_many m_sees m_cold m_first m_told m_s t m_kept m_isKept m_undos m_undoMany m_foundMan m_foundHours m_foundIs m_foundMany m_row m_best) h) [(0, .ref (gB γ + 93))] 93 [] Ψ) ?_ N s0 t hf K
  intro s r hf hP hK
  obtain ⟨v1, m_w⟩ := s
  change b_X7_greatest_3 N m_many m_cold v1 m_w = some r at hf
  unfold b_X7_greatest_3 at hf
  show Ev γ M_X7_greatest (0, 0) n (put 93 (mdB γ 93 m_thrown m_trace m_text m_typed m_next m_token m_place m_value m_fault m_many m_sees m_cold m_first m_told m_s m_w m_kept m_isKept m_undos m_undoMany m_foundMan m_foundHours m_foundIs m_foundMany m_row m_best) h) [(0, .ref (gB γ + 93)), (1, .int v1)] 69 [] Ψ
  refine E_iload_n 1 dX7_greatest_69 (q := 70) rfl rfl rfl ?_
  refine E_aload_n 0 dX7_greatest_70 (q := 71) rfl rfl rfl ?_
  have hF20 : Has n 93 (mdB γ 93 m_thrown m_trace m_text m_typed m_next m_token m_place m_value m_fault m_many m_sees m_cold m_first m_told m_s m_w m_kept m_isKept m_undos m_undoMany m_foundMan m_foundHours m_foundIs m_foundMany m_row m_best) (put 93 (mdB γ 93 m_thrown m_trace m_text m_typed m_next m_token m_place m_value m_fault m_many m_sees m_cold m_first m_told m_s m_w m_kept m_isKept m_undos m_undoMany m_foundMan m_foundHours m_foundIs m_foundMany m_row m_best) h) := (has_put hn_m)
  refine E_get 9 dX7_greatest_71 (q := 74) rfl ckX7 (Nat.le_of_ble_eq_true rfl) fl_X7_13 (hF20.at 0 rfl) (hF20.lt 0 (Nat.le_of_ble_eq_true rfl)) rfl ?_
  refine E_iconst (x := 2) dX7_greatest_74 (q := 75) rfl (by decide) ?_
  refine E_iald dX7_greatest_75 (q := 76) rfl (hF20.at 2 rfl) (hF20.lt 2 (Nat.le_of_ble_eq_true rfl)) (by decide +kernel) ?_
  refine E_icmp_ge dX7_greatest_76 (t := 93) (by decide) (q := 79) rfl (fun c21 => ?_) (fun c21 => ?_)
  · have hf := if_t c21 hf
    exact E_sub [0] rfl (hK _ (Option.some.inj hf).symm)
  · have hf := if_f c21 hf
    refine E_aload_n 0 dX7_greatest_79 (q := 80) rfl rfl rfl ?_
    refine E_aload_n 0 dX7_greatest_80 (q := 81) rfl rfl rfl ?_
    refine E_get 15 dX7_greatest_81 (q := 84) rfl ckX7 (Nat.le_of_ble_eq_true rfl) fl_X7_28 (hF20.at 0 rfl) (hF20.lt 0 (Nat.le_of_ble_eq_true rfl)) rfl ?_
    obtain ⟨z22, hxz22, hf⟩ := bnd hf
    refine E_cV (as := [.ref (gB γ + (93 + 7))]) (k := 93) (rest := []) (u' := (0, 0)) (st' := []) dX7_greatest_84 (q := 87) rfl lkm_X7_goes lkv_X7_154 (Nat.le_of_ble_eq_true rfl) ckX7 (hF20.at 0 rfl) (hF20.lt 0 (Nat.le_of_ble_eq_true rfl)) ⟨Nat.le_refl _, Nat.le_refl _⟩ (Nat.le_of_ble_eq_true rfl) rfl rfl (m_X7_goes_w (N := N)  hF20 hxz22) rfl rfl rfl ?_
    refine Ev.heap (put_put (k := 93) (cs := (mdB γ 93 m_thrown m_trace m_text m_typed m_next m_token m_place m_value m_fault m_many m_sees m_cold m_first m_told m_s m_w m_kept m_isKept m_undos m_undoMany m_foundMan m_foundHours m_foundIs m_foundMany m_row m_best)) (cs' := (mdB γ 93 m_thrown m_trace m_text m_typed m_next m_token m_place m_value m_fault m_many m_sees m_cold m_first m_told m_s z22 m_kept m_isKept m_undos m_undoMany m_foundMan m_foundHours m_foundIs m_foundMany m_row m_best)) (show (16 : Nat) = 16 from rfl)) ?_
    refine E_iinc 1 [(1, .int (v1 + 1)), (0, .ref (gB γ + 93))] dX7_greatest_87 (q := 90) rfl rfl rfl (Nat.le_of_ble_eq_true rfl) rfl ?_
    refine E_goto (q := 69) dX7_greatest_90 (by decide) ?_
    exact E_sub [1, 0] rfl (hP _ (Option.some.inj hf).symm)
set_option maxHeartbeats 4000000 in
set_option maxRecDepth 100000 in
theorem L_X7_greatest_4 {γ : GX} {n : Nat} {h : HP} {Ψ : PS} {N : Nat} {m_thrown : Int32} {m_trace : Int64} {m_text : FN} {m_typed : Int32} {m_next : Int32} {m_token : Int32} {m_place : Int32} {m_value : Int32} {m_fault : Int32} {m_many : FN} {m_sees : FN} {m_cold : FN} {m_first : FN} {m_told : Int32} {m_s : FN} {m_w : FN} {m_kept : FN} {m_isKept : FN} {m_undos : FN} {m_undoMany : Int32} {m_foundMan : FN} {m_foundHours : FN} {m_foundIs : FN} {m_foundMany : Int32} {m_row : FN} {m_best : FN} (hn_m : 93 + 16 ≤ n) {s0 : Int32 × Int32} {t : Int32} (hf : lp (fun s => b_X7_greatest_4 N m_many m_w m_row s.1 s.2) N s0 = some t) (K : Ev γ M_X7_greatest (0, 0) n (put 93 (mdB γ 93 m_thrown m_trace m_text m_typed m_next m_token m_place m_value m_fault m_many m_sees m_cold m_first m_told m_s m_w m_kept m_isKept m_undos m_undoMany m_foundMan m_foundHours m_foundIs m_foundMany m_row m_best) h) [(1, .int t)] 148 [] Ψ) : Ev γ M_X7_greatest (0, 0) n (put 93 (mdB γ 93 m_thrown m_trace m_text m_typed m_next m_token m_place m_value m_fault m_many m_sees m_cold m_first m_told m_s m_w m_kept m_isKept m_undos m_undoMany m_foundMan m_foundHours m_foundIs m_foundMany m_row m_best) h) [(0, .ref (gB γ + 93)), (1, .int s0.1), (2, .int s0.2)] 97 [] Ψ := by
  refine E_lp (P := fun s => Ev γ M_X7_greatest (0, 0) n (put 93 (mdB γ 93 m_thrown m_trace m_text m_typed m_next m_token m_place m_value m_fault m_many m_sees m_cold m_first m_told m_s m_w m_kept m_isKept m_undos m_undoMany m_foundMan m_foundHours m_foundIs m_foundMany m_row m_best) h) [(0, .ref (gB γ + 93)), (1, .int s.1), (2, .int s.2)] 97 [] Ψ) (K := fun t => Ev γ M_X7_greatest (0, 0) n (put 93 (mdB γ 93 m_thrown m_trace m_text m_typed m_next m_token m_place m_value m_fault m_many m_sees m_cold m_first m_told m_s m_w m_kept m_isKept m_undos m_undoMany m_foundMan m_foundHours m_foundIs m_foundMany m_row m_best) h) [(1, .int t)] 148 [] Ψ) ?_ N s0 t hf K
  intro s r hf hP hK
  obtain ⟨v1, v2⟩ := s
  change b_X7_greatest_4 N m_many m_w m_row v1 v2 = some r at hf
  unfold b_X7_greatest_4 at hf
  show Ev γ M_X7_greatest (0, 0) n (put 93 (mdB γ 93 m_thrown m_trace m_text m_typed m_next m_token m_place m_value m_fault m_many m_sees m_cold m_first m_told m_s m_w m_kept m_isKept m_undos m_undoMany m_foundMan m_foundHours m_foundIs m_foundMany m_row m_best) h) [(0, .ref (gB γ + 93)), (1, .int v1), (2, .int v2)] 97 [] Ψ
  refine E_iload_n 2 dX7_greatest_97 (q := 98) rfl rfl rfl ?_
  refine E_aload_n 0 dX7_greatest_98 (q := 99) rfl rfl rfl ?_
  have hF27 : Has n 93 (mdB γ 93 m_thrown m_trace m_text m_typed m_next m_token m_place m_value m_fault m_many m_sees m_cold m_first m_told m_s m_w m_kept m_isKept m_undos m_undoMany m_foundMan m_foundHours m_foundIs m_foundMany m_row m_best) (put 93 (mdB γ 93 m_thrown m_trace m_text m_typed m_next m_token m_place m_value m_fault m_many m_sees m_cold m_first m_told m_s m_w m_kept m_isKept m_undos m_undoMany m_foundMan m_foundHours m_foundIs m_foundMany m_row m_best) h) := (has_put hn_m)
  refine E_get 9 dX7_greatest_99 (q := 102) rfl ckX7 (Nat.le_of_ble_eq_true rfl) fl_X7_13 (hF27.at 0 rfl) (hF27.lt 0 (Nat.le_of_ble_eq_true rfl)) rfl ?_
  refine E_iconst (x := 0) dX7_greatest_102 (q := 103) rfl (by decide) ?_
  refine E_iald dX7_greatest_103 (q := 104) rfl (hF27.at 2 rfl) (hF27.lt 2 (Nat.le_of_ble_eq_true rfl)) (by decide +kernel) ?_
  refine E_icmp_ge dX7_greatest_104 (t := 148) (by decide) (q := 107) rfl (fun c28 => ?_) (fun c28 => ?_)
  · have hf := if_t c28 hf
    exact E_sub [1] rfl (hK _ (Option.some.inj hf).symm)
  · have hf := if_f c28 hf
    refine E_aload_n 0 dX7_greatest_107 (q := 108) rfl rfl rfl ?_
    refine E_get 15 dX7_greatest_108 (q := 111) rfl ckX7 (Nat.le_of_ble_eq_true rfl) fl_X7_28 (hF27.at 0 rfl) (hF27.lt 0 (Nat.le_of_ble_eq_true rfl)) rfl ?_
    refine E_iconst (x := 1) dX7_greatest_111 (q := 112) rfl (by decide) ?_
    refine E_aload_n 0 dX7_greatest_112 (q := 113) rfl rfl rfl ?_
    refine E_get 24 dX7_greatest_113 (q := 116) rfl ckX7 (Nat.le_of_ble_eq_true rfl) fl_X7_50 (hF27.at 0 rfl) (hF27.lt 0 (Nat.le_of_ble_eq_true rfl)) rfl ?_
    refine E_iload_n 2 dX7_greatest_116 (q := 117) rfl rfl rfl ?_
    obtain ⟨g29, hf⟩ := gd hf
    refine E_iald dX7_greatest_117 (q := 118) rfl (hF27.at 14 rfl) (hF27.lt 14 (Nat.le_of_ble_eq_true rfl)) g29 ?_
    refine E_iadd dX7_greatest_118 (q := 119) rfl ?_
    obtain ⟨g30, hf⟩ := gd hf
    refine E_iald dX7_greatest_119 (q := 120) rfl (hF27.at 7 rfl) (hF27.lt 7 (Nat.le_of_ble_eq_true rfl)) g30 ?_
    refine E_iload_n 1 dX7_greatest_120 (q := 121) rfl rfl rfl ?_
    refine E_icmp_le dX7_greatest_121 (t := 140) (by decide) (q := 124) rfl (fun c31 => ?_) (fun c31 => ?_)
    · have hf := if_t c31 hf
      refine E_iload_n 1 dX7_greatest_140 (q := 141) rfl rfl rfl ?_
      refine E_istore_n [(1, .int v1), (0, .ref (gB γ + 93)), (2, .int v2)] dX7_greatest_141 (q := 142) rfl rfl (Nat.le_of_ble_eq_true rfl) rfl ?_
      refine E_iinc 2 [(2, .int (v2 + 1)), (1, .int v1), (0, .ref (gB γ + 93))] dX7_greatest_142 (q := 145) rfl rfl rfl (Nat.le_of_ble_eq_true rfl) rfl ?_
      refine E_goto (q := 97) dX7_greatest_145 (by decide) ?_
      exact E_sub [2, 1, 0] rfl (hP _ (Option.some.inj hf).symm)
    · have hf := if_f c31 hf
      refine E_aload_n 0 dX7_greatest_124 (q := 125) rfl rfl rfl ?_
      refine E_get 15 dX7_greatest_125 (q := 128) rfl ckX7 (Nat.le_of_ble_eq_true rfl) fl_X7_28 (hF27.at 0 rfl) (hF27.lt 0 (Nat.le_of_ble_eq_true rfl)) rfl ?_
      refine E_iconst (x := 1) dX7_greatest_128 (q := 129) rfl (by decide) ?_
      refine E_aload_n 0 dX7_greatest_129 (q := 130) rfl rfl rfl ?_
      refine E_get 24 dX7_greatest_130 (q := 133) rfl ckX7 (Nat.le_of_ble_eq_true rfl) fl_X7_50 (hF27.at 0 rfl) (hF27.lt 0 (Nat.le_of_ble_eq_true rfl)) rfl ?_
      refine E_iload_n 2 dX7_greatest_133 (q := 134) rfl rfl rfl ?_
      refine E_iald dX7_greatest_134 (q := 135) rfl (hF27.at 14 rfl) (hF27.lt 14 (Nat.le_of_ble_eq_true rfl)) g29 ?_
      refine E_iadd dX7_greatest_135 (q := 136) rfl ?_
      refine E_iald dX7_greatest_136 (q := 137) rfl (hF27.at 7 rfl) (hF27.lt 7 (Nat.le_of_ble_eq_true rfl)) g30 ?_
      refine E_goto (q := 141) dX7_greatest_137 (by decide) ?_
      refine E_istore_n [(1, .int (m_w (ci (1 + (m_row (ci v2)))))), (0, .ref (gB γ + 93)), (2, .int v2)] dX7_greatest_141 (q := 142) rfl rfl (Nat.le_of_ble_eq_true rfl) rfl ?_
      refine E_iinc 2 [(2, .int (v2 + 1)), (1, .int (m_w (ci (1 + (m_row (ci v2)))))), (0, .ref (gB γ + 93))] dX7_greatest_142 (q := 145) rfl rfl rfl (Nat.le_of_ble_eq_true rfl) rfl ?_
      refine E_goto (q := 97) dX7_greatest_145 (by decide) ?_
      exact E_sub [2, 1, 0] rfl (hP _ (Option.some.inj hf).symm)
set_option maxHeartbeats 4000000 in
set_option maxRecDepth 100000 in
theorem m_X7_greatest {γ : GX} {n : Nat} {N : Nat} {h : HP} {m_thrown : Int32} {m_trace : Int64} {m_text : FN} {m_typed : Int32} {m_next : Int32} {m_token : Int32} {m_place : Int32} {m_value : Int32} {m_fault : Int32} {m_many : FN} {m_sees : FN} {m_cold : FN} {m_first : FN} {m_told : Int32} {m_s : FN} {m_w : FN} {m_kept : FN} {m_isKept : FN} {m_undos : FN} {m_undoMany : Int32} {m_foundMan : FN} {m_foundHours : FN} {m_foundIs : FN} {m_foundMany : Int32} {m_row : FN} {m_best : FN} (hH_m : Has n 93 (mdB γ 93 m_thrown m_trace m_text m_typed m_next m_token m_place m_value m_fault m_many m_sees m_cold m_first m_told m_s m_w m_kept m_isKept m_undos m_undoMany m_foundMan m_foundHours m_foundIs m_foundMany m_row m_best) h) {z : Int32 × FN} (hf : f_X7_greatest N m_many m_cold m_s m_w m_row = some z)  : Ct γ M_X7_greatest n h [.ref (gB γ + 93)] (Done (some (.int z.1)) n (put 93 (mdB γ 93 m_thrown m_trace m_text m_typed m_next m_token m_place m_value m_fault m_many m_sees m_cold m_first m_told m_s z.2 m_kept m_isKept m_undos m_undoMany m_foundMan m_foundHours m_foundIs m_foundMany m_row m_best) h)) := by
  have hn_m : 93 + 16 ≤ n := hH_m.1
  refine Ct.heap (h := (put 93 (mdB γ 93 m_thrown m_trace m_text m_typed m_next m_token m_place m_value m_fault m_many m_sees m_cold m_first m_told m_s m_w m_kept m_isKept m_undos m_undoMany m_foundMan m_foundHours m_foundIs m_foundMany m_row m_best) h)) (put_self hH_m).symm ?_
  refine Ct_of_Ev (by decide) (fun h => by cases h) (Nat.le_of_ble_eq_true rfl) ?_
  show Ev γ M_X7_greatest (0, 0) n (put 93 (mdB γ 93 m_thrown m_trace m_text m_typed m_next m_token m_place m_value m_fault m_many m_sees m_cold m_first m_told m_s m_w m_kept m_isKept m_undos m_undoMany m_foundMan m_foundHours m_foundIs m_foundMany m_row m_best) h) [(0, .ref (gB γ + 93))] 0 [] _
  unfold f_X7_greatest at hf
  refine E_aload_n 0 dX7_greatest_0 (q := 1) rfl rfl rfl ?_
  obtain ⟨z1, hxz1, hf⟩ := bnd hf
  have hF2 : Has n 93 (mdB γ 93 m_thrown m_trace m_text m_typed m_next m_token m_place m_value m_fault m_many m_sees m_cold m_first m_told m_s m_w m_kept m_isKept m_undos m_undoMany m_foundMan m_foundHours m_foundIs m_foundMany m_row m_best) (put 93 (mdB γ 93 m_thrown m_trace m_text m_typed m_next m_token m_place m_value m_fault m_many m_sees m_cold m_first m_told m_s m_w m_kept m_isKept m_undos m_undoMany m_foundMan m_foundHours m_foundIs m_foundMany m_row m_best) h) := (has_put hn_m)
  refine E_cV (as := []) (k := 93) (rest := []) (u' := (0, 0)) (st' := []) dX7_greatest_1 (q := 4) rfl lkm_X7_asNow lkv_X7_165 (Nat.le_of_ble_eq_true rfl) ckX7 (hF2.at 0 rfl) (hF2.lt 0 (Nat.le_of_ble_eq_true rfl)) ⟨Nat.le_refl _, Nat.le_refl _⟩ (Nat.le_of_ble_eq_true rfl) rfl rfl (m_X7_asNow (N := N)  hF2 hxz1) rfl rfl rfl ?_
  refine Ev.heap (put_put (k := 93) (cs := (mdB γ 93 m_thrown m_trace m_text m_typed m_next m_token m_place m_value m_fault m_many m_sees m_cold m_first m_told m_s m_w m_kept m_isKept m_undos m_undoMany m_foundMan m_foundHours m_foundIs m_foundMany m_row m_best)) (cs' := (mdB γ 93 m_thrown m_trace m_text m_typed m_next m_token m_place m_value m_fault m_many m_sees m_cold m_first m_told m_s z1 m_kept m_isKept m_undos m_undoMany m_foundMan m_foundHours m_foundIs m_foundMany m_row m_best)) (show (16 : Nat) = 16 from rfl)) ?_
  refine E_iconst (x := 0) dX7_greatest_4 (q := 5) rfl (by decide) ?_
  refine E_istore_n [(1, .int 0), (0, .ref (gB γ + 93))] dX7_greatest_5 (q := 6) rfl rfl (Nat.le_of_ble_eq_true rfl) rfl ?_
  obtain ⟨t9, hxt9, hf⟩ := bnd hf
  refine E_sub [1, 0] rfl ?_
  refine L_X7_greatest_1 hn_m hxt9 ?_
  show Ev γ M_X7_greatest _ n (put 93 (mdB γ 93 m_thrown m_trace m_text m_typed m_next m_token m_place m_value m_fault m_many m_sees m_cold m_first m_told m_s t9 m_kept m_isKept m_undos m_undoMany m_foundMan m_foundHours m_foundIs m_foundMany m_row m_best) h) [(0, .ref (gB γ + 93))] 32 [] _
  refine E_iconst (x := 0) dX7_greatest_32 (q := 33) rfl (by decide) ?_
  refine E_istore_n [(1, .int 0), (0, .ref (gB γ + 93))] dX7_greatest_33 (q := 34) rfl rfl (Nat.le_of_ble_eq_true rfl) rfl ?_
  obtain ⟨t17, hxt17, hf⟩ := bnd hf
  refine E_sub [1, 0] rfl ?_
  refine L_X7_greatest_2 hn_m hxt17 ?_
  show Ev γ M_X7_greatest _ n (put 93 (mdB γ 93 m_thrown m_trace m_text m_typed m_next m_token m_place m_value m_fault m_many m_sees m_cold m_first m_told m_s t17 m_kept m_isKept m_undos m_undoMany m_foundMan m_foundHours m_foundIs m_foundMany m_row m_best) h) [(0, .ref (gB γ + 93))] 67 [] _
  refine E_iconst (x := 0) dX7_greatest_67 (q := 68) rfl (by decide) ?_
  refine E_istore_n [(1, .int 0), (0, .ref (gB γ + 93))] dX7_greatest_68 (q := 69) rfl rfl (Nat.le_of_ble_eq_true rfl) rfl ?_
  obtain ⟨t24, hxt24, hf⟩ := bnd hf
  refine E_sub [1, 0] rfl ?_
  refine L_X7_greatest_3 hn_m hxt24 ?_
  show Ev γ M_X7_greatest _ n (put 93 (mdB γ 93 m_thrown m_trace m_text m_typed m_next m_token m_place m_value m_fault m_many m_sees m_cold m_first m_told m_s t24 m_kept m_isKept m_undos m_undoMany m_foundMan m_foundHours m_foundIs m_foundMany m_row m_best) h) [(0, .ref (gB γ + 93))] 93 [] _
  refine E_iconst (x := 0) dX7_greatest_93 (q := 94) rfl (by decide) ?_
  refine E_istore_n [(1, .int 0), (0, .ref (gB γ + 93))] dX7_greatest_94 (q := 95) rfl rfl (Nat.le_of_ble_eq_true rfl) rfl ?_
  refine E_iconst (x := 0) dX7_greatest_95 (q := 96) rfl (by decide) ?_
  refine E_istore_n [(2, .int 0), (1, .int 0), (0, .ref (gB γ + 93))] dX7_greatest_96 (q := 97) rfl rfl (Nat.le_of_ble_eq_true rfl) rfl ?_
  obtain ⟨t32, hxt32, hf⟩ := bnd hf
  refine E_sub [2, 1, 0] rfl ?_
  refine L_X7_greatest_4 hn_m hxt32 ?_
  show Ev γ M_X7_greatest _ n (put 93 (mdB γ 93 m_thrown m_trace m_text m_typed m_next m_token m_place m_value m_fault m_many m_sees m_cold m_first m_told m_s t24 m_kept m_isKept m_undos m_undoMany m_foundMan m_foundHours m_foundIs m_foundMany m_row m_best) h) [(1, .int t32)] 148 [] _
  refine E_iload_n 0 dX7_greatest_148 (q := 149) rfl rfl rfl ?_
  obtain rfl := Option.some.inj hf
  exact E_iret dX7_greatest_149 rfl ⟨rfl, rfl, rfl⟩

-- PostReliefModel.isRow(I)Z
def b_X7_isRow_1 (N : Nat) (m_many : FN) (v2 : Int32) (v3 : Int32) (v4 : Int32) (v5 : Int32) (m_row : FN) : Option ((Int32 × Int32 × Int32 × Int32 × FN) ⊕ (Int32 × FN)) :=
  (if v5 < 0 then some (.inr (v4, m_row)) else (if ¬ (m_many (ci 1)) = 0 then (if ix v5 5 = true then (if v4 = 0 then ((some (v5 + (-1))).bind fun y10 => some (.inl ((v2 / (m_many (ci 1))), (v3 ||| ((1 : Int32) <<< (((upd m_row (ci v5) (v2 % (m_many (ci 1)))) (ci v5)) &&& 31))), 0, y10, (upd m_row (ci v5) (v2 % (m_many (ci 1))))))) else (if ((v3 >>> (((upd m_row (ci v5) (v2 % (m_many (ci 1)))) (ci v5)) &&& 31)) &&& 1) = 0 then ((some (v5 + (-1))).bind fun y12 => some (.inl ((v2 / (m_many (ci 1))), (v3 ||| ((1 : Int32) <<< (((upd m_row (ci v5) (v2 % (m_many (ci 1)))) (ci v5)) &&& 31))), 1, y12, (upd m_row (ci v5) (v2 % (m_many (ci 1))))))) else ((some (v5 + (-1))).bind fun y13 => some (.inl ((v2 / (m_many (ci 1))), (v3 ||| ((1 : Int32) <<< (((upd m_row (ci v5) (v2 % (m_many (ci 1)))) (ci v5)) &&& 31))), 0, y13, (upd m_row (ci v5) (v2 % (m_many (ci 1))))))))) else none) else none))
def f_X7_isRow (N : Nat) (a1 : Int32) (m_many : FN) (m_row : FN) : Option (Int32 × FN) :=
  ((lp (fun s => b_X7_isRow_1 N m_many s.1 s.2.1 s.2.2.1 s.2.2.2.1 s.2.2.2.2) N (a1, 0, 1, ((m_many (ci 0)) - 1), m_row)).bind fun t14 => (if t14.1 &&& 1 = t14.1 then some (t14.1, t14.2) else none))
set_option maxHeartbeats 4000000 in
set_option maxRecDepth 100000 in
theorem L_X7_isRow_1 {γ : GX} {n : Nat} {h : HP} {Ψ : PS} {N : Nat} {m_thrown : Int32} {m_trace : Int64} {m_text : FN} {m_typed : Int32} {m_next : Int32} {m_token : Int32} {m_place : Int32} {m_value : Int32} {m_fault : Int32} {m_many : FN} {m_sees : FN} {m_cold : FN} {m_first : FN} {m_told : Int32} {m_s : FN} {m_w : FN} {m_kept : FN} {m_isKept : FN} {m_undos : FN} {m_undoMany : Int32} {m_foundMan : FN} {m_foundHours : FN} {m_foundIs : FN} {m_foundMany : Int32} {m_best : FN} (hn_m : 93 + 16 ≤ n) {s0 : Int32 × Int32 × Int32 × Int32 × FN} {t : Int32 × FN} (hf : lp (fun s => b_X7_isRow_1 N m_many s.1 s.2.1 s.2.2.1 s.2.2.2.1 s.2.2.2.2) N s0 = some t) (K : Ev γ M_X7_isRow (0, 0) n (put 93 (mdB γ 93 m_thrown m_trace m_text m_typed m_next m_token m_place m_value m_fault m_many m_sees m_cold m_first m_told m_s m_w m_kept m_isKept m_undos m_undoMany m_foundMan m_foundHours m_foundIs m_foundMany t.2 m_best) h) [(4, .int t.1)] 90 [] Ψ) : Ev γ M_X7_isRow (0, 0) n (put 93 (mdB γ 93 m_thrown m_trace m_text m_typed m_next m_token m_place m_value m_fault m_many m_sees m_cold m_first m_told m_s m_w m_kept m_isKept m_undos m_undoMany m_foundMan m_foundHours m_foundIs m_foundMany s0.2.2.2.2 m_best) h) [(0, .ref (gB γ + 93)), (2, .int s0.1), (3, .int s0.2.1), (4, .int s0.2.2.1), (5, .int s0.2.2.2.1)] 17 [] Ψ := by
  refine E_lp (P := fun s => Ev γ M_X7_isRow (0, 0) n (put 93 (mdB γ 93 m_thrown m_trace m_text m_typed m_next m_token m_place m_value m_fault m_many m_sees m_cold m_first m_told m_s m_w m_kept m_isKept m_undos m_undoMany m_foundMan m_foundHours m_foundIs m_foundMany s.2.2.2.2 m_best) h) [(0, .ref (gB γ + 93)), (2, .int s.1), (3, .int s.2.1), (4, .int s.2.2.1), (5, .int s.2.2.2.1)] 17 [] Ψ) (K := fun t => Ev γ M_X7_isRow (0, 0) n (put 93 (mdB γ 93 m_thrown m_trace m_text m_typed m_next m_token m_place m_value m_fault m_many m_sees m_cold m_first m_told m_s m_w m_kept m_isKept m_undos m_undoMany m_foundMan m_foundHours m_foundIs m_foundMany t.2 m_best) h) [(4, .int t.1)] 90 [] Ψ) ?_ N s0 t hf K
  intro s r hf hP hK
  obtain ⟨v2, v3, v4, v5, m_row⟩ := s
  change b_X7_isRow_1 N m_many v2 v3 v4 v5 m_row = some r at hf
  unfold b_X7_isRow_1 at hf
  show Ev γ M_X7_isRow (0, 0) n (put 93 (mdB γ 93 m_thrown m_trace m_text m_typed m_next m_token m_place m_value m_fault m_many m_sees m_cold m_first m_told m_s m_w m_kept m_isKept m_undos m_undoMany m_foundMan m_foundHours m_foundIs m_foundMany m_row m_best) h) [(0, .ref (gB γ + 93)), (2, .int v2), (3, .int v3), (4, .int v4), (5, .int v5)] 17 [] Ψ
  refine E_iload 4 dX7_isRow_17 (q := 19) rfl rfl ?_
  refine E_if_lt dX7_isRow_19 (t := 90) (by decide) (q := 22) rfl (fun c3 => ?_) (fun c3 => ?_)
  · have hf := if_t c3 hf
    exact E_sub [3] rfl (hK _ (Option.some.inj hf).symm)
  · have hf := if_f c3 hf
    refine E_aload_n 0 dX7_isRow_22 (q := 23) rfl rfl rfl ?_
    have hF4 : Has n 93 (mdB γ 93 m_thrown m_trace m_text m_typed m_next m_token m_place m_value m_fault m_many m_sees m_cold m_first m_told m_s m_w m_kept m_isKept m_undos m_undoMany m_foundMan m_foundHours m_foundIs m_foundMany m_row m_best) (put 93 (mdB γ 93 m_thrown m_trace m_text m_typed m_next m_token m_place m_value m_fault m_many m_sees m_cold m_first m_told m_s m_w m_kept m_isKept m_undos m_undoMany m_foundMan m_foundHours m_foundIs m_foundMany m_row m_best) h) := (has_put hn_m)
    refine E_get 24 dX7_isRow_23 (q := 26) rfl ckX7 (Nat.le_of_ble_eq_true rfl) fl_X7_50 (hF4.at 0 rfl) (hF4.lt 0 (Nat.le_of_ble_eq_true rfl)) rfl ?_
    refine E_iload 4 dX7_isRow_26 (q := 28) rfl rfl ?_
    refine E_iload_n 1 dX7_isRow_28 (q := 29) rfl rfl rfl ?_
    refine E_aload_n 0 dX7_isRow_29 (q := 30) rfl rfl rfl ?_
    refine E_get 9 dX7_isRow_30 (q := 33) rfl ckX7 (Nat.le_of_ble_eq_true rfl) fl_X7_13 (hF4.at 0 rfl) (hF4.lt 0 (Nat.le_of_ble_eq_true rfl)) rfl ?_
    refine E_iconst (x := 1) dX7_isRow_33 (q := 34) rfl (by decide) ?_
    refine E_iald dX7_isRow_34 (q := 35) rfl (hF4.at 2 rfl) (hF4.lt 2 (Nat.le_of_ble_eq_true rfl)) (by decide +kernel) ?_
    obtain ⟨g5, hf⟩ := gd hf
    refine E_irem dX7_isRow_35 (q := 36) rfl g5 ?_
    obtain ⟨g6, hf⟩ := gd hf
    refine E_iast dX7_isRow_36 (q := 37) rfl (hF4.at 14 rfl) (hF4.lt 14 (Nat.le_of_ble_eq_true rfl)) g6 (up_put (i := 14) (cs' := (mdB γ 93 m_thrown m_trace m_text m_typed m_next m_token m_place m_value m_fault m_many m_sees m_cold m_first m_told m_s m_w m_kept m_isKept m_undos m_undoMany m_foundMan m_foundHours m_foundIs m_foundMany (upd m_row (ci v5) (v2 % (m_many (ci 1)))) m_best)) (Nat.le_of_ble_eq_true rfl) rfl) ?_
    refine E_iload_n 1 dX7_isRow_37 (q := 38) rfl rfl rfl ?_
    refine E_aload_n 0 dX7_isRow_38 (q := 39) rfl rfl rfl ?_
    have hF8 : Has n 93 (mdB γ 93 m_thrown m_trace m_text m_typed m_next m_token m_place m_value m_fault m_many m_sees m_cold m_first m_told m_s m_w m_kept m_isKept m_undos m_undoMany m_foundMan m_foundHours m_foundIs m_foundMany (upd m_row (ci v5) (v2 % (m_many (ci 1)))) m_best) (put 93 (mdB γ 93 m_thrown m_trace m_text m_typed m_next m_token m_place m_value m_fault m_many m_sees m_cold m_first m_told m_s m_w m_kept m_isKept m_undos m_undoMany m_foundMan m_foundHours m_foundIs m_foundMany (upd m_row (ci v5) (v2 % (m_many (ci 1)))) m_best) h) := (has_put hn_m)
    refine E_get 9 dX7_isRow_39 (q := 42) rfl ckX7 (Nat.le_of_ble_eq_true rfl) fl_X7_13 (hF8.at 0 rfl) (hF8.lt 0 (Nat.le_of_ble_eq_true rfl)) rfl ?_
    refine E_iconst (x := 1) dX7_isRow_42 (q := 43) rfl (by decide) ?_
    refine E_iald dX7_isRow_43 (q := 44) rfl (hF8.at 2 rfl) (hF8.lt 2 (Nat.le_of_ble_eq_true rfl)) (by decide +kernel) ?_
    refine E_idiv dX7_isRow_44 (q := 45) rfl g5 ?_
    refine E_istore_n [(2, .int (v2 / (m_many (ci 1)))), (0, .ref (gB γ + 93)), (3, .int v3), (4, .int v4), (5, .int v5)] dX7_isRow_45 (q := 46) rfl rfl (Nat.le_of_ble_eq_true rfl) rfl ?_
    refine E_iload 3 dX7_isRow_46 (q := 48) rfl rfl ?_
    refine E_if_eq dX7_isRow_48 (t := 69) (by decide) (q := 51) rfl (fun c9 => ?_) (fun c9 => ?_)
    · have hf := if_t c9 hf
      refine E_iconst (x := 0) dX7_isRow_69 (q := 70) rfl (by decide) ?_
      refine E_istore [(4, .int 0), (2, .int (v2 / (m_many (ci 1)))), (0, .ref (gB γ + 93)), (3, .int v3), (5, .int v5)] dX7_isRow_70 (q := 72) rfl (Nat.le_of_ble_eq_true rfl) rfl ?_
      refine E_iload_n 3 dX7_isRow_72 (q := 73) rfl rfl rfl ?_
      refine E_iconst (x := 1) dX7_isRow_73 (q := 74) rfl (by decide) ?_
      refine E_aload_n 2 dX7_isRow_74 (q := 75) rfl rfl rfl ?_
      refine E_get 24 dX7_isRow_75 (q := 78) rfl ckX7 (Nat.le_of_ble_eq_true rfl) fl_X7_50 (hF8.at 0 rfl) (hF8.lt 0 (Nat.le_of_ble_eq_true rfl)) rfl ?_
      refine E_iload 4 dX7_isRow_78 (q := 80) rfl rfl ?_
      refine E_iald dX7_isRow_80 (q := 81) rfl (hF8.at 14 rfl) (hF8.lt 14 (Nat.le_of_ble_eq_true rfl)) g6 ?_
      refine E_ishl dX7_isRow_81 (q := 82) rfl ?_
      refine E_ior dX7_isRow_82 (q := 83) rfl ?_
      refine E_istore_n [(3, .int (v3 ||| ((1 : Int32) <<< (((upd m_row (ci v5) (v2 % (m_many (ci 1)))) (ci v5)) &&& 31)))), (4, .int 0), (2, .int (v2 / (m_many (ci 1)))), (0, .ref (gB γ + 93)), (5, .int v5)] dX7_isRow_83 (q := 84) rfl rfl (Nat.le_of_ble_eq_true rfl) rfl ?_
      obtain ⟨y10, hy10, hf⟩ := bnd hf
      refine E_iinc 4 [(5, .int y10), (3, .int (v3 ||| ((1 : Int32) <<< (((upd m_row (ci v5) (v2 % (m_many (ci 1)))) (ci v5)) &&& 31)))), (4, .int 0), (2, .int (v2 / (m_many (ci 1)))), (0, .ref (gB γ + 93))] dX7_isRow_84 (q := 87) rfl rfl ((congrArg (fun z => v5 + z) (show Int32.ofInt (-1) = (-1) by decide)).trans (Option.some.inj hy10)) (Nat.le_of_ble_eq_true rfl) rfl ?_
      refine E_goto (q := 17) dX7_isRow_87 (by decide) ?_
      exact E_sub [4, 3, 1, 2, 0] rfl (hP _ (Option.some.inj hf).symm)
    · have hf := if_f c9 hf
      refine E_iload_n 2 dX7_isRow_51 (q := 52) rfl rfl rfl ?_
      refine E_aload_n 1 dX7_isRow_52 (q := 53) rfl rfl rfl ?_
      refine E_get 24 dX7_isRow_53 (q := 56) rfl ckX7 (Nat.le_of_ble_eq_true rfl) fl_X7_50 (hF8.at 0 rfl) (hF8.lt 0 (Nat.le_of_ble_eq_true rfl)) rfl ?_
      refine E_iload 4 dX7_isRow_56 (q := 58) rfl rfl ?_
      refine E_iald dX7_isRow_58 (q := 59) rfl (hF8.at 14 rfl) (hF8.lt 14 (Nat.le_of_ble_eq_true rfl)) g6 ?_
      refine E_ishr dX7_isRow_59 (q := 60) rfl ?_
      refine E_iconst (x := 1) dX7_isRow_60 (q := 61) rfl (by decide) ?_
      refine E_iand dX7_isRow_61 (q := 62) rfl ?_
      refine E_if_ne dX7_isRow_62 (t := 69) (by decide) (q := 65) rfl (fun c11 => ?_) (fun c11 => ?_)
      · have hf := if_f c11 hf
        refine E_iconst (x := 0) dX7_isRow_69 (q := 70) rfl (by decide) ?_
        refine E_istore [(4, .int 0), (2, .int (v2 / (m_many (ci 1)))), (0, .ref (gB γ + 93)), (3, .int v3), (5, .int v5)] dX7_isRow_70 (q := 72) rfl (Nat.le_of_ble_eq_true rfl) rfl ?_
        refine E_iload_n 3 dX7_isRow_72 (q := 73) rfl rfl rfl ?_
        refine E_iconst (x := 1) dX7_isRow_73 (q := 74) rfl (by decide) ?_
        refine E_aload_n 2 dX7_isRow_74 (q := 75) rfl rfl rfl ?_
        refine E_get 24 dX7_isRow_75 (q := 78) rfl ckX7 (Nat.le_of_ble_eq_true rfl) fl_X7_50 (hF8.at 0 rfl) (hF8.lt 0 (Nat.le_of_ble_eq_true rfl)) rfl ?_
        refine E_iload 4 dX7_isRow_78 (q := 80) rfl rfl ?_
        refine E_iald dX7_isRow_80 (q := 81) rfl (hF8.at 14 rfl) (hF8.lt 14 (Nat.le_of_ble_eq_true rfl)) g6 ?_
        refine E_ishl dX7_isRow_81 (q := 82) rfl ?_
        refine E_ior dX7_isRow_82 (q := 83) rfl ?_
        refine E_istore_n [(3, .int (v3 ||| ((1 : Int32) <<< (((upd m_row (ci v5) (v2 % (m_many (ci 1)))) (ci v5)) &&& 31)))), (4, .int 0), (2, .int (v2 / (m_many (ci 1)))), (0, .ref (gB γ + 93)), (5, .int v5)] dX7_isRow_83 (q := 84) rfl rfl (Nat.le_of_ble_eq_true rfl) rfl ?_
        obtain ⟨y13, hy13, hf⟩ := bnd hf
        refine E_iinc 4 [(5, .int y13), (3, .int (v3 ||| ((1 : Int32) <<< (((upd m_row (ci v5) (v2 % (m_many (ci 1)))) (ci v5)) &&& 31)))), (4, .int 0), (2, .int (v2 / (m_many (ci 1)))), (0, .ref (gB γ + 93))] dX7_isRow_84 (q := 87) rfl rfl ((congrArg (fun z => v5 + z) (show Int32.ofInt (-1) = (-1) by decide)).trans (Option.some.inj hy13)) (Nat.le_of_ble_eq_true rfl) rfl ?_
        refine E_goto (q := 17) dX7_isRow_87 (by decide) ?_
        exact E_sub [4, 3, 1, 2, 0] rfl (hP _ (Option.some.inj hf).symm)
      · have hf := if_t c11 hf
        refine E_iconst (x := 1) dX7_isRow_65 (q := 66) rfl (by decide) ?_
        refine E_goto (q := 70) dX7_isRow_66 (by decide) ?_
        refine E_istore [(4, .int 1), (2, .int (v2 / (m_many (ci 1)))), (0, .ref (gB γ + 93)), (3, .int v3), (5, .int v5)] dX7_isRow_70 (q := 72) rfl (Nat.le_of_ble_eq_true rfl) rfl ?_
        refine E_iload_n 3 dX7_isRow_72 (q := 73) rfl rfl rfl ?_
        refine E_iconst (x := 1) dX7_isRow_73 (q := 74) rfl (by decide) ?_
        refine E_aload_n 2 dX7_isRow_74 (q := 75) rfl rfl rfl ?_
        refine E_get 24 dX7_isRow_75 (q := 78) rfl ckX7 (Nat.le_of_ble_eq_true rfl) fl_X7_50 (hF8.at 0 rfl) (hF8.lt 0 (Nat.le_of_ble_eq_true rfl)) rfl ?_
        refine E_iload 4 dX7_isRow_78 (q := 80) rfl rfl ?_
        refine E_iald dX7_isRow_80 (q := 81) rfl (hF8.at 14 rfl) (hF8.lt 14 (Nat.le_of_ble_eq_true rfl)) g6 ?_
        refine E_ishl dX7_isRow_81 (q := 82) rfl ?_
        refine E_ior dX7_isRow_82 (q := 83) rfl ?_
        refine E_istore_n [(3, .int (v3 ||| ((1 : Int32) <<< (((upd m_row (ci v5) (v2 % (m_many (ci 1)))) (ci v5)) &&& 31)))), (4, .int 1), (2, .int (v2 / (m_many (ci 1)))), (0, .ref (gB γ + 93)), (5, .int v5)] dX7_isRow_83 (q := 84) rfl rfl (Nat.le_of_ble_eq_true rfl) rfl ?_
        obtain ⟨y12, hy12, hf⟩ := bnd hf
        refine E_iinc 4 [(5, .int y12), (3, .int (v3 ||| ((1 : Int32) <<< (((upd m_row (ci v5) (v2 % (m_many (ci 1)))) (ci v5)) &&& 31)))), (4, .int 1), (2, .int (v2 / (m_many (ci 1)))), (0, .ref (gB γ + 93))] dX7_isRow_84 (q := 87) rfl rfl ((congrArg (fun z => v5 + z) (show Int32.ofInt (-1) = (-1) by decide)).trans (Option.some.inj hy12)) (Nat.le_of_ble_eq_true rfl) rfl ?_
        refine E_goto (q := 17) dX7_isRow_87 (by decide) ?_
        exact E_sub [4, 3, 1, 2, 0] rfl (hP _ (Option.some.inj hf).symm)
set_option maxHeartbeats 4000000 in
set_option maxRecDepth 100000 in
theorem m_X7_isRow {γ : GX} {n : Nat} {N : Nat} {h : HP} {a1 : Int32} {m_thrown : Int32} {m_trace : Int64} {m_text : FN} {m_typed : Int32} {m_next : Int32} {m_token : Int32} {m_place : Int32} {m_value : Int32} {m_fault : Int32} {m_many : FN} {m_sees : FN} {m_cold : FN} {m_first : FN} {m_told : Int32} {m_s : FN} {m_w : FN} {m_kept : FN} {m_isKept : FN} {m_undos : FN} {m_undoMany : Int32} {m_foundMan : FN} {m_foundHours : FN} {m_foundIs : FN} {m_foundMany : Int32} {m_row : FN} {m_best : FN} (hH_m : Has n 93 (mdB γ 93 m_thrown m_trace m_text m_typed m_next m_token m_place m_value m_fault m_many m_sees m_cold m_first m_told m_s m_w m_kept m_isKept m_undos m_undoMany m_foundMan m_foundHours m_foundIs m_foundMany m_row m_best) h) {z : Int32 × FN} (hf : f_X7_isRow N a1 m_many m_row = some z)  : Ct γ M_X7_isRow n h [.ref (gB γ + 93), .int a1] (Done (some (.int z.1)) n (put 93 (mdB γ 93 m_thrown m_trace m_text m_typed m_next m_token m_place m_value m_fault m_many m_sees m_cold m_first m_told m_s m_w m_kept m_isKept m_undos m_undoMany m_foundMan m_foundHours m_foundIs m_foundMany z.2 m_best) h)) := by
  have hn_m : 93 + 16 ≤ n := hH_m.1
  refine Ct.heap (h := (put 93 (mdB γ 93 m_thrown m_trace m_text m_typed m_next m_token m_place m_value m_fault m_many m_sees m_cold m_first m_told m_s m_w m_kept m_isKept m_undos m_undoMany m_foundMan m_foundHours m_foundIs m_foundMany m_row m_best) h)) (put_self hH_m).symm ?_
  refine Ct_of_Ev (by decide) (fun h => by cases h) (Nat.le_of_ble_eq_true rfl) ?_
  show Ev γ M_X7_isRow (0, 0) n (put 93 (mdB γ 93 m_thrown m_trace m_text m_typed m_next m_token m_place m_value m_fault m_many m_sees m_cold m_first m_told m_s m_w m_kept m_isKept m_undos m_undoMany m_foundMan m_foundHours m_foundIs m_foundMany m_row m_best) h) [(0, .ref (gB γ + 93)), (1, .int a1)] 0 [] _
  unfold f_X7_isRow at hf
  refine E_iload_n 1 dX7_isRow_0 (q := 1) rfl rfl rfl ?_
  refine E_istore_n [(2, .int a1), (0, .ref (gB γ + 93)), (1, .int a1)] dX7_isRow_1 (q := 2) rfl rfl (Nat.le_of_ble_eq_true rfl) rfl ?_
  refine E_iconst (x := 0) dX7_isRow_2 (q := 3) rfl (by decide) ?_
  refine E_istore_n [(3, .int 0), (2, .int a1), (0, .ref (gB γ + 93)), (1, .int a1)] dX7_isRow_3 (q := 4) rfl rfl (Nat.le_of_ble_eq_true rfl) rfl ?_
  refine E_iconst (x := 1) dX7_isRow_4 (q := 5) rfl (by decide) ?_
  refine E_istore [(4, .int 1), (3, .int 0), (2, .int a1), (0, .ref (gB γ + 93)), (1, .int a1)] dX7_isRow_5 (q := 7) rfl (Nat.le_of_ble_eq_true rfl) rfl ?_
  refine E_aload_n 3 dX7_isRow_7 (q := 8) rfl rfl rfl ?_
  have hF1 : Has n 93 (mdB γ 93 m_thrown m_trace m_text m_typed m_next m_token m_place m_value m_fault m_many m_sees m_cold m_first m_told m_s m_w m_kept m_isKept m_undos m_undoMany m_foundMan m_foundHours m_foundIs m_foundMany m_row m_best) (put 93 (mdB γ 93 m_thrown m_trace m_text m_typed m_next m_token m_place m_value m_fault m_many m_sees m_cold m_first m_told m_s m_w m_kept m_isKept m_undos m_undoMany m_foundMan m_foundHours m_foundIs m_foundMany m_row m_best) h) := (has_put hn_m)
  refine E_get 9 dX7_isRow_8 (q := 11) rfl ckX7 (Nat.le_of_ble_eq_true rfl) fl_X7_13 (hF1.at 0 rfl) (hF1.lt 0 (Nat.le_of_ble_eq_true rfl)) rfl ?_
  refine E_iconst (x := 0) dX7_isRow_11 (q := 12) rfl (by decide) ?_
  refine E_iald dX7_isRow_12 (q := 13) rfl (hF1.at 2 rfl) (hF1.lt 2 (Nat.le_of_ble_eq_true rfl)) (by decide +kernel) ?_
  refine E_iconst (x := 1) dX7_isRow_13 (q := 14) rfl (by decide) ?_
  refine E_isub dX7_isRow_14 (q := 15) rfl ?_
  refine E_istore [(5, .int ((m_many (ci 0)) - 1)), (4, .int 1), (3, .int 0), (2, .int a1), (0, .ref (gB γ + 93)), (1, .int a1)] dX7_isRow_15 (q := 17) rfl (Nat.le_of_ble_eq_true rfl) rfl ?_
  obtain ⟨t14, hxt14, hf⟩ := bnd hf
  refine E_sub [4, 3, 2, 1, 0] rfl ?_
  refine L_X7_isRow_1 hn_m hxt14 ?_
  show Ev γ M_X7_isRow _ n (put 93 (mdB γ 93 m_thrown m_trace m_text m_typed m_next m_token m_place m_value m_fault m_many m_sees m_cold m_first m_told m_s m_w m_kept m_isKept m_undos m_undoMany m_foundMan m_foundHours m_foundIs m_foundMany t14.2 m_best) h) [(4, .int t14.1)] 90 [] _
  refine E_iload 0 dX7_isRow_90 (q := 92) rfl rfl ?_
  obtain ⟨g16, hf⟩ := gd hf
  obtain rfl := Option.some.inj hf
  exact E_zret dX7_isRow_92 rfl g16 ⟨rfl, rfl, rfl⟩

-- PostReliefModel.rota(I)I
def b_X7_rota_1 (N : Nat) (p1 : Int32) (m_many : FN) (v2 : Int32) (v4 : Int32) : Option ((Int32 × Int32) ⊕ (Int32)) :=
  (if (m_many (ci 0)) ≤ v4 then some (.inr v2) else some (.inl ((v2 * (m_many (ci 1))), (v4 + 1))))
def b_X7_rota_3 (N : Nat) (p1 : Int32) (p2 : Int32) (p3 : Int32) (p4 : Int32) (m_many : FN) (m_row : FN) (v6 : Int32) (m_best : FN) : Option ((Int32 × FN) ⊕ (FN)) :=
  (if (m_many (ci 0)) ≤ v6 then some (.inr m_best) else (if ix v6 5 = true then some (.inl ((v6 + 1), (upd m_best (ci v6) (m_row (ci v6))))) else none))
def b_X7_rota_2 (N : Nat) (p1 : Int32) (p2 : Int32) (m_many : FN) (m_cold : FN) (m_s : FN) (v3 : Int32) (v4 : Int32) (m_w : FN) (m_row : FN) (m_best : FN) : Option ((Int32 × Int32 × FN × FN × FN) ⊕ (Int32 × FN × FN × FN)) :=
  (if p2 ≤ v4 then some (.inr (v3, m_w, m_row, m_best)) else ((f_X7_isRow N v4 m_many m_row).bind fun z14 => (if z14.1 = 0 then some (.inl (v3, (v4 + 1), m_w, z14.2, m_best)) else ((f_X7_greatest N m_many m_cold m_s m_w z14.2).bind fun z18 => (if v3 ≤ z18.1 then some (.inl (v3, (v4 + 1), z18.2, z14.2, m_best)) else ((lp (fun s => b_X7_rota_3 N p1 p2 z18.1 v4 m_many z14.2 s.1 s.2) N (0, m_best)).bind fun t27 => some (.inl (z18.1, (v4 + 1), z18.2, z14.2, t27))))))))
def b_X7_rota_4 (N : Nat) (p1 : Int32) (m_many : FN) (v2 : Int32) (v4 : Int32) : Option ((Int32 × Int32) ⊕ (Int32)) :=
  (if (m_many (ci 0)) ≤ v4 then some (.inr v2) else some (.inl ((v2 * (m_many (ci 1))), (v4 + 1))))
def b_X7_rota_6 (N : Nat) (p1 : Int32) (p2 : Int32) (p3 : Int32) (p4 : Int32) (m_many : FN) (m_row : FN) (v6 : Int32) (m_best : FN) : Option ((Int32 × FN) ⊕ (FN)) :=
  (if (m_many (ci 0)) ≤ v6 then some (.inr m_best) else (if ix v6 5 = true then some (.inl ((v6 + 1), (upd m_best (ci v6) (m_row (ci v6))))) else none))
def b_X7_rota_5 (N : Nat) (p1 : Int32) (p2 : Int32) (m_many : FN) (m_cold : FN) (m_s : FN) (v3 : Int32) (v4 : Int32) (m_w : FN) (m_row : FN) (m_best : FN) : Option ((Int32 × Int32 × FN × FN × FN) ⊕ (Int32 × FN × FN × FN)) :=
  (if p2 ≤ v4 then some (.inr (v3, m_w, m_row, m_best)) else ((f_X7_isRow N v4 m_many m_row).bind fun z43 => (if z43.1 = 0 then some (.inl (v3, (v4 + 1), m_w, z43.2, m_best)) else ((f_X7_greatest N m_many m_cold m_s m_w z43.2).bind fun z47 => (if v3 ≤ z47.1 then some (.inl (v3, (v4 + 1), z47.2, z43.2, m_best)) else ((lp (fun s => b_X7_rota_6 N p1 p2 z47.1 v4 m_many z43.2 s.1 s.2) N (0, m_best)).bind fun t56 => some (.inl (z47.1, (v4 + 1), z47.2, z43.2, t56))))))))
def f_X7_rota (N : Nat) (a1 : Int32) (m_thrown : Int32) (m_many : FN) (m_cold : FN) (m_s : FN) (m_w : FN) (m_row : FN) (m_best : FN) : Option (Int32 × Int32 × FN × FN × FN) :=
  (if a1 = (-1) then (if (m_many (ci 0)) = 0 then some ((-9), 0, m_w, m_row, m_best) else (if (m_many (ci 0)) ≤ (m_many (ci 1)) then ((lp (fun s => b_X7_rota_1 N a1 m_many s.1 s.2) N (1, 0)).bind fun t10 => ((lp (fun s => b_X7_rota_2 N a1 t10 m_many m_cold m_s s.1 s.2.1 s.2.2.1 s.2.2.2.1 s.2.2.2.2) N (1000000, 0, m_w, m_row, m_best)).bind fun t29 => some (t29.1, 0, t29.2.1, t29.2.2.1, t29.2.2.2))) else some ((-9), 0, m_w, m_row, m_best))) else ((f_X7_isPost N a1 m_many).bind fun z31 => (if z31 = 0 then some ((-1), 0, m_w, m_row, m_best) else (if (m_many (ci 0)) = 0 then some ((-9), 0, m_w, m_row, m_best) else (if (m_many (ci 0)) ≤ (m_many (ci 1)) then ((lp (fun s => b_X7_rota_4 N a1 m_many s.1 s.2) N (1, 0)).bind fun t39 => ((lp (fun s => b_X7_rota_5 N a1 t39 m_many m_cold m_s s.1 s.2.1 s.2.2.1 s.2.2.2.1 s.2.2.2.2) N (1000000, 0, m_w, m_row, m_best)).bind fun t58 => (if ix a1 5 = true then some ((t58.2.2.2 (ci a1)), 0, t58.2.1, t58.2.2.1, t58.2.2.2) else none))) else some ((-9), 0, m_w, m_row, m_best))))))
set_option maxHeartbeats 4000000 in
set_option maxRecDepth 100000 in
theorem L_X7_rota_1 {γ : GX} {n : Nat} {h : HP} {Ψ : PS} {N : Nat} {p1 : Int32} {m_thrown : Int32} {m_trace : Int64} {m_text : FN} {m_typed : Int32} {m_next : Int32} {m_token : Int32} {m_place : Int32} {m_value : Int32} {m_fault : Int32} {m_many : FN} {m_sees : FN} {m_cold : FN} {m_first : FN} {m_told : Int32} {m_s : FN} {m_w : FN} {m_kept : FN} {m_isKept : FN} {m_undos : FN} {m_undoMany : Int32} {m_foundMan : FN} {m_foundHours : FN} {m_foundIs : FN} {m_foundMany : Int32} {m_row : FN} {m_best : FN} (hn_m : 93 + 16 ≤ n) {s0 : Int32 × Int32} {t : Int32} (hf : lp (fun s => b_X7_rota_1 N p1 m_many s.1 s.2) N s0 = some t) (K : Ev γ M_X7_rota (0, 0) n (put 93 (mdB γ 93 m_thrown m_trace m_text m_typed m_next m_token m_place m_value m_fault m_many m_sees m_cold m_first m_told m_s m_w m_kept m_isKept m_undos m_undoMany m_foundMan m_foundHours m_foundIs m_foundMany m_row m_best) h) [(0, .ref (gB γ + 93)), (1, .int p1), (2, .int t), (3, .int 1000000)] 81 [] Ψ) : Ev γ M_X7_rota (0, 0) n (put 93 (mdB γ 93 m_thrown m_trace m_text m_typed m_next m_token m_place m_value m_fault m_many m_sees m_cold m_first m_told m_s m_w m_kept m_isKept m_undos m_undoMany m_foundMan m_foundHours m_foundIs m_foundMany m_row m_best) h) [(0, .ref (gB γ + 93)), (1, .int p1), (2, .int s0.1), (3, .int 1000000), (4, .int s0.2)] 55 [] Ψ := by
  refine E_lp (P := fun s => Ev γ M_X7_rota (0, 0) n (put 93 (mdB γ 93 m_thrown m_trace m_text m_typed m_next m_token m_place m_value m_fault m_many m_sees m_cold m_first m_told m_s m_w m_kept m_isKept m_undos m_undoMany m_foundMan m_foundHours m_foundIs m_foundMany m_row m_best) h) [(0, .ref (gB γ + 93)), (1, .int p1), (2, .int s.1), (3, .int 1000000), (4, .int s.2)] 55 [] Ψ) (K := fun t => Ev γ M_X7_rota (0, 0) n (put 93 (mdB γ 93 m_thrown m_trace m_text m_typed m_next m_token m_place m_value m_fault m_many m_sees m_cold m_first m_told m_s m_w m_kept m_isKept m_undos m_undoMany m_foundMan m_foundHours m_foundIs m_foundMany m_row m_best) h) [(0, .ref (gB γ + 93)), (1, .int p1), (2, .int t), (3, .int 1000000)] 81 [] Ψ) ?_ N s0 t hf K
  intro s r hf hP hK
  obtain ⟨v2, v4⟩ := s
  change b_X7_rota_1 N p1 m_many v2 v4 = some r at hf
  unfold b_X7_rota_1 at hf
  show Ev γ M_X7_rota (0, 0) n (put 93 (mdB γ 93 m_thrown m_trace m_text m_typed m_next m_token m_place m_value m_fault m_many m_sees m_cold m_first m_told m_s m_w m_kept m_isKept m_undos m_undoMany m_foundMan m_foundHours m_foundIs m_foundMany m_row m_best) h) [(0, .ref (gB γ + 93)), (1, .int p1), (2, .int v2), (3, .int 1000000), (4, .int v4)] 55 [] Ψ
  refine E_iload 4 dX7_rota_55 (q := 57) rfl rfl ?_
  refine E_aload_n 0 dX7_rota_57 (q := 58) rfl rfl rfl ?_
  have hF8 : Has n 93 (mdB γ 93 m_thrown m_trace m_text m_typed m_next m_token m_place m_value m_fault m_many m_sees m_cold m_first m_told m_s m_w m_kept m_isKept m_undos m_undoMany m_foundMan m_foundHours m_foundIs m_foundMany m_row m_best) (put 93 (mdB γ 93 m_thrown m_trace m_text m_typed m_next m_token m_place m_value m_fault m_many m_sees m_cold m_first m_told m_s m_w m_kept m_isKept m_undos m_undoMany m_foundMan m_foundHours m_foundIs m_foundMany m_row m_best) h) := (has_put hn_m)
  refine E_get 9 dX7_rota_58 (q := 61) rfl ckX7 (Nat.le_of_ble_eq_true rfl) fl_X7_13 (hF8.at 0 rfl) (hF8.lt 0 (Nat.le_of_ble_eq_true rfl)) rfl ?_
  refine E_iconst (x := 0) dX7_rota_61 (q := 62) rfl (by decide) ?_
  refine E_iald dX7_rota_62 (q := 63) rfl (hF8.at 2 rfl) (hF8.lt 2 (Nat.le_of_ble_eq_true rfl)) (by decide +kernel) ?_
  refine E_icmp_ge dX7_rota_63 (t := 81) (by decide) (q := 66) rfl (fun c9 => ?_) (fun c9 => ?_)
  · have hf := if_t c9 hf
    exact E_sub [0, 1, 2, 3] rfl (hK _ (Option.some.inj hf).symm)
  · have hf := if_f c9 hf
    refine E_iload_n 2 dX7_rota_66 (q := 67) rfl rfl rfl ?_
    refine E_aload_n 0 dX7_rota_67 (q := 68) rfl rfl rfl ?_
    refine E_get 9 dX7_rota_68 (q := 71) rfl ckX7 (Nat.le_of_ble_eq_true rfl) fl_X7_13 (hF8.at 0 rfl) (hF8.lt 0 (Nat.le_of_ble_eq_true rfl)) rfl ?_
    refine E_iconst (x := 1) dX7_rota_71 (q := 72) rfl (by decide) ?_
    refine E_iald dX7_rota_72 (q := 73) rfl (hF8.at 2 rfl) (hF8.lt 2 (Nat.le_of_ble_eq_true rfl)) (by decide +kernel) ?_
    refine E_imul dX7_rota_73 (q := 74) rfl ?_
    refine E_istore_n [(2, .int (v2 * (m_many (ci 1)))), (0, .ref (gB γ + 93)), (1, .int p1), (3, .int 1000000), (4, .int v4)] dX7_rota_74 (q := 75) rfl rfl (Nat.le_of_ble_eq_true rfl) rfl ?_
    refine E_iinc 4 [(4, .int (v4 + 1)), (2, .int (v2 * (m_many (ci 1)))), (0, .ref (gB γ + 93)), (1, .int p1), (3, .int 1000000)] dX7_rota_75 (q := 78) rfl rfl rfl (Nat.le_of_ble_eq_true rfl) rfl ?_
    refine E_goto (q := 55) dX7_rota_78 (by decide) ?_
    exact E_sub [2, 3, 1, 4, 0] rfl (hP _ (Option.some.inj hf).symm)
set_option maxHeartbeats 4000000 in
set_option maxRecDepth 100000 in
theorem L_X7_rota_3 {γ : GX} {n : Nat} {h : HP} {Ψ : PS} {N : Nat} {p1 : Int32} {p2 : Int32} {p3 : Int32} {p4 : Int32} {m_thrown : Int32} {m_trace : Int64} {m_text : FN} {m_typed : Int32} {m_next : Int32} {m_token : Int32} {m_place : Int32} {m_value : Int32} {m_fault : Int32} {m_many : FN} {m_sees : FN} {m_cold : FN} {m_first : FN} {m_told : Int32} {m_s : FN} {m_w : FN} {m_kept : FN} {m_isKept : FN} {m_undos : FN} {m_undoMany : Int32} {m_foundMan : FN} {m_foundHours : FN} {m_foundIs : FN} {m_foundMany : Int32} {m_row : FN} (hn_m : 93 + 16 ≤ n) {s0 : Int32 × FN} {t : FN} (hf : lp (fun s => b_X7_rota_3 N p1 p2 p3 p4 m_many m_row s.1 s.2) N s0 = some t) (K : Ev γ M_X7_rota (0, 0) n (put 93 (mdB γ 93 m_thrown m_trace m_text m_typed m_next m_token m_place m_value m_fault m_many m_sees m_cold m_first m_told m_s m_w m_kept m_isKept m_undos m_undoMany m_foundMan m_foundHours m_foundIs m_foundMany m_row t) h) [(0, .ref (gB γ + 93)), (1, .int p1), (2, .int p2), (3, .int p3), (4, .int p4)] 148 [] Ψ) : Ev γ M_X7_rota (0, 0) n (put 93 (mdB γ 93 m_thrown m_trace m_text m_typed m_next m_token m_place m_value m_fault m_many m_sees m_cold m_first m_told m_s m_w m_kept m_isKept m_undos m_undoMany m_foundMan m_foundHours m_foundIs m_foundMany m_row s0.2) h) [(0, .ref (gB γ + 93)), (1, .int p1), (2, .int p2), (3, .int p3), (4, .int p4), (6, .int s0.1)] 117 [] Ψ := by
  refine E_lp (P := fun s => Ev γ M_X7_rota (0, 0) n (put 93 (mdB γ 93 m_thrown m_trace m_text m_typed m_next m_token m_place m_value m_fault m_many m_sees m_cold m_first m_told m_s m_w m_kept m_isKept m_undos m_undoMany m_foundMan m_foundHours m_foundIs m_foundMany m_row s.2) h) [(0, .ref (gB γ + 93)), (1, .int p1), (2, .int p2), (3, .int p3), (4, .int p4), (6, .int s.1)] 117 [] Ψ) (K := fun t => Ev γ M_X7_rota (0, 0) n (put 93 (mdB γ 93 m_thrown m_trace m_text m_typed m_next m_token m_place m_value m_fault m_many m_sees m_cold m_first m_told m_s m_w m_kept m_isKept m_undos m_undoMany m_foundMan m_foundHours m_foundIs m_foundMany m_row t) h) [(0, .ref (gB γ + 93)), (1, .int p1), (2, .int p2), (3, .int p3), (4, .int p4)] 148 [] Ψ) ?_ N s0 t hf K
  intro s r hf hP hK
  obtain ⟨v6, m_best⟩ := s
  change b_X7_rota_3 N p1 p2 p3 p4 m_many m_row v6 m_best = some r at hf
  unfold b_X7_rota_3 at hf
  show Ev γ M_X7_rota (0, 0) n (put 93 (mdB γ 93 m_thrown m_trace m_text m_typed m_next m_token m_place m_value m_fault m_many m_sees m_cold m_first m_told m_s m_w m_kept m_isKept m_undos m_undoMany m_foundMan m_foundHours m_foundIs m_foundMany m_row m_best) h) [(0, .ref (gB γ + 93)), (1, .int p1), (2, .int p2), (3, .int p3), (4, .int p4), (6, .int v6)] 117 [] Ψ
  refine E_iload 5 dX7_rota_117 (q := 119) rfl rfl ?_
  refine E_aload_n 0 dX7_rota_119 (q := 120) rfl rfl rfl ?_
  have hF23 : Has n 93 (mdB γ 93 m_thrown m_trace m_text m_typed m_next m_token m_place m_value m_fault m_many m_sees m_cold m_first m_told m_s m_w m_kept m_isKept m_undos m_undoMany m_foundMan m_foundHours m_foundIs m_foundMany m_row m_best) (put 93 (mdB γ 93 m_thrown m_trace m_text m_typed m_next m_token m_place m_value m_fault m_many m_sees m_cold m_first m_told m_s m_w m_kept m_isKept m_undos m_undoMany m_foundMan m_foundHours m_foundIs m_foundMany m_row m_best) h) := (has_put hn_m)
  refine E_get 9 dX7_rota_120 (q := 123) rfl ckX7 (Nat.le_of_ble_eq_true rfl) fl_X7_13 (hF23.at 0 rfl) (hF23.lt 0 (Nat.le_of_ble_eq_true rfl)) rfl ?_
  refine E_iconst (x := 0) dX7_rota_123 (q := 124) rfl (by decide) ?_
  refine E_iald dX7_rota_124 (q := 125) rfl (hF23.at 2 rfl) (hF23.lt 2 (Nat.le_of_ble_eq_true rfl)) (by decide +kernel) ?_
  refine E_icmp_ge dX7_rota_125 (t := 148) (by decide) (q := 128) rfl (fun c24 => ?_) (fun c24 => ?_)
  · have hf := if_t c24 hf
    exact E_sub [0, 1, 2, 3, 4] rfl (hK _ (Option.some.inj hf).symm)
  · have hf := if_f c24 hf
    refine E_aload_n 0 dX7_rota_128 (q := 129) rfl rfl rfl ?_
    refine E_get 25 dX7_rota_129 (q := 132) rfl ckX7 (Nat.le_of_ble_eq_true rfl) fl_X7_53 (hF23.at 0 rfl) (hF23.lt 0 (Nat.le_of_ble_eq_true rfl)) rfl ?_
    refine E_iload 5 dX7_rota_132 (q := 134) rfl rfl ?_
    refine E_aload_n 0 dX7_rota_134 (q := 135) rfl rfl rfl ?_
    refine E_get 24 dX7_rota_135 (q := 138) rfl ckX7 (Nat.le_of_ble_eq_true rfl) fl_X7_50 (hF23.at 0 rfl) (hF23.lt 0 (Nat.le_of_ble_eq_true rfl)) rfl ?_
    refine E_iload 5 dX7_rota_138 (q := 140) rfl rfl ?_
    obtain ⟨g25, hf⟩ := gd hf
    refine E_iald dX7_rota_140 (q := 141) rfl (hF23.at 14 rfl) (hF23.lt 14 (Nat.le_of_ble_eq_true rfl)) g25 ?_
    refine E_iast dX7_rota_141 (q := 142) rfl (hF23.at 15 rfl) (hF23.lt 15 (Nat.le_of_ble_eq_true rfl)) g25 (up_put (i := 15) (cs' := (mdB γ 93 m_thrown m_trace m_text m_typed m_next m_token m_place m_value m_fault m_many m_sees m_cold m_first m_told m_s m_w m_kept m_isKept m_undos m_undoMany m_foundMan m_foundHours m_foundIs m_foundMany m_row (upd m_best (ci v6) (m_row (ci v6))))) (Nat.le_of_ble_eq_true rfl) rfl) ?_
    refine E_iinc 5 [(6, .int (v6 + 1)), (0, .ref (gB γ + 93)), (1, .int p1), (2, .int p2), (3, .int p3), (4, .int p4)] dX7_rota_142 (q := 145) rfl rfl rfl (Nat.le_of_ble_eq_true rfl) rfl ?_
    refine E_goto (q := 117) dX7_rota_145 (by decide) ?_
    exact E_sub [1, 2, 3, 4, 5, 0] rfl (hP _ (Option.some.inj hf).symm)
set_option maxHeartbeats 4000000 in
set_option maxRecDepth 100000 in
theorem L_X7_rota_2 {γ : GX} {n : Nat} {h : HP} {Ψ : PS} {N : Nat} {p1 : Int32} {p2 : Int32} {m_thrown : Int32} {m_trace : Int64} {m_text : FN} {m_typed : Int32} {m_next : Int32} {m_token : Int32} {m_place : Int32} {m_value : Int32} {m_fault : Int32} {m_many : FN} {m_sees : FN} {m_cold : FN} {m_first : FN} {m_told : Int32} {m_s : FN} {m_kept : FN} {m_isKept : FN} {m_undos : FN} {m_undoMany : Int32} {m_foundMan : FN} {m_foundHours : FN} {m_foundIs : FN} {m_foundMany : Int32} (hn_m : 93 + 16 ≤ n) {s0 : Int32 × Int32 × FN × FN × FN} {t : Int32 × FN × FN × FN} (hf : lp (fun s => b_X7_rota_2 N p1 p2 m_many m_cold m_s s.1 s.2.1 s.2.2.1 s.2.2.2.1 s.2.2.2.2) N s0 = some t) (K : Ev γ M_X7_rota (0, 0) n (put 93 (mdB γ 93 m_thrown m_trace m_text m_typed m_next m_token m_place m_value m_fault m_many m_sees m_cold m_first m_told m_s t.2.1 m_kept m_isKept m_undos m_undoMany m_foundMan m_foundHours m_foundIs m_foundMany t.2.2.1 t.2.2.2) h) [(0, .ref (gB γ + 93)), (1, .int p1), (3, .int t.1)] 154 [] Ψ) : Ev γ M_X7_rota (0, 0) n (put 93 (mdB γ 93 m_thrown m_trace m_text m_typed m_next m_token m_place m_value m_fault m_many m_sees m_cold m_first m_told m_s s0.2.2.1 m_kept m_isKept m_undos m_undoMany m_foundMan m_foundHours m_foundIs m_foundMany s0.2.2.2.1 s0.2.2.2.2) h) [(0, .ref (gB γ + 93)), (1, .int p1), (2, .int p2), (3, .int s0.1), (4, .int s0.2.1)] 84 [] Ψ := by
  refine E_lp (P := fun s => Ev γ M_X7_rota (0, 0) n (put 93 (mdB γ 93 m_thrown m_trace m_text m_typed m_next m_token m_place m_value m_fault m_many m_sees m_cold m_first m_told m_s s.2.2.1 m_kept m_isKept m_undos m_undoMany m_foundMan m_foundHours m_foundIs m_foundMany s.2.2.2.1 s.2.2.2.2) h) [(0, .ref (gB γ + 93)), (1, .int p1), (2, .int p2), (3, .int s.1), (4, .int s.2.1)] 84 [] Ψ) (K := fun t => Ev γ M_X7_rota (0, 0) n (put 93 (mdB γ 93 m_thrown m_trace m_text m_typed m_next m_token m_place m_value m_fault m_many m_sees m_cold m_first m_told m_s t.2.1 m_kept m_isKept m_undos m_undoMany m_foundMan m_foundHours m_foundIs m_foundMany t.2.2.1 t.2.2.2) h) [(0, .ref (gB γ + 93)), (1, .int p1), (3, .int t.1)] 154 [] Ψ) ?_ N s0 t hf K
  intro s r hf hP hK
  obtain ⟨v3, v4, m_w, m_row, m_best⟩ := s
  change b_X7_rota_2 N p1 p2 m_many m_cold m_s v3 v4 m_w m_row m_best = some r at hf
  unfold b_X7_rota_2 at hf
  show Ev γ M_X7_rota (0, 0) n (put 93 (mdB γ 93 m_thrown m_trace m_text m_typed m_next m_token m_place m_value m_fault m_many m_sees m_cold m_first m_told m_s m_w m_kept m_isKept m_undos m_undoMany m_foundMan m_foundHours m_foundIs m_foundMany m_row m_best) h) [(0, .ref (gB γ + 93)), (1, .int p1), (2, .int p2), (3, .int v3), (4, .int v4)] 84 [] Ψ
  refine E_iload 4 dX7_rota_84 (q := 86) rfl rfl ?_
  refine E_iload_n 2 dX7_rota_86 (q := 87) rfl rfl rfl ?_
  refine E_icmp_ge dX7_rota_87 (t := 154) (by decide) (q := 90) rfl (fun c13 => ?_) (fun c13 => ?_)
  · have hf := if_t c13 hf
    exact E_sub [0, 1, 3] rfl (hK _ (Option.some.inj hf).symm)
  · have hf := if_f c13 hf
    refine E_aload_n 0 dX7_rota_90 (q := 91) rfl rfl rfl ?_
    refine E_iload 4 dX7_rota_91 (q := 93) rfl rfl ?_
    obtain ⟨z14, hxz14, hf⟩ := bnd hf
    have hF15 : Has n 93 (mdB γ 93 m_thrown m_trace m_text m_typed m_next m_token m_place m_value m_fault m_many m_sees m_cold m_first m_told m_s m_w m_kept m_isKept m_undos m_undoMany m_foundMan m_foundHours m_foundIs m_foundMany m_row m_best) (put 93 (mdB γ 93 m_thrown m_trace m_text m_typed m_next m_token m_place m_value m_fault m_many m_sees m_cold m_first m_told m_s m_w m_kept m_isKept m_undos m_undoMany m_foundMan m_foundHours m_foundIs m_foundMany m_row m_best) h) := (has_put hn_m)
    refine E_cV (as := [.int v4]) (k := 93) (rest := []) (u' := (0, 0)) (st' := [.int z14.1]) dX7_rota_93 (q := 96) rfl lkm_X7_isRow lkv_X7_175 (Nat.le_of_ble_eq_true rfl) ckX7 (hF15.at 0 rfl) (hF15.lt 0 (Nat.le_of_ble_eq_true rfl)) ⟨Nat.le_refl _, Nat.le_refl _⟩ (Nat.le_of_ble_eq_true rfl) rfl rfl (m_X7_isRow (N := N)  hF15 hxz14) rfl rfl rfl ?_
    refine Ev.heap (put_put (k := 93) (cs := (mdB γ 93 m_thrown m_trace m_text m_typed m_next m_token m_place m_value m_fault m_many m_sees m_cold m_first m_told m_s m_w m_kept m_isKept m_undos m_undoMany m_foundMan m_foundHours m_foundIs m_foundMany m_row m_best)) (cs' := (mdB γ 93 m_thrown m_trace m_text m_typed m_next m_token m_place m_value m_fault m_many m_sees m_cold m_first m_told m_s m_w m_kept m_isKept m_undos m_undoMany m_foundMan m_foundHours m_foundIs m_foundMany z14.2 m_best)) (show (16 : Nat) = 16 from rfl)) ?_
    refine E_if_eq dX7_rota_96 (t := 148) (by decide) (q := 99) rfl (fun c17 => ?_) (fun c17 => ?_)
    · have hf := if_t c17 hf
      refine E_iinc 4 [(4, .int (v4 + 1)), (0, .ref (gB γ + 93)), (1, .int p1), (2, .int p2), (3, .int v3)] dX7_rota_148 (q := 151) rfl rfl rfl (Nat.le_of_ble_eq_true rfl) rfl ?_
      refine E_goto (q := 84) dX7_rota_151 (by decide) ?_
      exact E_sub [1, 2, 3, 4, 0] rfl (hP _ (Option.some.inj hf).symm)
    · have hf := if_f c17 hf
      refine E_aload_n 0 dX7_rota_99 (q := 100) rfl rfl rfl ?_
      obtain ⟨z18, hxz18, hf⟩ := bnd hf
      have hF19 : Has n 93 (mdB γ 93 m_thrown m_trace m_text m_typed m_next m_token m_place m_value m_fault m_many m_sees m_cold m_first m_told m_s m_w m_kept m_isKept m_undos m_undoMany m_foundMan m_foundHours m_foundIs m_foundMany z14.2 m_best) (put 93 (mdB γ 93 m_thrown m_trace m_text m_typed m_next m_token m_place m_value m_fault m_many m_sees m_cold m_first m_told m_s m_w m_kept m_isKept m_undos m_undoMany m_foundMan m_foundHours m_foundIs m_foundMany z14.2 m_best) h) := (has_put hn_m)
      refine E_cV (as := []) (k := 93) (rest := []) (u' := (0, 0)) (st' := [.int z18.1]) dX7_rota_100 (q := 103) rfl lkm_X7_greatest lkv_X7_178 (Nat.le_of_ble_eq_true rfl) ckX7 (hF19.at 0 rfl) (hF19.lt 0 (Nat.le_of_ble_eq_true rfl)) ⟨Nat.le_refl _, Nat.le_refl _⟩ (Nat.le_of_ble_eq_true rfl) rfl rfl (m_X7_greatest (N := N)  hF19 hxz18) rfl rfl rfl ?_
      refine Ev.heap (put_put (k := 93) (cs := (mdB γ 93 m_thrown m_trace m_text m_typed m_next m_token m_place m_value m_fault m_many m_sees m_cold m_first m_told m_s m_w m_kept m_isKept m_undos m_undoMany m_foundMan m_foundHours m_foundIs m_foundMany z14.2 m_best)) (cs' := (mdB γ 93 m_thrown m_trace m_text m_typed m_next m_token m_place m_value m_fault m_many m_sees m_cold m_first m_told m_s z18.2 m_kept m_isKept m_undos m_undoMany m_foundMan m_foundHours m_foundIs m_foundMany z14.2 m_best)) (show (16 : Nat) = 16 from rfl)) ?_
      refine E_istore [(5, .int z18.1), (0, .ref (gB γ + 93)), (1, .int p1), (2, .int p2), (3, .int v3), (4, .int v4)] dX7_rota_103 (q := 105) rfl (Nat.le_of_ble_eq_true rfl) rfl ?_
      refine E_iload 0 dX7_rota_105 (q := 107) rfl rfl ?_
      refine E_iload_n 4 dX7_rota_107 (q := 108) rfl rfl rfl ?_
      refine E_icmp_ge dX7_rota_108 (t := 148) (by decide) (q := 111) rfl (fun c21 => ?_) (fun c21 => ?_)
      · have hf := if_t c21 hf
        refine E_iinc 5 [(4, .int (v4 + 1)), (5, .int z18.1), (0, .ref (gB γ + 93)), (1, .int p1), (2, .int p2), (3, .int v3)] dX7_rota_148 (q := 151) rfl rfl rfl (Nat.le_of_ble_eq_true rfl) rfl ?_
        refine E_goto (q := 84) dX7_rota_151 (by decide) ?_
        exact E_sub [2, 3, 4, 5, 0] rfl (hP _ (Option.some.inj hf).symm)
      · have hf := if_f c21 hf
        refine E_iload 0 dX7_rota_111 (q := 113) rfl rfl ?_
        refine E_istore_n [(3, .int z18.1), (5, .int z18.1), (0, .ref (gB γ + 93)), (1, .int p1), (2, .int p2), (4, .int v4)] dX7_rota_113 (q := 114) rfl rfl (Nat.le_of_ble_eq_true rfl) rfl ?_
        refine E_iconst (x := 0) dX7_rota_114 (q := 115) rfl (by decide) ?_
        refine E_istore [(6, .int 0), (3, .int z18.1), (5, .int z18.1), (0, .ref (gB γ + 93)), (1, .int p1), (2, .int p2), (4, .int v4)] dX7_rota_115 (q := 117) rfl (Nat.le_of_ble_eq_true rfl) rfl ?_
        obtain ⟨t27, hxt27, hf⟩ := bnd hf
        refine E_sub [3, 4, 5, 1, 6, 0] rfl ?_
        refine L_X7_rota_3 hn_m hxt27 ?_
        show Ev γ M_X7_rota _ n (put 93 (mdB γ 93 m_thrown m_trace m_text m_typed m_next m_token m_place m_value m_fault m_many m_sees m_cold m_first m_told m_s z18.2 m_kept m_isKept m_undos m_undoMany m_foundMan m_foundHours m_foundIs m_foundMany z14.2 t27) h) [(0, .ref (gB γ + 93)), (1, .int p1), (2, .int p2), (3, .int z18.1), (4, .int v4)] 148 [] _
        refine E_iinc 4 [(4, .int (v4 + 1)), (0, .ref (gB γ + 93)), (1, .int p1), (2, .int p2), (3, .int z18.1)] dX7_rota_148 (q := 151) rfl rfl rfl (Nat.le_of_ble_eq_true rfl) rfl ?_
        refine E_goto (q := 84) dX7_rota_151 (by decide) ?_
        exact E_sub [1, 2, 3, 4, 0] rfl (hP _ (Option.some.inj hf).symm)
set_option maxHeartbeats 4000000 in
set_option maxRecDepth 100000 in
theorem L_X7_rota_4 {γ : GX} {n : Nat} {h : HP} {Ψ : PS} {N : Nat} {p1 : Int32} {m_thrown : Int32} {m_trace : Int64} {m_text : FN} {m_typed : Int32} {m_next : Int32} {m_token : Int32} {m_place : Int32} {m_value : Int32} {m_fault : Int32} {m_many : FN} {m_sees : FN} {m_cold : FN} {m_first : FN} {m_told : Int32} {m_s : FN} {m_w : FN} {m_kept : FN} {m_isKept : FN} {m_undos : FN} {m_undoMany : Int32} {m_foundMan : FN} {m_foundHours : FN} {m_foundIs : FN} {m_foundMany : Int32} {m_row : FN} {m_best : FN} (hn_m : 93 + 16 ≤ n) {s0 : Int32 × Int32} {t : Int32} (hf : lp (fun s => b_X7_rota_4 N p1 m_many s.1 s.2) N s0 = some t) (K : Ev γ M_X7_rota (0, 0) n (put 93 (mdB γ 93 m_thrown m_trace m_text m_typed m_next m_token m_place m_value m_fault m_many m_sees m_cold m_first m_told m_s m_w m_kept m_isKept m_undos m_undoMany m_foundMan m_foundHours m_foundIs m_foundMany m_row m_best) h) [(0, .ref (gB γ + 93)), (1, .int p1), (2, .int t), (3, .int 1000000)] 81 [] Ψ) : Ev γ M_X7_rota (0, 0) n (put 93 (mdB γ 93 m_thrown m_trace m_text m_typed m_next m_token m_place m_value m_fault m_many m_sees m_cold m_first m_told m_s m_w m_kept m_isKept m_undos m_undoMany m_foundMan m_foundHours m_foundIs m_foundMany m_row m_best) h) [(0, .ref (gB γ + 93)), (1, .int p1), (2, .int s0.1), (3, .int 1000000), (4, .int s0.2)] 55 [] Ψ := by
  refine E_lp (P := fun s => Ev γ M_X7_rota (0, 0) n (put 93 (mdB γ 93 m_thrown m_trace m_text m_typed m_next m_token m_place m_value m_fault m_many m_sees m_cold m_first m_told m_s m_w m_kept m_isKept m_undos m_undoMany m_foundMan m_foundHours m_foundIs m_foundMany m_row m_best) h) [(0, .ref (gB γ + 93)), (1, .int p1), (2, .int s.1), (3, .int 1000000), (4, .int s.2)] 55 [] Ψ) (K := fun t => Ev γ M_X7_rota (0, 0) n (put 93 (mdB γ 93 m_thrown m_trace m_text m_typed m_next m_token m_place m_value m_fault m_many m_sees m_cold m_first m_told m_s m_w m_kept m_isKept m_undos m_undoMany m_foundMan m_foundHours m_foundIs m_foundMany m_row m_best) h) [(0, .ref (gB γ + 93)), (1, .int p1), (2, .int t), (3, .int 1000000)] 81 [] Ψ) ?_ N s0 t hf K
  intro s r hf hP hK
  obtain ⟨v2, v4⟩ := s
  change b_X7_rota_4 N p1 m_many v2 v4 = some r at hf
  unfold b_X7_rota_4 at hf
  show Ev γ M_X7_rota (0, 0) n (put 93 (mdB γ 93 m_thrown m_trace m_text m_typed m_next m_token m_place m_value m_fault m_many m_sees m_cold m_first m_told m_s m_w m_kept m_isKept m_undos m_undoMany m_foundMan m_foundHours m_foundIs m_foundMany m_row m_best) h) [(0, .ref (gB γ + 93)), (1, .int p1), (2, .int v2), (3, .int 1000000), (4, .int v4)] 55 [] Ψ
  refine E_iload 4 dX7_rota_55 (q := 57) rfl rfl ?_
  refine E_aload_n 0 dX7_rota_57 (q := 58) rfl rfl rfl ?_
  have hF37 : Has n 93 (mdB γ 93 m_thrown m_trace m_text m_typed m_next m_token m_place m_value m_fault m_many m_sees m_cold m_first m_told m_s m_w m_kept m_isKept m_undos m_undoMany m_foundMan m_foundHours m_foundIs m_foundMany m_row m_best) (put 93 (mdB γ 93 m_thrown m_trace m_text m_typed m_next m_token m_place m_value m_fault m_many m_sees m_cold m_first m_told m_s m_w m_kept m_isKept m_undos m_undoMany m_foundMan m_foundHours m_foundIs m_foundMany m_row m_best) h) := (has_put hn_m)
  refine E_get 9 dX7_rota_58 (q := 61) rfl ckX7 (Nat.le_of_ble_eq_true rfl) fl_X7_13 (hF37.at 0 rfl) (hF37.lt 0 (Nat.le_of_ble_eq_true rfl)) rfl ?_
  refine E_iconst (x := 0) dX7_rota_61 (q := 62) rfl (by decide) ?_
  refine E_iald dX7_rota_62 (q := 63) rfl (hF37.at 2 rfl) (hF37.lt 2 (Nat.le_of_ble_eq_true rfl)) (by decide +kernel) ?_
  refine E_icmp_ge dX7_rota_63 (t := 81) (by decide) (q := 66) rfl (fun c38 => ?_) (fun c38 => ?_)
  · have hf := if_t c38 hf
    exact E_sub [0, 1, 2, 3] rfl (hK _ (Option.some.inj hf).symm)
  · have hf := if_f c38 hf
    refine E_iload_n 2 dX7_rota_66 (q := 67) rfl rfl rfl ?_
    refine E_aload_n 0 dX7_rota_67 (q := 68) rfl rfl rfl ?_
    refine E_get 9 dX7_rota_68 (q := 71) rfl ckX7 (Nat.le_of_ble_eq_true rfl) fl_X7_13 (hF37.at 0 rfl) (hF37.lt 0 (Nat.le_of_ble_eq_true rfl)) rfl ?_
    refine E_iconst (x := 1) dX7_rota_71 (q := 72) rfl (by decide) ?_
    refine E_iald dX7_rota_72 (q := 73) rfl (hF37.at 2 rfl) (hF37.lt 2 (Nat.le_of_ble_eq_true rfl)) (by decide +kernel) ?_
    refine E_imul dX7_rota_73 (q := 74) rfl ?_
    refine E_istore_n [(2, .int (v2 * (m_many (ci 1)))), (0, .ref (gB γ + 93)), (1, .int p1), (3, .int 1000000), (4, .int v4)] dX7_rota_74 (q := 75) rfl rfl (Nat.le_of_ble_eq_true rfl) rfl ?_
    refine E_iinc 4 [(4, .int (v4 + 1)), (2, .int (v2 * (m_many (ci 1)))), (0, .ref (gB γ + 93)), (1, .int p1), (3, .int 1000000)] dX7_rota_75 (q := 78) rfl rfl rfl (Nat.le_of_ble_eq_true rfl) rfl ?_
    refine E_goto (q := 55) dX7_rota_78 (by decide) ?_
    exact E_sub [2, 3, 1, 4, 0] rfl (hP _ (Option.some.inj hf).symm)
set_option maxHeartbeats 4000000 in
set_option maxRecDepth 100000 in
theorem L_X7_rota_6 {γ : GX} {n : Nat} {h : HP} {Ψ : PS} {N : Nat} {p1 : Int32} {p2 : Int32} {p3 : Int32} {p4 : Int32} {m_thrown : Int32} {m_trace : Int64} {m_text : FN} {m_typed : Int32} {m_next : Int32} {m_token : Int32} {m_place : Int32} {m_value : Int32} {m_fault : Int32} {m_many : FN} {m_sees : FN} {m_cold : FN} {m_first : FN} {m_told : Int32} {m_s : FN} {m_w : FN} {m_kept : FN} {m_isKept : FN} {m_undos : FN} {m_undoMany : Int32} {m_foundMan : FN} {m_foundHours : FN} {m_foundIs : FN} {m_foundMany : Int32} {m_row : FN} (hn_m : 93 + 16 ≤ n) {s0 : Int32 × FN} {t : FN} (hf : lp (fun s => b_X7_rota_6 N p1 p2 p3 p4 m_many m_row s.1 s.2) N s0 = some t) (K : Ev γ M_X7_rota (0, 0) n (put 93 (mdB γ 93 m_thrown m_trace m_text m_typed m_next m_token m_place m_value m_fault m_many m_sees m_cold m_first m_told m_s m_w m_kept m_isKept m_undos m_undoMany m_foundMan m_foundHours m_foundIs m_foundMany m_row t) h) [(0, .ref (gB γ + 93)), (1, .int p1), (2, .int p2), (3, .int p3), (4, .int p4)] 148 [] Ψ) : Ev γ M_X7_rota (0, 0) n (put 93 (mdB γ 93 m_thrown m_trace m_text m_typed m_next m_token m_place m_value m_fault m_many m_sees m_cold m_first m_told m_s m_w m_kept m_isKept m_undos m_undoMany m_foundMan m_foundHours m_foundIs m_foundMany m_row s0.2) h) [(0, .ref (gB γ + 93)), (1, .int p1), (2, .int p2), (3, .int p3), (4, .int p4), (6, .int s0.1)] 117 [] Ψ := by
  refine E_lp (P := fun s => Ev γ M_X7_rota (0, 0) n (put 93 (mdB γ 93 m_thrown m_trace m_text m_typed m_next m_token m_place m_value m_fault m_many m_sees m_cold m_first m_told m_s m_w m_kept m_isKept m_undos m_undoMany m_foundMan m_foundHours m_foundIs m_foundMany m_row s.2) h) [(0, .ref (gB γ + 93)), (1, .int p1), (2, .int p2), (3, .int p3), (4, .int p4), (6, .int s.1)] 117 [] Ψ) (K := fun t => Ev γ M_X7_rota (0, 0) n (put 93 (mdB γ 93 m_thrown m_trace m_text m_typed m_next m_token m_place m_value m_fault m_many m_sees m_cold m_first m_told m_s m_w m_kept m_isKept m_undos m_undoMany m_foundMan m_foundHours m_foundIs m_foundMany m_row t) h) [(0, .ref (gB γ + 93)), (1, .int p1), (2, .int p2), (3, .int p3), (4, .int p4)] 148 [] Ψ) ?_ N s0 t hf K
  intro s r hf hP hK
  obtain ⟨v6, m_best⟩ := s
  change b_X7_rota_6 N p1 p2 p3 p4 m_many m_row v6 m_best = some r at hf
  unfold b_X7_rota_6 at hf
  show Ev γ M_X7_rota (0, 0) n (put 93 (mdB γ 93 m_thrown m_trace m_text m_typed m_next m_token m_place m_value m_fault m_many m_sees m_cold m_first m_told m_s m_w m_kept m_isKept m_undos m_undoMany m_foundMan m_foundHours m_foundIs m_foundMany m_row m_best) h) [(0, .ref (gB γ + 93)), (1, .int p1), (2, .int p2), (3, .int p3), (4, .int p4), (6, .int v6)] 117 [] Ψ
  refine E_iload 5 dX7_rota_117 (q := 119) rfl rfl ?_
  refine E_aload_n 0 dX7_rota_119 (q := 120) rfl rfl rfl ?_
  have hF52 : Has n 93 (mdB γ 93 m_thrown m_trace m_text m_typed m_next m_token m_place m_value m_fault m_many m_sees m_cold m_first m_told m_s m_w m_kept m_isKept m_undos m_undoMany m_foundMan m_foundHours m_foundIs m_foundMany m_row m_best) (put 93 (mdB γ 93 m_thrown m_trace m_text m_typed m_next m_token m_place m_value m_fault m_many m_sees m_cold m_first m_told m_s m_w m_kept m_isKept m_undos m_undoMany m_foundMan m_foundHours m_foundIs m_foundMany m_row m_best) h) := (has_put hn_m)
  refine E_get 9 dX7_rota_120 (q := 123) rfl ckX7 (Nat.le_of_ble_eq_true rfl) fl_X7_13 (hF52.at 0 rfl) (hF52.lt 0 (Nat.le_of_ble_eq_true rfl)) rfl ?_
  refine E_iconst (x := 0) dX7_rota_123 (q := 124) rfl (by decide) ?_
  refine E_iald dX7_rota_124 (q := 125) rfl (hF52.at 2 rfl) (hF52.lt 2 (Nat.le_of_ble_eq_true rfl)) (by decide +kernel) ?_
  refine E_icmp_ge dX7_rota_125 (t := 148) (by decide) (q := 128) rfl (fun c53 => ?_) (fun c53 => ?_)
  · have hf := if_t c53 hf
    exact E_sub [0, 1, 2, 3, 4] rfl (hK _ (Option.some.inj hf).symm)
  · have hf := if_f c53 hf
    refine E_aload_n 0 dX7_rota_128 (q := 129) rfl rfl rfl ?_
    refine E_get 25 dX7_rota_129 (q := 132) rfl ckX7 (Nat.le_of_ble_eq_true rfl) fl_X7_53 (hF52.at 0 rfl) (hF52.lt 0 (Nat.le_of_ble_eq_true rfl)) rfl ?_
    refine E_iload 5 dX7_rota_132 (q := 134) rfl rfl ?_
    refine E_aload_n 0 dX7_rota_134 (q := 135) rfl rfl rfl ?_
    refine E_get 24 dX7_rota_135 (q := 138) rfl ckX7 (Nat.le_of_ble_eq_true rfl) fl_X7_50 (hF52.at 0 rfl) (hF52.lt 0 (Nat.le_of_ble_eq_true rfl)) rfl ?_
    refine E_iload 5 dX7_rota_138 (q := 140) rfl rfl ?_
    obtain ⟨g54, hf⟩ := gd hf
    refine E_iald dX7_rota_140 (q := 141) rfl (hF52.at 14 rfl) (hF52.lt 14 (Nat.le_of_ble_eq_true rfl)) g54 ?_
    refine E_iast dX7_rota_141 (q := 142) rfl (hF52.at 15 rfl) (hF52.lt 15 (Nat.le_of_ble_eq_true rfl)) g54 (up_put (i := 15) (cs' := (mdB γ 93 m_thrown m_trace m_text m_typed m_next m_token m_place m_value m_fault m_many m_sees m_cold m_first m_told m_s m_w m_kept m_isKept m_undos m_undoMany m_foundMan m_foundHours m_foundIs m_foundMany m_row (upd m_best (ci v6) (m_row (ci v6))))) (Nat.le_of_ble_eq_true rfl) rfl) ?_
    refine E_iinc 5 [(6, .int (v6 + 1)), (0, .ref (gB γ + 93)), (1, .int p1), (2, .int p2), (3, .int p3), (4, .int p4)] dX7_rota_142 (q := 145) rfl rfl rfl (Nat.le_of_ble_eq_true rfl) rfl ?_
    refine E_goto (q := 117) dX7_rota_145 (by decide) ?_
    exact E_sub [1, 2, 3, 4, 5, 0] rfl (hP _ (Option.some.inj hf).symm)
set_option maxHeartbeats 4000000 in
set_option maxRecDepth 100000 in
theorem L_X7_rota_5 {γ : GX} {n : Nat} {h : HP} {Ψ : PS} {N : Nat} {p1 : Int32} {p2 : Int32} {m_thrown : Int32} {m_trace : Int64} {m_text : FN} {m_typed : Int32} {m_next : Int32} {m_token : Int32} {m_place : Int32} {m_value : Int32} {m_fault : Int32} {m_many : FN} {m_sees : FN} {m_cold : FN} {m_first : FN} {m_told : Int32} {m_s : FN} {m_kept : FN} {m_isKept : FN} {m_undos : FN} {m_undoMany : Int32} {m_foundMan : FN} {m_foundHours : FN} {m_foundIs : FN} {m_foundMany : Int32} (hn_m : 93 + 16 ≤ n) {s0 : Int32 × Int32 × FN × FN × FN} {t : Int32 × FN × FN × FN} (hf : lp (fun s => b_X7_rota_5 N p1 p2 m_many m_cold m_s s.1 s.2.1 s.2.2.1 s.2.2.2.1 s.2.2.2.2) N s0 = some t) (K : Ev γ M_X7_rota (0, 0) n (put 93 (mdB γ 93 m_thrown m_trace m_text m_typed m_next m_token m_place m_value m_fault m_many m_sees m_cold m_first m_told m_s t.2.1 m_kept m_isKept m_undos m_undoMany m_foundMan m_foundHours m_foundIs m_foundMany t.2.2.1 t.2.2.2) h) [(0, .ref (gB γ + 93)), (1, .int p1), (3, .int t.1)] 154 [] Ψ) : Ev γ M_X7_rota (0, 0) n (put 93 (mdB γ 93 m_thrown m_trace m_text m_typed m_next m_token m_place m_value m_fault m_many m_sees m_cold m_first m_told m_s s0.2.2.1 m_kept m_isKept m_undos m_undoMany m_foundMan m_foundHours m_foundIs m_foundMany s0.2.2.2.1 s0.2.2.2.2) h) [(0, .ref (gB γ + 93)), (1, .int p1), (2, .int p2), (3, .int s0.1), (4, .int s0.2.1)] 84 [] Ψ := by
  refine E_lp (P := fun s => Ev γ M_X7_rota (0, 0) n (put 93 (mdB γ 93 m_thrown m_trace m_text m_typed m_next m_token m_place m_value m_fault m_many m_sees m_cold m_first m_told m_s s.2.2.1 m_kept m_isKept m_undos m_undoMany m_foundMan m_foundHours m_foundIs m_foundMany s.2.2.2.1 s.2.2.2.2) h) [(0, .ref (gB γ + 93)), (1, .int p1), (2, .int p2), (3, .int s.1), (4, .int s.2.1)] 84 [] Ψ) (K := fun t => Ev γ M_X7_rota (0, 0) n (put 93 (mdB γ 93 m_thrown m_trace m_text m_typed m_next m_token m_place m_value m_fault m_many m_sees m_cold m_first m_told m_s t.2.1 m_kept m_isKept m_undos m_undoMany m_foundMan m_foundHours m_foundIs m_foundMany t.2.2.1 t.2.2.2) h) [(0, .ref (gB γ + 93)), (1, .int p1), (3, .int t.1)] 154 [] Ψ) ?_ N s0 t hf K
  intro s r hf hP hK
  obtain ⟨v3, v4, m_w, m_row, m_best⟩ := s
  change b_X7_rota_5 N p1 p2 m_many m_cold m_s v3 v4 m_w m_row m_best = some r at hf
  unfold b_X7_rota_5 at hf
  show Ev γ M_X7_rota (0, 0) n (put 93 (mdB γ 93 m_thrown m_trace m_text m_typed m_next m_token m_place m_value m_fault m_many m_sees m_cold m_first m_told m_s m_w m_kept m_isKept m_undos m_undoMany m_foundMan m_foundHours m_foundIs m_foundMany m_row m_best) h) [(0, .ref (gB γ + 93)), (1, .int p1), (2, .int p2), (3, .int v3), (4, .int v4)] 84 [] Ψ
  refine E_iload 4 dX7_rota_84 (q := 86) rfl rfl ?_
  refine E_iload_n 2 dX7_rota_86 (q := 87) rfl rfl rfl ?_
  refine E_icmp_ge dX7_rota_87 (t := 154) (by decide) (q := 90) rfl (fun c42 => ?_) (fun c42 => ?_)
  · have hf := if_t c42 hf
    exact E_sub [0, 1, 3] rfl (hK _ (Option.some.inj hf).symm)
  · have hf := if_f c42 hf
    refine E_aload_n 0 dX7_rota_90 (q := 91) rfl rfl rfl ?_
    refine E_iload 4 dX7_rota_91 (q := 93) rfl rfl ?_
    obtain ⟨z43, hxz43, hf⟩ := bnd hf
    have hF44 : Has n 93 (mdB γ 93 m_thrown m_trace m_text m_typed m_next m_token m_place m_value m_fault m_many m_sees m_cold m_first m_told m_s m_w m_kept m_isKept m_undos m_undoMany m_foundMan m_foundHours m_foundIs m_foundMany m_row m_best) (put 93 (mdB γ 93 m_thrown m_trace m_text m_typed m_next m_token m_place m_value m_fault m_many m_sees m_cold m_first m_told m_s m_w m_kept m_isKept m_undos m_undoMany m_foundMan m_foundHours m_foundIs m_foundMany m_row m_best) h) := (has_put hn_m)
    refine E_cV (as := [.int v4]) (k := 93) (rest := []) (u' := (0, 0)) (st' := [.int z43.1]) dX7_rota_93 (q := 96) rfl lkm_X7_isRow lkv_X7_175 (Nat.le_of_ble_eq_true rfl) ckX7 (hF44.at 0 rfl) (hF44.lt 0 (Nat.le_of_ble_eq_true rfl)) ⟨Nat.le_refl _, Nat.le_refl _⟩ (Nat.le_of_ble_eq_true rfl) rfl rfl (m_X7_isRow (N := N)  hF44 hxz43) rfl rfl rfl ?_
    refine Ev.heap (put_put (k := 93) (cs := (mdB γ 93 m_thrown m_trace m_text m_typed m_next m_token m_place m_value m_fault m_many m_sees m_cold m_first m_told m_s m_w m_kept m_isKept m_undos m_undoMany m_foundMan m_foundHours m_foundIs m_foundMany m_row m_best)) (cs' := (mdB γ 93 m_thrown m_trace m_text m_typed m_next m_token m_place m_value m_fault m_many m_sees m_cold m_first m_told m_s m_w m_kept m_isKept m_undos m_undoMany m_foundMan m_foundHours m_foundIs m_foundMany z43.2 m_best)) (show (16 : Nat) = 16 from rfl)) ?_
    refine E_if_eq dX7_rota_96 (t := 148) (by decide) (q := 99) rfl (fun c46 => ?_) (fun c46 => ?_)
    · have hf := if_t c46 hf
      refine E_iinc 4 [(4, .int (v4 + 1)), (0, .ref (gB γ + 93)), (1, .int p1), (2, .int p2), (3, .int v3)] dX7_rota_148 (q := 151) rfl rfl rfl (Nat.le_of_ble_eq_true rfl) rfl ?_
      refine E_goto (q := 84) dX7_rota_151 (by decide) ?_
      exact E_sub [1, 2, 3, 4, 0] rfl (hP _ (Option.some.inj hf).symm)
    · have hf := if_f c46 hf
      refine E_aload_n 0 dX7_rota_99 (q := 100) rfl rfl rfl ?_
      obtain ⟨z47, hxz47, hf⟩ := bnd hf
      have hF48 : Has n 93 (mdB γ 93 m_thrown m_trace m_text m_typed m_next m_token m_place m_value m_fault m_many m_sees m_cold m_first m_told m_s m_w m_kept m_isKept m_undos m_undoMany m_foundMan m_foundHours m_foundIs m_foundMany z43.2 m_best) (put 93 (mdB γ 93 m_thrown m_trace m_text m_typed m_next m_token m_place m_value m_fault m_many m_sees m_cold m_first m_told m_s m_w m_kept m_isKept m_undos m_undoMany m_foundMan m_foundHours m_foundIs m_foundMany z43.2 m_best) h) := (has_put hn_m)
      refine E_cV (as := []) (k := 93) (rest := []) (u' := (0, 0)) (st' := [.int z47.1]) dX7_rota_100 (q := 103) rfl lkm_X7_greatest lkv_X7_178 (Nat.le_of_ble_eq_true rfl) ckX7 (hF48.at 0 rfl) (hF48.lt 0 (Nat.le_of_ble_eq_true rfl)) ⟨Nat.le_refl _, Nat.le_refl _⟩ (Nat.le_of_ble_eq_true rfl) rfl rfl (m_X7_greatest (N := N)  hF48 hxz47) rfl rfl rfl ?_
      refine Ev.heap (put_put (k := 93) (cs := (mdB γ 93 m_thrown m_trace m_text m_typed m_next m_token m_place m_value m_fault m_many m_sees m_cold m_first m_told m_s m_w m_kept m_isKept m_undos m_undoMany m_foundMan m_foundHours m_foundIs m_foundMany z43.2 m_best)) (cs' := (mdB γ 93 m_thrown m_trace m_text m_typed m_next m_token m_place m_value m_fault m_many m_sees m_cold m_first m_told m_s z47.2 m_kept m_isKept m_undos m_undoMany m_foundMan m_foundHours m_foundIs m_foundMany z43.2 m_best)) (show (16 : Nat) = 16 from rfl)) ?_
      refine E_istore [(5, .int z47.1), (0, .ref (gB γ + 93)), (1, .int p1), (2, .int p2), (3, .int v3), (4, .int v4)] dX7_rota_103 (q := 105) rfl (Nat.le_of_ble_eq_true rfl) rfl ?_
      refine E_iload 0 dX7_rota_105 (q := 107) rfl rfl ?_
      refine E_iload_n 4 dX7_rota_107 (q := 108) rfl rfl rfl ?_
      refine E_icmp_ge dX7_rota_108 (t := 148) (by decide) (q := 111) rfl (fun c50 => ?_) (fun c50 => ?_)
      · have hf := if_t c50 hf
        refine E_iinc 5 [(4, .int (v4 + 1)), (5, .int z47.1), (0, .ref (gB γ + 93)), (1, .int p1), (2, .int p2), (3, .int v3)] dX7_rota_148 (q := 151) rfl rfl rfl (Nat.le_of_ble_eq_true rfl) rfl ?_
        refine E_goto (q := 84) dX7_rota_151 (by decide) ?_
        exact E_sub [2, 3, 4, 5, 0] rfl (hP _ (Option.some.inj hf).symm)
      · have hf := if_f c50 hf
        refine E_iload 0 dX7_rota_111 (q := 113) rfl rfl ?_
        refine E_istore_n [(3, .int z47.1), (5, .int z47.1), (0, .ref (gB γ + 93)), (1, .int p1), (2, .int p2), (4, .int v4)] dX7_rota_113 (q := 114) rfl rfl (Nat.le_of_ble_eq_true rfl) rfl ?_
        refine E_iconst (x := 0) dX7_rota_114 (q := 115) rfl (by decide) ?_
        refine E_istore [(6, .int 0), (3, .int z47.1), (5, .int z47.1), (0, .ref (gB γ + 93)), (1, .int p1), (2, .int p2), (4, .int v4)] dX7_rota_115 (q := 117) rfl (Nat.le_of_ble_eq_true rfl) rfl ?_
        obtain ⟨t56, hxt56, hf⟩ := bnd hf
        refine E_sub [3, 4, 5, 1, 6, 0] rfl ?_
        refine L_X7_rota_6 hn_m hxt56 ?_
        show Ev γ M_X7_rota _ n (put 93 (mdB γ 93 m_thrown m_trace m_text m_typed m_next m_token m_place m_value m_fault m_many m_sees m_cold m_first m_told m_s z47.2 m_kept m_isKept m_undos m_undoMany m_foundMan m_foundHours m_foundIs m_foundMany z43.2 t56) h) [(0, .ref (gB γ + 93)), (1, .int p1), (2, .int p2), (3, .int z47.1), (4, .int v4)] 148 [] _
        refine E_iinc 4 [(4, .int (v4 + 1)), (0, .ref (gB γ + 93)), (1, .int p1), (2, .int p2), (3, .int z47.1)] dX7_rota_148 (q := 151) rfl rfl rfl (Nat.le_of_ble_eq_true rfl) rfl ?_
        refine E_goto (q := 84) dX7_rota_151 (by decide) ?_
        exact E_sub [1, 2, 3, 4, 0] rfl (hP _ (Option.some.inj hf).symm)
set_option maxHeartbeats 4000000 in
set_option maxRecDepth 100000 in
theorem m_X7_rota {γ : GX} {n : Nat} {N : Nat} {h : HP} {a1 : Int32} {m_thrown : Int32} {m_trace : Int64} {m_text : FN} {m_typed : Int32} {m_next : Int32} {m_token : Int32} {m_place : Int32} {m_value : Int32} {m_fault : Int32} {m_many : FN} {m_sees : FN} {m_cold : FN} {m_first : FN} {m_told : Int32} {m_s : FN} {m_w : FN} {m_kept : FN} {m_isKept : FN} {m_undos : FN} {m_undoMany : Int32} {m_foundMan : FN} {m_foundHours : FN} {m_foundIs : FN} {m_foundMany : Int32} {m_row : FN} {m_best : FN} (hH_m : Has n 93 (mdB γ 93 m_thrown m_trace m_text m_typed m_next m_token m_place m_value m_fault m_many m_sees m_cold m_first m_told m_s m_w m_kept m_isKept m_undos m_undoMany m_foundMan m_foundHours m_foundIs m_foundMany m_row m_best) h) {z : Int32 × Int32 × FN × FN × FN} (hf : f_X7_rota N a1 m_thrown m_many m_cold m_s m_w m_row m_best = some z)  : Ct γ M_X7_rota n h [.ref (gB γ + 93), .int a1] (Done (some (.int z.1)) n (put 93 (mdB γ 93 z.2.1 m_trace m_text m_typed m_next m_token m_place m_value m_fault m_many m_sees m_cold m_first m_told m_s z.2.2.1 m_kept m_isKept m_undos m_undoMany m_foundMan m_foundHours m_foundIs m_foundMany z.2.2.2.1 z.2.2.2.2) h)) := by
  have hn_m : 93 + 16 ≤ n := hH_m.1
  refine Ct.heap (h := (put 93 (mdB γ 93 m_thrown m_trace m_text m_typed m_next m_token m_place m_value m_fault m_many m_sees m_cold m_first m_told m_s m_w m_kept m_isKept m_undos m_undoMany m_foundMan m_foundHours m_foundIs m_foundMany m_row m_best) h)) (put_self hH_m).symm ?_
  refine Ct_of_Ev (by decide) (fun h => by cases h) (Nat.le_of_ble_eq_true rfl) ?_
  show Ev γ M_X7_rota (0, 0) n (put 93 (mdB γ 93 m_thrown m_trace m_text m_typed m_next m_token m_place m_value m_fault m_many m_sees m_cold m_first m_told m_s m_w m_kept m_isKept m_undos m_undoMany m_foundMan m_foundHours m_foundIs m_foundMany m_row m_best) h) [(0, .ref (gB γ + 93)), (1, .int a1)] 0 [] _
  unfold f_X7_rota at hf
  refine E_aload_n 0 dX7_rota_0 (q := 1) rfl rfl rfl ?_
  refine E_iconst (x := 0) dX7_rota_1 (q := 2) rfl (by decide) ?_
  have hF1 : Has n 93 (mdB γ 93 m_thrown m_trace m_text m_typed m_next m_token m_place m_value m_fault m_many m_sees m_cold m_first m_told m_s m_w m_kept m_isKept m_undos m_undoMany m_foundMan m_foundHours m_foundIs m_foundMany m_row m_best) (put 93 (mdB γ 93 m_thrown m_trace m_text m_typed m_next m_token m_place m_value m_fault m_many m_sees m_cold m_first m_told m_s m_w m_kept m_isKept m_undos m_undoMany m_foundMan m_foundHours m_foundIs m_foundMany m_row m_best) h) := (has_put hn_m)
  refine E_put 0 dX7_rota_2 (q := 5) rfl ckX7 (Nat.le_of_ble_eq_true rfl) fl_X7_56 rfl rfl rfl (hF1.at 0 rfl) (hF1.lt 0 (Nat.le_of_ble_eq_true rfl)) (Nat.le_of_ble_eq_true rfl) (up_put (i := 0) (cs' := (mdB γ 93 0 m_trace m_text m_typed m_next m_token m_place m_value m_fault m_many m_sees m_cold m_first m_told m_s m_w m_kept m_isKept m_undos m_undoMany m_foundMan m_foundHours m_foundIs m_foundMany m_row m_best)) (Nat.le_of_ble_eq_true rfl) rfl) ?_
  refine E_iload_n 1 dX7_rota_5 (q := 6) rfl rfl rfl ?_
  refine E_iconst (x := (-1)) dX7_rota_6 (q := 7) rfl (by decide) ?_
  refine E_icmp_eq dX7_rota_7 (t := 20) (by decide) (q := 10) rfl (fun c3 => ?_) (fun c3 => ?_)
  · have hf := if_t c3 hf
    refine E_aload_n 0 dX7_rota_20 (q := 21) rfl rfl rfl ?_
    have hF4 : Has n 93 (mdB γ 93 0 m_trace m_text m_typed m_next m_token m_place m_value m_fault m_many m_sees m_cold m_first m_told m_s m_w m_kept m_isKept m_undos m_undoMany m_foundMan m_foundHours m_foundIs m_foundMany m_row m_best) (put 93 (mdB γ 93 0 m_trace m_text m_typed m_next m_token m_place m_value m_fault m_many m_sees m_cold m_first m_told m_s m_w m_kept m_isKept m_undos m_undoMany m_foundMan m_foundHours m_foundIs m_foundMany m_row m_best) h) := (has_put hn_m)
    refine E_get 9 dX7_rota_21 (q := 24) rfl ckX7 (Nat.le_of_ble_eq_true rfl) fl_X7_13 (hF4.at 0 rfl) (hF4.lt 0 (Nat.le_of_ble_eq_true rfl)) rfl ?_
    refine E_iconst (x := 0) dX7_rota_24 (q := 25) rfl (by decide) ?_
    refine E_iald dX7_rota_25 (q := 26) rfl (hF4.at 2 rfl) (hF4.lt 2 (Nat.le_of_ble_eq_true rfl)) (by decide +kernel) ?_
    refine E_if_eq dX7_rota_26 (t := 44) (by decide) (q := 29) rfl (fun c5 => ?_) (fun c5 => ?_)
    · have hf := if_t c5 hf
      refine E_bipush (x := (-9)) dX7_rota_44 (q := 46) rfl (by decide) ?_
      obtain rfl := Option.some.inj hf
      exact E_iret dX7_rota_46 rfl ⟨rfl, rfl, rfl⟩
    · have hf := if_f c5 hf
      refine E_aload_n 0 dX7_rota_29 (q := 30) rfl rfl rfl ?_
      refine E_get 9 dX7_rota_30 (q := 33) rfl ckX7 (Nat.le_of_ble_eq_true rfl) fl_X7_13 (hF4.at 0 rfl) (hF4.lt 0 (Nat.le_of_ble_eq_true rfl)) rfl ?_
      refine E_iconst (x := 1) dX7_rota_33 (q := 34) rfl (by decide) ?_
      refine E_iald dX7_rota_34 (q := 35) rfl (hF4.at 2 rfl) (hF4.lt 2 (Nat.le_of_ble_eq_true rfl)) (by decide +kernel) ?_
      refine E_aload_n 0 dX7_rota_35 (q := 36) rfl rfl rfl ?_
      refine E_get 9 dX7_rota_36 (q := 39) rfl ckX7 (Nat.le_of_ble_eq_true rfl) fl_X7_13 (hF4.at 0 rfl) (hF4.lt 0 (Nat.le_of_ble_eq_true rfl)) rfl ?_
      refine E_iconst (x := 0) dX7_rota_39 (q := 40) rfl (by decide) ?_
      refine E_iald dX7_rota_40 (q := 41) rfl (hF4.at 2 rfl) (hF4.lt 2 (Nat.le_of_ble_eq_true rfl)) (by decide +kernel) ?_
      refine E_icmp_ge dX7_rota_41 (t := 47) (by decide) (q := 44) rfl (fun c6 => ?_) (fun c6 => ?_)
      · have hf := if_t c6 hf
        refine E_iconst (x := 1) dX7_rota_47 (q := 48) rfl (by decide) ?_
        refine E_istore_n [(2, .int 1), (0, .ref (gB γ + 93)), (1, .int a1)] dX7_rota_48 (q := 49) rfl rfl (Nat.le_of_ble_eq_true rfl) rfl ?_
        refine E_ldc dX7_rota_49 (q := 51) rfl cw_X7_171 ?_
        refine E_istore_n [(3, .int 1000000), (2, .int 1), (0, .ref (gB γ + 93)), (1, .int a1)] dX7_rota_51 (q := 52) rfl rfl (Nat.le_of_ble_eq_true rfl) rfl ?_
        refine E_iconst (x := 0) dX7_rota_52 (q := 53) rfl (by decide) ?_
        refine E_istore [(4, .int 0), (3, .int 1000000), (2, .int 1), (0, .ref (gB γ + 93)), (1, .int a1)] dX7_rota_53 (q := 55) rfl (Nat.le_of_ble_eq_true rfl) rfl ?_
        obtain ⟨t10, hxt10, hf⟩ := bnd hf
        refine E_sub [3, 4, 2, 1, 0] rfl ?_
        refine L_X7_rota_1 hn_m hxt10 ?_
        show Ev γ M_X7_rota _ n (put 93 (mdB γ 93 0 m_trace m_text m_typed m_next m_token m_place m_value m_fault m_many m_sees m_cold m_first m_told m_s m_w m_kept m_isKept m_undos m_undoMany m_foundMan m_foundHours m_foundIs m_foundMany m_row m_best) h) [(0, .ref (gB γ + 93)), (1, .int a1), (2, .int t10), (3, .int 1000000)] 81 [] _
        refine E_iconst (x := 0) dX7_rota_81 (q := 82) rfl (by decide) ?_
        refine E_istore [(4, .int 0), (0, .ref (gB γ + 93)), (1, .int a1), (2, .int t10), (3, .int 1000000)] dX7_rota_82 (q := 84) rfl (Nat.le_of_ble_eq_true rfl) rfl ?_
        obtain ⟨t29, hxt29, hf⟩ := bnd hf
        refine E_sub [1, 2, 3, 4, 0] rfl ?_
        refine L_X7_rota_2 hn_m hxt29 ?_
        show Ev γ M_X7_rota _ n (put 93 (mdB γ 93 0 m_trace m_text m_typed m_next m_token m_place m_value m_fault m_many m_sees m_cold m_first m_told m_s t29.2.1 m_kept m_isKept m_undos m_undoMany m_foundMan m_foundHours m_foundIs m_foundMany t29.2.2.1 t29.2.2.2) h) [(0, .ref (gB γ + 93)), (1, .int a1), (3, .int t29.1)] 154 [] _
        refine E_iload_n 1 dX7_rota_154 (q := 155) rfl rfl rfl ?_
        refine E_iconst (x := (-1)) dX7_rota_155 (q := 156) rfl (by decide) ?_
        refine E_icmp_ne dX7_rota_156 (t := 163) (by decide) (q := 159) rfl (fun c => absurd c3 c) (fun _ => ?_)
        refine E_iload_n 2 dX7_rota_159 (q := 160) rfl rfl rfl ?_
        refine E_goto (q := 169) dX7_rota_160 (by decide) ?_
        obtain rfl := Option.some.inj hf
        exact E_iret dX7_rota_169 rfl ⟨rfl, rfl, rfl⟩
      · have hf := if_f c6 hf
        refine E_bipush (x := (-9)) dX7_rota_44 (q := 46) rfl (by decide) ?_
        obtain rfl := Option.some.inj hf
        exact E_iret dX7_rota_46 rfl ⟨rfl, rfl, rfl⟩
  · have hf := if_f c3 hf
    refine E_aload_n 0 dX7_rota_10 (q := 11) rfl rfl rfl ?_
    refine E_iload_n 1 dX7_rota_11 (q := 12) rfl rfl rfl ?_
    obtain ⟨z31, hxz31, hf⟩ := bnd hf
    have hF32 : Has n 93 (mdB γ 93 0 m_trace m_text m_typed m_next m_token m_place m_value m_fault m_many m_sees m_cold m_first m_told m_s m_w m_kept m_isKept m_undos m_undoMany m_foundMan m_foundHours m_foundIs m_foundMany m_row m_best) (put 93 (mdB γ 93 0 m_trace m_text m_typed m_next m_token m_place m_value m_fault m_many m_sees m_cold m_first m_told m_s m_w m_kept m_isKept m_undos m_undoMany m_foundMan m_foundHours m_foundIs m_foundMany m_row m_best) h) := (has_put hn_m)
    refine E_cV (as := [.int a1]) (k := 93) (rest := []) (u' := (0, 0)) (st' := [.int z31]) dX7_rota_12 (q := 15) rfl lkm_X7_isPost lkv_X7_120 (Nat.le_of_ble_eq_true rfl) ckX7 (hF32.at 0 rfl) (hF32.lt 0 (Nat.le_of_ble_eq_true rfl)) ⟨Nat.le_refl _, Nat.le_refl _⟩ (Nat.le_of_ble_eq_true rfl) rfl rfl (m_X7_isPost (N := N)  hF32 hxz31) rfl rfl rfl ?_
    refine E_if_ne dX7_rota_15 (t := 20) (by decide) (q := 18) rfl (fun c33 => ?_) (fun c33 => ?_)
    · have hf := if_f c33 hf
      refine E_aload_n 0 dX7_rota_20 (q := 21) rfl rfl rfl ?_
      refine E_get 9 dX7_rota_21 (q := 24) rfl ckX7 (Nat.le_of_ble_eq_true rfl) fl_X7_13 (hF32.at 0 rfl) (hF32.lt 0 (Nat.le_of_ble_eq_true rfl)) rfl ?_
      refine E_iconst (x := 0) dX7_rota_24 (q := 25) rfl (by decide) ?_
      refine E_iald dX7_rota_25 (q := 26) rfl (hF32.at 2 rfl) (hF32.lt 2 (Nat.le_of_ble_eq_true rfl)) (by decide +kernel) ?_
      refine E_if_eq dX7_rota_26 (t := 44) (by decide) (q := 29) rfl (fun c34 => ?_) (fun c34 => ?_)
      · have hf := if_t c34 hf
        refine E_bipush (x := (-9)) dX7_rota_44 (q := 46) rfl (by decide) ?_
        obtain rfl := Option.some.inj hf
        exact E_iret dX7_rota_46 rfl ⟨rfl, rfl, rfl⟩
      · have hf := if_f c34 hf
        refine E_aload_n 0 dX7_rota_29 (q := 30) rfl rfl rfl ?_
        refine E_get 9 dX7_rota_30 (q := 33) rfl ckX7 (Nat.le_of_ble_eq_true rfl) fl_X7_13 (hF32.at 0 rfl) (hF32.lt 0 (Nat.le_of_ble_eq_true rfl)) rfl ?_
        refine E_iconst (x := 1) dX7_rota_33 (q := 34) rfl (by decide) ?_
        refine E_iald dX7_rota_34 (q := 35) rfl (hF32.at 2 rfl) (hF32.lt 2 (Nat.le_of_ble_eq_true rfl)) (by decide +kernel) ?_
        refine E_aload_n 0 dX7_rota_35 (q := 36) rfl rfl rfl ?_
        refine E_get 9 dX7_rota_36 (q := 39) rfl ckX7 (Nat.le_of_ble_eq_true rfl) fl_X7_13 (hF32.at 0 rfl) (hF32.lt 0 (Nat.le_of_ble_eq_true rfl)) rfl ?_
        refine E_iconst (x := 0) dX7_rota_39 (q := 40) rfl (by decide) ?_
        refine E_iald dX7_rota_40 (q := 41) rfl (hF32.at 2 rfl) (hF32.lt 2 (Nat.le_of_ble_eq_true rfl)) (by decide +kernel) ?_
        refine E_icmp_ge dX7_rota_41 (t := 47) (by decide) (q := 44) rfl (fun c35 => ?_) (fun c35 => ?_)
        · have hf := if_t c35 hf
          refine E_iconst (x := 1) dX7_rota_47 (q := 48) rfl (by decide) ?_
          refine E_istore_n [(2, .int 1), (0, .ref (gB γ + 93)), (1, .int a1)] dX7_rota_48 (q := 49) rfl rfl (Nat.le_of_ble_eq_true rfl) rfl ?_
          refine E_ldc dX7_rota_49 (q := 51) rfl cw_X7_171 ?_
          refine E_istore_n [(3, .int 1000000), (2, .int 1), (0, .ref (gB γ + 93)), (1, .int a1)] dX7_rota_51 (q := 52) rfl rfl (Nat.le_of_ble_eq_true rfl) rfl ?_
          refine E_iconst (x := 0) dX7_rota_52 (q := 53) rfl (by decide) ?_
          refine E_istore [(4, .int 0), (3, .int 1000000), (2, .int 1), (0, .ref (gB γ + 93)), (1, .int a1)] dX7_rota_53 (q := 55) rfl (Nat.le_of_ble_eq_true rfl) rfl ?_
          obtain ⟨t39, hxt39, hf⟩ := bnd hf
          refine E_sub [3, 4, 2, 1, 0] rfl ?_
          refine L_X7_rota_4 hn_m hxt39 ?_
          show Ev γ M_X7_rota _ n (put 93 (mdB γ 93 0 m_trace m_text m_typed m_next m_token m_place m_value m_fault m_many m_sees m_cold m_first m_told m_s m_w m_kept m_isKept m_undos m_undoMany m_foundMan m_foundHours m_foundIs m_foundMany m_row m_best) h) [(0, .ref (gB γ + 93)), (1, .int a1), (2, .int t39), (3, .int 1000000)] 81 [] _
          refine E_iconst (x := 0) dX7_rota_81 (q := 82) rfl (by decide) ?_
          refine E_istore [(4, .int 0), (0, .ref (gB γ + 93)), (1, .int a1), (2, .int t39), (3, .int 1000000)] dX7_rota_82 (q := 84) rfl (Nat.le_of_ble_eq_true rfl) rfl ?_
          obtain ⟨t58, hxt58, hf⟩ := bnd hf
          refine E_sub [1, 2, 3, 4, 0] rfl ?_
          refine L_X7_rota_5 hn_m hxt58 ?_
          show Ev γ M_X7_rota _ n (put 93 (mdB γ 93 0 m_trace m_text m_typed m_next m_token m_place m_value m_fault m_many m_sees m_cold m_first m_told m_s t58.2.1 m_kept m_isKept m_undos m_undoMany m_foundMan m_foundHours m_foundIs m_foundMany t58.2.2.1 t58.2.2.2) h) [(0, .ref (gB γ + 93)), (1, .int a1), (3, .int t58.1)] 154 [] _
          refine E_iload_n 1 dX7_rota_154 (q := 155) rfl rfl rfl ?_
          refine E_iconst (x := (-1)) dX7_rota_155 (q := 156) rfl (by decide) ?_
          refine E_icmp_ne dX7_rota_156 (t := 163) (by decide) (q := 159) rfl (fun _ => ?_) (fun c => absurd c c3)
          refine E_aload_n 0 dX7_rota_163 (q := 164) rfl rfl rfl ?_
          have hF60 : Has n 93 (mdB γ 93 0 m_trace m_text m_typed m_next m_token m_place m_value m_fault m_many m_sees m_cold m_first m_told m_s t58.2.1 m_kept m_isKept m_undos m_undoMany m_foundMan m_foundHours m_foundIs m_foundMany t58.2.2.1 t58.2.2.2) (put 93 (mdB γ 93 0 m_trace m_text m_typed m_next m_token m_place m_value m_fault m_many m_sees m_cold m_first m_told m_s t58.2.1 m_kept m_isKept m_undos m_undoMany m_foundMan m_foundHours m_foundIs m_foundMany t58.2.2.1 t58.2.2.2) h) := (has_put hn_m)
          refine E_get 25 dX7_rota_164 (q := 167) rfl ckX7 (Nat.le_of_ble_eq_true rfl) fl_X7_53 (hF60.at 0 rfl) (hF60.lt 0 (Nat.le_of_ble_eq_true rfl)) rfl ?_
          refine E_iload_n 1 dX7_rota_167 (q := 168) rfl rfl rfl ?_
          obtain ⟨g61, hf⟩ := gd hf
          refine E_iald dX7_rota_168 (q := 169) rfl (hF60.at 15 rfl) (hF60.lt 15 (Nat.le_of_ble_eq_true rfl)) g61 ?_
          obtain rfl := Option.some.inj hf
          exact E_iret dX7_rota_169 rfl ⟨rfl, rfl, rfl⟩
        · have hf := if_f c35 hf
          refine E_bipush (x := (-9)) dX7_rota_44 (q := 46) rfl (by decide) ?_
          obtain rfl := Option.some.inj hf
          exact E_iret dX7_rota_46 rfl ⟨rfl, rfl, rfl⟩
    · have hf := if_t c33 hf
      refine E_iconst (x := (-1)) dX7_rota_18 (q := 19) rfl (by decide) ?_
      obtain rfl := Option.some.inj hf
      exact E_iret dX7_rota_19 rfl ⟨rfl, rfl, rfl⟩

-- PostReliefModel.seenBy(I)I
def b_X7_seenBy_1 (N : Nat) (p1 : Int32) (m_many : FN) (m_sees : FN) (v2 : Int32) (v3 : Int32) : Option ((Int32 × Int32) ⊕ (Int32)) :=
  (if (m_many (ci 0)) ≤ v3 then some (.inr v2) else (if ((p1 >>> (v3 &&& 31)) &&& 1) = 1 then (if ix v3 10 = true then some (.inl ((v2 ||| (m_sees (ci v3))), (v3 + 1))) else none) else some (.inl ((v2 ||| 0), (v3 + 1)))))
def f_X7_seenBy (N : Nat) (a1 : Int32) (m_many : FN) (m_sees : FN) : Option (Int32) :=
  ((lp (fun s => b_X7_seenBy_1 N a1 m_many m_sees s.1 s.2) N (0, 0)).bind fun t5 => some t5)
set_option maxHeartbeats 4000000 in
set_option maxRecDepth 100000 in
theorem L_X7_seenBy_1 {γ : GX} {n : Nat} {h : HP} {Ψ : PS} {N : Nat} {p1 : Int32} {m_thrown : Int32} {m_trace : Int64} {m_text : FN} {m_typed : Int32} {m_next : Int32} {m_token : Int32} {m_place : Int32} {m_value : Int32} {m_fault : Int32} {m_many : FN} {m_sees : FN} {m_cold : FN} {m_first : FN} {m_told : Int32} {m_s : FN} {m_w : FN} {m_kept : FN} {m_isKept : FN} {m_undos : FN} {m_undoMany : Int32} {m_foundMan : FN} {m_foundHours : FN} {m_foundIs : FN} {m_foundMany : Int32} {m_row : FN} {m_best : FN} (hH_m : Has n 93 (mdB γ 93 m_thrown m_trace m_text m_typed m_next m_token m_place m_value m_fault m_many m_sees m_cold m_first m_told m_s m_w m_kept m_isKept m_undos m_undoMany m_foundMan m_foundHours m_foundIs m_foundMany m_row m_best) h) {s0 : Int32 × Int32} {t : Int32} (hf : lp (fun s => b_X7_seenBy_1 N p1 m_many m_sees s.1 s.2) N s0 = some t) (K : Ev γ M_X7_seenBy (0, 0) n h [(2, .int t)] 42 [] Ψ) : Ev γ M_X7_seenBy (0, 0) n h [(0, .ref (gB γ + 93)), (1, .int p1), (2, .int s0.1), (3, .int s0.2)] 4 [] Ψ := by
  refine E_lp (P := fun s => Ev γ M_X7_seenBy (0, 0) n h [(0, .ref (gB γ + 93)), (1, .int p1), (2, .int s.1), (3, .int s.2)] 4 [] Ψ) (K := fun t => Ev γ M_X7_seenBy (0, 0) n h [(2, .int t)] 42 [] Ψ) ?_ N s0 t hf K
  intro s r hf hP hK
  obtain ⟨v2, v3⟩ := s
  change b_X7_seenBy_1 N p1 m_many m_sees v2 v3 = some r at hf
  unfold b_X7_seenBy_1 at hf
  show Ev γ M_X7_seenBy (0, 0) n h [(0, .ref (gB γ + 93)), (1, .int p1), (2, .int v2), (3, .int v3)] 4 [] Ψ
  refine E_iload_n 3 dX7_seenBy_4 (q := 5) rfl rfl rfl ?_
  refine E_aload_n 0 dX7_seenBy_5 (q := 6) rfl rfl rfl ?_
  refine E_get 9 dX7_seenBy_6 (q := 9) rfl ckX7 (Nat.le_of_ble_eq_true rfl) fl_X7_13 (hH_m.at 0 rfl) (hH_m.lt 0 (Nat.le_of_ble_eq_true rfl)) rfl ?_
  refine E_iconst (x := 0) dX7_seenBy_9 (q := 10) rfl (by decide) ?_
  refine E_iald dX7_seenBy_10 (q := 11) rfl (hH_m.at 2 rfl) (hH_m.lt 2 (Nat.le_of_ble_eq_true rfl)) (by decide +kernel) ?_
  refine E_icmp_ge dX7_seenBy_11 (t := 42) (by decide) (q := 14) rfl (fun c2 => ?_) (fun c2 => ?_)
  · have hf := if_t c2 hf
    exact E_sub [2] rfl (hK _ (Option.some.inj hf).symm)
  · have hf := if_f c2 hf
    refine E_iload_n 2 dX7_seenBy_14 (q := 15) rfl rfl rfl ?_
    refine E_iload_n 1 dX7_seenBy_15 (q := 16) rfl rfl rfl ?_
    refine E_iload_n 3 dX7_seenBy_16 (q := 17) rfl rfl rfl ?_
    refine E_ishr dX7_seenBy_17 (q := 18) rfl ?_
    refine E_iconst (x := 1) dX7_seenBy_18 (q := 19) rfl (by decide) ?_
    refine E_iand dX7_seenBy_19 (q := 20) rfl ?_
    refine E_iconst (x := 1) dX7_seenBy_20 (q := 21) rfl (by decide) ?_
    refine E_icmp_ne dX7_seenBy_21 (t := 33) (by decide) (q := 24) rfl (fun c3 => ?_) (fun c3 => ?_)
    · have hf := if_f c3 hf
      refine E_iconst (x := 0) dX7_seenBy_33 (q := 34) rfl (by decide) ?_
      refine E_ior dX7_seenBy_34 (q := 35) rfl ?_
      refine E_istore_n [(2, .int (v2 ||| 0)), (0, .ref (gB γ + 93)), (1, .int p1), (3, .int v3)] dX7_seenBy_35 (q := 36) rfl rfl (Nat.le_of_ble_eq_true rfl) rfl ?_
      refine E_iinc 3 [(3, .int (v3 + 1)), (2, .int (v2 ||| 0)), (0, .ref (gB γ + 93)), (1, .int p1)] dX7_seenBy_36 (q := 39) rfl rfl rfl (Nat.le_of_ble_eq_true rfl) rfl ?_
      refine E_goto (q := 4) dX7_seenBy_39 (by decide) ?_
      exact E_sub [2, 3, 1, 0] rfl (hP _ (Option.some.inj hf).symm)
    · have hf := if_t c3 hf
      refine E_aload_n 0 dX7_seenBy_24 (q := 25) rfl rfl rfl ?_
      refine E_get 10 dX7_seenBy_25 (q := 28) rfl ckX7 (Nat.le_of_ble_eq_true rfl) fl_X7_16 (hH_m.at 0 rfl) (hH_m.lt 0 (Nat.le_of_ble_eq_true rfl)) rfl ?_
      refine E_iload_n 3 dX7_seenBy_28 (q := 29) rfl rfl rfl ?_
      obtain ⟨g4, hf⟩ := gd hf
      refine E_iald dX7_seenBy_29 (q := 30) rfl (hH_m.at 3 rfl) (hH_m.lt 3 (Nat.le_of_ble_eq_true rfl)) g4 ?_
      refine E_goto (q := 34) dX7_seenBy_30 (by decide) ?_
      refine E_ior dX7_seenBy_34 (q := 35) rfl ?_
      refine E_istore_n [(2, .int (v2 ||| (m_sees (ci v3)))), (0, .ref (gB γ + 93)), (1, .int p1), (3, .int v3)] dX7_seenBy_35 (q := 36) rfl rfl (Nat.le_of_ble_eq_true rfl) rfl ?_
      refine E_iinc 3 [(3, .int (v3 + 1)), (2, .int (v2 ||| (m_sees (ci v3)))), (0, .ref (gB γ + 93)), (1, .int p1)] dX7_seenBy_36 (q := 39) rfl rfl rfl (Nat.le_of_ble_eq_true rfl) rfl ?_
      refine E_goto (q := 4) dX7_seenBy_39 (by decide) ?_
      exact E_sub [2, 3, 1, 0] rfl (hP _ (Option.some.inj hf).symm)
set_option maxHeartbeats 4000000 in
set_option maxRecDepth 100000 in
theorem m_X7_seenBy {γ : GX} {n : Nat} {N : Nat} {h : HP} {a1 : Int32} {m_thrown : Int32} {m_trace : Int64} {m_text : FN} {m_typed : Int32} {m_next : Int32} {m_token : Int32} {m_place : Int32} {m_value : Int32} {m_fault : Int32} {m_many : FN} {m_sees : FN} {m_cold : FN} {m_first : FN} {m_told : Int32} {m_s : FN} {m_w : FN} {m_kept : FN} {m_isKept : FN} {m_undos : FN} {m_undoMany : Int32} {m_foundMan : FN} {m_foundHours : FN} {m_foundIs : FN} {m_foundMany : Int32} {m_row : FN} {m_best : FN} (hH_m : Has n 93 (mdB γ 93 m_thrown m_trace m_text m_typed m_next m_token m_place m_value m_fault m_many m_sees m_cold m_first m_told m_s m_w m_kept m_isKept m_undos m_undoMany m_foundMan m_foundHours m_foundIs m_foundMany m_row m_best) h) {z : Int32} (hf : f_X7_seenBy N a1 m_many m_sees = some z)  : Ct γ M_X7_seenBy n h [.ref (gB γ + 93), .int a1] (Done (some (.int z)) n h) := by
  refine Ct_of_Ev (by decide) (fun h => by cases h) (Nat.le_of_ble_eq_true rfl) ?_
  show Ev γ M_X7_seenBy (0, 0) n h [(0, .ref (gB γ + 93)), (1, .int a1)] 0 [] _
  unfold f_X7_seenBy at hf
  refine E_iconst (x := 0) dX7_seenBy_0 (q := 1) rfl (by decide) ?_
  refine E_istore_n [(2, .int 0), (0, .ref (gB γ + 93)), (1, .int a1)] dX7_seenBy_1 (q := 2) rfl rfl (Nat.le_of_ble_eq_true rfl) rfl ?_
  refine E_iconst (x := 0) dX7_seenBy_2 (q := 3) rfl (by decide) ?_
  refine E_istore_n [(3, .int 0), (2, .int 0), (0, .ref (gB γ + 93)), (1, .int a1)] dX7_seenBy_3 (q := 4) rfl rfl (Nat.le_of_ble_eq_true rfl) rfl ?_
  obtain ⟨t5, hxt5, hf⟩ := bnd hf
  refine E_sub [2, 3, 1, 0] rfl ?_
  refine L_X7_seenBy_1 hH_m hxt5 ?_
  show Ev γ M_X7_seenBy _ n h [(2, .int t5)] 42 [] _
  refine E_iload_n 0 dX7_seenBy_42 (q := 43) rfl rfl rfl ?_
  obtain rfl := Option.some.inj hf
  exact E_iret dX7_seenBy_43 rfl ⟨rfl, rfl, rfl⟩

-- PostReliefModel.leave()I
def b_X7_leave_1 (N : Nat) (p1 : Int32) (m_many : FN) (m_sees : FN) (v2 : Int32) (v3 : Int32) : Option ((Int32 × Int32) ⊕ (Int32)) :=
  (if p1 < v3 then some (.inr v2) else ((f_X7_seenBy N (p1 &&& (v3 ^^^ (-1))) m_many m_sees).bind fun z6 => (if (v3 &&& (z6 ^^^ (-1))) = 0 then ((f_X7_ones N v3).bind fun z9 => ((f_X7_ones N v2).bind fun z10 => (if z9 ≤ z10 then some (.inl (v2, (v3 + 1))) else some (.inl (v3, (v3 + 1)))))) else some (.inl (v2, (v3 + 1))))))
def f_X7_leave (N : Nat) (m_thrown : Int32) (m_many : FN) (m_sees : FN) : Option (Int32 × Int32) :=
  ((lp (fun s => b_X7_leave_1 N (((1 : Int32) <<< ((m_many (ci 0)) &&& 31)) - 1) m_many m_sees s.1 s.2) N (0, 1)).bind fun t12 => some (t12, 0))
set_option maxHeartbeats 4000000 in
set_option maxRecDepth 100000 in
theorem L_X7_leave_1 {γ : GX} {n : Nat} {h : HP} {Ψ : PS} {N : Nat} {p1 : Int32} {m_thrown : Int32} {m_trace : Int64} {m_text : FN} {m_typed : Int32} {m_next : Int32} {m_token : Int32} {m_place : Int32} {m_value : Int32} {m_fault : Int32} {m_many : FN} {m_sees : FN} {m_cold : FN} {m_first : FN} {m_told : Int32} {m_s : FN} {m_w : FN} {m_kept : FN} {m_isKept : FN} {m_undos : FN} {m_undoMany : Int32} {m_foundMan : FN} {m_foundHours : FN} {m_foundIs : FN} {m_foundMany : Int32} {m_row : FN} {m_best : FN} (hn_m : 93 + 16 ≤ n) {s0 : Int32 × Int32} {t : Int32} (hf : lp (fun s => b_X7_leave_1 N p1 m_many m_sees s.1 s.2) N s0 = some t) (K : Ev γ M_X7_leave (0, 0) n (put 93 (mdB γ 93 m_thrown m_trace m_text m_typed m_next m_token m_place m_value m_fault m_many m_sees m_cold m_first m_told m_s m_w m_kept m_isKept m_undos m_undoMany m_foundMan m_foundHours m_foundIs m_foundMany m_row m_best) h) [(2, .int t)] 64 [] Ψ) : Ev γ M_X7_leave (0, 0) n (put 93 (mdB γ 93 m_thrown m_trace m_text m_typed m_next m_token m_place m_value m_fault m_many m_sees m_cold m_first m_told m_s m_w m_kept m_isKept m_undos m_undoMany m_foundMan m_foundHours m_foundIs m_foundMany m_row m_best) h) [(0, .ref (gB γ + 93)), (1, .int p1), (2, .int s0.1), (3, .int s0.2)] 20 [] Ψ := by
  refine E_lp (P := fun s => Ev γ M_X7_leave (0, 0) n (put 93 (mdB γ 93 m_thrown m_trace m_text m_typed m_next m_token m_place m_value m_fault m_many m_sees m_cold m_first m_told m_s m_w m_kept m_isKept m_undos m_undoMany m_foundMan m_foundHours m_foundIs m_foundMany m_row m_best) h) [(0, .ref (gB γ + 93)), (1, .int p1), (2, .int s.1), (3, .int s.2)] 20 [] Ψ) (K := fun t => Ev γ M_X7_leave (0, 0) n (put 93 (mdB γ 93 m_thrown m_trace m_text m_typed m_next m_token m_place m_value m_fault m_many m_sees m_cold m_first m_told m_s m_w m_kept m_isKept m_undos m_undoMany m_foundMan m_foundHours m_foundIs m_foundMany m_row m_best) h) [(2, .int t)] 64 [] Ψ) ?_ N s0 t hf K
  intro s r hf hP hK
  obtain ⟨v2, v3⟩ := s
  change b_X7_leave_1 N p1 m_many m_sees v2 v3 = some r at hf
  unfold b_X7_leave_1 at hf
  show Ev γ M_X7_leave (0, 0) n (put 93 (mdB γ 93 m_thrown m_trace m_text m_typed m_next m_token m_place m_value m_fault m_many m_sees m_cold m_first m_told m_s m_w m_kept m_isKept m_undos m_undoMany m_foundMan m_foundHours m_foundIs m_foundMany m_row m_best) h) [(0, .ref (gB γ + 93)), (1, .int p1), (2, .int v2), (3, .int v3)] 20 [] Ψ
  refine E_iload_n 3 dX7_leave_20 (q := 21) rfl rfl rfl ?_
  refine E_iload_n 1 dX7_leave_21 (q := 22) rfl rfl rfl ?_
  refine E_icmp_gt dX7_leave_22 (t := 64) (by decide) (q := 25) rfl (fun c5 => ?_) (fun c5 => ?_)
  · have hf := if_t c5 hf
    exact E_sub [2] rfl (hK _ (Option.some.inj hf).symm)
  · have hf := if_f c5 hf
    refine E_iload_n 3 dX7_leave_25 (q := 26) rfl rfl rfl ?_
    refine E_aload_n 0 dX7_leave_26 (q := 27) rfl rfl rfl ?_
    refine E_iload_n 1 dX7_leave_27 (q := 28) rfl rfl rfl ?_
    refine E_iload_n 3 dX7_leave_28 (q := 29) rfl rfl rfl ?_
    refine E_iconst (x := (-1)) dX7_leave_29 (q := 30) rfl (by decide) ?_
    refine E_ixor dX7_leave_30 (q := 31) rfl ?_
    refine E_iand dX7_leave_31 (q := 32) rfl ?_
    obtain ⟨z6, hxz6, hf⟩ := bnd hf
    have hF7 : Has n 93 (mdB γ 93 m_thrown m_trace m_text m_typed m_next m_token m_place m_value m_fault m_many m_sees m_cold m_first m_told m_s m_w m_kept m_isKept m_undos m_undoMany m_foundMan m_foundHours m_foundIs m_foundMany m_row m_best) (put 93 (mdB γ 93 m_thrown m_trace m_text m_typed m_next m_token m_place m_value m_fault m_many m_sees m_cold m_first m_told m_s m_w m_kept m_isKept m_undos m_undoMany m_foundMan m_foundHours m_foundIs m_foundMany m_row m_best) h) := (has_put hn_m)
    refine E_cV (as := [.int (p1 &&& (v3 ^^^ (-1)))]) (k := 93) (rest := [.int v3]) (u' := (0, 0)) (st' := [.int z6, .int v3]) dX7_leave_32 (q := 35) rfl lkm_X7_seenBy lkv_X7_182 (Nat.le_of_ble_eq_true rfl) ckX7 (hF7.at 0 rfl) (hF7.lt 0 (Nat.le_of_ble_eq_true rfl)) ⟨Nat.le_refl _, Nat.le_refl _⟩ (Nat.le_of_ble_eq_true rfl) rfl rfl (m_X7_seenBy (N := N)  hF7 hxz6) rfl rfl rfl ?_
    refine E_iconst (x := (-1)) dX7_leave_35 (q := 36) rfl (by decide) ?_
    refine E_ixor dX7_leave_36 (q := 37) rfl ?_
    refine E_iand dX7_leave_37 (q := 38) rfl ?_
    refine E_if_ne dX7_leave_38 (t := 56) (by decide) (q := 41) rfl (fun c8 => ?_) (fun c8 => ?_)
    · have hf := if_f c8 hf
      refine E_iload_n 2 dX7_leave_56 (q := 57) rfl rfl rfl ?_
      refine E_istore_n [(2, .int v2), (0, .ref (gB γ + 93)), (1, .int p1), (3, .int v3)] dX7_leave_57 (q := 58) rfl rfl (Nat.le_of_ble_eq_true rfl) rfl ?_
      refine E_iinc 3 [(3, .int (v3 + 1)), (2, .int v2), (0, .ref (gB γ + 93)), (1, .int p1)] dX7_leave_58 (q := 61) rfl rfl rfl (Nat.le_of_ble_eq_true rfl) rfl ?_
      refine E_goto (q := 20) dX7_leave_61 (by decide) ?_
      exact E_sub [2, 3, 1, 0] rfl (hP _ (Option.some.inj hf).symm)
    · have hf := if_t c8 hf
      refine E_iload_n 3 dX7_leave_41 (q := 42) rfl rfl rfl ?_
      obtain ⟨z9, hxz9, hf⟩ := bnd hf
      refine E_cS (as := [.int v3]) (rest := []) (u' := (0, 0)) (st' := [.int z9]) dX7_leave_42 (q := 45) rfl lkm_X7_ones lks_X7_151 (Nat.le_of_ble_eq_true rfl) ⟨Nat.le_refl _, Nat.le_refl _⟩ (Nat.le_of_ble_eq_true rfl) rfl rfl (m_X7_ones (N := N)  hxz9) rfl rfl rfl ?_
      refine E_iload_n 2 dX7_leave_45 (q := 46) rfl rfl rfl ?_
      obtain ⟨z10, hxz10, hf⟩ := bnd hf
      refine E_cS (as := [.int v2]) (rest := [.int z9]) (u' := (0, 0)) (st' := [.int z10, .int z9]) dX7_leave_46 (q := 49) rfl lkm_X7_ones lks_X7_151 (Nat.le_of_ble_eq_true rfl) ⟨Nat.le_refl _, Nat.le_refl _⟩ (Nat.le_of_ble_eq_true rfl) rfl rfl (m_X7_ones (N := N)  hxz10) rfl rfl rfl ?_
      refine E_icmp_le dX7_leave_49 (t := 56) (by decide) (q := 52) rfl (fun c11 => ?_) (fun c11 => ?_)
      · have hf := if_t c11 hf
        refine E_iload_n 2 dX7_leave_56 (q := 57) rfl rfl rfl ?_
        refine E_istore_n [(2, .int v2), (0, .ref (gB γ + 93)), (1, .int p1), (3, .int v3)] dX7_leave_57 (q := 58) rfl rfl (Nat.le_of_ble_eq_true rfl) rfl ?_
        refine E_iinc 3 [(3, .int (v3 + 1)), (2, .int v2), (0, .ref (gB γ + 93)), (1, .int p1)] dX7_leave_58 (q := 61) rfl rfl rfl (Nat.le_of_ble_eq_true rfl) rfl ?_
        refine E_goto (q := 20) dX7_leave_61 (by decide) ?_
        exact E_sub [2, 3, 1, 0] rfl (hP _ (Option.some.inj hf).symm)
      · have hf := if_f c11 hf
        refine E_iload_n 3 dX7_leave_52 (q := 53) rfl rfl rfl ?_
        refine E_goto (q := 57) dX7_leave_53 (by decide) ?_
        refine E_istore_n [(2, .int v3), (0, .ref (gB γ + 93)), (1, .int p1), (3, .int v3)] dX7_leave_57 (q := 58) rfl rfl (Nat.le_of_ble_eq_true rfl) rfl ?_
        refine E_iinc 3 [(3, .int (v3 + 1)), (2, .int v3), (0, .ref (gB γ + 93)), (1, .int p1)] dX7_leave_58 (q := 61) rfl rfl rfl (Nat.le_of_ble_eq_true rfl) rfl ?_
        refine E_goto (q := 20) dX7_leave_61 (by decide) ?_
        exact E_sub [2, 3, 1, 0] rfl (hP _ (Option.some.inj hf).symm)
set_option maxHeartbeats 4000000 in
set_option maxRecDepth 100000 in
theorem m_X7_leave {γ : GX} {n : Nat} {N : Nat} {h : HP} {m_thrown : Int32} {m_trace : Int64} {m_text : FN} {m_typed : Int32} {m_next : Int32} {m_token : Int32} {m_place : Int32} {m_value : Int32} {m_fault : Int32} {m_many : FN} {m_sees : FN} {m_cold : FN} {m_first : FN} {m_told : Int32} {m_s : FN} {m_w : FN} {m_kept : FN} {m_isKept : FN} {m_undos : FN} {m_undoMany : Int32} {m_foundMan : FN} {m_foundHours : FN} {m_foundIs : FN} {m_foundMany : Int32} {m_row : FN} {m_best : FN} (hH_m : Has n 93 (mdB γ 93 m_thrown m_trace m_text m_typed m_next m_token m_place m_value m_fault m_many m_sees m_cold m_first m_told m_s m_w m_kept m_isKept m_undos m_undoMany m_foundMan m_foundHours m_foundIs m_foundMany m_row m_best) h) {z : Int32 × Int32} (hf : f_X7_leave N m_thrown m_many m_sees = some z)  : Ct γ M_X7_leave n h [.ref (gB γ + 93)] (Done (some (.int z.1)) n (put 93 (mdB γ 93 z.2 m_trace m_text m_typed m_next m_token m_place m_value m_fault m_many m_sees m_cold m_first m_told m_s m_w m_kept m_isKept m_undos m_undoMany m_foundMan m_foundHours m_foundIs m_foundMany m_row m_best) h)) := by
  have hn_m : 93 + 16 ≤ n := hH_m.1
  refine Ct.heap (h := (put 93 (mdB γ 93 m_thrown m_trace m_text m_typed m_next m_token m_place m_value m_fault m_many m_sees m_cold m_first m_told m_s m_w m_kept m_isKept m_undos m_undoMany m_foundMan m_foundHours m_foundIs m_foundMany m_row m_best) h)) (put_self hH_m).symm ?_
  refine Ct_of_Ev (by decide) (fun h => by cases h) (Nat.le_of_ble_eq_true rfl) ?_
  show Ev γ M_X7_leave (0, 0) n (put 93 (mdB γ 93 m_thrown m_trace m_text m_typed m_next m_token m_place m_value m_fault m_many m_sees m_cold m_first m_told m_s m_w m_kept m_isKept m_undos m_undoMany m_foundMan m_foundHours m_foundIs m_foundMany m_row m_best) h) [(0, .ref (gB γ + 93))] 0 [] _
  unfold f_X7_leave at hf
  refine E_aload_n 0 dX7_leave_0 (q := 1) rfl rfl rfl ?_
  refine E_iconst (x := 0) dX7_leave_1 (q := 2) rfl (by decide) ?_
  have hF1 : Has n 93 (mdB γ 93 m_thrown m_trace m_text m_typed m_next m_token m_place m_value m_fault m_many m_sees m_cold m_first m_told m_s m_w m_kept m_isKept m_undos m_undoMany m_foundMan m_foundHours m_foundIs m_foundMany m_row m_best) (put 93 (mdB γ 93 m_thrown m_trace m_text m_typed m_next m_token m_place m_value m_fault m_many m_sees m_cold m_first m_told m_s m_w m_kept m_isKept m_undos m_undoMany m_foundMan m_foundHours m_foundIs m_foundMany m_row m_best) h) := (has_put hn_m)
  refine E_put 0 dX7_leave_2 (q := 5) rfl ckX7 (Nat.le_of_ble_eq_true rfl) fl_X7_56 rfl rfl rfl (hF1.at 0 rfl) (hF1.lt 0 (Nat.le_of_ble_eq_true rfl)) (Nat.le_of_ble_eq_true rfl) (up_put (i := 0) (cs' := (mdB γ 93 0 m_trace m_text m_typed m_next m_token m_place m_value m_fault m_many m_sees m_cold m_first m_told m_s m_w m_kept m_isKept m_undos m_undoMany m_foundMan m_foundHours m_foundIs m_foundMany m_row m_best)) (Nat.le_of_ble_eq_true rfl) rfl) ?_
  refine E_iconst (x := 1) dX7_leave_5 (q := 6) rfl (by decide) ?_
  refine E_aload_n 0 dX7_leave_6 (q := 7) rfl rfl rfl ?_
  have hF3 : Has n 93 (mdB γ 93 0 m_trace m_text m_typed m_next m_token m_place m_value m_fault m_many m_sees m_cold m_first m_told m_s m_w m_kept m_isKept m_undos m_undoMany m_foundMan m_foundHours m_foundIs m_foundMany m_row m_best) (put 93 (mdB γ 93 0 m_trace m_text m_typed m_next m_token m_place m_value m_fault m_many m_sees m_cold m_first m_told m_s m_w m_kept m_isKept m_undos m_undoMany m_foundMan m_foundHours m_foundIs m_foundMany m_row m_best) h) := (has_put hn_m)
  refine E_get 9 dX7_leave_7 (q := 10) rfl ckX7 (Nat.le_of_ble_eq_true rfl) fl_X7_13 (hF3.at 0 rfl) (hF3.lt 0 (Nat.le_of_ble_eq_true rfl)) rfl ?_
  refine E_iconst (x := 0) dX7_leave_10 (q := 11) rfl (by decide) ?_
  refine E_iald dX7_leave_11 (q := 12) rfl (hF3.at 2 rfl) (hF3.lt 2 (Nat.le_of_ble_eq_true rfl)) (by decide +kernel) ?_
  refine E_ishl dX7_leave_12 (q := 13) rfl ?_
  refine E_iconst (x := 1) dX7_leave_13 (q := 14) rfl (by decide) ?_
  refine E_isub dX7_leave_14 (q := 15) rfl ?_
  refine E_istore_n [(1, .int (((1 : Int32) <<< ((m_many (ci 0)) &&& 31)) - 1)), (0, .ref (gB γ + 93))] dX7_leave_15 (q := 16) rfl rfl (Nat.le_of_ble_eq_true rfl) rfl ?_
  refine E_iconst (x := 0) dX7_leave_16 (q := 17) rfl (by decide) ?_
  refine E_istore_n [(2, .int 0), (1, .int (((1 : Int32) <<< ((m_many (ci 0)) &&& 31)) - 1)), (0, .ref (gB γ + 93))] dX7_leave_17 (q := 18) rfl rfl (Nat.le_of_ble_eq_true rfl) rfl ?_
  refine E_iconst (x := 1) dX7_leave_18 (q := 19) rfl (by decide) ?_
  refine E_istore_n [(3, .int 1), (2, .int 0), (1, .int (((1 : Int32) <<< ((m_many (ci 0)) &&& 31)) - 1)), (0, .ref (gB γ + 93))] dX7_leave_19 (q := 20) rfl rfl (Nat.le_of_ble_eq_true rfl) rfl ?_
  obtain ⟨t12, hxt12, hf⟩ := bnd hf
  refine E_sub [3, 2, 1, 0] rfl ?_
  refine L_X7_leave_1 hn_m hxt12 ?_
  show Ev γ M_X7_leave _ n (put 93 (mdB γ 93 0 m_trace m_text m_typed m_next m_token m_place m_value m_fault m_many m_sees m_cold m_first m_told m_s m_w m_kept m_isKept m_undos m_undoMany m_foundMan m_foundHours m_foundIs m_foundMany m_row m_best) h) [(2, .int t12)] 64 [] _
  refine E_iload_n 0 dX7_leave_64 (q := 65) rfl rfl rfl ?_
  obtain rfl := Option.some.inj hf
  exact E_iret dX7_leave_65 rfl ⟨rfl, rfl, rfl⟩

-- PostReliefModel.two()I
def b_X7_two_1 (N : Nat) (m_many : FN) (m_sees : FN) (v1 : Int32) (v2 : Int32) (v3 : Int32) : Option ((Int32 × Int32 × Int32) ⊕ (Int32)) :=
  (if (m_many (ci 0)) ≤ v3 then some (.inr v1) else (if ix v3 10 = true then ((f_X7_seenBy N ((((1 : Int32) <<< ((m_many (ci 0)) &&& 31)) - 1) &&& (((1 : Int32) <<< (v3 &&& 31)) ^^^ (-1))) m_many m_sees).bind fun z7 => ((f_X7_ones N ((m_sees (ci v3)) &&& (z7 ^^^ (-1)))).bind fun z8 => (if z8 ≤ v2 then some (.inl (v1, v2, (v3 + 1))) else some (.inl (v3, z8, (v3 + 1)))))) else none))
def f_X7_two (N : Nat) (m_thrown : Int32) (m_many : FN) (m_sees : FN) : Option (Int32 × Int32) :=
  ((lp (fun s => b_X7_two_1 N m_many m_sees s.1 s.2.1 s.2.2) N ((-9), (-1), 0)).bind fun t10 => some (t10, 0))
set_option maxHeartbeats 4000000 in
set_option maxRecDepth 100000 in
theorem L_X7_two_1 {γ : GX} {n : Nat} {h : HP} {Ψ : PS} {N : Nat} {m_thrown : Int32} {m_trace : Int64} {m_text : FN} {m_typed : Int32} {m_next : Int32} {m_token : Int32} {m_place : Int32} {m_value : Int32} {m_fault : Int32} {m_many : FN} {m_sees : FN} {m_cold : FN} {m_first : FN} {m_told : Int32} {m_s : FN} {m_w : FN} {m_kept : FN} {m_isKept : FN} {m_undos : FN} {m_undoMany : Int32} {m_foundMan : FN} {m_foundHours : FN} {m_foundIs : FN} {m_foundMany : Int32} {m_row : FN} {m_best : FN} (hn_m : 93 + 16 ≤ n) {s0 : Int32 × Int32 × Int32} {t : Int32} (hf : lp (fun s => b_X7_two_1 N m_many m_sees s.1 s.2.1 s.2.2) N s0 = some t) (K : Ev γ M_X7_two (0, 0) n (put 93 (mdB γ 93 m_thrown m_trace m_text m_typed m_next m_token m_place m_value m_fault m_many m_sees m_cold m_first m_told m_s m_w m_kept m_isKept m_undos m_undoMany m_foundMan m_foundHours m_foundIs m_foundMany m_row m_best) h) [(1, .int t)] 87 [] Ψ) : Ev γ M_X7_two (0, 0) n (put 93 (mdB γ 93 m_thrown m_trace m_text m_typed m_next m_token m_place m_value m_fault m_many m_sees m_cold m_first m_told m_s m_w m_kept m_isKept m_undos m_undoMany m_foundMan m_foundHours m_foundIs m_foundMany m_row m_best) h) [(0, .ref (gB γ + 93)), (1, .int s0.1), (2, .int s0.2.1), (3, .int s0.2.2)] 12 [] Ψ := by
  refine E_lp (P := fun s => Ev γ M_X7_two (0, 0) n (put 93 (mdB γ 93 m_thrown m_trace m_text m_typed m_next m_token m_place m_value m_fault m_many m_sees m_cold m_first m_told m_s m_w m_kept m_isKept m_undos m_undoMany m_foundMan m_foundHours m_foundIs m_foundMany m_row m_best) h) [(0, .ref (gB γ + 93)), (1, .int s.1), (2, .int s.2.1), (3, .int s.2.2)] 12 [] Ψ) (K := fun t => Ev γ M_X7_two (0, 0) n (put 93 (mdB γ 93 m_thrown m_trace m_text m_typed m_next m_token m_place m_value m_fault m_many m_sees m_cold m_first m_told m_s m_w m_kept m_isKept m_undos m_undoMany m_foundMan m_foundHours m_foundIs m_foundMany m_row m_best) h) [(1, .int t)] 87 [] Ψ) ?_ N s0 t hf K
  intro s r hf hP hK
  obtain ⟨v1, v2, v3⟩ := s
  change b_X7_two_1 N m_many m_sees v1 v2 v3 = some r at hf
  unfold b_X7_two_1 at hf
  show Ev γ M_X7_two (0, 0) n (put 93 (mdB γ 93 m_thrown m_trace m_text m_typed m_next m_token m_place m_value m_fault m_many m_sees m_cold m_first m_told m_s m_w m_kept m_isKept m_undos m_undoMany m_foundMan m_foundHours m_foundIs m_foundMany m_row m_best) h) [(0, .ref (gB γ + 93)), (1, .int v1), (2, .int v2), (3, .int v3)] 12 [] Ψ
  refine E_iload_n 3 dX7_two_12 (q := 13) rfl rfl rfl ?_
  refine E_aload_n 0 dX7_two_13 (q := 14) rfl rfl rfl ?_
  have hF4 : Has n 93 (mdB γ 93 m_thrown m_trace m_text m_typed m_next m_token m_place m_value m_fault m_many m_sees m_cold m_first m_told m_s m_w m_kept m_isKept m_undos m_undoMany m_foundMan m_foundHours m_foundIs m_foundMany m_row m_best) (put 93 (mdB γ 93 m_thrown m_trace m_text m_typed m_next m_token m_place m_value m_fault m_many m_sees m_cold m_first m_told m_s m_w m_kept m_isKept m_undos m_undoMany m_foundMan m_foundHours m_foundIs m_foundMany m_row m_best) h) := (has_put hn_m)
  refine E_get 9 dX7_two_14 (q := 17) rfl ckX7 (Nat.le_of_ble_eq_true rfl) fl_X7_13 (hF4.at 0 rfl) (hF4.lt 0 (Nat.le_of_ble_eq_true rfl)) rfl ?_
  refine E_iconst (x := 0) dX7_two_17 (q := 18) rfl (by decide) ?_
  refine E_iald dX7_two_18 (q := 19) rfl (hF4.at 2 rfl) (hF4.lt 2 (Nat.le_of_ble_eq_true rfl)) (by decide +kernel) ?_
  refine E_icmp_ge dX7_two_19 (t := 87) (by decide) (q := 22) rfl (fun c5 => ?_) (fun c5 => ?_)
  · have hf := if_t c5 hf
    exact E_sub [1] rfl (hK _ (Option.some.inj hf).symm)
  · have hf := if_f c5 hf
    refine E_aload_n 0 dX7_two_22 (q := 23) rfl rfl rfl ?_
    refine E_get 10 dX7_two_23 (q := 26) rfl ckX7 (Nat.le_of_ble_eq_true rfl) fl_X7_16 (hF4.at 0 rfl) (hF4.lt 0 (Nat.le_of_ble_eq_true rfl)) rfl ?_
    refine E_iload_n 3 dX7_two_26 (q := 27) rfl rfl rfl ?_
    obtain ⟨g6, hf⟩ := gd hf
    refine E_iald dX7_two_27 (q := 28) rfl (hF4.at 3 rfl) (hF4.lt 3 (Nat.le_of_ble_eq_true rfl)) g6 ?_
    refine E_aload_n 0 dX7_two_28 (q := 29) rfl rfl rfl ?_
    refine E_iconst (x := 1) dX7_two_29 (q := 30) rfl (by decide) ?_
    refine E_aload_n 0 dX7_two_30 (q := 31) rfl rfl rfl ?_
    refine E_get 9 dX7_two_31 (q := 34) rfl ckX7 (Nat.le_of_ble_eq_true rfl) fl_X7_13 (hF4.at 0 rfl) (hF4.lt 0 (Nat.le_of_ble_eq_true rfl)) rfl ?_
    refine E_iconst (x := 0) dX7_two_34 (q := 35) rfl (by decide) ?_
    refine E_iald dX7_two_35 (q := 36) rfl (hF4.at 2 rfl) (hF4.lt 2 (Nat.le_of_ble_eq_true rfl)) (by decide +kernel) ?_
    refine E_ishl dX7_two_36 (q := 37) rfl ?_
    refine E_iconst (x := 1) dX7_two_37 (q := 38) rfl (by decide) ?_
    refine E_isub dX7_two_38 (q := 39) rfl ?_
    refine E_iconst (x := 1) dX7_two_39 (q := 40) rfl (by decide) ?_
    refine E_iload_n 3 dX7_two_40 (q := 41) rfl rfl rfl ?_
    refine E_ishl dX7_two_41 (q := 42) rfl ?_
    refine E_iconst (x := (-1)) dX7_two_42 (q := 43) rfl (by decide) ?_
    refine E_ixor dX7_two_43 (q := 44) rfl ?_
    refine E_iand dX7_two_44 (q := 45) rfl ?_
    obtain ⟨z7, hxz7, hf⟩ := bnd hf
    refine E_cV (as := [.int ((((1 : Int32) <<< ((m_many (ci 0)) &&& 31)) - 1) &&& (((1 : Int32) <<< (v3 &&& 31)) ^^^ (-1)))]) (k := 93) (rest := [.int (m_sees (ci v3))]) (u' := (0, 0)) (st' := [.int z7, .int (m_sees (ci v3))]) dX7_two_45 (q := 48) rfl lkm_X7_seenBy lkv_X7_182 (Nat.le_of_ble_eq_true rfl) ckX7 (hF4.at 0 rfl) (hF4.lt 0 (Nat.le_of_ble_eq_true rfl)) ⟨Nat.le_refl _, Nat.le_refl _⟩ (Nat.le_of_ble_eq_true rfl) rfl rfl (m_X7_seenBy (N := N)  hF4 hxz7) rfl rfl rfl ?_
    refine E_iconst (x := (-1)) dX7_two_48 (q := 49) rfl (by decide) ?_
    refine E_ixor dX7_two_49 (q := 50) rfl ?_
    refine E_iand dX7_two_50 (q := 51) rfl ?_
    obtain ⟨z8, hxz8, hf⟩ := bnd hf
    refine E_cS (as := [.int ((m_sees (ci v3)) &&& (z7 ^^^ (-1)))]) (rest := []) (u' := (0, 0)) (st' := [.int z8]) dX7_two_51 (q := 54) rfl lkm_X7_ones lks_X7_151 (Nat.le_of_ble_eq_true rfl) ⟨Nat.le_refl _, Nat.le_refl _⟩ (Nat.le_of_ble_eq_true rfl) rfl rfl (m_X7_ones (N := N)  hxz8) rfl rfl rfl ?_
    refine E_istore [(4, .int z8), (0, .ref (gB γ + 93)), (1, .int v1), (2, .int v2), (3, .int v3)] dX7_two_54 (q := 56) rfl (Nat.le_of_ble_eq_true rfl) rfl ?_
    refine E_iload 0 dX7_two_56 (q := 58) rfl rfl ?_
    refine E_iload_n 3 dX7_two_58 (q := 59) rfl rfl rfl ?_
    refine E_icmp_le dX7_two_59 (t := 66) (by decide) (q := 62) rfl (fun c9 => ?_) (fun c9 => ?_)
    · have hf := if_t c9 hf
      refine E_iload_n 2 dX7_two_66 (q := 67) rfl rfl rfl ?_
      refine E_istore_n [(1, .int v1), (4, .int z8), (0, .ref (gB γ + 93)), (2, .int v2), (3, .int v3)] dX7_two_67 (q := 68) rfl rfl (Nat.le_of_ble_eq_true rfl) rfl ?_
      refine E_iload 1 dX7_two_68 (q := 70) rfl rfl ?_
      refine E_iload_n 3 dX7_two_70 (q := 71) rfl rfl rfl ?_
      refine E_icmp_le dX7_two_71 (t := 79) (by decide) (q := 74) rfl (fun _ => ?_) (fun c => absurd c9 c)
      refine E_iload_n 3 dX7_two_79 (q := 80) rfl rfl rfl ?_
      refine E_istore_n [(2, .int v2), (1, .int v1), (4, .int z8), (0, .ref (gB γ + 93)), (3, .int v3)] dX7_two_80 (q := 81) rfl rfl (Nat.le_of_ble_eq_true rfl) rfl ?_
      refine E_iinc 4 [(3, .int (v3 + 1)), (2, .int v2), (1, .int v1), (4, .int z8), (0, .ref (gB γ + 93))] dX7_two_81 (q := 84) rfl rfl rfl (Nat.le_of_ble_eq_true rfl) rfl ?_
      refine E_goto (q := 12) dX7_two_84 (by decide) ?_
      exact E_sub [4, 2, 1, 0] rfl (hP _ (Option.some.inj hf).symm)
    · have hf := if_f c9 hf
      refine E_iload_n 4 dX7_two_62 (q := 63) rfl rfl rfl ?_
      refine E_goto (q := 67) dX7_two_63 (by decide) ?_
      refine E_istore_n [(1, .int v3), (4, .int z8), (0, .ref (gB γ + 93)), (2, .int v2), (3, .int v3)] dX7_two_67 (q := 68) rfl rfl (Nat.le_of_ble_eq_true rfl) rfl ?_
      refine E_iload 1 dX7_two_68 (q := 70) rfl rfl ?_
      refine E_iload_n 3 dX7_two_70 (q := 71) rfl rfl rfl ?_
      refine E_icmp_le dX7_two_71 (t := 79) (by decide) (q := 74) rfl (fun c => absurd c c9) (fun _ => ?_)
      refine E_iload 1 dX7_two_74 (q := 76) rfl rfl ?_
      refine E_goto (q := 80) dX7_two_76 (by decide) ?_
      refine E_istore_n [(2, .int z8), (1, .int v3), (4, .int z8), (0, .ref (gB γ + 93)), (3, .int v3)] dX7_two_80 (q := 81) rfl rfl (Nat.le_of_ble_eq_true rfl) rfl ?_
      refine E_iinc 4 [(3, .int (v3 + 1)), (2, .int z8), (1, .int v3), (4, .int z8), (0, .ref (gB γ + 93))] dX7_two_81 (q := 84) rfl rfl rfl (Nat.le_of_ble_eq_true rfl) rfl ?_
      refine E_goto (q := 12) dX7_two_84 (by decide) ?_
      exact E_sub [4, 2, 1, 0] rfl (hP _ (Option.some.inj hf).symm)
set_option maxHeartbeats 4000000 in
set_option maxRecDepth 100000 in
theorem m_X7_two {γ : GX} {n : Nat} {N : Nat} {h : HP} {m_thrown : Int32} {m_trace : Int64} {m_text : FN} {m_typed : Int32} {m_next : Int32} {m_token : Int32} {m_place : Int32} {m_value : Int32} {m_fault : Int32} {m_many : FN} {m_sees : FN} {m_cold : FN} {m_first : FN} {m_told : Int32} {m_s : FN} {m_w : FN} {m_kept : FN} {m_isKept : FN} {m_undos : FN} {m_undoMany : Int32} {m_foundMan : FN} {m_foundHours : FN} {m_foundIs : FN} {m_foundMany : Int32} {m_row : FN} {m_best : FN} (hH_m : Has n 93 (mdB γ 93 m_thrown m_trace m_text m_typed m_next m_token m_place m_value m_fault m_many m_sees m_cold m_first m_told m_s m_w m_kept m_isKept m_undos m_undoMany m_foundMan m_foundHours m_foundIs m_foundMany m_row m_best) h) {z : Int32 × Int32} (hf : f_X7_two N m_thrown m_many m_sees = some z)  : Ct γ M_X7_two n h [.ref (gB γ + 93)] (Done (some (.int z.1)) n (put 93 (mdB γ 93 z.2 m_trace m_text m_typed m_next m_token m_place m_value m_fault m_many m_sees m_cold m_first m_told m_s m_w m_kept m_isKept m_undos m_undoMany m_foundMan m_foundHours m_foundIs m_foundMany m_row m_best) h)) := by
  have hn_m : 93 + 16 ≤ n := hH_m.1
  refine Ct.heap (h := (put 93 (mdB γ 93 m_thrown m_trace m_text m_typed m_next m_token m_place m_value m_fault m_many m_sees m_cold m_first m_told m_s m_w m_kept m_isKept m_undos m_undoMany m_foundMan m_foundHours m_foundIs m_foundMany m_row m_best) h)) (put_self hH_m).symm ?_
  refine Ct_of_Ev (by decide) (fun h => by cases h) (Nat.le_of_ble_eq_true rfl) ?_
  show Ev γ M_X7_two (0, 0) n (put 93 (mdB γ 93 m_thrown m_trace m_text m_typed m_next m_token m_place m_value m_fault m_many m_sees m_cold m_first m_told m_s m_w m_kept m_isKept m_undos m_undoMany m_foundMan m_foundHours m_foundIs m_foundMany m_row m_best) h) [(0, .ref (gB γ + 93))] 0 [] _
  unfold f_X7_two at hf
  refine E_aload_n 0 dX7_two_0 (q := 1) rfl rfl rfl ?_
  refine E_iconst (x := 0) dX7_two_1 (q := 2) rfl (by decide) ?_
  have hF1 : Has n 93 (mdB γ 93 m_thrown m_trace m_text m_typed m_next m_token m_place m_value m_fault m_many m_sees m_cold m_first m_told m_s m_w m_kept m_isKept m_undos m_undoMany m_foundMan m_foundHours m_foundIs m_foundMany m_row m_best) (put 93 (mdB γ 93 m_thrown m_trace m_text m_typed m_next m_token m_place m_value m_fault m_many m_sees m_cold m_first m_told m_s m_w m_kept m_isKept m_undos m_undoMany m_foundMan m_foundHours m_foundIs m_foundMany m_row m_best) h) := (has_put hn_m)
  refine E_put 0 dX7_two_2 (q := 5) rfl ckX7 (Nat.le_of_ble_eq_true rfl) fl_X7_56 rfl rfl rfl (hF1.at 0 rfl) (hF1.lt 0 (Nat.le_of_ble_eq_true rfl)) (Nat.le_of_ble_eq_true rfl) (up_put (i := 0) (cs' := (mdB γ 93 0 m_trace m_text m_typed m_next m_token m_place m_value m_fault m_many m_sees m_cold m_first m_told m_s m_w m_kept m_isKept m_undos m_undoMany m_foundMan m_foundHours m_foundIs m_foundMany m_row m_best)) (Nat.le_of_ble_eq_true rfl) rfl) ?_
  refine E_bipush (x := (-9)) dX7_two_5 (q := 7) rfl (by decide) ?_
  refine E_istore_n [(1, .int (-9)), (0, .ref (gB γ + 93))] dX7_two_7 (q := 8) rfl rfl (Nat.le_of_ble_eq_true rfl) rfl ?_
  refine E_iconst (x := (-1)) dX7_two_8 (q := 9) rfl (by decide) ?_
  refine E_istore_n [(2, .int (-1)), (1, .int (-9)), (0, .ref (gB γ + 93))] dX7_two_9 (q := 10) rfl rfl (Nat.le_of_ble_eq_true rfl) rfl ?_
  refine E_iconst (x := 0) dX7_two_10 (q := 11) rfl (by decide) ?_
  refine E_istore_n [(3, .int 0), (2, .int (-1)), (1, .int (-9)), (0, .ref (gB γ + 93))] dX7_two_11 (q := 12) rfl rfl (Nat.le_of_ble_eq_true rfl) rfl ?_
  obtain ⟨t10, hxt10, hf⟩ := bnd hf
  refine E_sub [3, 2, 1, 0] rfl ?_
  refine L_X7_two_1 hn_m hxt10 ?_
  show Ev γ M_X7_two _ n (put 93 (mdB γ 93 0 m_trace m_text m_typed m_next m_token m_place m_value m_fault m_many m_sees m_cold m_first m_told m_s m_w m_kept m_isKept m_undos m_undoMany m_foundMan m_foundHours m_foundIs m_foundMany m_row m_best) h) [(1, .int t10)] 87 [] _
  refine E_iload_n 0 dX7_two_87 (q := 88) rfl rfl rfl ?_
  obtain rfl := Option.some.inj hf
  exact E_iret dX7_two_88 rfl ⟨rfl, rfl, rfl⟩

-- PostReliefModel.unseen(II)I
def b_X7_unseen_1 (N : Nat) (p1 : Int32) (p2 : Int32) (m_many : FN) (m_sees : FN) (m_cold : FN) (v3 : Int32) (v4 : Int32) (m_w : FN) : Option ((Int32 × Int32 × FN) ⊕ (Int32 × FN)) :=
  (if p2 ≤ v4 then some (.inr (v3, m_w)) else ((f_X7_goesBy N 0 m_many m_cold m_w).bind fun z12 => (if v3 = 0 then some (.inl (0, (v4 + 1), z12)) else ((f_X7_watchedIn_w N m_many m_sees z12).bind fun z17 => (if ((z17 >>> (p1 &&& 31)) &&& 1) = 0 then some (.inl (1, (v4 + 1), z12)) else some (.inl (0, (v4 + 1), z12)))))))
def f_X7_unseen (N : Nat) (a1 : Int32) (a2 : Int32) (m_thrown : Int32) (m_many : FN) (m_sees : FN) (m_cold : FN) (m_s : FN) (m_w : FN) : Option (Int32 × Int32 × FN) :=
  ((f_X7_isPost N a1 m_many).bind fun z3 => (if z3 = 0 then some ((-1), 0, m_w) else ((f_X7_in N a2 1 12).bind fun z6 => (if z6 = 0 then some ((-1), 0, m_w) else ((f_X7_asNow N m_s m_w).bind fun z8 => ((lp (fun s => b_X7_unseen_1 N a1 a2 m_many m_sees m_cold s.1 s.2.1 s.2.2) N (1, 0, z8)).bind fun t19 => (if t19.1 = 0 then some (0, 0, t19.2) else some (1, 0, t19.2))))))))
set_option maxHeartbeats 4000000 in
set_option maxRecDepth 100000 in
theorem L_X7_unseen_1 {γ : GX} {n : Nat} {h : HP} {Ψ : PS} {N : Nat} {p1 : Int32} {p2 : Int32} {m_thrown : Int32} {m_trace : Int64} {m_text : FN} {m_typed : Int32} {m_next : Int32} {m_token : Int32} {m_place : Int32} {m_value : Int32} {m_fault : Int32} {m_many : FN} {m_sees : FN} {m_cold : FN} {m_first : FN} {m_told : Int32} {m_s : FN} {m_kept : FN} {m_isKept : FN} {m_undos : FN} {m_undoMany : Int32} {m_foundMan : FN} {m_foundHours : FN} {m_foundIs : FN} {m_foundMany : Int32} {m_row : FN} {m_best : FN} (hn_m : 93 + 16 ≤ n) {s0 : Int32 × Int32 × FN} {t : Int32 × FN} (hf : lp (fun s => b_X7_unseen_1 N p1 p2 m_many m_sees m_cold s.1 s.2.1 s.2.2) N s0 = some t) (K : Ev γ M_X7_unseen (0, 0) n (put 93 (mdB γ 93 m_thrown m_trace m_text m_typed m_next m_token m_place m_value m_fault m_many m_sees m_cold m_first m_told m_s t.2 m_kept m_isKept m_undos m_undoMany m_foundMan m_foundHours m_foundIs m_foundMany m_row m_best) h) [(3, .int t.1)] 76 [] Ψ) : Ev γ M_X7_unseen (0, 0) n (put 93 (mdB γ 93 m_thrown m_trace m_text m_typed m_next m_token m_place m_value m_fault m_many m_sees m_cold m_first m_told m_s s0.2.2 m_kept m_isKept m_undos m_undoMany m_foundMan m_foundHours m_foundIs m_foundMany m_row m_best) h) [(0, .ref (gB γ + 93)), (1, .int p1), (2, .int p2), (3, .int s0.1), (4, .int s0.2.1)] 34 [] Ψ := by
  refine E_lp (P := fun s => Ev γ M_X7_unseen (0, 0) n (put 93 (mdB γ 93 m_thrown m_trace m_text m_typed m_next m_token m_place m_value m_fault m_many m_sees m_cold m_first m_told m_s s.2.2 m_kept m_isKept m_undos m_undoMany m_foundMan m_foundHours m_foundIs m_foundMany m_row m_best) h) [(0, .ref (gB γ + 93)), (1, .int p1), (2, .int p2), (3, .int s.1), (4, .int s.2.1)] 34 [] Ψ) (K := fun t => Ev γ M_X7_unseen (0, 0) n (put 93 (mdB γ 93 m_thrown m_trace m_text m_typed m_next m_token m_place m_value m_fault m_many m_sees m_cold m_first m_told m_s t.2 m_kept m_isKept m_undos m_undoMany m_foundMan m_foundHours m_foundIs m_foundMany m_row m_best) h) [(3, .int t.1)] 76 [] Ψ) ?_ N s0 t hf K
  intro s r hf hP hK
  obtain ⟨v3, v4, m_w⟩ := s
  change b_X7_unseen_1 N p1 p2 m_many m_sees m_cold v3 v4 m_w = some r at hf
  unfold b_X7_unseen_1 at hf
  show Ev γ M_X7_unseen (0, 0) n (put 93 (mdB γ 93 m_thrown m_trace m_text m_typed m_next m_token m_place m_value m_fault m_many m_sees m_cold m_first m_told m_s m_w m_kept m_isKept m_undos m_undoMany m_foundMan m_foundHours m_foundIs m_foundMany m_row m_best) h) [(0, .ref (gB γ + 93)), (1, .int p1), (2, .int p2), (3, .int v3), (4, .int v4)] 34 [] Ψ
  refine E_iload 4 dX7_unseen_34 (q := 36) rfl rfl ?_
  refine E_iload_n 2 dX7_unseen_36 (q := 37) rfl rfl rfl ?_
  refine E_icmp_ge dX7_unseen_37 (t := 76) (by decide) (q := 40) rfl (fun c11 => ?_) (fun c11 => ?_)
  · have hf := if_t c11 hf
    exact E_sub [3] rfl (hK _ (Option.some.inj hf).symm)
  · have hf := if_f c11 hf
    refine E_aload_n 0 dX7_unseen_40 (q := 41) rfl rfl rfl ?_
    refine E_iconst (x := 0) dX7_unseen_41 (q := 42) rfl (by decide) ?_
    obtain ⟨z12, hxz12, hf⟩ := bnd hf
    have hF13 : Has n 93 (mdB γ 93 m_thrown m_trace m_text m_typed m_next m_token m_place m_value m_fault m_many m_sees m_cold m_first m_told m_s m_w m_kept m_isKept m_undos m_undoMany m_foundMan m_foundHours m_foundIs m_foundMany m_row m_best) (put 93 (mdB γ 93 m_thrown m_trace m_text m_typed m_next m_token m_place m_value m_fault m_many m_sees m_cold m_first m_told m_s m_w m_kept m_isKept m_undos m_undoMany m_foundMan m_foundHours m_foundIs m_foundMany m_row m_best) h) := (has_put hn_m)
    refine E_cV (as := [.int 0]) (k := 93) (rest := []) (u' := (0, 0)) (st' := []) dX7_unseen_42 (q := 45) rfl lkm_X7_goesBy lkv_X7_168 (Nat.le_of_ble_eq_true rfl) ckX7 (hF13.at 0 rfl) (hF13.lt 0 (Nat.le_of_ble_eq_true rfl)) ⟨Nat.le_refl _, Nat.le_refl _⟩ (Nat.le_of_ble_eq_true rfl) rfl rfl (m_X7_goesBy (N := N)  hF13 hxz12) rfl rfl rfl ?_
    refine Ev.heap (put_put (k := 93) (cs := (mdB γ 93 m_thrown m_trace m_text m_typed m_next m_token m_place m_value m_fault m_many m_sees m_cold m_first m_told m_s m_w m_kept m_isKept m_undos m_undoMany m_foundMan m_foundHours m_foundIs m_foundMany m_row m_best)) (cs' := (mdB γ 93 m_thrown m_trace m_text m_typed m_next m_token m_place m_value m_fault m_many m_sees m_cold m_first m_told m_s z12 m_kept m_isKept m_undos m_undoMany m_foundMan m_foundHours m_foundIs m_foundMany m_row m_best)) (show (16 : Nat) = 16 from rfl)) ?_
    refine E_iload_n 3 dX7_unseen_45 (q := 46) rfl rfl rfl ?_
    refine E_if_eq dX7_unseen_46 (t := 68) (by decide) (q := 49) rfl (fun c15 => ?_) (fun c15 => ?_)
    · have hf := if_t c15 hf
      refine E_iconst (x := 0) dX7_unseen_68 (q := 69) rfl (by decide) ?_
      refine E_istore_n [(3, .int 0), (0, .ref (gB γ + 93)), (1, .int p1), (2, .int p2), (4, .int v4)] dX7_unseen_69 (q := 70) rfl rfl (Nat.le_of_ble_eq_true rfl) rfl ?_
      refine E_iinc 4 [(4, .int (v4 + 1)), (3, .int 0), (0, .ref (gB γ + 93)), (1, .int p1), (2, .int p2)] dX7_unseen_70 (q := 73) rfl rfl rfl (Nat.le_of_ble_eq_true rfl) rfl ?_
      refine E_goto (q := 34) dX7_unseen_73 (by decide) ?_
      exact E_sub [2, 3, 4, 1, 0] rfl (hP _ (Option.some.inj hf).symm)
    · have hf := if_f c15 hf
      refine E_aload_n 0 dX7_unseen_49 (q := 50) rfl rfl rfl ?_
      refine E_aload_n 0 dX7_unseen_50 (q := 51) rfl rfl rfl ?_
      have hF16 : Has n 93 (mdB γ 93 m_thrown m_trace m_text m_typed m_next m_token m_place m_value m_fault m_many m_sees m_cold m_first m_told m_s z12 m_kept m_isKept m_undos m_undoMany m_foundMan m_foundHours m_foundIs m_foundMany m_row m_best) (put 93 (mdB γ 93 m_thrown m_trace m_text m_typed m_next m_token m_place m_value m_fault m_many m_sees m_cold m_first m_told m_s z12 m_kept m_isKept m_undos m_undoMany m_foundMan m_foundHours m_foundIs m_foundMany m_row m_best) h) := (has_put hn_m)
      refine E_get 15 dX7_unseen_51 (q := 54) rfl ckX7 (Nat.le_of_ble_eq_true rfl) fl_X7_28 (hF16.at 0 rfl) (hF16.lt 0 (Nat.le_of_ble_eq_true rfl)) rfl ?_
      obtain ⟨z17, hxz17, hf⟩ := bnd hf
      refine E_cV (as := [.ref (gB γ + (93 + 7))]) (k := 93) (rest := []) (u' := (0, 0)) (st' := [.int z17]) dX7_unseen_54 (q := 57) rfl lkm_X7_watchedIn lkv_X7_145 (Nat.le_of_ble_eq_true rfl) ckX7 (hF16.at 0 rfl) (hF16.lt 0 (Nat.le_of_ble_eq_true rfl)) ⟨Nat.le_refl _, Nat.le_refl _⟩ (Nat.le_of_ble_eq_true rfl) rfl rfl (m_X7_watchedIn_w (N := N)  hF16 hxz17) rfl rfl rfl ?_
      refine E_iload_n 1 dX7_unseen_57 (q := 58) rfl rfl rfl ?_
      refine E_ishr dX7_unseen_58 (q := 59) rfl ?_
      refine E_iconst (x := 1) dX7_unseen_59 (q := 60) rfl (by decide) ?_
      refine E_iand dX7_unseen_60 (q := 61) rfl ?_
      refine E_if_ne dX7_unseen_61 (t := 68) (by decide) (q := 64) rfl (fun c18 => ?_) (fun c18 => ?_)
      · have hf := if_f c18 hf
        refine E_iconst (x := 0) dX7_unseen_68 (q := 69) rfl (by decide) ?_
        refine E_istore_n [(3, .int 0), (0, .ref (gB γ + 93)), (1, .int p1), (2, .int p2), (4, .int v4)] dX7_unseen_69 (q := 70) rfl rfl (Nat.le_of_ble_eq_true rfl) rfl ?_
        refine E_iinc 4 [(4, .int (v4 + 1)), (3, .int 0), (0, .ref (gB γ + 93)), (1, .int p1), (2, .int p2)] dX7_unseen_70 (q := 73) rfl rfl rfl (Nat.le_of_ble_eq_true rfl) rfl ?_
        refine E_goto (q := 34) dX7_unseen_73 (by decide) ?_
        exact E_sub [2, 3, 4, 1, 0] rfl (hP _ (Option.some.inj hf).symm)
      · have hf := if_t c18 hf
        refine E_iconst (x := 1) dX7_unseen_64 (q := 65) rfl (by decide) ?_
        refine E_goto (q := 69) dX7_unseen_65 (by decide) ?_
        refine E_istore_n [(3, .int 1), (0, .ref (gB γ + 93)), (1, .int p1), (2, .int p2), (4, .int v4)] dX7_unseen_69 (q := 70) rfl rfl (Nat.le_of_ble_eq_true rfl) rfl ?_
        refine E_iinc 4 [(4, .int (v4 + 1)), (3, .int 1), (0, .ref (gB γ + 93)), (1, .int p1), (2, .int p2)] dX7_unseen_70 (q := 73) rfl rfl rfl (Nat.le_of_ble_eq_true rfl) rfl ?_
        refine E_goto (q := 34) dX7_unseen_73 (by decide) ?_
        exact E_sub [2, 3, 4, 1, 0] rfl (hP _ (Option.some.inj hf).symm)
set_option maxHeartbeats 4000000 in
set_option maxRecDepth 100000 in
theorem m_X7_unseen {γ : GX} {n : Nat} {N : Nat} {h : HP} {a1 : Int32} {a2 : Int32} {m_thrown : Int32} {m_trace : Int64} {m_text : FN} {m_typed : Int32} {m_next : Int32} {m_token : Int32} {m_place : Int32} {m_value : Int32} {m_fault : Int32} {m_many : FN} {m_sees : FN} {m_cold : FN} {m_first : FN} {m_told : Int32} {m_s : FN} {m_w : FN} {m_kept : FN} {m_isKept : FN} {m_undos : FN} {m_undoMany : Int32} {m_foundMan : FN} {m_foundHours : FN} {m_foundIs : FN} {m_foundMany : Int32} {m_row : FN} {m_best : FN} (hH_m : Has n 93 (mdB γ 93 m_thrown m_trace m_text m_typed m_next m_token m_place m_value m_fault m_many m_sees m_cold m_first m_told m_s m_w m_kept m_isKept m_undos m_undoMany m_foundMan m_foundHours m_foundIs m_foundMany m_row m_best) h) {z : Int32 × Int32 × FN} (hf : f_X7_unseen N a1 a2 m_thrown m_many m_sees m_cold m_s m_w = some z)  : Ct γ M_X7_unseen n h [.ref (gB γ + 93), .int a1, .int a2] (Done (some (.int z.1)) n (put 93 (mdB γ 93 z.2.1 m_trace m_text m_typed m_next m_token m_place m_value m_fault m_many m_sees m_cold m_first m_told m_s z.2.2 m_kept m_isKept m_undos m_undoMany m_foundMan m_foundHours m_foundIs m_foundMany m_row m_best) h)) := by
  have hn_m : 93 + 16 ≤ n := hH_m.1
  refine Ct.heap (h := (put 93 (mdB γ 93 m_thrown m_trace m_text m_typed m_next m_token m_place m_value m_fault m_many m_sees m_cold m_first m_told m_s m_w m_kept m_isKept m_undos m_undoMany m_foundMan m_foundHours m_foundIs m_foundMany m_row m_best) h)) (put_self hH_m).symm ?_
  refine Ct_of_Ev (by decide) (fun h => by cases h) (Nat.le_of_ble_eq_true rfl) ?_
  show Ev γ M_X7_unseen (0, 0) n (put 93 (mdB γ 93 m_thrown m_trace m_text m_typed m_next m_token m_place m_value m_fault m_many m_sees m_cold m_first m_told m_s m_w m_kept m_isKept m_undos m_undoMany m_foundMan m_foundHours m_foundIs m_foundMany m_row m_best) h) [(0, .ref (gB γ + 93)), (1, .int a1), (2, .int a2)] 0 [] _
  unfold f_X7_unseen at hf
  refine E_aload_n 0 dX7_unseen_0 (q := 1) rfl rfl rfl ?_
  refine E_iconst (x := 0) dX7_unseen_1 (q := 2) rfl (by decide) ?_
  have hF1 : Has n 93 (mdB γ 93 m_thrown m_trace m_text m_typed m_next m_token m_place m_value m_fault m_many m_sees m_cold m_first m_told m_s m_w m_kept m_isKept m_undos m_undoMany m_foundMan m_foundHours m_foundIs m_foundMany m_row m_best) (put 93 (mdB γ 93 m_thrown m_trace m_text m_typed m_next m_token m_place m_value m_fault m_many m_sees m_cold m_first m_told m_s m_w m_kept m_isKept m_undos m_undoMany m_foundMan m_foundHours m_foundIs m_foundMany m_row m_best) h) := (has_put hn_m)
  refine E_put 0 dX7_unseen_2 (q := 5) rfl ckX7 (Nat.le_of_ble_eq_true rfl) fl_X7_56 rfl rfl rfl (hF1.at 0 rfl) (hF1.lt 0 (Nat.le_of_ble_eq_true rfl)) (Nat.le_of_ble_eq_true rfl) (up_put (i := 0) (cs' := (mdB γ 93 0 m_trace m_text m_typed m_next m_token m_place m_value m_fault m_many m_sees m_cold m_first m_told m_s m_w m_kept m_isKept m_undos m_undoMany m_foundMan m_foundHours m_foundIs m_foundMany m_row m_best)) (Nat.le_of_ble_eq_true rfl) rfl) ?_
  refine E_aload_n 0 dX7_unseen_5 (q := 6) rfl rfl rfl ?_
  refine E_iload_n 1 dX7_unseen_6 (q := 7) rfl rfl rfl ?_
  obtain ⟨z3, hxz3, hf⟩ := bnd hf
  have hF4 : Has n 93 (mdB γ 93 0 m_trace m_text m_typed m_next m_token m_place m_value m_fault m_many m_sees m_cold m_first m_told m_s m_w m_kept m_isKept m_undos m_undoMany m_foundMan m_foundHours m_foundIs m_foundMany m_row m_best) (put 93 (mdB γ 93 0 m_trace m_text m_typed m_next m_token m_place m_value m_fault m_many m_sees m_cold m_first m_told m_s m_w m_kept m_isKept m_undos m_undoMany m_foundMan m_foundHours m_foundIs m_foundMany m_row m_best) h) := (has_put hn_m)
  refine E_cV (as := [.int a1]) (k := 93) (rest := []) (u' := (0, 0)) (st' := [.int z3]) dX7_unseen_7 (q := 10) rfl lkm_X7_isPost lkv_X7_120 (Nat.le_of_ble_eq_true rfl) ckX7 (hF4.at 0 rfl) (hF4.lt 0 (Nat.le_of_ble_eq_true rfl)) ⟨Nat.le_refl _, Nat.le_refl _⟩ (Nat.le_of_ble_eq_true rfl) rfl rfl (m_X7_isPost (N := N)  hF4 hxz3) rfl rfl rfl ?_
  refine E_if_eq dX7_unseen_10 (t := 23) (by decide) (q := 13) rfl (fun c5 => ?_) (fun c5 => ?_)
  · have hf := if_t c5 hf
    refine E_iconst (x := (-1)) dX7_unseen_23 (q := 24) rfl (by decide) ?_
    obtain rfl := Option.some.inj hf
    exact E_iret dX7_unseen_24 rfl ⟨rfl, rfl, rfl⟩
  · have hf := if_f c5 hf
    refine E_iload_n 2 dX7_unseen_13 (q := 14) rfl rfl rfl ?_
    refine E_iconst (x := 1) dX7_unseen_14 (q := 15) rfl (by decide) ?_
    refine E_bipush (x := 12) dX7_unseen_15 (q := 17) rfl (by decide) ?_
    obtain ⟨z6, hxz6, hf⟩ := bnd hf
    refine E_cS (as := [.int a2, .int 1, .int 12]) (rest := []) (u' := (0, 0)) (st' := [.int z6]) dX7_unseen_17 (q := 20) rfl lkm_X7_in lks_X7_60 (Nat.le_of_ble_eq_true rfl) ⟨Nat.le_refl _, Nat.le_refl _⟩ (Nat.le_of_ble_eq_true rfl) rfl rfl (m_X7_in (N := N)  hxz6) rfl rfl rfl ?_
    refine E_if_ne dX7_unseen_20 (t := 25) (by decide) (q := 23) rfl (fun c7 => ?_) (fun c7 => ?_)
    · have hf := if_f c7 hf
      refine E_aload_n 0 dX7_unseen_25 (q := 26) rfl rfl rfl ?_
      obtain ⟨z8, hxz8, hf⟩ := bnd hf
      refine E_cV (as := []) (k := 93) (rest := []) (u' := (0, 0)) (st' := []) dX7_unseen_26 (q := 29) rfl lkm_X7_asNow lkv_X7_165 (Nat.le_of_ble_eq_true rfl) ckX7 (hF4.at 0 rfl) (hF4.lt 0 (Nat.le_of_ble_eq_true rfl)) ⟨Nat.le_refl _, Nat.le_refl _⟩ (Nat.le_of_ble_eq_true rfl) rfl rfl (m_X7_asNow (N := N)  hF4 hxz8) rfl rfl rfl ?_
      refine Ev.heap (put_put (k := 93) (cs := (mdB γ 93 0 m_trace m_text m_typed m_next m_token m_place m_value m_fault m_many m_sees m_cold m_first m_told m_s m_w m_kept m_isKept m_undos m_undoMany m_foundMan m_foundHours m_foundIs m_foundMany m_row m_best)) (cs' := (mdB γ 93 0 m_trace m_text m_typed m_next m_token m_place m_value m_fault m_many m_sees m_cold m_first m_told m_s z8 m_kept m_isKept m_undos m_undoMany m_foundMan m_foundHours m_foundIs m_foundMany m_row m_best)) (show (16 : Nat) = 16 from rfl)) ?_
      refine E_iconst (x := 1) dX7_unseen_29 (q := 30) rfl (by decide) ?_
      refine E_istore_n [(3, .int 1), (0, .ref (gB γ + 93)), (1, .int a1), (2, .int a2)] dX7_unseen_30 (q := 31) rfl rfl (Nat.le_of_ble_eq_true rfl) rfl ?_
      refine E_iconst (x := 0) dX7_unseen_31 (q := 32) rfl (by decide) ?_
      refine E_istore [(4, .int 0), (3, .int 1), (0, .ref (gB γ + 93)), (1, .int a1), (2, .int a2)] dX7_unseen_32 (q := 34) rfl (Nat.le_of_ble_eq_true rfl) rfl ?_
      obtain ⟨t19, hxt19, hf⟩ := bnd hf
      refine E_sub [2, 3, 4, 1, 0] rfl ?_
      refine L_X7_unseen_1 hn_m hxt19 ?_
      show Ev γ M_X7_unseen _ n (put 93 (mdB γ 93 0 m_trace m_text m_typed m_next m_token m_place m_value m_fault m_many m_sees m_cold m_first m_told m_s t19.2 m_kept m_isKept m_undos m_undoMany m_foundMan m_foundHours m_foundIs m_foundMany m_row m_best) h) [(3, .int t19.1)] 76 [] _
      refine E_iload_n 0 dX7_unseen_76 (q := 77) rfl rfl rfl ?_
      refine E_if_eq dX7_unseen_77 (t := 84) (by decide) (q := 80) rfl (fun c21 => ?_) (fun c21 => ?_)
      · have hf := if_t c21 hf
        refine E_iconst (x := 0) dX7_unseen_84 (q := 85) rfl (by decide) ?_
        obtain rfl := Option.some.inj hf
        exact E_iret dX7_unseen_85 rfl ⟨rfl, rfl, rfl⟩
      · have hf := if_f c21 hf
        refine E_iconst (x := 1) dX7_unseen_80 (q := 81) rfl (by decide) ?_
        refine E_goto (q := 85) dX7_unseen_81 (by decide) ?_
        obtain rfl := Option.some.inj hf
        exact E_iret dX7_unseen_85 rfl ⟨rfl, rfl, rfl⟩
    · have hf := if_t c7 hf
      refine E_iconst (x := (-1)) dX7_unseen_23 (q := 24) rfl (by decide) ?_
      obtain rfl := Option.some.inj hf
      exact E_iret dX7_unseen_24 rfl ⟨rfl, rfl, rfl⟩
