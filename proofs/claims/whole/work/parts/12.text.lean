def M_X4_take : MI := (yX4_take, cX4_take, 2, (some .boolean), false, 1, 0, 0)
theorem lkm_X4_take : LkM M_X4_take 1 := ⟨(lg_mem 51 (by decide +kernel) rfl), (lg_mem 290 (by decide +kernel) rfl), ⟨by decide, by decide, by decide +kernel⟩, (Nat.le_of_ble_eq_true rfl)⟩
def M_X4_isDigit : MI := (yX4_isDigit, cX4_isDigit, 1, (some .boolean), false, 1, 0, 0)
theorem lkm_X4_isDigit : LkM M_X4_isDigit 1 := ⟨(lg_mem 51 (by decide +kernel) rfl), (lg_mem 313 (by decide +kernel) rfl), ⟨by decide, by decide, by decide +kernel⟩, (Nat.le_of_ble_eq_true rfl)⟩
def M_X4_takeNumber : MI := (yX4_takeNumber, cX4_takeNumber, 2, none, false, 2, 0, 0)
theorem lkm_X4_takeNumber : LkM M_X4_takeNumber 0 := ⟨(lg_mem 51 (by decide +kernel) rfl), (lg_mem 317 (by decide +kernel) rfl), ⟨by decide, by decide, by decide +kernel⟩, (Nat.le_of_ble_eq_true rfl)⟩
def M_X4_nextToken : MI := (yX4_nextToken, cX4_nextToken, 1, none, false, 3, 0, 0)
theorem lkm_X4_nextToken : LkM M_X4_nextToken 0 := ⟨(lg_mem 51 (by decide +kernel) rfl), (lg_mem 310 (by decide +kernel) rfl), ⟨by decide, by decide, by decide +kernel⟩, (Nat.le_of_ble_eq_true rfl)⟩
def M_X4_readEnd : MI := (yX4_readEnd, cX4_readEnd, 1, (some .boolean), false, 4, 0, 0)
theorem lkm_X4_readEnd : LkM M_X4_readEnd 0 := ⟨(lg_mem 51 (by decide +kernel) rfl), (lg_mem 336 (by decide +kernel) rfl), ⟨by decide, by decide, by decide +kernel⟩, (Nat.le_of_ble_eq_true rfl)⟩
def M_X4_readNumber : MI := (yX4_readNumber, cX4_readNumber, 3, (some .boolean), false, 4, 0, 0)
theorem lkm_X4_readNumber : LkM M_X4_readNumber 2 := ⟨(lg_mem 51 (by decide +kernel) rfl), (lg_mem 332 (by decide +kernel) rfl), ⟨by decide, by decide, by decide +kernel⟩, (Nat.le_of_ble_eq_true rfl)⟩
def M_X4_readPost : MI := (yX4_readPost, cX4_readPost, 2, (some .boolean), false, 5, 0, 0)
theorem lkm_X4_readPost : LkM M_X4_readPost 1 := ⟨(lg_mem 51 (by decide +kernel) rfl), (lg_mem 328 (by decide +kernel) rfl), ⟨by decide, by decide, by decide +kernel⟩, (Nat.le_of_ble_eq_true rfl)⟩
def M_X4_readMan : MI := (yX4_readMan, cX4_readMan, 2, (some .boolean), false, 5, 0, 0)
theorem lkm_X4_readMan : LkM M_X4_readMan 1 := ⟨(lg_mem 51 (by decide +kernel) rfl), (lg_mem 340 (by decide +kernel) rfl), ⟨by decide, by decide, by decide +kernel⟩, (Nat.le_of_ble_eq_true rfl)⟩
def M_X4_readOn : MI := (yX4_readOn, cX4_readOn, 2, (some .boolean), false, 5, 0, 0)
theorem lkm_X4_readOn : LkM M_X4_readOn 1 := ⟨(lg_mem 51 (by decide +kernel) rfl), (lg_mem 344 (by decide +kernel) rfl), ⟨by decide, by decide, by decide +kernel⟩, (Nat.le_of_ble_eq_true rfl)⟩
def M_X4_readStove : MI := (yX4_readStove, cX4_readStove, 2, (some .boolean), false, 5, 0, 0)
theorem lkm_X4_readStove : LkM M_X4_readStove 1 := ⟨(lg_mem 51 (by decide +kernel) rfl), (lg_mem 348 (by decide +kernel) rfl), ⟨by decide, by decide, by decide +kernel⟩, (Nat.le_of_ble_eq_true rfl)⟩
def M_X4_readItem : MI := (yX4_readItem, cX4_readItem, 2, (some .boolean), false, 6, 0, 0)
theorem lkm_X4_readItem : LkM M_X4_readItem 1 := ⟨(lg_mem 51 (by decide +kernel) rfl), (lg_mem 324 (by decide +kernel) rfl), ⟨by decide, by decide, by decide +kernel⟩, (Nat.le_of_ble_eq_true rfl)⟩
def M_X4_readInto : MI := (yX4_readInto, cX4_readInto, 3, (some .int), false, 7, 0, 0)
theorem lkm_X4_readInto : LkM M_X4_readInto 1 := ⟨(lg_mem 51 (by decide +kernel) rfl), (lg_mem 302 (by decide +kernel) rfl), ⟨by decide, by decide, by decide +kernel⟩, (Nat.le_of_ble_eq_true rfl)⟩
theorem fl_X4_15 : Cond.fieldLink RX4 15 (TX4 1).1 (TX4 1).2.1 (TX4 1).2.2.1 ∈ lw_good := (lg_mem 77 (by decide +kernel) rfl)
theorem fl_X4_9 : Cond.fieldLink RX4 9 (TX4 0).1 (TX4 0).2.1 (TX4 0).2.2.1 ∈ lw_good := (lg_mem 76 (by decide +kernel) rfl)
theorem fl_X4_69 : Cond.fieldLink RX4 69 (TX4 5).1 (TX4 5).2.1 (TX4 5).2.2.1 ∈ lw_good := (lg_mem 82 (by decide +kernel) rfl)
theorem fl_X4_31 : Cond.fieldLink RX4 31 (TX4 2).1 (TX4 2).2.1 (TX4 2).2.2.1 ∈ lw_good := (lg_mem 79 (by decide +kernel) rfl)
theorem lkmin_X4_98 : Cond.methodLink RX4 98 Lib.Math.min.name ∈ lw_good := (lg_mem 318 (by decide +kernel) rfl)
theorem fl_X4_44 : Cond.fieldLink RX4 44 (TX4 3).1 (TX4 3).2.1 (TX4 3).2.2.1 ∈ lw_good := (lg_mem 80 (by decide +kernel) rfl)
theorem fl_X4_37 : Cond.fieldLink RX4 37 (TX4 4).1 (TX4 4).2.1 (TX4 4).2.2.1 ∈ lw_good := (lg_mem 81 (by decide +kernel) rfl)
theorem lks_X4_91 : LkS RX4 91 M_X4_isDigit := ⟨(lg_mem 311 (by decide +kernel) rfl), (lg_mem 312 (by decide +kernel) rfl)⟩
theorem lkv_X4_95 : LkV RX4 95 M_X4_takeNumber := ⟨(lg_mem 314 (by decide +kernel) rfl), (lg_mem 316 (by decide +kernel) rfl), (lg_mem 1 (by decide +kernel) rfl)⟩
theorem lkv_X4_34 : LkV RX4 34 M_X4_nextToken := ⟨(lg_mem 307 (by decide +kernel) rfl), (lg_mem 309 (by decide +kernel) rfl), (lg_mem 0 (by decide +kernel) rfl)⟩
theorem fl_X4_59 : Cond.fieldLink RX4 59 (TX0 0).1 (TX0 0).2.1 (TX0 0).2.2.1 ∈ lw_good := (lg_mem 111 (by decide +kernel) rfl)
theorem fl_X4_66 : Cond.fieldLink RX4 66 (TX0 1).1 (TX0 1).2.1 (TX0 1).2.2.1 ∈ lw_good := (lg_mem 115 (by decide +kernel) rfl)
theorem fl_X4_72 : Cond.fieldLink RX4 72 (TX0 2).1 (TX0 2).2.1 (TX0 2).2.2.1 ∈ lw_good := (lg_mem 117 (by decide +kernel) rfl)
theorem lkv_X4_62 : LkV RX4 62 M_X4_readNumber := ⟨(lg_mem 329 (by decide +kernel) rfl), (lg_mem 331 (by decide +kernel) rfl), (lg_mem 4 (by decide +kernel) rfl)⟩
theorem lkv_X4_75 : LkV RX4 75 M_X4_readEnd := ⟨(lg_mem 333 (by decide +kernel) rfl), (lg_mem 335 (by decide +kernel) rfl), (lg_mem 5 (by decide +kernel) rfl)⟩
theorem fl_X4_79 : Cond.fieldLink RX4 79 (TX0 3).1 (TX0 3).2.1 (TX0 3).2.2.1 ∈ lw_good := (lg_mem 122 (by decide +kernel) rfl)
theorem fl_X4_82 : Cond.fieldLink RX4 82 (TX0 4).1 (TX0 4).2.1 (TX0 4).2.2.1 ∈ lw_good := (lg_mem 127 (by decide +kernel) rfl)
theorem fl_X4_24 : Cond.fieldLink RX4 24 (TX4 6).1 (TX4 6).2.1 (TX4 6).2.2.1 ∈ lw_good := (lg_mem 83 (by decide +kernel) rfl)
theorem fl_X4_85 : Cond.fieldLink RX4 85 (TX0 5).1 (TX0 5).2.1 (TX0 5).2.2.1 ∈ lw_good := (lg_mem 130 (by decide +kernel) rfl)
theorem fl_X4_28 : Cond.fieldLink RX4 28 (TX4 7).1 (TX4 7).2.1 (TX4 7).2.2.1 ∈ lw_good := (lg_mem 84 (by decide +kernel) rfl)
theorem fl_X4_88 : Cond.fieldLink RX4 88 (TX0 6).1 (TX0 6).2.1 (TX0 6).2.2.1 ∈ lw_good := (lg_mem 134 (by decide +kernel) rfl)
theorem lkv_X4_50 : LkV RX4 50 M_X4_readMan := ⟨(lg_mem 337 (by decide +kernel) rfl), (lg_mem 339 (by decide +kernel) rfl), (lg_mem 6 (by decide +kernel) rfl)⟩
theorem lkv_X4_53 : LkV RX4 53 M_X4_readOn := ⟨(lg_mem 341 (by decide +kernel) rfl), (lg_mem 343 (by decide +kernel) rfl), (lg_mem 7 (by decide +kernel) rfl)⟩
theorem lkv_X4_47 : LkV RX4 47 M_X4_readPost := ⟨(lg_mem 325 (by decide +kernel) rfl), (lg_mem 327 (by decide +kernel) rfl), (lg_mem 3 (by decide +kernel) rfl)⟩
theorem lkv_X4_56 : LkV RX4 56 M_X4_readStove := ⟨(lg_mem 345 (by decide +kernel) rfl), (lg_mem 347 (by decide +kernel) rfl), (lg_mem 8 (by decide +kernel) rfl)⟩
theorem lkv_X4_19 : LkV RX4 19 M_X0_empty := ⟨(lg_mem 303 (by decide +kernel) rfl), (lg_mem 304 (by decide +kernel) rfl), (lg_mem 305 (by decide +kernel) rfl)⟩
theorem lkv_X4_40 : LkV RX4 40 M_X4_readItem := ⟨(lg_mem 321 (by decide +kernel) rfl), (lg_mem 323 (by decide +kernel) rfl), (lg_mem 2 (by decide +kernel) rfl)⟩
-- PostRelief$Text.take(I)Z
def f_X4_take (N : Nat) (a1 : Int32) (t_letters : FN) (t_length : Int32) : Option (Int32 × FN × Int32) :=
  (if t_length < 200 then (if ix t_length 200 = true then some (1, (upd t_letters (ci t_length) a1), (t_length + 1)) else none) else some (0, t_letters, t_length))
set_option maxHeartbeats 4000000 in
set_option maxRecDepth 100000 in
theorem m_X4_take {γ : GX} {n : Nat} {N : Nat} {h : HP} {a1 : Int32} {t_letters : FN} {t_length : Int32} {t_at : Int32} {t_start : Int32} {t_token : Int32} {t_value : Int32} {t_onTold : Int32} {t_stoveTold : Int32} (hH_t : Has n 1 (txB γ 1 t_letters t_length t_at t_start t_token t_value t_onTold t_stoveTold) h) {z : Int32 × FN × Int32} (hf : f_X4_take N a1 t_letters t_length = some z)  : Ct γ M_X4_take n h [.ref (gB γ + 1), .int a1] (Done (some (.int z.1)) n (put 1 (txB γ 1 z.2.1 z.2.2 t_at t_start t_token t_value t_onTold t_stoveTold) h)) := by
  have hn_t : 1 + 2 ≤ n := hH_t.1
  refine Ct.heap (h := (put 1 (txB γ 1 t_letters t_length t_at t_start t_token t_value t_onTold t_stoveTold) h)) (put_self hH_t).symm ?_
  refine Ct_of_Ev (by decide) (fun h => by cases h) (Nat.le_of_ble_eq_true rfl) ?_
  show Ev γ M_X4_take (0, 0) n (put 1 (txB γ 1 t_letters t_length t_at t_start t_token t_value t_onTold t_stoveTold) h) [(0, .ref (gB γ + 1)), (1, .int a1)] 0 [] _
  unfold f_X4_take at hf
  refine E_aload_n 0 dX4_take_0 (q := 1) rfl rfl rfl ?_
  have hF1 : Has n 1 (txB γ 1 t_letters t_length t_at t_start t_token t_value t_onTold t_stoveTold) (put 1 (txB γ 1 t_letters t_length t_at t_start t_token t_value t_onTold t_stoveTold) h) := (has_put hn_t)
  refine E_get 1 dX4_take_1 (q := 4) rfl ckX4 (Nat.le_of_ble_eq_true rfl) fl_X4_15 (hF1.at 0 rfl) (hF1.lt 0 (Nat.le_of_ble_eq_true rfl)) rfl ?_
  refine E_sipush (x := 200) dX4_take_4 (q := 7) rfl (by decide) ?_
  refine E_icmp_lt dX4_take_7 (t := 12) (by decide) (q := 10) rfl (fun c2 => ?_) (fun c2 => ?_)
  · have hf := if_t c2 hf
    refine E_aload_n 0 dX4_take_12 (q := 13) rfl rfl rfl ?_
    refine E_get 0 dX4_take_13 (q := 16) rfl ckX4 (Nat.le_of_ble_eq_true rfl) fl_X4_9 (hF1.at 0 rfl) (hF1.lt 0 (Nat.le_of_ble_eq_true rfl)) rfl ?_
    refine E_aload_n 0 dX4_take_16 (q := 17) rfl rfl rfl ?_
    refine E_get 1 dX4_take_17 (q := 20) rfl ckX4 (Nat.le_of_ble_eq_true rfl) fl_X4_15 (hF1.at 0 rfl) (hF1.lt 0 (Nat.le_of_ble_eq_true rfl)) rfl ?_
    refine E_iload_n 1 dX4_take_20 (q := 21) rfl rfl rfl ?_
    obtain ⟨g3, hf⟩ := gd hf
    refine E_iast dX4_take_21 (q := 22) rfl (hF1.at 1 rfl) (hF1.lt 1 (Nat.le_of_ble_eq_true rfl)) g3 (up_put (i := 1) (cs' := (txB γ 1 (upd t_letters (ci t_length) a1) t_length t_at t_start t_token t_value t_onTold t_stoveTold)) (Nat.le_of_ble_eq_true rfl) rfl) ?_
    refine E_aload_n 0 dX4_take_22 (q := 23) rfl rfl rfl ?_
    refine E_dup dX4_take_23 (q := 24) rfl rfl ?_
    have hF5 : Has n 1 (txB γ 1 (upd t_letters (ci t_length) a1) t_length t_at t_start t_token t_value t_onTold t_stoveTold) (put 1 (txB γ 1 (upd t_letters (ci t_length) a1) t_length t_at t_start t_token t_value t_onTold t_stoveTold) h) := (has_put hn_t)
    refine E_get 1 dX4_take_24 (q := 27) rfl ckX4 (Nat.le_of_ble_eq_true rfl) fl_X4_15 (hF5.at 0 rfl) (hF5.lt 0 (Nat.le_of_ble_eq_true rfl)) rfl ?_
    refine E_iconst (x := 1) dX4_take_27 (q := 28) rfl (by decide) ?_
    refine E_iadd dX4_take_28 (q := 29) rfl ?_
    refine E_put 1 dX4_take_29 (q := 32) rfl ckX4 (Nat.le_of_ble_eq_true rfl) fl_X4_15 rfl rfl rfl (hF5.at 0 rfl) (hF5.lt 0 (Nat.le_of_ble_eq_true rfl)) (Nat.le_of_ble_eq_true rfl) (up_put (i := 0) (cs' := (txB γ 1 (upd t_letters (ci t_length) a1) (t_length + 1) t_at t_start t_token t_value t_onTold t_stoveTold)) (Nat.le_of_ble_eq_true rfl) rfl) ?_
    refine E_iconst (x := 1) dX4_take_32 (q := 33) rfl (by decide) ?_
    obtain rfl := Option.some.inj hf
    exact E_zret dX4_take_33 rfl rfl ⟨rfl, rfl, rfl⟩
  · have hf := if_f c2 hf
    refine E_iconst (x := 0) dX4_take_10 (q := 11) rfl (by decide) ?_
    obtain rfl := Option.some.inj hf
    exact E_zret dX4_take_11 rfl rfl ⟨rfl, rfl, rfl⟩

-- PostRelief$Text.isDigit(I)Z
def f_X4_isDigit (N : Nat) (a0 : Int32) : Option (Int32) :=
  (if a0 < 48 then some 0 else (if 57 < a0 then some 0 else some 1))
set_option maxHeartbeats 4000000 in
set_option maxRecDepth 100000 in
theorem m_X4_isDigit {γ : GX} {n : Nat} {N : Nat} {h : HP} {a0 : Int32}   {z : Int32} (hf : f_X4_isDigit N a0 = some z)  : Ct γ M_X4_isDigit n h [.int a0] (Done (some (.int z)) n h) := by
  refine Ct_of_Ev (by decide) (fun h => by cases h) (Nat.le_of_ble_eq_true rfl) ?_
  show Ev γ M_X4_isDigit (0, 0) n h [(0, .int a0)] 0 [] _
  unfold f_X4_isDigit at hf
  refine E_iload_n 0 dX4_isDigit_0 (q := 1) rfl rfl rfl ?_
  refine E_bipush (x := 48) dX4_isDigit_1 (q := 3) rfl (by decide) ?_
  refine E_icmp_lt dX4_isDigit_3 (t := 16) (by decide) (q := 6) rfl (fun c1 => ?_) (fun c1 => ?_)
  · have hf := if_t c1 hf
    refine E_iconst (x := 0) dX4_isDigit_16 (q := 17) rfl (by decide) ?_
    obtain rfl := Option.some.inj hf
    exact E_zret dX4_isDigit_17 rfl rfl ⟨rfl, rfl, rfl⟩
  · have hf := if_f c1 hf
    refine E_iload_n 0 dX4_isDigit_6 (q := 7) rfl rfl rfl ?_
    refine E_bipush (x := 57) dX4_isDigit_7 (q := 9) rfl (by decide) ?_
    refine E_icmp_gt dX4_isDigit_9 (t := 16) (by decide) (q := 12) rfl (fun c2 => ?_) (fun c2 => ?_)
    · have hf := if_t c2 hf
      refine E_iconst (x := 0) dX4_isDigit_16 (q := 17) rfl (by decide) ?_
      obtain rfl := Option.some.inj hf
      exact E_zret dX4_isDigit_17 rfl rfl ⟨rfl, rfl, rfl⟩
    · have hf := if_f c2 hf
      refine E_iconst (x := 1) dX4_isDigit_12 (q := 13) rfl (by decide) ?_
      refine E_goto (q := 17) dX4_isDigit_13 (by decide) ?_
      obtain rfl := Option.some.inj hf
      exact E_zret dX4_isDigit_17 rfl rfl ⟨rfl, rfl, rfl⟩

-- PostRelief$Text.takeNumber()V
def b_X4_takeNumber_1 (N : Nat) (t_letters : FN) (t_length : Int32) (t_at : Int32) (t_value : Int32) : Option ((Int32 × Int32) ⊕ (Int32 × Int32)) :=
  (if t_length ≤ t_at then some (.inr (t_at, t_value)) else (if ix t_at 200 = true then ((f_X4_isDigit N (t_letters (ci t_at))).bind fun z7 => (if z7 = 0 then some (.inr (t_at, t_value)) else some (.inl ((t_at + 1), (if 61 < (((t_value * 10) + (t_letters (ci t_at))) - 48) then 61 else (((t_value * 10) + (t_letters (ci t_at))) - 48)))))) else none))
def f_X4_takeNumber (N : Nat) (t_letters : FN) (t_length : Int32) (t_at : Int32) (t_start : Int32) (t_token : Int32) (t_value : Int32) : Option (Int32 × Int32 × Int32) :=
  ((lp (fun s => b_X4_takeNumber_1 N t_letters t_length s.1 s.2) N (t_at, 0)).bind fun t12 => (if ix t_start 200 = true then (if (t_letters (ci t_start)) = 48 then (if (t12.1 - t_start) ≤ 1 then (if t12.2 ≤ 60 then some (t12.1, (-1), t12.2) else some (t12.1, (-3), t12.2)) else some (t12.1, (-3), t12.2)) else (if t12.2 ≤ 60 then some (t12.1, (-1), t12.2) else some (t12.1, (-3), t12.2))) else none))
set_option maxHeartbeats 4000000 in
set_option maxRecDepth 100000 in
theorem L_X4_takeNumber_1 {γ : GX} {n : Nat} {h : HP} {Ψ : PS} {N : Nat} {t_letters : FN} {t_length : Int32} {t_start : Int32} {t_token : Int32} {t_onTold : Int32} {t_stoveTold : Int32} (hn_t : 1 + 2 ≤ n) {s0 : Int32 × Int32} {t : Int32 × Int32} (hf : lp (fun s => b_X4_takeNumber_1 N t_letters t_length s.1 s.2) N s0 = some t) (K : Ev γ M_X4_takeNumber (0, 0) n (put 1 (txB γ 1 t_letters t_length t.1 t_start t_token t.2 t_onTold t_stoveTold) h) [(0, .ref (gB γ + 1))] 73 [] Ψ) : Ev γ M_X4_takeNumber (0, 0) n (put 1 (txB γ 1 t_letters t_length s0.1 t_start t_token s0.2 t_onTold t_stoveTold) h) [(0, .ref (gB γ + 1))] 5 [] Ψ := by
  refine E_lp (P := fun s => Ev γ M_X4_takeNumber (0, 0) n (put 1 (txB γ 1 t_letters t_length s.1 t_start t_token s.2 t_onTold t_stoveTold) h) [(0, .ref (gB γ + 1))] 5 [] Ψ) (K := fun t => Ev γ M_X4_takeNumber (0, 0) n (put 1 (txB γ 1 t_letters t_length t.1 t_start t_token t.2 t_onTold t_stoveTold) h) [(0, .ref (gB γ + 1))] 73 [] Ψ) ?_ N s0 t hf K
  intro s r hf hP hK
  obtain ⟨t_at, t_value⟩ := s
  change b_X4_takeNumber_1 N t_letters t_length t_at t_value = some r at hf
  unfold b_X4_takeNumber_1 at hf
  show Ev γ M_X4_takeNumber (0, 0) n (put 1 (txB γ 1 t_letters t_length t_at t_start t_token t_value t_onTold t_stoveTold) h) [(0, .ref (gB γ + 1))] 5 [] Ψ
  refine E_aload_n 0 dX4_takeNumber_5 (q := 6) rfl rfl rfl ?_
  have hF4 : Has n 1 (txB γ 1 t_letters t_length t_at t_start t_token t_value t_onTold t_stoveTold) (put 1 (txB γ 1 t_letters t_length t_at t_start t_token t_value t_onTold t_stoveTold) h) := (has_put hn_t)
  refine E_get 2 dX4_takeNumber_6 (q := 9) rfl ckX4 (Nat.le_of_ble_eq_true rfl) fl_X4_31 (hF4.at 0 rfl) (hF4.lt 0 (Nat.le_of_ble_eq_true rfl)) rfl ?_
  refine E_aload_n 0 dX4_takeNumber_9 (q := 10) rfl rfl rfl ?_
  refine E_get 1 dX4_takeNumber_10 (q := 13) rfl ckX4 (Nat.le_of_ble_eq_true rfl) fl_X4_15 (hF4.at 0 rfl) (hF4.lt 0 (Nat.le_of_ble_eq_true rfl)) rfl ?_
  refine E_icmp_ge dX4_takeNumber_13 (t := 73) (by decide) (q := 16) rfl (fun c5 => ?_) (fun c5 => ?_)
  · have hf := if_t c5 hf
    exact E_sub [0] rfl (hK _ (Option.some.inj hf).symm)
  · have hf := if_f c5 hf
    refine E_aload_n 0 dX4_takeNumber_16 (q := 17) rfl rfl rfl ?_
    refine E_get 0 dX4_takeNumber_17 (q := 20) rfl ckX4 (Nat.le_of_ble_eq_true rfl) fl_X4_9 (hF4.at 0 rfl) (hF4.lt 0 (Nat.le_of_ble_eq_true rfl)) rfl ?_
    refine E_aload_n 0 dX4_takeNumber_20 (q := 21) rfl rfl rfl ?_
    refine E_get 2 dX4_takeNumber_21 (q := 24) rfl ckX4 (Nat.le_of_ble_eq_true rfl) fl_X4_31 (hF4.at 0 rfl) (hF4.lt 0 (Nat.le_of_ble_eq_true rfl)) rfl ?_
    obtain ⟨g6, hf⟩ := gd hf
    refine E_iald dX4_takeNumber_24 (q := 25) rfl (hF4.at 1 rfl) (hF4.lt 1 (Nat.le_of_ble_eq_true rfl)) g6 ?_
    obtain ⟨z7, hxz7, hf⟩ := bnd hf
    refine E_cS (as := [.int (t_letters (ci t_at))]) (rest := []) (u' := (0, 0)) (st' := [.int z7]) dX4_takeNumber_25 (q := 28) rfl lkm_X4_isDigit lks_X4_91 (Nat.le_of_ble_eq_true rfl) ⟨Nat.le_refl _, Nat.le_refl _⟩ (Nat.le_of_ble_eq_true rfl) rfl rfl (m_X4_isDigit (N := N)  hxz7) rfl rfl rfl ?_
    refine E_if_eq dX4_takeNumber_28 (t := 73) (by decide) (q := 31) rfl (fun c8 => ?_) (fun c8 => ?_)
    · have hf := if_t c8 hf
      exact E_sub [0] rfl (hK _ (Option.some.inj hf).symm)
    · have hf := if_f c8 hf
      refine E_aload_n 0 dX4_takeNumber_31 (q := 32) rfl rfl rfl ?_
      refine E_bipush (x := 61) dX4_takeNumber_32 (q := 34) rfl (by decide) ?_
      refine E_aload_n 0 dX4_takeNumber_34 (q := 35) rfl rfl rfl ?_
      refine E_get 5 dX4_takeNumber_35 (q := 38) rfl ckX4 (Nat.le_of_ble_eq_true rfl) fl_X4_69 (hF4.at 0 rfl) (hF4.lt 0 (Nat.le_of_ble_eq_true rfl)) rfl ?_
      refine E_bipush (x := 10) dX4_takeNumber_38 (q := 40) rfl (by decide) ?_
      refine E_imul dX4_takeNumber_40 (q := 41) rfl ?_
      refine E_aload_n 0 dX4_takeNumber_41 (q := 42) rfl rfl rfl ?_
      refine E_get 0 dX4_takeNumber_42 (q := 45) rfl ckX4 (Nat.le_of_ble_eq_true rfl) fl_X4_9 (hF4.at 0 rfl) (hF4.lt 0 (Nat.le_of_ble_eq_true rfl)) rfl ?_
      refine E_aload_n 0 dX4_takeNumber_45 (q := 46) rfl rfl rfl ?_
      refine E_get 2 dX4_takeNumber_46 (q := 49) rfl ckX4 (Nat.le_of_ble_eq_true rfl) fl_X4_31 (hF4.at 0 rfl) (hF4.lt 0 (Nat.le_of_ble_eq_true rfl)) rfl ?_
      refine E_iald dX4_takeNumber_49 (q := 50) rfl (hF4.at 1 rfl) (hF4.lt 1 (Nat.le_of_ble_eq_true rfl)) g6 ?_
      refine E_iadd dX4_takeNumber_50 (q := 51) rfl ?_
      refine E_bipush (x := 48) dX4_takeNumber_51 (q := 53) rfl (by decide) ?_
      refine E_isub dX4_takeNumber_53 (q := 54) rfl ?_
      refine E_min dX4_takeNumber_54 (q := 57) rfl lkmin_X4_98 st_min in_math co_min (Nat.le_of_ble_eq_true rfl) (Nat.le_of_ble_eq_true rfl) ?_
      refine E_put 5 dX4_takeNumber_57 (q := 60) rfl ckX4 (Nat.le_of_ble_eq_true rfl) fl_X4_69 rfl rfl rfl (hF4.at 0 rfl) (hF4.lt 0 (Nat.le_of_ble_eq_true rfl)) (Nat.le_of_ble_eq_true rfl) (up_put (i := 0) (cs' := (txB γ 1 t_letters t_length t_at t_start t_token (if 61 < (((t_value * 10) + (t_letters (ci t_at))) - 48) then 61 else (((t_value * 10) + (t_letters (ci t_at))) - 48)) t_onTold t_stoveTold)) (Nat.le_of_ble_eq_true rfl) rfl) ?_
      refine E_aload_n 0 dX4_takeNumber_60 (q := 61) rfl rfl rfl ?_
      refine E_dup dX4_takeNumber_61 (q := 62) rfl rfl ?_
      have hF10 : Has n 1 (txB γ 1 t_letters t_length t_at t_start t_token (if 61 < (((t_value * 10) + (t_letters (ci t_at))) - 48) then 61 else (((t_value * 10) + (t_letters (ci t_at))) - 48)) t_onTold t_stoveTold) (put 1 (txB γ 1 t_letters t_length t_at t_start t_token (if 61 < (((t_value * 10) + (t_letters (ci t_at))) - 48) then 61 else (((t_value * 10) + (t_letters (ci t_at))) - 48)) t_onTold t_stoveTold) h) := (has_put hn_t)
      refine E_get 2 dX4_takeNumber_62 (q := 65) rfl ckX4 (Nat.le_of_ble_eq_true rfl) fl_X4_31 (hF10.at 0 rfl) (hF10.lt 0 (Nat.le_of_ble_eq_true rfl)) rfl ?_
      refine E_iconst (x := 1) dX4_takeNumber_65 (q := 66) rfl (by decide) ?_
      refine E_iadd dX4_takeNumber_66 (q := 67) rfl ?_
      refine E_put 2 dX4_takeNumber_67 (q := 70) rfl ckX4 (Nat.le_of_ble_eq_true rfl) fl_X4_31 rfl rfl rfl (hF10.at 0 rfl) (hF10.lt 0 (Nat.le_of_ble_eq_true rfl)) (Nat.le_of_ble_eq_true rfl) (up_put (i := 0) (cs' := (txB γ 1 t_letters t_length (t_at + 1) t_start t_token (if 61 < (((t_value * 10) + (t_letters (ci t_at))) - 48) then 61 else (((t_value * 10) + (t_letters (ci t_at))) - 48)) t_onTold t_stoveTold)) (Nat.le_of_ble_eq_true rfl) rfl) ?_
      refine E_goto (q := 5) dX4_takeNumber_70 (by decide) ?_
      exact E_sub [0] rfl (hP _ (Option.some.inj hf).symm)
set_option maxHeartbeats 4000000 in
set_option maxRecDepth 100000 in
theorem m_X4_takeNumber {γ : GX} {n : Nat} {N : Nat} {h : HP} {t_letters : FN} {t_length : Int32} {t_at : Int32} {t_start : Int32} {t_token : Int32} {t_value : Int32} {t_onTold : Int32} {t_stoveTold : Int32} (hH_t : Has n 1 (txB γ 1 t_letters t_length t_at t_start t_token t_value t_onTold t_stoveTold) h) {z : Int32 × Int32 × Int32} (hf : f_X4_takeNumber N t_letters t_length t_at t_start t_token t_value = some z)  : Ct γ M_X4_takeNumber n h [.ref (gB γ + 1)] (Done none n (put 1 (txB γ 1 t_letters t_length z.1 t_start z.2.1 z.2.2 t_onTold t_stoveTold) h)) := by
  have hn_t : 1 + 2 ≤ n := hH_t.1
  refine Ct.heap (h := (put 1 (txB γ 1 t_letters t_length t_at t_start t_token t_value t_onTold t_stoveTold) h)) (put_self hH_t).symm ?_
  refine Ct_of_Ev (by decide) (fun h => by cases h) (Nat.le_of_ble_eq_true rfl) ?_
  show Ev γ M_X4_takeNumber (0, 0) n (put 1 (txB γ 1 t_letters t_length t_at t_start t_token t_value t_onTold t_stoveTold) h) [(0, .ref (gB γ + 1))] 0 [] _
  unfold f_X4_takeNumber at hf
  refine E_aload_n 0 dX4_takeNumber_0 (q := 1) rfl rfl rfl ?_
  refine E_iconst (x := 0) dX4_takeNumber_1 (q := 2) rfl (by decide) ?_
  have hF1 : Has n 1 (txB γ 1 t_letters t_length t_at t_start t_token t_value t_onTold t_stoveTold) (put 1 (txB γ 1 t_letters t_length t_at t_start t_token t_value t_onTold t_stoveTold) h) := (has_put hn_t)
  refine E_put 5 dX4_takeNumber_2 (q := 5) rfl ckX4 (Nat.le_of_ble_eq_true rfl) fl_X4_69 rfl rfl rfl (hF1.at 0 rfl) (hF1.lt 0 (Nat.le_of_ble_eq_true rfl)) (Nat.le_of_ble_eq_true rfl) (up_put (i := 0) (cs' := (txB γ 1 t_letters t_length t_at t_start t_token 0 t_onTold t_stoveTold)) (Nat.le_of_ble_eq_true rfl) rfl) ?_
  obtain ⟨t12, hxt12, hf⟩ := bnd hf
  refine E_sub [0] rfl ?_
  refine L_X4_takeNumber_1 hn_t hxt12 ?_
  show Ev γ M_X4_takeNumber _ n (put 1 (txB γ 1 t_letters t_length t12.1 t_start t_token t12.2 t_onTold t_stoveTold) h) [(0, .ref (gB γ + 1))] 73 [] _
  refine E_aload_n 0 dX4_takeNumber_73 (q := 74) rfl rfl rfl ?_
  have hF14 : Has n 1 (txB γ 1 t_letters t_length t12.1 t_start t_token t12.2 t_onTold t_stoveTold) (put 1 (txB γ 1 t_letters t_length t12.1 t_start t_token t12.2 t_onTold t_stoveTold) h) := (has_put hn_t)
  refine E_get 0 dX4_takeNumber_74 (q := 77) rfl ckX4 (Nat.le_of_ble_eq_true rfl) fl_X4_9 (hF14.at 0 rfl) (hF14.lt 0 (Nat.le_of_ble_eq_true rfl)) rfl ?_
  refine E_aload_n 0 dX4_takeNumber_77 (q := 78) rfl rfl rfl ?_
  refine E_get 3 dX4_takeNumber_78 (q := 81) rfl ckX4 (Nat.le_of_ble_eq_true rfl) fl_X4_44 (hF14.at 0 rfl) (hF14.lt 0 (Nat.le_of_ble_eq_true rfl)) rfl ?_
  obtain ⟨g15, hf⟩ := gd hf
  refine E_iald dX4_takeNumber_81 (q := 82) rfl (hF14.at 1 rfl) (hF14.lt 1 (Nat.le_of_ble_eq_true rfl)) g15 ?_
  refine E_bipush (x := 48) dX4_takeNumber_82 (q := 84) rfl (by decide) ?_
  refine E_icmp_ne dX4_takeNumber_84 (t := 104) (by decide) (q := 87) rfl (fun c16 => ?_) (fun c16 => ?_)
  · have hf := if_f c16 hf
    refine E_iconst (x := 0) dX4_takeNumber_104 (q := 105) rfl (by decide) ?_
    refine E_istore_n [(1, .int 0), (0, .ref (gB γ + 1))] dX4_takeNumber_105 (q := 106) rfl rfl (Nat.le_of_ble_eq_true rfl) rfl ?_
    refine E_aload_n 1 dX4_takeNumber_106 (q := 107) rfl rfl rfl ?_
    refine E_iload_n 0 dX4_takeNumber_107 (q := 108) rfl rfl rfl ?_
    refine E_if_ne dX4_takeNumber_108 (t := 120) (by decide) (q := 111) rfl (fun c => absurd c (by decide)) (fun _ => ?_)
    refine E_aload_n 1 dX4_takeNumber_111 (q := 112) rfl rfl rfl ?_
    refine E_get 5 dX4_takeNumber_112 (q := 115) rfl ckX4 (Nat.le_of_ble_eq_true rfl) fl_X4_69 (hF14.at 0 rfl) (hF14.lt 0 (Nat.le_of_ble_eq_true rfl)) rfl ?_
    refine E_bipush (x := 60) dX4_takeNumber_115 (q := 117) rfl (by decide) ?_
    refine E_icmp_le dX4_takeNumber_117 (t := 125) (by decide) (q := 120) rfl (fun c22 => ?_) (fun c22 => ?_)
    · have hf := if_t c22 hf
      refine E_iconst (x := (-1)) dX4_takeNumber_125 (q := 126) rfl (by decide) ?_
      refine E_put 4 dX4_takeNumber_126 (q := 129) rfl ckX4 (Nat.le_of_ble_eq_true rfl) fl_X4_37 rfl rfl rfl (hF14.at 0 rfl) (hF14.lt 0 (Nat.le_of_ble_eq_true rfl)) (Nat.le_of_ble_eq_true rfl) (up_put (i := 0) (cs' := (txB γ 1 t_letters t_length t12.1 t_start (-1) t12.2 t_onTold t_stoveTold)) (Nat.le_of_ble_eq_true rfl) rfl) ?_
      obtain rfl := Option.some.inj hf
      exact E_vret dX4_takeNumber_129 rfl ⟨rfl, rfl, rfl⟩
    · have hf := if_f c22 hf
      refine E_bipush (x := (-3)) dX4_takeNumber_120 (q := 122) rfl (by decide) ?_
      refine E_goto (q := 126) dX4_takeNumber_122 (by decide) ?_
      refine E_put 4 dX4_takeNumber_126 (q := 129) rfl ckX4 (Nat.le_of_ble_eq_true rfl) fl_X4_37 rfl rfl rfl (hF14.at 0 rfl) (hF14.lt 0 (Nat.le_of_ble_eq_true rfl)) (Nat.le_of_ble_eq_true rfl) (up_put (i := 0) (cs' := (txB γ 1 t_letters t_length t12.1 t_start (-3) t12.2 t_onTold t_stoveTold)) (Nat.le_of_ble_eq_true rfl) rfl) ?_
      obtain rfl := Option.some.inj hf
      exact E_vret dX4_takeNumber_129 rfl ⟨rfl, rfl, rfl⟩
  · have hf := if_t c16 hf
    refine E_aload_n 0 dX4_takeNumber_87 (q := 88) rfl rfl rfl ?_
    refine E_get 2 dX4_takeNumber_88 (q := 91) rfl ckX4 (Nat.le_of_ble_eq_true rfl) fl_X4_31 (hF14.at 0 rfl) (hF14.lt 0 (Nat.le_of_ble_eq_true rfl)) rfl ?_
    refine E_aload_n 0 dX4_takeNumber_91 (q := 92) rfl rfl rfl ?_
    refine E_get 3 dX4_takeNumber_92 (q := 95) rfl ckX4 (Nat.le_of_ble_eq_true rfl) fl_X4_44 (hF14.at 0 rfl) (hF14.lt 0 (Nat.le_of_ble_eq_true rfl)) rfl ?_
    refine E_isub dX4_takeNumber_95 (q := 96) rfl ?_
    refine E_iconst (x := 1) dX4_takeNumber_96 (q := 97) rfl (by decide) ?_
    refine E_icmp_le dX4_takeNumber_97 (t := 104) (by decide) (q := 100) rfl (fun c17 => ?_) (fun c17 => ?_)
    · have hf := if_t c17 hf
      refine E_iconst (x := 0) dX4_takeNumber_104 (q := 105) rfl (by decide) ?_
      refine E_istore_n [(1, .int 0), (0, .ref (gB γ + 1))] dX4_takeNumber_105 (q := 106) rfl rfl (Nat.le_of_ble_eq_true rfl) rfl ?_
      refine E_aload_n 1 dX4_takeNumber_106 (q := 107) rfl rfl rfl ?_
      refine E_iload_n 0 dX4_takeNumber_107 (q := 108) rfl rfl rfl ?_
      refine E_if_ne dX4_takeNumber_108 (t := 120) (by decide) (q := 111) rfl (fun c => absurd c (by decide)) (fun _ => ?_)
      refine E_aload_n 1 dX4_takeNumber_111 (q := 112) rfl rfl rfl ?_
      refine E_get 5 dX4_takeNumber_112 (q := 115) rfl ckX4 (Nat.le_of_ble_eq_true rfl) fl_X4_69 (hF14.at 0 rfl) (hF14.lt 0 (Nat.le_of_ble_eq_true rfl)) rfl ?_
      refine E_bipush (x := 60) dX4_takeNumber_115 (q := 117) rfl (by decide) ?_
      refine E_icmp_le dX4_takeNumber_117 (t := 125) (by decide) (q := 120) rfl (fun c18 => ?_) (fun c18 => ?_)
      · have hf := if_t c18 hf
        refine E_iconst (x := (-1)) dX4_takeNumber_125 (q := 126) rfl (by decide) ?_
        refine E_put 4 dX4_takeNumber_126 (q := 129) rfl ckX4 (Nat.le_of_ble_eq_true rfl) fl_X4_37 rfl rfl rfl (hF14.at 0 rfl) (hF14.lt 0 (Nat.le_of_ble_eq_true rfl)) (Nat.le_of_ble_eq_true rfl) (up_put (i := 0) (cs' := (txB γ 1 t_letters t_length t12.1 t_start (-1) t12.2 t_onTold t_stoveTold)) (Nat.le_of_ble_eq_true rfl) rfl) ?_
        obtain rfl := Option.some.inj hf
        exact E_vret dX4_takeNumber_129 rfl ⟨rfl, rfl, rfl⟩
      · have hf := if_f c18 hf
        refine E_bipush (x := (-3)) dX4_takeNumber_120 (q := 122) rfl (by decide) ?_
        refine E_goto (q := 126) dX4_takeNumber_122 (by decide) ?_
        refine E_put 4 dX4_takeNumber_126 (q := 129) rfl ckX4 (Nat.le_of_ble_eq_true rfl) fl_X4_37 rfl rfl rfl (hF14.at 0 rfl) (hF14.lt 0 (Nat.le_of_ble_eq_true rfl)) (Nat.le_of_ble_eq_true rfl) (up_put (i := 0) (cs' := (txB γ 1 t_letters t_length t12.1 t_start (-3) t12.2 t_onTold t_stoveTold)) (Nat.le_of_ble_eq_true rfl) rfl) ?_
        obtain rfl := Option.some.inj hf
        exact E_vret dX4_takeNumber_129 rfl ⟨rfl, rfl, rfl⟩
    · have hf := if_f c17 hf
      refine E_iconst (x := 1) dX4_takeNumber_100 (q := 101) rfl (by decide) ?_
      refine E_goto (q := 105) dX4_takeNumber_101 (by decide) ?_
      refine E_istore_n [(1, .int 1), (0, .ref (gB γ + 1))] dX4_takeNumber_105 (q := 106) rfl rfl (Nat.le_of_ble_eq_true rfl) rfl ?_
      refine E_aload_n 1 dX4_takeNumber_106 (q := 107) rfl rfl rfl ?_
      refine E_iload_n 0 dX4_takeNumber_107 (q := 108) rfl rfl rfl ?_
      refine E_if_ne dX4_takeNumber_108 (t := 120) (by decide) (q := 111) rfl (fun _ => ?_) (fun c => absurd c (by decide))
      refine E_bipush (x := (-3)) dX4_takeNumber_120 (q := 122) rfl (by decide) ?_
      refine E_goto (q := 126) dX4_takeNumber_122 (by decide) ?_
      refine E_put 4 dX4_takeNumber_126 (q := 129) rfl ckX4 (Nat.le_of_ble_eq_true rfl) fl_X4_37 rfl rfl rfl (hF14.at 0 rfl) (hF14.lt 0 (Nat.le_of_ble_eq_true rfl)) (Nat.le_of_ble_eq_true rfl) (up_put (i := 0) (cs' := (txB γ 1 t_letters t_length t12.1 t_start (-3) t12.2 t_onTold t_stoveTold)) (Nat.le_of_ble_eq_true rfl) rfl) ?_
      obtain rfl := Option.some.inj hf
      exact E_vret dX4_takeNumber_129 rfl ⟨rfl, rfl, rfl⟩

-- PostRelief$Text.nextToken()V
def b_X4_nextToken_1 (N : Nat) (t_letters : FN) (t_length : Int32) (t_at : Int32) : Option ((Int32) ⊕ (Int32)) :=
  (if t_length ≤ t_at then some (.inr t_at) else (if ix t_at 200 = true then (if (t_letters (ci t_at)) = 32 then some (.inl (t_at + 1)) else some (.inr t_at)) else none))
def f_X4_nextToken (N : Nat) (t_letters : FN) (t_length : Int32) (t_at : Int32) (t_start : Int32) (t_token : Int32) (t_value : Int32) : Option (Int32 × Int32 × Int32 × Int32) :=
  ((lp (fun s => b_X4_nextToken_1 N t_letters t_length s) N t_at).bind fun t7 => (if t7 < t_length then (if ix t7 200 = true then ((f_X4_isDigit N (t_letters (ci t7))).bind fun z14 => (if z14 = 0 then some ((t7 + 1), t7, (t_letters (ci t7)), t_value) else ((f_X4_takeNumber N t_letters t_length t7 t7 t_token t_value).bind fun z19 => some (z19.1, t7, z19.2.1, z19.2.2)))) else none) else some (t7, t7, (-2), t_value)))
set_option maxHeartbeats 4000000 in
set_option maxRecDepth 100000 in
theorem L_X4_nextToken_1 {γ : GX} {n : Nat} {h : HP} {Ψ : PS} {N : Nat} {t_letters : FN} {t_length : Int32} {t_start : Int32} {t_token : Int32} {t_value : Int32} {t_onTold : Int32} {t_stoveTold : Int32} (hn_t : 1 + 2 ≤ n) {s0 : Int32} {t : Int32} (hf : lp (fun s => b_X4_nextToken_1 N t_letters t_length s) N s0 = some t) (K : Ev γ M_X4_nextToken (0, 0) n (put 1 (txB γ 1 t_letters t_length t t_start t_token t_value t_onTold t_stoveTold) h) [(0, .ref (gB γ + 1))] 38 [] Ψ) : Ev γ M_X4_nextToken (0, 0) n (put 1 (txB γ 1 t_letters t_length s0 t_start t_token t_value t_onTold t_stoveTold) h) [(0, .ref (gB γ + 1))] 0 [] Ψ := by
  refine E_lp (P := fun s => Ev γ M_X4_nextToken (0, 0) n (put 1 (txB γ 1 t_letters t_length s t_start t_token t_value t_onTold t_stoveTold) h) [(0, .ref (gB γ + 1))] 0 [] Ψ) (K := fun t => Ev γ M_X4_nextToken (0, 0) n (put 1 (txB γ 1 t_letters t_length t t_start t_token t_value t_onTold t_stoveTold) h) [(0, .ref (gB γ + 1))] 38 [] Ψ) ?_ N s0 t hf K
  intro s r hf hP hK
  obtain ⟨t_at, hs⟩ : ∃ z, z = s := ⟨s, rfl⟩; subst hs
  change b_X4_nextToken_1 N t_letters t_length t_at = some r at hf
  unfold b_X4_nextToken_1 at hf
  show Ev γ M_X4_nextToken (0, 0) n (put 1 (txB γ 1 t_letters t_length t_at t_start t_token t_value t_onTold t_stoveTold) h) [(0, .ref (gB γ + 1))] 0 [] Ψ
  refine E_aload_n 0 dX4_nextToken_0 (q := 1) rfl rfl rfl ?_
  have hF2 : Has n 1 (txB γ 1 t_letters t_length t_at t_start t_token t_value t_onTold t_stoveTold) (put 1 (txB γ 1 t_letters t_length t_at t_start t_token t_value t_onTold t_stoveTold) h) := (has_put hn_t)
  refine E_get 2 dX4_nextToken_1 (q := 4) rfl ckX4 (Nat.le_of_ble_eq_true rfl) fl_X4_31 (hF2.at 0 rfl) (hF2.lt 0 (Nat.le_of_ble_eq_true rfl)) rfl ?_
  refine E_aload_n 0 dX4_nextToken_4 (q := 5) rfl rfl rfl ?_
  refine E_get 1 dX4_nextToken_5 (q := 8) rfl ckX4 (Nat.le_of_ble_eq_true rfl) fl_X4_15 (hF2.at 0 rfl) (hF2.lt 0 (Nat.le_of_ble_eq_true rfl)) rfl ?_
  refine E_icmp_ge dX4_nextToken_8 (t := 38) (by decide) (q := 11) rfl (fun c3 => ?_) (fun c3 => ?_)
  · have hf := if_t c3 hf
    exact E_sub [0] rfl (hK _ (Option.some.inj hf).symm)
  · have hf := if_f c3 hf
    refine E_aload_n 0 dX4_nextToken_11 (q := 12) rfl rfl rfl ?_
    refine E_get 0 dX4_nextToken_12 (q := 15) rfl ckX4 (Nat.le_of_ble_eq_true rfl) fl_X4_9 (hF2.at 0 rfl) (hF2.lt 0 (Nat.le_of_ble_eq_true rfl)) rfl ?_
    refine E_aload_n 0 dX4_nextToken_15 (q := 16) rfl rfl rfl ?_
    refine E_get 2 dX4_nextToken_16 (q := 19) rfl ckX4 (Nat.le_of_ble_eq_true rfl) fl_X4_31 (hF2.at 0 rfl) (hF2.lt 0 (Nat.le_of_ble_eq_true rfl)) rfl ?_
    obtain ⟨g4, hf⟩ := gd hf
    refine E_iald dX4_nextToken_19 (q := 20) rfl (hF2.at 1 rfl) (hF2.lt 1 (Nat.le_of_ble_eq_true rfl)) g4 ?_
    refine E_bipush (x := 32) dX4_nextToken_20 (q := 22) rfl (by decide) ?_
    refine E_icmp_ne dX4_nextToken_22 (t := 38) (by decide) (q := 25) rfl (fun c5 => ?_) (fun c5 => ?_)
    · have hf := if_f c5 hf
      exact E_sub [0] rfl (hK _ (Option.some.inj hf).symm)
    · have hf := if_t c5 hf
      refine E_aload_n 0 dX4_nextToken_25 (q := 26) rfl rfl rfl ?_
      refine E_dup dX4_nextToken_26 (q := 27) rfl rfl ?_
      refine E_get 2 dX4_nextToken_27 (q := 30) rfl ckX4 (Nat.le_of_ble_eq_true rfl) fl_X4_31 (hF2.at 0 rfl) (hF2.lt 0 (Nat.le_of_ble_eq_true rfl)) rfl ?_
      refine E_iconst (x := 1) dX4_nextToken_30 (q := 31) rfl (by decide) ?_
      refine E_iadd dX4_nextToken_31 (q := 32) rfl ?_
      refine E_put 2 dX4_nextToken_32 (q := 35) rfl ckX4 (Nat.le_of_ble_eq_true rfl) fl_X4_31 rfl rfl rfl (hF2.at 0 rfl) (hF2.lt 0 (Nat.le_of_ble_eq_true rfl)) (Nat.le_of_ble_eq_true rfl) (up_put (i := 0) (cs' := (txB γ 1 t_letters t_length (t_at + 1) t_start t_token t_value t_onTold t_stoveTold)) (Nat.le_of_ble_eq_true rfl) rfl) ?_
      refine E_goto (q := 0) dX4_nextToken_35 (by decide) ?_
      exact E_sub [0] rfl (hP _ (Option.some.inj hf).symm)
set_option maxHeartbeats 4000000 in
set_option maxRecDepth 100000 in
theorem m_X4_nextToken {γ : GX} {n : Nat} {N : Nat} {h : HP} {t_letters : FN} {t_length : Int32} {t_at : Int32} {t_start : Int32} {t_token : Int32} {t_value : Int32} {t_onTold : Int32} {t_stoveTold : Int32} (hH_t : Has n 1 (txB γ 1 t_letters t_length t_at t_start t_token t_value t_onTold t_stoveTold) h) {z : Int32 × Int32 × Int32 × Int32} (hf : f_X4_nextToken N t_letters t_length t_at t_start t_token t_value = some z)  : Ct γ M_X4_nextToken n h [.ref (gB γ + 1)] (Done none n (put 1 (txB γ 1 t_letters t_length z.1 z.2.1 z.2.2.1 z.2.2.2 t_onTold t_stoveTold) h)) := by
  have hn_t : 1 + 2 ≤ n := hH_t.1
  refine Ct.heap (h := (put 1 (txB γ 1 t_letters t_length t_at t_start t_token t_value t_onTold t_stoveTold) h)) (put_self hH_t).symm ?_
  refine Ct_of_Ev (by decide) (fun h => by cases h) (Nat.le_of_ble_eq_true rfl) ?_
  show Ev γ M_X4_nextToken (0, 0) n (put 1 (txB γ 1 t_letters t_length t_at t_start t_token t_value t_onTold t_stoveTold) h) [(0, .ref (gB γ + 1))] 0 [] _
  unfold f_X4_nextToken at hf
  obtain ⟨t7, hxt7, hf⟩ := bnd hf
  refine E_sub [0] rfl ?_
  refine L_X4_nextToken_1 hn_t hxt7 ?_
  show Ev γ M_X4_nextToken _ n (put 1 (txB γ 1 t_letters t_length t7 t_start t_token t_value t_onTold t_stoveTold) h) [(0, .ref (gB γ + 1))] 38 [] _
  refine E_aload_n 0 dX4_nextToken_38 (q := 39) rfl rfl rfl ?_
  refine E_aload_n 0 dX4_nextToken_39 (q := 40) rfl rfl rfl ?_
  have hF9 : Has n 1 (txB γ 1 t_letters t_length t7 t_start t_token t_value t_onTold t_stoveTold) (put 1 (txB γ 1 t_letters t_length t7 t_start t_token t_value t_onTold t_stoveTold) h) := (has_put hn_t)
  refine E_get 2 dX4_nextToken_40 (q := 43) rfl ckX4 (Nat.le_of_ble_eq_true rfl) fl_X4_31 (hF9.at 0 rfl) (hF9.lt 0 (Nat.le_of_ble_eq_true rfl)) rfl ?_
  refine E_put 3 dX4_nextToken_43 (q := 46) rfl ckX4 (Nat.le_of_ble_eq_true rfl) fl_X4_44 rfl rfl rfl (hF9.at 0 rfl) (hF9.lt 0 (Nat.le_of_ble_eq_true rfl)) (Nat.le_of_ble_eq_true rfl) (up_put (i := 0) (cs' := (txB γ 1 t_letters t_length t7 t7 t_token t_value t_onTold t_stoveTold)) (Nat.le_of_ble_eq_true rfl) rfl) ?_
  refine E_aload_n 0 dX4_nextToken_46 (q := 47) rfl rfl rfl ?_
  have hF11 : Has n 1 (txB γ 1 t_letters t_length t7 t7 t_token t_value t_onTold t_stoveTold) (put 1 (txB γ 1 t_letters t_length t7 t7 t_token t_value t_onTold t_stoveTold) h) := (has_put hn_t)
  refine E_get 2 dX4_nextToken_47 (q := 50) rfl ckX4 (Nat.le_of_ble_eq_true rfl) fl_X4_31 (hF11.at 0 rfl) (hF11.lt 0 (Nat.le_of_ble_eq_true rfl)) rfl ?_
  refine E_aload_n 0 dX4_nextToken_50 (q := 51) rfl rfl rfl ?_
  refine E_get 1 dX4_nextToken_51 (q := 54) rfl ckX4 (Nat.le_of_ble_eq_true rfl) fl_X4_15 (hF11.at 0 rfl) (hF11.lt 0 (Nat.le_of_ble_eq_true rfl)) rfl ?_
  refine E_icmp_lt dX4_nextToken_54 (t := 66) (by decide) (q := 57) rfl (fun c12 => ?_) (fun c12 => ?_)
  · have hf := if_t c12 hf
    refine E_aload_n 0 dX4_nextToken_66 (q := 67) rfl rfl rfl ?_
    refine E_get 0 dX4_nextToken_67 (q := 70) rfl ckX4 (Nat.le_of_ble_eq_true rfl) fl_X4_9 (hF11.at 0 rfl) (hF11.lt 0 (Nat.le_of_ble_eq_true rfl)) rfl ?_
    refine E_aload_n 0 dX4_nextToken_70 (q := 71) rfl rfl rfl ?_
    refine E_get 2 dX4_nextToken_71 (q := 74) rfl ckX4 (Nat.le_of_ble_eq_true rfl) fl_X4_31 (hF11.at 0 rfl) (hF11.lt 0 (Nat.le_of_ble_eq_true rfl)) rfl ?_
    obtain ⟨g13, hf⟩ := gd hf
    refine E_iald dX4_nextToken_74 (q := 75) rfl (hF11.at 1 rfl) (hF11.lt 1 (Nat.le_of_ble_eq_true rfl)) g13 ?_
    obtain ⟨z14, hxz14, hf⟩ := bnd hf
    refine E_cS (as := [.int (t_letters (ci t7))]) (rest := []) (u' := (0, 0)) (st' := [.int z14]) dX4_nextToken_75 (q := 78) rfl lkm_X4_isDigit lks_X4_91 (Nat.le_of_ble_eq_true rfl) ⟨Nat.le_refl _, Nat.le_refl _⟩ (Nat.le_of_ble_eq_true rfl) rfl rfl (m_X4_isDigit (N := N)  hxz14) rfl rfl rfl ?_
    refine E_if_eq dX4_nextToken_78 (t := 88) (by decide) (q := 81) rfl (fun c15 => ?_) (fun c15 => ?_)
    · have hf := if_t c15 hf
      refine E_aload_n 0 dX4_nextToken_88 (q := 89) rfl rfl rfl ?_
      refine E_aload_n 0 dX4_nextToken_89 (q := 90) rfl rfl rfl ?_
      refine E_get 0 dX4_nextToken_90 (q := 93) rfl ckX4 (Nat.le_of_ble_eq_true rfl) fl_X4_9 (hF11.at 0 rfl) (hF11.lt 0 (Nat.le_of_ble_eq_true rfl)) rfl ?_
      refine E_aload_n 0 dX4_nextToken_93 (q := 94) rfl rfl rfl ?_
      refine E_get 2 dX4_nextToken_94 (q := 97) rfl ckX4 (Nat.le_of_ble_eq_true rfl) fl_X4_31 (hF11.at 0 rfl) (hF11.lt 0 (Nat.le_of_ble_eq_true rfl)) rfl ?_
      refine E_iald dX4_nextToken_97 (q := 98) rfl (hF11.at 1 rfl) (hF11.lt 1 (Nat.le_of_ble_eq_true rfl)) g13 ?_
      refine E_put 4 dX4_nextToken_98 (q := 101) rfl ckX4 (Nat.le_of_ble_eq_true rfl) fl_X4_37 rfl rfl rfl (hF11.at 0 rfl) (hF11.lt 0 (Nat.le_of_ble_eq_true rfl)) (Nat.le_of_ble_eq_true rfl) (up_put (i := 0) (cs' := (txB γ 1 t_letters t_length t7 t7 (t_letters (ci t7)) t_value t_onTold t_stoveTold)) (Nat.le_of_ble_eq_true rfl) rfl) ?_
      refine E_aload_n 0 dX4_nextToken_101 (q := 102) rfl rfl rfl ?_
      refine E_dup dX4_nextToken_102 (q := 103) rfl rfl ?_
      have hF17 : Has n 1 (txB γ 1 t_letters t_length t7 t7 (t_letters (ci t7)) t_value t_onTold t_stoveTold) (put 1 (txB γ 1 t_letters t_length t7 t7 (t_letters (ci t7)) t_value t_onTold t_stoveTold) h) := (has_put hn_t)
      refine E_get 2 dX4_nextToken_103 (q := 106) rfl ckX4 (Nat.le_of_ble_eq_true rfl) fl_X4_31 (hF17.at 0 rfl) (hF17.lt 0 (Nat.le_of_ble_eq_true rfl)) rfl ?_
      refine E_iconst (x := 1) dX4_nextToken_106 (q := 107) rfl (by decide) ?_
      refine E_iadd dX4_nextToken_107 (q := 108) rfl ?_
      refine E_put 2 dX4_nextToken_108 (q := 111) rfl ckX4 (Nat.le_of_ble_eq_true rfl) fl_X4_31 rfl rfl rfl (hF17.at 0 rfl) (hF17.lt 0 (Nat.le_of_ble_eq_true rfl)) (Nat.le_of_ble_eq_true rfl) (up_put (i := 0) (cs' := (txB γ 1 t_letters t_length (t7 + 1) t7 (t_letters (ci t7)) t_value t_onTold t_stoveTold)) (Nat.le_of_ble_eq_true rfl) rfl) ?_
      obtain rfl := Option.some.inj hf
      exact E_vret dX4_nextToken_111 rfl ⟨rfl, rfl, rfl⟩
    · have hf := if_f c15 hf
      refine E_aload_n 0 dX4_nextToken_81 (q := 82) rfl rfl rfl ?_
      obtain ⟨z19, hxz19, hf⟩ := bnd hf
      refine E_cV (as := []) (k := 1) (rest := []) (u' := (0, 0)) (st' := []) dX4_nextToken_82 (q := 85) rfl lkm_X4_takeNumber lkv_X4_95 (Nat.le_of_ble_eq_true rfl) ckX4 (hF11.at 0 rfl) (hF11.lt 0 (Nat.le_of_ble_eq_true rfl)) ⟨Nat.le_refl _, Nat.le_refl _⟩ (Nat.le_of_ble_eq_true rfl) rfl rfl (m_X4_takeNumber (N := N)  hF11 hxz19) rfl rfl rfl ?_
      refine Ev.heap (put_put (k := 1) (cs := (txB γ 1 t_letters t_length t7 t7 t_token t_value t_onTold t_stoveTold)) (cs' := (txB γ 1 t_letters t_length z19.1 t7 z19.2.1 z19.2.2 t_onTold t_stoveTold)) (show (2 : Nat) = 2 from rfl)) ?_
      refine E_goto (q := 111) dX4_nextToken_85 (by decide) ?_
      obtain rfl := Option.some.inj hf
      exact E_vret dX4_nextToken_111 rfl ⟨rfl, rfl, rfl⟩
  · have hf := if_f c12 hf
    refine E_aload_n 0 dX4_nextToken_57 (q := 58) rfl rfl rfl ?_
    refine E_bipush (x := (-2)) dX4_nextToken_58 (q := 60) rfl (by decide) ?_
    refine E_put 4 dX4_nextToken_60 (q := 63) rfl ckX4 (Nat.le_of_ble_eq_true rfl) fl_X4_37 rfl rfl rfl (hF11.at 0 rfl) (hF11.lt 0 (Nat.le_of_ble_eq_true rfl)) (Nat.le_of_ble_eq_true rfl) (up_put (i := 0) (cs' := (txB γ 1 t_letters t_length t7 t7 (-2) t_value t_onTold t_stoveTold)) (Nat.le_of_ble_eq_true rfl) rfl) ?_
    refine E_goto (q := 111) dX4_nextToken_63 (by decide) ?_
    obtain rfl := Option.some.inj hf
    exact E_vret dX4_nextToken_111 rfl ⟨rfl, rfl, rfl⟩

-- PostRelief$Text.readEnd()Z
def f_X4_readEnd (N : Nat) (t_letters : FN) (t_length : Int32) (t_at : Int32) (t_start : Int32) (t_token : Int32) (t_value : Int32) : Option (Int32 × Int32 × Int32 × Int32 × Int32) :=
  ((f_X4_nextToken N t_letters t_length t_at t_start t_token t_value).bind fun z1 => (if z1.2.2.1 = 59 then some (1, z1.1, z1.2.1, z1.2.2.1, z1.2.2.2) else some (0, z1.1, z1.2.1, z1.2.2.1, z1.2.2.2)))
set_option maxHeartbeats 4000000 in
set_option maxRecDepth 100000 in
theorem m_X4_readEnd {γ : GX} {n : Nat} {N : Nat} {h : HP} {t_letters : FN} {t_length : Int32} {t_at : Int32} {t_start : Int32} {t_token : Int32} {t_value : Int32} {t_onTold : Int32} {t_stoveTold : Int32} (hH_t : Has n 1 (txB γ 1 t_letters t_length t_at t_start t_token t_value t_onTold t_stoveTold) h) {z : Int32 × Int32 × Int32 × Int32 × Int32} (hf : f_X4_readEnd N t_letters t_length t_at t_start t_token t_value = some z)  : Ct γ M_X4_readEnd n h [.ref (gB γ + 1)] (Done (some (.int z.1)) n (put 1 (txB γ 1 t_letters t_length z.2.1 z.2.2.1 z.2.2.2.1 z.2.2.2.2 t_onTold t_stoveTold) h)) := by
  have hn_t : 1 + 2 ≤ n := hH_t.1
  refine Ct.heap (h := (put 1 (txB γ 1 t_letters t_length t_at t_start t_token t_value t_onTold t_stoveTold) h)) (put_self hH_t).symm ?_
  refine Ct_of_Ev (by decide) (fun h => by cases h) (Nat.le_of_ble_eq_true rfl) ?_
  show Ev γ M_X4_readEnd (0, 0) n (put 1 (txB γ 1 t_letters t_length t_at t_start t_token t_value t_onTold t_stoveTold) h) [(0, .ref (gB γ + 1))] 0 [] _
  unfold f_X4_readEnd at hf
  refine E_aload_n 0 dX4_readEnd_0 (q := 1) rfl rfl rfl ?_
  obtain ⟨z1, hxz1, hf⟩ := bnd hf
  have hF2 : Has n 1 (txB γ 1 t_letters t_length t_at t_start t_token t_value t_onTold t_stoveTold) (put 1 (txB γ 1 t_letters t_length t_at t_start t_token t_value t_onTold t_stoveTold) h) := (has_put hn_t)
  refine E_cV (as := []) (k := 1) (rest := []) (u' := (0, 0)) (st' := []) dX4_readEnd_1 (q := 4) rfl lkm_X4_nextToken lkv_X4_34 (Nat.le_of_ble_eq_true rfl) ckX4 (hF2.at 0 rfl) (hF2.lt 0 (Nat.le_of_ble_eq_true rfl)) ⟨Nat.le_refl _, Nat.le_refl _⟩ (Nat.le_of_ble_eq_true rfl) rfl rfl (m_X4_nextToken (N := N)  hF2 hxz1) rfl rfl rfl ?_
  refine Ev.heap (put_put (k := 1) (cs := (txB γ 1 t_letters t_length t_at t_start t_token t_value t_onTold t_stoveTold)) (cs' := (txB γ 1 t_letters t_length z1.1 z1.2.1 z1.2.2.1 z1.2.2.2 t_onTold t_stoveTold)) (show (2 : Nat) = 2 from rfl)) ?_
  refine E_aload_n 0 dX4_readEnd_4 (q := 5) rfl rfl rfl ?_
  have hF4 : Has n 1 (txB γ 1 t_letters t_length z1.1 z1.2.1 z1.2.2.1 z1.2.2.2 t_onTold t_stoveTold) (put 1 (txB γ 1 t_letters t_length z1.1 z1.2.1 z1.2.2.1 z1.2.2.2 t_onTold t_stoveTold) h) := (has_put hn_t)
  refine E_get 4 dX4_readEnd_5 (q := 8) rfl ckX4 (Nat.le_of_ble_eq_true rfl) fl_X4_37 (hF4.at 0 rfl) (hF4.lt 0 (Nat.le_of_ble_eq_true rfl)) rfl ?_
  refine E_bipush (x := 59) dX4_readEnd_8 (q := 10) rfl (by decide) ?_
  refine E_icmp_ne dX4_readEnd_10 (t := 17) (by decide) (q := 13) rfl (fun c5 => ?_) (fun c5 => ?_)
  · have hf := if_f c5 hf
    refine E_iconst (x := 0) dX4_readEnd_17 (q := 18) rfl (by decide) ?_
    obtain rfl := Option.some.inj hf
    exact E_zret dX4_readEnd_18 rfl rfl ⟨rfl, rfl, rfl⟩
  · have hf := if_t c5 hf
    refine E_iconst (x := 1) dX4_readEnd_13 (q := 14) rfl (by decide) ?_
    refine E_goto (q := 18) dX4_readEnd_14 (by decide) ?_
    obtain rfl := Option.some.inj hf
    exact E_zret dX4_readEnd_18 rfl rfl ⟨rfl, rfl, rfl⟩

-- PostRelief$Text.readNumber(II)Z
def f_X4_readNumber (N : Nat) (a1 : Int32) (a2 : Int32) (t_letters : FN) (t_length : Int32) (t_at : Int32) (t_start : Int32) (t_token : Int32) (t_value : Int32) : Option (Int32 × Int32 × Int32 × Int32 × Int32) :=
  ((f_X4_nextToken N t_letters t_length t_at t_start t_token t_value).bind fun z1 => (if z1.2.2.1 = (-1) then (if z1.2.2.2 < a1 then some (0, z1.1, z1.2.1, z1.2.2.1, z1.2.2.2) else (if a2 < z1.2.2.2 then some (0, z1.1, z1.2.1, z1.2.2.1, z1.2.2.2) else some (1, z1.1, z1.2.1, z1.2.2.1, z1.2.2.2))) else some (0, z1.1, z1.2.1, z1.2.2.1, z1.2.2.2)))
set_option maxHeartbeats 4000000 in
set_option maxRecDepth 100000 in
theorem m_X4_readNumber {γ : GX} {n : Nat} {N : Nat} {h : HP} {a1 : Int32} {a2 : Int32} {t_letters : FN} {t_length : Int32} {t_at : Int32} {t_start : Int32} {t_token : Int32} {t_value : Int32} {t_onTold : Int32} {t_stoveTold : Int32} (hH_t : Has n 1 (txB γ 1 t_letters t_length t_at t_start t_token t_value t_onTold t_stoveTold) h) {z : Int32 × Int32 × Int32 × Int32 × Int32} (hf : f_X4_readNumber N a1 a2 t_letters t_length t_at t_start t_token t_value = some z)  : Ct γ M_X4_readNumber n h [.ref (gB γ + 1), .int a1, .int a2] (Done (some (.int z.1)) n (put 1 (txB γ 1 t_letters t_length z.2.1 z.2.2.1 z.2.2.2.1 z.2.2.2.2 t_onTold t_stoveTold) h)) := by
  have hn_t : 1 + 2 ≤ n := hH_t.1
  refine Ct.heap (h := (put 1 (txB γ 1 t_letters t_length t_at t_start t_token t_value t_onTold t_stoveTold) h)) (put_self hH_t).symm ?_
  refine Ct_of_Ev (by decide) (fun h => by cases h) (Nat.le_of_ble_eq_true rfl) ?_
  show Ev γ M_X4_readNumber (0, 0) n (put 1 (txB γ 1 t_letters t_length t_at t_start t_token t_value t_onTold t_stoveTold) h) [(0, .ref (gB γ + 1)), (1, .int a1), (2, .int a2)] 0 [] _
  unfold f_X4_readNumber at hf
  refine E_aload_n 0 dX4_readNumber_0 (q := 1) rfl rfl rfl ?_
  obtain ⟨z1, hxz1, hf⟩ := bnd hf
  have hF2 : Has n 1 (txB γ 1 t_letters t_length t_at t_start t_token t_value t_onTold t_stoveTold) (put 1 (txB γ 1 t_letters t_length t_at t_start t_token t_value t_onTold t_stoveTold) h) := (has_put hn_t)
  refine E_cV (as := []) (k := 1) (rest := []) (u' := (0, 0)) (st' := []) dX4_readNumber_1 (q := 4) rfl lkm_X4_nextToken lkv_X4_34 (Nat.le_of_ble_eq_true rfl) ckX4 (hF2.at 0 rfl) (hF2.lt 0 (Nat.le_of_ble_eq_true rfl)) ⟨Nat.le_refl _, Nat.le_refl _⟩ (Nat.le_of_ble_eq_true rfl) rfl rfl (m_X4_nextToken (N := N)  hF2 hxz1) rfl rfl rfl ?_
  refine Ev.heap (put_put (k := 1) (cs := (txB γ 1 t_letters t_length t_at t_start t_token t_value t_onTold t_stoveTold)) (cs' := (txB γ 1 t_letters t_length z1.1 z1.2.1 z1.2.2.1 z1.2.2.2 t_onTold t_stoveTold)) (show (2 : Nat) = 2 from rfl)) ?_
  refine E_aload_n 0 dX4_readNumber_4 (q := 5) rfl rfl rfl ?_
  have hF4 : Has n 1 (txB γ 1 t_letters t_length z1.1 z1.2.1 z1.2.2.1 z1.2.2.2 t_onTold t_stoveTold) (put 1 (txB γ 1 t_letters t_length z1.1 z1.2.1 z1.2.2.1 z1.2.2.2 t_onTold t_stoveTold) h) := (has_put hn_t)
  refine E_get 4 dX4_readNumber_5 (q := 8) rfl ckX4 (Nat.le_of_ble_eq_true rfl) fl_X4_37 (hF4.at 0 rfl) (hF4.lt 0 (Nat.le_of_ble_eq_true rfl)) rfl ?_
  refine E_iconst (x := (-1)) dX4_readNumber_8 (q := 9) rfl (by decide) ?_
  refine E_icmp_ne dX4_readNumber_9 (t := 32) (by decide) (q := 12) rfl (fun c5 => ?_) (fun c5 => ?_)
  · have hf := if_f c5 hf
    refine E_iconst (x := 0) dX4_readNumber_32 (q := 33) rfl (by decide) ?_
    obtain rfl := Option.some.inj hf
    exact E_zret dX4_readNumber_33 rfl rfl ⟨rfl, rfl, rfl⟩
  · have hf := if_t c5 hf
    refine E_aload_n 0 dX4_readNumber_12 (q := 13) rfl rfl rfl ?_
    refine E_get 5 dX4_readNumber_13 (q := 16) rfl ckX4 (Nat.le_of_ble_eq_true rfl) fl_X4_69 (hF4.at 0 rfl) (hF4.lt 0 (Nat.le_of_ble_eq_true rfl)) rfl ?_
    refine E_iload_n 1 dX4_readNumber_16 (q := 17) rfl rfl rfl ?_
    refine E_icmp_lt dX4_readNumber_17 (t := 32) (by decide) (q := 20) rfl (fun c6 => ?_) (fun c6 => ?_)
    · have hf := if_t c6 hf
      refine E_iconst (x := 0) dX4_readNumber_32 (q := 33) rfl (by decide) ?_
      obtain rfl := Option.some.inj hf
      exact E_zret dX4_readNumber_33 rfl rfl ⟨rfl, rfl, rfl⟩
    · have hf := if_f c6 hf
      refine E_aload_n 0 dX4_readNumber_20 (q := 21) rfl rfl rfl ?_
      refine E_get 5 dX4_readNumber_21 (q := 24) rfl ckX4 (Nat.le_of_ble_eq_true rfl) fl_X4_69 (hF4.at 0 rfl) (hF4.lt 0 (Nat.le_of_ble_eq_true rfl)) rfl ?_
      refine E_iload_n 2 dX4_readNumber_24 (q := 25) rfl rfl rfl ?_
      refine E_icmp_gt dX4_readNumber_25 (t := 32) (by decide) (q := 28) rfl (fun c7 => ?_) (fun c7 => ?_)
      · have hf := if_t c7 hf
        refine E_iconst (x := 0) dX4_readNumber_32 (q := 33) rfl (by decide) ?_
        obtain rfl := Option.some.inj hf
        exact E_zret dX4_readNumber_33 rfl rfl ⟨rfl, rfl, rfl⟩
      · have hf := if_f c7 hf
        refine E_iconst (x := 1) dX4_readNumber_28 (q := 29) rfl (by decide) ?_
        refine E_goto (q := 33) dX4_readNumber_29 (by decide) ?_
        obtain rfl := Option.some.inj hf
        exact E_zret dX4_readNumber_33 rfl rfl ⟨rfl, rfl, rfl⟩

-- PostRelief$Text.readPost(LPostRelief$Depot;)Z
def f_X4_readPost (N : Nat) (t_letters : FN) (t_length : Int32) (t_at : Int32) (t_start : Int32) (t_token : Int32) (t_value : Int32) (g_posts : Int32) (g_sees : FN) (g_cold : FN) : Option (Int32 × Int32 × Int32 × Int32 × Int32 × Int32 × FN × FN) :=
  (if 5 ≤ g_posts then some (0, t_at, t_start, t_token, t_value, g_posts, g_sees, g_cold) else ((f_X4_readNumber N 0 31 t_letters t_length t_at t_start t_token t_value).bind fun z3 => (if z3.1 = 0 then some (0, z3.2.1, z3.2.2.1, z3.2.2.2.1, z3.2.2.2.2, g_posts, g_sees, g_cold) else (if ix g_posts 5 = true then ((f_X4_readNumber N 0 9 t_letters t_length z3.2.1 z3.2.2.1 z3.2.2.2.1 z3.2.2.2.2).bind fun z11 => (if z11.1 = 0 then some (0, z11.2.1, z11.2.2.1, z11.2.2.2.1, z11.2.2.2.2, g_posts, (upd g_sees (ci g_posts) z3.2.2.2.2), g_cold) else ((f_X4_readEnd N t_letters t_length z11.2.1 z11.2.2.1 z11.2.2.2.1 z11.2.2.2.2).bind fun z20 => (if z20.1 &&& 1 = z20.1 then some (z20.1, z20.2.1, z20.2.2.1, z20.2.2.2.1, z20.2.2.2.2, (g_posts + 1), (upd g_sees (ci g_posts) z3.2.2.2.2), (upd g_cold (ci g_posts) z11.2.2.2.2)) else none)))) else none))))
set_option maxHeartbeats 4000000 in
set_option maxRecDepth 100000 in
theorem m_X4_readPost {γ : GX} {n : Nat} {N : Nat} {h : HP} {t_letters : FN} {t_length : Int32} {t_at : Int32} {t_start : Int32} {t_token : Int32} {t_value : Int32} {t_onTold : Int32} {t_stoveTold : Int32} {g_posts : Int32} {g_sees : FN} {g_cold : FN} {g_men : Int32} {g_debts : FN} {g_on : Int32} {g_stove : Int32} (hH_t : Has n 1 (txB γ 1 t_letters t_length t_at t_start t_token t_value t_onTold t_stoveTold) h) (hH_g : Has n 7 (dpB γ 7 g_posts g_sees g_cold g_men g_debts g_on g_stove) h) {z : Int32 × Int32 × Int32 × Int32 × Int32 × Int32 × FN × FN} (hf : f_X4_readPost N t_letters t_length t_at t_start t_token t_value g_posts g_sees g_cold = some z)  : Ct γ M_X4_readPost n h [.ref (gB γ + 1), .ref (gB γ + 7)] (Done (some (.int z.1)) n (put 1 (txB γ 1 t_letters t_length z.2.1 z.2.2.1 z.2.2.2.1 z.2.2.2.2.1 t_onTold t_stoveTold) (put 7 (dpB γ 7 z.2.2.2.2.2.1 z.2.2.2.2.2.2.1 z.2.2.2.2.2.2.2 g_men g_debts g_on g_stove) h))) := by
  have hn_t : 1 + 2 ≤ n := hH_t.1
  have hn_g : 7 + 4 ≤ n := hH_g.1
  refine Ct.heap (h := (put 1 (txB γ 1 t_letters t_length t_at t_start t_token t_value t_onTold t_stoveTold) (put 7 (dpB γ 7 g_posts g_sees g_cold g_men g_debts g_on g_stove) h))) ((congrArg (put 1 (txB γ 1 t_letters t_length t_at t_start t_token t_value t_onTold t_stoveTold)) (put_self hH_g)).trans (put_self hH_t)).symm ?_
  refine Ct_of_Ev (by decide) (fun h => by cases h) (Nat.le_of_ble_eq_true rfl) ?_
  show Ev γ M_X4_readPost (0, 0) n (put 1 (txB γ 1 t_letters t_length t_at t_start t_token t_value t_onTold t_stoveTold) (put 7 (dpB γ 7 g_posts g_sees g_cold g_men g_debts g_on g_stove) h)) [(0, .ref (gB γ + 1)), (1, .ref (gB γ + 7))] 0 [] _
  unfold f_X4_readPost at hf
  refine E_aload_n 1 dX4_readPost_0 (q := 1) rfl rfl rfl ?_
  have hF1 : Has n 7 (dpB γ 7 g_posts g_sees g_cold g_men g_debts g_on g_stove) (put 1 (txB γ 1 t_letters t_length t_at t_start t_token t_value t_onTold t_stoveTold) (put 7 (dpB γ 7 g_posts g_sees g_cold g_men g_debts g_on g_stove) h)) := (has_out (has_put hn_g) (Or.inr (Nat.le_of_ble_eq_true rfl)))
  refine E_get 0 dX4_readPost_1 (q := 4) rfl ckX0 (Nat.le_of_ble_eq_true rfl) fl_X4_59 (hF1.at 0 rfl) (hF1.lt 0 (Nat.le_of_ble_eq_true rfl)) rfl ?_
  refine E_iconst (x := 5) dX4_readPost_4 (q := 5) rfl (by decide) ?_
  refine E_icmp_ge dX4_readPost_5 (t := 18) (by decide) (q := 8) rfl (fun c2 => ?_) (fun c2 => ?_)
  · have hf := if_t c2 hf
    refine E_iconst (x := 0) dX4_readPost_18 (q := 19) rfl (by decide) ?_
    obtain rfl := Option.some.inj hf
    exact E_zret dX4_readPost_19 rfl rfl ⟨rfl, rfl, rfl⟩
  · have hf := if_f c2 hf
    refine E_aload_n 0 dX4_readPost_8 (q := 9) rfl rfl rfl ?_
    refine E_iconst (x := 0) dX4_readPost_9 (q := 10) rfl (by decide) ?_
    refine E_bipush (x := 31) dX4_readPost_10 (q := 12) rfl (by decide) ?_
    obtain ⟨z3, hxz3, hf⟩ := bnd hf
    have hF4 : Has n 1 (txB γ 1 t_letters t_length t_at t_start t_token t_value t_onTold t_stoveTold) (put 1 (txB γ 1 t_letters t_length t_at t_start t_token t_value t_onTold t_stoveTold) (put 7 (dpB γ 7 g_posts g_sees g_cold g_men g_debts g_on g_stove) h)) := (has_put hn_t)
    refine E_cV (as := [.int 0, .int 31]) (k := 1) (rest := []) (u' := (0, 0)) (st' := [.int z3.1]) dX4_readPost_12 (q := 15) rfl lkm_X4_readNumber lkv_X4_62 (Nat.le_of_ble_eq_true rfl) ckX4 (hF4.at 0 rfl) (hF4.lt 0 (Nat.le_of_ble_eq_true rfl)) ⟨Nat.le_refl _, Nat.le_refl _⟩ (Nat.le_of_ble_eq_true rfl) rfl rfl (m_X4_readNumber (N := N)  hF4 hxz3) rfl rfl rfl ?_
    refine Ev.heap (put_put (k := 1) (cs := (txB γ 1 t_letters t_length t_at t_start t_token t_value t_onTold t_stoveTold)) (cs' := (txB γ 1 t_letters t_length z3.2.1 z3.2.2.1 z3.2.2.2.1 z3.2.2.2.2 t_onTold t_stoveTold)) (show (2 : Nat) = 2 from rfl)) ?_
    refine E_if_ne dX4_readPost_15 (t := 20) (by decide) (q := 18) rfl (fun c6 => ?_) (fun c6 => ?_)
    · have hf := if_f c6 hf
      refine E_aload_n 1 dX4_readPost_20 (q := 21) rfl rfl rfl ?_
      have hF7 : Has n 7 (dpB γ 7 g_posts g_sees g_cold g_men g_debts g_on g_stove) (put 1 (txB γ 1 t_letters t_length z3.2.1 z3.2.2.1 z3.2.2.2.1 z3.2.2.2.2 t_onTold t_stoveTold) (put 7 (dpB γ 7 g_posts g_sees g_cold g_men g_debts g_on g_stove) h)) := (has_out (has_put hn_g) (Or.inr (Nat.le_of_ble_eq_true rfl)))
      refine E_get 1 dX4_readPost_21 (q := 24) rfl ckX0 (Nat.le_of_ble_eq_true rfl) fl_X4_66 (hF7.at 0 rfl) (hF7.lt 0 (Nat.le_of_ble_eq_true rfl)) rfl ?_
      refine E_aload_n 1 dX4_readPost_24 (q := 25) rfl rfl rfl ?_
      refine E_get 0 dX4_readPost_25 (q := 28) rfl ckX0 (Nat.le_of_ble_eq_true rfl) fl_X4_59 (hF7.at 0 rfl) (hF7.lt 0 (Nat.le_of_ble_eq_true rfl)) rfl ?_
      refine E_aload_n 0 dX4_readPost_28 (q := 29) rfl rfl rfl ?_
      have hF8 : Has n 1 (txB γ 1 t_letters t_length z3.2.1 z3.2.2.1 z3.2.2.2.1 z3.2.2.2.2 t_onTold t_stoveTold) (put 1 (txB γ 1 t_letters t_length z3.2.1 z3.2.2.1 z3.2.2.2.1 z3.2.2.2.2 t_onTold t_stoveTold) (put 7 (dpB γ 7 g_posts g_sees g_cold g_men g_debts g_on g_stove) h)) := (has_put hn_t)
      refine E_get 5 dX4_readPost_29 (q := 32) rfl ckX4 (Nat.le_of_ble_eq_true rfl) fl_X4_69 (hF8.at 0 rfl) (hF8.lt 0 (Nat.le_of_ble_eq_true rfl)) rfl ?_
      obtain ⟨g9, hf⟩ := gd hf
      refine E_iast dX4_readPost_32 (q := 33) rfl (hF7.at 1 rfl) (hF7.lt 1 (Nat.le_of_ble_eq_true rfl)) g9 ((up_put_out (Or.inr (Nat.le_of_ble_eq_true rfl))).trans (congrArg (put 1 (txB γ 1 t_letters t_length z3.2.1 z3.2.2.1 z3.2.2.2.1 z3.2.2.2.2 t_onTold t_stoveTold)) (up_put (i := 1) (cs' := (dpB γ 7 g_posts (upd g_sees (ci g_posts) z3.2.2.2.2) g_cold g_men g_debts g_on g_stove)) (Nat.le_of_ble_eq_true rfl) rfl))) ?_
      refine E_aload_n 0 dX4_readPost_33 (q := 34) rfl rfl rfl ?_
      refine E_iconst (x := 0) dX4_readPost_34 (q := 35) rfl (by decide) ?_
      refine E_bipush (x := 9) dX4_readPost_35 (q := 37) rfl (by decide) ?_
      obtain ⟨z11, hxz11, hf⟩ := bnd hf
      have hF12 : Has n 1 (txB γ 1 t_letters t_length z3.2.1 z3.2.2.1 z3.2.2.2.1 z3.2.2.2.2 t_onTold t_stoveTold) (put 1 (txB γ 1 t_letters t_length z3.2.1 z3.2.2.1 z3.2.2.2.1 z3.2.2.2.2 t_onTold t_stoveTold) (put 7 (dpB γ 7 g_posts (upd g_sees (ci g_posts) z3.2.2.2.2) g_cold g_men g_debts g_on g_stove) h)) := (has_put hn_t)
      refine E_cV (as := [.int 0, .int 9]) (k := 1) (rest := []) (u' := (0, 0)) (st' := [.int z11.1]) dX4_readPost_37 (q := 40) rfl lkm_X4_readNumber lkv_X4_62 (Nat.le_of_ble_eq_true rfl) ckX4 (hF12.at 0 rfl) (hF12.lt 0 (Nat.le_of_ble_eq_true rfl)) ⟨Nat.le_refl _, Nat.le_refl _⟩ (Nat.le_of_ble_eq_true rfl) rfl rfl (m_X4_readNumber (N := N)  hF12 hxz11) rfl rfl rfl ?_
      refine Ev.heap (put_put (k := 1) (cs := (txB γ 1 t_letters t_length z3.2.1 z3.2.2.1 z3.2.2.2.1 z3.2.2.2.2 t_onTold t_stoveTold)) (cs' := (txB γ 1 t_letters t_length z11.2.1 z11.2.2.1 z11.2.2.2.1 z11.2.2.2.2 t_onTold t_stoveTold)) (show (2 : Nat) = 2 from rfl)) ?_
      refine E_if_ne dX4_readPost_40 (t := 45) (by decide) (q := 43) rfl (fun c14 => ?_) (fun c14 => ?_)
      · have hf := if_f c14 hf
        refine E_aload_n 1 dX4_readPost_45 (q := 46) rfl rfl rfl ?_
        have hF15 : Has n 7 (dpB γ 7 g_posts (upd g_sees (ci g_posts) z3.2.2.2.2) g_cold g_men g_debts g_on g_stove) (put 1 (txB γ 1 t_letters t_length z11.2.1 z11.2.2.1 z11.2.2.2.1 z11.2.2.2.2 t_onTold t_stoveTold) (put 7 (dpB γ 7 g_posts (upd g_sees (ci g_posts) z3.2.2.2.2) g_cold g_men g_debts g_on g_stove) h)) := (has_out (has_put hn_g) (Or.inr (Nat.le_of_ble_eq_true rfl)))
        refine E_get 2 dX4_readPost_46 (q := 49) rfl ckX0 (Nat.le_of_ble_eq_true rfl) fl_X4_72 (hF15.at 0 rfl) (hF15.lt 0 (Nat.le_of_ble_eq_true rfl)) rfl ?_
        refine E_aload_n 1 dX4_readPost_49 (q := 50) rfl rfl rfl ?_
        refine E_get 0 dX4_readPost_50 (q := 53) rfl ckX0 (Nat.le_of_ble_eq_true rfl) fl_X4_59 (hF15.at 0 rfl) (hF15.lt 0 (Nat.le_of_ble_eq_true rfl)) rfl ?_
        refine E_aload_n 0 dX4_readPost_53 (q := 54) rfl rfl rfl ?_
        have hF16 : Has n 1 (txB γ 1 t_letters t_length z11.2.1 z11.2.2.1 z11.2.2.2.1 z11.2.2.2.2 t_onTold t_stoveTold) (put 1 (txB γ 1 t_letters t_length z11.2.1 z11.2.2.1 z11.2.2.2.1 z11.2.2.2.2 t_onTold t_stoveTold) (put 7 (dpB γ 7 g_posts (upd g_sees (ci g_posts) z3.2.2.2.2) g_cold g_men g_debts g_on g_stove) h)) := (has_put hn_t)
        refine E_get 5 dX4_readPost_54 (q := 57) rfl ckX4 (Nat.le_of_ble_eq_true rfl) fl_X4_69 (hF16.at 0 rfl) (hF16.lt 0 (Nat.le_of_ble_eq_true rfl)) rfl ?_
        refine E_iast dX4_readPost_57 (q := 58) rfl (hF15.at 2 rfl) (hF15.lt 2 (Nat.le_of_ble_eq_true rfl)) g9 ((up_put_out (Or.inr (Nat.le_of_ble_eq_true rfl))).trans (congrArg (put 1 (txB γ 1 t_letters t_length z11.2.1 z11.2.2.1 z11.2.2.2.1 z11.2.2.2.2 t_onTold t_stoveTold)) (up_put (i := 2) (cs' := (dpB γ 7 g_posts (upd g_sees (ci g_posts) z3.2.2.2.2) (upd g_cold (ci g_posts) z11.2.2.2.2) g_men g_debts g_on g_stove)) (Nat.le_of_ble_eq_true rfl) rfl))) ?_
        refine E_aload_n 1 dX4_readPost_58 (q := 59) rfl rfl rfl ?_
        refine E_dup dX4_readPost_59 (q := 60) rfl rfl ?_
        have hF18 : Has n 7 (dpB γ 7 g_posts (upd g_sees (ci g_posts) z3.2.2.2.2) (upd g_cold (ci g_posts) z11.2.2.2.2) g_men g_debts g_on g_stove) (put 1 (txB γ 1 t_letters t_length z11.2.1 z11.2.2.1 z11.2.2.2.1 z11.2.2.2.2 t_onTold t_stoveTold) (put 7 (dpB γ 7 g_posts (upd g_sees (ci g_posts) z3.2.2.2.2) (upd g_cold (ci g_posts) z11.2.2.2.2) g_men g_debts g_on g_stove) h)) := (has_out (has_put hn_g) (Or.inr (Nat.le_of_ble_eq_true rfl)))
        refine E_get 0 dX4_readPost_60 (q := 63) rfl ckX0 (Nat.le_of_ble_eq_true rfl) fl_X4_59 (hF18.at 0 rfl) (hF18.lt 0 (Nat.le_of_ble_eq_true rfl)) rfl ?_
        refine E_iconst (x := 1) dX4_readPost_63 (q := 64) rfl (by decide) ?_
        refine E_iadd dX4_readPost_64 (q := 65) rfl ?_
        refine E_put 0 dX4_readPost_65 (q := 68) rfl ckX0 (Nat.le_of_ble_eq_true rfl) fl_X4_59 rfl rfl rfl (hF18.at 0 rfl) (hF18.lt 0 (Nat.le_of_ble_eq_true rfl)) (Nat.le_of_ble_eq_true rfl) ((up_put_out (Or.inr (Nat.le_of_ble_eq_true rfl))).trans (congrArg (put 1 (txB γ 1 t_letters t_length z11.2.1 z11.2.2.1 z11.2.2.2.1 z11.2.2.2.2 t_onTold t_stoveTold)) (up_put (i := 0) (cs' := (dpB γ 7 (g_posts + 1) (upd g_sees (ci g_posts) z3.2.2.2.2) (upd g_cold (ci g_posts) z11.2.2.2.2) g_men g_debts g_on g_stove)) (Nat.le_of_ble_eq_true rfl) rfl))) ?_
        refine E_aload_n 0 dX4_readPost_68 (q := 69) rfl rfl rfl ?_
        obtain ⟨z20, hxz20, hf⟩ := bnd hf
        have hF21 : Has n 1 (txB γ 1 t_letters t_length z11.2.1 z11.2.2.1 z11.2.2.2.1 z11.2.2.2.2 t_onTold t_stoveTold) (put 1 (txB γ 1 t_letters t_length z11.2.1 z11.2.2.1 z11.2.2.2.1 z11.2.2.2.2 t_onTold t_stoveTold) (put 7 (dpB γ 7 (g_posts + 1) (upd g_sees (ci g_posts) z3.2.2.2.2) (upd g_cold (ci g_posts) z11.2.2.2.2) g_men g_debts g_on g_stove) h)) := (has_put hn_t)
        refine E_cV (as := []) (k := 1) (rest := []) (u' := (0, 0)) (st' := [.int z20.1]) dX4_readPost_69 (q := 72) rfl lkm_X4_readEnd lkv_X4_75 (Nat.le_of_ble_eq_true rfl) ckX4 (hF21.at 0 rfl) (hF21.lt 0 (Nat.le_of_ble_eq_true rfl)) ⟨Nat.le_refl _, Nat.le_refl _⟩ (Nat.le_of_ble_eq_true rfl) rfl rfl (m_X4_readEnd (N := N)  hF21 hxz20) rfl rfl rfl ?_
        refine Ev.heap (put_put (k := 1) (cs := (txB γ 1 t_letters t_length z11.2.1 z11.2.2.1 z11.2.2.2.1 z11.2.2.2.2 t_onTold t_stoveTold)) (cs' := (txB γ 1 t_letters t_length z20.2.1 z20.2.2.1 z20.2.2.2.1 z20.2.2.2.2 t_onTold t_stoveTold)) (show (2 : Nat) = 2 from rfl)) ?_
        obtain ⟨g23, hf⟩ := gd hf
        obtain rfl := Option.some.inj hf
        exact E_zret dX4_readPost_72 rfl g23 ⟨rfl, rfl, rfl⟩
      · have hf := if_t c14 hf
        refine E_iconst (x := 0) dX4_readPost_43 (q := 44) rfl (by decide) ?_
        obtain rfl := Option.some.inj hf
        exact E_zret dX4_readPost_44 rfl rfl ⟨rfl, rfl, rfl⟩
    · have hf := if_t c6 hf
      refine E_iconst (x := 0) dX4_readPost_18 (q := 19) rfl (by decide) ?_
      obtain rfl := Option.some.inj hf
      exact E_zret dX4_readPost_19 rfl rfl ⟨rfl, rfl, rfl⟩

-- PostRelief$Text.readMan(LPostRelief$Depot;)Z
def f_X4_readMan (N : Nat) (t_letters : FN) (t_length : Int32) (t_at : Int32) (t_start : Int32) (t_token : Int32) (t_value : Int32) (g_men : Int32) (g_debts : FN) : Option (Int32 × Int32 × Int32 × Int32 × Int32 × Int32 × FN) :=
  (if 6 ≤ g_men then some (0, t_at, t_start, t_token, t_value, g_men, g_debts) else ((f_X4_readNumber N 0 60 t_letters t_length t_at t_start t_token t_value).bind fun z3 => (if z3.1 = 0 then some (0, z3.2.1, z3.2.2.1, z3.2.2.2.1, z3.2.2.2.2, g_men, g_debts) else (if ix g_men 6 = true then ((f_X4_readEnd N t_letters t_length z3.2.1 z3.2.2.1 z3.2.2.2.1 z3.2.2.2.2).bind fun z13 => (if z13.1 &&& 1 = z13.1 then some (z13.1, z13.2.1, z13.2.2.1, z13.2.2.2.1, z13.2.2.2.2, (g_men + 1), (upd g_debts (ci g_men) z3.2.2.2.2)) else none)) else none))))
set_option maxHeartbeats 4000000 in
set_option maxRecDepth 100000 in
theorem m_X4_readMan {γ : GX} {n : Nat} {N : Nat} {h : HP} {t_letters : FN} {t_length : Int32} {t_at : Int32} {t_start : Int32} {t_token : Int32} {t_value : Int32} {t_onTold : Int32} {t_stoveTold : Int32} {g_posts : Int32} {g_sees : FN} {g_cold : FN} {g_men : Int32} {g_debts : FN} {g_on : Int32} {g_stove : Int32} (hH_t : Has n 1 (txB γ 1 t_letters t_length t_at t_start t_token t_value t_onTold t_stoveTold) h) (hH_g : Has n 7 (dpB γ 7 g_posts g_sees g_cold g_men g_debts g_on g_stove) h) {z : Int32 × Int32 × Int32 × Int32 × Int32 × Int32 × FN} (hf : f_X4_readMan N t_letters t_length t_at t_start t_token t_value g_men g_debts = some z)  : Ct γ M_X4_readMan n h [.ref (gB γ + 1), .ref (gB γ + 7)] (Done (some (.int z.1)) n (put 1 (txB γ 1 t_letters t_length z.2.1 z.2.2.1 z.2.2.2.1 z.2.2.2.2.1 t_onTold t_stoveTold) (put 7 (dpB γ 7 g_posts g_sees g_cold z.2.2.2.2.2.1 z.2.2.2.2.2.2 g_on g_stove) h))) := by
  have hn_t : 1 + 2 ≤ n := hH_t.1
  have hn_g : 7 + 4 ≤ n := hH_g.1
  refine Ct.heap (h := (put 1 (txB γ 1 t_letters t_length t_at t_start t_token t_value t_onTold t_stoveTold) (put 7 (dpB γ 7 g_posts g_sees g_cold g_men g_debts g_on g_stove) h))) ((congrArg (put 1 (txB γ 1 t_letters t_length t_at t_start t_token t_value t_onTold t_stoveTold)) (put_self hH_g)).trans (put_self hH_t)).symm ?_
  refine Ct_of_Ev (by decide) (fun h => by cases h) (Nat.le_of_ble_eq_true rfl) ?_
  show Ev γ M_X4_readMan (0, 0) n (put 1 (txB γ 1 t_letters t_length t_at t_start t_token t_value t_onTold t_stoveTold) (put 7 (dpB γ 7 g_posts g_sees g_cold g_men g_debts g_on g_stove) h)) [(0, .ref (gB γ + 1)), (1, .ref (gB γ + 7))] 0 [] _
  unfold f_X4_readMan at hf
  refine E_aload_n 1 dX4_readMan_0 (q := 1) rfl rfl rfl ?_
  have hF1 : Has n 7 (dpB γ 7 g_posts g_sees g_cold g_men g_debts g_on g_stove) (put 1 (txB γ 1 t_letters t_length t_at t_start t_token t_value t_onTold t_stoveTold) (put 7 (dpB γ 7 g_posts g_sees g_cold g_men g_debts g_on g_stove) h)) := (has_out (has_put hn_g) (Or.inr (Nat.le_of_ble_eq_true rfl)))
  refine E_get 3 dX4_readMan_1 (q := 4) rfl ckX0 (Nat.le_of_ble_eq_true rfl) fl_X4_79 (hF1.at 0 rfl) (hF1.lt 0 (Nat.le_of_ble_eq_true rfl)) rfl ?_
  refine E_bipush (x := 6) dX4_readMan_4 (q := 6) rfl (by decide) ?_
  refine E_icmp_ge dX4_readMan_6 (t := 19) (by decide) (q := 9) rfl (fun c2 => ?_) (fun c2 => ?_)
  · have hf := if_t c2 hf
    refine E_iconst (x := 0) dX4_readMan_19 (q := 20) rfl (by decide) ?_
    obtain rfl := Option.some.inj hf
    exact E_zret dX4_readMan_20 rfl rfl ⟨rfl, rfl, rfl⟩
  · have hf := if_f c2 hf
    refine E_aload_n 0 dX4_readMan_9 (q := 10) rfl rfl rfl ?_
    refine E_iconst (x := 0) dX4_readMan_10 (q := 11) rfl (by decide) ?_
    refine E_bipush (x := 60) dX4_readMan_11 (q := 13) rfl (by decide) ?_
    obtain ⟨z3, hxz3, hf⟩ := bnd hf
    have hF4 : Has n 1 (txB γ 1 t_letters t_length t_at t_start t_token t_value t_onTold t_stoveTold) (put 1 (txB γ 1 t_letters t_length t_at t_start t_token t_value t_onTold t_stoveTold) (put 7 (dpB γ 7 g_posts g_sees g_cold g_men g_debts g_on g_stove) h)) := (has_put hn_t)
    refine E_cV (as := [.int 0, .int 60]) (k := 1) (rest := []) (u' := (0, 0)) (st' := [.int z3.1]) dX4_readMan_13 (q := 16) rfl lkm_X4_readNumber lkv_X4_62 (Nat.le_of_ble_eq_true rfl) ckX4 (hF4.at 0 rfl) (hF4.lt 0 (Nat.le_of_ble_eq_true rfl)) ⟨Nat.le_refl _, Nat.le_refl _⟩ (Nat.le_of_ble_eq_true rfl) rfl rfl (m_X4_readNumber (N := N)  hF4 hxz3) rfl rfl rfl ?_
    refine Ev.heap (put_put (k := 1) (cs := (txB γ 1 t_letters t_length t_at t_start t_token t_value t_onTold t_stoveTold)) (cs' := (txB γ 1 t_letters t_length z3.2.1 z3.2.2.1 z3.2.2.2.1 z3.2.2.2.2 t_onTold t_stoveTold)) (show (2 : Nat) = 2 from rfl)) ?_
    refine E_if_ne dX4_readMan_16 (t := 21) (by decide) (q := 19) rfl (fun c6 => ?_) (fun c6 => ?_)
    · have hf := if_f c6 hf
      refine E_aload_n 1 dX4_readMan_21 (q := 22) rfl rfl rfl ?_
      have hF7 : Has n 7 (dpB γ 7 g_posts g_sees g_cold g_men g_debts g_on g_stove) (put 1 (txB γ 1 t_letters t_length z3.2.1 z3.2.2.1 z3.2.2.2.1 z3.2.2.2.2 t_onTold t_stoveTold) (put 7 (dpB γ 7 g_posts g_sees g_cold g_men g_debts g_on g_stove) h)) := (has_out (has_put hn_g) (Or.inr (Nat.le_of_ble_eq_true rfl)))
      refine E_get 4 dX4_readMan_22 (q := 25) rfl ckX0 (Nat.le_of_ble_eq_true rfl) fl_X4_82 (hF7.at 0 rfl) (hF7.lt 0 (Nat.le_of_ble_eq_true rfl)) rfl ?_
      refine E_aload_n 1 dX4_readMan_25 (q := 26) rfl rfl rfl ?_
      refine E_get 3 dX4_readMan_26 (q := 29) rfl ckX0 (Nat.le_of_ble_eq_true rfl) fl_X4_79 (hF7.at 0 rfl) (hF7.lt 0 (Nat.le_of_ble_eq_true rfl)) rfl ?_
      refine E_aload_n 0 dX4_readMan_29 (q := 30) rfl rfl rfl ?_
      have hF8 : Has n 1 (txB γ 1 t_letters t_length z3.2.1 z3.2.2.1 z3.2.2.2.1 z3.2.2.2.2 t_onTold t_stoveTold) (put 1 (txB γ 1 t_letters t_length z3.2.1 z3.2.2.1 z3.2.2.2.1 z3.2.2.2.2 t_onTold t_stoveTold) (put 7 (dpB γ 7 g_posts g_sees g_cold g_men g_debts g_on g_stove) h)) := (has_put hn_t)
      refine E_get 5 dX4_readMan_30 (q := 33) rfl ckX4 (Nat.le_of_ble_eq_true rfl) fl_X4_69 (hF8.at 0 rfl) (hF8.lt 0 (Nat.le_of_ble_eq_true rfl)) rfl ?_
      obtain ⟨g9, hf⟩ := gd hf
      refine E_iast dX4_readMan_33 (q := 34) rfl (hF7.at 3 rfl) (hF7.lt 3 (Nat.le_of_ble_eq_true rfl)) g9 ((up_put_out (Or.inr (Nat.le_of_ble_eq_true rfl))).trans (congrArg (put 1 (txB γ 1 t_letters t_length z3.2.1 z3.2.2.1 z3.2.2.2.1 z3.2.2.2.2 t_onTold t_stoveTold)) (up_put (i := 3) (cs' := (dpB γ 7 g_posts g_sees g_cold g_men (upd g_debts (ci g_men) z3.2.2.2.2) g_on g_stove)) (Nat.le_of_ble_eq_true rfl) rfl))) ?_
      refine E_aload_n 1 dX4_readMan_34 (q := 35) rfl rfl rfl ?_
      refine E_dup dX4_readMan_35 (q := 36) rfl rfl ?_
      have hF11 : Has n 7 (dpB γ 7 g_posts g_sees g_cold g_men (upd g_debts (ci g_men) z3.2.2.2.2) g_on g_stove) (put 1 (txB γ 1 t_letters t_length z3.2.1 z3.2.2.1 z3.2.2.2.1 z3.2.2.2.2 t_onTold t_stoveTold) (put 7 (dpB γ 7 g_posts g_sees g_cold g_men (upd g_debts (ci g_men) z3.2.2.2.2) g_on g_stove) h)) := (has_out (has_put hn_g) (Or.inr (Nat.le_of_ble_eq_true rfl)))
      refine E_get 3 dX4_readMan_36 (q := 39) rfl ckX0 (Nat.le_of_ble_eq_true rfl) fl_X4_79 (hF11.at 0 rfl) (hF11.lt 0 (Nat.le_of_ble_eq_true rfl)) rfl ?_
      refine E_iconst (x := 1) dX4_readMan_39 (q := 40) rfl (by decide) ?_
      refine E_iadd dX4_readMan_40 (q := 41) rfl ?_
      refine E_put 3 dX4_readMan_41 (q := 44) rfl ckX0 (Nat.le_of_ble_eq_true rfl) fl_X4_79 rfl rfl rfl (hF11.at 0 rfl) (hF11.lt 0 (Nat.le_of_ble_eq_true rfl)) (Nat.le_of_ble_eq_true rfl) ((up_put_out (Or.inr (Nat.le_of_ble_eq_true rfl))).trans (congrArg (put 1 (txB γ 1 t_letters t_length z3.2.1 z3.2.2.1 z3.2.2.2.1 z3.2.2.2.2 t_onTold t_stoveTold)) (up_put (i := 0) (cs' := (dpB γ 7 g_posts g_sees g_cold (g_men + 1) (upd g_debts (ci g_men) z3.2.2.2.2) g_on g_stove)) (Nat.le_of_ble_eq_true rfl) rfl))) ?_
      refine E_aload_n 0 dX4_readMan_44 (q := 45) rfl rfl rfl ?_
      obtain ⟨z13, hxz13, hf⟩ := bnd hf
      have hF14 : Has n 1 (txB γ 1 t_letters t_length z3.2.1 z3.2.2.1 z3.2.2.2.1 z3.2.2.2.2 t_onTold t_stoveTold) (put 1 (txB γ 1 t_letters t_length z3.2.1 z3.2.2.1 z3.2.2.2.1 z3.2.2.2.2 t_onTold t_stoveTold) (put 7 (dpB γ 7 g_posts g_sees g_cold (g_men + 1) (upd g_debts (ci g_men) z3.2.2.2.2) g_on g_stove) h)) := (has_put hn_t)
      refine E_cV (as := []) (k := 1) (rest := []) (u' := (0, 0)) (st' := [.int z13.1]) dX4_readMan_45 (q := 48) rfl lkm_X4_readEnd lkv_X4_75 (Nat.le_of_ble_eq_true rfl) ckX4 (hF14.at 0 rfl) (hF14.lt 0 (Nat.le_of_ble_eq_true rfl)) ⟨Nat.le_refl _, Nat.le_refl _⟩ (Nat.le_of_ble_eq_true rfl) rfl rfl (m_X4_readEnd (N := N)  hF14 hxz13) rfl rfl rfl ?_
      refine Ev.heap (put_put (k := 1) (cs := (txB γ 1 t_letters t_length z3.2.1 z3.2.2.1 z3.2.2.2.1 z3.2.2.2.2 t_onTold t_stoveTold)) (cs' := (txB γ 1 t_letters t_length z13.2.1 z13.2.2.1 z13.2.2.2.1 z13.2.2.2.2 t_onTold t_stoveTold)) (show (2 : Nat) = 2 from rfl)) ?_
      obtain ⟨g16, hf⟩ := gd hf
      obtain rfl := Option.some.inj hf
      exact E_zret dX4_readMan_48 rfl g16 ⟨rfl, rfl, rfl⟩
    · have hf := if_t c6 hf
      refine E_iconst (x := 0) dX4_readMan_19 (q := 20) rfl (by decide) ?_
      obtain rfl := Option.some.inj hf
      exact E_zret dX4_readMan_20 rfl rfl ⟨rfl, rfl, rfl⟩

-- PostRelief$Text.readOn(LPostRelief$Depot;)Z
def f_X4_readOn (N : Nat) (t_letters : FN) (t_length : Int32) (t_at : Int32) (t_start : Int32) (t_token : Int32) (t_value : Int32) (t_onTold : Int32) (g_on : Int32) : Option (Int32 × Int32 × Int32 × Int32 × Int32 × Int32 × Int32) :=
  (if t_onTold = 0 then ((f_X4_readNumber N 1 9 t_letters t_length t_at t_start t_token t_value).bind fun z3 => (if z3.1 = 0 then some (0, z3.2.1, z3.2.2.1, z3.2.2.2.1, z3.2.2.2.2, t_onTold, g_on) else ((f_X4_readEnd N t_letters t_length z3.2.1 z3.2.2.1 z3.2.2.2.1 z3.2.2.2.2).bind fun z11 => (if z11.1 &&& 1 = z11.1 then some (z11.1, z11.2.1, z11.2.2.1, z11.2.2.2.1, z11.2.2.2.2, 1, z3.2.2.2.2) else none)))) else some (0, t_at, t_start, t_token, t_value, t_onTold, g_on))
set_option maxHeartbeats 4000000 in
set_option maxRecDepth 100000 in
theorem m_X4_readOn {γ : GX} {n : Nat} {N : Nat} {h : HP} {t_letters : FN} {t_length : Int32} {t_at : Int32} {t_start : Int32} {t_token : Int32} {t_value : Int32} {t_onTold : Int32} {t_stoveTold : Int32} {g_posts : Int32} {g_sees : FN} {g_cold : FN} {g_men : Int32} {g_debts : FN} {g_on : Int32} {g_stove : Int32} (hH_t : Has n 1 (txB γ 1 t_letters t_length t_at t_start t_token t_value t_onTold t_stoveTold) h) (hH_g : Has n 7 (dpB γ 7 g_posts g_sees g_cold g_men g_debts g_on g_stove) h) {z : Int32 × Int32 × Int32 × Int32 × Int32 × Int32 × Int32} (hf : f_X4_readOn N t_letters t_length t_at t_start t_token t_value t_onTold g_on = some z)  : Ct γ M_X4_readOn n h [.ref (gB γ + 1), .ref (gB γ + 7)] (Done (some (.int z.1)) n (put 1 (txB γ 1 t_letters t_length z.2.1 z.2.2.1 z.2.2.2.1 z.2.2.2.2.1 z.2.2.2.2.2.1 t_stoveTold) (put 7 (dpB γ 7 g_posts g_sees g_cold g_men g_debts z.2.2.2.2.2.2 g_stove) h))) := by
  have hn_t : 1 + 2 ≤ n := hH_t.1
  have hn_g : 7 + 4 ≤ n := hH_g.1
  refine Ct.heap (h := (put 1 (txB γ 1 t_letters t_length t_at t_start t_token t_value t_onTold t_stoveTold) (put 7 (dpB γ 7 g_posts g_sees g_cold g_men g_debts g_on g_stove) h))) ((congrArg (put 1 (txB γ 1 t_letters t_length t_at t_start t_token t_value t_onTold t_stoveTold)) (put_self hH_g)).trans (put_self hH_t)).symm ?_
  refine Ct_of_Ev (by decide) (fun h => by cases h) (Nat.le_of_ble_eq_true rfl) ?_
  show Ev γ M_X4_readOn (0, 0) n (put 1 (txB γ 1 t_letters t_length t_at t_start t_token t_value t_onTold t_stoveTold) (put 7 (dpB γ 7 g_posts g_sees g_cold g_men g_debts g_on g_stove) h)) [(0, .ref (gB γ + 1)), (1, .ref (gB γ + 7))] 0 [] _
  unfold f_X4_readOn at hf
  refine E_aload_n 0 dX4_readOn_0 (q := 1) rfl rfl rfl ?_
  have hF1 : Has n 1 (txB γ 1 t_letters t_length t_at t_start t_token t_value t_onTold t_stoveTold) (put 1 (txB γ 1 t_letters t_length t_at t_start t_token t_value t_onTold t_stoveTold) (put 7 (dpB γ 7 g_posts g_sees g_cold g_men g_debts g_on g_stove) h)) := (has_put hn_t)
  refine E_get 6 dX4_readOn_1 (q := 4) rfl ckX4 (Nat.le_of_ble_eq_true rfl) fl_X4_24 (hF1.at 0 rfl) (hF1.lt 0 (Nat.le_of_ble_eq_true rfl)) rfl ?_
  refine E_if_ne dX4_readOn_4 (t := 17) (by decide) (q := 7) rfl (fun c2 => ?_) (fun c2 => ?_)
  · have hf := if_f c2 hf
    refine E_iconst (x := 0) dX4_readOn_17 (q := 18) rfl (by decide) ?_
    obtain rfl := Option.some.inj hf
    exact E_zret dX4_readOn_18 rfl rfl ⟨rfl, rfl, rfl⟩
  · have hf := if_t c2 hf
    refine E_aload_n 0 dX4_readOn_7 (q := 8) rfl rfl rfl ?_
    refine E_iconst (x := 1) dX4_readOn_8 (q := 9) rfl (by decide) ?_
    refine E_bipush (x := 9) dX4_readOn_9 (q := 11) rfl (by decide) ?_
    obtain ⟨z3, hxz3, hf⟩ := bnd hf
    refine E_cV (as := [.int 1, .int 9]) (k := 1) (rest := []) (u' := (0, 0)) (st' := [.int z3.1]) dX4_readOn_11 (q := 14) rfl lkm_X4_readNumber lkv_X4_62 (Nat.le_of_ble_eq_true rfl) ckX4 (hF1.at 0 rfl) (hF1.lt 0 (Nat.le_of_ble_eq_true rfl)) ⟨Nat.le_refl _, Nat.le_refl _⟩ (Nat.le_of_ble_eq_true rfl) rfl rfl (m_X4_readNumber (N := N)  hF1 hxz3) rfl rfl rfl ?_
    refine Ev.heap (put_put (k := 1) (cs := (txB γ 1 t_letters t_length t_at t_start t_token t_value t_onTold t_stoveTold)) (cs' := (txB γ 1 t_letters t_length z3.2.1 z3.2.2.1 z3.2.2.2.1 z3.2.2.2.2 t_onTold t_stoveTold)) (show (2 : Nat) = 2 from rfl)) ?_
    refine E_if_ne dX4_readOn_14 (t := 19) (by decide) (q := 17) rfl (fun c5 => ?_) (fun c5 => ?_)
    · have hf := if_f c5 hf
      refine E_aload_n 0 dX4_readOn_19 (q := 20) rfl rfl rfl ?_
      refine E_iconst (x := 1) dX4_readOn_20 (q := 21) rfl (by decide) ?_
      have hF6 : Has n 1 (txB γ 1 t_letters t_length z3.2.1 z3.2.2.1 z3.2.2.2.1 z3.2.2.2.2 t_onTold t_stoveTold) (put 1 (txB γ 1 t_letters t_length z3.2.1 z3.2.2.1 z3.2.2.2.1 z3.2.2.2.2 t_onTold t_stoveTold) (put 7 (dpB γ 7 g_posts g_sees g_cold g_men g_debts g_on g_stove) h)) := (has_put hn_t)
      refine E_put 6 dX4_readOn_21 (q := 24) rfl ckX4 (Nat.le_of_ble_eq_true rfl) fl_X4_24 rfl rfl rfl (hF6.at 0 rfl) (hF6.lt 0 (Nat.le_of_ble_eq_true rfl)) (Nat.le_of_ble_eq_true rfl) (up_put (i := 0) (cs' := (txB γ 1 t_letters t_length z3.2.1 z3.2.2.1 z3.2.2.2.1 z3.2.2.2.2 1 t_stoveTold)) (Nat.le_of_ble_eq_true rfl) rfl) ?_
      refine E_aload_n 1 dX4_readOn_24 (q := 25) rfl rfl rfl ?_
      refine E_aload_n 0 dX4_readOn_25 (q := 26) rfl rfl rfl ?_
      have hF8 : Has n 1 (txB γ 1 t_letters t_length z3.2.1 z3.2.2.1 z3.2.2.2.1 z3.2.2.2.2 1 t_stoveTold) (put 1 (txB γ 1 t_letters t_length z3.2.1 z3.2.2.1 z3.2.2.2.1 z3.2.2.2.2 1 t_stoveTold) (put 7 (dpB γ 7 g_posts g_sees g_cold g_men g_debts g_on g_stove) h)) := (has_put hn_t)
      refine E_get 5 dX4_readOn_26 (q := 29) rfl ckX4 (Nat.le_of_ble_eq_true rfl) fl_X4_69 (hF8.at 0 rfl) (hF8.lt 0 (Nat.le_of_ble_eq_true rfl)) rfl ?_
      have hF9 : Has n 7 (dpB γ 7 g_posts g_sees g_cold g_men g_debts g_on g_stove) (put 1 (txB γ 1 t_letters t_length z3.2.1 z3.2.2.1 z3.2.2.2.1 z3.2.2.2.2 1 t_stoveTold) (put 7 (dpB γ 7 g_posts g_sees g_cold g_men g_debts g_on g_stove) h)) := (has_out (has_put hn_g) (Or.inr (Nat.le_of_ble_eq_true rfl)))
      refine E_put 5 dX4_readOn_29 (q := 32) rfl ckX0 (Nat.le_of_ble_eq_true rfl) fl_X4_85 rfl rfl rfl (hF9.at 0 rfl) (hF9.lt 0 (Nat.le_of_ble_eq_true rfl)) (Nat.le_of_ble_eq_true rfl) ((up_put_out (Or.inr (Nat.le_of_ble_eq_true rfl))).trans (congrArg (put 1 (txB γ 1 t_letters t_length z3.2.1 z3.2.2.1 z3.2.2.2.1 z3.2.2.2.2 1 t_stoveTold)) (up_put (i := 0) (cs' := (dpB γ 7 g_posts g_sees g_cold g_men g_debts z3.2.2.2.2 g_stove)) (Nat.le_of_ble_eq_true rfl) rfl))) ?_
      refine E_aload_n 0 dX4_readOn_32 (q := 33) rfl rfl rfl ?_
      obtain ⟨z11, hxz11, hf⟩ := bnd hf
      have hF12 : Has n 1 (txB γ 1 t_letters t_length z3.2.1 z3.2.2.1 z3.2.2.2.1 z3.2.2.2.2 1 t_stoveTold) (put 1 (txB γ 1 t_letters t_length z3.2.1 z3.2.2.1 z3.2.2.2.1 z3.2.2.2.2 1 t_stoveTold) (put 7 (dpB γ 7 g_posts g_sees g_cold g_men g_debts z3.2.2.2.2 g_stove) h)) := (has_put hn_t)
      refine E_cV (as := []) (k := 1) (rest := []) (u' := (0, 0)) (st' := [.int z11.1]) dX4_readOn_33 (q := 36) rfl lkm_X4_readEnd lkv_X4_75 (Nat.le_of_ble_eq_true rfl) ckX4 (hF12.at 0 rfl) (hF12.lt 0 (Nat.le_of_ble_eq_true rfl)) ⟨Nat.le_refl _, Nat.le_refl _⟩ (Nat.le_of_ble_eq_true rfl) rfl rfl (m_X4_readEnd (N := N)  hF12 hxz11) rfl rfl rfl ?_
      refine Ev.heap (put_put (k := 1) (cs := (txB γ 1 t_letters t_length z3.2.1 z3.2.2.1 z3.2.2.2.1 z3.2.2.2.2 1 t_stoveTold)) (cs' := (txB γ 1 t_letters t_length z11.2.1 z11.2.2.1 z11.2.2.2.1 z11.2.2.2.2 1 t_stoveTold)) (show (2 : Nat) = 2 from rfl)) ?_
      obtain ⟨g14, hf⟩ := gd hf
      obtain rfl := Option.some.inj hf
      exact E_zret dX4_readOn_36 rfl g14 ⟨rfl, rfl, rfl⟩
    · have hf := if_t c5 hf
      refine E_iconst (x := 0) dX4_readOn_17 (q := 18) rfl (by decide) ?_
      obtain rfl := Option.some.inj hf
      exact E_zret dX4_readOn_18 rfl rfl ⟨rfl, rfl, rfl⟩

-- PostRelief$Text.readStove(LPostRelief$Depot;)Z
def f_X4_readStove (N : Nat) (t_letters : FN) (t_length : Int32) (t_at : Int32) (t_start : Int32) (t_token : Int32) (t_value : Int32) (t_stoveTold : Int32) (g_stove : Int32) : Option (Int32 × Int32 × Int32 × Int32 × Int32 × Int32 × Int32) :=
  (if t_stoveTold = 0 then ((f_X4_readNumber N 1 9 t_letters t_length t_at t_start t_token t_value).bind fun z3 => (if z3.1 = 0 then some (0, z3.2.1, z3.2.2.1, z3.2.2.2.1, z3.2.2.2.2, t_stoveTold, g_stove) else ((f_X4_readEnd N t_letters t_length z3.2.1 z3.2.2.1 z3.2.2.2.1 z3.2.2.2.2).bind fun z11 => (if z11.1 &&& 1 = z11.1 then some (z11.1, z11.2.1, z11.2.2.1, z11.2.2.2.1, z11.2.2.2.2, 1, z3.2.2.2.2) else none)))) else some (0, t_at, t_start, t_token, t_value, t_stoveTold, g_stove))
set_option maxHeartbeats 4000000 in
set_option maxRecDepth 100000 in
theorem m_X4_readStove {γ : GX} {n : Nat} {N : Nat} {h : HP} {t_letters : FN} {t_length : Int32} {t_at : Int32} {t_start : Int32} {t_token : Int32} {t_value : Int32} {t_onTold : Int32} {t_stoveTold : Int32} {g_posts : Int32} {g_sees : FN} {g_cold : FN} {g_men : Int32} {g_debts : FN} {g_on : Int32} {g_stove : Int32} (hH_t : Has n 1 (txB γ 1 t_letters t_length t_at t_start t_token t_value t_onTold t_stoveTold) h) (hH_g : Has n 7 (dpB γ 7 g_posts g_sees g_cold g_men g_debts g_on g_stove) h) {z : Int32 × Int32 × Int32 × Int32 × Int32 × Int32 × Int32} (hf : f_X4_readStove N t_letters t_length t_at t_start t_token t_value t_stoveTold g_stove = some z)  : Ct γ M_X4_readStove n h [.ref (gB γ + 1), .ref (gB γ + 7)] (Done (some (.int z.1)) n (put 1 (txB γ 1 t_letters t_length z.2.1 z.2.2.1 z.2.2.2.1 z.2.2.2.2.1 t_onTold z.2.2.2.2.2.1) (put 7 (dpB γ 7 g_posts g_sees g_cold g_men g_debts g_on z.2.2.2.2.2.2) h))) := by
  have hn_t : 1 + 2 ≤ n := hH_t.1
  have hn_g : 7 + 4 ≤ n := hH_g.1
  refine Ct.heap (h := (put 1 (txB γ 1 t_letters t_length t_at t_start t_token t_value t_onTold t_stoveTold) (put 7 (dpB γ 7 g_posts g_sees g_cold g_men g_debts g_on g_stove) h))) ((congrArg (put 1 (txB γ 1 t_letters t_length t_at t_start t_token t_value t_onTold t_stoveTold)) (put_self hH_g)).trans (put_self hH_t)).symm ?_
  refine Ct_of_Ev (by decide) (fun h => by cases h) (Nat.le_of_ble_eq_true rfl) ?_
  show Ev γ M_X4_readStove (0, 0) n (put 1 (txB γ 1 t_letters t_length t_at t_start t_token t_value t_onTold t_stoveTold) (put 7 (dpB γ 7 g_posts g_sees g_cold g_men g_debts g_on g_stove) h)) [(0, .ref (gB γ + 1)), (1, .ref (gB γ + 7))] 0 [] _
  unfold f_X4_readStove at hf
  refine E_aload_n 0 dX4_readStove_0 (q := 1) rfl rfl rfl ?_
  have hF1 : Has n 1 (txB γ 1 t_letters t_length t_at t_start t_token t_value t_onTold t_stoveTold) (put 1 (txB γ 1 t_letters t_length t_at t_start t_token t_value t_onTold t_stoveTold) (put 7 (dpB γ 7 g_posts g_sees g_cold g_men g_debts g_on g_stove) h)) := (has_put hn_t)
  refine E_get 7 dX4_readStove_1 (q := 4) rfl ckX4 (Nat.le_of_ble_eq_true rfl) fl_X4_28 (hF1.at 0 rfl) (hF1.lt 0 (Nat.le_of_ble_eq_true rfl)) rfl ?_
  refine E_if_ne dX4_readStove_4 (t := 17) (by decide) (q := 7) rfl (fun c2 => ?_) (fun c2 => ?_)
  · have hf := if_f c2 hf
    refine E_iconst (x := 0) dX4_readStove_17 (q := 18) rfl (by decide) ?_
    obtain rfl := Option.some.inj hf
    exact E_zret dX4_readStove_18 rfl rfl ⟨rfl, rfl, rfl⟩
  · have hf := if_t c2 hf
    refine E_aload_n 0 dX4_readStove_7 (q := 8) rfl rfl rfl ?_
    refine E_iconst (x := 1) dX4_readStove_8 (q := 9) rfl (by decide) ?_
    refine E_bipush (x := 9) dX4_readStove_9 (q := 11) rfl (by decide) ?_
    obtain ⟨z3, hxz3, hf⟩ := bnd hf
    refine E_cV (as := [.int 1, .int 9]) (k := 1) (rest := []) (u' := (0, 0)) (st' := [.int z3.1]) dX4_readStove_11 (q := 14) rfl lkm_X4_readNumber lkv_X4_62 (Nat.le_of_ble_eq_true rfl) ckX4 (hF1.at 0 rfl) (hF1.lt 0 (Nat.le_of_ble_eq_true rfl)) ⟨Nat.le_refl _, Nat.le_refl _⟩ (Nat.le_of_ble_eq_true rfl) rfl rfl (m_X4_readNumber (N := N)  hF1 hxz3) rfl rfl rfl ?_
    refine Ev.heap (put_put (k := 1) (cs := (txB γ 1 t_letters t_length t_at t_start t_token t_value t_onTold t_stoveTold)) (cs' := (txB γ 1 t_letters t_length z3.2.1 z3.2.2.1 z3.2.2.2.1 z3.2.2.2.2 t_onTold t_stoveTold)) (show (2 : Nat) = 2 from rfl)) ?_
    refine E_if_ne dX4_readStove_14 (t := 19) (by decide) (q := 17) rfl (fun c5 => ?_) (fun c5 => ?_)
    · have hf := if_f c5 hf
      refine E_aload_n 0 dX4_readStove_19 (q := 20) rfl rfl rfl ?_
      refine E_iconst (x := 1) dX4_readStove_20 (q := 21) rfl (by decide) ?_
      have hF6 : Has n 1 (txB γ 1 t_letters t_length z3.2.1 z3.2.2.1 z3.2.2.2.1 z3.2.2.2.2 t_onTold t_stoveTold) (put 1 (txB γ 1 t_letters t_length z3.2.1 z3.2.2.1 z3.2.2.2.1 z3.2.2.2.2 t_onTold t_stoveTold) (put 7 (dpB γ 7 g_posts g_sees g_cold g_men g_debts g_on g_stove) h)) := (has_put hn_t)
      refine E_put 7 dX4_readStove_21 (q := 24) rfl ckX4 (Nat.le_of_ble_eq_true rfl) fl_X4_28 rfl rfl rfl (hF6.at 0 rfl) (hF6.lt 0 (Nat.le_of_ble_eq_true rfl)) (Nat.le_of_ble_eq_true rfl) (up_put (i := 0) (cs' := (txB γ 1 t_letters t_length z3.2.1 z3.2.2.1 z3.2.2.2.1 z3.2.2.2.2 t_onTold 1)) (Nat.le_of_ble_eq_true rfl) rfl) ?_
      refine E_aload_n 1 dX4_readStove_24 (q := 25) rfl rfl rfl ?_
      refine E_aload_n 0 dX4_readStove_25 (q := 26) rfl rfl rfl ?_
      have hF8 : Has n 1 (txB γ 1 t_letters t_length z3.2.1 z3.2.2.1 z3.2.2.2.1 z3.2.2.2.2 t_onTold 1) (put 1 (txB γ 1 t_letters t_length z3.2.1 z3.2.2.1 z3.2.2.2.1 z3.2.2.2.2 t_onTold 1) (put 7 (dpB γ 7 g_posts g_sees g_cold g_men g_debts g_on g_stove) h)) := (has_put hn_t)
      refine E_get 5 dX4_readStove_26 (q := 29) rfl ckX4 (Nat.le_of_ble_eq_true rfl) fl_X4_69 (hF8.at 0 rfl) (hF8.lt 0 (Nat.le_of_ble_eq_true rfl)) rfl ?_
      have hF9 : Has n 7 (dpB γ 7 g_posts g_sees g_cold g_men g_debts g_on g_stove) (put 1 (txB γ 1 t_letters t_length z3.2.1 z3.2.2.1 z3.2.2.2.1 z3.2.2.2.2 t_onTold 1) (put 7 (dpB γ 7 g_posts g_sees g_cold g_men g_debts g_on g_stove) h)) := (has_out (has_put hn_g) (Or.inr (Nat.le_of_ble_eq_true rfl)))
      refine E_put 6 dX4_readStove_29 (q := 32) rfl ckX0 (Nat.le_of_ble_eq_true rfl) fl_X4_88 rfl rfl rfl (hF9.at 0 rfl) (hF9.lt 0 (Nat.le_of_ble_eq_true rfl)) (Nat.le_of_ble_eq_true rfl) ((up_put_out (Or.inr (Nat.le_of_ble_eq_true rfl))).trans (congrArg (put 1 (txB γ 1 t_letters t_length z3.2.1 z3.2.2.1 z3.2.2.2.1 z3.2.2.2.2 t_onTold 1)) (up_put (i := 0) (cs' := (dpB γ 7 g_posts g_sees g_cold g_men g_debts g_on z3.2.2.2.2)) (Nat.le_of_ble_eq_true rfl) rfl))) ?_
      refine E_aload_n 0 dX4_readStove_32 (q := 33) rfl rfl rfl ?_
      obtain ⟨z11, hxz11, hf⟩ := bnd hf
      have hF12 : Has n 1 (txB γ 1 t_letters t_length z3.2.1 z3.2.2.1 z3.2.2.2.1 z3.2.2.2.2 t_onTold 1) (put 1 (txB γ 1 t_letters t_length z3.2.1 z3.2.2.1 z3.2.2.2.1 z3.2.2.2.2 t_onTold 1) (put 7 (dpB γ 7 g_posts g_sees g_cold g_men g_debts g_on z3.2.2.2.2) h)) := (has_put hn_t)
      refine E_cV (as := []) (k := 1) (rest := []) (u' := (0, 0)) (st' := [.int z11.1]) dX4_readStove_33 (q := 36) rfl lkm_X4_readEnd lkv_X4_75 (Nat.le_of_ble_eq_true rfl) ckX4 (hF12.at 0 rfl) (hF12.lt 0 (Nat.le_of_ble_eq_true rfl)) ⟨Nat.le_refl _, Nat.le_refl _⟩ (Nat.le_of_ble_eq_true rfl) rfl rfl (m_X4_readEnd (N := N)  hF12 hxz11) rfl rfl rfl ?_
      refine Ev.heap (put_put (k := 1) (cs := (txB γ 1 t_letters t_length z3.2.1 z3.2.2.1 z3.2.2.2.1 z3.2.2.2.2 t_onTold 1)) (cs' := (txB γ 1 t_letters t_length z11.2.1 z11.2.2.1 z11.2.2.2.1 z11.2.2.2.2 t_onTold 1)) (show (2 : Nat) = 2 from rfl)) ?_
      obtain ⟨g14, hf⟩ := gd hf
      obtain rfl := Option.some.inj hf
      exact E_zret dX4_readStove_36 rfl g14 ⟨rfl, rfl, rfl⟩
    · have hf := if_t c5 hf
      refine E_iconst (x := 0) dX4_readStove_17 (q := 18) rfl (by decide) ?_
      obtain rfl := Option.some.inj hf
      exact E_zret dX4_readStove_18 rfl rfl ⟨rfl, rfl, rfl⟩

-- PostRelief$Text.readItem(LPostRelief$Depot;)Z
def f_X4_readItem (N : Nat) (t_letters : FN) (t_length : Int32) (t_at : Int32) (t_start : Int32) (t_token : Int32) (t_value : Int32) (t_onTold : Int32) (t_stoveTold : Int32) (g_posts : Int32) (g_sees : FN) (g_cold : FN) (g_men : Int32) (g_debts : FN) (g_on : Int32) (g_stove : Int32) : Option (Int32 × Int32 × Int32 × Int32 × Int32 × Int32 × Int32 × Int32 × FN × FN × Int32 × FN × Int32 × Int32) :=
  (if t_token = 109 then ((f_X4_readMan N t_letters t_length t_at t_start t_token t_value g_men g_debts).bind fun z3 => (if z3.1 &&& 1 = z3.1 then some (z3.1, z3.2.1, z3.2.2.1, z3.2.2.2.1, z3.2.2.2.2.1, t_onTold, t_stoveTold, g_posts, g_sees, g_cold, z3.2.2.2.2.2.1, z3.2.2.2.2.2.2, g_on, g_stove) else none)) else (if t_token = 110 then some (0, t_at, t_start, t_token, t_value, t_onTold, t_stoveTold, g_posts, g_sees, g_cold, g_men, g_debts, g_on, g_stove) else (if t_token = 111 then ((f_X4_readOn N t_letters t_length t_at t_start t_token t_value t_onTold g_on).bind fun z9 => (if z9.1 &&& 1 = z9.1 then some (z9.1, z9.2.1, z9.2.2.1, z9.2.2.2.1, z9.2.2.2.2.1, z9.2.2.2.2.2.1, t_stoveTold, g_posts, g_sees, g_cold, g_men, g_debts, z9.2.2.2.2.2.2, g_stove) else none)) else (if t_token = 112 then ((f_X4_readPost N t_letters t_length t_at t_start t_token t_value g_posts g_sees g_cold).bind fun z14 => (if z14.1 &&& 1 = z14.1 then some (z14.1, z14.2.1, z14.2.2.1, z14.2.2.2.1, z14.2.2.2.2.1, t_onTold, t_stoveTold, z14.2.2.2.2.2.1, z14.2.2.2.2.2.2.1, z14.2.2.2.2.2.2.2, g_men, g_debts, g_on, g_stove) else none)) else (if t_token = 113 then some (0, t_at, t_start, t_token, t_value, t_onTold, t_stoveTold, g_posts, g_sees, g_cold, g_men, g_debts, g_on, g_stove) else (if t_token = 114 then some (0, t_at, t_start, t_token, t_value, t_onTold, t_stoveTold, g_posts, g_sees, g_cold, g_men, g_debts, g_on, g_stove) else (if t_token = 115 then ((f_X4_readStove N t_letters t_length t_at t_start t_token t_value t_stoveTold g_stove).bind fun z21 => (if z21.1 &&& 1 = z21.1 then some (z21.1, z21.2.1, z21.2.2.1, z21.2.2.2.1, z21.2.2.2.2.1, t_onTold, z21.2.2.2.2.2.1, g_posts, g_sees, g_cold, g_men, g_debts, g_on, z21.2.2.2.2.2.2) else none)) else some (0, t_at, t_start, t_token, t_value, t_onTold, t_stoveTold, g_posts, g_sees, g_cold, g_men, g_debts, g_on, g_stove))))))))
set_option maxHeartbeats 4000000 in
set_option maxRecDepth 100000 in
theorem m_X4_readItem {γ : GX} {n : Nat} {N : Nat} {h : HP} {t_letters : FN} {t_length : Int32} {t_at : Int32} {t_start : Int32} {t_token : Int32} {t_value : Int32} {t_onTold : Int32} {t_stoveTold : Int32} {g_posts : Int32} {g_sees : FN} {g_cold : FN} {g_men : Int32} {g_debts : FN} {g_on : Int32} {g_stove : Int32} (hH_t : Has n 1 (txB γ 1 t_letters t_length t_at t_start t_token t_value t_onTold t_stoveTold) h) (hH_g : Has n 7 (dpB γ 7 g_posts g_sees g_cold g_men g_debts g_on g_stove) h) {z : Int32 × Int32 × Int32 × Int32 × Int32 × Int32 × Int32 × Int32 × FN × FN × Int32 × FN × Int32 × Int32} (hf : f_X4_readItem N t_letters t_length t_at t_start t_token t_value t_onTold t_stoveTold g_posts g_sees g_cold g_men g_debts g_on g_stove = some z)  : Ct γ M_X4_readItem n h [.ref (gB γ + 1), .ref (gB γ + 7)] (Done (some (.int z.1)) n (put 1 (txB γ 1 t_letters t_length z.2.1 z.2.2.1 z.2.2.2.1 z.2.2.2.2.1 z.2.2.2.2.2.1 z.2.2.2.2.2.2.1) (put 7 (dpB γ 7 z.2.2.2.2.2.2.2.1 z.2.2.2.2.2.2.2.2.1 z.2.2.2.2.2.2.2.2.2.1 z.2.2.2.2.2.2.2.2.2.2.1 z.2.2.2.2.2.2.2.2.2.2.2.1 z.2.2.2.2.2.2.2.2.2.2.2.2.1 z.2.2.2.2.2.2.2.2.2.2.2.2.2) h))) := by
  have hn_t : 1 + 2 ≤ n := hH_t.1
  have hn_g : 7 + 4 ≤ n := hH_g.1
  refine Ct.heap (h := (put 1 (txB γ 1 t_letters t_length t_at t_start t_token t_value t_onTold t_stoveTold) (put 7 (dpB γ 7 g_posts g_sees g_cold g_men g_debts g_on g_stove) h))) ((congrArg (put 1 (txB γ 1 t_letters t_length t_at t_start t_token t_value t_onTold t_stoveTold)) (put_self hH_g)).trans (put_self hH_t)).symm ?_
  refine Ct_of_Ev (by decide) (fun h => by cases h) (Nat.le_of_ble_eq_true rfl) ?_
  show Ev γ M_X4_readItem (0, 0) n (put 1 (txB γ 1 t_letters t_length t_at t_start t_token t_value t_onTold t_stoveTold) (put 7 (dpB γ 7 g_posts g_sees g_cold g_men g_debts g_on g_stove) h)) [(0, .ref (gB γ + 1)), (1, .ref (gB γ + 7))] 0 [] _
  unfold f_X4_readItem at hf
  refine E_aload_n 0 dX4_readItem_0 (q := 1) rfl rfl rfl ?_
  have hF1 : Has n 1 (txB γ 1 t_letters t_length t_at t_start t_token t_value t_onTold t_stoveTold) (put 1 (txB γ 1 t_letters t_length t_at t_start t_token t_value t_onTold t_stoveTold) (put 7 (dpB γ 7 g_posts g_sees g_cold g_men g_debts g_on g_stove) h)) := (has_put hn_t)
  refine E_get 4 dX4_readItem_1 (q := 4) rfl ckX4 (Nat.le_of_ble_eq_true rfl) fl_X4_37 (hF1.at 0 rfl) (hF1.lt 0 (Nat.le_of_ble_eq_true rfl)) rfl ?_
  by_cases c2 : t_token = 109
  · have hf := if_t c2 hf
    refine E_tabIn (t := 54) dX4_readItem_4 (by rw [c2]; decide) (by rw [c2]; decide) (by rw [c2]; rfl) (by decide) ?_
    refine E_aload_n 0 dX4_readItem_54 (q := 55) rfl rfl rfl ?_
    refine E_aload_n 1 dX4_readItem_55 (q := 56) rfl rfl rfl ?_
    obtain ⟨z3, hxz3, hf⟩ := bnd hf
    have hF4 : Has n 7 (dpB γ 7 g_posts g_sees g_cold g_men g_debts g_on g_stove) (put 1 (txB γ 1 t_letters t_length t_at t_start t_token t_value t_onTold t_stoveTold) (put 7 (dpB γ 7 g_posts g_sees g_cold g_men g_debts g_on g_stove) h)) := (has_out (has_put hn_g) (Or.inr (Nat.le_of_ble_eq_true rfl)))
    refine E_cV (as := [.ref (gB γ + 7)]) (k := 1) (rest := []) (u' := (0, 0)) (st' := [.int z3.1]) dX4_readItem_56 (q := 59) rfl lkm_X4_readMan lkv_X4_50 (Nat.le_of_ble_eq_true rfl) ckX4 (hF1.at 0 rfl) (hF1.lt 0 (Nat.le_of_ble_eq_true rfl)) ⟨Nat.le_refl _, Nat.le_refl _⟩ (Nat.le_of_ble_eq_true rfl) rfl rfl (m_X4_readMan (N := N)  hF1 hF4 hxz3) rfl rfl rfl ?_
    refine Ev.heap ((congrArg (put 1 (txB γ 1 t_letters t_length z3.2.1 z3.2.2.1 z3.2.2.2.1 z3.2.2.2.2.1 t_onTold t_stoveTold)) ((put_comm (Or.inr (Nat.le_of_ble_eq_true rfl))).trans (congrArg (put 1 (txB γ 1 t_letters t_length t_at t_start t_token t_value t_onTold t_stoveTold)) (put_put (k := 7) (cs := (dpB γ 7 g_posts g_sees g_cold g_men g_debts g_on g_stove)) (cs' := (dpB γ 7 g_posts g_sees g_cold z3.2.2.2.2.2.1 z3.2.2.2.2.2.2 g_on g_stove)) (show (4 : Nat) = 4 from rfl))))).trans (put_put (k := 1) (cs := (txB γ 1 t_letters t_length t_at t_start t_token t_value t_onTold t_stoveTold)) (cs' := (txB γ 1 t_letters t_length z3.2.1 z3.2.2.1 z3.2.2.2.1 z3.2.2.2.2.1 t_onTold t_stoveTold)) (show (2 : Nat) = 2 from rfl))) ?_
    obtain ⟨g6, hf⟩ := gd hf
    obtain rfl := Option.some.inj hf
    exact E_zret dX4_readItem_59 rfl g6 ⟨rfl, rfl, rfl⟩
  · have hf := if_f c2 hf
    by_cases c7 : t_token = 110
    · have hf := if_t c7 hf
      refine E_tabIn (t := 72) dX4_readItem_4 (by rw [c7]; decide) (by rw [c7]; decide) (by rw [c7]; rfl) (by decide) ?_
      refine E_iconst (x := 0) dX4_readItem_72 (q := 73) rfl (by decide) ?_
      obtain rfl := Option.some.inj hf
      exact E_zret dX4_readItem_73 rfl rfl ⟨rfl, rfl, rfl⟩
    · have hf := if_f c7 hf
      by_cases c8 : t_token = 111
      · have hf := if_t c8 hf
        refine E_tabIn (t := 60) dX4_readItem_4 (by rw [c8]; decide) (by rw [c8]; decide) (by rw [c8]; rfl) (by decide) ?_
        refine E_aload_n 0 dX4_readItem_60 (q := 61) rfl rfl rfl ?_
        refine E_aload_n 1 dX4_readItem_61 (q := 62) rfl rfl rfl ?_
        obtain ⟨z9, hxz9, hf⟩ := bnd hf
        have hF10 : Has n 7 (dpB γ 7 g_posts g_sees g_cold g_men g_debts g_on g_stove) (put 1 (txB γ 1 t_letters t_length t_at t_start t_token t_value t_onTold t_stoveTold) (put 7 (dpB γ 7 g_posts g_sees g_cold g_men g_debts g_on g_stove) h)) := (has_out (has_put hn_g) (Or.inr (Nat.le_of_ble_eq_true rfl)))
        refine E_cV (as := [.ref (gB γ + 7)]) (k := 1) (rest := []) (u' := (0, 0)) (st' := [.int z9.1]) dX4_readItem_62 (q := 65) rfl lkm_X4_readOn lkv_X4_53 (Nat.le_of_ble_eq_true rfl) ckX4 (hF1.at 0 rfl) (hF1.lt 0 (Nat.le_of_ble_eq_true rfl)) ⟨Nat.le_refl _, Nat.le_refl _⟩ (Nat.le_of_ble_eq_true rfl) rfl rfl (m_X4_readOn (N := N)  hF1 hF10 hxz9) rfl rfl rfl ?_
        refine Ev.heap ((congrArg (put 1 (txB γ 1 t_letters t_length z9.2.1 z9.2.2.1 z9.2.2.2.1 z9.2.2.2.2.1 z9.2.2.2.2.2.1 t_stoveTold)) ((put_comm (Or.inr (Nat.le_of_ble_eq_true rfl))).trans (congrArg (put 1 (txB γ 1 t_letters t_length t_at t_start t_token t_value t_onTold t_stoveTold)) (put_put (k := 7) (cs := (dpB γ 7 g_posts g_sees g_cold g_men g_debts g_on g_stove)) (cs' := (dpB γ 7 g_posts g_sees g_cold g_men g_debts z9.2.2.2.2.2.2 g_stove)) (show (4 : Nat) = 4 from rfl))))).trans (put_put (k := 1) (cs := (txB γ 1 t_letters t_length t_at t_start t_token t_value t_onTold t_stoveTold)) (cs' := (txB γ 1 t_letters t_length z9.2.1 z9.2.2.1 z9.2.2.2.1 z9.2.2.2.2.1 z9.2.2.2.2.2.1 t_stoveTold)) (show (2 : Nat) = 2 from rfl))) ?_
        obtain ⟨g12, hf⟩ := gd hf
        obtain rfl := Option.some.inj hf
        exact E_zret dX4_readItem_65 rfl g12 ⟨rfl, rfl, rfl⟩
      · have hf := if_f c8 hf
        by_cases c13 : t_token = 112
        · have hf := if_t c13 hf
          refine E_tabIn (t := 48) dX4_readItem_4 (by rw [c13]; decide) (by rw [c13]; decide) (by rw [c13]; rfl) (by decide) ?_
          refine E_aload_n 0 dX4_readItem_48 (q := 49) rfl rfl rfl ?_
          refine E_aload_n 1 dX4_readItem_49 (q := 50) rfl rfl rfl ?_
          obtain ⟨z14, hxz14, hf⟩ := bnd hf
          have hF15 : Has n 7 (dpB γ 7 g_posts g_sees g_cold g_men g_debts g_on g_stove) (put 1 (txB γ 1 t_letters t_length t_at t_start t_token t_value t_onTold t_stoveTold) (put 7 (dpB γ 7 g_posts g_sees g_cold g_men g_debts g_on g_stove) h)) := (has_out (has_put hn_g) (Or.inr (Nat.le_of_ble_eq_true rfl)))
          refine E_cV (as := [.ref (gB γ + 7)]) (k := 1) (rest := []) (u' := (0, 0)) (st' := [.int z14.1]) dX4_readItem_50 (q := 53) rfl lkm_X4_readPost lkv_X4_47 (Nat.le_of_ble_eq_true rfl) ckX4 (hF1.at 0 rfl) (hF1.lt 0 (Nat.le_of_ble_eq_true rfl)) ⟨Nat.le_refl _, Nat.le_refl _⟩ (Nat.le_of_ble_eq_true rfl) rfl rfl (m_X4_readPost (N := N)  hF1 hF15 hxz14) rfl rfl rfl ?_
          refine Ev.heap ((congrArg (put 1 (txB γ 1 t_letters t_length z14.2.1 z14.2.2.1 z14.2.2.2.1 z14.2.2.2.2.1 t_onTold t_stoveTold)) ((put_comm (Or.inr (Nat.le_of_ble_eq_true rfl))).trans (congrArg (put 1 (txB γ 1 t_letters t_length t_at t_start t_token t_value t_onTold t_stoveTold)) (put_put (k := 7) (cs := (dpB γ 7 g_posts g_sees g_cold g_men g_debts g_on g_stove)) (cs' := (dpB γ 7 z14.2.2.2.2.2.1 z14.2.2.2.2.2.2.1 z14.2.2.2.2.2.2.2 g_men g_debts g_on g_stove)) (show (4 : Nat) = 4 from rfl))))).trans (put_put (k := 1) (cs := (txB γ 1 t_letters t_length t_at t_start t_token t_value t_onTold t_stoveTold)) (cs' := (txB γ 1 t_letters t_length z14.2.1 z14.2.2.1 z14.2.2.2.1 z14.2.2.2.2.1 t_onTold t_stoveTold)) (show (2 : Nat) = 2 from rfl))) ?_
          obtain ⟨g17, hf⟩ := gd hf
          obtain rfl := Option.some.inj hf
          exact E_zret dX4_readItem_53 rfl g17 ⟨rfl, rfl, rfl⟩
        · have hf := if_f c13 hf
          by_cases c18 : t_token = 113
          · have hf := if_t c18 hf
            refine E_tabIn (t := 72) dX4_readItem_4 (by rw [c18]; decide) (by rw [c18]; decide) (by rw [c18]; rfl) (by decide) ?_
            refine E_iconst (x := 0) dX4_readItem_72 (q := 73) rfl (by decide) ?_
            obtain rfl := Option.some.inj hf
            exact E_zret dX4_readItem_73 rfl rfl ⟨rfl, rfl, rfl⟩
          · have hf := if_f c18 hf
            by_cases c19 : t_token = 114
            · have hf := if_t c19 hf
              refine E_tabIn (t := 72) dX4_readItem_4 (by rw [c19]; decide) (by rw [c19]; decide) (by rw [c19]; rfl) (by decide) ?_
              refine E_iconst (x := 0) dX4_readItem_72 (q := 73) rfl (by decide) ?_
              obtain rfl := Option.some.inj hf
              exact E_zret dX4_readItem_73 rfl rfl ⟨rfl, rfl, rfl⟩
            · have hf := if_f c19 hf
              by_cases c20 : t_token = 115
              · have hf := if_t c20 hf
                refine E_tabIn (t := 66) dX4_readItem_4 (by rw [c20]; decide) (by rw [c20]; decide) (by rw [c20]; rfl) (by decide) ?_
                refine E_aload_n 0 dX4_readItem_66 (q := 67) rfl rfl rfl ?_
                refine E_aload_n 1 dX4_readItem_67 (q := 68) rfl rfl rfl ?_
                obtain ⟨z21, hxz21, hf⟩ := bnd hf
                have hF22 : Has n 7 (dpB γ 7 g_posts g_sees g_cold g_men g_debts g_on g_stove) (put 1 (txB γ 1 t_letters t_length t_at t_start t_token t_value t_onTold t_stoveTold) (put 7 (dpB γ 7 g_posts g_sees g_cold g_men g_debts g_on g_stove) h)) := (has_out (has_put hn_g) (Or.inr (Nat.le_of_ble_eq_true rfl)))
                refine E_cV (as := [.ref (gB γ + 7)]) (k := 1) (rest := []) (u' := (0, 0)) (st' := [.int z21.1]) dX4_readItem_68 (q := 71) rfl lkm_X4_readStove lkv_X4_56 (Nat.le_of_ble_eq_true rfl) ckX4 (hF1.at 0 rfl) (hF1.lt 0 (Nat.le_of_ble_eq_true rfl)) ⟨Nat.le_refl _, Nat.le_refl _⟩ (Nat.le_of_ble_eq_true rfl) rfl rfl (m_X4_readStove (N := N)  hF1 hF22 hxz21) rfl rfl rfl ?_
                refine Ev.heap ((congrArg (put 1 (txB γ 1 t_letters t_length z21.2.1 z21.2.2.1 z21.2.2.2.1 z21.2.2.2.2.1 t_onTold z21.2.2.2.2.2.1)) ((put_comm (Or.inr (Nat.le_of_ble_eq_true rfl))).trans (congrArg (put 1 (txB γ 1 t_letters t_length t_at t_start t_token t_value t_onTold t_stoveTold)) (put_put (k := 7) (cs := (dpB γ 7 g_posts g_sees g_cold g_men g_debts g_on g_stove)) (cs' := (dpB γ 7 g_posts g_sees g_cold g_men g_debts g_on z21.2.2.2.2.2.2)) (show (4 : Nat) = 4 from rfl))))).trans (put_put (k := 1) (cs := (txB γ 1 t_letters t_length t_at t_start t_token t_value t_onTold t_stoveTold)) (cs' := (txB γ 1 t_letters t_length z21.2.1 z21.2.2.1 z21.2.2.2.1 z21.2.2.2.2.1 t_onTold z21.2.2.2.2.2.1)) (show (2 : Nat) = 2 from rfl))) ?_
                obtain ⟨g24, hf⟩ := gd hf
                obtain rfl := Option.some.inj hf
                exact E_zret dX4_readItem_71 rfl g24 ⟨rfl, rfl, rfl⟩
              · have hf := if_f c20 hf
                refine E_tabOut (t := 72) dX4_readItem_4 (by have g0 := ne_toInt (z := 109) (by decide) c2; have g1 := ne_toInt (z := 110) (by decide) c7; have g2 := ne_toInt (z := 111) (by decide) c8; have g3 := ne_toInt (z := 112) (by decide) c13; have g4 := ne_toInt (z := 113) (by decide) c18; have g5 := ne_toInt (z := 114) (by decide) c19; have g6 := ne_toInt (z := 115) (by decide) c20; omega) (by decide) ?_
                refine E_iconst (x := 0) dX4_readItem_72 (q := 73) rfl (by decide) ?_
                obtain rfl := Option.some.inj hf
                exact E_zret dX4_readItem_73 rfl rfl ⟨rfl, rfl, rfl⟩

-- PostRelief$Text.readInto(LPostRelief$Depot;)I
def b_X4_readInto_1 (N : Nat) (t_letters : FN) (t_length : Int32) (v2 : Int32) (t_at : Int32) (t_start : Int32) (t_token : Int32) (t_value : Int32) (t_onTold : Int32) (t_stoveTold : Int32) (g_posts : Int32) (g_sees : FN) (g_cold : FN) (g_men : Int32) (g_debts : FN) (g_on : Int32) (g_stove : Int32) : Option ((Int32 × Int32 × Int32 × Int32 × Int32 × Int32 × Int32 × Int32 × FN × FN × Int32 × FN × Int32 × Int32) ⊕ ((Int32 × Int32 × Int32 × Int32 × Int32 × Int32 × Int32 × FN × FN × Int32 × FN × Int32 × Int32) ⊕ (Int32 × Int32 × Int32 × Int32 × Int32 × Int32 × Int32 × Int32 × FN × FN × Int32 × FN × Int32 × Int32))) :=
  (if t_length < v2 then some (.inr (.inl (t_at, t_start, t_token, t_value, t_onTold, t_stoveTold, g_posts, g_sees, g_cold, g_men, g_debts, g_on, g_stove))) else ((f_X4_nextToken N t_letters t_length t_at t_start t_token t_value).bind fun z13 => (if z13.2.2.1 = (-2) then some (.inr (.inr (v2, z13.1, z13.2.1, z13.2.2.1, z13.2.2.2, t_onTold, t_stoveTold, g_posts, g_sees, g_cold, g_men, g_debts, g_on, g_stove))) else ((f_X4_readItem N t_letters t_length z13.1 z13.2.1 z13.2.2.1 z13.2.2.2 t_onTold t_stoveTold g_posts g_sees g_cold g_men g_debts g_on g_stove).bind fun z17 => (if z17.1 = 0 then some (.inr (.inl (z17.2.1, z17.2.2.1, z17.2.2.2.1, z17.2.2.2.2.1, z17.2.2.2.2.2.1, z17.2.2.2.2.2.2.1, z17.2.2.2.2.2.2.2.1, z17.2.2.2.2.2.2.2.2.1, z17.2.2.2.2.2.2.2.2.2.1, z17.2.2.2.2.2.2.2.2.2.2.1, z17.2.2.2.2.2.2.2.2.2.2.2.1, z17.2.2.2.2.2.2.2.2.2.2.2.2.1, z17.2.2.2.2.2.2.2.2.2.2.2.2.2))) else some (.inl ((v2 + 1), z17.2.1, z17.2.2.1, z17.2.2.2.1, z17.2.2.2.2.1, z17.2.2.2.2.2.1, z17.2.2.2.2.2.2.1, z17.2.2.2.2.2.2.2.1, z17.2.2.2.2.2.2.2.2.1, z17.2.2.2.2.2.2.2.2.2.1, z17.2.2.2.2.2.2.2.2.2.2.1, z17.2.2.2.2.2.2.2.2.2.2.2.1, z17.2.2.2.2.2.2.2.2.2.2.2.2.1, z17.2.2.2.2.2.2.2.2.2.2.2.2.2)))))))
def f_X4_readInto (N : Nat) (t_letters : FN) (t_length : Int32) (t_at : Int32) (t_start : Int32) (t_token : Int32) (t_value : Int32) (t_onTold : Int32) (t_stoveTold : Int32) (g_posts : Int32) (g_sees : FN) (g_cold : FN) (g_men : Int32) (g_debts : FN) (g_on : Int32) (g_stove : Int32) : Option (Int32 × Int32 × Int32 × Int32 × Int32 × Int32 × Int32 × Int32 × FN × FN × Int32 × FN × Int32 × Int32) :=
  ((f_X0_empty N g_posts g_men g_on g_stove).bind fun z1 => ((lp (fun s => b_X4_readInto_1 N t_letters t_length s.1 s.2.1 s.2.2.1 s.2.2.2.1 s.2.2.2.2.1 s.2.2.2.2.2.1 s.2.2.2.2.2.2.1 s.2.2.2.2.2.2.2.1 s.2.2.2.2.2.2.2.2.1 s.2.2.2.2.2.2.2.2.2.1 s.2.2.2.2.2.2.2.2.2.2.1 s.2.2.2.2.2.2.2.2.2.2.2.1 s.2.2.2.2.2.2.2.2.2.2.2.2.1 s.2.2.2.2.2.2.2.2.2.2.2.2.2) N (0, 0, t_start, t_token, t_value, 0, 0, z1.1, g_sees, g_cold, z1.2.1, g_debts, z1.2.2.1, z1.2.2.2)).bind (Sum.elim (fun t21e => some (((-10) - t21e.2.1), t21e.1, t21e.2.1, t21e.2.2.1, t21e.2.2.2.1, t21e.2.2.2.2.1, t21e.2.2.2.2.2.1, t21e.2.2.2.2.2.2.1, t21e.2.2.2.2.2.2.2.1, t21e.2.2.2.2.2.2.2.2.1, t21e.2.2.2.2.2.2.2.2.2.1, t21e.2.2.2.2.2.2.2.2.2.2.1, t21e.2.2.2.2.2.2.2.2.2.2.2.1, t21e.2.2.2.2.2.2.2.2.2.2.2.2)) (fun r_ => some r_))))
set_option maxHeartbeats 4000000 in
set_option maxRecDepth 100000 in
theorem L_X4_readInto_1 {γ : GX} {n : Nat} {h : HP} {Ψ : PS} {N : Nat} {t_letters : FN} {t_length : Int32} (hn_t : 1 + 2 ≤ n) (hn_g : 7 + 4 ≤ n) {s0 : Int32 × Int32 × Int32 × Int32 × Int32 × Int32 × Int32 × Int32 × FN × FN × Int32 × FN × Int32 × Int32} {t : (Int32 × Int32 × Int32 × Int32 × Int32 × Int32 × Int32 × FN × FN × Int32 × FN × Int32 × Int32) ⊕ (Int32 × Int32 × Int32 × Int32 × Int32 × Int32 × Int32 × Int32 × FN × FN × Int32 × FN × Int32 × Int32)} (hf : lp (fun s => b_X4_readInto_1 N t_letters t_length s.1 s.2.1 s.2.2.1 s.2.2.2.1 s.2.2.2.2.1 s.2.2.2.2.2.1 s.2.2.2.2.2.2.1 s.2.2.2.2.2.2.2.1 s.2.2.2.2.2.2.2.2.1 s.2.2.2.2.2.2.2.2.2.1 s.2.2.2.2.2.2.2.2.2.2.1 s.2.2.2.2.2.2.2.2.2.2.2.1 s.2.2.2.2.2.2.2.2.2.2.2.2.1 s.2.2.2.2.2.2.2.2.2.2.2.2.2) N s0 = some t) (K : Sum.elim (fun e_ => Ev γ M_X4_readInto (0, 0) n (put 1 (txB γ 1 t_letters t_length e_.1 e_.2.1 e_.2.2.1 e_.2.2.2.1 e_.2.2.2.2.1 e_.2.2.2.2.2.1) (put 7 (dpB γ 7 e_.2.2.2.2.2.2.1 e_.2.2.2.2.2.2.2.1 e_.2.2.2.2.2.2.2.2.1 e_.2.2.2.2.2.2.2.2.2.1 e_.2.2.2.2.2.2.2.2.2.2.1 e_.2.2.2.2.2.2.2.2.2.2.2.1 e_.2.2.2.2.2.2.2.2.2.2.2.2) h)) [(0, .ref (gB γ + 1))] 61 [] Ψ) (fun r_ => Ψ (some (.int r_.1)) n (put 1 (txB γ 1 t_letters t_length r_.2.1 r_.2.2.1 r_.2.2.2.1 r_.2.2.2.2.1 r_.2.2.2.2.2.1 r_.2.2.2.2.2.2.1) (put 7 (dpB γ 7 r_.2.2.2.2.2.2.2.1 r_.2.2.2.2.2.2.2.2.1 r_.2.2.2.2.2.2.2.2.2.1 r_.2.2.2.2.2.2.2.2.2.2.1 r_.2.2.2.2.2.2.2.2.2.2.2.1 r_.2.2.2.2.2.2.2.2.2.2.2.2.1 r_.2.2.2.2.2.2.2.2.2.2.2.2.2) h))) t) : Ev γ M_X4_readInto (0, 0) n (put 1 (txB γ 1 t_letters t_length s0.2.1 s0.2.2.1 s0.2.2.2.1 s0.2.2.2.2.1 s0.2.2.2.2.2.1 s0.2.2.2.2.2.2.1) (put 7 (dpB γ 7 s0.2.2.2.2.2.2.2.1 s0.2.2.2.2.2.2.2.2.1 s0.2.2.2.2.2.2.2.2.2.1 s0.2.2.2.2.2.2.2.2.2.2.1 s0.2.2.2.2.2.2.2.2.2.2.2.1 s0.2.2.2.2.2.2.2.2.2.2.2.2.1 s0.2.2.2.2.2.2.2.2.2.2.2.2.2) h)) [(0, .ref (gB γ + 1)), (1, .ref (gB γ + 7)), (2, .int s0.1)] 21 [] Ψ := by
  refine E_lp (P := fun s => Ev γ M_X4_readInto (0, 0) n (put 1 (txB γ 1 t_letters t_length s.2.1 s.2.2.1 s.2.2.2.1 s.2.2.2.2.1 s.2.2.2.2.2.1 s.2.2.2.2.2.2.1) (put 7 (dpB γ 7 s.2.2.2.2.2.2.2.1 s.2.2.2.2.2.2.2.2.1 s.2.2.2.2.2.2.2.2.2.1 s.2.2.2.2.2.2.2.2.2.2.1 s.2.2.2.2.2.2.2.2.2.2.2.1 s.2.2.2.2.2.2.2.2.2.2.2.2.1 s.2.2.2.2.2.2.2.2.2.2.2.2.2) h)) [(0, .ref (gB γ + 1)), (1, .ref (gB γ + 7)), (2, .int s.1)] 21 [] Ψ) (K := fun t => Sum.elim (fun e_ => Ev γ M_X4_readInto (0, 0) n (put 1 (txB γ 1 t_letters t_length e_.1 e_.2.1 e_.2.2.1 e_.2.2.2.1 e_.2.2.2.2.1 e_.2.2.2.2.2.1) (put 7 (dpB γ 7 e_.2.2.2.2.2.2.1 e_.2.2.2.2.2.2.2.1 e_.2.2.2.2.2.2.2.2.1 e_.2.2.2.2.2.2.2.2.2.1 e_.2.2.2.2.2.2.2.2.2.2.1 e_.2.2.2.2.2.2.2.2.2.2.2.1 e_.2.2.2.2.2.2.2.2.2.2.2.2) h)) [(0, .ref (gB γ + 1))] 61 [] Ψ) (fun r_ => Ψ (some (.int r_.1)) n (put 1 (txB γ 1 t_letters t_length r_.2.1 r_.2.2.1 r_.2.2.2.1 r_.2.2.2.2.1 r_.2.2.2.2.2.1 r_.2.2.2.2.2.2.1) (put 7 (dpB γ 7 r_.2.2.2.2.2.2.2.1 r_.2.2.2.2.2.2.2.2.1 r_.2.2.2.2.2.2.2.2.2.1 r_.2.2.2.2.2.2.2.2.2.2.1 r_.2.2.2.2.2.2.2.2.2.2.2.1 r_.2.2.2.2.2.2.2.2.2.2.2.2.1 r_.2.2.2.2.2.2.2.2.2.2.2.2.2) h))) t) ?_ N s0 t hf K
  intro s r hf hP hK
  obtain ⟨v2, t_at, t_start, t_token, t_value, t_onTold, t_stoveTold, g_posts, g_sees, g_cold, g_men, g_debts, g_on, g_stove⟩ := s
  change b_X4_readInto_1 N t_letters t_length v2 t_at t_start t_token t_value t_onTold t_stoveTold g_posts g_sees g_cold g_men g_debts g_on g_stove = some r at hf
  unfold b_X4_readInto_1 at hf
  show Ev γ M_X4_readInto (0, 0) n (put 1 (txB γ 1 t_letters t_length t_at t_start t_token t_value t_onTold t_stoveTold) (put 7 (dpB γ 7 g_posts g_sees g_cold g_men g_debts g_on g_stove) h)) [(0, .ref (gB γ + 1)), (1, .ref (gB γ + 7)), (2, .int v2)] 21 [] Ψ
  refine E_iload_n 2 dX4_readInto_21 (q := 22) rfl rfl rfl ?_
  refine E_aload_n 0 dX4_readInto_22 (q := 23) rfl rfl rfl ?_
  have hF11 : Has n 1 (txB γ 1 t_letters t_length t_at t_start t_token t_value t_onTold t_stoveTold) (put 1 (txB γ 1 t_letters t_length t_at t_start t_token t_value t_onTold t_stoveTold) (put 7 (dpB γ 7 g_posts g_sees g_cold g_men g_debts g_on g_stove) h)) := (has_put hn_t)
  refine E_get 1 dX4_readInto_23 (q := 26) rfl ckX4 (Nat.le_of_ble_eq_true rfl) fl_X4_15 (hF11.at 0 rfl) (hF11.lt 0 (Nat.le_of_ble_eq_true rfl)) rfl ?_
  refine E_icmp_gt dX4_readInto_26 (t := 61) (by decide) (q := 29) rfl (fun c12 => ?_) (fun c12 => ?_)
  · have hf := if_t c12 hf
    exact E_sub [0] rfl (hK _ (Option.some.inj hf).symm)
  · have hf := if_f c12 hf
    refine E_aload_n 0 dX4_readInto_29 (q := 30) rfl rfl rfl ?_
    obtain ⟨z13, hxz13, hf⟩ := bnd hf
    refine E_cV (as := []) (k := 1) (rest := []) (u' := (0, 0)) (st' := []) dX4_readInto_30 (q := 33) rfl lkm_X4_nextToken lkv_X4_34 (Nat.le_of_ble_eq_true rfl) ckX4 (hF11.at 0 rfl) (hF11.lt 0 (Nat.le_of_ble_eq_true rfl)) ⟨Nat.le_refl _, Nat.le_refl _⟩ (Nat.le_of_ble_eq_true rfl) rfl rfl (m_X4_nextToken (N := N)  hF11 hxz13) rfl rfl rfl ?_
    refine Ev.heap (put_put (k := 1) (cs := (txB γ 1 t_letters t_length t_at t_start t_token t_value t_onTold t_stoveTold)) (cs' := (txB γ 1 t_letters t_length z13.1 z13.2.1 z13.2.2.1 z13.2.2.2 t_onTold t_stoveTold)) (show (2 : Nat) = 2 from rfl)) ?_
    refine E_aload_n 0 dX4_readInto_33 (q := 34) rfl rfl rfl ?_
    have hF15 : Has n 1 (txB γ 1 t_letters t_length z13.1 z13.2.1 z13.2.2.1 z13.2.2.2 t_onTold t_stoveTold) (put 1 (txB γ 1 t_letters t_length z13.1 z13.2.1 z13.2.2.1 z13.2.2.2 t_onTold t_stoveTold) (put 7 (dpB γ 7 g_posts g_sees g_cold g_men g_debts g_on g_stove) h)) := (has_put hn_t)
    refine E_get 4 dX4_readInto_34 (q := 37) rfl ckX4 (Nat.le_of_ble_eq_true rfl) fl_X4_37 (hF15.at 0 rfl) (hF15.lt 0 (Nat.le_of_ble_eq_true rfl)) rfl ?_
    refine E_bipush (x := (-2)) dX4_readInto_37 (q := 39) rfl (by decide) ?_
    refine E_icmp_ne dX4_readInto_39 (t := 44) (by decide) (q := 42) rfl (fun c16 => ?_) (fun c16 => ?_)
    · have hf := if_f c16 hf
      refine E_aload_n 0 dX4_readInto_44 (q := 45) rfl rfl rfl ?_
      refine E_aload_n 1 dX4_readInto_45 (q := 46) rfl rfl rfl ?_
      obtain ⟨z17, hxz17, hf⟩ := bnd hf
      have hF18 : Has n 7 (dpB γ 7 g_posts g_sees g_cold g_men g_debts g_on g_stove) (put 1 (txB γ 1 t_letters t_length z13.1 z13.2.1 z13.2.2.1 z13.2.2.2 t_onTold t_stoveTold) (put 7 (dpB γ 7 g_posts g_sees g_cold g_men g_debts g_on g_stove) h)) := (has_out (has_put hn_g) (Or.inr (Nat.le_of_ble_eq_true rfl)))
      refine E_cV (as := [.ref (gB γ + 7)]) (k := 1) (rest := []) (u' := (0, 0)) (st' := [.int z17.1]) dX4_readInto_46 (q := 49) rfl lkm_X4_readItem lkv_X4_40 (Nat.le_of_ble_eq_true rfl) ckX4 (hF15.at 0 rfl) (hF15.lt 0 (Nat.le_of_ble_eq_true rfl)) ⟨Nat.le_refl _, Nat.le_refl _⟩ (Nat.le_of_ble_eq_true rfl) rfl rfl (m_X4_readItem (N := N)  hF15 hF18 hxz17) rfl rfl rfl ?_
      refine Ev.heap ((congrArg (put 1 (txB γ 1 t_letters t_length z17.2.1 z17.2.2.1 z17.2.2.2.1 z17.2.2.2.2.1 z17.2.2.2.2.2.1 z17.2.2.2.2.2.2.1)) ((put_comm (Or.inr (Nat.le_of_ble_eq_true rfl))).trans (congrArg (put 1 (txB γ 1 t_letters t_length z13.1 z13.2.1 z13.2.2.1 z13.2.2.2 t_onTold t_stoveTold)) (put_put (k := 7) (cs := (dpB γ 7 g_posts g_sees g_cold g_men g_debts g_on g_stove)) (cs' := (dpB γ 7 z17.2.2.2.2.2.2.2.1 z17.2.2.2.2.2.2.2.2.1 z17.2.2.2.2.2.2.2.2.2.1 z17.2.2.2.2.2.2.2.2.2.2.1 z17.2.2.2.2.2.2.2.2.2.2.2.1 z17.2.2.2.2.2.2.2.2.2.2.2.2.1 z17.2.2.2.2.2.2.2.2.2.2.2.2.2)) (show (4 : Nat) = 4 from rfl))))).trans (put_put (k := 1) (cs := (txB γ 1 t_letters t_length z13.1 z13.2.1 z13.2.2.1 z13.2.2.2 t_onTold t_stoveTold)) (cs' := (txB γ 1 t_letters t_length z17.2.1 z17.2.2.1 z17.2.2.2.1 z17.2.2.2.2.1 z17.2.2.2.2.2.1 z17.2.2.2.2.2.2.1)) (show (2 : Nat) = 2 from rfl))) ?_
      refine E_if_ne dX4_readInto_49 (t := 55) (by decide) (q := 52) rfl (fun c20 => ?_) (fun c20 => ?_)
      · have hf := if_f c20 hf
        refine E_iinc 2 [(2, .int (v2 + 1)), (0, .ref (gB γ + 1)), (1, .ref (gB γ + 7))] dX4_readInto_55 (q := 58) rfl rfl rfl (Nat.le_of_ble_eq_true rfl) rfl ?_
        refine E_goto (q := 21) dX4_readInto_58 (by decide) ?_
        exact E_sub [1, 2, 0] rfl (hP _ (Option.some.inj hf).symm)
      · have hf := if_t c20 hf
        refine E_goto (q := 61) dX4_readInto_52 (by decide) ?_
        exact E_sub [0] rfl (hK _ (Option.some.inj hf).symm)
    · have hf := if_t c16 hf
      refine E_iload_n 2 dX4_readInto_42 (q := 43) rfl rfl rfl ?_
      exact E_iret dX4_readInto_43 rfl (hK _ (Option.some.inj hf).symm)
set_option maxHeartbeats 4000000 in
set_option maxRecDepth 100000 in
theorem m_X4_readInto {γ : GX} {n : Nat} {N : Nat} {h : HP} {t_letters : FN} {t_length : Int32} {t_at : Int32} {t_start : Int32} {t_token : Int32} {t_value : Int32} {t_onTold : Int32} {t_stoveTold : Int32} {g_posts : Int32} {g_sees : FN} {g_cold : FN} {g_men : Int32} {g_debts : FN} {g_on : Int32} {g_stove : Int32} (hH_t : Has n 1 (txB γ 1 t_letters t_length t_at t_start t_token t_value t_onTold t_stoveTold) h) (hH_g : Has n 7 (dpB γ 7 g_posts g_sees g_cold g_men g_debts g_on g_stove) h) {z : Int32 × Int32 × Int32 × Int32 × Int32 × Int32 × Int32 × Int32 × FN × FN × Int32 × FN × Int32 × Int32} (hf : f_X4_readInto N t_letters t_length t_at t_start t_token t_value t_onTold t_stoveTold g_posts g_sees g_cold g_men g_debts g_on g_stove = some z)  : Ct γ M_X4_readInto n h [.ref (gB γ + 1), .ref (gB γ + 7)] (Done (some (.int z.1)) n (put 1 (txB γ 1 t_letters t_length z.2.1 z.2.2.1 z.2.2.2.1 z.2.2.2.2.1 z.2.2.2.2.2.1 z.2.2.2.2.2.2.1) (put 7 (dpB γ 7 z.2.2.2.2.2.2.2.1 z.2.2.2.2.2.2.2.2.1 z.2.2.2.2.2.2.2.2.2.1 z.2.2.2.2.2.2.2.2.2.2.1 z.2.2.2.2.2.2.2.2.2.2.2.1 z.2.2.2.2.2.2.2.2.2.2.2.2.1 z.2.2.2.2.2.2.2.2.2.2.2.2.2) h))) := by
  have hn_t : 1 + 2 ≤ n := hH_t.1
  have hn_g : 7 + 4 ≤ n := hH_g.1
  refine Ct.heap (h := (put 1 (txB γ 1 t_letters t_length t_at t_start t_token t_value t_onTold t_stoveTold) (put 7 (dpB γ 7 g_posts g_sees g_cold g_men g_debts g_on g_stove) h))) ((congrArg (put 1 (txB γ 1 t_letters t_length t_at t_start t_token t_value t_onTold t_stoveTold)) (put_self hH_g)).trans (put_self hH_t)).symm ?_
  refine Ct_of_Ev (by decide) (fun h => by cases h) (Nat.le_of_ble_eq_true rfl) ?_
  show Ev γ M_X4_readInto (0, 0) n (put 1 (txB γ 1 t_letters t_length t_at t_start t_token t_value t_onTold t_stoveTold) (put 7 (dpB γ 7 g_posts g_sees g_cold g_men g_debts g_on g_stove) h)) [(0, .ref (gB γ + 1)), (1, .ref (gB γ + 7))] 0 [] _
  unfold f_X4_readInto at hf
  refine E_aload_n 1 dX4_readInto_0 (q := 1) rfl rfl rfl ?_
  obtain ⟨z1, hxz1, hf⟩ := bnd hf
  have hF2 : Has n 7 (dpB γ 7 g_posts g_sees g_cold g_men g_debts g_on g_stove) (put 1 (txB γ 1 t_letters t_length t_at t_start t_token t_value t_onTold t_stoveTold) (put 7 (dpB γ 7 g_posts g_sees g_cold g_men g_debts g_on g_stove) h)) := (has_out (has_put hn_g) (Or.inr (Nat.le_of_ble_eq_true rfl)))
  refine E_cV (as := []) (k := 7) (rest := []) (u' := (0, 0)) (st' := []) dX4_readInto_1 (q := 4) rfl lkm_X0_empty lkv_X4_19 (Nat.le_of_ble_eq_true rfl) ckX0 (hF2.at 0 rfl) (hF2.lt 0 (Nat.le_of_ble_eq_true rfl)) ⟨Nat.le_refl _, Nat.le_refl _⟩ (Nat.le_of_ble_eq_true rfl) rfl rfl (m_X0_empty (N := N)  hF2 hxz1) rfl rfl rfl ?_
  refine Ev.heap ((put_comm (Or.inr (Nat.le_of_ble_eq_true rfl))).trans (congrArg (put 1 (txB γ 1 t_letters t_length t_at t_start t_token t_value t_onTold t_stoveTold)) (put_put (k := 7) (cs := (dpB γ 7 g_posts g_sees g_cold g_men g_debts g_on g_stove)) (cs' := (dpB γ 7 z1.1 g_sees g_cold z1.2.1 g_debts z1.2.2.1 z1.2.2.2)) (show (4 : Nat) = 4 from rfl)))) ?_
  refine E_aload_n 0 dX4_readInto_4 (q := 5) rfl rfl rfl ?_
  refine E_iconst (x := 0) dX4_readInto_5 (q := 6) rfl (by decide) ?_
  have hF4 : Has n 1 (txB γ 1 t_letters t_length t_at t_start t_token t_value t_onTold t_stoveTold) (put 1 (txB γ 1 t_letters t_length t_at t_start t_token t_value t_onTold t_stoveTold) (put 7 (dpB γ 7 z1.1 g_sees g_cold z1.2.1 g_debts z1.2.2.1 z1.2.2.2) h)) := (has_put hn_t)
  refine E_put 6 dX4_readInto_6 (q := 9) rfl ckX4 (Nat.le_of_ble_eq_true rfl) fl_X4_24 rfl rfl rfl (hF4.at 0 rfl) (hF4.lt 0 (Nat.le_of_ble_eq_true rfl)) (Nat.le_of_ble_eq_true rfl) (up_put (i := 0) (cs' := (txB γ 1 t_letters t_length t_at t_start t_token t_value 0 t_stoveTold)) (Nat.le_of_ble_eq_true rfl) rfl) ?_
  refine E_aload_n 0 dX4_readInto_9 (q := 10) rfl rfl rfl ?_
  refine E_iconst (x := 0) dX4_readInto_10 (q := 11) rfl (by decide) ?_
  have hF6 : Has n 1 (txB γ 1 t_letters t_length t_at t_start t_token t_value 0 t_stoveTold) (put 1 (txB γ 1 t_letters t_length t_at t_start t_token t_value 0 t_stoveTold) (put 7 (dpB γ 7 z1.1 g_sees g_cold z1.2.1 g_debts z1.2.2.1 z1.2.2.2) h)) := (has_put hn_t)
  refine E_put 7 dX4_readInto_11 (q := 14) rfl ckX4 (Nat.le_of_ble_eq_true rfl) fl_X4_28 rfl rfl rfl (hF6.at 0 rfl) (hF6.lt 0 (Nat.le_of_ble_eq_true rfl)) (Nat.le_of_ble_eq_true rfl) (up_put (i := 0) (cs' := (txB γ 1 t_letters t_length t_at t_start t_token t_value 0 0)) (Nat.le_of_ble_eq_true rfl) rfl) ?_
  refine E_aload_n 0 dX4_readInto_14 (q := 15) rfl rfl rfl ?_
  refine E_iconst (x := 0) dX4_readInto_15 (q := 16) rfl (by decide) ?_
  have hF8 : Has n 1 (txB γ 1 t_letters t_length t_at t_start t_token t_value 0 0) (put 1 (txB γ 1 t_letters t_length t_at t_start t_token t_value 0 0) (put 7 (dpB γ 7 z1.1 g_sees g_cold z1.2.1 g_debts z1.2.2.1 z1.2.2.2) h)) := (has_put hn_t)
  refine E_put 2 dX4_readInto_16 (q := 19) rfl ckX4 (Nat.le_of_ble_eq_true rfl) fl_X4_31 rfl rfl rfl (hF8.at 0 rfl) (hF8.lt 0 (Nat.le_of_ble_eq_true rfl)) (Nat.le_of_ble_eq_true rfl) (up_put (i := 0) (cs' := (txB γ 1 t_letters t_length 0 t_start t_token t_value 0 0)) (Nat.le_of_ble_eq_true rfl) rfl) ?_
  refine E_iconst (x := 0) dX4_readInto_19 (q := 20) rfl (by decide) ?_
  refine E_istore_n [(2, .int 0), (0, .ref (gB γ + 1)), (1, .ref (gB γ + 7))] dX4_readInto_20 (q := 21) rfl rfl (Nat.le_of_ble_eq_true rfl) rfl ?_
  obtain ⟨t21, hxt21, hf⟩ := bnd hf
  rcases t21 with t21e | t21r
  · replace hf := sum_l hf
    refine E_sub [1, 2, 0] rfl ?_
    refine L_X4_readInto_1 hn_t hn_g hxt21 ?_
    show Ev γ M_X4_readInto _ n (put 1 (txB γ 1 t_letters t_length t21e.1 t21e.2.1 t21e.2.2.1 t21e.2.2.2.1 t21e.2.2.2.2.1 t21e.2.2.2.2.2.1) (put 7 (dpB γ 7 t21e.2.2.2.2.2.2.1 t21e.2.2.2.2.2.2.2.1 t21e.2.2.2.2.2.2.2.2.1 t21e.2.2.2.2.2.2.2.2.2.1 t21e.2.2.2.2.2.2.2.2.2.2.1 t21e.2.2.2.2.2.2.2.2.2.2.2.1 t21e.2.2.2.2.2.2.2.2.2.2.2.2) h)) [(0, .ref (gB γ + 1))] 61 [] _
    refine E_bipush (x := (-10)) dX4_readInto_61 (q := 63) rfl (by decide) ?_
    refine E_aload_n 0 dX4_readInto_63 (q := 64) rfl rfl rfl ?_
    have hF23 : Has n 1 (txB γ 1 t_letters t_length t21e.1 t21e.2.1 t21e.2.2.1 t21e.2.2.2.1 t21e.2.2.2.2.1 t21e.2.2.2.2.2.1) (put 1 (txB γ 1 t_letters t_length t21e.1 t21e.2.1 t21e.2.2.1 t21e.2.2.2.1 t21e.2.2.2.2.1 t21e.2.2.2.2.2.1) (put 7 (dpB γ 7 t21e.2.2.2.2.2.2.1 t21e.2.2.2.2.2.2.2.1 t21e.2.2.2.2.2.2.2.2.1 t21e.2.2.2.2.2.2.2.2.2.1 t21e.2.2.2.2.2.2.2.2.2.2.1 t21e.2.2.2.2.2.2.2.2.2.2.2.1 t21e.2.2.2.2.2.2.2.2.2.2.2.2) h)) := (has_put hn_t)
    refine E_get 3 dX4_readInto_64 (q := 67) rfl ckX4 (Nat.le_of_ble_eq_true rfl) fl_X4_44 (hF23.at 0 rfl) (hF23.lt 0 (Nat.le_of_ble_eq_true rfl)) rfl ?_
    refine E_isub dX4_readInto_67 (q := 68) rfl ?_
    obtain rfl := Option.some.inj hf
    exact E_iret dX4_readInto_68 rfl ⟨rfl, rfl, rfl⟩
  · replace hf := sum_r hf
    obtain rfl := Option.some.inj hf
    refine E_sub [1, 2, 0] rfl ?_
    refine L_X4_readInto_1 hn_t hn_g hxt21 ?_
    exact ⟨rfl, rfl, rfl⟩
