def M_X6_within : MI := (yX6_within, cX6_within, 3, (some .boolean), false, 1, 0, 0)
theorem lkm_X6_within : LkM M_X6_within 3 := ⟨(lg_mem 50 (by decide +kernel) rfl), (lg_mem 286 (by decide +kernel) rfl), ⟨by decide, by decide, by decide +kernel⟩, (Nat.le_of_ble_eq_true rfl)⟩
def M_X5_placeOf : MI := (yX5_placeOf, cX5_placeOf, 3, (some .int), false, 1, 0, 0)
theorem lkm_X5_placeOf : LkM M_X5_placeOf 1 := ⟨(lg_mem 53 (by decide +kernel) rfl), (lg_mem 392 (by decide +kernel) rfl), ⟨by decide, by decide, by decide +kernel⟩, (Nat.le_of_ble_eq_true rfl)⟩
def M_X5_place : MI := (yX5_place, cX5_place, 3, none, false, 1, 0, 0)
theorem lkm_X5_place : LkM M_X5_place 2 := ⟨(lg_mem 53 (by decide +kernel) rfl), (lg_mem 437 (by decide +kernel) rfl), ⟨by decide, by decide, by decide +kernel⟩, (Nat.le_of_ble_eq_true rfl)⟩
def M_X5_sleepsAt : MI := (yX5_sleepsAt, cX5_sleepsAt, 3, (some .boolean), false, 1, 0, 0)
theorem lkm_X5_sleepsAt : LkM M_X5_sleepsAt 1 := ⟨(lg_mem 53 (by decide +kernel) rfl), (lg_mem 396 (by decide +kernel) rfl), ⟨by decide, by decide, by decide +kernel⟩, (Nat.le_of_ble_eq_true rfl)⟩
def M_X5_mannedPosts : MI := (yX5_mannedPosts, cX5_mannedPosts, 3, (some .int), false, 1, 0, 0)
theorem lkm_X5_mannedPosts : LkM M_X5_mannedPosts 0 := ⟨(lg_mem 53 (by decide +kernel) rfl), (lg_mem 404 (by decide +kernel) rfl), ⟨by decide, by decide, by decide +kernel⟩, (Nat.le_of_ble_eq_true rfl)⟩
def M_X5_sleepingPosts : MI := (yX5_sleepingPosts, cX5_sleepingPosts, 3, (some .int), false, 2, 0, 0)
theorem lkm_X5_sleepingPosts : LkM M_X5_sleepingPosts 0 := ⟨(lg_mem 53 (by decide +kernel) rfl), (lg_mem 408 (by decide +kernel) rfl), ⟨by decide, by decide, by decide +kernel⟩, (Nat.le_of_ble_eq_true rfl)⟩
theorem fl_X5_15 : Cond.fieldLink RX5 15 (TX5 2).1 (TX5 2).2.1 (TX5 2).2.2.1 ∈ lw_good := (lg_mem 167 (by decide +kernel) rfl)
theorem fl_X5_18 : Cond.fieldLink RX5 18 (TX5 3).1 (TX5 3).2.1 (TX5 3).2.2.1 ∈ lw_good := (lg_mem 169 (by decide +kernel) rfl)
theorem fl_X5_9 : Cond.fieldLink RX5 9 (TX5 1).1 (TX5 1).2.1 (TX5 1).2.2.1 ∈ lw_good := (lg_mem 164 (by decide +kernel) rfl)
theorem lkv_X5_43 : LkV RX5 43 M_X5_sleepsAt := ⟨(lg_mem 409 (by decide +kernel) rfl), (lg_mem 394 (by decide +kernel) rfl), (lg_mem 395 (by decide +kernel) rfl)⟩
-- PostRelief.within(III)Z
def f_X6_within (N : Nat) (a0 : Int32) (a1 : Int32) (a2 : Int32) : Option (Int32) :=
  (if a0 < a1 then some 0 else (if a2 < a0 then some 0 else some 1))
set_option maxHeartbeats 4000000 in
set_option maxRecDepth 100000 in
theorem m_X6_within {γ : GX} {n : Nat} {h : HP} {N : Nat} {a0 : Int32} {a1 : Int32} {a2 : Int32}   {z : Int32} (hf : f_X6_within N a0 a1 a2 = some z) : Ct γ M_X6_within n h [.int a0, .int a1, .int a2] (Done (some (.int z)) n h) := by
  refine Ct_of_Ev (by decide) (fun h => by cases h) (Nat.le_of_ble_eq_true rfl) ?_
  show Ev γ M_X6_within (0, 0) n h [(0, .int a0), (1, .int a1), (2, .int a2)] 0 [] _
  unfold f_X6_within at hf
  refine E_iload_n 0 dX6_within_0 (q := 1) rfl rfl rfl ?_
  refine E_iload_n 1 dX6_within_1 (q := 2) rfl rfl rfl ?_
  refine E_icmp_lt dX6_within_2 (t := 14) (by decide) (q := 5) rfl (fun c1 => ?_) (fun c1 => ?_)
  · have hf := if_t c1 hf
    refine E_iconst (x := 0) dX6_within_14 (q := 15) rfl (by decide) ?_
    cases hf
    exact E_zret dX6_within_15 rfl rfl ⟨rfl, rfl, rfl⟩
  · have hf := if_f c1 hf
    refine E_iload_n 0 dX6_within_5 (q := 6) rfl rfl rfl ?_
    refine E_iload_n 2 dX6_within_6 (q := 7) rfl rfl rfl ?_
    refine E_icmp_gt dX6_within_7 (t := 14) (by decide) (q := 10) rfl (fun c2 => ?_) (fun c2 => ?_)
    · have hf := if_t c2 hf
      refine E_iconst (x := 0) dX6_within_14 (q := 15) rfl (by decide) ?_
      cases hf
      exact E_zret dX6_within_15 rfl rfl ⟨rfl, rfl, rfl⟩
    · have hf := if_f c2 hf
      refine E_iconst (x := 1) dX6_within_10 (q := 11) rfl (by decide) ?_
      refine E_goto (q := 15) dX6_within_11 (by decide) ?_
      cases hf
      exact E_zret dX6_within_15 rfl rfl ⟨rfl, rfl, rfl⟩

-- PostRelief$Watch.placeOf(I)I
def b_X5_placeOf_1 (N : Nat) (p1 : Int32) (w_guards : FN) (v2 : Int32) : Option ((Int32) ⊕ ((Unit) ⊕ (Int32))) :=
  (if 5 ≤ v2 then some (.inr (.inl ())) else (if ix v2 5 = true then (if (w_guards (ci v2)) = p1 then some (.inr (.inr v2)) else some (.inl (v2 + 1))) else none))
def f_X5_placeOf (N : Nat) (a1 : Int32) (w_guards : FN) : Option (Int32) :=
  ((lp (fun s => b_X5_placeOf_1 N a1 w_guards s) N 0).bind (Sum.elim (fun t5e => some (-9)) (fun r_ => some r_)))
set_option maxHeartbeats 4000000 in
set_option maxRecDepth 100000 in
theorem L_X5_placeOf_1 {γ : GX} {n : Nat} {k : Nat} {h : HP} {Ψ : PS} {N : Nat} {p1 : Int32} {w_hour : Int32} {w_debts : FN} {w_guards : FN} {w_stood : FN} {w_served : FN} (hk : 11 ≤ k) (hH_w : Has n k (wtB γ k w_hour w_debts w_guards w_stood w_served) h) {s0 : Int32} {t : (Unit) ⊕ (Int32)} (hf : lp (fun s => b_X5_placeOf_1 N p1 w_guards s) N s0 = some t) (K : Sum.elim (fun e_ => Ev γ M_X5_placeOf (0, 0) n h [] 25 [] Ψ) (fun r_ => Ψ (some (.int r_)) n h) t) : Ev γ M_X5_placeOf (0, 0) n h [(0, .ref (gB γ + k)), (1, .int p1), (2, .int s0)] 2 [] Ψ := by
  refine E_lp (P := fun s => Ev γ M_X5_placeOf (0, 0) n h [(0, .ref (gB γ + k)), (1, .int p1), (2, .int s)] 2 [] Ψ) (K := fun t => Sum.elim (fun e_ => Ev γ M_X5_placeOf (0, 0) n h [] 25 [] Ψ) (fun r_ => Ψ (some (.int r_)) n h) t) ?_ N s0 t hf K
  intro s r hf hP hK
  obtain ⟨v2, hs⟩ : ∃ z, z = s := ⟨s, rfl⟩; subst hs
  unfold b_X5_placeOf_1 at hf
  try dsimp only at hf
  show Ev γ M_X5_placeOf (0, 0) n h [(0, .ref (gB γ + k)), (1, .int p1), (2, .int v2)] 2 [] Ψ
  refine E_iload_n 2 dX5_placeOf_2 (q := 3) rfl rfl rfl ?_
  refine E_iconst (x := 5) dX5_placeOf_3 (q := 4) rfl (by decide) ?_
  refine E_icmp_ge dX5_placeOf_4 (t := 25) (by decide) (q := 7) rfl (fun c2 => ?_) (fun c2 => ?_)
  · have hf := if_t c2 hf
    exact E_sub [] rfl (hK _ (Option.some.inj hf).symm)
  · have hf := if_f c2 hf
    refine E_aload_n 0 dX5_placeOf_7 (q := 8) rfl rfl rfl ?_
    refine E_get 2 dX5_placeOf_8 (q := 11) rfl ckX5 (Nat.le_of_ble_eq_true rfl) fl_X5_15 (hH_w.at 0 rfl) (hH_w.lt 0 (Nat.le_of_ble_eq_true rfl)) rfl ?_
    refine E_iload_n 2 dX5_placeOf_11 (q := 12) rfl rfl rfl ?_
    obtain ⟨g3, hf⟩ := gd hf
    refine E_iald dX5_placeOf_12 (q := 13) rfl (hH_w.at 2 rfl) (hH_w.lt 2 (Nat.le_of_ble_eq_true rfl)) g3 ?_
    refine E_iload_n 1 dX5_placeOf_13 (q := 14) rfl rfl rfl ?_
    refine E_icmp_ne dX5_placeOf_14 (t := 19) (by decide) (q := 17) rfl (fun c4 => ?_) (fun c4 => ?_)
    · have hf := if_f c4 hf
      refine E_iinc 2 [(2, .int (v2 + 1)), (0, .ref (gB γ + k)), (1, .int p1)] dX5_placeOf_19 (q := 22) rfl rfl rfl (Nat.le_of_ble_eq_true rfl) rfl ?_
      refine E_goto (q := 2) dX5_placeOf_22 (by decide) ?_
      exact E_sub [1, 2, 0] rfl (hP _ (Option.some.inj hf).symm)
    · have hf := if_t c4 hf
      refine E_iload_n 2 dX5_placeOf_17 (q := 18) rfl rfl rfl ?_
      exact E_iret dX5_placeOf_18 rfl (hK _ (Option.some.inj hf).symm)
set_option maxHeartbeats 4000000 in
set_option maxRecDepth 100000 in
theorem m_X5_placeOf {γ : GX} {n : Nat} {k : Nat} {h : HP} {N : Nat} {a1 : Int32} {w_hour : Int32} {w_debts : FN} {w_guards : FN} {w_stood : FN} {w_served : FN} (hk : 11 ≤ k) (hH_w : Has n k (wtB γ k w_hour w_debts w_guards w_stood w_served) h) {z : Int32} (hf : f_X5_placeOf N a1 w_guards = some z) : Ct γ M_X5_placeOf n h [.ref (gB γ + k), .int a1] (Done (some (.int z)) n h) := by
  refine Ct_of_Ev (by decide) (fun h => by cases h) (Nat.le_of_ble_eq_true rfl) ?_
  show Ev γ M_X5_placeOf (0, 0) n h [(0, .ref (gB γ + k)), (1, .int a1)] 0 [] _
  unfold f_X5_placeOf at hf
  refine E_iconst (x := 0) dX5_placeOf_0 (q := 1) rfl (by decide) ?_
  refine E_istore_n [(2, .int 0), (0, .ref (gB γ + k)), (1, .int a1)] dX5_placeOf_1 (q := 2) rfl rfl (Nat.le_of_ble_eq_true rfl) rfl ?_
  obtain ⟨t5, hxt5, hf⟩ := bnd hf
  rcases t5 with t5e | t5r
  · dsimp only [Sum.elim_inl] at hf
    refine E_sub [1, 2, 0] rfl ?_
    refine L_X5_placeOf_1 hk hH_w hxt5 ?_
    show Ev γ M_X5_placeOf _ n h [] 25 [] _
    refine E_bipush (x := (-9)) dX5_placeOf_25 (q := 27) rfl (by decide) ?_
    cases hf
    exact E_iret dX5_placeOf_27 rfl ⟨rfl, rfl, rfl⟩
  · dsimp only [Sum.elim_inr] at hf
    cases hf
    refine E_sub [1, 2, 0] rfl ?_
    refine L_X5_placeOf_1 hk hH_w hxt5 ?_
    exact ⟨rfl, rfl, rfl⟩

-- PostRelief$Watch.place(II)V
def f_X5_place (N : Nat) (a1 : Int32) (a2 : Int32) (w_guards : FN) (w_stood : FN) : Option (FN × FN) :=
  (if ix a2 5 = true then some ((upd w_guards (ci a2) a1), (upd w_stood (ci a2) 0)) else none)
set_option maxHeartbeats 4000000 in
set_option maxRecDepth 100000 in
theorem m_X5_place {γ : GX} {n : Nat} {k : Nat} {h : HP} {N : Nat} {a1 : Int32} {a2 : Int32} {w_hour : Int32} {w_debts : FN} {w_guards : FN} {w_stood : FN} {w_served : FN} (hk : 11 ≤ k) (hH_w : Has n k (wtB γ k w_hour w_debts w_guards w_stood w_served) h) {z : FN × FN} (hf : f_X5_place N a1 a2 w_guards w_stood = some z) : Ct γ M_X5_place n h [.ref (gB γ + k), .int a1, .int a2] (Done none n (put k (wtB γ k w_hour w_debts z.1 z.2 w_served) h)) := by
  have hn_w : k + 5 ≤ n := hH_w.1
  refine Ct.heap (h := (put k (wtB γ k w_hour w_debts w_guards w_stood w_served) h)) (put_self hH_w).symm ?_
  refine Ct_of_Ev (by decide) (fun h => by cases h) (Nat.le_of_ble_eq_true rfl) ?_
  show Ev γ M_X5_place (0, 0) n (put k (wtB γ k w_hour w_debts w_guards w_stood w_served) h) [(0, .ref (gB γ + k)), (1, .int a1), (2, .int a2)] 0 [] _
  unfold f_X5_place at hf
  refine E_aload_n 0 dX5_place_0 (q := 1) rfl rfl rfl ?_
  have hF1 : Has n k (wtB γ k w_hour w_debts w_guards w_stood w_served) (put k (wtB γ k w_hour w_debts w_guards w_stood w_served) h) := (has_put hn_w)
  refine E_get 2 dX5_place_1 (q := 4) rfl ckX5 (Nat.le_of_ble_eq_true rfl) fl_X5_15 (hF1.at 0 rfl) (hF1.lt 0 (Nat.le_of_ble_eq_true rfl)) rfl ?_
  refine E_iload_n 2 dX5_place_4 (q := 5) rfl rfl rfl ?_
  refine E_iload_n 1 dX5_place_5 (q := 6) rfl rfl rfl ?_
  obtain ⟨g2, hf⟩ := gd hf
  refine E_iast dX5_place_6 (q := 7) rfl (hF1.at 2 rfl) (hF1.lt 2 (Nat.le_of_ble_eq_true rfl)) g2 (up_put (i := 2) (cs' := (wtB γ k w_hour w_debts (upd w_guards (ci a2) a1) w_stood w_served)) (Nat.le_of_ble_eq_true rfl) rfl) ?_
  refine E_aload_n 0 dX5_place_7 (q := 8) rfl rfl rfl ?_
  have hF4 : Has n k (wtB γ k w_hour w_debts (upd w_guards (ci a2) a1) w_stood w_served) (put k (wtB γ k w_hour w_debts (upd w_guards (ci a2) a1) w_stood w_served) h) := (has_put hn_w)
  refine E_get 3 dX5_place_8 (q := 11) rfl ckX5 (Nat.le_of_ble_eq_true rfl) fl_X5_18 (hF4.at 0 rfl) (hF4.lt 0 (Nat.le_of_ble_eq_true rfl)) rfl ?_
  refine E_iload_n 2 dX5_place_11 (q := 12) rfl rfl rfl ?_
  refine E_iconst (x := 0) dX5_place_12 (q := 13) rfl (by decide) ?_
  refine E_iast dX5_place_13 (q := 14) rfl (hF4.at 3 rfl) (hF4.lt 3 (Nat.le_of_ble_eq_true rfl)) g2 (up_put (i := 3) (cs' := (wtB γ k w_hour w_debts (upd w_guards (ci a2) a1) (upd w_stood (ci a2) 0) w_served)) (Nat.le_of_ble_eq_true rfl) rfl) ?_
  cases hf
  exact E_vret dX5_place_14 rfl ⟨rfl, rfl, rfl⟩

-- PostRelief$Watch.sleepsAt(I)Z
def f_X5_sleepsAt (N : Nat) (a1 : Int32) (w_debts : FN) (w_guards : FN) : Option (Int32) :=
  (if ix a1 5 = true then (if (w_guards (ci a1)) = (-9) then some 0 else (if ix (w_guards (ci a1)) 6 = true then (if (w_debts (ci (w_guards (ci a1)))) < 40 then some 0 else some 1) else none)) else none)
set_option maxHeartbeats 4000000 in
set_option maxRecDepth 100000 in
theorem m_X5_sleepsAt {γ : GX} {n : Nat} {k : Nat} {h : HP} {N : Nat} {a1 : Int32} {w_hour : Int32} {w_debts : FN} {w_guards : FN} {w_stood : FN} {w_served : FN} (hk : 11 ≤ k) (hH_w : Has n k (wtB γ k w_hour w_debts w_guards w_stood w_served) h) {z : Int32} (hf : f_X5_sleepsAt N a1 w_debts w_guards = some z) : Ct γ M_X5_sleepsAt n h [.ref (gB γ + k), .int a1] (Done (some (.int z)) n h) := by
  refine Ct_of_Ev (by decide) (fun h => by cases h) (Nat.le_of_ble_eq_true rfl) ?_
  show Ev γ M_X5_sleepsAt (0, 0) n h [(0, .ref (gB γ + k)), (1, .int a1)] 0 [] _
  unfold f_X5_sleepsAt at hf
  refine E_aload_n 0 dX5_sleepsAt_0 (q := 1) rfl rfl rfl ?_
  refine E_get 2 dX5_sleepsAt_1 (q := 4) rfl ckX5 (Nat.le_of_ble_eq_true rfl) fl_X5_15 (hH_w.at 0 rfl) (hH_w.lt 0 (Nat.le_of_ble_eq_true rfl)) rfl ?_
  refine E_iload_n 1 dX5_sleepsAt_4 (q := 5) rfl rfl rfl ?_
  obtain ⟨g1, hf⟩ := gd hf
  refine E_iald dX5_sleepsAt_5 (q := 6) rfl (hH_w.at 2 rfl) (hH_w.lt 2 (Nat.le_of_ble_eq_true rfl)) g1 ?_
  refine E_istore_n [(2, .int (w_guards (ci a1))), (0, .ref (gB γ + k)), (1, .int a1)] dX5_sleepsAt_6 (q := 7) rfl rfl (Nat.le_of_ble_eq_true rfl) rfl ?_
  refine E_iload_n 0 dX5_sleepsAt_7 (q := 8) rfl rfl rfl ?_
  refine E_bipush (x := (-9)) dX5_sleepsAt_8 (q := 10) rfl (by decide) ?_
  refine E_icmp_eq dX5_sleepsAt_10 (t := 28) (by decide) (q := 13) rfl (fun c2 => ?_) (fun c2 => ?_)
  · have hf := if_t c2 hf
    refine E_iconst (x := 0) dX5_sleepsAt_28 (q := 29) rfl (by decide) ?_
    cases hf
    exact E_zret dX5_sleepsAt_29 rfl rfl ⟨rfl, rfl, rfl⟩
  · have hf := if_f c2 hf
    refine E_aload_n 1 dX5_sleepsAt_13 (q := 14) rfl rfl rfl ?_
    refine E_get 1 dX5_sleepsAt_14 (q := 17) rfl ckX5 (Nat.le_of_ble_eq_true rfl) fl_X5_9 (hH_w.at 0 rfl) (hH_w.lt 0 (Nat.le_of_ble_eq_true rfl)) rfl ?_
    refine E_iload_n 0 dX5_sleepsAt_17 (q := 18) rfl rfl rfl ?_
    obtain ⟨g3, hf⟩ := gd hf
    refine E_iald dX5_sleepsAt_18 (q := 19) rfl (hH_w.at 1 rfl) (hH_w.lt 1 (Nat.le_of_ble_eq_true rfl)) g3 ?_
    refine E_bipush (x := 40) dX5_sleepsAt_19 (q := 21) rfl (by decide) ?_
    refine E_icmp_lt dX5_sleepsAt_21 (t := 28) (by decide) (q := 24) rfl (fun c4 => ?_) (fun c4 => ?_)
    · have hf := if_t c4 hf
      refine E_iconst (x := 0) dX5_sleepsAt_28 (q := 29) rfl (by decide) ?_
      cases hf
      exact E_zret dX5_sleepsAt_29 rfl rfl ⟨rfl, rfl, rfl⟩
    · have hf := if_f c4 hf
      refine E_iconst (x := 1) dX5_sleepsAt_24 (q := 25) rfl (by decide) ?_
      refine E_goto (q := 29) dX5_sleepsAt_25 (by decide) ?_
      cases hf
      exact E_zret dX5_sleepsAt_29 rfl rfl ⟨rfl, rfl, rfl⟩

-- PostRelief$Watch.mannedPosts()I
def b_X5_mannedPosts_1 (N : Nat) (w_guards : FN) (v1 : Int32) (v2 : Int32) : Option ((Int32 × Int32) ⊕ (Int32)) :=
  (if 5 ≤ v2 then some (.inr v1) else (if ix v2 5 = true then (if (w_guards (ci v2)) = (-9) then some (.inl (v1, (v2 + 1))) else some (.inl ((v1 ||| (1 <<< (v2 &&& 31))), (v2 + 1)))) else none))
def f_X5_mannedPosts (N : Nat) (w_guards : FN) : Option (Int32) :=
  ((lp (fun s => b_X5_mannedPosts_1 N w_guards s.1 s.2) N (0, 0)).bind fun t5 => some t5)
set_option maxHeartbeats 4000000 in
set_option maxRecDepth 100000 in
theorem L_X5_mannedPosts_1 {γ : GX} {n : Nat} {k : Nat} {h : HP} {Ψ : PS} {N : Nat} {w_hour : Int32} {w_debts : FN} {w_guards : FN} {w_stood : FN} {w_served : FN} (hk : 11 ≤ k) (hH_w : Has n k (wtB γ k w_hour w_debts w_guards w_stood w_served) h) {s0 : Int32 × Int32} {t : Int32} (hf : lp (fun s => b_X5_mannedPosts_1 N w_guards s.1 s.2) N s0 = some t) (K : Ev γ M_X5_mannedPosts (0, 0) n h [(1, .int t)] 32 [] Ψ) : Ev γ M_X5_mannedPosts (0, 0) n h [(0, .ref (gB γ + k)), (1, .int s0.1), (2, .int s0.2)] 4 [] Ψ := by
  refine E_lp (P := fun s => Ev γ M_X5_mannedPosts (0, 0) n h [(0, .ref (gB γ + k)), (1, .int s.1), (2, .int s.2)] 4 [] Ψ) (K := fun t => Ev γ M_X5_mannedPosts (0, 0) n h [(1, .int t)] 32 [] Ψ) ?_ N s0 t hf K
  intro s r hf hP hK
  obtain ⟨v1, v2⟩ := s
  unfold b_X5_mannedPosts_1 at hf
  try dsimp only at hf
  show Ev γ M_X5_mannedPosts (0, 0) n h [(0, .ref (gB γ + k)), (1, .int v1), (2, .int v2)] 4 [] Ψ
  refine E_iload_n 2 dX5_mannedPosts_4 (q := 5) rfl rfl rfl ?_
  refine E_iconst (x := 5) dX5_mannedPosts_5 (q := 6) rfl (by decide) ?_
  refine E_icmp_ge dX5_mannedPosts_6 (t := 32) (by decide) (q := 9) rfl (fun c2 => ?_) (fun c2 => ?_)
  · have hf := if_t c2 hf
    exact E_sub [1] rfl (hK _ (Option.some.inj hf).symm)
  · have hf := if_f c2 hf
    refine E_aload_n 0 dX5_mannedPosts_9 (q := 10) rfl rfl rfl ?_
    refine E_get 2 dX5_mannedPosts_10 (q := 13) rfl ckX5 (Nat.le_of_ble_eq_true rfl) fl_X5_15 (hH_w.at 0 rfl) (hH_w.lt 0 (Nat.le_of_ble_eq_true rfl)) rfl ?_
    refine E_iload_n 2 dX5_mannedPosts_13 (q := 14) rfl rfl rfl ?_
    obtain ⟨g3, hf⟩ := gd hf
    refine E_iald dX5_mannedPosts_14 (q := 15) rfl (hH_w.at 2 rfl) (hH_w.lt 2 (Nat.le_of_ble_eq_true rfl)) g3 ?_
    refine E_bipush (x := (-9)) dX5_mannedPosts_15 (q := 17) rfl (by decide) ?_
    refine E_icmp_eq dX5_mannedPosts_17 (t := 26) (by decide) (q := 20) rfl (fun c4 => ?_) (fun c4 => ?_)
    · have hf := if_t c4 hf
      refine E_iinc 2 [(2, .int (v2 + 1)), (0, .ref (gB γ + k)), (1, .int v1)] dX5_mannedPosts_26 (q := 29) rfl rfl rfl (Nat.le_of_ble_eq_true rfl) rfl ?_
      refine E_goto (q := 4) dX5_mannedPosts_29 (by decide) ?_
      exact E_sub [1, 2, 0] rfl (hP _ (Option.some.inj hf).symm)
    · have hf := if_f c4 hf
      refine E_iload_n 1 dX5_mannedPosts_20 (q := 21) rfl rfl rfl ?_
      refine E_iconst (x := 1) dX5_mannedPosts_21 (q := 22) rfl (by decide) ?_
      refine E_iload_n 2 dX5_mannedPosts_22 (q := 23) rfl rfl rfl ?_
      refine E_ishl dX5_mannedPosts_23 (q := 24) rfl ?_
      refine E_ior dX5_mannedPosts_24 (q := 25) rfl ?_
      refine E_istore_n [(1, .int (v1 ||| (1 <<< (v2 &&& 31)))), (0, .ref (gB γ + k)), (2, .int v2)] dX5_mannedPosts_25 (q := 26) rfl rfl (Nat.le_of_ble_eq_true rfl) rfl ?_
      refine E_iinc 2 [(2, .int (v2 + 1)), (1, .int (v1 ||| (1 <<< (v2 &&& 31)))), (0, .ref (gB γ + k))] dX5_mannedPosts_26 (q := 29) rfl rfl rfl (Nat.le_of_ble_eq_true rfl) rfl ?_
      refine E_goto (q := 4) dX5_mannedPosts_29 (by decide) ?_
      exact E_sub [2, 1, 0] rfl (hP _ (Option.some.inj hf).symm)
set_option maxHeartbeats 4000000 in
set_option maxRecDepth 100000 in
theorem m_X5_mannedPosts {γ : GX} {n : Nat} {k : Nat} {h : HP} {N : Nat} {w_hour : Int32} {w_debts : FN} {w_guards : FN} {w_stood : FN} {w_served : FN} (hk : 11 ≤ k) (hH_w : Has n k (wtB γ k w_hour w_debts w_guards w_stood w_served) h) {z : Int32} (hf : f_X5_mannedPosts N w_guards = some z) : Ct γ M_X5_mannedPosts n h [.ref (gB γ + k)] (Done (some (.int z)) n h) := by
  refine Ct_of_Ev (by decide) (fun h => by cases h) (Nat.le_of_ble_eq_true rfl) ?_
  show Ev γ M_X5_mannedPosts (0, 0) n h [(0, .ref (gB γ + k))] 0 [] _
  unfold f_X5_mannedPosts at hf
  refine E_iconst (x := 0) dX5_mannedPosts_0 (q := 1) rfl (by decide) ?_
  refine E_istore_n [(1, .int 0), (0, .ref (gB γ + k))] dX5_mannedPosts_1 (q := 2) rfl rfl (Nat.le_of_ble_eq_true rfl) rfl ?_
  refine E_iconst (x := 0) dX5_mannedPosts_2 (q := 3) rfl (by decide) ?_
  refine E_istore_n [(2, .int 0), (1, .int 0), (0, .ref (gB γ + k))] dX5_mannedPosts_3 (q := 4) rfl rfl (Nat.le_of_ble_eq_true rfl) rfl ?_
  obtain ⟨t5, hxt5, hf⟩ := bnd hf
  refine E_sub [2, 1, 0] rfl ?_
  refine L_X5_mannedPosts_1 hk hH_w hxt5 ?_
  show Ev γ M_X5_mannedPosts _ n h [(1, .int t5)] 32 [] _
  refine E_iload_n 0 dX5_mannedPosts_32 (q := 33) rfl rfl rfl ?_
  cases hf
  exact E_iret dX5_mannedPosts_33 rfl ⟨rfl, rfl, rfl⟩

-- PostRelief$Watch.sleepingPosts()I
def b_X5_sleepingPosts_1 (N : Nat) (w_debts : FN) (w_guards : FN) (v1 : Int32) (v2 : Int32) : Option ((Int32 × Int32) ⊕ (Int32)) :=
  (if 5 ≤ v2 then some (.inr v1) else ((f_X5_sleepsAt N v2 w_debts w_guards).bind fun z3 => (if z3 = 0 then some (.inl (v1, (v2 + 1))) else some (.inl ((v1 ||| (1 <<< (v2 &&& 31))), (v2 + 1))))))
def f_X5_sleepingPosts (N : Nat) (w_debts : FN) (w_guards : FN) : Option (Int32) :=
  ((lp (fun s => b_X5_sleepingPosts_1 N w_debts w_guards s.1 s.2) N (0, 0)).bind fun t5 => some t5)
set_option maxHeartbeats 4000000 in
set_option maxRecDepth 100000 in
theorem L_X5_sleepingPosts_1 {γ : GX} {n : Nat} {k : Nat} {h : HP} {Ψ : PS} {N : Nat} {w_hour : Int32} {w_debts : FN} {w_guards : FN} {w_stood : FN} {w_served : FN} (hk : 11 ≤ k) (hH_w : Has n k (wtB γ k w_hour w_debts w_guards w_stood w_served) h) {s0 : Int32 × Int32} {t : Int32} (hf : lp (fun s => b_X5_sleepingPosts_1 N w_debts w_guards s.1 s.2) N s0 = some t) (K : Ev γ M_X5_sleepingPosts (0, 0) n h [(1, .int t)] 29 [] Ψ) : Ev γ M_X5_sleepingPosts (0, 0) n h [(0, .ref (gB γ + k)), (1, .int s0.1), (2, .int s0.2)] 4 [] Ψ := by
  refine E_lp (P := fun s => Ev γ M_X5_sleepingPosts (0, 0) n h [(0, .ref (gB γ + k)), (1, .int s.1), (2, .int s.2)] 4 [] Ψ) (K := fun t => Ev γ M_X5_sleepingPosts (0, 0) n h [(1, .int t)] 29 [] Ψ) ?_ N s0 t hf K
  intro s r hf hP hK
  obtain ⟨v1, v2⟩ := s
  unfold b_X5_sleepingPosts_1 at hf
  try dsimp only at hf
  show Ev γ M_X5_sleepingPosts (0, 0) n h [(0, .ref (gB γ + k)), (1, .int v1), (2, .int v2)] 4 [] Ψ
  refine E_iload_n 2 dX5_sleepingPosts_4 (q := 5) rfl rfl rfl ?_
  refine E_iconst (x := 5) dX5_sleepingPosts_5 (q := 6) rfl (by decide) ?_
  refine E_icmp_ge dX5_sleepingPosts_6 (t := 29) (by decide) (q := 9) rfl (fun c2 => ?_) (fun c2 => ?_)
  · have hf := if_t c2 hf
    exact E_sub [1] rfl (hK _ (Option.some.inj hf).symm)
  · have hf := if_f c2 hf
    refine E_aload_n 0 dX5_sleepingPosts_9 (q := 10) rfl rfl rfl ?_
    refine E_iload_n 2 dX5_sleepingPosts_10 (q := 11) rfl rfl rfl ?_
    obtain ⟨z3, hxz3, hf⟩ := bnd hf
    refine E_cV (as := [.int v2]) (k := k) (rest := []) (u' := (0, 0)) (st' := [.int z3]) dX5_sleepingPosts_11 (q := 14) rfl lkm_X5_sleepsAt lkv_X5_43 (Nat.le_of_ble_eq_true rfl) ckX5 (hH_w.at 0 rfl) (hH_w.lt 0 (Nat.le_of_ble_eq_true rfl)) ⟨Nat.le_refl _, Nat.le_refl _⟩ (Nat.le_of_ble_eq_true rfl) rfl rfl (m_X5_sleepsAt (N := N)  hk hH_w hxz3) rfl rfl rfl ?_
    refine E_if_eq dX5_sleepingPosts_14 (t := 23) (by decide) (q := 17) rfl (fun c4 => ?_) (fun c4 => ?_)
    · have hf := if_t c4 hf
      refine E_iinc 2 [(2, .int (v2 + 1)), (0, .ref (gB γ + k)), (1, .int v1)] dX5_sleepingPosts_23 (q := 26) rfl rfl rfl (Nat.le_of_ble_eq_true rfl) rfl ?_
      refine E_goto (q := 4) dX5_sleepingPosts_26 (by decide) ?_
      exact E_sub [1, 2, 0] rfl (hP _ (Option.some.inj hf).symm)
    · have hf := if_f c4 hf
      refine E_iload_n 1 dX5_sleepingPosts_17 (q := 18) rfl rfl rfl ?_
      refine E_iconst (x := 1) dX5_sleepingPosts_18 (q := 19) rfl (by decide) ?_
      refine E_iload_n 2 dX5_sleepingPosts_19 (q := 20) rfl rfl rfl ?_
      refine E_ishl dX5_sleepingPosts_20 (q := 21) rfl ?_
      refine E_ior dX5_sleepingPosts_21 (q := 22) rfl ?_
      refine E_istore_n [(1, .int (v1 ||| (1 <<< (v2 &&& 31)))), (0, .ref (gB γ + k)), (2, .int v2)] dX5_sleepingPosts_22 (q := 23) rfl rfl (Nat.le_of_ble_eq_true rfl) rfl ?_
      refine E_iinc 2 [(2, .int (v2 + 1)), (1, .int (v1 ||| (1 <<< (v2 &&& 31)))), (0, .ref (gB γ + k))] dX5_sleepingPosts_23 (q := 26) rfl rfl rfl (Nat.le_of_ble_eq_true rfl) rfl ?_
      refine E_goto (q := 4) dX5_sleepingPosts_26 (by decide) ?_
      exact E_sub [2, 1, 0] rfl (hP _ (Option.some.inj hf).symm)
set_option maxHeartbeats 4000000 in
set_option maxRecDepth 100000 in
theorem m_X5_sleepingPosts {γ : GX} {n : Nat} {k : Nat} {h : HP} {N : Nat} {w_hour : Int32} {w_debts : FN} {w_guards : FN} {w_stood : FN} {w_served : FN} (hk : 11 ≤ k) (hH_w : Has n k (wtB γ k w_hour w_debts w_guards w_stood w_served) h) {z : Int32} (hf : f_X5_sleepingPosts N w_debts w_guards = some z) : Ct γ M_X5_sleepingPosts n h [.ref (gB γ + k)] (Done (some (.int z)) n h) := by
  refine Ct_of_Ev (by decide) (fun h => by cases h) (Nat.le_of_ble_eq_true rfl) ?_
  show Ev γ M_X5_sleepingPosts (0, 0) n h [(0, .ref (gB γ + k))] 0 [] _
  unfold f_X5_sleepingPosts at hf
  refine E_iconst (x := 0) dX5_sleepingPosts_0 (q := 1) rfl (by decide) ?_
  refine E_istore_n [(1, .int 0), (0, .ref (gB γ + k))] dX5_sleepingPosts_1 (q := 2) rfl rfl (Nat.le_of_ble_eq_true rfl) rfl ?_
  refine E_iconst (x := 0) dX5_sleepingPosts_2 (q := 3) rfl (by decide) ?_
  refine E_istore_n [(2, .int 0), (1, .int 0), (0, .ref (gB γ + k))] dX5_sleepingPosts_3 (q := 4) rfl rfl (Nat.le_of_ble_eq_true rfl) rfl ?_
  obtain ⟨t5, hxt5, hf⟩ := bnd hf
  refine E_sub [2, 1, 0] rfl ?_
  refine L_X5_sleepingPosts_1 hk hH_w hxt5 ?_
  show Ev γ M_X5_sleepingPosts _ n h [(1, .int t5)] 29 [] _
  refine E_iload_n 0 dX5_sleepingPosts_29 (q := 30) rfl rfl rfl ?_
  cases hf
  exact E_iret dX5_sleepingPosts_30 rfl ⟨rfl, rfl, rfl⟩
