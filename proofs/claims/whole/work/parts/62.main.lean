/-! ===== PostRelief's constructor ===== -/
theorem tr3 {n n' b k : Nat} {blk : List va_E} {h h1 h2 h3 : HP} {o c : va_E} {t : Nat} (H : Has n b blk h) (hn : n ≤ n') (ht : t < b ∨ b + blk.length ≤ t) (hk : b + blk.length ≤ k) (e1 : up h k o = h1) (fr : ∀ j, j < k → h2 j = h1 j) (e3 : up h2 t c = h3) : Has n' b blk h3 := by
  refine H.mono hn (fun j j1 j2 => ?_)
  rw [← e3, up_ne (by omega), fr j (by omega), ← e1, up_ne (by omega)]
theorem tr2 {n n' b k : Nat} {blk : List va_E} {h h1 h3 : HP} {o c : va_E} {t : Nat} (H : Has n b blk h) (hn : n ≤ n') (ht : t < b ∨ b + blk.length ≤ t) (hk : b + blk.length ≤ k) (e1 : up h k o = h1) (e3 : up h1 t c = h3) : Has n' b blk h3 := tr3 H hn ht hk e1 (fun _ _ => rfl) e3
theorem trU {n n' b : Nat} {blk : List va_E} {h h3 : HP} {c : va_E} {t : Nat} (H : Has n b blk h) (hn : n ≤ n') (ht : t < b ∨ b + blk.length ≤ t) (e3 : up h t c = h3) : Has n' b blk h3 := by
  refine H.mono hn (fun j j1 j2 => ?_)
  rw [← e3, up_ne (by omega)]
theorem pw_len (γ : GX) (k : Nat) (w : Nat → WtT) : (pwB γ k w).length = 50 := fam_len γ k w 10
def M_X6_init : MI := (yX6_init, cX6_init, 2, none, true, 4, 92, 1051)
theorem lkm_X6_init : LkM M_X6_init 0 := ⟨(lg_mem 50 (by decide +kernel) rfl), (lg_mem 66 (by decide +kernel) rfl), ⟨by decide, by decide, by decide +kernel⟩, (Nat.le_of_ble_eq_true rfl)⟩
theorem oi_X6 : Cond.methodLink RX6 1 Lib.objectInit ∈ lw_good := (lg_mem 67 (by decide +kernel) rfl)
theorem fl_iX6_10 : Cond.fieldLink RX6 10 (TX6 0).1 (TX6 0).2.1 (TX6 0).2.2.1 ∈ lw_good := (lg_mem 246 (by decide +kernel) rfl)
theorem fl_iX6_19 : Cond.fieldLink RX6 19 (TX6 1).1 (TX6 1).2.1 (TX6 1).2.2.1 ∈ lw_good := (lg_mem 247 (by decide +kernel) rfl)
theorem fl_iX6_23 : Cond.fieldLink RX6 23 (TX6 2).1 (TX6 2).2.1 (TX6 2).2.2.1 ∈ lw_good := (lg_mem 248 (by decide +kernel) rfl)
theorem fl_iX6_29 : Cond.fieldLink RX6 29 (TX6 3).1 (TX6 3).2.1 (TX6 3).2.2.1 ∈ lw_good := (lg_mem 249 (by decide +kernel) rfl)
theorem fl_iX6_33 : Cond.fieldLink RX6 33 (TX6 4).1 (TX6 4).2.1 (TX6 4).2.2.1 ∈ lw_good := (lg_mem 250 (by decide +kernel) rfl)
theorem fl_iX6_39 : Cond.fieldLink RX6 39 (TX6 5).1 (TX6 5).2.1 (TX6 5).2.2.1 ∈ lw_good := (lg_mem 251 (by decide +kernel) rfl)
theorem fl_iX6_43 : Cond.fieldLink RX6 43 (TX6 6).1 (TX6 6).2.1 (TX6 6).2.2.1 ∈ lw_good := (lg_mem 252 (by decide +kernel) rfl)
theorem fl_iX6_47 : Cond.fieldLink RX6 47 (TX6 7).1 (TX6 7).2.1 (TX6 7).2.2.1 ∈ lw_good := (lg_mem 253 (by decide +kernel) rfl)
theorem fl_iX6_54 : Cond.fieldLink RX6 54 (TX6 8).1 (TX6 8).2.1 (TX6 8).2.2.1 ∈ lw_good := (lg_mem 254 (by decide +kernel) rfl)
theorem fl_iX6_61 : Cond.fieldLink RX6 61 (TX6 9).1 (TX6 9).2.1 (TX6 9).2.2.1 ∈ lw_good := (lg_mem 255 (by decide +kernel) rfl)
theorem cl_iX6_7 : Cond.classLink RX6 7 RX4 ∈ lw_good := (lg_mem 70 (by decide +kernel) rfl)
theorem cl_iX6_16 : Cond.classLink RX6 16 RX0 ∈ lw_good := (lg_mem 103 (by decide +kernel) rfl)
theorem cl_iX6_26 : Cond.classLink RX6 26 RX5 ∈ lw_good := (lg_mem 152 (by decide +kernel) rfl)
theorem cl_iX6_36 : Cond.classLink RX6 36 RX2 ∈ lw_good := (lg_mem 184 (by decide +kernel) rfl)
theorem cl_iX6_51 : Cond.classLink RX6 51 RX1 ∈ lw_good := (lg_mem 204 (by decide +kernel) rfl)
theorem cl_iX6_58 : Cond.classLink RX6 58 RX3 ∈ lw_good := (lg_mem 225 (by decide +kernel) rfl)
theorem in_X0 : Cond.instantiable RX0 7 ∈ lw_good := (lg_mem 104 (by decide +kernel) rfl)
theorem iz_X0 : Cond.initialized RX0 ∈ lw_good := (lg_mem 52 (by decide +kernel) rfl)
theorem in_X1 : Cond.instantiable RX1 4 ∈ lw_good := (lg_mem 205 (by decide +kernel) rfl)
theorem iz_X1 : Cond.initialized RX1 ∈ lw_good := (lg_mem 56 (by decide +kernel) rfl)
theorem in_X2 : Cond.instantiable RX2 3 ∈ lw_good := (lg_mem 185 (by decide +kernel) rfl)
theorem iz_X2 : Cond.initialized RX2 ∈ lw_good := (lg_mem 55 (by decide +kernel) rfl)
theorem in_X3 : Cond.instantiable RX3 4 ∈ lw_good := (lg_mem 226 (by decide +kernel) rfl)
theorem iz_X3 : Cond.initialized RX3 ∈ lw_good := (lg_mem 57 (by decide +kernel) rfl)
theorem in_X4 : Cond.instantiable RX4 8 ∈ lw_good := (lg_mem 71 (by decide +kernel) rfl)
theorem iz_X4 : Cond.initialized RX4 ∈ lw_good := (lg_mem 51 (by decide +kernel) rfl)
theorem lk_iX6_9 : (∀ s, AO5 s → va_Nw (.methodLinkNest RX6 9 (mY M_X4_init) "PostRelief") s) ∧ Cond.instanceMethod (mY M_X4_init) ∈ lw_good ∧ (mY M_X4_init).name = "<init>" := ⟨fun s h => h.2.1, (lg_mem 73 (by decide +kernel) rfl), rfl⟩
theorem lk_iX6_18 : (∀ s, AO5 s → va_Nw (.methodLinkNest RX6 18 (mY M_X0_init) "PostRelief") s) ∧ Cond.instanceMethod (mY M_X0_init) ∈ lw_good ∧ (mY M_X0_init).name = "<init>" := ⟨fun s h => h.2.2.1, (lg_mem 106 (by decide +kernel) rfl), rfl⟩
theorem lk_iX6_28 : LkI RX6 28 M_X5_init := ⟨(lg_mem 154 (by decide +kernel) rfl), (lg_mem 155 (by decide +kernel) rfl), rfl⟩
theorem lk_iX6_38 : LkI RX6 38 M_X2_init := ⟨(lg_mem 186 (by decide +kernel) rfl), (lg_mem 187 (by decide +kernel) rfl), rfl⟩
theorem lk_iX6_53 : (∀ s, AO5 s → va_Nw (.methodLinkNest RX6 53 (mY M_X1_init) "PostRelief") s) ∧ Cond.instanceMethod (mY M_X1_init) ∈ lw_good ∧ (mY M_X1_init).name = "<init>" := ⟨fun s h => h.2.2.2.1, (lg_mem 207 (by decide +kernel) rfl), rfl⟩
theorem lk_iX6_60 : (∀ s, AO5 s → va_Nw (.methodLinkNest RX6 60 (mY M_X3_init) "PostRelief") s) ∧ Cond.instanceMethod (mY M_X3_init) ∈ lw_good ∧ (mY M_X3_init).name = "<init>" := ⟨fun s h => h.2.2.2.2, (lg_mem 228 (by decide +kernel) rfl), rfl⟩
/-- the class's cells, as its constructor leaves them -/
def CWI (γ : GX) (h : HP) : Prop := Has 93 0 (poB γ 0 0) h ∧ Has 93 1 (txB γ 1 (fun _ => 0) 0 0 0 0 0 0 0) h ∧ Has 93 3 (dpB γ 3 0 (fun _ => 0) (fun _ => 0) 0 (fun _ => 0) 2 3) h ∧ Has 93 7 (dpB γ 7 0 (fun _ => 0) (fun _ => 0) 0 (fun _ => 0) 2 3) h ∧ Has 93 11 (wtB γ 11 0 (fun _ => 0) (fillF (fun _ => 0) 5 (-9)) (fun _ => 0) (fun _ => 0)) h ∧ Has 93 16 (wtB γ 16 0 (fun _ => 0) (fillF (fun _ => 0) 5 (-9)) (fun _ => 0) (fun _ => 0)) h ∧ Has 93 21 (paB γ 21 0 0) h ∧ Has 93 23 (pwB γ 23 (fun _ => w0)) h ∧ Has 93 73 (imB γ 73) h ∧ Has 93 74 (kpB γ 74 (fun _ => 0)) h ∧ Has 93 75 (fiB γ 75 0 (fun _ => 0) (fun _ => 0) (fun _ => 0)) h ∧ Has 93 79 (plB γ 79 0 (fun _ => 0) (fun _ => 0) (fun _ => 0)) h ∧ Has 93 83 (iwB γ 83 (fun _ => w0)) h
set_option maxHeartbeats 8000000 in
set_option maxRecDepth 100000 in
theorem i_X6 {γ : GX} {h : HP} (hc : h 0 = .inr (6, [.null, .null, .null, .null, .null, .null, .null, .null, .null, .null, .long 0])) : Cu γ M_X6_init 1 h [.ref (gB γ + 0)] (fun v n' h' => v = none ∧ n' = 93 ∧ CWI γ h') := by
  refine Cu_of_Eo (by decide) (fun _ => rfl) (Nat.le_of_ble_eq_true rfl) ?_
  show Eo γ M_X6_init (0, 0) 1 h [(0, .ref (gB γ + 0))] 0 [] _
  refine O_aload_n 0 dX6_init_0 (q := 1) rfl rfl rfl ?_
  refine O_objInit dX6_init_1 (q := 4) rfl oi_X6 oi_im oi_co (Nat.le_of_ble_eq_true rfl) (Nat.le_of_ble_eq_true rfl) ?_
  refine O_aload_n 0 dX6_init_4 (q := 5) rfl rfl rfl ?_
  obtain ⟨g1, e2⟩ : ∃ h', up h 1 (.inr (4, [.null, .int 0, .int 0, .int 0, .int 0, .int 0, .int 0, .int 0])) = h' := ⟨_, rfl⟩
  refine O_new (fs := [.null, .int 0, .int 0, .int 0, .int 0, .int 0, .int 0, .int 0]) dX6_init_5 (q := 8) rfl ckX4 cl_iX6_7 in_X4 iz_X4 (fun j hj => by rcases (show j = 0 ∨ j = 1 ∨ j = 2 ∨ j = 3 ∨ j = 4 ∨ j = 5 ∨ j = 6 ∨ j = 7 by omega) with rfl | rfl | rfl | rfl | rfl | rfl | rfl | rfl <;> rfl) ⟨(Nat.le_of_ble_eq_true rfl), (Nat.le_of_ble_eq_true rfl)⟩ e2 ?_
  refine O_dup dX6_init_8 (q := 9) rfl rfl ?_
  have o3 : g1 1 = .inr (4, [.null, .int 0, .int 0, .int 0, .int 0, .int 0, .int 0, .int 0]) := by rw [← e2]; exact up_same
  refine O_callN (as := []) (a := gB γ + 1) (rest := [.ref (gB γ + 1), .ref (gB γ + 0)]) dX6_init_9 (q := 12) rfl lkm_X4_init lk_iX6_9 rfl (Nat.le_of_ble_eq_true rfl) ⟨(Nat.le_of_ble_eq_true rfl), (Nat.le_of_ble_eq_true rfl)⟩ (Nat.le_of_ble_eq_true rfl) rfl rfl (i_X4 (k := 1) o3) (fun v n' h' hp => hp.2.1) ?_
  rintro v n' g4 ⟨rfl, rfl, H6, f5⟩
  have c7 : g4 0 = .inr (6, [.null, .null, .null, .null, .null, .null, .null, .null, .null, .null, .long 0]) := by rw [f5 0 (by omega), ← e2, up_ne (by omega)]; exact hc
  obtain ⟨g8, e9⟩ : ∃ h', up g4 0 (.inr (6, [.ref (gB γ + 1), .null, .null, .null, .null, .null, .null, .null, .null, .null, .long 0])) = h' := ⟨_, rfl⟩
  refine O_putF 0 dX6_init_12 (q := 15) rfl ckX6 (Nat.le_of_ble_eq_true rfl) fl_iX6_10 rfl rfl rfl rfl rfl c7 (by omega) (Nat.le_of_ble_eq_true rfl) e9 ?_
  show Eo γ M_X6_init (2, 208) 3 g8 [(0, .ref (gB γ + 0))] 15 [] _
  have H10 : Has 3 1 (txB γ 1 (fun _ => 0) 0 0 0 0 0 0 0) g8 := trU H6 (by omega) (Or.inl (by omega)) e9
  have c11 : g8 0 = .inr (6, [.ref (gB γ + 1), .null, .null, .null, .null, .null, .null, .null, .null, .null, .long 0]) := by rw [← e9]; exact up_same
  refine O_aload_n 0 dX6_init_15 (q := 16) rfl rfl rfl ?_
  obtain ⟨g12, e13⟩ : ∃ h', up g8 3 (.inr (0, [.int 0, .null, .null, .int 0, .null, .int 0, .int 0])) = h' := ⟨_, rfl⟩
  refine O_new (fs := [.int 0, .null, .null, .int 0, .null, .int 0, .int 0]) dX6_init_16 (q := 19) rfl ckX0 cl_iX6_16 in_X0 iz_X0 (fun j hj => by rcases (show j = 0 ∨ j = 1 ∨ j = 2 ∨ j = 3 ∨ j = 4 ∨ j = 5 ∨ j = 6 by omega) with rfl | rfl | rfl | rfl | rfl | rfl | rfl <;> rfl) ⟨(Nat.le_of_ble_eq_true rfl), (Nat.le_of_ble_eq_true rfl)⟩ e13 ?_
  refine O_dup dX6_init_19 (q := 20) rfl rfl ?_
  have o14 : g12 3 = .inr (0, [.int 0, .null, .null, .int 0, .null, .int 0, .int 0]) := by rw [← e13]; exact up_same
  refine O_callN (as := []) (a := gB γ + 3) (rest := [.ref (gB γ + 3), .ref (gB γ + 0)]) dX6_init_20 (q := 23) rfl lkm_X0_init lk_iX6_18 rfl (Nat.le_of_ble_eq_true rfl) ⟨(Nat.le_of_ble_eq_true rfl), (Nat.le_of_ble_eq_true rfl)⟩ (Nat.le_of_ble_eq_true rfl) rfl rfl (i_X0 (k := 3) o14) (fun v n' h' hp => hp.2.1) ?_
  rintro v n' g15 ⟨rfl, rfl, H17, f16⟩
  have c18 : g15 0 = .inr (6, [.ref (gB γ + 1), .null, .null, .null, .null, .null, .null, .null, .null, .null, .long 0]) := by rw [f16 0 (by omega), ← e13, up_ne (by omega)]; exact c11
  obtain ⟨g19, e20⟩ : ∃ h', up g15 0 (.inr (6, [.ref (gB γ + 1), .ref (gB γ + 3), .null, .null, .null, .null, .null, .null, .null, .null, .long 0])) = h' := ⟨_, rfl⟩
  refine O_putF 1 dX6_init_23 (q := 26) rfl ckX6 (Nat.le_of_ble_eq_true rfl) fl_iX6_19 rfl rfl rfl rfl rfl c18 (by omega) (Nat.le_of_ble_eq_true rfl) e20 ?_
  show Eo γ M_X6_init (6, 231) 7 g19 [(0, .ref (gB γ + 0))] 26 [] _
  have H21 : Has 7 1 (txB γ 1 (fun _ => 0) 0 0 0 0 0 0 0) g19 := tr3 H10 (by omega) (Or.inl (by omega)) (by show 1 + 2 ≤ 3; omega) e13 f16 e20
  have H22 : Has 7 3 (dpB γ 3 0 (fun _ => 0) (fun _ => 0) 0 (fun _ => 0) 2 3) g19 := trU H17 (by omega) (Or.inl (by omega)) e20
  have c23 : g19 0 = .inr (6, [.ref (gB γ + 1), .ref (gB γ + 3), .null, .null, .null, .null, .null, .null, .null, .null, .long 0]) := by rw [← e20]; exact up_same
  refine O_aload_n 0 dX6_init_26 (q := 27) rfl rfl rfl ?_
  obtain ⟨g24, e25⟩ : ∃ h', up g19 7 (.inr (0, [.int 0, .null, .null, .int 0, .null, .int 0, .int 0])) = h' := ⟨_, rfl⟩
  refine O_new (fs := [.int 0, .null, .null, .int 0, .null, .int 0, .int 0]) dX6_init_27 (q := 30) rfl ckX0 cl_iX6_16 in_X0 iz_X0 (fun j hj => by rcases (show j = 0 ∨ j = 1 ∨ j = 2 ∨ j = 3 ∨ j = 4 ∨ j = 5 ∨ j = 6 by omega) with rfl | rfl | rfl | rfl | rfl | rfl | rfl <;> rfl) ⟨(Nat.le_of_ble_eq_true rfl), (Nat.le_of_ble_eq_true rfl)⟩ e25 ?_
  refine O_dup dX6_init_30 (q := 31) rfl rfl ?_
  have o26 : g24 7 = .inr (0, [.int 0, .null, .null, .int 0, .null, .int 0, .int 0]) := by rw [← e25]; exact up_same
  refine O_callN (as := []) (a := gB γ + 7) (rest := [.ref (gB γ + 7), .ref (gB γ + 0)]) dX6_init_31 (q := 34) rfl lkm_X0_init lk_iX6_18 rfl (Nat.le_of_ble_eq_true rfl) ⟨(Nat.le_of_ble_eq_true rfl), (Nat.le_of_ble_eq_true rfl)⟩ (Nat.le_of_ble_eq_true rfl) rfl rfl (i_X0 (k := 7) o26) (fun v n' h' hp => hp.2.1) ?_
  rintro v n' g27 ⟨rfl, rfl, H29, f28⟩
  have c30 : g27 0 = .inr (6, [.ref (gB γ + 1), .ref (gB γ + 3), .null, .null, .null, .null, .null, .null, .null, .null, .long 0]) := by rw [f28 0 (by omega), ← e25, up_ne (by omega)]; exact c23
  obtain ⟨g31, e32⟩ : ∃ h', up g27 0 (.inr (6, [.ref (gB γ + 1), .ref (gB γ + 3), .ref (gB γ + 7), .null, .null, .null, .null, .null, .null, .null, .long 0])) = h' := ⟨_, rfl⟩
  refine O_putF 2 dX6_init_34 (q := 37) rfl ckX6 (Nat.le_of_ble_eq_true rfl) fl_iX6_23 rfl rfl rfl rfl rfl c30 (by omega) (Nat.le_of_ble_eq_true rfl) e32 ?_
  show Eo γ M_X6_init (10, 254) 11 g31 [(0, .ref (gB γ + 0))] 37 [] _
  have H33 : Has 11 1 (txB γ 1 (fun _ => 0) 0 0 0 0 0 0 0) g31 := tr3 H21 (by omega) (Or.inl (by omega)) (by show 1 + 2 ≤ 7; omega) e25 f28 e32
  have H34 : Has 11 3 (dpB γ 3 0 (fun _ => 0) (fun _ => 0) 0 (fun _ => 0) 2 3) g31 := tr3 H22 (by omega) (Or.inl (by omega)) (by show 3 + 4 ≤ 7; omega) e25 f28 e32
  have H35 : Has 11 7 (dpB γ 7 0 (fun _ => 0) (fun _ => 0) 0 (fun _ => 0) 2 3) g31 := trU H29 (by omega) (Or.inl (by omega)) e32
  have c36 : g31 0 = .inr (6, [.ref (gB γ + 1), .ref (gB γ + 3), .ref (gB γ + 7), .null, .null, .null, .null, .null, .null, .null, .long 0]) := by rw [← e32]; exact up_same
  refine O_aload_n 0 dX6_init_37 (q := 38) rfl rfl rfl ?_
  obtain ⟨g37, e38⟩ : ∃ h', up g31 11 (.inr (5, [.int 0, .null, .null, .null, .null])) = h' := ⟨_, rfl⟩
  refine O_new (fs := [.int 0, .null, .null, .null, .null]) dX6_init_38 (q := 41) rfl ckX5 cl_iX6_26 in_w iz_w (fun j hj => by rcases (show j = 0 ∨ j = 1 ∨ j = 2 ∨ j = 3 ∨ j = 4 by omega) with rfl | rfl | rfl | rfl | rfl <;> rfl) ⟨(Nat.le_of_ble_eq_true rfl), (Nat.le_of_ble_eq_true rfl)⟩ e38 ?_
  refine O_dup dX6_init_41 (q := 42) rfl rfl ?_
  have o39 : g37 11 = .inr (5, [.int 0, .null, .null, .null, .null]) := by rw [← e38]; exact up_same
  refine O_callI (as := []) (a := gB γ + 11) (rest := [.ref (gB γ + 11), .ref (gB γ + 0)]) dX6_init_42 (q := 45) rfl lkm_X5_init lk_iX6_28 rfl (Nat.le_of_ble_eq_true rfl) ⟨(Nat.le_of_ble_eq_true rfl), (Nat.le_of_ble_eq_true rfl)⟩ (Nat.le_of_ble_eq_true rfl) rfl rfl (i_X5 (k := 11) o39) (fun v n' h' hp => hp.2.1) ?_
  rintro v n' g40 ⟨rfl, rfl, H42, f41⟩
  have c43 : g40 0 = .inr (6, [.ref (gB γ + 1), .ref (gB γ + 3), .ref (gB γ + 7), .null, .null, .null, .null, .null, .null, .null, .long 0]) := by rw [f41 0 (by omega), ← e38, up_ne (by omega)]; exact c36
  obtain ⟨g44, e45⟩ : ∃ h', up g40 0 (.inr (6, [.ref (gB γ + 1), .ref (gB γ + 3), .ref (gB γ + 7), .ref (gB γ + 11), .null, .null, .null, .null, .null, .null, .long 0])) = h' := ⟨_, rfl⟩
  refine O_putF 3 dX6_init_45 (q := 48) rfl ckX6 (Nat.le_of_ble_eq_true rfl) fl_iX6_29 rfl rfl rfl rfl rfl c43 (by omega) (Nat.le_of_ble_eq_true rfl) e45 ?_
  show Eo γ M_X6_init (15, 305) 16 g44 [(0, .ref (gB γ + 0))] 48 [] _
  have H46 : Has 16 1 (txB γ 1 (fun _ => 0) 0 0 0 0 0 0 0) g44 := tr3 H33 (by omega) (Or.inl (by omega)) (by show 1 + 2 ≤ 11; omega) e38 f41 e45
  have H47 : Has 16 3 (dpB γ 3 0 (fun _ => 0) (fun _ => 0) 0 (fun _ => 0) 2 3) g44 := tr3 H34 (by omega) (Or.inl (by omega)) (by show 3 + 4 ≤ 11; omega) e38 f41 e45
  have H48 : Has 16 7 (dpB γ 7 0 (fun _ => 0) (fun _ => 0) 0 (fun _ => 0) 2 3) g44 := tr3 H35 (by omega) (Or.inl (by omega)) (by show 7 + 4 ≤ 11; omega) e38 f41 e45
  have H49 : Has 16 11 (wtB γ 11 0 (fun _ => 0) (fillF (fun _ => 0) 5 (-9)) (fun _ => 0) (fun _ => 0)) g44 := trU H42 (by omega) (Or.inl (by omega)) e45
  have c50 : g44 0 = .inr (6, [.ref (gB γ + 1), .ref (gB γ + 3), .ref (gB γ + 7), .ref (gB γ + 11), .null, .null, .null, .null, .null, .null, .long 0]) := by rw [← e45]; exact up_same
  refine O_aload_n 0 dX6_init_48 (q := 49) rfl rfl rfl ?_
  obtain ⟨g51, e52⟩ : ∃ h', up g44 16 (.inr (5, [.int 0, .null, .null, .null, .null])) = h' := ⟨_, rfl⟩
  refine O_new (fs := [.int 0, .null, .null, .null, .null]) dX6_init_49 (q := 52) rfl ckX5 cl_iX6_26 in_w iz_w (fun j hj => by rcases (show j = 0 ∨ j = 1 ∨ j = 2 ∨ j = 3 ∨ j = 4 by omega) with rfl | rfl | rfl | rfl | rfl <;> rfl) ⟨(Nat.le_of_ble_eq_true rfl), (Nat.le_of_ble_eq_true rfl)⟩ e52 ?_
  refine O_dup dX6_init_52 (q := 53) rfl rfl ?_
  have o53 : g51 16 = .inr (5, [.int 0, .null, .null, .null, .null]) := by rw [← e52]; exact up_same
  refine O_callI (as := []) (a := gB γ + 16) (rest := [.ref (gB γ + 16), .ref (gB γ + 0)]) dX6_init_53 (q := 56) rfl lkm_X5_init lk_iX6_28 rfl (Nat.le_of_ble_eq_true rfl) ⟨(Nat.le_of_ble_eq_true rfl), (Nat.le_of_ble_eq_true rfl)⟩ (Nat.le_of_ble_eq_true rfl) rfl rfl (i_X5 (k := 16) o53) (fun v n' h' hp => hp.2.1) ?_
  rintro v n' g54 ⟨rfl, rfl, H56, f55⟩
  have c57 : g54 0 = .inr (6, [.ref (gB γ + 1), .ref (gB γ + 3), .ref (gB γ + 7), .ref (gB γ + 11), .null, .null, .null, .null, .null, .null, .long 0]) := by rw [f55 0 (by omega), ← e52, up_ne (by omega)]; exact c50
  obtain ⟨g58, e59⟩ : ∃ h', up g54 0 (.inr (6, [.ref (gB γ + 1), .ref (gB γ + 3), .ref (gB γ + 7), .ref (gB γ + 11), .ref (gB γ + 16), .null, .null, .null, .null, .null, .long 0])) = h' := ⟨_, rfl⟩
  refine O_putF 4 dX6_init_56 (q := 59) rfl ckX6 (Nat.le_of_ble_eq_true rfl) fl_iX6_33 rfl rfl rfl rfl rfl c57 (by omega) (Nat.le_of_ble_eq_true rfl) e59 ?_
  show Eo γ M_X6_init (20, 356) 21 g58 [(0, .ref (gB γ + 0))] 59 [] _
  have H60 : Has 21 1 (txB γ 1 (fun _ => 0) 0 0 0 0 0 0 0) g58 := tr3 H46 (by omega) (Or.inl (by omega)) (by show 1 + 2 ≤ 16; omega) e52 f55 e59
  have H61 : Has 21 3 (dpB γ 3 0 (fun _ => 0) (fun _ => 0) 0 (fun _ => 0) 2 3) g58 := tr3 H47 (by omega) (Or.inl (by omega)) (by show 3 + 4 ≤ 16; omega) e52 f55 e59
  have H62 : Has 21 7 (dpB γ 7 0 (fun _ => 0) (fun _ => 0) 0 (fun _ => 0) 2 3) g58 := tr3 H48 (by omega) (Or.inl (by omega)) (by show 7 + 4 ≤ 16; omega) e52 f55 e59
  have H63 : Has 21 11 (wtB γ 11 0 (fun _ => 0) (fillF (fun _ => 0) 5 (-9)) (fun _ => 0) (fun _ => 0)) g58 := tr3 H49 (by omega) (Or.inl (by omega)) (by show 11 + 5 ≤ 16; omega) e52 f55 e59
  have H64 : Has 21 16 (wtB γ 16 0 (fun _ => 0) (fillF (fun _ => 0) 5 (-9)) (fun _ => 0) (fun _ => 0)) g58 := trU H56 (by omega) (Or.inl (by omega)) e59
  have c65 : g58 0 = .inr (6, [.ref (gB γ + 1), .ref (gB γ + 3), .ref (gB γ + 7), .ref (gB γ + 11), .ref (gB γ + 16), .null, .null, .null, .null, .null, .long 0]) := by rw [← e59]; exact up_same
  refine O_aload_n 0 dX6_init_59 (q := 60) rfl rfl rfl ?_
  obtain ⟨g66, e67⟩ : ∃ h', up g58 21 (.inr (2, [.null, .int 0, .int 0])) = h' := ⟨_, rfl⟩
  refine O_new (fs := [.null, .int 0, .int 0]) dX6_init_60 (q := 63) rfl ckX2 cl_iX6_36 in_X2 iz_X2 (fun j hj => by rcases (show j = 0 ∨ j = 1 ∨ j = 2 by omega) with rfl | rfl | rfl <;> rfl) ⟨(Nat.le_of_ble_eq_true rfl), (Nat.le_of_ble_eq_true rfl)⟩ e67 ?_
  refine O_dup dX6_init_63 (q := 64) rfl rfl ?_
  have o68 : g66 21 = .inr (2, [.null, .int 0, .int 0]) := by rw [← e67]; exact up_same
  refine O_callU (as := []) (a := gB γ + 21) (rest := [.ref (gB γ + 21), .ref (gB γ + 0)]) dX6_init_64 (q := 67) rfl lkm_X2_init lk_iX6_38 rfl (Nat.le_of_ble_eq_true rfl) ⟨(Nat.le_of_ble_eq_true rfl), (Nat.le_of_ble_eq_true rfl)⟩ (Nat.le_of_ble_eq_true rfl) rfl rfl (i_X2 o68) (fun v n' h' hp => hp.2.1) ?_
  rintro v n' g69 ⟨rfl, rfl, H71, H72, f70⟩
  have c73 : g69 0 = .inr (6, [.ref (gB γ + 1), .ref (gB γ + 3), .ref (gB γ + 7), .ref (gB γ + 11), .ref (gB γ + 16), .null, .null, .null, .null, .null, .long 0]) := by rw [f70 0 (by omega), ← e67, up_ne (by omega)]; exact c65
  obtain ⟨g74, e75⟩ : ∃ h', up g69 0 (.inr (6, [.ref (gB γ + 1), .ref (gB γ + 3), .ref (gB γ + 7), .ref (gB γ + 11), .ref (gB γ + 16), .ref (gB γ + 21), .null, .null, .null, .null, .long 0])) = h' := ⟨_, rfl⟩
  refine O_putF 5 dX6_init_67 (q := 70) rfl ckX6 (Nat.le_of_ble_eq_true rfl) fl_iX6_39 rfl rfl rfl rfl rfl c73 (by omega) (Nat.le_of_ble_eq_true rfl) e75 ?_
  show Eo γ M_X6_init (72, 879) 73 g74 [(0, .ref (gB γ + 0))] 70 [] _
  have H76 : Has 73 1 (txB γ 1 (fun _ => 0) 0 0 0 0 0 0 0) g74 := tr3 H60 (by omega) (Or.inl (by omega)) (by show 1 + 2 ≤ 21; omega) e67 f70 e75
  have H77 : Has 73 3 (dpB γ 3 0 (fun _ => 0) (fun _ => 0) 0 (fun _ => 0) 2 3) g74 := tr3 H61 (by omega) (Or.inl (by omega)) (by show 3 + 4 ≤ 21; omega) e67 f70 e75
  have H78 : Has 73 7 (dpB γ 7 0 (fun _ => 0) (fun _ => 0) 0 (fun _ => 0) 2 3) g74 := tr3 H62 (by omega) (Or.inl (by omega)) (by show 7 + 4 ≤ 21; omega) e67 f70 e75
  have H79 : Has 73 11 (wtB γ 11 0 (fun _ => 0) (fillF (fun _ => 0) 5 (-9)) (fun _ => 0) (fun _ => 0)) g74 := tr3 H63 (by omega) (Or.inl (by omega)) (by show 11 + 5 ≤ 21; omega) e67 f70 e75
  have H80 : Has 73 16 (wtB γ 16 0 (fun _ => 0) (fillF (fun _ => 0) 5 (-9)) (fun _ => 0) (fun _ => 0)) g74 := tr3 H64 (by omega) (Or.inl (by omega)) (by show 16 + 5 ≤ 21; omega) e67 f70 e75
  have H81 : Has 73 21 (paB γ 21 0 0) g74 := trU H71 (by omega) (Or.inl (by omega)) e75
  have H82 : Has 73 23 (pwB γ 23 (fun _ => w0)) g74 := trU H72 (by omega) (Or.inl (by omega)) e75
  have c83 : g74 0 = .inr (6, [.ref (gB γ + 1), .ref (gB γ + 3), .ref (gB γ + 7), .ref (gB γ + 11), .ref (gB γ + 16), .ref (gB γ + 21), .null, .null, .null, .null, .long 0]) := by rw [← e75]; exact up_same
  refine O_aload_n 0 dX6_init_70 (q := 71) rfl rfl rfl ?_
  refine O_iconst (x := 2) dX6_init_71 (q := 72) rfl (by decide) ?_
  obtain ⟨g84, e85⟩ : ∃ h', up g74 73 (WA γ 2 (fun _ => none)) = h' := ⟨_, rfl⟩
  refine O_neww (len := 2) dX6_init_72 (q := 75) rfl cl_iX6_26 (by decide) (by decide) (Nat.le_of_ble_eq_true rfl) ⟨(Nat.le_of_ble_eq_true rfl), (Nat.le_of_ble_eq_true rfl)⟩ e85 ?_
  have c86 : g84 0 = .inr (6, [.ref (gB γ + 1), .ref (gB γ + 3), .ref (gB γ + 7), .ref (gB γ + 11), .ref (gB γ + 16), .ref (gB γ + 21), .null, .null, .null, .null, .long 0]) := by rw [← e85, up_ne (by omega)]; exact c83
  obtain ⟨g87, e88⟩ : ∃ h', up g84 0 (.inr (6, [.ref (gB γ + 1), .ref (gB γ + 3), .ref (gB γ + 7), .ref (gB γ + 11), .ref (gB γ + 16), .ref (gB γ + 21), .ref (gB γ + 73), .null, .null, .null, .long 0])) = h' := ⟨_, rfl⟩
  refine O_putF 6 dX6_init_75 (q := 78) rfl ckX6 (Nat.le_of_ble_eq_true rfl) fl_iX6_43 rfl rfl rfl rfl rfl c86 (by omega) (Nat.le_of_ble_eq_true rfl) e88 ?_
  show Eo γ M_X6_init (73, 881) 74 g87 [(0, .ref (gB γ + 0))] 78 [] _
  have H89 : Has 74 1 (txB γ 1 (fun _ => 0) 0 0 0 0 0 0 0) g87 := tr2 H76 (by omega) (Or.inl (by omega)) (by show 1 + 2 ≤ 73; omega) e85 e88
  have H90 : Has 74 3 (dpB γ 3 0 (fun _ => 0) (fun _ => 0) 0 (fun _ => 0) 2 3) g87 := tr2 H77 (by omega) (Or.inl (by omega)) (by show 3 + 4 ≤ 73; omega) e85 e88
  have H91 : Has 74 7 (dpB γ 7 0 (fun _ => 0) (fun _ => 0) 0 (fun _ => 0) 2 3) g87 := tr2 H78 (by omega) (Or.inl (by omega)) (by show 7 + 4 ≤ 73; omega) e85 e88
  have H92 : Has 74 11 (wtB γ 11 0 (fun _ => 0) (fillF (fun _ => 0) 5 (-9)) (fun _ => 0) (fun _ => 0)) g87 := tr2 H79 (by omega) (Or.inl (by omega)) (by show 11 + 5 ≤ 73; omega) e85 e88
  have H93 : Has 74 16 (wtB γ 16 0 (fun _ => 0) (fillF (fun _ => 0) 5 (-9)) (fun _ => 0) (fun _ => 0)) g87 := tr2 H80 (by omega) (Or.inl (by omega)) (by show 16 + 5 ≤ 73; omega) e85 e88
  have H94 : Has 74 21 (paB γ 21 0 0) g87 := tr2 H81 (by omega) (Or.inl (by omega)) (by show 21 + 2 ≤ 73; omega) e85 e88
  have H95 : Has 74 23 (pwB γ 23 (fun _ => w0)) g87 := tr2 H82 (by omega) (Or.inl (by omega)) (by rw [pw_len]; omega) e85 e88
  have H96 : Has 74 73 ([WA γ 2 (fun _ => none)]) g87 := trU (n := 74) (has1 (k := 73) (by rw [← e85]; exact up_same)) (by omega) (Or.inl (by omega)) e88
  have c97 : g87 0 = .inr (6, [.ref (gB γ + 1), .ref (gB γ + 3), .ref (gB γ + 7), .ref (gB γ + 11), .ref (gB γ + 16), .ref (gB γ + 21), .ref (gB γ + 73), .null, .null, .null, .long 0]) := by rw [← e88]; exact up_same
  refine O_aload_n 0 dX6_init_78 (q := 79) rfl rfl rfl ?_
  refine O_iconst (x := 2) dX6_init_79 (q := 80) rfl (by decide) ?_
  obtain ⟨g98, e99⟩ : ∃ h', up g87 74 (ZA γ 2 (fun _ => 0)) = h' := ⟨_, rfl⟩
  refine O_newz (len := 2) dX6_init_80 (q := 82) rfl ai_bool (by decide) (by decide) (Nat.le_of_ble_eq_true rfl) ⟨(Nat.le_of_ble_eq_true rfl), (Nat.le_of_ble_eq_true rfl)⟩ e99 ?_
  have c100 : g98 0 = .inr (6, [.ref (gB γ + 1), .ref (gB γ + 3), .ref (gB γ + 7), .ref (gB γ + 11), .ref (gB γ + 16), .ref (gB γ + 21), .ref (gB γ + 73), .null, .null, .null, .long 0]) := by rw [← e99, up_ne (by omega)]; exact c97
  obtain ⟨g101, e102⟩ : ∃ h', up g98 0 (.inr (6, [.ref (gB γ + 1), .ref (gB γ + 3), .ref (gB γ + 7), .ref (gB γ + 11), .ref (gB γ + 16), .ref (gB γ + 21), .ref (gB γ + 73), .ref (gB γ + 74), .null, .null, .long 0])) = h' := ⟨_, rfl⟩
  refine O_putF 7 dX6_init_82 (q := 85) rfl ckX6 (Nat.le_of_ble_eq_true rfl) fl_iX6_47 rfl rfl rfl rfl rfl c100 (by omega) (Nat.le_of_ble_eq_true rfl) e102 ?_
  show Eo γ M_X6_init (74, 883) 75 g101 [(0, .ref (gB γ + 0))] 85 [] _
  have H103 : Has 75 1 (txB γ 1 (fun _ => 0) 0 0 0 0 0 0 0) g101 := tr2 H89 (by omega) (Or.inl (by omega)) (by show 1 + 2 ≤ 74; omega) e99 e102
  have H104 : Has 75 3 (dpB γ 3 0 (fun _ => 0) (fun _ => 0) 0 (fun _ => 0) 2 3) g101 := tr2 H90 (by omega) (Or.inl (by omega)) (by show 3 + 4 ≤ 74; omega) e99 e102
  have H105 : Has 75 7 (dpB γ 7 0 (fun _ => 0) (fun _ => 0) 0 (fun _ => 0) 2 3) g101 := tr2 H91 (by omega) (Or.inl (by omega)) (by show 7 + 4 ≤ 74; omega) e99 e102
  have H106 : Has 75 11 (wtB γ 11 0 (fun _ => 0) (fillF (fun _ => 0) 5 (-9)) (fun _ => 0) (fun _ => 0)) g101 := tr2 H92 (by omega) (Or.inl (by omega)) (by show 11 + 5 ≤ 74; omega) e99 e102
  have H107 : Has 75 16 (wtB γ 16 0 (fun _ => 0) (fillF (fun _ => 0) 5 (-9)) (fun _ => 0) (fun _ => 0)) g101 := tr2 H93 (by omega) (Or.inl (by omega)) (by show 16 + 5 ≤ 74; omega) e99 e102
  have H108 : Has 75 21 (paB γ 21 0 0) g101 := tr2 H94 (by omega) (Or.inl (by omega)) (by show 21 + 2 ≤ 74; omega) e99 e102
  have H109 : Has 75 23 (pwB γ 23 (fun _ => w0)) g101 := tr2 H95 (by omega) (Or.inl (by omega)) (by rw [pw_len]; omega) e99 e102
  have H110 : Has 75 73 ([WA γ 2 (fun _ => none)]) g101 := tr2 H96 (by omega) (Or.inl (by omega)) (by show 73 + 1 ≤ 74; omega) e99 e102
  have H111 : Has 75 74 ([ZA γ 2 (fun _ => 0)]) g101 := trU (n := 75) (has1 (k := 74) (by rw [← e99]; exact up_same)) (by omega) (Or.inl (by omega)) e102
  have c112 : g101 0 = .inr (6, [.ref (gB γ + 1), .ref (gB γ + 3), .ref (gB γ + 7), .ref (gB γ + 11), .ref (gB γ + 16), .ref (gB γ + 21), .ref (gB γ + 73), .ref (gB γ + 74), .null, .null, .long 0]) := by rw [← e102]; exact up_same
  refine O_aload_n 0 dX6_init_85 (q := 86) rfl rfl rfl ?_
  obtain ⟨g113, e114⟩ : ∃ h', up g101 75 (.inr (1, [.int 0, .null, .null, .null])) = h' := ⟨_, rfl⟩
  refine O_new (fs := [.int 0, .null, .null, .null]) dX6_init_86 (q := 89) rfl ckX1 cl_iX6_51 in_X1 iz_X1 (fun j hj => by rcases (show j = 0 ∨ j = 1 ∨ j = 2 ∨ j = 3 by omega) with rfl | rfl | rfl | rfl <;> rfl) ⟨(Nat.le_of_ble_eq_true rfl), (Nat.le_of_ble_eq_true rfl)⟩ e114 ?_
  refine O_dup dX6_init_89 (q := 90) rfl rfl ?_
  have o115 : g113 75 = .inr (1, [.int 0, .null, .null, .null]) := by rw [← e114]; exact up_same
  refine O_callN (as := []) (a := gB γ + 75) (rest := [.ref (gB γ + 75), .ref (gB γ + 0)]) dX6_init_90 (q := 93) rfl lkm_X1_init lk_iX6_53 rfl (Nat.le_of_ble_eq_true rfl) ⟨(Nat.le_of_ble_eq_true rfl), (Nat.le_of_ble_eq_true rfl)⟩ (Nat.le_of_ble_eq_true rfl) rfl rfl (i_X1 (k := 75) o115) (fun v n' h' hp => hp.2.1) ?_
  rintro v n' g116 ⟨rfl, rfl, H118, f117⟩
  have c119 : g116 0 = .inr (6, [.ref (gB γ + 1), .ref (gB γ + 3), .ref (gB γ + 7), .ref (gB γ + 11), .ref (gB γ + 16), .ref (gB γ + 21), .ref (gB γ + 73), .ref (gB γ + 74), .null, .null, .long 0]) := by rw [f117 0 (by omega), ← e114, up_ne (by omega)]; exact c112
  obtain ⟨g120, e121⟩ : ∃ h', up g116 0 (.inr (6, [.ref (gB γ + 1), .ref (gB γ + 3), .ref (gB γ + 7), .ref (gB γ + 11), .ref (gB γ + 16), .ref (gB γ + 21), .ref (gB γ + 73), .ref (gB γ + 74), .ref (gB γ + 75), .null, .long 0])) = h' := ⟨_, rfl⟩
  refine O_putF 8 dX6_init_93 (q := 96) rfl ckX6 (Nat.le_of_ble_eq_true rfl) fl_iX6_54 rfl rfl rfl rfl rfl c119 (by omega) (Nat.le_of_ble_eq_true rfl) e121 ?_
  show Eo γ M_X6_init (78, 905) 79 g120 [(0, .ref (gB γ + 0))] 96 [] _
  have H122 : Has 79 1 (txB γ 1 (fun _ => 0) 0 0 0 0 0 0 0) g120 := tr3 H103 (by omega) (Or.inl (by omega)) (by show 1 + 2 ≤ 75; omega) e114 f117 e121
  have H123 : Has 79 3 (dpB γ 3 0 (fun _ => 0) (fun _ => 0) 0 (fun _ => 0) 2 3) g120 := tr3 H104 (by omega) (Or.inl (by omega)) (by show 3 + 4 ≤ 75; omega) e114 f117 e121
  have H124 : Has 79 7 (dpB γ 7 0 (fun _ => 0) (fun _ => 0) 0 (fun _ => 0) 2 3) g120 := tr3 H105 (by omega) (Or.inl (by omega)) (by show 7 + 4 ≤ 75; omega) e114 f117 e121
  have H125 : Has 79 11 (wtB γ 11 0 (fun _ => 0) (fillF (fun _ => 0) 5 (-9)) (fun _ => 0) (fun _ => 0)) g120 := tr3 H106 (by omega) (Or.inl (by omega)) (by show 11 + 5 ≤ 75; omega) e114 f117 e121
  have H126 : Has 79 16 (wtB γ 16 0 (fun _ => 0) (fillF (fun _ => 0) 5 (-9)) (fun _ => 0) (fun _ => 0)) g120 := tr3 H107 (by omega) (Or.inl (by omega)) (by show 16 + 5 ≤ 75; omega) e114 f117 e121
  have H127 : Has 79 21 (paB γ 21 0 0) g120 := tr3 H108 (by omega) (Or.inl (by omega)) (by show 21 + 2 ≤ 75; omega) e114 f117 e121
  have H128 : Has 79 23 (pwB γ 23 (fun _ => w0)) g120 := tr3 H109 (by omega) (Or.inl (by omega)) (by rw [pw_len]; omega) e114 f117 e121
  have H129 : Has 79 73 ([WA γ 2 (fun _ => none)]) g120 := tr3 H110 (by omega) (Or.inl (by omega)) (by show 73 + 1 ≤ 75; omega) e114 f117 e121
  have H130 : Has 79 74 ([ZA γ 2 (fun _ => 0)]) g120 := tr3 H111 (by omega) (Or.inl (by omega)) (by show 74 + 1 ≤ 75; omega) e114 f117 e121
  have H131 : Has 79 75 (fiB γ 75 0 (fun _ => 0) (fun _ => 0) (fun _ => 0)) g120 := trU H118 (by omega) (Or.inl (by omega)) e121
  have c132 : g120 0 = .inr (6, [.ref (gB γ + 1), .ref (gB γ + 3), .ref (gB γ + 7), .ref (gB γ + 11), .ref (gB γ + 16), .ref (gB γ + 21), .ref (gB γ + 73), .ref (gB γ + 74), .ref (gB γ + 75), .null, .long 0]) := by rw [← e121]; exact up_same
  refine O_aload_n 0 dX6_init_96 (q := 97) rfl rfl rfl ?_
  obtain ⟨g133, e134⟩ : ∃ h', up g120 79 (.inr (3, [.int 0, .null, .null, .null])) = h' := ⟨_, rfl⟩
  refine O_new (fs := [.int 0, .null, .null, .null]) dX6_init_97 (q := 100) rfl ckX3 cl_iX6_58 in_X3 iz_X3 (fun j hj => by rcases (show j = 0 ∨ j = 1 ∨ j = 2 ∨ j = 3 by omega) with rfl | rfl | rfl | rfl <;> rfl) ⟨(Nat.le_of_ble_eq_true rfl), (Nat.le_of_ble_eq_true rfl)⟩ e134 ?_
  refine O_dup dX6_init_100 (q := 101) rfl rfl ?_
  have o135 : g133 79 = .inr (3, [.int 0, .null, .null, .null]) := by rw [← e134]; exact up_same
  refine O_callN (as := []) (a := gB γ + 79) (rest := [.ref (gB γ + 79), .ref (gB γ + 0)]) dX6_init_101 (q := 104) rfl lkm_X3_init lk_iX6_60 rfl (Nat.le_of_ble_eq_true rfl) ⟨(Nat.le_of_ble_eq_true rfl), (Nat.le_of_ble_eq_true rfl)⟩ (Nat.le_of_ble_eq_true rfl) rfl rfl (i_X3 (k := 79) o135) (fun v n' h' hp => hp.2.1) ?_
  rintro v n' g136 ⟨rfl, rfl, H138, f137⟩
  have c139 : g136 0 = .inr (6, [.ref (gB γ + 1), .ref (gB γ + 3), .ref (gB γ + 7), .ref (gB γ + 11), .ref (gB γ + 16), .ref (gB γ + 21), .ref (gB γ + 73), .ref (gB γ + 74), .ref (gB γ + 75), .null, .long 0]) := by rw [f137 0 (by omega), ← e134, up_ne (by omega)]; exact c132
  obtain ⟨g140, e141⟩ : ∃ h', up g136 0 (.inr (6, [.ref (gB γ + 1), .ref (gB γ + 3), .ref (gB γ + 7), .ref (gB γ + 11), .ref (gB γ + 16), .ref (gB γ + 21), .ref (gB γ + 73), .ref (gB γ + 74), .ref (gB γ + 75), .ref (gB γ + 79), .long 0])) = h' := ⟨_, rfl⟩
  refine O_putF 9 dX6_init_104 (q := 107) rfl ckX6 (Nat.le_of_ble_eq_true rfl) fl_iX6_61 rfl rfl rfl rfl rfl c139 (by omega) (Nat.le_of_ble_eq_true rfl) e141 ?_
  show Eo γ M_X6_init (82, 949) 83 g140 [(0, .ref (gB γ + 0))] 107 [] _
  have H142 : Has 83 1 (txB γ 1 (fun _ => 0) 0 0 0 0 0 0 0) g140 := tr3 H122 (by omega) (Or.inl (by omega)) (by show 1 + 2 ≤ 79; omega) e134 f137 e141
  have H143 : Has 83 3 (dpB γ 3 0 (fun _ => 0) (fun _ => 0) 0 (fun _ => 0) 2 3) g140 := tr3 H123 (by omega) (Or.inl (by omega)) (by show 3 + 4 ≤ 79; omega) e134 f137 e141
  have H144 : Has 83 7 (dpB γ 7 0 (fun _ => 0) (fun _ => 0) 0 (fun _ => 0) 2 3) g140 := tr3 H124 (by omega) (Or.inl (by omega)) (by show 7 + 4 ≤ 79; omega) e134 f137 e141
  have H145 : Has 83 11 (wtB γ 11 0 (fun _ => 0) (fillF (fun _ => 0) 5 (-9)) (fun _ => 0) (fun _ => 0)) g140 := tr3 H125 (by omega) (Or.inl (by omega)) (by show 11 + 5 ≤ 79; omega) e134 f137 e141
  have H146 : Has 83 16 (wtB γ 16 0 (fun _ => 0) (fillF (fun _ => 0) 5 (-9)) (fun _ => 0) (fun _ => 0)) g140 := tr3 H126 (by omega) (Or.inl (by omega)) (by show 16 + 5 ≤ 79; omega) e134 f137 e141
  have H147 : Has 83 21 (paB γ 21 0 0) g140 := tr3 H127 (by omega) (Or.inl (by omega)) (by show 21 + 2 ≤ 79; omega) e134 f137 e141
  have H148 : Has 83 23 (pwB γ 23 (fun _ => w0)) g140 := tr3 H128 (by omega) (Or.inl (by omega)) (by rw [pw_len]; omega) e134 f137 e141
  have H149 : Has 83 73 ([WA γ 2 (fun _ => none)]) g140 := tr3 H129 (by omega) (Or.inl (by omega)) (by show 73 + 1 ≤ 79; omega) e134 f137 e141
  have H150 : Has 83 74 ([ZA γ 2 (fun _ => 0)]) g140 := tr3 H130 (by omega) (Or.inl (by omega)) (by show 74 + 1 ≤ 79; omega) e134 f137 e141
  have H151 : Has 83 75 (fiB γ 75 0 (fun _ => 0) (fun _ => 0) (fun _ => 0)) g140 := tr3 H131 (by omega) (Or.inl (by omega)) (by show 75 + 4 ≤ 79; omega) e134 f137 e141
  have H152 : Has 83 79 (plB γ 79 0 (fun _ => 0) (fun _ => 0) (fun _ => 0)) g140 := trU H138 (by omega) (Or.inl (by omega)) e141
  have c153 : g140 0 = .inr (6, [.ref (gB γ + 1), .ref (gB γ + 3), .ref (gB γ + 7), .ref (gB γ + 11), .ref (gB γ + 16), .ref (gB γ + 21), .ref (gB γ + 73), .ref (gB γ + 74), .ref (gB γ + 75), .ref (gB γ + 79), .long 0]) := by rw [← e141]; exact up_same
  refine O_iconst (x := 0) dX6_init_107 (q := 108) rfl (by decide) ?_
  refine O_istore_n [(1, .int 0), (0, .ref (gB γ + 0))] dX6_init_108 (q := 109) rfl rfl (Nat.le_of_ble_eq_true rfl) rfl ?_
  refine O_iload_n 0 dX6_init_109 (q := 110) rfl rfl rfl ?_
  refine O_iconst (x := 2) dX6_init_110 (q := 111) rfl (by decide) ?_
  refine O_icmp_ge dX6_init_111 (t := 133) (by decide) (q := 114) rfl (fun c => absurd c (by decide)) (fun _ => ?_)
  refine O_aload_n 1 dX6_init_114 (q := 115) rfl rfl rfl ?_
  refine O_get 6 dX6_init_115 (q := 118) rfl ckX6 (Nat.le_of_ble_eq_true rfl) fl_iX6_43 c153 (by omega) rfl ?_
  refine O_iload_n 0 dX6_init_118 (q := 119) rfl rfl rfl ?_
  obtain ⟨g154, e155⟩ : ∃ h', up g140 83 (.inr (5, [.int 0, .null, .null, .null, .null])) = h' := ⟨_, rfl⟩
  refine O_new (fs := [.int 0, .null, .null, .null, .null]) dX6_init_119 (q := 122) rfl ckX5 cl_iX6_26 in_w iz_w (fun j hj => by rcases (show j = 0 ∨ j = 1 ∨ j = 2 ∨ j = 3 ∨ j = 4 by omega) with rfl | rfl | rfl | rfl | rfl <;> rfl) ⟨(Nat.le_of_ble_eq_true rfl), (Nat.le_of_ble_eq_true rfl)⟩ e155 ?_
  refine O_dup dX6_init_122 (q := 123) rfl rfl ?_
  have o156 : g154 83 = .inr (5, [.int 0, .null, .null, .null, .null]) := by rw [← e155]; exact up_same
  refine O_callI (as := []) (a := gB γ + 83) (rest := [.ref (gB γ + 83), .int 0, .ref (gB γ + 73)]) dX6_init_123 (q := 126) rfl lkm_X5_init lk_iX6_28 rfl (Nat.le_of_ble_eq_true rfl) ⟨(Nat.le_of_ble_eq_true rfl), (Nat.le_of_ble_eq_true rfl)⟩ (Nat.le_of_ble_eq_true rfl) rfl rfl (i_X5 (k := 83) o156) (fun v n' h' hp => hp.2.1) ?_
  rintro v n' g157 ⟨rfl, rfl, H159, f158⟩
  have c160 : g157 73 = WA γ 2 (fun _ => none) := by rw [f158 73 (by omega), ← e155, up_ne (by omega)]; exact H149.at 0 rfl
  obtain ⟨g161, e162⟩ : ∃ h', up g157 73 (WA γ 2 (va_up (fun _ => none) (ci 0) (some (gB γ + 83)))) = h' := ⟨_, rfl⟩
  refine O_wast dX6_init_126 (q := 127) rfl c160 (by omega) (H159.at 0 rfl) (by omega) (by decide +kernel) e162 ?_
  refine O_iinc (v := 1) 0 [(1, .int 1), (0, .ref (gB γ + 0))] dX6_init_127 (q := 130) rfl rfl (by decide) (Nat.le_of_ble_eq_true rfl) rfl ?_
  refine O_goto (q := 109) dX6_init_130 (by decide) ?_
  show Eo γ M_X6_init (87, 1000) 88 g161 [(1, .int 1), (0, .ref (gB γ + 0))] 109 [] _
  have c163 : g161 0 = .inr (6, [.ref (gB γ + 1), .ref (gB γ + 3), .ref (gB γ + 7), .ref (gB γ + 11), .ref (gB γ + 16), .ref (gB γ + 21), .ref (gB γ + 73), .ref (gB γ + 74), .ref (gB γ + 75), .ref (gB γ + 79), .long 0]) := by rw [← e162, up_ne (by omega), f158 0 (by omega), ← e155, up_ne (by omega)]; exact c153
  have H164 : Has 88 1 (txB γ 1 (fun _ => 0) 0 0 0 0 0 0 0) g161 := tr3 H142 (by omega) (Or.inr (by show 1 + 2 ≤ 73; omega)) (by show 1 + 2 ≤ 83; omega) e155 f158 e162
  have H165 : Has 88 3 (dpB γ 3 0 (fun _ => 0) (fun _ => 0) 0 (fun _ => 0) 2 3) g161 := tr3 H143 (by omega) (Or.inr (by show 3 + 4 ≤ 73; omega)) (by show 3 + 4 ≤ 83; omega) e155 f158 e162
  have H166 : Has 88 7 (dpB γ 7 0 (fun _ => 0) (fun _ => 0) 0 (fun _ => 0) 2 3) g161 := tr3 H144 (by omega) (Or.inr (by show 7 + 4 ≤ 73; omega)) (by show 7 + 4 ≤ 83; omega) e155 f158 e162
  have H167 : Has 88 11 (wtB γ 11 0 (fun _ => 0) (fillF (fun _ => 0) 5 (-9)) (fun _ => 0) (fun _ => 0)) g161 := tr3 H145 (by omega) (Or.inr (by show 11 + 5 ≤ 73; omega)) (by show 11 + 5 ≤ 83; omega) e155 f158 e162
  have H168 : Has 88 16 (wtB γ 16 0 (fun _ => 0) (fillF (fun _ => 0) 5 (-9)) (fun _ => 0) (fun _ => 0)) g161 := tr3 H146 (by omega) (Or.inr (by show 16 + 5 ≤ 73; omega)) (by show 16 + 5 ≤ 83; omega) e155 f158 e162
  have H169 : Has 88 21 (paB γ 21 0 0) g161 := tr3 H147 (by omega) (Or.inr (by show 21 + 2 ≤ 73; omega)) (by show 21 + 2 ≤ 83; omega) e155 f158 e162
  have H170 : Has 88 23 (pwB γ 23 (fun _ => w0)) g161 := tr3 H148 (by omega) (Or.inr (by rw [pw_len]; omega)) (by rw [pw_len]; omega) e155 f158 e162
  have H171 : Has 88 74 ([ZA γ 2 (fun _ => 0)]) g161 := tr3 H150 (by omega) (Or.inl (by omega)) (by show 74 + 1 ≤ 83; omega) e155 f158 e162
  have H172 : Has 88 75 (fiB γ 75 0 (fun _ => 0) (fun _ => 0) (fun _ => 0)) g161 := tr3 H151 (by omega) (Or.inl (by omega)) (by show 75 + 4 ≤ 83; omega) e155 f158 e162
  have H173 : Has 88 79 (plB γ 79 0 (fun _ => 0) (fun _ => 0) (fun _ => 0)) g161 := tr3 H152 (by omega) (Or.inl (by omega)) (by show 79 + 4 ≤ 83; omega) e155 f158 e162
  have H174 : Has 88 73 ([WA γ 2 (va_up (fun _ => none) (ci 0) (some (gB γ + 83)))]) g161 := (has1 (k := 73) (by rw [← e162]; exact up_same)).mono (by omega) (fun _ _ _ => rfl)
  have H175 : Has 88 83 (wtB γ 83 0 (fun _ => 0) (fillF (fun _ => 0) 5 (-9)) (fun _ => 0) (fun _ => 0)) g161 := trU H159 (by omega) (Or.inl (by omega)) e162
  refine O_iload_n 0 dX6_init_109 (q := 110) rfl rfl rfl ?_
  refine O_iconst (x := 2) dX6_init_110 (q := 111) rfl (by decide) ?_
  refine O_icmp_ge dX6_init_111 (t := 133) (by decide) (q := 114) rfl (fun c => absurd c (by decide)) (fun _ => ?_)
  refine O_aload_n 1 dX6_init_114 (q := 115) rfl rfl rfl ?_
  refine O_get 6 dX6_init_115 (q := 118) rfl ckX6 (Nat.le_of_ble_eq_true rfl) fl_iX6_43 c163 (by omega) rfl ?_
  refine O_iload_n 0 dX6_init_118 (q := 119) rfl rfl rfl ?_
  obtain ⟨g176, e177⟩ : ∃ h', up g161 88 (.inr (5, [.int 0, .null, .null, .null, .null])) = h' := ⟨_, rfl⟩
  refine O_new (fs := [.int 0, .null, .null, .null, .null]) dX6_init_119 (q := 122) rfl ckX5 cl_iX6_26 in_w iz_w (fun j hj => by rcases (show j = 0 ∨ j = 1 ∨ j = 2 ∨ j = 3 ∨ j = 4 by omega) with rfl | rfl | rfl | rfl | rfl <;> rfl) ⟨(Nat.le_of_ble_eq_true rfl), (Nat.le_of_ble_eq_true rfl)⟩ e177 ?_
  refine O_dup dX6_init_122 (q := 123) rfl rfl ?_
  have o178 : g176 88 = .inr (5, [.int 0, .null, .null, .null, .null]) := by rw [← e177]; exact up_same
  refine O_callI (as := []) (a := gB γ + 88) (rest := [.ref (gB γ + 88), .int 1, .ref (gB γ + 73)]) dX6_init_123 (q := 126) rfl lkm_X5_init lk_iX6_28 rfl (Nat.le_of_ble_eq_true rfl) ⟨(Nat.le_of_ble_eq_true rfl), (Nat.le_of_ble_eq_true rfl)⟩ (Nat.le_of_ble_eq_true rfl) rfl rfl (i_X5 (k := 88) o178) (fun v n' h' hp => hp.2.1) ?_
  rintro v n' g179 ⟨rfl, rfl, H181, f180⟩
  have c182 : g179 73 = WA γ 2 (va_up (fun _ => none) (ci 0) (some (gB γ + 83))) := by rw [f180 73 (by omega), ← e177, up_ne (by omega)]; exact H174.at 0 rfl
  obtain ⟨g183, e184⟩ : ∃ h', up g179 73 (WA γ 2 (va_up (va_up (fun _ => none) (ci 0) (some (gB γ + 83))) (ci 1) (some (gB γ + 88)))) = h' := ⟨_, rfl⟩
  refine O_wast dX6_init_126 (q := 127) rfl c182 (by omega) (H181.at 0 rfl) (by omega) (by decide +kernel) e184 ?_
  refine O_iinc (v := 2) 0 [(1, .int 2), (0, .ref (gB γ + 0))] dX6_init_127 (q := 130) rfl rfl (by decide) (Nat.le_of_ble_eq_true rfl) rfl ?_
  refine O_goto (q := 109) dX6_init_130 (by decide) ?_
  show Eo γ M_X6_init (92, 1051) 93 g183 [(1, .int 2), (0, .ref (gB γ + 0))] 109 [] _
  have c185 : g183 0 = .inr (6, [.ref (gB γ + 1), .ref (gB γ + 3), .ref (gB γ + 7), .ref (gB γ + 11), .ref (gB γ + 16), .ref (gB γ + 21), .ref (gB γ + 73), .ref (gB γ + 74), .ref (gB γ + 75), .ref (gB γ + 79), .long 0]) := by rw [← e184, up_ne (by omega), f180 0 (by omega), ← e177, up_ne (by omega)]; exact c163
  have H186 : Has 93 1 (txB γ 1 (fun _ => 0) 0 0 0 0 0 0 0) g183 := tr3 H164 (by omega) (Or.inr (by show 1 + 2 ≤ 73; omega)) (by show 1 + 2 ≤ 88; omega) e177 f180 e184
  have H187 : Has 93 3 (dpB γ 3 0 (fun _ => 0) (fun _ => 0) 0 (fun _ => 0) 2 3) g183 := tr3 H165 (by omega) (Or.inr (by show 3 + 4 ≤ 73; omega)) (by show 3 + 4 ≤ 88; omega) e177 f180 e184
  have H188 : Has 93 7 (dpB γ 7 0 (fun _ => 0) (fun _ => 0) 0 (fun _ => 0) 2 3) g183 := tr3 H166 (by omega) (Or.inr (by show 7 + 4 ≤ 73; omega)) (by show 7 + 4 ≤ 88; omega) e177 f180 e184
  have H189 : Has 93 11 (wtB γ 11 0 (fun _ => 0) (fillF (fun _ => 0) 5 (-9)) (fun _ => 0) (fun _ => 0)) g183 := tr3 H167 (by omega) (Or.inr (by show 11 + 5 ≤ 73; omega)) (by show 11 + 5 ≤ 88; omega) e177 f180 e184
  have H190 : Has 93 16 (wtB γ 16 0 (fun _ => 0) (fillF (fun _ => 0) 5 (-9)) (fun _ => 0) (fun _ => 0)) g183 := tr3 H168 (by omega) (Or.inr (by show 16 + 5 ≤ 73; omega)) (by show 16 + 5 ≤ 88; omega) e177 f180 e184
  have H191 : Has 93 21 (paB γ 21 0 0) g183 := tr3 H169 (by omega) (Or.inr (by show 21 + 2 ≤ 73; omega)) (by show 21 + 2 ≤ 88; omega) e177 f180 e184
  have H192 : Has 93 23 (pwB γ 23 (fun _ => w0)) g183 := tr3 H170 (by omega) (Or.inr (by rw [pw_len]; omega)) (by rw [pw_len]; omega) e177 f180 e184
  have H193 : Has 93 74 ([ZA γ 2 (fun _ => 0)]) g183 := tr3 H171 (by omega) (Or.inl (by omega)) (by show 74 + 1 ≤ 88; omega) e177 f180 e184
  have H194 : Has 93 75 (fiB γ 75 0 (fun _ => 0) (fun _ => 0) (fun _ => 0)) g183 := tr3 H172 (by omega) (Or.inl (by omega)) (by show 75 + 4 ≤ 88; omega) e177 f180 e184
  have H195 : Has 93 79 (plB γ 79 0 (fun _ => 0) (fun _ => 0) (fun _ => 0)) g183 := tr3 H173 (by omega) (Or.inl (by omega)) (by show 79 + 4 ≤ 88; omega) e177 f180 e184
  have H196 : Has 93 83 (wtB γ 83 0 (fun _ => 0) (fillF (fun _ => 0) 5 (-9)) (fun _ => 0) (fun _ => 0)) g183 := tr3 H175 (by omega) (Or.inl (by omega)) (by show 83 + 5 ≤ 88; omega) e177 f180 e184
  have H197 : Has 93 73 ([WA γ 2 (va_up (va_up (fun _ => none) (ci 0) (some (gB γ + 83))) (ci 1) (some (gB γ + 88)))]) g183 := (has1 (k := 73) (by rw [← e184]; exact up_same)).mono (by omega) (fun _ _ _ => rfl)
  have H198 : Has 93 88 (wtB γ 88 0 (fun _ => 0) (fillF (fun _ => 0) 5 (-9)) (fun _ => 0) (fun _ => 0)) g183 := trU H181 (by omega) (Or.inl (by omega)) e184
  refine O_ext (g := (fun j => some (gB γ + (83 + 5 * j)))) (H197.at 0 rfl) (fun j hj => by rcases (show j = 0 ∨ j = 1 by omega) with rfl | rfl <;> rfl) ?_
  obtain ⟨g199, e200⟩ : ∃ h', up g183 73 (WA γ 2 (fun j => some (gB γ + (83 + 5 * j)))) = h' := ⟨_, rfl⟩
  show Eo γ M_X6_init (92, 1051) 93 (up g183 73 (WA γ 2 (fun j => some (gB γ + (83 + 5 * j))))) [(1, .int 2), (0, .ref (gB γ + 0))] 109 [] _
  rw [e200]
  have c201 : g199 0 = .inr (6, [.ref (gB γ + 1), .ref (gB γ + 3), .ref (gB γ + 7), .ref (gB γ + 11), .ref (gB γ + 16), .ref (gB γ + 21), .ref (gB γ + 73), .ref (gB γ + 74), .ref (gB γ + 75), .ref (gB γ + 79), .long 0]) := by rw [← e200, up_ne (by omega)]; exact c185
  have H202 : Has 93 1 (txB γ 1 (fun _ => 0) 0 0 0 0 0 0 0) g199 := trU H186 (by omega) (Or.inr (by show 1 + 2 ≤ 73; omega)) e200
  have H203 : Has 93 3 (dpB γ 3 0 (fun _ => 0) (fun _ => 0) 0 (fun _ => 0) 2 3) g199 := trU H187 (by omega) (Or.inr (by show 3 + 4 ≤ 73; omega)) e200
  have H204 : Has 93 7 (dpB γ 7 0 (fun _ => 0) (fun _ => 0) 0 (fun _ => 0) 2 3) g199 := trU H188 (by omega) (Or.inr (by show 7 + 4 ≤ 73; omega)) e200
  have H205 : Has 93 11 (wtB γ 11 0 (fun _ => 0) (fillF (fun _ => 0) 5 (-9)) (fun _ => 0) (fun _ => 0)) g199 := trU H189 (by omega) (Or.inr (by show 11 + 5 ≤ 73; omega)) e200
  have H206 : Has 93 16 (wtB γ 16 0 (fun _ => 0) (fillF (fun _ => 0) 5 (-9)) (fun _ => 0) (fun _ => 0)) g199 := trU H190 (by omega) (Or.inr (by show 16 + 5 ≤ 73; omega)) e200
  have H207 : Has 93 21 (paB γ 21 0 0) g199 := trU H191 (by omega) (Or.inr (by show 21 + 2 ≤ 73; omega)) e200
  have H208 : Has 93 23 (pwB γ 23 (fun _ => w0)) g199 := trU H192 (by omega) (Or.inr (by rw [pw_len]; omega)) e200
  have H209 : Has 93 74 ([ZA γ 2 (fun _ => 0)]) g199 := trU H193 (by omega) (Or.inl (by omega)) e200
  have H210 : Has 93 75 (fiB γ 75 0 (fun _ => 0) (fun _ => 0) (fun _ => 0)) g199 := trU H194 (by omega) (Or.inl (by omega)) e200
  have H211 : Has 93 79 (plB γ 79 0 (fun _ => 0) (fun _ => 0) (fun _ => 0)) g199 := trU H195 (by omega) (Or.inl (by omega)) e200
  have H212 : Has 93 83 (wtB γ 83 0 (fun _ => 0) (fillF (fun _ => 0) 5 (-9)) (fun _ => 0) (fun _ => 0)) g199 := trU H196 (by omega) (Or.inl (by omega)) e200
  have H213 : Has 93 88 (wtB γ 88 0 (fun _ => 0) (fillF (fun _ => 0) 5 (-9)) (fun _ => 0) (fun _ => 0)) g199 := trU H198 (by omega) (Or.inl (by omega)) e200
  have H214 : Has 93 73 (imB γ 73) g199 := (has1 (k := 73) (by rw [← e200]; exact up_same)).mono (by omega) (fun _ _ _ => rfl)
  refine O_iload_n 0 dX6_init_109 (q := 110) rfl rfl rfl ?_
  refine O_iconst (x := 2) dX6_init_110 (q := 111) rfl (by decide) ?_
  refine O_icmp_ge dX6_init_111 (t := 133) (by decide) (q := 114) rfl (fun _ => ?_) (fun c => absurd (by decide) c)
  refine O_vret dX6_init_133 rfl ⟨rfl, rfl, (has1 (k := 0) c201).mono (by omega) (fun _ _ _ => rfl), H202, H203, H204, H205, H206, H207, H208, H214, H209, H210, H211, ?_⟩
  exact has_app (m := 88) rfl (has_app (m := 83) rfl ⟨by show 83 ≤ 93; omega, fun i c hc => by cases hc⟩ H212) H213
