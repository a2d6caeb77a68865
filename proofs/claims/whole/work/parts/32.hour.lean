/-! ===== pure side: an hour, a relief, side by side ===== -/
def bur (c h : Nat) : Nat := 4 + (if 2 ≤ h % 12 ∧ h % 12 ≤ 4 then 2 else 0) + c / 3
def stD (ST H : Nat) (CO : Nat → Nat) (w d : Nat) : Nat := if w = 0 then d - ST else min 60 (d + bur (CO (w - 1)) H)
theorem bur_le {c h : Nat} (hc : c ≤ 9) : bur c h ≤ 9 := by
  unfold bur
  split <;> omega
/-- the depot: the class's and the reference's -/
def DR (P M ON ST : Nat) (CO : Nat → Nat) (dposts : Int32) (dsees dcold : FN) (dmen don dstove : Int32) (many sees cold : FN) : Prop :=
  (dposts = nI P ∧ dmen = nI M ∧ don = nI ON ∧ dstove = nI ST) ∧ (many 0 = nI P ∧ many 1 = nI M ∧ many 2 = nI ON ∧ many 3 = nI ST) ∧ (P ≤ 5 ∧ M ≤ 6 ∧ ON ≤ 9 ∧ ST ≤ 9) ∧ (∀ p, p < P → dcold p = nI (CO p) ∧ cold p = nI (CO p) ∧ CO p ≤ 9) ∧ (∀ p, p < P → (dsees p &&& ((nI 1 <<< (nI P &&& nI 31)) - nI 1)) &&& ((nI 1 <<< (nI p &&& nI 31)) ^^^ (-nI 1)) = sees p)
section HR
variable {N : Nat} {P M ON ST H : Nat} {CO : Nat → Nat} {D W S V : Nat → Nat} {G : Nat → Option Nat} {hr dposts dmen don dstove : Int32} {db gu sd sv s dsees dcold many sees cold : FN}
theorem within_eq (a l m : Int32) : f_X6_within N a l m = some (if l ≤ a ∧ a ≤ m then nI 1 else nI 0) := by
  unfold f_X6_within
  by_cases h1 : a < l
  · have : ¬ l ≤ a := Int32.not_le.mpr h1
    simp [h1, this]; rfl
  · have h1' := Int32.not_lt.mp h1
    by_cases h2 : m < a
    · have : ¬ a ≤ m := Int32.not_le.mpr h2
      simp [h1, h2, this]; rfl
    · have h2' := Int32.not_lt.mp h2
      simp [h1, h2, h1', h2']; rfl
theorem in_eq (a l m : Int32) : f_X7_in N a l m = some (if l ≤ a ∧ a ≤ m then nI 1 else nI 0) := within_eq (N := N) a l m
theorem burden_eq {p h c : Nat} (hp : p < 5) (hh : h < 2 ^ 20) (hc : dcold p = nI c) (hc9 : c ≤ 9) : f_X0_burden N (nI p) (nI h) dcold = some (nI (bur c h)) := by
  have e1 : h % 12 < 12 := Nat.mod_lt _ (by omega)
  simp (disch := omega) only [f_X0_burden, fa_lit, irem_nI, nI_ltI, ix_iff, ci_nI, hp, if_true, hc, pk_div, nI_add]
  unfold bur
  by_cases h1 : h % 12 < 2
  · have : ¬ (2 ≤ h % 12 ∧ h % 12 ≤ 4) := by omega
    simp only [h1, this, if_true, if_false]
  · by_cases h2 : 4 < h % 12
    · have : ¬ (2 ≤ h % 12 ∧ h % 12 ≤ 4) := by omega
      simp only [h1, h2, this, if_true, if_false]
    · have : 2 ≤ h % 12 ∧ h % 12 ≤ 4 := by omega
      simp only [h1, h2, this, and_self, if_true, if_false]
theorem nI_sub_pos {a b : Nat} (ha : a < 2 ^ 30) (hb : b < 2 ^ 30) : (0 < nI a - nI b) = (b < a) := by
  apply propext
  rw [Int32.lt_iff_toInt_lt, pk_sub_toInt ha hb]
  show (0 : Int) < _ ↔ _
  omega
theorem nI_sub_nn {a b : Nat} (ha : a < 2 ^ 30) (hb : b < 2 ^ 30) : (nI 0 ≤ nI a - nI b) = (b ≤ a) := by
  apply propext
  rw [Int32.le_iff_toInt_le, pk_sub_toInt ha hb]
  show (0 : Int) ≤ _ ↔ _
  omega
theorem nI_sub_neg {a b : Nat} (ha : a < 2 ^ 30) (hb : b < 2 ^ 30) : (nI a - nI b < nI 0) = (a < b) := by
  apply propext
  rw [Int32.lt_iff_toInt_lt, pk_sub_toInt ha hb]
  show _ < (0 : Int) ↔ _
  omega
set_option maxHeartbeats 1000000 in
/-- one man's hour in the reference's row -/
theorem goes_body {i : Nat} (iv1 : P ≤ 5) (hM : M ≤ 6) (hi : i < M) (hmany1 : many 1 = nI M) (hmany3 : many 3 = nI ST) (hST : ST ≤ 9) (hH : H ≤ 1000) (hco : ∀ p, p < P → cold p = nI (CO p) ∧ CO p ≤ 9) (hd : s (1 + i) = nI (D i)) (hdb : D i ≤ 60) (hw : s (7 + i) = nI (W i)) (hwb : W i ≤ P) :
    b_X7_goes_w_1 N (nI (H % 12)) many cold (nI i) s = some (.inl (nI (i + 1), upd (if W i = 0 then s else upd (upd s (13 + (W i - 1)) (s (13 + (W i - 1)) + nI 1)) (18 + 5 * i + (W i - 1)) (s (18 + 5 * i + (W i - 1)) + nI 1)) (1 + i) (nI (stD ST H CO (W i) (D i))))) := by
  have n1 : ¬ M ≤ i := by omega
  have n2 : 7 + i < 48 := by omega
  have n3 : 1 + i < 48 := by omega
  have e12 : H % 12 < 12 := Nat.mod_lt _ (by omega)
  by_cases h0 : W i = 0
  · have n4 : W i < 1 := by omega
    simp (disch := omega) only [b_X7_goes_w_1, fa_lit, hmany1, hmany3, nI_leI, n1, ↓reduceIte, nI_add, ix_iff, ci_nI, n2, n3, hw, hd, nI_sub_neg, nI_sub_nn, n4]
    simp only [h0, ↓reduceIte, stD]
    by_cases h1 : ST ≤ D i
    · have n5 : D i - ST ≤ 60 := by omega
      simp (disch := omega) only [h1, ↓reduceIte, pk_sub, nI_leI, n5]
    · have n5 : D i - ST = 0 := by omega
      simp only [h1, ↓reduceIte, n5]
  · have n4 : ¬ W i < 1 := by omega
    have n5 : W i - 1 < 10 := by omega
    have n6 : 13 + (W i - 1) < 48 := by omega
    have n7 : 18 + 5 * i + (W i - 1) < 48 := by omega
    have n8 : 18 + 5 * i + (W i - 1) ≠ 13 + (W i - 1) := by omega
    obtain ⟨c1, c2⟩ := hco (W i - 1) (by omega)
    have c3 := bur_le (h := H) c2
    have n9 : ¬ (nI 1 = nI 0) := by decide
    have u1 : ∀ (f : FN) (x : Int32), upd f (13 + (W i - 1)) x (18 + 5 * i + (W i - 1)) = f (18 + 5 * i + (W i - 1)) := fun f x => upd_ne n8
    by_cases h2 : 2 ≤ H % 12 ∧ H % 12 ≤ 4
    · have b1 : bur (CO (W i - 1)) H = 4 + 2 + CO (W i - 1) / 3 := by simp [bur, h2]
      by_cases h3 : D i + 4 + 2 + CO (W i - 1) / 3 ≤ 60
      · have : min 60 (D i + (4 + 2 + CO (W i - 1) / 3)) = D i + 4 + 2 + CO (W i - 1) / 3 := by omega
        simp (disch := omega) only [b_X7_goes_w_1, fa_lit, hmany1, hmany3, nI_leI, n1, ↓reduceIte, nI_add, ix_iff, ci_nI, n2, n3, hw, hd, nI_ltI, Nat.not_lt_zero, h0, in_eq, Option.bind_some, pk_sub, pk_mul, n5, n6, n7, c1, pk_div, u1, stD, h2, and_self, n9, Nat.zero_le, h3, b1, this]
      · have : min 60 (D i + (4 + 2 + CO (W i - 1) / 3)) = 60 := by omega
        simp (disch := omega) only [b_X7_goes_w_1, fa_lit, hmany1, hmany3, nI_leI, n1, ↓reduceIte, nI_add, ix_iff, ci_nI, n2, n3, hw, hd, nI_ltI, Nat.not_lt_zero, h0, in_eq, Option.bind_some, pk_sub, pk_mul, n5, n6, n7, c1, pk_div, u1, stD, h2, and_self, n9, Nat.zero_le, h3, b1, this]
    · have b1 : bur (CO (W i - 1)) H = 4 + 0 + CO (W i - 1) / 3 := by simp [bur, h2]
      by_cases h3 : D i + 4 + 0 + CO (W i - 1) / 3 ≤ 60
      · have : min 60 (D i + (4 + 0 + CO (W i - 1) / 3)) = D i + 4 + 0 + CO (W i - 1) / 3 := by omega
        simp (disch := omega) only [b_X7_goes_w_1, fa_lit, hmany1, hmany3, nI_leI, n1, ↓reduceIte, nI_add, ix_iff, ci_nI, n2, n3, hw, hd, nI_ltI, Nat.not_lt_zero, h0, in_eq, Option.bind_some, pk_sub, pk_mul, n5, n6, n7, c1, pk_div, u1, stD, h2, Nat.zero_le, h3, b1, this]
      · have : min 60 (D i + (4 + 0 + CO (W i - 1) / 3)) = 60 := by omega
        simp (disch := omega) only [b_X7_goes_w_1, fa_lit, hmany1, hmany3, nI_leI, n1, ↓reduceIte, nI_add, ix_iff, ci_nI, n2, n3, hw, hd, nI_ltI, Nat.not_lt_zero, h0, in_eq, Option.bind_some, pk_sub, pk_mul, n5, n6, n7, c1, pk_div, u1, stD, h2, Nat.zero_le, h3, b1, this]
set_option maxHeartbeats 1000000 in
theorem passHour_body {i : Nat} (hN : 8000 < N) (iv1 : P ≤ 5) (hM : M ≤ 6) (hi : i < M) (hST : ST ≤ 9) (hH : H ≤ 1000) (hco : ∀ p, p < P → dcold p = nI (CO p) ∧ CO p ≤ 9) (hd : db i = nI (D i)) (hdb : D i ≤ 60) (hwb : ∀ m, m < M → W m ≤ P) (lk : LK M W G) (hgu : ∀ p, p < 5 → gu p = enc (G p)) :
    b_X5_passHour_1 N dcold (nI M) (nI ST) (nI H) gu (nI i) db sd sv = some (.inl (nI (i + 1), upd db i (nI (stD ST H CO (W i) (D i))), (if W i = 0 then sd else upd sd (W i - 1) (sd (W i - 1) + nI 1)), (if W i = 0 then sv else upd sv (5 * i + (W i - 1)) (sv (5 * i + (W i - 1)) + nI 1)))) := by
  have n1 : ¬ M ≤ i := by omega
  have n2 : i < 6 := by omega
  have hwi := hwb i hi
  have e1 := placeOf_eq (N := N) hN hM (fun m hm => Nat.le_trans (hwb m hm) iv1) lk hgu hi
  simp (disch := omega) only [b_X5_passHour_1, fa_lit, nI_leI, n1, if_false, e1, Option.bind_some, ix_iff, ci_nI, n2, if_true, hd]
  by_cases h0 : W i = 0
  · simp (disch := omega) only [pl, h0, if_true, stD, nI_add]
    have e2 : (if nI 0 < nI (D i) - nI ST then nI (D i) - nI ST else nI 0) = nI (D i - ST) := by
      have e9 : (nI 0 < nI (D i) - nI ST) = (ST < D i) := nI_sub_pos (a := D i) (b := ST) (by omega) (by omega)
      by_cases h1 : ST < D i
      · rw [if_pos (by rw [e9]; exact h1), pk_sub (by omega)]
      · rw [if_neg (by rw [e9]; exact h1), show D i - ST = 0 by omega]
    rw [e2]
  · obtain ⟨c1, c2⟩ := hco (W i - 1) (by omega)
    have c3 := bur_le (h := H) c2
    have n5 : W i - 1 < 5 := by omega
    have n6 : i * 5 + (W i - 1) < 30 := by omega
    have e3 := burden_eq (N := N) (p := W i - 1) (h := H) (dcold := dcold) n5 (by omega) c1 c2
    simp (disch := omega) only [pl, h0, if_false, nI_ne_neg, e3, Option.bind_some, ix_iff, n5, if_true, pk_mul, nI_add, n6, ci_nI, nI_ltI, stD]
    rw [show i * 5 = 5 * i by omega]
    have e4 : (if 60 < D i + bur (CO (W i - 1)) H then nI 60 else nI (D i + bur (CO (W i - 1)) H)) = nI (min 60 (D i + bur (CO (W i - 1)) H)) := by
      by_cases h1 : 60 < D i + bur (CO (W i - 1)) H
      · rw [if_pos h1, show min 60 (D i + bur (CO (W i - 1)) H) = 60 by omega]
      · rw [if_neg h1, show min 60 (D i + bur (CO (W i - 1)) H) = D i + bur (CO (W i - 1)) H by omega]
    rw [e4]
/-- an hour, on both sides -/
theorem hour_two (hN : 8000 < N) (dr : DR P M ON ST CO dposts dsees dcold dmen don dstove many sees cold) (iv : IV P M H D W G S V) (hH9 : H < 1000) (rw : RW M hr db gu sd sv H D G S V) (rs : RS M s H D W S V) :
    ∃ (db' sd' sv' s' : FN) (D' S' V' : Nat → Nat), f_X5_passHour N dcold dmen dstove hr db gu sd sv = some (nI (H + 1), db', sd', sv') ∧ f_X7_goes_w N many cold s = some s' ∧ RW M (nI (H + 1)) db' gu sd' sv' (H + 1) D' G S' V' ∧ RS M s' (H + 1) D' W S' V' ∧ IV P M (H + 1) D' W G S' V' ∧ (∀ m, m < M → D' m = stD ST H CO (W m) (D m)) := by
  obtain ⟨⟨dr1, dr2, dr3, dr4⟩, ⟨dm0, dm1, dm2, dm3⟩, ⟨dP, dM, dON, dST⟩, dco, dse⟩ := dr
  obtain ⟨hP, hM, hH, hD, hW, lk, hS, hV⟩ := iv
  obtain ⟨rw1, rw2, rw3, rw4, rw5⟩ := rw
  obtain ⟨rs1, rs2, rs3, rs4, rs5⟩ := rs
  subst dr1 dr2 dr3 dr4 rw1
  have hstd : ∀ m, m < M → stD ST H CO (W m) (D m) ≤ 60 := by
    intro m hm
    have := hD m hm
    unfold stD
    split <;> omega
  obtain ⟨t, t', h1, h2, D', S', V', q1, q2, q3, q4, q5, q6, q7, q8, q9⟩ := lp_two (b1 := fun x : Int32 × FN × FN × FN => b_X5_passHour_1 N dcold (nI M) (nI ST) (nI H) gu x.1 x.2.1 x.2.2.1 x.2.2.2) (b2 := fun x : Int32 × FN => b_X7_goes_w_1 N (nI (H % 12)) many cold x.1 x.2)
    (Q := fun t t' => ∃ D' S' V' : Nat → Nat, (∀ m, m < M → t.1 m = nI (D' m)) ∧ (∀ p, p < 5 → t.2.1 p = nI (S' p)) ∧ (∀ m, m < M → ∀ p, p < 5 → t.2.2 (5 * m + p) = nI (V' (5 * m + p))) ∧ RS M t' H D' W S' V' ∧ (∀ m, m < M → D' m = stD ST H CO (W m) (D m)) ∧ (∀ p, p < 5 → S' p ≤ 8 * H + 8) ∧ (∀ m, m < M → ∀ p, p < 5 → V' (5 * m + p) ≤ H + 1) ∧ True ∧ True)
    M (fun i x y => x.1 = nI i ∧ y.1 = nI i ∧ ∃ D' S' V' : Nat → Nat, (∀ m, m < M → x.2.1 m = nI (D' m)) ∧ (∀ p, p < 5 → x.2.2.1 p = nI (S' p)) ∧ (∀ m, m < M → ∀ p, p < 5 → x.2.2.2 (5 * m + p) = nI (V' (5 * m + p))) ∧ RS M y.2 H D' W S' V' ∧ (∀ m, m < M → D' m = if m < i then stD ST H CO (W m) (D m) else D m) ∧ (∀ p, p < 5 → S' p ≤ 8 * H + i) ∧ (∀ m, m < M → ∀ p, p < 5 → V' (5 * m + p) ≤ H + if m < i then 1 else 0))
    (0, db, sd, sv) (0, s) N (by
      rintro i ⟨x1, x2, x3, x4⟩ ⟨y1, y2⟩ hi ⟨hx1, hy1, D1, S1, V1, j1, j2, j3, ⟨k1, k2, k3, k4, k5⟩, j5, j6, j7⟩
      dsimp only at hx1 hy1 j1 j2 j3 k1 k2 k3 k4 k5 ⊢
      subst hx1 hy1
      have hDi : D1 i = D i := by rw [j5 i hi]; simp
      have hWi := hW i hi
      refine Or.inl ⟨_, _, passHour_body (D := D1) hN hP hM hi dST (by omega) (fun p hp => ⟨(dco p hp).1, (dco p hp).2.2⟩) (j1 i hi) (by rw [hDi]; exact hD i hi) hW lk rw3, goes_body (D := D1) hP hM hi dm1 dm3 dST (by omega) (fun p hp => (dco p hp).2) (k2 i hi) (by rw [hDi]; exact hD i hi) (k3 i hi) hWi, rfl, rfl, ?_⟩
      rw [hDi]
      have b0 := hstd i hi
      by_cases h0 : W i = 0
      · simp only [h0, if_true]
        refine ⟨updN D1 i (stD ST H CO 0 (D i)), S1, V1, fun m hm => ?_, j2, j3, ⟨?_, fun m hm => ?_, fun m hm => ?_, fun p hp => ?_, fun m hm p hp => ?_⟩, fun m hm => ?_, fun p hp => ?_, fun m hm p hp => ?_⟩
        · by_cases e : m = i
          · subst e; rw [upd_same, updN_same]
          · rw [upd_ne e, updN_ne e, j1 m hm]
        · rw [upd_ne (by omega), k1]
        · by_cases e : m = i
          · subst e; rw [upd_same, updN_same]
          · rw [upd_ne (by omega), updN_ne e, k2 m hm]
        · rw [upd_ne (by omega), k3 m hm]
        · rw [upd_ne (by omega), k4 p hp]
        · rw [upd_ne (by omega), k5 m hm p hp]
        · by_cases e : m = i
          · subst e; rw [updN_same]; simp [h0]
          · rw [updN_ne e, j5 m hm]
            have : (m < i + 1) = (m < i) := by apply propext; omega
            simp only [this]
        · have := j6 p hp; omega
        · have := j7 m hm p hp
          split at this <;> split <;> omega
      · simp only [h0, if_false]
        refine ⟨updN D1 i (stD ST H CO (W i) (D i)), updN S1 (W i - 1) (S1 (W i - 1) + 1), updN V1 (5 * i + (W i - 1)) (V1 (5 * i + (W i - 1)) + 1), fun m hm => ?_, fun p hp => ?_, fun m hm p hp => ?_, ⟨?_, fun m hm => ?_, fun m hm => ?_, fun p hp => ?_, fun m hm p hp => ?_⟩, fun m hm => ?_, fun p hp => ?_, fun m hm p hp => ?_⟩
        · by_cases e : m = i
          · subst e; rw [upd_same, updN_same]
          · rw [upd_ne e, updN_ne e, j1 m hm]
        · by_cases e : p = W i - 1
          · subst e; rw [upd_same, updN_same, j2 _ hp, nI_add]
          · rw [upd_ne e, updN_ne e, j2 p hp]
        · by_cases e : 5 * m + p = 5 * i + (W i - 1)
          · rw [e, upd_same, updN_same, j3 i hi _ (by omega), nI_add]
          · rw [upd_ne e, updN_ne e, j3 m hm p hp]
        · rw [upd_ne (by omega), upd_ne (by omega), upd_ne (by omega), k1]
        · by_cases e : m = i
          · subst e; rw [upd_same, updN_same]
          · rw [upd_ne (by omega), upd_ne (by omega), upd_ne (by omega), updN_ne e, k2 m hm]
        · rw [upd_ne (by omega), upd_ne (by omega), upd_ne (by omega), k3 m hm]
        · rw [upd_ne (by omega), upd_ne (by omega)]
          by_cases e : p = W i - 1
          · subst e; rw [upd_same, updN_same, k4 _ hp, nI_add]
          · rw [upd_ne (by omega), updN_ne e, k4 p hp]
        · rw [upd_ne (by omega)]
          by_cases e : 5 * m + p = 5 * i + (W i - 1)
          · rw [show 18 + 5 * m + p = 18 + 5 * i + (W i - 1) by omega, e, upd_same, updN_same, k5 i hi _ (by omega), nI_add]
          · rw [upd_ne (by omega), upd_ne (by omega), updN_ne e, k5 m hm p hp]
        · by_cases e : m = i
          · subst e; rw [updN_same]; simp
          · rw [updN_ne e, j5 m hm]
            have : (m < i + 1) = (m < i) := by apply propext; omega
            simp only [this]
        · by_cases e : p = W i - 1
          · subst e; rw [updN_same]; have := j6 _ hp; omega
          · rw [updN_ne e]; have := j6 p hp; omega
        · by_cases e : 5 * m + p = 5 * i + (W i - 1)
          · rw [e, updN_same]
            have em : m = i := by omega
            have := j7 i hi (W i - 1) (by omega)
            subst em
            simp at this ⊢
            omega
          · rw [updN_ne e]
            have := j7 m hm p hp
            split at this <;> split <;> omega) (by
      rintro ⟨x1, x2, x3, x4⟩ ⟨y1, y2⟩ ⟨hx1, hy1, D1, S1, V1, j1, j2, j3, j4, j5, j6, j7⟩
      dsimp only at hx1 hy1 j1 j2 j3 j4 ⊢
      subst hx1 hy1
      refine ⟨(x2, x3, x4), y2, ?_, ?_, D1, S1, V1, j1, j2, j3, j4, fun m hm => ?_, fun p hp => ?_, fun m hm p hp => ?_, trivial, trivial⟩
      · simp (disch := omega) only [b_X5_passHour_1, nI_leI, Nat.le_refl, if_true]
      · simp (disch := omega) only [b_X7_goes_w_1, fa_lit, dm1, nI_leI, ci_nI, Nat.le_refl, if_true]
      · rw [j5 m hm]; simp [hm]
      · have := j6 p hp; omega
      · have := j7 m hm p hp; simp only [hm, if_true] at this; exact this) (by omega) ⟨rfl, rfl, D, S, V, rw2, rw4, rw5, ⟨rs1, rs2, rs3, rs4, rs5⟩, fun m hm => by simp, fun p hp => by have := hS p hp; omega, fun m hm p hp => by have := hV m hm p hp; omega⟩
  obtain ⟨k1, k2, k3, k4, k5⟩ := q4
  refine ⟨t.1, t.2.1, t.2.2, upd t' 0 (nI (H + 1)), D', S', V', ?_, ?_, ⟨rfl, q1, rw3, q2, q3⟩, ⟨upd_same, fun m hm => ?_, fun m hm => ?_, fun p hp => ?_, fun m hm p hp => ?_⟩, ⟨hP, hM, by omega, fun m hm => by rw [q5 m hm]; exact hstd m hm, hW, lk, fun p hp => by have := q6 p hp; omega, q7⟩, q5⟩
  · unfold f_X5_passHour
    rw [show lp (fun s => b_X5_passHour_1 N dcold (nI M) (nI ST) (nI H) gu s.1 s.2.1 s.2.2.1 s.2.2.2) N (0, db, sd, sv) = some t from h1]
    simp only [Option.bind_some, fa_lit, nI_add]
  · unfold f_X7_goes_w
    have e0 : s (ci 0) % 12 = nI (H % 12) := by
      rw [show s (ci 0) = nI H from rs1]
      exact irem_nI (a := H) (d := 12) (by omega) (by omega) (by omega)
    rw [e0, show lp (fun x => b_X7_goes_w_1 N (nI (H % 12)) many cold x.1 x.2) N (0, s) = some t' from h2]
    show some (upd t' 0 (t' 0 + nI 1)) = _
    rw [k1, nI_add]
  · rw [upd_ne (by omega), k2 m hm]
  · rw [upd_ne (by omega), k3 m hm]
  · rw [upd_ne (by omega), k4 p hp]
  · rw [upd_ne (by omega), k5 m hm p hp]
end HR
