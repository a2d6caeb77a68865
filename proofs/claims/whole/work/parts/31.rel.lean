/-! ===== pure side: sets of posts; the relations between the class's watch and the reference's row ===== -/
def anyB : Nat → (Nat → Bool) → Bool
  | 0, _ => false
  | n + 1, f => anyB n f || f n
theorem anyB_iff {f : Nat → Bool} : ∀ {n : Nat}, anyB n f = true ↔ ∃ k, k < n ∧ f k = true
  | 0 => by simp [anyB]
  | n + 1 => by
    rw [anyB, Bool.or_eq_true, anyB_iff]
    constructor
    · rintro (⟨k, h1, h2⟩ | h)
      · exact ⟨k, by omega, h2⟩
      · exact ⟨n, by omega, h⟩
    · rintro ⟨k, h1, h2⟩
      by_cases hk : k = n
      · exact Or.inr (hk ▸ h2)
      · exact Or.inl ⟨k, by omega, h2⟩
def bn (a b c d e : Bool) : Nat := a.toNat + 2 * b.toNat + 4 * c.toNat + 8 * d.toNat + 16 * e.toNat
def bs (f : Nat → Bool) : Int32 := nI (bn (f 0) (f 1) (f 2) (f 3) (f 4))
theorem bs_ext {f g : Nat → Bool} (h : ∀ k, k < 5 → f k = g k) : bs f = bs g := by
  unfold bs
  rw [h 0 (by omega), h 1 (by omega), h 2 (by omega), h 3 (by omega), h 4 (by omega)]
theorem bn_lt : ∀ a b c d e : Bool, bn a b c d e < 32 := by decide
theorem bs_lt (f : Nat → Bool) : ∃ n, n < 32 ∧ bs f = nI n := ⟨_, bn_lt _ _ _ _ _, rfl⟩
theorem bs_nil : bs (fun _ => false) = nI 0 := rfl
theorem bs_add (f : Nat → Bool) {q : Nat} (hq : q < 5) : bs f ||| (nI 1 <<< (nI q &&& nI 31)) = bs (fun p => f p || decide (p = q)) := by
  have key : ∀ (q : Fin 5) (a b c d e : Bool), nI (bn a b c d e) ||| (nI 1 <<< (nI q.val &&& nI 31)) = nI (bn (a || decide (0 = q.val)) (b || decide (1 = q.val)) (c || decide (2 = q.val)) (d || decide (3 = q.val)) (e || decide (4 = q.val))) := by decide +kernel
  exact key ⟨q, hq⟩ (f 0) (f 1) (f 2) (f 3) (f 4)
theorem bs_or0 (f : Nat → Bool) : bs f ||| nI 0 = bs f := by
  have key : ∀ (a b c d e : Bool), nI (bn a b c d e) ||| nI 0 = nI (bn a b c d e) := by decide +kernel
  exact key _ _ _ _ _
def enc : Option Nat → Int32
  | none => -nI 9
  | some m => nI m
def pl (w : Nat) : Int32 := if w = 0 then -nI 9 else nI (w - 1)
def slp (D : Nat → Nat) (G : Nat → Option Nat) (p : Nat) : Bool := match G p with | some m => decide (40 ≤ D m) | none => false
/-- the reference's row -/
def RS (M : Nat) (s : FN) (H : Nat) (D W S V : Nat → Nat) : Prop := s 0 = nI H ∧ (∀ m, m < M → s (1 + m) = nI (D m)) ∧ (∀ m, m < M → s (7 + m) = nI (W m)) ∧ (∀ p, p < 5 → s (13 + p) = nI (S p)) ∧ (∀ m, m < M → ∀ p, p < 5 → s (18 + 5 * m + p) = nI (V (5 * m + p)))
/-- the class's watch -/
def RW (M : Nat) (hr : Int32) (db gu sd sv : FN) (H : Nat) (D : Nat → Nat) (G : Nat → Option Nat) (S V : Nat → Nat) : Prop := hr = nI H ∧ (∀ m, m < M → db m = nI (D m)) ∧ (∀ p, p < 5 → gu p = enc (G p)) ∧ (∀ p, p < 5 → sd p = nI (S p)) ∧ (∀ m, m < M → ∀ p, p < 5 → sv (5 * m + p) = nI (V (5 * m + p)))
def LK (M : Nat) (W : Nat → Nat) (G : Nat → Option Nat) : Prop := ∀ p, p < 5 → ∀ m, G p = some m ↔ (m < M ∧ W m = p + 1)
def IV (P M H : Nat) (D W : Nat → Nat) (G : Nat → Option Nat) (S V : Nat → Nat) : Prop := P ≤ 5 ∧ M ≤ 6 ∧ H ≤ 1000 ∧ (∀ m, m < M → D m ≤ 60) ∧ (∀ m, m < M → W m ≤ P) ∧ LK M W G ∧ (∀ p, p < 5 → S p ≤ 8 * H) ∧ (∀ m, m < M → ∀ p, p < 5 → V (5 * m + p) ≤ H)
section RL
variable {N : Nat} {P M H : Nat} {D W S V : Nat → Nat} {G : Nat → Option Nat} {hr : Int32} {db gu sd sv s many : FN}
theorem LK.lt (h : LK M W G) {p m : Nat} (hp : p < 5) (hg : G p = some m) : m < M ∧ W m = p + 1 := (h p hp m).mp hg
theorem placeOf_eq (hN : 8000 < N) (hM : M ≤ 6) (hWm : ∀ m, m < M → W m ≤ 5) (lk : LK M W G) (rw3 : ∀ p, p < 5 → gu p = enc (G p)) {m : Nat} (hm : m < M) : f_X5_placeOf N (nI m) gu = some (pl (W m)) := by
  unfold f_X5_placeOf
  have hWm := hWm m hm
  obtain ⟨t, h1, h2⟩ := lp_inv (body := fun s => b_X5_placeOf_1 N (nI m) gu s) (Q := fun t => (Sum.elim (fun _ => some (-9)) (fun r_ => some r_) t : Option Int32) = some (pl (W m))) (fun i s => s = nI i ∧ ∀ p, p < i → W m ≠ p + 1) 5 0 N (by
    rintro i s hi ⟨rfl, hno⟩
    have e1 := rw3 i hi
    simp (disch := omega) only [b_X5_placeOf_1, fa_lit, nI_leI, ix_iff, ci_nI, e1]
    have n1 : ¬ 5 ≤ i := by omega
    simp only [n1, hi, if_true, if_false]
    by_cases hw : W m = i + 1
    · have e2 : G i = some m := (lk i hi m).mpr ⟨hm, hw⟩
      refine Or.inr ⟨.inr (nI i), ?_, ?_⟩
      · simp [e2, enc]
      · simp [pl, hw]
    · refine Or.inl ⟨nI (i + 1), ?_, rfl, ?_⟩
      · have e3 : ¬ enc (G i) = nI m := by
          cases hg : G i with
          | none => simp (disch := omega) only [enc, neg_ne_nI, not_false_eq_true]
          | some k =>
            have := lk.lt hi hg
            simp (disch := omega) only [enc, nI_eq]
            rintro rfl
            exact hw this.2
        simp only [e3, if_false, nI_add]
      · intro p hp
        by_cases hpi : p = i
        · rw [hpi]; exact hw
        · exact hno p (by omega)) (by
    rintro s ⟨rfl, hno⟩
    refine ⟨.inl (), rfl, ?_⟩
    have : W m = 0 := by
      rcases Nat.eq_zero_or_pos (W m) with h | h
      · exact h
      · exact absurd (show W m = (W m - 1) + 1 by omega) (hno _ (by omega))
    simp [pl, this]; rfl) (by omega) ⟨rfl, fun p hp => by omega⟩
  rw [show lp (fun s => b_X5_placeOf_1 N (nI m) gu s) N 0 = some t from h1]
  exact h2
theorem manAt_eq (hN : 8000 < N) (hM : M ≤ 6) (hW : ∀ m, m < M → W m ≤ 5) (lk : LK M W G) (rs3 : ∀ m, m < M → s (7 + m) = nI (W m)) (hmany : many 1 = nI M) {p : Nat} (hp : p < 5) : f_X7_manAt_w N (nI p) many s = some (enc (G p)) := by
  unfold f_X7_manAt_w
  obtain ⟨t, h1, h2⟩ := lp_inv (body := fun x => b_X7_manAt_w_1 N (nI p) many s x) (Q := fun t => (Sum.elim (fun _ => some (-9)) (fun r_ => some r_) t : Option Int32) = some (enc (G p))) (fun i x => x = nI i ∧ ∀ m, m < i → W m ≠ p + 1) M 0 N (by
    rintro i x hi ⟨rfl, hno⟩
    have e1 := rs3 i hi
    have e2 := hW i hi
    simp (disch := omega) only [b_X7_manAt_w_1, fa_lit, hmany, nI_leI, nI_add, ix_iff, ci_nI, e1, nI_eq]
    have n1 : ¬ M ≤ i := by omega
    have n2 : 7 + i < 48 := by omega
    simp only [n1, n2, if_true, if_false]
    by_cases hw : W i = p + 1
    · have e2 : G p = some i := (lk p hp i).mpr ⟨hi, hw⟩
      refine Or.inr ⟨.inr (nI i), ?_, ?_⟩
      · simp [hw]
      · simp [e2, enc]
    · refine Or.inl ⟨nI (i + 1), by simp [hw], rfl, ?_⟩
      intro m hm
      by_cases hpi : m = i
      · rw [hpi]; exact hw
      · exact hno m (by omega)) (by
    rintro x ⟨rfl, hno⟩
    refine ⟨.inl (), ?_, ?_⟩
    · simp (disch := omega) only [b_X7_manAt_w_1, fa_lit, hmany, nI_leI, ci_nI]
      simp
    · have : G p = none := by
        cases hg : G p with
        | none => rfl
        | some m => exact absurd (lk.lt hp hg).2 (hno m (lk.lt hp hg).1)
      rw [this]; rfl) (by omega) ⟨rfl, fun p hp => by omega⟩
  rw [show lp (fun x => b_X7_manAt_w_1 N (nI p) many s x) N 0 = some t from h1]
  exact h2
theorem mannedPosts_eq (hN : 8000 < N) (iv : IV P M H D W G S V) (rw : RW M hr db gu sd sv H D G S V) : f_X5_mannedPosts N gu = some (bs (fun p => (G p).isSome)) := by
  obtain ⟨hP, hM, hH, hD, hW, lk, hS, hV⟩ := iv
  obtain ⟨rw1, rw2, rw3, rw4, rw5⟩ := rw
  unfold f_X5_mannedPosts
  have h := lp_seq (body := fun s => b_X5_mannedPosts_1 N gu s.1 s.2) (t := bs (fun p => (G p).isSome)) (fun i => (bs (fun p => decide (p < i) && (G p).isSome), nI i)) 5 (N := N) (by
    intro i hi
    have e1 := rw3 i hi
    simp (disch := omega) only [b_X5_mannedPosts_1, fa_lit, nI_leI, ix_iff, ci_nI, e1]
    have n1 : ¬ 5 ≤ i := by omega
    simp only [n1, hi, if_true, if_false]
    cases hg : G i with
    | none =>
      simp only [enc, if_true, nI_add]
      congr 3
      refine bs_ext fun k hk => ?_
      by_cases hki : k = i
      · subst hki; simp [hg]
      · have : (k < i + 1) = (k < i) := by apply propext; omega
        simp [this]
    | some m =>
      have hm := (lk.lt hi hg).1
      simp (disch := omega) only [enc, nI_ne_neg, if_false, nI_add, bs_add]
      congr 3
      refine bs_ext fun k hk => ?_
      by_cases hki : k = i
      · subst hki; simp [hg]
      · have : (k < i + 1) = (k < i) := by apply propext; omega
        simp [this, hki]) (by
    simp (disch := omega) only [b_X5_mannedPosts_1, fa_lit, nI_leI]
    simp only [Nat.le_refl, if_true]
    congr 2) (by omega)
  have e0 : (bs (fun p => decide (p < 0) && (G p).isSome), nI 0) = ((0, 0) : Int32 × Int32) := by
    rw [show (fun p => decide (p < 0) && (G p).isSome) = fun _ => false by funext p; simp]; rfl
  rw [e0] at h
  rw [h]; rfl
theorem standing_eq (hN : 8000 < N) (iv : IV P M H D W G S V) (rs : RS M s H D W S V) (hmany : many 1 = nI M) : f_X7_standing_w N many s = some (bs (fun p => (G p).isSome)) := by
  obtain ⟨hP, hM, hH, hD, hW, lk, hS, hV⟩ := iv
  obtain ⟨rs1, rs2, rs3, rs4, rs5⟩ := rs
  unfold f_X7_standing_w
  have h := lp_seq (body := fun x => b_X7_standing_w_1 N many s x.1 x.2) (t := bs (fun p => (G p).isSome)) (fun i => (bs (fun p => anyB i (fun m => decide (W m = p + 1))), nI i)) M (N := N) (by
    intro i hi
    have e1 := rs3 i hi
    have e2 := hW i hi
    simp (disch := omega) only [b_X7_standing_w_1, fa_lit, hmany, nI_leI, nI_add, ix_iff, ci_nI, e1]
    have n1 : ¬ M ≤ i := by omega
    have n2 : 7 + i < 48 := by omega
    simp only [n1, n2, if_true, if_false]
    by_cases hw : W i ≤ 0
    · simp only [hw, if_true, bs_or0]
      congr 3
      refine bs_ext fun k hk => ?_
      have : ¬ W i = k + 1 := by omega
      simp [anyB, this]
    · simp (disch := omega) only [hw, if_false, pk_sub, bs_add]
      congr 3
      refine bs_ext fun k hk => ?_
      have : (W i = k + 1) = (k = W i - 1) := by apply propext; omega
      simp [anyB, this]) (by
    simp (disch := omega) only [b_X7_standing_w_1, fa_lit, hmany, nI_leI, ci_nI]
    simp only [Nat.le_refl, if_true]
    congr 2
    refine bs_ext fun k hk => ?_
    rw [Bool.eq_iff_iff, anyB_iff, Option.isSome_iff_exists]
    constructor
    · rintro ⟨m, h1, h2⟩; exact ⟨m, (lk k hk m).mpr ⟨h1, by simpa using h2⟩⟩
    · rintro ⟨m, h1⟩; exact ⟨m, (lk.lt hk h1).1, by simpa using (lk.lt hk h1).2⟩) (by omega)
  rw [show (bs (fun p => anyB 0 (fun m => decide (W m = p + 1))), nI 0) = ((0, 0) : Int32 × Int32) from rfl] at h
  rw [h]; rfl
theorem sleepsAt_eq (iv : IV P M H D W G S V) (rw : RW M hr db gu sd sv H D G S V) {p : Nat} (hp : p < 5) : f_X5_sleepsAt N (nI p) db gu = some (if slp D G p then nI 1 else nI 0) := by
  obtain ⟨hP, hM, hH, hD, hW, lk, hS, hV⟩ := iv
  obtain ⟨rw1, rw2, rw3, rw4, rw5⟩ := rw
  have e1 := rw3 p hp
  simp (disch := omega) only [f_X5_sleepsAt, fa_lit, ix_iff, ci_nI, e1, hp, if_true]
  cases hg : G p with
  | none => simp [enc, slp, hg]
  | some m =>
    have hm := (lk.lt hp hg).1
    have e2 := rw2 m hm
    have e3 := hD m hm
    have n1 : m < 6 := by omega
    simp (disch := omega) only [enc, nI_ne_neg, if_false, ix_iff, ci_nI, e2, n1, if_true, nI_ltI, slp, hg]
    by_cases h4 : D m < 40
    · have : ¬ 40 ≤ D m := by omega
      simp [h4, this]
    · have : 40 ≤ D m := by omega
      simp [h4, this]
theorem sleepingPosts_eq (hN : 8000 < N) (iv : IV P M H D W G S V) (rw : RW M hr db gu sd sv H D G S V) : f_X5_sleepingPosts N db gu = some (bs (slp D G)) := by
  unfold f_X5_sleepingPosts
  have h := lp_seq (body := fun s => b_X5_sleepingPosts_1 N db gu s.1 s.2) (t := bs (slp D G)) (fun i => (bs (fun p => decide (p < i) && slp D G p), nI i)) 5 (N := N) (by
    intro i hi
    have e1 := sleepsAt_eq (N := N) iv rw hi
    have n1 : ¬ 5 ≤ i := by omega
    simp (disch := omega) only [b_X5_sleepingPosts_1, fa_lit, nI_leI, n1, if_false, e1, Option.bind_some]
    cases hg : slp D G i with
    | false =>
      simp only [if_true, nI_add, Bool.false_eq_true, if_false]
      congr 3
      refine bs_ext fun k hk => ?_
      by_cases hki : k = i
      · subst hki; simp [hg]
      · have : (k < i + 1) = (k < i) := by apply propext; omega
        simp [this]
    | true =>
      simp (disch := omega) only [if_true, nI_eq, nI_add, bs_add]
      simp only [Nat.one_ne_zero, if_false]
      congr 3
      refine bs_ext fun k hk => ?_
      by_cases hki : k = i
      · subst hki; simp [hg]
      · have : (k < i + 1) = (k < i) := by apply propext; omega
        simp [this, hki]) (by
    simp (disch := omega) only [b_X5_sleepingPosts_1, fa_lit, nI_leI]
    simp only [Nat.le_refl, if_true]
    congr 2) (by omega)
  have e0 : (bs (fun p => decide (p < 0) && slp D G p), nI 0) = ((0, 0) : Int32 × Int32) := by
    rw [show (fun p => decide (p < 0) && slp D G p) = fun _ => false by funext p; simp]; rfl
  rw [e0] at h
  rw [h]; rfl
theorem isAsleep_eq (iv : IV P M H D W G S V) (rs : RS M s H D W S V) {m : Nat} (hm : m < M) : f_X7_isAsleep_w N (nI m) s = some (if 0 < W m ∧ 40 ≤ D m then nI 1 else nI 0) := by
  obtain ⟨hP, hM, hH, hD, hW, lk, hS, hV⟩ := iv
  obtain ⟨rs1, rs2, rs3, rs4, rs5⟩ := rs
  have e1 := rs3 m hm
  have e2 := hW m hm
  have e3 := rs2 m hm
  have e4 := hD m hm
  have n2 : 7 + m < 48 := by omega
  have n3 : 1 + m < 48 := by omega
  simp (disch := omega) only [f_X7_isAsleep_w, fa_lit, nI_add, ix_iff, ci_nI, e1, e3, n2, n3, if_true, nI_leI, nI_ltI]
  by_cases h1 : W m ≤ 0
  · have : ¬ 0 < W m := by omega
    simp [h1, this]
  · have h1' : 0 < W m := by omega
    by_cases h2 : D m < 40
    · have : ¬ 40 ≤ D m := by omega
      simp [h1, h2, this]
    · have : 40 ≤ D m := by omega
      simp [h1, h1', h2, this]
theorem asleep_eq (hN : 8000 < N) (iv : IV P M H D W G S V) (rs : RS M s H D W S V) (hmany : many 1 = nI M) : f_X7_asleep_w N many s = some (bs (slp D G)) := by
  obtain ⟨hP, hM, hH, hD, hW, lk, hS, hV⟩ := id iv
  obtain ⟨rs1, rs2, rs3, rs4, rs5⟩ := id rs
  unfold f_X7_asleep_w
  have h := lp_seq (body := fun x => b_X7_asleep_w_1 N many s x.1 x.2) (t := bs (slp D G)) (fun i => (bs (fun p => anyB i (fun m => decide (W m = p + 1 ∧ 40 ≤ D m))), nI i)) M (N := N) (by
    intro i hi
    have e1 := rs3 i hi
    have e2 := hW i hi
    have e3 := isAsleep_eq (N := N) iv rs hi
    have n1 : ¬ M ≤ i := by omega
    have n2 : 7 + i < 48 := by omega
    simp (disch := omega) only [b_X7_asleep_w_1, fa_lit, hmany, nI_leI, n1, if_false, e3, Option.bind_some, nI_add, ix_iff, ci_nI, e1, n2, if_true]
    by_cases hw : 0 < W i ∧ 40 ≤ D i
    · simp (disch := omega) only [hw, and_self, if_true, nI_eq, pk_sub, bs_add]
      simp only [Nat.one_ne_zero, if_false]
      congr 3
      refine bs_ext fun k hk => ?_
      have : (W i = k + 1) = (k = W i - 1) := by apply propext; omega
      simp [anyB, this, hw.2]
    · simp only [hw, if_false, if_true, bs_or0]
      congr 3
      refine bs_ext fun k hk => ?_
      have : ¬ (W i = k + 1 ∧ 40 ≤ D i) := by omega
      simp [anyB, this]) (by
    simp (disch := omega) only [b_X7_asleep_w_1, fa_lit, hmany, nI_leI, ci_nI]
    simp only [Nat.le_refl, if_true]
    congr 2
    refine bs_ext fun k hk => ?_
    rw [Bool.eq_iff_iff, anyB_iff]
    constructor
    · rintro ⟨m, h1, h2⟩
      have h2 : W m = k + 1 ∧ 40 ≤ D m := by simpa using h2
      have hg := (lk k hk m).mpr ⟨h1, h2.1⟩
      simp [slp, hg, h2.2]
    · intro h1
      cases hg : G k with
      | none => simp [slp, hg] at h1
      | some m =>
        have h3 : 40 ≤ D m := by simpa [slp, hg] using h1
        exact ⟨m, (lk.lt hk hg).1, by simpa using ⟨(lk.lt hk hg).2, h3⟩⟩) (by omega)
  rw [show (bs (fun p => anyB 0 (fun m => decide (W m = p + 1 ∧ 40 ≤ D m))), nI 0) = ((0, 0) : Int32 × Int32) from rfl] at h
  rw [h]; rfl
end RL
