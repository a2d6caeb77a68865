/-! ===== pure side: a relief, side by side ===== -/
section RV
variable {N : Nat} {P M ON ST H : Nat} {CO : Nat → Nat} {D W S V : Nat → Nat} {G : Nat → Option Nat} {hr dposts dmen don dstove : Int32} {db gu sd sv s dsees dcold many sees cold : FN}
theorem fresh_two (hN : 8000 < N) (hM : M ≤ 6) (hW : ∀ m, m < M → W m ≤ 5) (lk : LK M W G) (hgu : ∀ p, p < 5 → gu p = enc (G p)) (hdb : ∀ m, m < M → db m = nI (D m)) (hD : ∀ m, m < M → D m ≤ 60) (rs2 : ∀ m, m < M → s (1 + m) = nI (D m)) (rs3 : ∀ m, m < M → s (7 + m) = nI (W m)) (hmany : many 1 = nI M) (came : Int32) :
    ∃ B : Option Nat, f_X5_freshestMan N came (nI M) db gu = some (enc B) ∧ f_X7_nextMan_w N came many s = some (enc B) ∧ ∀ m, B = some m → m < M ∧ W m = 0 := by
  obtain ⟨t, t', h1, h2, B, q1, q2, q3⟩ := lp_two (b1 := fun x : Int32 × Int32 => b_X5_freshestMan_1 N came (nI M) db gu x.1 x.2) (b2 := fun x : Int32 × Int32 => b_X7_nextMan_w_1 N came many s x.1 x.2)
    (Q := fun t t' => ∃ B : Option Nat, t = enc B ∧ t' = enc B ∧ ∀ m, B = some m → m < M ∧ W m = 0)
    M (fun i x y => x.2 = nI i ∧ y.2 = nI i ∧ ∃ B : Option Nat, x.1 = enc B ∧ y.1 = enc B ∧ ∀ m, B = some m → m < M ∧ W m = 0) (-9, 0) (-9, 0) N (by
      rintro i ⟨x1, x2⟩ ⟨y1, y2⟩ hi ⟨hx2, hy2, B, hx1, hy1, hB⟩
      dsimp only at hx1 hx2 hy1 hy2 ⊢
      subst hx1 hx2 hy1 hy2
      have n1 : ¬ M ≤ i := by omega
      have n2 : i < 6 := by omega
      have n3 : 7 + i < 48 := by omega
      have n4 : 1 + i < 48 := by omega
      have hWi := hW i hi
      have e1 := placeOf_eq (N := N) hN hM hW lk hgu hi
      refine Or.inl ?_
      simp (disch := omega) only [b_X5_freshestMan_1, b_X7_nextMan_w_1, fa_lit, hmany, nI_leI, n1, ↓reduceIte, e1, Option.bind_some, nI_add, ix_iff, ci_nI, n2, n3, n4, ↓reduceIte, rs3 i hi, rs2 i hi, hdb i hi, nI_eq]
      by_cases hw : W i = 0
      · by_cases hc : ((came >>> (nI i &&& nI 31)) &&& nI 1) = nI 0
        · simp only [hw, hc, pl, ↓reduceIte]
          cases B with
          | none =>
            simp only [enc, ↓reduceIte]
            exact ⟨_, _, rfl, rfl, rfl, rfl, some i, rfl, rfl, fun m hm => by cases hm; exact ⟨hi, hw⟩⟩
          | some b =>
            obtain ⟨hb1, hb2⟩ := hB b rfl
            have d1 := hD b hb1
            have d2 := hD i hi
            have n5 : b < 6 := by omega
            have n6 : 1 + b < 48 := by omega
            simp (disch := omega) only [enc, nI_ne_neg, ↓reduceIte, nI_add, ix_iff, ci_nI, n5, n6, ↓reduceIte, hdb b hb1, rs2 b hb1, nI_leI]
            by_cases hle : D b ≤ D i
            · simp only [hle, ↓reduceIte]
              exact ⟨_, _, rfl, rfl, rfl, rfl, some b, rfl, rfl, hB⟩
            · simp only [hle, ↓reduceIte]
              exact ⟨_, _, rfl, rfl, rfl, rfl, some i, rfl, rfl, fun m hm => by cases hm; exact ⟨hi, hw⟩⟩
        · simp only [hw, hc, ↓reduceIte]
          exact ⟨_, _, rfl, rfl, rfl, rfl, B, rfl, rfl, hB⟩
      · simp (disch := omega) only [hw, pl, ↓reduceIte, nI_ne_neg]
        refine ⟨(enc B, nI (i + 1)), (enc B, nI (i + 1)), ?_, rfl, rfl, rfl, B, rfl, rfl, hB⟩
        split <;> rfl) (by
      rintro ⟨x1, x2⟩ ⟨y1, y2⟩ ⟨hx2, hy2, B, hx1, hy1, hB⟩
      dsimp only at hx1 hx2 hy1 hy2 ⊢
      subst hx1 hx2 hy1 hy2
      simp (disch := omega) only [b_X5_freshestMan_1, b_X7_nextMan_w_1, fa_lit, hmany, nI_leI, ci_nI, Nat.le_refl, ↓reduceIte]
      exact ⟨_, _, rfl, rfl, B, rfl, rfl, hB⟩) (by omega) ⟨rfl, rfl, none, rfl, rfl, fun m hm => by cases hm⟩
  subst q1 q2
  refine ⟨B, ?_, ?_, q3⟩
  · unfold f_X5_freshestMan
    rw [show lp (fun s => b_X5_freshestMan_1 N came (nI M) db gu s.1 s.2) N (-9, 0) = some (enc B) from h1]; rfl
  · unfold f_X7_nextMan_w
    rw [show lp (fun x => b_X7_nextMan_w_1 N came many s x.1 x.2) N (-9, 0) = some (enc B) from h2]; rfl
/-- the post at which the round is behind k steps -/
def posk (P fr way k : Nat) : Nat := if way = 1 then (fr + k) % P else (fr + (P - k)) % P
theorem posk_lt {fr way k : Nat} (hP : 0 < P) : posk P fr way k < P := by
  unfold posk; split <;> exact Nat.mod_lt _ hP
theorem nextPost_eq {fr way k : Nat} (hP : P ≤ 5) (hk : k < P) (hfr : fr < P) (hway : way ≤ 1) : f_X0_nextPost N (nI (posk P fr way k)) (nI way) (nI P) = some (nI (posk P fr way (k + 1))) := by
  have hp := posk_lt (P := P) (fr := fr) (way := way) (k := k) (by omega)
  simp (disch := omega) only [f_X0_nextPost, fa_lit, nI_add, nI_leI, nI_eq]
  have hP' : P = 1 ∨ P = 2 ∨ P = 3 ∨ P = 4 ∨ P = 5 := by omega
  by_cases hw : way = 1
  · have e1 : posk P fr way k = (fr + k) % P := by simp [posk, hw]
    have e2 : posk P fr way (k + 1) = (fr + (k + 1)) % P := by simp [posk, hw]
    rw [e1] at hp ⊢
    rw [e2]
    simp only [hw, ↓reduceIte]
    by_cases h1 : P ≤ (fr + k) % P + 1
    · simp only [h1, ↓reduceIte]
      have : (fr + (k + 1)) % P = 0 := by rcases hP' with rfl | rfl | rfl | rfl | rfl <;> omega
      rw [this]
    · simp only [h1, ↓reduceIte]
      have : (fr + (k + 1)) % P = (fr + k) % P + 1 := by rcases hP' with rfl | rfl | rfl | rfl | rfl <;> omega
      rw [this]
  · have e1 : posk P fr way k = (fr + (P - k)) % P := by simp [posk, hw]
    have e2 : posk P fr way (k + 1) = (fr + (P - (k + 1))) % P := by simp [posk, hw]
    rw [e1] at hp ⊢
    rw [e2]
    simp only [hw, ↓reduceIte]
    by_cases h1 : (fr + (P - k)) % P ≤ 0
    · simp (disch := omega) only [h1, ↓reduceIte, pk_sub]
      have : (fr + (P - (k + 1))) % P = P - 1 := by rcases hP' with rfl | rfl | rfl | rfl | rfl <;> omega
      rw [this]
    · simp (disch := omega) only [h1, ↓reduceIte, pk_sub]
      have : (fr + (P - (k + 1))) % P = (fr + (P - k)) % P - 1 := by rcases hP' with rfl | rfl | rfl | rfl | rfl <;> omega
      rw [this]
theorem lk_swap (lk : LK M W G) {q wz t : Nat} (hq : q < 5) (hg : G q = some wz) (ht : t < M) (hwt : W t = 0) : LK M (updN (updN W wz 0) t (q + 1)) (fun p => if p = q then some t else G p) := by
  obtain ⟨g1, g2⟩ := lk.lt hq hg
  have hne : wz ≠ t := by intro h; subst h; omega
  intro p hp m
  by_cases hpq : p = q
  · subst hpq
    simp only [↓reduceIte, Option.some.injEq]
    constructor
    · rintro rfl; exact ⟨ht, updN_same⟩
    · rintro ⟨h1, h2⟩
      by_cases hmt : m = t
      · exact hmt.symm
      · rw [updN_ne hmt] at h2
        by_cases hmw : m = wz
        · subst hmw; rw [updN_same] at h2; omega
        · rw [updN_ne hmw] at h2
          have := (lk p hp m).mpr ⟨h1, h2⟩
          rw [hg] at this
          exact absurd (Option.some.inj this).symm hmw
  · simp only [hpq, ↓reduceIte]
    by_cases hmt : m = t
    · subst hmt
      rw [updN_same]
      constructor
      · intro h; have := (lk.lt hp h).2; omega
      · rintro ⟨_, h⟩; omega
    · rw [updN_ne hmt]
      by_cases hmw : m = wz
      · subst hmw
        rw [updN_same]
        constructor
        · intro h; have := (lk.lt hp h).2; omega
        · rintro ⟨_, h⟩; omega
      · rw [updN_ne hmw]; exact lk p hp m
/-- what a step of the round does -/
def rlv (ON : Nat) (S : Nat → Nat) (G : Nat → Option Nat) (q : Nat) (B : Option Nat) : Option (Nat × Nat) :=
  match G q, B with
  | some wz, some t => if S q < ON then none else some (wz, t)
  | _, _ => none
set_option maxHeartbeats 1000000 in
theorem relieved_body {fr way k n : Nat} {came : Int32} {B : Option Nat} (hN : 8000 < N) (hP : P ≤ 5) (hM : M ≤ 6) (hk : k < P) (hfr : fr < P) (hway : way ≤ 1) (hON : ON ≤ 9) (hH : H ≤ 1000) (hW : ∀ m, m < M → W m ≤ P) (lk : LK M W G) (rs3 : ∀ m, m < M → s (7 + m) = nI (W m)) (rs4 : ∀ p, p < 5 → s (13 + p) = nI (S p)) (hS : ∀ p, p < 5 → S p ≤ 8 * H) (dm0 : many 0 = nI P) (dm1 : many 1 = nI M) (dm2 : many 2 = nI ON) (hB : f_X7_nextMan_w N came many s = some (enc B)) (hBm : ∀ m, B = some m → m < M ∧ W m = 0) :
    b_X7_relieved_w_1 N (nI fr) (nI way) many (nI n) came (nI k) s = some (.inl (match rlv ON S G (posk P fr way k) B with
      | none => (nI n, came, nI (k + 1), s)
      | some (wz, t) => (nI (n + 1), came ||| (nI 1 <<< (nI wz &&& nI 31)), nI (k + 1), upd (upd (upd s (7 + wz) (nI 0)) (7 + t) (nI (posk P fr way k + 1))) (13 + posk P fr way k) (nI 0)))) := by
  have hp := posk_lt (P := P) (fr := fr) (way := way) (k := k) (by omega)
  have n1 : ¬ P ≤ k := by omega
  have n2 : ¬ P = 0 := by omega
  have hq5 : posk P fr way k < 5 := by omega
  have e1 := manAt_eq (N := N) (s := s) (many := many) hN hM (fun m hm => Nat.le_trans (hW m hm) hP) lk rs3 dm1 hq5
  have e2 := rs4 _ hq5
  have b2 := hS _ hq5
  have n3 : 13 + posk P fr way k < 48 := by omega
  by_cases hw : way = 1
  · have e3 : (fr + k) % P = posk P fr way k := by simp [posk, hw]
    have hw' : (way = 1) = True := eq_true hw
    simp (disch := omega) only [b_X7_relieved_w_1, fa_lit, dm0, dm2, nI_leI, ci_nI, n1, ↓reduceIte, nI_eq, hw', n2, not_false_eq_true, nI_add, irem_nI, e3, e1, hB, Option.bind_some, ix_iff, e2, n3, nI_ltI]
    cases hg : G (posk P fr way k) with
    | none => simp only [enc, ↓reduceIte, rlv, hg]
    | some wz =>
      have hwz := (lk.lt hq5 hg).1
      have n4 : 7 + wz < 48 := by omega
      simp (disch := omega) only [enc, nI_ne_neg, ↓reduceIte, rlv, hg]
      by_cases hs : S (posk P fr way k) < ON
      · simp only [hs, ↓reduceIte]
        cases B <;> rfl
      · simp only [hs, ↓reduceIte]
        cases B with
        | none => simp only [enc, ↓reduceIte]
        | some t =>
          have ht := (hBm t rfl).1
          have n5 : 7 + t < 48 := by omega
          simp (disch := omega) only [enc, nI_ne_neg, ↓reduceIte, nI_add, ix_iff, ci_nI, n4, n5]
  · have e3 : (fr + (P - k)) % P = posk P fr way k := by simp [posk, hw]
    have hw' : (way = 1) = False := eq_false hw
    simp (disch := omega) only [b_X7_relieved_w_1, fa_lit, dm0, dm2, nI_leI, ci_nI, n1, ↓reduceIte, nI_eq, hw', n2, not_false_eq_true, nI_add, pk_sub, irem_nI, e3, e1, hB, Option.bind_some, ix_iff, e2, n3, nI_ltI]
    cases hg : G (posk P fr way k) with
    | none => simp only [enc, ↓reduceIte, rlv, hg]
    | some wz =>
      have hwz := (lk.lt hq5 hg).1
      have n4 : 7 + wz < 48 := by omega
      simp (disch := omega) only [enc, nI_ne_neg, ↓reduceIte, rlv, hg]
      by_cases hs : S (posk P fr way k) < ON
      · simp only [hs, ↓reduceIte]
        cases B <;> rfl
      · simp only [hs, ↓reduceIte]
        cases B with
        | none => simp only [enc, ↓reduceIte]
        | some t =>
          have ht := (hBm t rfl).1
          have n5 : 7 + t < 48 := by omega
          simp (disch := omega) only [enc, nI_ne_neg, ↓reduceIte, nI_add, ix_iff, ci_nI, n4, n5]
set_option maxHeartbeats 1000000 in
theorem bringRelief_body {fr way k n : Nat} {came : Int32} {B : Option Nat} (hP : P ≤ 5) (hM : M ≤ 6) (hk : k < P) (hfr : fr < P) (hway : way ≤ 1) (hON : ON ≤ 9) (hH : H ≤ 1000) (lk : LK M W G) (hgu : ∀ p, p < 5 → gu p = enc (G p)) (rw4 : ∀ p, p < 5 → sd p = nI (S p)) (hS : ∀ p, p < 5 → S p ≤ 8 * H) (hB : f_X5_freshestMan N came (nI M) db gu = some (enc B)) (hBm : ∀ m, B = some m → m < M ∧ W m = 0) :
    b_X5_bringRelief_1 N (nI way) (nI P) (nI M) (nI ON) db (nI n) came (nI (posk P fr way k)) (nI k) gu sd = some (.inl (match rlv ON S G (posk P fr way k) B with
      | none => (nI n, came, nI (posk P fr way (k + 1)), nI (k + 1), gu, sd)
      | some (wz, t) => (nI (n + 1), came ||| (nI 1 <<< (nI wz &&& nI 31)), nI (posk P fr way (k + 1)), nI (k + 1), upd gu (posk P fr way k) (nI t), upd sd (posk P fr way k) (nI 0)))) := by
  have hp := posk_lt (P := P) (fr := fr) (way := way) (k := k) (by omega)
  have n1 : ¬ P ≤ k := by omega
  have hq5 : posk P fr way k < 5 := by omega
  have e1 := hgu _ hq5
  have e2 := rw4 _ hq5
  have b2 := hS _ hq5
  have e3 := nextPost_eq (N := N) hP hk hfr hway
  simp (disch := omega) only [b_X5_bringRelief_1, fa_lit, nI_leI, n1, ↓reduceIte, ix_iff, ci_nI, hq5, ↓reduceIte, e1, e2, e3, Option.bind_some, nI_ltI, hB, nI_add]
  cases hg : G (posk P fr way k) with
  | none => simp only [enc, ↓reduceIte, rlv, hg]
  | some wz =>
    have hwz := (lk.lt hq5 hg).1
    simp (disch := omega) only [enc, nI_ne_neg, ↓reduceIte, rlv, hg]
    by_cases hs : S (posk P fr way k) < ON
    · simp only [hs, ↓reduceIte]
      cases B <;> rfl
    · simp only [hs, ↓reduceIte]
      cases B with
      | none => simp only [enc, ↓reduceIte]
      | some t =>
        have ht := (hBm t rfl).1
        simp (disch := omega) only [enc, nI_ne_neg, ↓reduceIte, f_X5_place, ix_iff, ci_nI, hq5, ↓reduceIte, Option.bind_some, fa_lit]
theorem relief_two {fr way : Nat} (hN : 8000 < N) (dr : DR P M ON ST CO dposts dsees dcold dmen don dstove many sees cold) (iv : IV P M H D W G S V) (rw : RW M hr db gu sd sv H D G S V) (rs : RS M s H D W S V) (hfr : P = 0 ∨ fr < P) (hway : way ≤ 1) :
    ∃ (n : Nat) (gu' sd' s' : FN) (W' S' : Nat → Nat) (G' : Nat → Option Nat), f_X5_bringRelief N (nI fr) (nI way) dposts dmen don db gu sd = some (nI n, gu', sd') ∧ f_X7_relieved_w N (nI fr) (nI way) many s = some (nI n, s') ∧ RW M hr db gu' sd' sv H D G' S' V ∧ RS M s' H D W' S' V ∧ IV P M H D W' G' S' V := by
  obtain ⟨⟨dr1, dr2, dr3, dr4⟩, ⟨dm0, dm1, dm2, dm3⟩, ⟨dP, dM, dON, dST⟩, dco, dse⟩ := dr
  subst dr1 dr2 dr3 dr4
  obtain ⟨t, t', h1, h2, n, W', S', G', q1, q2, q3, q4, q5⟩ := lp_two (b1 := fun x : Int32 × Int32 × Int32 × Int32 × FN × FN => b_X5_bringRelief_1 N (nI way) (nI P) (nI M) (nI ON) db x.1 x.2.1 x.2.2.1 x.2.2.2.1 x.2.2.2.2.1 x.2.2.2.2.2) (b2 := fun x : Int32 × Int32 × Int32 × FN => b_X7_relieved_w_1 N (nI fr) (nI way) many x.1 x.2.1 x.2.2.1 x.2.2.2)
    (Q := fun t t' => ∃ (n : Nat) (W' S' : Nat → Nat) (G' : Nat → Option Nat), t.1 = nI n ∧ t'.1 = nI n ∧ RW M hr db t.2.1 t.2.2 sv H D G' S' V ∧ RS M t'.2 H D W' S' V ∧ IV P M H D W' G' S' V)
    P (fun k x y => ∃ (n : Nat) (came : Int32) (W' S' : Nat → Nat) (G' : Nat → Option Nat), x.1 = nI n ∧ y.1 = nI n ∧ x.2.1 = came ∧ y.2.1 = came ∧ (P = 0 ∨ x.2.2.1 = nI (posk P fr way k)) ∧ x.2.2.2.1 = nI k ∧ y.2.2.1 = nI k ∧ RW M hr db x.2.2.2.2.1 x.2.2.2.2.2 sv H D G' S' V ∧ RS M y.2.2.2 H D W' S' V ∧ IV P M H D W' G' S' V)
    (0, 0, nI fr, 0, gu, sd) (0, 0, 0, s) N (by
      rintro k ⟨x1, x2, x3, x4, x5, x6⟩ ⟨y1, y2, y3, y4⟩ hk ⟨n, came, W1, S1, G1, a1, a2, a3, a4, a5, a6, a7, a8, a9, a10⟩
      dsimp only at a1 a2 a3 a4 a5 a6 a7 a8 a9 ⊢
      have a5 := a5.resolve_left (by omega)
      have hfr := hfr.resolve_left (by omega)
      rw [a1, a2, a3, a4, a5, a6, a7]
      obtain ⟨hP, hM, hH, hD, hW, lk, hS, hV⟩ := id a10
      obtain ⟨rw1, rw2, rw3, rw4, rw5⟩ := id a8
      obtain ⟨rs1, rs2, rs3, rs4, rs5⟩ := id a9
      obtain ⟨B, hB1, hB2, hB3⟩ := fresh_two (N := N) (many := many) hN hM (fun m hm => Nat.le_trans (hW m hm) hP) lk rw3 rw2 hD rs2 rs3 dm1 came
      have hp := posk_lt (P := P) (fr := fr) (way := way) (k := k) (by omega)
      refine Or.inl ⟨_, _, bringRelief_body (S := S1) (G := G1) (W := W1) (H := H) hP hM hk hfr hway dON hH lk rw3 rw4 hS hB1 hB3, relieved_body (S := S1) (G := G1) (W := W1) (H := H) hN hP hM hk hfr hway dON hH hW lk rs3 rs4 hS dm0 dm1 dm2 hB2 hB3, ?_⟩
      cases hr1 : rlv ON S1 G1 (posk P fr way k) B with
      | none => exact ⟨n, came, W1, S1, G1, rfl, rfl, rfl, rfl, Or.inr rfl, rfl, rfl, a8, a9, a10⟩
      | some wt =>
        obtain ⟨wz, t⟩ := wt
        dsimp only
        have hq5 : posk P fr way k < 5 := by omega
        have hgw : G1 (posk P fr way k) = some wz ∧ B = some t := by
          unfold rlv at hr1
          cases hg : G1 (posk P fr way k) with
          | none => rw [hg] at hr1; cases hr1
          | some a =>
            cases B with
            | none => rw [hg] at hr1; cases hr1
            | some b =>
              rw [hg] at hr1
              dsimp only at hr1
              split at hr1
              · cases hr1
              · cases hr1; exact ⟨rfl, rfl⟩
        obtain ⟨hg, rfl⟩ := hgw
        obtain ⟨ht1, ht2⟩ := hB3 t rfl
        obtain ⟨hw1, hw2⟩ := lk.lt hq5 hg
        have hne : wz ≠ t := by intro h; subst h; omega
        refine ⟨n + 1, _, updN (updN W1 wz 0) t (posk P fr way k + 1), updN S1 (posk P fr way k) 0, fun p => if p = posk P fr way k then some t else G1 p, rfl, rfl, rfl, rfl, Or.inr rfl, rfl, rfl, ⟨rw1, rw2, fun p hp => ?_, fun p hp => ?_, rw5⟩, ⟨?_, fun m hm => ?_, fun m hm => ?_, fun p hp => ?_, fun m hm p hp => ?_⟩, ⟨hP, hM, hH, hD, fun m hm => ?_, lk_swap lk hq5 hg ht1 ht2, fun p hp => ?_, hV⟩⟩
        · by_cases e : p = posk P fr way k
          · subst e; rw [upd_same]; simp [enc]
          · rw [upd_ne e, rw3 p hp]; simp [e]
        · by_cases e : p = posk P fr way k
          · subst e; rw [upd_same, updN_same]
          · rw [upd_ne e, updN_ne e, rw4 p hp]
        · rw [upd_ne (by omega), upd_ne (by omega), upd_ne (by omega), rs1]
        · rw [upd_ne (by omega), upd_ne (by omega), upd_ne (by omega), rs2 m hm]
        · rw [upd_ne (by omega)]
          by_cases e : m = t
          · subst e; rw [upd_same, updN_same]
          · rw [upd_ne (by omega), updN_ne e]
            by_cases e2 : m = wz
            · subst e2; rw [upd_same, updN_same]
            · rw [upd_ne (by omega), updN_ne e2, rs3 m hm]
        · by_cases e : p = posk P fr way k
          · subst e; rw [upd_same, updN_same]
          · rw [upd_ne (by omega), upd_ne (by omega), upd_ne (by omega), updN_ne e, rs4 p hp]
        · rw [upd_ne (by omega), upd_ne (by omega), upd_ne (by omega), rs5 m hm p hp]
        · by_cases e : m = t
          · subst e; rw [updN_same]; omega
          · rw [updN_ne e]
            by_cases e2 : m = wz
            · subst e2; rw [updN_same]; omega
            · rw [updN_ne e2]; exact hW m hm
        · by_cases e : p = posk P fr way k
          · subst e; rw [updN_same]; omega
          · rw [updN_ne e]; exact hS p hp) (by
      rintro ⟨x1, x2, x3, x4, x5, x6⟩ ⟨y1, y2, y3, y4⟩ ⟨n, came, W1, S1, G1, a1, a2, a3, a4, a5, a6, a7, a8, a9, a10⟩
      dsimp only at a1 a2 a3 a4 a5 a6 a7 a8 a9 ⊢
      rw [a1, a2, a6, a7]
      refine ⟨(nI n, x5, x6), (nI n, y4), ?_, ?_, n, W1, S1, G1, rfl, rfl, a8, a9, a10⟩
      · simp (disch := omega) only [b_X5_bringRelief_1, nI_leI, Nat.le_refl, ↓reduceIte]
      · simp (disch := omega) only [b_X7_relieved_w_1, fa_lit, dm0, nI_leI, ci_nI, Nat.le_refl, ↓reduceIte]) (by omega)
    ⟨0, 0, W, S, G, rfl, rfl, rfl, rfl, (by
      rcases hfr with h | h
      · exact Or.inl h
      · refine Or.inr ?_
        have : posk P fr way 0 = fr := by
          unfold posk
          split
          · exact Nat.mod_eq_of_lt (by omega)
          · rw [Nat.sub_zero, Nat.add_mod_right]; exact Nat.mod_eq_of_lt h
        rw [this]), rfl, rfl, rw, rs, iv⟩
  refine ⟨n, t.2.1, t.2.2, t'.2, W', S', G', ?_, ?_, q3, q4, q5⟩
  · unfold f_X5_bringRelief
    rw [show lp (fun s => b_X5_bringRelief_1 N (nI way) (nI P) (nI M) (nI ON) db s.1 s.2.1 s.2.2.1 s.2.2.2.1 s.2.2.2.2.1 s.2.2.2.2.2) N (0, 0, nI fr, 0, gu, sd) = some t from h1]
    simp only [Option.bind_some, q1]
  · unfold f_X7_relieved_w
    rw [show lp (fun x => b_X7_relieved_w_1 N (nI fr) (nI way) many x.1 x.2.1 x.2.2.1 x.2.2.2) N (0, 0, 0, s) = some t' from h2]
    simp only [Option.bind_some, q2]
end RV
