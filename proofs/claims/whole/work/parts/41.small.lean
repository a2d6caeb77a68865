/-! ===== pure side: fair, rate, and the small calls ===== -/
section SM
variable {N : Nat} {P M ON ST H : Nat} {CO : Nat → Nat} {D W S V : Nat → Nat} {G : Nat → Option Nat} {hr dposts dmen don dstove th : Int32} {db gu sd sv s dsees dcold many sees cold undos : FN} {next known um : Int32} {pw : Nat → WtT}
def cdS (P : Nat) (CO V : Nat → Nat) (m : Nat) : Nat := sumN P (fun p => V (5 * m + p) * CO p)
theorem cdS_le (hP : P ≤ 5) (hco : ∀ p, p < P → CO p ≤ 9) (hV : ∀ m, m < M → ∀ p, p < 5 → V (5 * m + p) ≤ H) (hH : H ≤ 200) {m : Nat} (hm : m < M) : ∀ i, i ≤ P → sumN i (fun p => V (5 * m + p) * CO p) ≤ 9000 := by
  intro i hi
  have h := sum_le (f := fun p => V (5 * m + p) * CO p) (c := 1800) (n := i) (fun k hk => by
    have h1 := hV m hm k (by omega)
    have h2 := hco k (by omega)
    have h3 : V (5 * m + k) * CO k ≤ 200 * 9 := Nat.mul_le_mul (by omega) h2
    omega)
  omega
theorem coldOf_eq (hN : 8000 < N) (hP : P ≤ 5) (hM : M ≤ 6) (hco : ∀ p, p < P → dcold p = nI (CO p) ∧ CO p ≤ 9) (h5 : ∀ m, m < M → ∀ p, p < 5 → sv (5 * m + p) = nI (V (5 * m + p))) {m : Nat} (hm : m < M) : f_X5_coldOf N (nI m) (nI P) dcold sv = some (nI (cdS P CO V m)) := by
  unfold f_X5_coldOf
  have h := lp_seq (body := fun x : Int32 × Int32 => b_X5_coldOf_1 N (nI m) (nI P) dcold sv x.1 x.2) (t := nI (cdS P CO V m)) (fun i => (nI (sumN i (fun p => V (5 * m + p) * CO p)), nI i)) P (N := N) (by
    intro i hi
    have n1 : ¬ P ≤ i := by omega
    have n2 : m * 5 + i < 30 := by omega
    have n3 : i < 5 := by omega
    have e1 : sv (m * 5 + i) = nI (V (5 * m + i)) := by rw [show m * 5 + i = 5 * m + i by omega]; exact h5 m hm i n3
    simp (disch := omega) only [b_X5_coldOf_1, fa_lit, nI_leI, n1, ↓reduceIte, pk_mul, nI_add, ix_iff, ci_nI, n2, n3, e1, (hco i hi).1]
    rfl) (by simp (disch := omega) only [b_X5_coldOf_1, nI_leI, Nat.le_refl, ↓reduceIte]; rfl) (by omega)
  rw [show lp (fun x : Int32 × Int32 => b_X5_coldOf_1 N (nI m) (nI P) dcold sv x.1 x.2) N (0, 0) = _ from h]; rfl
theorem fair2_eq (hN : 8000 < N) (hP : P ≤ 5) (hM : M ≤ 6) (dm0 : many 0 = nI P) (hco : ∀ p, p < P → cold p = nI (CO p) ∧ CO p ≤ 9) (h5 : ∀ m, m < M → ∀ p, p < 5 → s (18 + 5 * m + p) = nI (V (5 * m + p))) {m : Nat} (hm : m < M) (p1 p2 : Int32) : lp (fun x : Int32 × Int32 => b_X7_fair_4 N p1 p2 (nI m) many cold s x.1 x.2) N (0, 0) = some (nI (cdS P CO V m)) := by
  exact lp_seq (body := fun x : Int32 × Int32 => b_X7_fair_4 N p1 p2 (nI m) many cold s x.1 x.2) (t := nI (cdS P CO V m)) (fun i => (nI (sumN i (fun p => V (5 * m + p) * CO p)), nI i)) P (N := N) (by
    intro i hi
    have n1 : ¬ P ≤ i := by omega
    have n2 : 18 + 5 * m + i < 48 := by omega
    have n3 : i < 10 := by omega
    simp (disch := omega) only [b_X7_fair_4, fa_lit, dm0, nI_leI, n1, ↓reduceIte, pk_mul, nI_add, ix_iff, ci_nI, n2, n3, h5 m hm i (by omega), (hco i hi).1]
    rw [Nat.mul_comm (CO i)]
    rfl) (by simp (disch := omega) only [b_X7_fair_4, fa_lit, dm0, ci_nI, nI_leI, Nat.le_refl, ↓reduceIte]; rfl) (by omega)
set_option maxHeartbeats 1000000 in
theorem c_fair (hN : 8000 < N) (dr : DR P M ON ST CO dposts dsees dcold dmen don dstove many sees cold) (ws : WS P M hr db gu sd sv s) : ∃ v, f_X6_fair N dposts dcold dmen sv = some v ∧ f_X7_fair N th many cold s = some (v, 0) := by
  obtain ⟨⟨e1, e2, e3, e4⟩, ⟨dm0, dm1, dm2, dm3⟩, ⟨dP, dM, dON, dST⟩, dco, dse⟩ := id dr
  obtain ⟨H, D, W, G, S, V, rw, rs, iv, hh⟩ := ws
  obtain ⟨hP, hM, hH, hD, hW, lk, hS, hV⟩ := iv
  unfold f_X6_fair f_X7_fair
  have em : many (ci 1) = nI M := dm1
  rw [e1, e2, em]
  by_cases h0 : M = 0
  · subst h0
    rw [if_pos (show nI 0 = (0 : Int32) from rfl), if_pos (show nI 0 = (0 : Int32) from rfl)]
    obtain ⟨N, rfl⟩ : ∃ N', N = N' + 1 := ⟨N - 1, by omega⟩
    rw [lp_inr (t := ((0 : Int32), (0 : Int32)))]
    · exact ⟨0, rfl, rfl⟩
    · show b_X7_fair_1 (N + 1) many cold s 0 0 0 = _
      unfold b_X7_fair_1
      rw [em, if_pos (by decide)]
  · have z0 : ¬ nI M = (0 : Int32) := nI_ne0 (by omega) (by omega)
    rw [if_neg z0, if_neg z0]
    have hc : ∀ m, m < M → f_X5_coldOf N (nI m) (nI P) dcold sv = some (nI (cdS P CO V m)) := fun m hm => coldOf_eq hN hP hM (fun p hp => ⟨(dco p hp).1, (dco p hp).2.2⟩) rw.2.2.2.2 hm
    have hf : ∀ m, m < M → ∀ p1 p2, lp (fun x : Int32 × Int32 => b_X7_fair_4 N p1 p2 (nI m) many cold s x.1 x.2) N (0, 0) = some (nI (cdS P CO V m)) := fun m hm p1 p2 => fair2_eq hN hP hM dm0 (fun p hp => (dco p hp).2) rs.2.2.2.2 hm p1 p2
    have hb : ∀ m, m < M → cdS P CO V m ≤ 9000 := fun m hm => cdS_le hP (fun p hp => (dco p hp).2.2) hV hh hm P (Nat.le_refl _)
    have b0 := hb 0 (by omega)
    rw [show f_X5_coldOf N 0 (nI P) dcold sv = _ from hc 0 (by omega), Option.bind_some]
    obtain ⟨t, t', h1, h2, q1⟩ := lp_two (b1 := fun x : Int32 × Int32 × Int32 => b_X6_fair_1 N (nI P) dcold (nI M) sv x.1 x.2.1 x.2.2) (b2 := fun x : Int32 × Int32 × Int32 => b_X7_fair_3 N many cold s x.1 x.2.1 x.2.2) (Q := fun t t' => t.2 - t.1 = t'.1 - t'.2) (M - 1)
      (fun i x y => x.2.2 = nI (i + 1) ∧ y.2.2 = nI (i + 1) ∧ ∃ lo hi, lo ≤ 9000 ∧ hi ≤ 9000 ∧ x.1 = nI lo ∧ x.2.1 = nI hi ∧ y.1 = nI hi ∧ y.2.1 = nI lo) (nI (cdS P CO V 0), nI (cdS P CO V 0), 1) (nI (cdS P CO V 0), nI (cdS P CO V 0), 1) (N - 1) (by
        rintro i ⟨x1, x2, x3⟩ ⟨y1, y2, y3⟩ hi ⟨g1, g2, lo, hi', l1, l2, g3, g4, g5, g6⟩
        dsimp only at g1 g2 g3 g4 g5 g6 ⊢
        subst g1 g2 g3 g4 g5 g6
        have n1 : ¬ M ≤ i + 1 := by omega
        have bi := hb (i + 1) (by omega)
        refine Or.inl ?_
        have hfi := hf (i + 1) (by omega) (nI hi') (nI lo)
        simp (disch := omega) only [b_X6_fair_1, b_X7_fair_3, dm1, fa_lit, ci_nI, nI_leI, nI_ltI, n1, ↓reduceIte, hc (i + 1) (by omega), ob, nI_add]
        rw [show lp (fun x : Int32 × Int32 => b_X7_fair_4 N (nI hi') (nI lo) (nI (i + 1)) many cold s x.1 x.2) N (nI 0, nI 0) = _ from hfi]
        simp (disch := omega) only [ob, nI_leI]
        generalize cdS P CO V (i + 1) = c at bi ⊢
        by_cases c1 : c ≤ hi'
        · by_cases c2 : lo ≤ c
          · have c1' : ¬ hi' < c := by omega
            by_cases c3 : lo < c
            · simp only [c1, c2, c1', c3, ↓reduceIte]
              exact ⟨_, _, rfl, rfl, rfl, rfl, lo, hi', l1, l2, rfl, rfl, rfl, rfl⟩
            · have : c = lo := by omega
              subst this
              simp only [c1, c2, c1', c3, ↓reduceIte]
              exact ⟨_, _, rfl, rfl, rfl, rfl, c, hi', l1, l2, rfl, rfl, rfl, rfl⟩
          · have c1' : ¬ hi' < c := by omega
            have c3 : ¬ lo < c := by omega
            simp only [c1, c2, c1', c3, ↓reduceIte]
            exact ⟨_, _, rfl, rfl, rfl, rfl, c, hi', bi, l2, rfl, rfl, rfl, rfl⟩
        · have c1' : hi' < c := by omega
          by_cases c2 : lo ≤ c
          · by_cases c3 : lo < c
            · simp only [c1, c2, c1', c3, ↓reduceIte]
              exact ⟨_, _, rfl, rfl, rfl, rfl, lo, c, l1, bi, rfl, rfl, rfl, rfl⟩
            · have : c = lo := by omega
              subst this
              simp only [c1, c2, c1', c3, ↓reduceIte]
              exact ⟨_, _, rfl, rfl, rfl, rfl, c, c, l1, bi, rfl, rfl, rfl, rfl⟩
          · have c3 : ¬ lo < c := by omega
            simp only [c1, c2, c1', c3, ↓reduceIte]
            exact ⟨_, _, rfl, rfl, rfl, rfl, c, c, bi, bi, rfl, rfl, rfl, rfl⟩) (by
        rintro ⟨x1, x2, x3⟩ ⟨y1, y2, y3⟩ ⟨g1, g2, lo, hi', l1, l2, g3, g4, g5, g6⟩
        dsimp only at g1 g2 g3 g4 g5 g6 ⊢
        subst g1 g2 g3 g4 g5 g6
        have n1 : M ≤ M - 1 + 1 := by omega
        simp (disch := omega) only [b_X6_fair_1, b_X7_fair_3, dm1, fa_lit, ci_nI, nI_leI, n1, ↓reduceIte]
        exact ⟨_, _, rfl, rfl, rfl⟩) (by omega) ⟨rfl, rfl, _, _, b0, b0, rfl, rfl, rfl, rfl⟩
    have hfirst : b_X7_fair_3 N many cold s 0 1000000 0 = some (.inl (nI (cdS P CO V 0), nI (cdS P CO V 0), 1)) := by
      have n1 : ¬ M ≤ 0 := by omega
      have n2 : ¬ 1000000 ≤ cdS P CO V 0 := by omega
      have hf0 := hf 0 (by omega) (nI 0) (nI 1000000)
      simp (disch := omega) only [b_X7_fair_3, dm1, fa_lit, ci_nI, nI_leI, n1, ↓reduceIte, nI_add]
      rw [show lp (fun x : Int32 × Int32 => b_X7_fair_4 N (nI 0) (nI 1000000) (nI 0) many cold s x.1 x.2) N (nI 0, nI 0) = _ from hf0]
      simp (disch := omega) only [ob, nI_leI, n2, ↓reduceIte]
      by_cases c1 : cdS P CO V 0 ≤ 0
      · rw [if_pos c1, show cdS P CO V 0 = 0 by omega]
      · rw [if_neg c1]
    have href : lp (fun x : Int32 × Int32 × Int32 => b_X7_fair_3 N many cold s x.1 x.2.1 x.2.2) N (0, 1000000, 0) = some t' := by
      rw [show lp (fun x : Int32 × Int32 × Int32 => b_X7_fair_3 N many cold s x.1 x.2.1 x.2.2) N = lp (fun x : Int32 × Int32 × Int32 => b_X7_fair_3 N many cold s x.1 x.2.1 x.2.2) (N - 1 + 1) from by rw [show N - 1 + 1 = N by omega], lp_inl (s' := (nI (cdS P CO V 0), nI (cdS P CO V 0), 1)) hfirst]
      exact h2
    rw [show lp (fun x : Int32 × Int32 × Int32 => b_X6_fair_1 N (nI P) dcold (nI M) sv x.1 x.2.1 x.2.2) N (nI (cdS P CO V 0), nI (cdS P CO V 0), 1) = some t from lp_mono (N - 1) _ N (by omega) h1, href, Option.bind_some, Option.bind_some, q1]
    exact ⟨_, rfl, rfl⟩
variable {tr : Int64}
set_option maxHeartbeats 1000000 in
theorem c_rate (hN : 8000 < N) (dr : DR P M ON ST CO dposts dsees dcold dmen don dstove many sees cold) (ws : WS P M hr db gu sd sv s) (a1 a2 : Int32) : ∃ v tr', f_X6_rate N a1 a2 tr dposts dsees dcold db gu sd = some (v, tr') ∧ f_X7_rate N a1 a2 th tr many sees cold s = some (v, 0, tr') := by
  obtain ⟨⟨e1, e2, e3, e4⟩, ⟨dm0, dm1, dm2, dm3⟩, ⟨dP, dM, dON, dST⟩, dco, dse⟩ := id dr
  obtain ⟨H, D, W, G, S, V, rw, rs, iv, hh⟩ := ws
  have hpow := two_pow_le dP
  have z : ¬ nI 1 = nI 0 := by decide
  rcases post_cases (N := N) (many := many) a2 dP dm0 with ⟨h1, h2⟩ | ⟨p, hp, rfl, h1, h2⟩
  · have : f_X6_rate N a1 a2 tr dposts dsees dcold db gu sd = some (-1000000, tr) := by
      unfold f_X6_rate
      rw [e1, h1]; rfl
    refine ⟨_, _, this, ?_⟩
    unfold f_X7_rate
    rcases range_cases (N := N) a1 0 5 (by omega) (by omega) with ⟨g1, g2, g3⟩ | ⟨j, g1, g2, rfl, g3, g4⟩
    · rw [show f_X7_in N a1 0 5 = _ from g2]; rfl
    · rw [show f_X7_in N (nI j) 0 5 = _ from g4, Option.bind_some, if_neg (by decide), h2]; rfl
  · have hp5 : p < 5 := by omega
    have n1 : p < 10 := by omega
    have n2 : 13 + p < 48 := by omega
    have h1' : f_X6_isPost N (nI p) dposts = some (nI 1) := by rw [e1]; exact h1
    have e5 := seenFrom_eq (N := N) dr hp
    obtain ⟨j, hj, ej⟩ := sees_lt dr hp
    have b1 := bitCount_eq (N := N) j (by omega)
    have o1 := ones_eq (N := N) hN j (by omega)
    have e6 : f_X7_manAt_s N (nI p) many s = some (enc (G p)) := manAt_eq hN iv.2.1 (fun m hm => Nat.le_trans (iv.2.2.2.2.1 m hm) dP) iv.2.2.2.2.2.1 rs.2.2.1 dm1 hp5
    have t11 : tr + 10 + 1 = tr + 11 := by rw [Int64.add_assoc]; rfl
    have t101 : tr + 100 + 1 = tr + 101 := by rw [Int64.add_assoc]; rfl
    have t1011 : tr + 1000 + 10 + 1 = tr + 1011 := by rw [Int64.add_assoc, Int64.add_assoc]; rfl
    have t10101 : tr + 10000 + 100 + 1 = tr + 10101 := by rw [Int64.add_assoc, Int64.add_assoc]; rfl
    have t100001 : tr + 100000 + 1 = tr + 100001 := by rw [Int64.add_assoc]; rfl
    have c1 := (dco p hp).1
    have c2 := (dco p hp).2.1
    have s1 := rw.2.2.2.1 p hp5
    have s2 := rs.2.2.2.1 p hp5
    have gp := rw.2.2.1 p hp5
    unfold f_X6_rate f_X7_rate
    rw [h1', h2]
    rcases range_cases (N := N) a1 0 5 (by omega) (by omega) with ⟨g1, g2, g3⟩ | ⟨k, g1, g2, rfl, g3, g4⟩
    · have k0 := g3 0 (by omega) (by omega)
      have k1 := g3 1 (by omega) (by omega)
      have k2 := g3 2 (by omega) (by omega)
      have k3 := g3 3 (by omega) (by omega)
      have k4 := g3 4 (by omega) (by omega)
      have k5 := g3 5 (by omega) (by omega)
      simp only [fa_lit, ob, z, ↓reduceIte, g2, k0, k1, k2, k3, k4, k5]
      exact ⟨_, _, rfl, rfl⟩
    · have hk : k = 0 ∨ k = 1 ∨ k = 2 ∨ k = 3 ∨ k = 4 ∨ k = 5 := by omega
      cases hg : G p with
      | none =>
        rw [hg] at e6 gp
        rcases hk with rfl | rfl | rfl | rfl | rfl | rfl <;>
        · simp (disch := omega) only [fa_lit, ob, z, ↓reduceIte, g4, e6, enc, nI_eq, nI_add, ix_iff, ci_nI, n1, n2, hp5, c1, c2, s1, s2, gp, f_X6_rateOfPost, f_X6_rateOfGate, f_X6_rateOfPump, f_X6_rateOfLane, f_X6_rateOfYard, f_X6_rateOfTower, t11, t101, t1011, t10101, t100001, e5, ej, b1, o1, Nat.reduceEqDiff]
          exact ⟨_, _, rfl, rfl⟩
      | some m =>
        rw [hg] at e6 gp
        have hm := (iv.2.2.2.2.2.1.lt hp5 hg).1
        have n3 : 1 + m < 48 := by omega
        have n4 : m < 6 := by omega
        have d1 := rw.2.1 m hm
        have d2 := rs.2.1 m hm
        rcases hk with rfl | rfl | rfl | rfl | rfl | rfl <;>
        · simp (disch := omega) only [fa_lit, ob, z, ↓reduceIte, g4, e6, enc, nI_ne_neg, nI_eq, nI_add, ix_iff, ci_nI, n1, n2, n3, n4, hp5, c1, c2, s1, s2, gp, d1, d2, f_X6_rateOfPost, f_X6_rateOfGate, f_X6_rateOfPump, f_X6_rateOfLane, f_X6_rateOfYard, f_X6_rateOfTower, t11, t101, t1011, t10101, t100001, e5, ej, b1, o1, Nat.reduceEqDiff]
          exact ⟨_, _, rfl, rfl⟩
end SM
