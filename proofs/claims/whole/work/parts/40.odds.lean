/-! ===== pure side: odds, fair, rate ===== -/
/-- a product of five: who wakes, who doesn't -/
def prN (sl wk p : Nat) : Nat → Nat
  | 0 => 1
  | e + 1 => prN sl wk p e * (if sl / 2 ^ e % 2 = 0 then 1 else if wk / 2 ^ e % 2 = 1 then p else 10 - p)
theorem prN_key : ∀ (sl wk : Fin 32) (p : Fin 11), nI wk.val &&& (nI sl.val ^^^ (-nI 1)) = nI 0 → p.val ^ pc wk.val * (10 - p.val) ^ pc (sl.val - wk.val) = prN sl.val wk.val p.val 5 ∧ prN sl.val wk.val p.val 5 ≤ 100000 ∧ nI sl.val &&& (nI wk.val ^^^ (-nI 1)) = nI (sl.val - wk.val) := by decide +kernel
section OD
variable {N : Nat} {P M ON ST H : Nat} {CO : Nat → Nat} {D W S V : Nat → Nat} {G : Nat → Option Nat} {hr dposts dmen don dstove th : Int32} {db gu sd sv s dsees dcold many sees cold : FN}
theorem bit_val : ∀ k, k < 32 → ∀ i, i < 5 → ((nI k >>> (nI i &&& nI 31)) &&& nI 1) = nI (k / 2 ^ i % 2) := by
  have h : ∀ k : Fin 32, ∀ i : Fin 5, ((nI k.val >>> (nI i.val &&& nI 31)) &&& nI 1) = nI (k.val / 2 ^ i.val % 2) := by decide +kernel
  intro k hk i hi
  exact h ⟨k, hk⟩ ⟨i, hi⟩
theorem power_eq (hN : 8000 < N) (b : Nat) {e : Nat} (he : e ≤ 5) : f_X6_power N (nI b) (nI e) = some (nI (b ^ e)) := by
  unfold f_X6_power
  have h := lp_seq (body := fun x : Int32 × Int32 => b_X6_power_1 N (nI b) (nI e) x.1 x.2) (t := nI (b ^ e)) (fun i => (nI (b ^ i), nI i)) e (N := N) (by
    intro i hi
    have n1 : ¬ e ≤ i := by omega
    simp (disch := omega) only [b_X6_power_1, fa_lit, nI_leI, n1, ↓reduceIte, pk_mul, nI_add, Nat.pow_succ]) (by simp (disch := omega) only [b_X6_power_1, nI_leI, Nat.le_refl, ↓reduceIte]) (by omega)
  rw [show lp (fun x : Int32 × Int32 => b_X6_power_1 N (nI b) (nI e) x.1 x.2) N (1, 0) = _ from h]; rfl
theorem weight_two (hN : 8000 < N) {sl wk p : Nat} (hsl : sl < 32) (hwk : wk < 32) (hp : p ≤ 10) (hsub : nI wk &&& (nI sl ^^^ (-nI 1)) = nI 0) (p1 p2 p4 p5 : Int32) : ∃ c, c ≤ 100000 ∧ f_X6_weightOfWaking N (nI wk) (nI sl) (nI p) = some (nI c) ∧ lp (fun x : Int32 × Int32 => b_X7_odds_3 N (nI p) p2 (nI sl) p4 p5 (nI wk) x.1 x.2) N (1, 0) = some (nI c) := by
  obtain ⟨k1, k2, k3⟩ := prN_key ⟨sl, hsl⟩ ⟨wk, hwk⟩ ⟨p, by omega⟩ hsub
  dsimp only at k1 k2 k3
  refine ⟨_, k2, ?_, ?_⟩
  · unfold f_X6_weightOfWaking
    have e1 := bitCount_eq (N := N) wk hwk
    have e2 := bitCount_eq (N := N) (sl - wk) (by omega)
    have e3 := power_eq (N := N) hN p (pc_le wk)
    have e4 := power_eq (N := N) hN (10 - p) (pc_le (sl - wk))
    rw [e1, Option.bind_some, e3, Option.bind_some, show nI sl &&& (nI wk ^^^ (-1)) = nI (sl - wk) from k3, e2, Option.bind_some, show (10 : Int32) - nI p = nI (10 - p) from pk_sub (a := 10) hp, e4, Option.bind_some, pk_mul, k1]
  · have h := lp_seq (body := fun x : Int32 × Int32 => b_X7_odds_3 N (nI p) p2 (nI sl) p4 p5 (nI wk) x.1 x.2) (t := nI (prN sl wk p 5)) (fun i => (nI (prN sl wk p i), nI i)) 5 (N := N) (by
      intro i hi
      have n1 : ¬ 5 ≤ i := by omega
      have b1 := bit_val sl hsl i hi
      have b2 := bit_val wk hwk i hi
      have m1 : sl / 2 ^ i % 2 < 2 := Nat.mod_lt _ (by omega)
      have m2 : wk / 2 ^ i % 2 < 2 := Nat.mod_lt _ (by omega)
      simp (disch := omega) only [b_X7_odds_3, fa_lit, nI_leI, n1, ↓reduceIte, b1, b2, nI_eq, pk_sub, nI_add]
      rw [prN]
      by_cases c1 : sl / 2 ^ i % 2 = 0
      · simp only [c1, ↓reduceIte, pk_mul]
      · by_cases c2 : wk / 2 ^ i % 2 = 1
        · simp only [c1, c2, ↓reduceIte, pk_mul]
        · simp only [c1, c2, ↓reduceIte, pk_mul]) (by simp (disch := omega) only [b_X7_odds_3, fa_lit, nI_leI, Nat.le_refl, ↓reduceIte]) (by omega)
    exact h
theorem ten_eq (hN : 8000 < N) {sl : Nat} (hsl : sl < 32) (p1 p2 : Int32) : lp (fun x : Int32 × Int32 => b_X7_odds_1 N p1 p2 (nI sl) x.1 x.2) N (1, 0) = some (nI (10 ^ pc sl)) := by
  have o1 := ones_eq (N := N) hN sl hsl
  have pl := pc_le sl
  exact lp_seq (body := fun x : Int32 × Int32 => b_X7_odds_1 N p1 p2 (nI sl) x.1 x.2) (t := nI (10 ^ pc sl)) (fun i => (nI (10 ^ i), nI i)) (pc sl) (N := N) (by
    intro i hi
    have n1 : ¬ pc sl ≤ i := by omega
    simp (disch := omega) only [b_X7_odds_1, o1, ob, fa_lit, nI_leI, n1, ↓reduceIte, pk_mul, nI_add, Nat.pow_succ]) (by simp (disch := omega) only [b_X7_odds_1, o1, ob, nI_leI, Nat.le_refl, ↓reduceIte]) (by omega)
theorem above_key (hP : P ≤ 5) {sl wk : Nat} (hsl : sl < 2 ^ P) (hwk : wk < 32) (h : 2 ^ P ≤ wk) : ¬ nI wk &&& (nI sl ^^^ (-nI 1)) = nI 0 := by
  have key : ∀ p : Fin 6, ∀ (sl wk : Fin 32), sl.val < 2 ^ p.val → 2 ^ p.val ≤ wk.val → ¬ nI wk.val &&& (nI sl.val ^^^ (-nI 1)) = nI 0 := by decide +kernel
  have hpow := two_pow_le hP
  exact key ⟨P, by omega⟩ ⟨sl, by omega⟩ ⟨wk, hwk⟩ hsl h
theorem bn_below (hP : P ≤ 5) (f : Nat → Bool) (hf : ∀ k, k < 5 → f k = true → k < P) : ∃ n, n < 2 ^ P ∧ bs f = nI n := by
  refine ⟨bn (f 0) (f 1) (f 2) (f 3) (f 4), ?_, rfl⟩
  have key : ∀ (p : Fin 6) (a b c d e : Bool), (a = true → 0 < p.val) → (b = true → 1 < p.val) → (c = true → 2 < p.val) → (d = true → 3 < p.val) → (e = true → 4 < p.val) → bn a b c d e < 2 ^ p.val := by decide +kernel
  exact key ⟨P, by omega⟩ _ _ _ _ _ (hf 0 (by omega)) (hf 1 (by omega)) (hf 2 (by omega)) (hf 3 (by omega)) (hf 4 (by omega))
set_option maxHeartbeats 1000000 in
theorem odds_loop (hN : 8000 < N) (dr : DR P M ON ST CO dposts dsees dcold dmen don dstove many sees cold) {p sl : Nat} (hp : p ≤ 10) (hsl : sl < 2 ^ P) (man p2 p5 : Int32) (hst : f_X7_standing_s N many s = some man) : ∃ u, u < 2 ^ 30 ∧ lp (fun x : Int32 × Int32 => b_X6_odds_1 N (nI p) p2 (nI sl) (man &&& (nI sl ^^^ (-nI 1))) dposts dsees x.1 x.2) N (0, 0) = some (nI u) ∧ lp (fun x : Int32 × Int32 => b_X7_odds_2 N (nI p) p2 (nI sl) p5 many sees s x.1 x.2) N (0, 0) = some (nI u) := by
  obtain ⟨⟨e1, e2, e3, e4⟩, ⟨dm0, dm1, dm2, dm3⟩, ⟨dP, dM, dON, dST⟩, dco, dse⟩ := id dr
  have hpow := two_pow_le dP
  have h0 : 0 < 2 ^ P := Nat.two_pow_pos P
  have ea := all_eq dP
  obtain ⟨t, u', h1, h2, c, hc, q1, q2, q3⟩ := lp_half (b1 := fun x : Int32 × Int32 => b_X6_odds_1 N (nI p) p2 (nI sl) (man &&& (nI sl ^^^ (-nI 1))) dposts dsees x.1 x.2) (b2 := fun x : Int32 × Int32 => b_X7_odds_2 N (nI p) p2 (nI sl) p5 many sees s x.1 x.2)
    (Q := fun t u' => ∃ c, c ≤ 100000 * 2 ^ P ∧ t = nI c ∧ u'.1 = nI c ∧ u'.2 = nI (2 ^ P)) (2 ^ P)
    (fun i x y => x = y ∧ x.2 = nI i ∧ ∃ c, c ≤ 100000 * i ∧ x.1 = nI c) (0, 0) (0, 0) N (by
      rintro i ⟨x1, x2⟩ _ hi ⟨rfl, g2, c, hc, g1⟩
      dsimp only at g1 g2 ⊢
      subst g1 g2
      have n1 : ¬ 2 ^ P - 1 < i := by omega
      have n2 : ¬ 32 ≤ i := by omega
      obtain ⟨x, w1, w2⟩ := watched_two (N := N) hN dr ((man &&& (nI sl ^^^ (-nI 1))) ||| nI i)
      rw [e1] at w1
      rw [e1]
      by_cases hs : nI i &&& (nI sl ^^^ (-nI 1)) = nI 0
      · obtain ⟨k, hk, k1, k2⟩ := weight_two (N := N) (sl := sl) (wk := i) (p := p) hN (by omega) (by omega) hp hs (nI p) p2 (nI c) p5
        by_cases hx : x = nI (2 ^ P - 1)
        · simp (disch := omega) only [b_X6_odds_1, b_X7_odds_2, f_X0_allPosts, fa_lit, dm0, ci_nI, ea, ob, nI_ltI, nI_leI, n1, n2, ↓reduceIte, hs, w1, w2, hst, hx, k1, nI_add]
          rw [show lp (fun x : Int32 × Int32 => b_X7_odds_3 N (nI p) p2 (nI sl) (nI c) p5 (nI i) x.1 x.2) N (nI 1, nI 0) = _ from k2]
          simp only [ob, nI_add]
          exact ⟨_, _, rfl, rfl, rfl, rfl, c + k, by omega, rfl⟩
        · simp (disch := omega) only [b_X6_odds_1, b_X7_odds_2, f_X0_allPosts, fa_lit, dm0, ci_nI, ea, ob, nI_ltI, nI_leI, n1, n2, ↓reduceIte, hs, w1, w2, hst, hx, nI_add]
          exact ⟨_, _, rfl, rfl, rfl, rfl, c, by omega, rfl⟩
      · simp (disch := omega) only [b_X6_odds_1, b_X7_odds_2, f_X0_allPosts, fa_lit, ea, ob, nI_ltI, nI_leI, n1, n2, ↓reduceIte, hs, nI_add]
        exact ⟨_, _, rfl, rfl, rfl, rfl, c, by omega, rfl⟩) (by
      rintro ⟨x1, x2⟩ _ ⟨rfl, g2, c, hc, g1⟩
      dsimp only at g1 g2 ⊢
      subst g1 g2
      have n1 : 2 ^ P - 1 < 2 ^ P := by omega
      refine ⟨nI c, ?_, c, hc, rfl, rfl, rfl⟩
      rw [e1]
      simp (disch := omega) only [b_X6_odds_1, f_X0_allPosts, fa_lit, ea, ob, nI_ltI, n1, ↓reduceIte]) (by omega) ⟨rfl, rfl, 0, by omega, rfl⟩
  have hb : 100000 * 2 ^ P ≤ 3200000 := by omega
  subst q1
  refine ⟨c, by omega, h1, ?_⟩
  have h3 := h2 (N - 2 ^ P)
  rw [show N - 2 ^ P + 2 ^ P = N by omega] at h3
  rw [h3]
  have h4 := lp_seq (body := fun x : Int32 × Int32 => b_X7_odds_2 N (nI p) p2 (nI sl) p5 many sees s x.1 x.2) (t := nI c) (fun i => (nI c, nI (2 ^ P + i))) (32 - 2 ^ P) (N := N - 2 ^ P) (by
    intro i hi
    have n2 : ¬ 32 ≤ 2 ^ P + i := by omega
    have hs := above_key (P := P) dP (sl := sl) (wk := 2 ^ P + i) hsl (by omega) (by omega)
    simp (disch := omega) only [b_X7_odds_2, fa_lit, nI_leI, n2, ↓reduceIte, hs, nI_add, Nat.add_assoc]) (by
    have n2 : 32 ≤ 2 ^ P + (32 - 2 ^ P) := by omega
    simp (disch := omega) only [b_X7_odds_2, fa_lit, nI_leI, n2, ↓reduceIte]) (by omega)
  obtain ⟨u1, u2⟩ := u'
  dsimp only at q2 q3
  subst q2 q3
  exact h4
theorem c_odds (hN : 8000 < N) (dr : DR P M ON ST CO dposts dsees dcold dmen don dstove many sees cold) (ws : WS P M hr db gu sd sv s) (a1 a2 : Int32) : ∃ v, f_X6_odds N a1 a2 dposts dsees db gu = some v ∧ f_X7_odds N a1 a2 th many sees s = some (v, 0) := by
  obtain ⟨⟨e1, e2, e3, e4⟩, ⟨dm0, dm1, dm2, dm3⟩, ⟨dP, dM, dON, dST⟩, dco, dse⟩ := id dr
  obtain ⟨H, D, W, G, S, V, rw, rs, iv, hh⟩ := ws
  have hpow := two_pow_le dP
  have z0 : ¬ nI 1 = (0 : Int32) := by decide
  have zz : nI 0 = (0 : Int32) := rfl
  unfold f_X6_odds f_X7_odds
  rcases range_cases (N := N) a1 0 10 (by omega) (by omega) with ⟨g1, g2, -⟩ | ⟨p, -, hp, rfl, g1, g2⟩
  · rw [show f_X6_within N a1 0 10 = _ from g1, show f_X7_in N a1 0 10 = _ from g2, Option.bind_some, Option.bind_some, if_pos zz, if_pos zz]
    exact ⟨-1, rfl, rfl⟩
  rw [show f_X6_within N (nI p) 0 10 = _ from g1, show f_X7_in N (nI p) 0 10 = _ from g2, Option.bind_some, Option.bind_some, if_neg z0, if_neg z0]
  rcases range_cases (N := N) a2 0 1 (by omega) (by omega) with ⟨g1, g2, -⟩ | ⟨what, -, hwhat, rfl, g1, g2⟩
  · rw [show f_X6_within N a2 0 1 = _ from g1, show f_X7_in N a2 0 1 = _ from g2, Option.bind_some, Option.bind_some, if_pos zz, if_pos zz]
    exact ⟨-1, rfl, rfl⟩
  rw [show f_X6_within N (nI what) 0 1 = _ from g1, show f_X7_in N (nI what) 0 1 = _ from g2, Option.bind_some, Option.bind_some, if_neg z0, if_neg z0]
  have q1 := sleepingPosts_eq hN iv rw
  have q2 := mannedPosts_eq hN iv rw
  have q3 : f_X7_asleep_s N many s = _ := asleep_eq hN iv rs dm1
  have q4 : f_X7_standing_s N many s = _ := standing_eq hN iv rs dm1
  obtain ⟨sl, hsl, es⟩ := bn_below dP (slp D G) (fun k hk h => by
    unfold slp at h
    cases hg : G k with
    | none => rw [hg] at h; cases h
    | some m =>
      obtain ⟨m1, m2⟩ := iv.2.2.2.2.2.1.lt hk hg
      have := iv.2.2.2.2.1 m m1
      omega)
  rw [es] at q1 q3
  obtain ⟨u, hu, l1, l2⟩ := odds_loop (p := p) (sl := sl) (s := s) hN dr hp hsl _ (nI what) (nI (10 ^ pc sl)) q4
  have l3 := ten_eq (N := N) (sl := sl) hN (by omega) (nI p) (nI what)
  have b1 := bitCount_eq (N := N) sl (by omega)
  have b2 := power_eq (N := N) hN 10 (pc_le sl)
  have hten : 10 ^ pc sl ≤ 10 ^ 5 := Nat.pow_le_pow_right (by omega) (pc_le sl)
  obtain ⟨v, t1, t2⟩ := terms_two (N := N) (a := u) (b := 10 ^ pc sl) hN (by omega) (Nat.pow_pos (by omega)) (by omega) (nI what)
  rw [q1, q2, q3, Option.bind_some, Option.bind_some, Option.bind_some, show lp (fun x : Int32 × Int32 => b_X6_odds_1 N (nI p) (nI what) (nI sl) (bs (fun p => (G p).isSome) &&& (nI sl ^^^ (-1))) dposts dsees x.1 x.2) N (0, 0) = _ from l1, show lp (fun x : Int32 × Int32 => b_X7_odds_1 N (nI p) (nI what) (nI sl) x.1 x.2) N (1, 0) = _ from l3, Option.bind_some, Option.bind_some, b1, Option.bind_some, show f_X6_power N 10 (nI (pc sl)) = _ from b2, Option.bind_some, show lp (fun x : Int32 × Int32 => b_X7_odds_2 N (nI p) (nI what) (nI sl) (nI (10 ^ pc sl)) many sees s x.1 x.2) N (0, 0) = _ from l2, Option.bind_some, t1, t2, Option.bind_some, Option.bind_some]
  exact ⟨v, rfl, rfl⟩
end OD
