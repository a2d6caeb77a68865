/-! ===== pure side: what comes ===== -/
theorem lp_mono {σ τ : Type} {body : σ → Option (σ ⊕ τ)} {t : τ} : ∀ (n : Nat) (s : σ) (N : Nat), n ≤ N → lp body n s = some t → lp body N s = some t := by
  intro n
  induction n with
  | zero => intro s N _ h; cases h
  | succ n ih =>
    intro s N hN h
    obtain ⟨N, rfl⟩ : ∃ N', N = N' + 1 := ⟨N - 1, by omega⟩
    cases hb : body s with
    | none =>
      have : lp body (n + 1) s = none := by
        show (match body s with | none => none | some (.inl s') => lp body n s' | some (.inr t) => some t) = _
        rw [hb]
      rw [this] at h; cases h
    | some r =>
      cases r with
      | inl s' => rw [lp_inl hb] at h ⊢; exact ih s' N (by omega) h
      | inr t' => rw [lp_inr hb] at h ⊢; exact h
theorem ob {α β : Type} (a : α) (f : α → Option β) : (some a).bind f = f a := Eq.mp (by rfl) (Eq.refl (f a))
/-- two loops: the first ends behind n rounds, the second goes on -/
theorem lp_half {σ τ σ' τ' : Type} {b1 : σ → Option (σ ⊕ τ)} {b2 : σ' → Option (σ' ⊕ τ')} {Q : τ → σ' → Prop} : ∀ (n : Nat) (J : Nat → σ → σ' → Prop) (s : σ) (s' : σ') (N : Nat), (∀ i s s', i < n → J i s s' → ∃ u u', b1 s = some (.inl u) ∧ b2 s' = some (.inl u') ∧ J (i + 1) u u') → (∀ s s', J n s s' → ∃ t, b1 s = some (.inr t) ∧ Q t s') → n < N → J 0 s s' → ∃ t u', lp b1 N s = some t ∧ (∀ K, lp b2 (K + n) s' = lp b2 K u') ∧ Q t u' := by
  intro n
  induction n with
  | zero =>
    intro J s s' N hs hf hN h0
    obtain ⟨t, h1, h3⟩ := hf s s' h0
    obtain ⟨N, rfl⟩ : ∃ N', N = N' + 1 := ⟨N - 1, by omega⟩
    exact ⟨t, s', lp_inr h1, fun K => rfl, h3⟩
  | succ n ih =>
    intro J s s' N hs hf hN h0
    obtain ⟨N, rfl⟩ : ∃ N', N = N' + 1 := ⟨N - 1, by omega⟩
    obtain ⟨u, u', h1, h2, h3⟩ := hs 0 s s' (by omega) h0
    obtain ⟨t, w, g1, g2, g3⟩ := ih (fun i => J (i + 1)) u u' N (fun i s s' hi hJ => hs (i + 1) s s' (by omega) hJ) hf (by omega) h3
    refine ⟨t, w, by rw [lp_inl h1]; exact g1, fun K => ?_, g3⟩
    rw [show K + (n + 1) = (K + n) + 1 by omega, lp_inl h2, g2]
section AH
variable {N : Nat} {P M ON ST H : Nat} {CO : Nat → Nat} {D W S V : Nat → Nat} {G : Nat → Option Nat} {hr dposts dmen don dstove ahr th : Int32} {db gu sd sv s dsees dcold many sees cold adb agu asd asv w : FN}
def RB (P M H : Nat) (hr : Int32) (db gu sd sv s : FN) : Prop := ∃ (D W : Nat → Nat) (G : Nat → Option Nat) (S V : Nat → Nat), RW M hr db gu sd sv H D G S V ∧ RS M s H D W S V ∧ IV P M H D W G S V
theorem rowF48 (f g : FN) : ∀ j, j < 48 → rowF f g 0 48 j = f j := by
  intro j hj
  have := rowF_in (f := f) (g := g) (a := 0) (n := 48) (j := j) hj
  rw [Nat.zero_add] at this
  exact this
theorem RB_copy (h : RB P M H hr db gu sd sv s) (db0 gu0 sd0 sv0 w0 : FN) : RB P M H hr (va_cpy db db0 (ci 0) (ci 0) (ci 6)) (va_cpy gu gu0 (ci 0) (ci 0) (ci 5)) (va_cpy sd sd0 (ci 0) (ci 0) (ci 5)) (va_cpy sv sv0 (ci 0) (ci 0) (ci 30)) (rowF s w0 0 48) := by
  obtain ⟨D, W, G, S, V, rw, rs, iv⟩ := h
  exact ⟨D, W, G, S, V, RW_copy iv.2.1 rw _ _ _ _, RS_cong iv.2.1 rs (rowF48 _ _), iv⟩
theorem WS_RB (ws : WS P M hr db gu sd sv s) : ∃ H, H ≤ 200 ∧ RB P M H hr db gu sd sv s := by
  obtain ⟨H, D, W, G, S, V, rw, rs, iv, hh⟩ := ws
  exact ⟨H, hh, D, W, G, S, V, rw, rs, iv⟩
theorem sleep_two (hN : 8000 < N) (dm1 : many 1 = nI M) (rb : RB P M H hr db gu sd sv s) : ∃ f, f_X5_sleepingPosts N db gu = some (bs f) ∧ f_X7_asleep_w N many s = some (bs f) := by
  obtain ⟨D, W, G, S, V, rw, rs, iv⟩ := rb
  exact ⟨_, sleepingPosts_eq hN iv rw, asleep_eq hN iv rs dm1⟩
theorem adv_two (hN : 8000 < N) (dr : DR P M ON ST CO dposts dsees dcold dmen don dstove many sees cold) {rota : Nat} (hrota : rota ≤ 1) (hH : H < 1000) (rb : RB P M H hr db gu sd sv s) : ∃ hr' db' gu' sd' sv' s', f_X5_advance N (nI rota) dposts dcold dmen don dstove hr db gu sd sv = some (hr', db', gu', sd', sv') ∧ f_X7_goesBy N (nI rota) many cold s = some s' ∧ RB P M (H + 1) hr' db' gu' sd' sv' s' := by
  obtain ⟨D, W, G, S, V, rw, rs, iv⟩ := rb
  obtain ⟨db', sd', sv', s', D', S', V', t1, t2, t3, t4, t5, -⟩ := hour_two hN dr iv hH rw rs
  by_cases h1 : rota = 1
  · subst h1
    obtain ⟨n, gu', sd2, s2, W', S2, G', r1, r2, r3, r4, r5⟩ := relief_two (fr := 0) (way := 1) hN dr t5 t3 t4 (by omega) (by omega)
    refine ⟨_, _, gu', sd2, _, s2, ?_, ?_, ⟨D', W', G', S2, V', r3, r4, r5⟩⟩
    · unfold f_X5_advance
      rw [t1, Option.bind_some, if_pos (show nI 1 = 1 from rfl)]
      dsimp only
      rw [show f_X5_bringRelief N 0 1 dposts dmen don db' gu sd' = _ from r1]
      rfl
    · unfold f_X7_goesBy
      rw [t2, Option.bind_some, if_pos (show nI 1 = 1 from rfl), show f_X7_relieved_w N 0 1 many s' = _ from r2]
      rfl
  · have h0 : rota = 0 := by omega
    subst h0
    refine ⟨_, _, gu, _, _, s', ?_, ?_, ⟨D', W, G, S', V', t3, t4, t5⟩⟩
    · unfold f_X5_advance
      rw [t1, Option.bind_some, if_neg (by decide)]
    · unfold f_X7_goesBy
      rw [t2, Option.bind_some, if_neg (by decide)]
theorem debt_two (hN : 8000 < N) (hM : M ≤ 6) (dm1 : many 1 = nI M) (h1 : ∀ m, m < M → db m = nI (D m)) (h2 : ∀ m, m < M → s (1 + m) = nI (D m)) (hD : ∀ m, m < M → D m ≤ 60) (p3 p4 : Int32) : ∃ x, f_X5_greatestDebt N (nI M) db = some x ∧ lp (fun z : Int32 × Int32 => b_X7_inHours_2 N p3 p4 many s z.1 z.2) N (0, 0) = some x := by
  obtain ⟨t, t', g1, g2, rfl⟩ := lp_two (b1 := fun z : Int32 × Int32 => b_X5_greatestDebt_1 N (nI M) db z.1 z.2) (b2 := fun z : Int32 × Int32 => b_X7_inHours_2 N p3 p4 many s z.1 z.2) (Q := fun t t' => t = t') M (fun i x y => x = y ∧ x.2 = nI i ∧ ∃ c, c ≤ 60 ∧ x.1 = nI c) (0, 0) (0, 0) N (by
      rintro i ⟨x1, x2⟩ _ hi ⟨rfl, hx, c, hc, hx1⟩
      dsimp only at hx hx1 ⊢
      subst hx hx1
      have n1 : ¬ M ≤ i := by omega
      have n2 : i < 6 := by omega
      have n3 : 1 + i < 48 := by omega
      have d1 := hD i hi
      refine Or.inl ?_
      simp (disch := omega) only [b_X5_greatestDebt_1, b_X7_inHours_2, fa_lit, dm1, nI_leI, nI_ltI, nI_add, ci_nI, n1, ↓reduceIte, ix_iff, n2, n3, h1 i hi, h2 i hi]
      by_cases hb : c < D i
      · have : ¬ D i ≤ c := by omega
        simp only [hb, this, ↓reduceIte]
        exact ⟨_, _, rfl, rfl, rfl, rfl, D i, d1, rfl⟩
      · have : D i ≤ c := by omega
        simp only [hb, this, ↓reduceIte]
        exact ⟨_, _, rfl, rfl, rfl, rfl, c, hc, rfl⟩) (by
      rintro ⟨x1, x2⟩ _ ⟨rfl, hx, -⟩
      dsimp only at hx ⊢
      subst hx
      simp (disch := omega) only [b_X5_greatestDebt_1, b_X7_inHours_2, fa_lit, dm1, nI_leI, ci_nI, Nat.le_refl, ↓reduceIte]
      exact ⟨_, _, rfl, rfl, rfl⟩) (by omega) ⟨rfl, rfl, 0, by omega, rfl⟩
  refine ⟨t, ?_, g2⟩
  unfold f_X5_greatestDebt
  rw [show lp (fun z : Int32 × Int32 => b_X5_greatestDebt_1 N (nI M) db z.1 z.2) N (0, 0) = _ from g1]; rfl
theorem inHours_loop (hN : 8000 < N) (dr : DR P M ON ST CO dposts dsees dcold dmen don dstove many sees cold) {n rota c : Nat} (what : Int32) (hn : n ≤ 60) (hrota : rota ≤ 1) (hc : c ≤ 5) (hH : H ≤ 200) (rb0 : RB P M H hr db gu sd sv s) :
    ∃ t t', lp (fun x : Int32 × Int32 × Int32 × FN × FN × FN × FN => b_X6_inHours_1 N (nI n) (nI rota) what dposts dcold dmen don dstove x.1 x.2.1 x.2.2.1 x.2.2.2.1 x.2.2.2.2.1 x.2.2.2.2.2.1 x.2.2.2.2.2.2) N (nI c, 0, hr, db, gu, sd, sv) = some t ∧ lp (fun x : Int32 × Int32 × FN => b_X7_inHours_1 N (nI n) (nI rota) what many cold x.1 x.2.1 x.2.2) N (nI c, 0, s) = some t' ∧ t.1 = t'.1 ∧ RB P M (H + n) t.2.1 t.2.2.1 t.2.2.2.1 t.2.2.2.2.1 t.2.2.2.2.2 t'.2 := by
  have dm1 := dr.2.1.2.1
  obtain ⟨t, t', h1, h2, c', q0, q1, q2, q3⟩ := lp_two (b1 := fun x : Int32 × Int32 × Int32 × FN × FN × FN × FN => b_X6_inHours_1 N (nI n) (nI rota) what dposts dcold dmen don dstove x.1 x.2.1 x.2.2.1 x.2.2.2.1 x.2.2.2.2.1 x.2.2.2.2.2.1 x.2.2.2.2.2.2) (b2 := fun x : Int32 × Int32 × FN => b_X7_inHours_1 N (nI n) (nI rota) what many cold x.1 x.2.1 x.2.2)
    (Q := fun t t' => ∃ c, c ≤ 5 ∧ t.1 = nI c ∧ t'.1 = nI c ∧ RB P M (H + n) t.2.1 t.2.2.1 t.2.2.2.1 t.2.2.2.2.1 t.2.2.2.2.2 t'.2) n
    (fun i x y => ∃ c, c ≤ 5 ∧ x.1 = nI c ∧ y.1 = nI c ∧ x.2.1 = nI i ∧ y.2.1 = nI i ∧ RB P M (H + i) x.2.2.1 x.2.2.2.1 x.2.2.2.2.1 x.2.2.2.2.2.1 x.2.2.2.2.2.2 y.2.2)
    (nI c, 0, hr, db, gu, sd, sv) (nI c, 0, s) N (by
      rintro i ⟨x1, x2, x3, x4, x5, x6, x7⟩ ⟨y1, y2, y3⟩ hi ⟨c, hc, e1, e2, e3, e4, rbi⟩
      dsimp only at e1 e2 e3 e4 rbi ⊢
      subst e1 e2 e3 e4
      obtain ⟨k1, k2, k3, k4, k5, k6, r1, r2, r3⟩ := adv_two hN dr hrota (by omega) rbi
      obtain ⟨f', s1, s2⟩ := sleep_two (N := N) hN dm1 r3
      obtain ⟨c', hc', s3, s4⟩ := bs_count (N := N) hN f'
      have n1 : ¬ n ≤ i := by omega
      refine Or.inl ?_
      simp (disch := omega) only [b_X6_inHours_1, b_X7_inHours_1, fa_lit, nI_leI, nI_ltI, n1, ↓reduceIte, r1, r2, ob, s1, s2, s3, s4, nI_add]
      by_cases hb : c < c'
      · have : ¬ c' ≤ c := by omega
        simp only [hb, this, ↓reduceIte]
        exact ⟨_, _, rfl, rfl, c', hc', rfl, rfl, rfl, rfl, r3⟩
      · have : c' ≤ c := by omega
        simp only [hb, this, ↓reduceIte]
        exact ⟨_, _, rfl, rfl, c, hc, rfl, rfl, rfl, rfl, r3⟩) (by
      rintro ⟨x1, x2, x3, x4, x5, x6, x7⟩ ⟨y1, y2, y3⟩ ⟨c, hc, e1, e2, e3, e4, rbi⟩
      dsimp only at e1 e2 e3 e4 rbi ⊢
      subst e1 e2 e3 e4
      simp (disch := omega) only [b_X6_inHours_1, b_X7_inHours_1, nI_leI, Nat.le_refl, ↓reduceIte]
      exact ⟨_, _, rfl, rfl, c, hc, rfl, rfl, rbi⟩) (by omega) ⟨c, hc, rfl, rfl, rfl, rfl, rb0⟩
  exact ⟨t, t', h1, h2, q1.trans q2.symm, q3⟩
set_option maxHeartbeats 1000000 in
theorem c_inHours (hN : 8000 < N) (dr : DR P M ON ST CO dposts dsees dcold dmen don dstove many sees cold) (ws : WS P M hr db gu sd sv s) (a1 a2 a3 : Int32) : ∃ v b1 b2 b3 b4 b5 w', f_X6_inHours N a1 a2 a3 dposts dcold dmen don dstove hr db gu sd sv ahr adb agu asd asv = some (v, b1, b2, b3, b4, b5) ∧ f_X7_inHours N a1 a2 a3 th many cold s w = some (v, 0, w') := by
  have dm1 := dr.2.1.2.1
  obtain ⟨H, hH, rb⟩ := WS_RB ws
  unfold f_X6_inHours f_X7_inHours
  have z : ¬ nI 1 = nI 0 := by decide
  have z0 : ¬ nI 1 = (0 : Int32) := by decide
  have zz : nI 0 = (0 : Int32) := rfl
  rcases range_cases (N := N) a1 0 60 (by omega) (by omega) with ⟨g1, g2, -⟩ | ⟨n, -, hn, rfl, g1, g2⟩
  · rw [show f_X6_within N a1 0 60 = _ from g1, show f_X7_in N a1 0 60 = _ from g2, Option.bind_some, Option.bind_some, if_pos zz, if_pos zz]
    exact ⟨-1, _, _, _, _, _, _, rfl, rfl⟩
  rw [show f_X6_within N (nI n) 0 60 = _ from g1, show f_X7_in N (nI n) 0 60 = _ from g2, Option.bind_some, Option.bind_some, if_neg z0, if_neg z0]
  rcases range_cases (N := N) a2 0 1 (by omega) (by omega) with ⟨g1, g2, -⟩ | ⟨rota, -, hrota, rfl, g1, g2⟩
  · rw [show f_X6_within N a2 0 1 = _ from g1, show f_X7_in N a2 0 1 = _ from g2, Option.bind_some, Option.bind_some, if_pos zz, if_pos zz]
    exact ⟨-1, _, _, _, _, _, _, rfl, rfl⟩
  rw [show f_X6_within N (nI rota) 0 1 = _ from g1, show f_X7_in N (nI rota) 0 1 = _ from g2, Option.bind_some, Option.bind_some, if_neg z0, if_neg z0]
  rcases range_cases (N := N) a3 0 2 (by omega) (by omega) with ⟨g1, g2, -⟩ | ⟨what, -, hwhat, rfl, g1, g2⟩
  · rw [show f_X6_within N a3 0 2 = _ from g1, show f_X7_in N a3 0 2 = _ from g2, Option.bind_some, Option.bind_some, if_pos zz, if_pos zz]
    exact ⟨-1, _, _, _, _, _, _, rfl, rfl⟩
  rw [show f_X6_within N (nI what) 0 2 = _ from g1, show f_X7_in N (nI what) 0 2 = _ from g2, Option.bind_some, Option.bind_some, if_neg z0, if_neg z0, asNow_eq hN]
  unfold f_X5_become
  rw [Option.bind_some, Option.bind_some]
  dsimp only
  have rb0 := RB_copy rb adb agu asd asv w
  obtain ⟨f, s1, s2⟩ := sleep_two (N := N) hN dm1 rb0
  obtain ⟨c, hc, s3, s4⟩ := bs_count (N := N) hN f
  rw [s1, s2, Option.bind_some, Option.bind_some, s3, s4, Option.bind_some, Option.bind_some]
  obtain ⟨t, t', h1, h2, q1, q3⟩ := inHours_loop hN dr (nI what) hn hrota hc hH rb0
  rw [show lp (fun x : Int32 × Int32 × Int32 × FN × FN × FN × FN => b_X6_inHours_1 N (nI n) (nI rota) (nI what) dposts dcold dmen don dstove x.1 x.2.1 x.2.2.1 x.2.2.2.1 x.2.2.2.2.1 x.2.2.2.2.2.1 x.2.2.2.2.2.2) N _ = some t from h1, show lp (fun x : Int32 × Int32 × FN => b_X7_inHours_1 N (nI n) (nI rota) (nI what) many cold x.1 x.2.1 x.2.2) N _ = some t' from h2, Option.bind_some, Option.bind_some]
  obtain ⟨f', s1, s2⟩ := sleep_two (N := N) hN dm1 q3
  obtain ⟨D', W', G', S', V', rw', rs', iv'⟩ := q3
  obtain ⟨x, d1, d2⟩ := debt_two (N := N) (many := many) hN iv'.2.1 dm1 rw'.2.1 rs'.2.1 iv'.2.2.2.1 (nI what) t'.1
  rw [d2, Option.bind_some, s1, s2, dr.1.2.1, d1]
  rcases (show what = 0 ∨ what = 1 ∨ what = 2 by omega) with rfl | rfl | rfl
  · rw [if_pos zz, if_pos zz, Option.bind_some, Option.bind_some]
    exact ⟨_, _, _, _, _, _, _, rfl, rfl⟩
  · have w1 : nI 1 = (1 : Int32) := rfl
    rw [if_neg z0, if_neg z0, if_pos w1, if_pos w1, q1]
    exact ⟨_, _, _, _, _, _, _, rfl, rfl⟩
  · have w1 : ¬ nI 2 = (0 : Int32) := by decide
    have w2 : ¬ nI 2 = (1 : Int32) := by decide
    rw [if_neg w1, if_neg w1, if_neg w2, if_neg w2, Option.bind_some]
    exact ⟨_, _, _, _, _, _, _, rfl, rfl⟩
end AH
