/-! ===== pure side: what is done ===== -/
section DO
variable {N : Nat} {P M ON ST H : Nat} {CO : Nat → Nat} {D W S V : Nat → Nat} {G : Nat → Option Nat} {hr dposts dmen don dstove : Int32} {db gu sd sv s dsees dcold many sees cold undos : FN} {next known um th : Int32} {pw : Nat → WtT}
theorem lk_put (lk : LK M W G) {p m : Nat} (hp : p < 5) (hg : G p = none) (hm : m < M) (hw : W m = 0) : LK M (updN W m (p + 1)) (fun q => if q = p then some m else G q) := by
  intro q hq k
  by_cases hqp : q = p
  · subst hqp
    simp only [↓reduceIte, Option.some.injEq]
    constructor
    · rintro rfl; exact ⟨hm, updN_same⟩
    · rintro ⟨h1, h2⟩
      by_cases hkm : k = m
      · exact hkm.symm
      · rw [updN_ne hkm] at h2
        have := (lk q hq k).mpr ⟨h1, h2⟩
        rw [hg] at this; cases this
  · simp only [hqp, ↓reduceIte]
    by_cases hkm : k = m
    · subst hkm
      rw [updN_same]
      constructor
      · intro h; have := (lk.lt hq h).2; omega
      · rintro ⟨_, h⟩; omega
    · rw [updN_ne hkm]; exact lk q hq k
theorem lk_off (lk : LK M W G) {p m : Nat} (hp : p < 5) (hg : G p = some m) : LK M (updN W m 0) (fun q => if q = p then none else G q) := by
  obtain ⟨g1, g2⟩ := lk.lt hp hg
  intro q hq k
  by_cases hqp : q = p
  · subst hqp
    simp only [↓reduceIte]
    constructor
    · intro h; cases h
    · rintro ⟨h1, h2⟩
      exfalso
      by_cases hkm : k = m
      · subst hkm; rw [updN_same] at h2; omega
      · rw [updN_ne hkm] at h2
        have := (lk q hq k).mpr ⟨h1, h2⟩
        rw [hg] at this
        exact hkm (Option.some.inj this).symm
  · simp only [hqp, ↓reduceIte]
    by_cases hkm : k = m
    · subst hkm
      rw [updN_same]
      constructor
      · intro h; have := (lk.lt hq h).2; omega
      · rintro ⟨_, h⟩; omega
    · rw [updN_ne hkm]; exact lk q hq k
theorem c_sends (hN : 8000 < N) (dr : DR P M ON ST CO dposts dsees dcold dmen don dstove many sees cold) (ws : WS P M hr db gu sd sv s) (pr : PastR P M next known pw undos um) (a1 a2 : Int32) : ∃ v gu' sd' next' known' pw' s' undos' um', f_X6_sends N a1 a2 dposts dmen hr db gu sd sv next known pw = some (v, gu', sd', next', known', pw') ∧ f_X7_sends N a1 a2 th many s undos um = some (v, 0, s', undos', um') ∧ WS P M hr db gu' sd' sv s' ∧ PastR P M next' known' pw' undos' um' := by
  obtain ⟨⟨e1, e2, e3, e4⟩, ⟨dm0, dm1, dm2, dm3⟩, ⟨dP, dM, dON, dST⟩, dco, dse⟩ := id dr
  obtain ⟨H, D, W, G, S, V, rw, rs, iv, hh⟩ := id ws
  obtain ⟨hP, hM, hH, hD, hW, lk, hS, hV⟩ := id iv
  have z : ¬ nI 1 = nI 0 := by decide
  unfold f_X6_sends f_X7_sends
  rcases man_cases (N := N) (many := many) a1 dM dm1 with ⟨h1, h2⟩ | ⟨m, hm, rfl, h1, h2⟩
  · rw [e2, h1, h2]
    exact ⟨-1, _, _, _, _, _, _, _, _, rfl, rfl, ws, pr⟩
  · rcases post_cases (N := N) (many := many) a2 dP dm0 with ⟨h3, h4⟩ | ⟨p, hp, rfl, h3, h4⟩
    · rw [e1, e2, h1, h2, h3, h4]
      exact ⟨-1, _, _, _, _, _, _, _, _, rfl, rfl, ws, pr⟩
    · have hp5 : p < 5 := by omega
      have n1 : 7 + m < 48 := by omega
      have n2 : 13 + p < 48 := by omega
      have wm := hW m hm
      have q1 := placeOf_eq (N := N) hN hM (fun m hm => Nat.le_trans (hW m hm) dP) lk rw.2.2.1 hm
      have q2 : f_X7_manAt_s N (nI p) many s = _ := manAt_eq hN hM (fun m hm => Nat.le_trans (hW m hm) dP) lk rs.2.2.1 dm1 hp5
      obtain ⟨next', known', pw', undos', um', r1, r2, r3⟩ := remember_two hN ws pr
      rw [e1, e2, h1, h2, h3, h4]
      simp (disch := omega) only [fa_lit, Option.bind_some, z, ↓reduceIte, ix_iff, ci_nI, hp5, nI_add, n1, n2, rw.2.2.1 p hp5, rs.2.2.1 m hm, q1, q2, nI_ltI, r1, r2, f_X5_place]
      by_cases h0 : W m = 0
      · have n3 : ¬ 0 < W m := by omega
        cases hg : G p with
        | some k =>
          have := (lk.lt hp5 hg).1
          simp (disch := omega) only [n3, enc, nI_ne_neg, ↓reduceIte]
          exact ⟨_, _, _, _, _, _, _, _, _, rfl, rfl, ws, pr⟩
        | none =>
          simp only [h0, Nat.lt_irrefl, pl, enc, ↓reduceIte]
          have rw' : RW M hr db (upd gu p (nI m)) (upd sd p (nI 0)) sv H D (fun q => if q = p then some m else G q) (updN S p 0) V := by
            refine ⟨rw.1, rw.2.1, fun q hq => ?_, fun q hq => ?_, rw.2.2.2.2⟩
            · by_cases e : q = p
              · subst e; rw [upd_same]; simp [enc]
              · rw [upd_ne e, rw.2.2.1 q hq]; simp [e]
            · by_cases e : q = p
              · subst e; rw [upd_same, updN_same]
              · rw [upd_ne e, updN_ne e, rw.2.2.2.1 q hq]
          have rs' : RS M (upd (upd s (7 + m) (nI (p + 1))) (13 + p) (nI 0)) H D (updN W m (p + 1)) (updN S p 0) V := by
            refine ⟨by rw [upd_ne (by omega), upd_ne (by omega), rs.1], fun k hk => by rw [upd_ne (by omega), upd_ne (by omega), rs.2.1 k hk], fun k hk => ?_, fun q hq => ?_, fun k hk q hq => by rw [upd_ne (by omega), upd_ne (by omega), rs.2.2.2.2 k hk q hq]⟩
            · rw [upd_ne (by omega)]
              by_cases e : k = m
              · subst e; rw [upd_same, updN_same]
              · rw [upd_ne (by omega), updN_ne e, rs.2.2.1 k hk]
            · by_cases e : q = p
              · subst e; rw [upd_same, updN_same]
              · rw [upd_ne (by omega), upd_ne (by omega), updN_ne e, rs.2.2.2.1 q hq]
          have iv' : IV P M H D (updN W m (p + 1)) (fun q => if q = p then some m else G q) (updN S p 0) V := by
            refine ⟨hP, hM, hH, hD, fun k hk => ?_, lk_put lk hp5 hg hm h0, fun q hq => ?_, hV⟩
            · by_cases e : k = m
              · subst e; rw [updN_same]; omega
              · rw [updN_ne e]; exact hW k hk
            · by_cases e : q = p
              · subst e; rw [updN_same]; omega
              · rw [updN_ne e]; exact hS q hq
          have q3 := mannedPosts_eq (N := N) hN iv' rw'
          have q4 : f_X7_standing_s N many _ = _ := standing_eq (N := N) hN iv' rs' dm1
          obtain ⟨c, _, q5, q6⟩ := bs_count (N := N) hN (fun q => ((if q = p then some m else G q) : Option Nat).isSome)
          rw [q3, q4]
          simp only [Option.bind_some, q5, q6]
          exact ⟨_, _, _, _, _, _, _, _, _, rfl, rfl, ⟨H, D, _, _, _, V, rw', rs', iv', hh⟩, r3⟩
      · have n3 : 0 < W m := by omega
        simp (disch := omega) only [n3, h0, pl, nI_ne_neg, ↓reduceIte]
        refine ⟨_, _, _, _, _, _, _, _, _, ?_, rfl, ws, pr⟩
        split <;> rfl
theorem c_calls (hN : 8000 < N) (dr : DR P M ON ST CO dposts dsees dcold dmen don dstove many sees cold) (ws : WS P M hr db gu sd sv s) (pr : PastR P M next known pw undos um) (a1 : Int32) : ∃ v gu' sd' next' known' pw' s' undos' um', f_X6_calls N a1 dposts hr db gu sd sv next known pw = some (v, gu', sd', next', known', pw') ∧ f_X7_calls N a1 th many s undos um = some (v, 0, s', undos', um') ∧ WS P M hr db gu' sd' sv s' ∧ PastR P M next' known' pw' undos' um' := by
  obtain ⟨⟨e1, e2, e3, e4⟩, ⟨dm0, dm1, dm2, dm3⟩, ⟨dP, dM, dON, dST⟩, dco, dse⟩ := id dr
  obtain ⟨H, D, W, G, S, V, rw, rs, iv, hh⟩ := id ws
  obtain ⟨hP, hM, hH, hD, hW, lk, hS, hV⟩ := id iv
  have z : ¬ nI 1 = nI 0 := by decide
  unfold f_X6_calls f_X7_calls
  rcases post_cases (N := N) (many := many) a1 dP dm0 with ⟨h3, h4⟩ | ⟨p, hp, rfl, h3, h4⟩
  · rw [e1, h3, h4]
    exact ⟨-1, _, _, _, _, _, _, _, _, rfl, rfl, ws, pr⟩
  · have hp5 : p < 5 := by omega
    have n2 : 13 + p < 48 := by omega
    have q2 : f_X7_manAt_s N (nI p) many s = _ := manAt_eq hN hM (fun m hm => Nat.le_trans (hW m hm) dP) lk rs.2.2.1 dm1 hp5
    obtain ⟨next', known', pw', undos', um', r1, r2, r3⟩ := remember_two hN ws pr
    rw [e1, h3, h4]
    simp (disch := omega) only [fa_lit, Option.bind_some, z, ↓reduceIte, ix_iff, ci_nI, hp5, nI_add, n2, rw.2.2.1 p hp5, q2, r1, r2, f_X5_place]
    cases hg : G p with
    | none =>
      simp only [enc, ↓reduceIte]
      exact ⟨_, _, _, _, _, _, _, _, _, rfl, rfl, ws, pr⟩
    | some m =>
      obtain ⟨hm, wm⟩ := lk.lt hp5 hg
      have n1 : 7 + m < 48 := by omega
      simp (disch := omega) only [enc, nI_ne_neg, ↓reduceIte, nI_add, ix_iff, ci_nI, n1]
      refine ⟨_, _, _, _, _, _, _, _, _, rfl, rfl, ⟨H, D, updN W m 0, fun q => if q = p then none else G q, updN S p 0, V, ⟨rw.1, rw.2.1, fun q hq => ?_, fun q hq => ?_, rw.2.2.2.2⟩, ⟨by rw [upd_ne (by omega), upd_ne (by omega), rs.1], fun k hk => by rw [upd_ne (by omega), upd_ne (by omega), rs.2.1 k hk], fun k hk => ?_, fun q hq => ?_, fun k hk q hq => by rw [upd_ne (by omega), upd_ne (by omega), rs.2.2.2.2 k hk q hq]⟩, ⟨hP, hM, hH, hD, fun k hk => ?_, lk_off lk hp5 hg, fun q hq => ?_, hV⟩, hh⟩, r3⟩
      · by_cases e : q = p
        · subst e; rw [upd_same]; simp [enc]
        · rw [upd_ne e, rw.2.2.1 q hq]; simp [e]
      · by_cases e : q = p
        · subst e; rw [upd_same, updN_same]
        · rw [upd_ne e, updN_ne e, rw.2.2.2.1 q hq]
      · rw [upd_ne (by omega)]
        by_cases e : k = m
        · subst e; rw [upd_same, updN_same]
        · rw [upd_ne (by omega), updN_ne e, rs.2.2.1 k hk]
      · by_cases e : q = p
        · subst e; rw [upd_same, updN_same]
        · rw [upd_ne (by omega), upd_ne (by omega), updN_ne e, rs.2.2.2.1 q hq]
      · by_cases e : k = m
        · subst e; rw [updN_same]; omega
        · rw [updN_ne e]; exact hW k hk
      · by_cases e : q = p
        · subst e; rw [updN_same]; omega
        · rw [updN_ne e]; exact hS q hq
theorem c_hour (hN : 8000 < N) (dr : DR P M ON ST CO dposts dsees dcold dmen don dstove many sees cold) (ws : WS P M hr db gu sd sv s) (pr : PastR P M next known pw undos um) : ∃ v hr' db' sd' sv' next' known' pw' s' undos' um', f_X6_hour N dcold dmen dstove hr db gu sd sv next known pw = some (v, hr', db', sd', sv', next', known', pw') ∧ f_X7_hour N th many cold s undos um = some (v, 0, s', undos', um') ∧ WS P M hr' db' gu sd' sv' s' ∧ PastR P M next' known' pw' undos' um' := by
  have dm1 := dr.2.1.2.1
  obtain ⟨H, D, W, G, S, V, rw, rs, iv, hh⟩ := id ws
  have e1 : s (ci 0) = nI H := rs.1
  by_cases h2 : H < 200
  · obtain ⟨next', known', pw', undos', um', r1, r2, r3⟩ := remember_two hN ws pr
    obtain ⟨db', sd', sv', s', D', S', V', t1, t2, t3, t4, t5, -⟩ := hour_two hN dr iv (by omega) rw rs
    have t2 : f_X7_goes_s N many cold s = some s' := t2
    have q1 := sleepingPosts_eq hN t5 t3
    have q2 : f_X7_asleep_s N many s' = _ := asleep_eq hN t5 t4 dm1
    refine ⟨bs (slp D' G), nI (H + 1), db', sd', sv', next', known', pw', s', undos', um', ?_, ?_, ⟨H + 1, D', W, G, S', V', t3, t4, t5, by omega⟩, r3⟩
    · unfold f_X6_hour
      rw [if_pos (by rw [rw.1]; exact nI_lt (b := 200) h2 (by omega)), r1, Option.bind_some, t1, Option.bind_some]
      dsimp only
      rw [q1]; rfl
    · unfold f_X7_hour
      rw [if_neg (by rw [e1]; show ¬ nI H = nI 200; rw [nI_eq (by omega) (by omega)]; omega), r2, Option.bind_some, t2, Option.bind_some, q2]; rfl
  · have h3 : H = 200 := by omega
    subst h3
    refine ⟨-2, _, _, _, _, _, _, _, _, _, _, ?_, ?_, ws, pr⟩
    · unfold f_X6_hour
      rw [if_neg (by rw [rw.1]; decide)]
    · unfold f_X7_hour
      rw [if_pos (by rw [e1]; rfl)]
theorem c_relieves (hN : 8000 < N) (dr : DR P M ON ST CO dposts dsees dcold dmen don dstove many sees cold) (ws : WS P M hr db gu sd sv s) (pr : PastR P M next known pw undos um) (a1 a2 : Int32) : ∃ v gu' sd' next' known' pw' s' undos' um', f_X6_relieves N a1 a2 dposts dmen don hr db gu sd sv next known pw = some (v, gu', sd', next', known', pw') ∧ f_X7_relieves N a1 a2 th many s undos um = some (v, 0, s', undos', um') ∧ WS P M hr db gu' sd' sv s' ∧ PastR P M next' known' pw' undos' um' := by
  obtain ⟨⟨e1, e2, e3, e4⟩, ⟨dm0, dm1, dm2, dm3⟩, ⟨dP, dM, dON, dST⟩, dco, dse⟩ := id dr
  obtain ⟨H, D, W, G, S, V, rw, rs, iv, hh⟩ := id ws
  have z : ¬ nI 1 = nI 0 := by decide
  unfold f_X6_relieves f_X7_relieves
  rcases post_cases (N := N) (many := many) a1 dP dm0 with ⟨h3, h4⟩ | ⟨p, hp, rfl, h3, h4⟩
  · rw [e1, h3, h4]
    exact ⟨-1, _, _, _, _, _, _, _, _, rfl, rfl, ws, pr⟩
  · rcases range_cases (N := N) a2 0 1 (by omega) (by omega) with ⟨g1, g2, g3⟩ | ⟨j, g1, g2, rfl, g3, g4⟩
    · rw [e1, h3, h4]
      simp only [fa_lit, Option.bind_some, z, ↓reduceIte, g1, g2]
      exact ⟨_, _, _, _, _, _, _, _, _, rfl, rfl, ws, pr⟩
    · obtain ⟨next', known', pw', undos', um', r1, r2, r3⟩ := remember_two hN ws pr
      obtain ⟨n, gu', sd', s', W', S', G', t1, t2, t3, t4, t5⟩ := relief_two hN dr iv rw rs (Or.inr hp) g2
      have t2 : f_X7_relieved_s N (nI p) (nI j) many s = _ := t2
      rw [e1, e2, e3] at t1
      rw [e1, e2, e3, h3, h4]
      simp only [fa_lit, Option.bind_some, z, ↓reduceIte, g3, g4, r1, r2, t1, t2]
      exact ⟨_, _, _, _, _, _, _, _, _, rfl, rfl, ⟨H, D, W', G', S', V, t3, t4, t5, hh⟩, r3⟩
theorem undo1_eq (hN : 8000 < N) (u : FN) {k : Nat} (hk : k < 10) : lp (fun x : Int32 × FN => b_X7_undo_1 N u (nI k) x.1 x.2) N (0, s) = some (rowF (fun j => u (48 * k + j)) s 0 48) := by
  have h := lp_seq (body := fun x : Int32 × FN => b_X7_undo_1 N u (nI k) x.1 x.2) (t := rowF (fun j => u (48 * k + j)) s 0 48) (fun i => (nI i, rowF (fun j => u (48 * k + j)) s 0 i)) 48 (N := N) (by
    intro i hi
    have n1 : ¬ 48 ≤ i := by omega
    have n2 : 48 * k + i < 480 := by omega
    simp (disch := omega) only [b_X7_undo_1, fa_lit, nI_leI, n1, ↓reduceIte, pk_mul, nI_add, ix_iff, ci_nI, hi, n2]
    have := rowF_step (fun j => u (48 * k + j)) s 0 i
    rw [Nat.zero_add] at this
    rw [this]) (by simp (disch := omega) only [b_X7_undo_1, fa_lit, nI_leI, Nat.le_refl, ↓reduceIte]) (by omega)
  rw [rowF_0] at h
  exact h
theorem c_undo (hN : 8000 < N) (ws : WS P M hr db gu sd sv s) (pr : PastR P M next known pw undos um) : ∃ v hr' db' gu' sd' sv' next' known' s' um', f_X6_undo N hr db gu sd sv next known pw = some (v, hr', db', gu', sd', sv', next', known') ∧ f_X7_undo N th s undos um = some (v, 0, s', um') ∧ WS P M hr' db' gu' sd' sv' s' ∧ PastR P M next' known' pw undos um' := by
  obtain ⟨nx, kn, rfl, hnx, rfl, hkn, rfl, hp⟩ := id pr
  by_cases h0 : kn = 0
  · subst h0
    exact ⟨-2, _, _, _, _, _, _, _, _, _, rfl, rfl, ws, pr⟩
  · have e0 : ¬ nI kn = 0 := nI_ne0 (by omega) (by omega)
    have e1 : nI kn - 1 = nI (kn - 1) := pk_sub (b := 1) (by omega)
    have e2 : ((nI nx + 10) - 1) % 10 = nI ((nx + 9) % 10) := by
      simp (disch := omega) only [fa_lit, nI_add, pk_sub, irem_nI]
      rw [show nx + 10 - 1 = nx + 9 by omega]
    have n1 : (nx + 9) % 10 < 10 := Nat.mod_lt _ (by omega)
    have hw := hp (kn - 1) (by omega)
    rw [show (nx + 10 - kn + (kn - 1)) % 10 = (nx + 9) % 10 by omega] at hw
    refine ⟨nI (kn - 1), (pw ((nx + 9) % 10)).1, va_cpy (pw ((nx + 9) % 10)).2.1 db (ci 0) (ci 0) (ci 6), va_cpy (pw ((nx + 9) % 10)).2.2.1 gu (ci 0) (ci 0) (ci 5), va_cpy (pw ((nx + 9) % 10)).2.2.2.1 sd (ci 0) (ci 0) (ci 5), va_cpy (pw ((nx + 9) % 10)).2.2.2.2 sv (ci 0) (ci 0) (ci 30), nI ((nx + 9) % 10), nI (kn - 1), rowF (fun j => undos (48 * (kn - 1) + j)) s 0 48, nI (kn - 1), ?_, ?_, WS_copy hw (fun j hj => ?_) _ _ _ _, (nx + 9) % 10, kn - 1, rfl, n1, rfl, by omega, rfl, fun i hi => ?_⟩
    · unfold f_X6_undo f_X2_restore
      rw [if_neg e0, e2, e1, if_pos ((ix_iff (by omega)).mpr n1), ci_nI (by omega)]
      rfl
    · unfold f_X7_undo
      rw [if_neg e0, e1, undo1_eq hN undos (by omega)]
      rfl
    · have := rowF_in (f := fun j => undos (48 * (kn - 1) + j)) (g := s) (a := 0) (n := 48) (j := j) hj
      rw [Nat.zero_add] at this
      exact this
    · have := hp i (by omega)
      rw [show ((nx + 9) % 10 + 10 - (kn - 1) + i) % 10 = (nx + 10 - kn + i) % 10 by omega]
      exact this
end DO
