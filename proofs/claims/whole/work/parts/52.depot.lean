/-! ===== pure side: the depot read ===== -/
section DP
variable {N : Nat} {lets text many sees cold first s isk kept kp : FN} {p m on st b1 b2 n : Nat}
theorem ret1_eq (hN : 8000 < N) : lp (fun x : Int32 × FN => b_X7_settles_1 N x.1 x.2) N (0, many) = some (rowF (fun k => many (4 + k)) many 0 4) := by
  have h := lp_seq (body := fun x : Int32 × FN => b_X7_settles_1 N x.1 x.2) (t := rowF (fun k => many (4 + k)) many 0 4) (fun i => (nI i, rowF (fun k => many (4 + k)) many 0 i)) 4 (N := N) (by
    intro i hi
    have n1 : ¬ 4 ≤ i := by omega
    have n2 : 4 + i < 8 := by omega
    have n3 : i < 8 := by omega
    have e1 : rowF (fun k => many (4 + k)) many 0 i (4 + i) = many (4 + i) := rowF_out (by omega)
    simp (disch := omega) only [b_X7_settles_1, fa_lit, nI_leI, n1, ↓reduceIte, nI_add, ix_iff, ci_nI, n2, n3, e1]
    have := rowF_step (fun k => many (4 + k)) many 0 i
    rw [Nat.zero_add] at this
    rw [this]) (by simp (disch := omega) only [b_X7_settles_1, fa_lit, nI_leI, Nat.le_refl, ↓reduceIte]) (by omega)
  rw [rowF_0] at h
  exact h
def seF (P : Nat) (sees : FN) (q : Nat) : Int32 := (sees (5 + q) &&& ((nI 1 <<< (nI P &&& nI 31)) - nI 1)) &&& ((nI 1 <<< (nI q &&& nI 31)) ^^^ (-nI 1))
theorem ret2_eq (hN : 8000 < N) {P : Nat} {mn : FN} (hP : P ≤ 5) (h0 : mn 0 = nI P) : lp (fun x : Int32 × FN × FN => b_X7_settles_2 N mn x.1 x.2.1 x.2.2) N (0, sees, cold) = some (rowF (seF P sees) sees 0 P, rowF (fun q => cold (5 + q)) cold 0 P) := by
  have h := lp_seq (body := fun x : Int32 × FN × FN => b_X7_settles_2 N mn x.1 x.2.1 x.2.2) (t := (rowF (seF P sees) sees 0 P, rowF (fun q => cold (5 + q)) cold 0 P)) (fun i => (nI i, rowF (seF P sees) sees 0 i, rowF (fun q => cold (5 + q)) cold 0 i)) P (N := N) (by
    intro i hi
    have n1 : ¬ P ≤ i := by omega
    have n2 : 5 + i < 10 := by omega
    have n3 : i < 10 := by omega
    have e1 : rowF (seF P sees) sees 0 i (5 + i) = sees (5 + i) := rowF_out (by omega)
    have e2 : rowF (fun q => cold (5 + q)) cold 0 i (5 + i) = cold (5 + i) := rowF_out (by omega)
    simp (disch := omega) only [b_X7_settles_2, fa_lit, h0, nI_leI, n1, ↓reduceIte, nI_add, ix_iff, ci_nI, n2, n3, e1, e2]
    have t1 := rowF_step (seF P sees) sees 0 i
    have t2 := rowF_step (fun q => cold (5 + q)) cold 0 i
    rw [Nat.zero_add] at t1 t2
    rw [← t1, ← t2]
    rfl) (by simp (disch := omega) only [b_X7_settles_2, fa_lit, h0, ci_nI, nI_leI, Nat.le_refl, ↓reduceIte]) (by omega)
  rw [rowF_0, rowF_0] at h
  exact h
theorem ret3_eq (hN : 8000 < N) : lp (fun x : Int32 × FN => b_X7_settles_3 N x.1 x.2) N (0, s) = some (rowF (fun _ => nI 0) s 0 48) := by
  have h := lp_seq (body := fun x : Int32 × FN => b_X7_settles_3 N x.1 x.2) (t := rowF (fun _ => nI 0) s 0 48) (fun i => (nI i, rowF (fun _ => nI 0) s 0 i)) 48 (N := N) (by
    intro i hi
    have n1 : ¬ 48 ≤ i := by omega
    simp (disch := omega) only [b_X7_settles_3, fa_lit, nI_leI, n1, ↓reduceIte, nI_add, ix_iff, ci_nI, hi]
    have := rowF_step (fun _ => nI 0) s 0 i
    rw [Nat.zero_add] at this
    rw [this]) (by simp (disch := omega) only [b_X7_settles_3, fa_lit, nI_leI, Nat.le_refl, ↓reduceIte]) (by omega)
  rw [rowF_0] at h
  exact h
theorem ret4_eq (hN : 8000 < N) {M : Nat} {mn : FN} (hM : M ≤ 6) (h1 : mn 1 = nI M) : lp (fun x : Int32 × FN => b_X7_settles_4 N mn first x.1 x.2) N (0, s) = some (rowF (fun k => first (6 + k)) s 1 M) := by
  have h := lp_seq (body := fun x : Int32 × FN => b_X7_settles_4 N mn first x.1 x.2) (t := rowF (fun k => first (6 + k)) s 1 M) (fun i => (nI i, rowF (fun k => first (6 + k)) s 1 i)) M (N := N) (by
    intro i hi
    have n1 : ¬ M ≤ i := by omega
    have n2 : 6 + i < 12 := by omega
    have n3 : 1 + i < 48 := by omega
    simp (disch := omega) only [b_X7_settles_4, fa_lit, h1, nI_leI, n1, ↓reduceIte, nI_add, ix_iff, ci_nI, n2, n3]
    rw [rowF_step (fun k => first (6 + k)) s 1 i]) (by simp (disch := omega) only [b_X7_settles_4, fa_lit, h1, ci_nI, nI_leI, Nat.le_refl, ↓reduceIte]) (by omega)
  rw [rowF_0] at h
  exact h
theorem kept_eq (hN : 8000 < N) : lp (fun x : Int32 × FN => b_X6_beginAnew_1 N x.1 x.2) N (0, kp) = some (rowF (fun _ => nI 0) kp 0 2) := by
  have h := lp_seq (body := fun x : Int32 × FN => b_X6_beginAnew_1 N x.1 x.2) (t := rowF (fun _ => nI 0) kp 0 2) (fun i => (nI i, rowF (fun _ => nI 0) kp 0 i)) 2 (N := N) (by
    intro i hi
    have n1 : ¬ 2 ≤ i := by omega
    simp (disch := omega) only [b_X6_beginAnew_1, fa_lit, nI_leI, n1, ↓reduceIte, nI_add, ix_iff, ci_nI, hi]
    have := rowF_step (fun _ => nI 0) kp 0 i
    rw [Nat.zero_add] at this
    rw [this]) (by simp (disch := omega) only [b_X6_beginAnew_1, fa_lit, nI_leI, Nat.le_refl, ↓reduceIte]) (by omega)
  rw [rowF_0] at h
  exact h
theorem fill_in {f : FN} {k j : Nat} {x : Int32} (h : j < k) : fillF f k x j = x := by simp [fillF, h]
theorem rowF_in0 {f g : FN} {k j : Nat} (h : j < k) : rowF f g 0 k j = f j := by
  have := rowF_in (f := f) (g := g) (a := 0) (n := k) (j := j) h
  rw [Nat.zero_add] at this
  exact this
theorem DR_low {P M ON ST : Nat} {CO : Nat → Nat} {dposts dmen don dstove : Int32} {dsees dcold many' sees' cold' : FN} (dr : DR P M ON ST CO dposts dsees dcold dmen don dstove many sees cold) (h : LOW many sees cold many' sees' cold') : DR P M ON ST CO dposts dsees dcold dmen don dstove many' sees' cold' := by
  obtain ⟨d1, ⟨dm0, dm1, dm2, dm3⟩, ⟨dP, dM, dON, dST⟩, dco, dse⟩ := dr
  exact ⟨d1, ⟨by rw [h.1 0 (by omega)]; exact dm0, by rw [h.1 1 (by omega)]; exact dm1, by rw [h.1 2 (by omega)]; exact dm2, by rw [h.1 3 (by omega)]; exact dm3⟩, ⟨dP, dM, dON, dST⟩, fun p hp => ⟨(dco p hp).1, by rw [h.2.2 p (by omega)]; exact (dco p hp).2.1, (dco p hp).2.2⟩, fun p hp => by rw [h.2.1 p (by omega)]; exact dse p hp⟩
theorem low_q (many sees cold : FN) : LOW many sees cold (upd (upd (upd (upd many (ci 4) 0) (ci 5) 0) (ci 6) 2) (ci 7) 3) sees cold := low_tr (low_k (k := 4) (by omega)) (low_tr (low_k (k := 5) (by omega)) (low_tr (low_k (k := 6) (by omega)) (low_k (k := 7) (by omega))))
variable {P0 M0 ON0 ST0 : Nat} {CO0 : Nat → Nat} {th len typed tat tst ttk tvl ton tsv dposts dmen don dstove gp gm go gt hr known size mnx mtk mpc mvl mfl mtold um gn next : Int32} {dsees dcold ddebts gs gc gd db gu sd sv undos fm fh fi gm' gh gi : FN} {pw iw : Nat → WtT}
set_option maxHeartbeats 4000000 in
set_option maxRecDepth 100000 in
theorem c_depot (hN : 8000 < N) (txr : TextR lets len text typed) (dr : DR P0 M0 ON0 ST0 CO0 dposts dsees dcold dmen don dstove many sees cold) (ws : WS P0 M0 hr db gu sd sv s) (pr : PastR P0 M0 next known pw undos um) (kr : KeptR P0 M0 kp iw kept isk) (fr : FindR size fm fh fi gm' gh gi gn) : ∃ z z', f_X6_depot N lets len tat tst ttk tvl ton tsv dposts dsees dcold dmen ddebts don dstove gp gs gc gm gd go gt hr db gu sd sv known kp size = some z ∧ f_X7_depot N th text typed mnx mtk mpc mvl mfl many sees cold first mtold s isk um gn = some z' ∧ z.1 = z'.1 ∧ z'.2.1 = 0 ∧ ∃ P M ON ST CO, TextR lets (z.2.1) text (z'.2.2.1) ∧ DR P M ON ST CO (z.2.2.2.2.2.2.2.2.1) (z.2.2.2.2.2.2.2.2.2.1) (z.2.2.2.2.2.2.2.2.2.2.1) (z.2.2.2.2.2.2.2.2.2.2.2.1) (z.2.2.2.2.2.2.2.2.2.2.2.2.2.1) (z.2.2.2.2.2.2.2.2.2.2.2.2.2.2.1) (z'.2.2.2.2.2.2.2.2.1) (z'.2.2.2.2.2.2.2.2.2.1) (z'.2.2.2.2.2.2.2.2.2.2.1) ∧ WS P M (z.2.2.2.2.2.2.2.2.2.2.2.2.2.2.2.2.2.2.2.2.2.2.1) (z.2.2.2.2.2.2.2.2.2.2.2.2.2.2.2.2.2.2.2.2.2.2.2.1) (z.2.2.2.2.2.2.2.2.2.2.2.2.2.2.2.2.2.2.2.2.2.2.2.2.1) (z.2.2.2.2.2.2.2.2.2.2.2.2.2.2.2.2.2.2.2.2.2.2.2.2.2.1) (z.2.2.2.2.2.2.2.2.2.2.2.2.2.2.2.2.2.2.2.2.2.2.2.2.2.2.1) (z'.2.2.2.2.2.2.2.2.2.2.2.2.2.1) ∧ PastR P M next (z.2.2.2.2.2.2.2.2.2.2.2.2.2.2.2.2.2.2.2.2.2.2.2.2.2.2.2.1) pw undos (z'.2.2.2.2.2.2.2.2.2.2.2.2.2.2.2.1) ∧ KeptR P M (z.2.2.2.2.2.2.2.2.2.2.2.2.2.2.2.2.2.2.2.2.2.2.2.2.2.2.2.2.1) iw kept (z'.2.2.2.2.2.2.2.2.2.2.2.2.2.2.1) ∧ FindR (z.2.2.2.2.2.2.2.2.2.2.2.2.2.2.2.2.2.2.2.2.2.2.2.2.2.2.2.2.2) fm fh fi gm' gh gi (z'.2.2.2.2.2.2.2.2.2.2.2.2.2.2.2.2) := by
  obtain ⟨n, hn, rfl, rfl, htx⟩ := id txr
  have tx : TXT n (fun j => (text j).toNatClampNeg) lets text := by
    refine ⟨hn, fun j hj => ?_⟩
    obtain ⟨c, hc, h1, h2⟩ := htx j hj
    have : (text j).toNatClampNeg = c := by rw [h2]; exact nI_clamp (by omega)
    show lets j = nI ((text j).toNatClampNeg) ∧ text j = nI ((text j).toNatClampNeg) ∧ (text j).toNatClampNeg < 256
    rw [this]
    exact ⟨h1, h2, hc⟩
  obtain ⟨nx, tk, pc, vl, a1, la⟩ := LA.next (N := N) hN tx (a' := 0) (by omega) mtk mpc mvl
  have df0 : DF 0 0 2 3 0 0 0 gs gc 0 gd 2 3 0 0 (upd (upd (upd (upd many (ci 4) 0) (ci 5) 0) (ci 6) 2) (ci 7) 3) sees cold first 0 := by
    refine ⟨⟨by omega, by omega, by omega, by omega, by omega, by omega⟩, ⟨rfl, rfl, rfl, rfl, rfl, rfl⟩, ⟨?_, ?_, ?_, ?_, rfl⟩, fun j hj => by omega, fun j hj => by omega⟩
    · show upd (upd (upd (upd many 4 0) 5 0) 6 2) 7 3 4 = _
      rw [upd_ne (by omega), upd_ne (by omega), upd_ne (by omega), upd_same]; rfl
    · show upd (upd (upd (upd many 4 0) 5 0) 6 2) 7 3 5 = _
      rw [upd_ne (by omega), upd_ne (by omega), upd_same]; rfl
    · show upd (upd (upd (upd many 4 0) 5 0) 6 2) 7 3 6 = _
      rw [upd_ne (by omega), upd_same]; rfl
    · show upd (upd (upd (upd many 4 0) 5 0) 6 2) 7 3 7 = _
      rw [upd_same]; rfl
  obtain ⟨tc, tr, l1, l2, ho, hlow⟩ := read_two (N := N) hN tx n 0 0 0 0 2 3 0 0 tst ttk tvl nx tk pc vl 0 gs gc 0 gd 2 3 0 0 _ sees cold first 0 N (by omega) (by omega) (by omega) la df0
  have hinto : f_X4_readInto N lets (nI n) tat tst ttk tvl ton tsv gp gs gc gm gd go gt = (Sum.elim (fun t21e => some (((-10) - t21e.2.1), t21e.1, t21e.2.1, t21e.2.2.1, t21e.2.2.2.1, t21e.2.2.2.2.1, t21e.2.2.2.2.2.1, t21e.2.2.2.2.2.2.1, t21e.2.2.2.2.2.2.2.1, t21e.2.2.2.2.2.2.2.2.1, t21e.2.2.2.2.2.2.2.2.2.1, t21e.2.2.2.2.2.2.2.2.2.2.1, t21e.2.2.2.2.2.2.2.2.2.2.2.1, t21e.2.2.2.2.2.2.2.2.2.2.2.2)) (fun r_ => some r_) tc : Option (Int32 × Int32 × Int32 × Int32 × Int32 × Int32 × Int32 × Int32 × FN × FN × Int32 × FN × Int32 × Int32)) := by
    unfold f_X4_readInto f_X0_empty
    rw [Option.bind_some]
    dsimp only
    rw [show lp (fun s => b_X4_readInto_1 N lets (nI n) s.1 s.2.1 s.2.2.1 s.2.2.2.1 s.2.2.2.2.1 s.2.2.2.2.2.1 s.2.2.2.2.2.2.1 s.2.2.2.2.2.2.2.1 s.2.2.2.2.2.2.2.2.1 s.2.2.2.2.2.2.2.2.2.1 s.2.2.2.2.2.2.2.2.2.2.1 s.2.2.2.2.2.2.2.2.2.2.2.1 s.2.2.2.2.2.2.2.2.2.2.2.2.1 s.2.2.2.2.2.2.2.2.2.2.2.2.2) N (0, 0, tst, ttk, tvl, 0, 0, 0, gs, gc, 0, gd, 2, 3) = _ from l1, Option.bind_some]
  have hloop : f_X7_depot N th text (nI n) mnx mtk mpc mvl mfl many sees cold first mtold s isk um gn = ((f_X7_isWell N tr.2.2.2.2.2.1).bind fun z84 => (if z84 = 0 then some (((-10) - tr.2.2.2.2.2.1), 0, nI n, tr.2.1, tr.2.2.1, tr.2.2.2.1, tr.2.2.2.2.1, tr.2.2.2.2.2.1, tr.2.2.2.2.2.2.1, tr.2.2.2.2.2.2.2.1, tr.2.2.2.2.2.2.2.2.1, tr.2.2.2.2.2.2.2.2.2.1, tr.2.2.2.2.2.2.2.2.2.2, s, isk, um, gn) else ((f_X7_settles N (nI n) tr.2.2.2.2.2.2.1 tr.2.2.2.2.2.2.2.1 tr.2.2.2.2.2.2.2.2.1 tr.2.2.2.2.2.2.2.2.2.1 s isk um gn).bind fun z87 => some (tr.1, 0, z87.1, tr.2.1, tr.2.2.1, tr.2.2.2.1, tr.2.2.2.2.1, tr.2.2.2.2.2.1, z87.2.1, z87.2.2.1, z87.2.2.2.1, tr.2.2.2.2.2.2.2.2.2.1, tr.2.2.2.2.2.2.2.2.2.2, z87.2.2.2.2.1, z87.2.2.2.2.2.1, z87.2.2.2.2.2.2.1, z87.2.2.2.2.2.2.2)))) := by
    unfold f_X7_depot
    rw [show f_X7_advances N text (nI n) 0 mtk mpc mvl = _ from a1, Option.bind_some]
    dsimp only
    rw [show lp (fun s => b_X7_depot_1 N text (nI n) s.1 s.2.1 s.2.2.1 s.2.2.2.1 s.2.2.2.2.1 s.2.2.2.2.2.1 s.2.2.2.2.2.2.1 s.2.2.2.2.2.2.2.1 s.2.2.2.2.2.2.2.2.1 s.2.2.2.2.2.2.2.2.2.1 s.2.2.2.2.2.2.2.2.2.2) N (0, nx, tk, pc, vl, -1, upd (upd (upd (upd many (ci 4) 0) (ci 5) 0) (ci 6) 2) (ci 7) 3, sees, cold, first, 0) = _ from l2, Option.bind_some]
  rcases ho with ⟨x, f, hf, rfl, hx, hfl⟩ | ⟨x, i, p, m, on, st, b1, b2, hi, rfl, hx1, ht1, hfl, df⟩
  · have hneg : (-10 : Int32) - nI f < 0 := by
      rw [Int32.lt_iff_toInt_lt]
      have key : ∀ f : Fin 201, ((-10 : Int32) - nI f.val).toInt < (0 : Int32).toInt := by decide +kernel
      exact key ⟨f, by omega⟩
    refine ⟨_, _, by unfold f_X6_depot; rw [hinto]; dsimp only [Sum.elim_inl]; rw [Option.bind_some]; dsimp only; rw [hx, if_pos hneg], by rw [hloop, hfl, m1_lt f (by omega), Option.bind_some, if_pos (by rfl)], rfl, rfl, P0, M0, ON0, ST0, CO0, txr, DR_low dr (low_tr (low_q many sees cold) hlow), ws, pr, kr, fr⟩
  · obtain ⟨⟨q1, q2, q3, q4, q5, q6⟩, ⟨eg1, eg2, eg3, eg4, eg5, eg6⟩, ⟨m4, m5, m6, m7, etold⟩, ds, dd⟩ := df
    obtain ⟨x1, x2, x3, x4, x5, x6, x7, x8, x9, x10, x11, x12, x13, x14⟩ := x
    obtain ⟨r1, r2, r3, r4, r5, r6, mn, se, co, fi', r11⟩ := tr
    dsimp only at hx1 ht1 hfl eg1 eg2 eg3 eg4 eg5 eg6 m4 m5 m6 m7 etold ds dd hloop hinto
    subst hx1 ht1 hfl eg1 eg2 eg3 eg4
    have e0 : rowF (fun k => mn (4 + k)) mn 0 4 0 = nI p := by rw [rowF_in0 (by omega)]; exact m4
    have e1 : rowF (fun k => mn (4 + k)) mn 0 4 1 = nI m := by rw [rowF_in0 (by omega)]; exact m5
    have e2 : rowF (fun k => mn (4 + k)) mn 0 4 2 = nI on := by rw [rowF_in0 (by omega)]; exact m6
    have e3 : rowF (fun k => mn (4 + k)) mn 0 4 3 = nI st := by rw [rowF_in0 (by omega)]; exact m7
    have hset : f_X7_settles N (nI n) mn se co fi' s isk um gn = some (0, rowF (fun k => mn (4 + k)) mn 0 4, rowF (seF p se) se 0 p, rowF (fun q => co (5 + q)) co 0 p, rowF (fun k => fi' (6 + k)) (rowF (fun _ => nI 0) s 0 48) 1 m, upd (upd isk (ci 0) 0) (ci 1) 0, 0, 0) := by
      unfold f_X7_settles
      rw [ret1_eq hN, Option.bind_some, ret2_eq hN q1 e0, Option.bind_some, ret3_eq hN, Option.bind_some, ret4_eq hN q2 e1, Option.bind_some]
    have hkeep : f_X6_beginAnew N (va_cpy x12 ddebts (ci 0) (ci 0) (ci 6)) hr db gu sd sv known kp size = some (0, va_cpy (va_cpy x12 ddebts (ci 0) (ci 0) (ci 6)) db (ci 0) (ci 0) (ci 6), fillF gu 5 (-9), fillF sd 5 0, fillF sv 30 0, 0, rowF (fun _ => nI 0) kp 0 2, 0) := by
      unfold f_X6_beginAnew f_X5_begin
      rw [Option.bind_some, kept_eq hN, Option.bind_some]
    have hnn : ¬ nI i < (0 : Int32) := nI_pos (by omega)
    have dc : ∀ j, j < 6 → va_cpy x12 ddebts (ci 0) (ci 0) (ci 6) j = x12 j := fun j hj => cpy_in (n := 6) hj
    refine ⟨_, _, by unfold f_X6_depot f_X0_become; rw [hinto]; dsimp only [Sum.elim_inr]; rw [Option.bind_some]; dsimp only; rw [if_neg hnn, Option.bind_some]; dsimp only; rw [hkeep, Option.bind_some], by rw [hloop, well_m1, Option.bind_some, if_neg (by decide), hset, Option.bind_some], rfl, rfl, p, m, on, st, fun q => (co (5 + q)).toNatClampNeg, ⟨0, by omega, rfl, rfl, fun j hj => by omega⟩, ⟨⟨rfl, rfl, rfl, rfl⟩, ⟨e0, e1, e2, e3⟩, ⟨q1, q2, q3, q4⟩, fun q hq => ?_, fun q hq => ?_⟩, ⟨0, fun j => (fi' (6 + j)).toNatClampNeg, fun _ => 0, fun _ => none, fun _ => 0, fun _ => 0, ⟨rfl, fun j hj => ?_, fun q hq => ?_, fun q hq => ?_, fun j hj q hq => ?_⟩, ⟨?_, fun j hj => ?_, fun j hj => ?_, fun q hq => ?_, fun j hj q hq => ?_⟩, ⟨q1, q2, by omega, fun j hj => ?_, fun j hj => Nat.zero_le _, fun q hq k => Iff.intro (fun h => by cases h) (fun h => absurd h.2 (fun e => Nat.succ_ne_zero _ e.symm)), fun q hq => Nat.zero_le _, fun j hj q hq => Nat.zero_le _⟩, by omega⟩, ?_, fun j hj => ?_, ⟨0, by omega, rfl, rfl, fun j hj => by omega⟩⟩
    · obtain ⟨xx, c, c1, c2, c3, c4, c5⟩ := ds q hq
      have ec : (co (5 + q)).toNatClampNeg = c := by rw [c5]; exact nI_clamp (by omega)
      refine ⟨?_, ?_, ?_⟩
      · dsimp only
        rw [show va_cpy x10 dcold (ci 0) (ci 0) (ci 5) q = x10 q from cpy_in (n := 5) (by omega), ec, c4]
      · dsimp only
        rw [rowF_in0 hq, ec, c5]
      · dsimp only
        rw [ec]; exact c1
    · obtain ⟨xx, c, c1, c2, c3, c4, c5⟩ := ds q hq
      dsimp only
      rw [rowF_in0 hq, show va_cpy x9 dsees (ci 0) (ci 0) (ci 5) q = x9 q from cpy_in (n := 5) (by omega), c2]
      unfold seF
      rw [c3]
    · obtain ⟨d, d1, d2, d3⟩ := dd j hj
      have ec : (fi' (6 + j)).toNatClampNeg = d := by rw [d3]; exact nI_clamp (by omega)
      show va_cpy (va_cpy x12 ddebts (ci 0) (ci 0) (ci 6)) db (ci 0) (ci 0) (ci 6) j = nI ((fi' (6 + j)).toNatClampNeg)
      rw [show va_cpy (va_cpy x12 ddebts (ci 0) (ci 0) (ci 6)) db (ci 0) (ci 0) (ci 6) j = va_cpy x12 ddebts (ci 0) (ci 0) (ci 6) j from cpy_in (n := 6) (by omega), dc j (by omega), ec, d2]
    · exact fill_in hq
    · exact fill_in hq
    · exact fill_in (by omega)
    · show rowF (fun k => fi' (6 + k)) (rowF (fun _ => nI 0) s 0 48) 1 m 0 = nI 0
      rw [rowF_out (by omega), rowF_in0 (by omega)]
    · obtain ⟨d, d1, d2, d3⟩ := dd j hj
      have ec : (fi' (6 + j)).toNatClampNeg = d := by rw [d3]; exact nI_clamp (by omega)
      show rowF (fun k => fi' (6 + k)) (rowF (fun _ => nI 0) s 0 48) 1 m (1 + j) = nI ((fi' (6 + j)).toNatClampNeg)
      rw [rowF_in hj, ec, d3]
    · show rowF (fun k => fi' (6 + k)) (rowF (fun _ => nI 0) s 0 48) 1 m (7 + j) = nI 0
      rw [rowF_out (by omega), rowF_in0 (by omega)]
    · show rowF (fun k => fi' (6 + k)) (rowF (fun _ => nI 0) s 0 48) 1 m (13 + q) = nI 0
      rw [rowF_out (by omega), rowF_in0 (by omega)]
    · show rowF (fun k => fi' (6 + k)) (rowF (fun _ => nI 0) s 0 48) 1 m (18 + 5 * j + q) = nI 0
      rw [rowF_out (by omega), rowF_in0 (by omega)]
    · obtain ⟨d, d1, d2, d3⟩ := dd j hj
      have ec : (fi' (6 + j)).toNatClampNeg = d := by rw [d3]; exact nI_clamp (by omega)
      dsimp only
      rw [ec]; exact d1
    · obtain ⟨nx', kn, p1, p2, p3, p4, p5, p6⟩ := pr
      exact ⟨nx', 0, p1, p2, rfl, by omega, rfl, fun j hj => by omega⟩
    · refine Or.inl ⟨?_, ?_⟩
      · show rowF (fun _ => nI 0) kp 0 2 j = _
        rw [rowF_in0 hj]
      · show upd (upd isk 0 0) 1 0 j = _
        rcases (show j = 0 ∨ j = 1 by omega) with rfl | rfl
        · rw [upd_ne (by omega), upd_same]; rfl
        · rw [upd_same]; rfl
end DP
