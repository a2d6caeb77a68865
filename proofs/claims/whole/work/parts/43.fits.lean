/-! ===== pure side: fits ===== -/
/-- a mask of n bits -/
def mk (f : Nat → Bool) : Nat → Nat
  | 0 => 0
  | n + 1 => if f n then mk f n ||| 2 ^ n else mk f n
theorem mk_lt (f : Nat → Bool) : ∀ n, mk f n < 2 ^ n
  | 0 => by simp [mk]
  | n + 1 => by
    have h := mk_lt f n
    have h2 : 2 ^ n < 2 ^ (n + 1) := Nat.pow_lt_pow_right (by omega) (by omega)
    rw [mk]
    split
    · exact Nat.or_lt_two_pow (by omega) h2
    · omega
theorem mk_bit (f : Nat → Bool) (k : Nat) : ∀ n, (mk f n).testBit k = (decide (k < n) && f k)
  | 0 => by simp [mk]
  | n + 1 => by
    rw [mk]
    by_cases hkn : k = n
    · subst hkn
      by_cases hf : f k = true
      · rw [if_pos hf, Nat.testBit_or, Nat.testBit_two_pow]
        simp [hf]
      · rw [if_neg hf, mk_bit f k k]
        simp [hf]
    · have e : decide (k < n + 1) = decide (k < n) := by
        have : (k < n + 1) = (k < n) := by apply propext; omega
        simp [this]
      have e2 : ¬ n = k := fun h => hkn h.symm
      by_cases hf : f n = true
      · rw [if_pos hf, Nat.testBit_or, Nat.testBit_two_pow, mk_bit f k n, e]
        simp [e2]
      · rw [if_neg hf, mk_bit f k n, e]
theorem shl_one : ∀ n, n < 25 → nI 1 <<< (nI n &&& nI 31) = nI (2 ^ n) := by
  have h : ∀ n : Fin 25, nI 1 <<< (nI n.val &&& nI 31) = nI (2 ^ n.val) := by decide +kernel
  intro n hn
  exact h ⟨n, hn⟩
theorem shr_bit {a k : Nat} (ha : a < 2 ^ 31) (hk : k < 25) : (nI a >>> (nI k &&& nI 31)) &&& nI 1 = if a.testBit k then nI 1 else nI 0 := by
  have h : ∀ n : Fin 25, ((nI n.val &&& nI 31).toBitVec.smod 32).toNat = n.val := by decide +kernel
  rw [pk_shrN ha _ k (h ⟨k, hk⟩), pk_andN (by have := Nat.div_le_self a (2 ^ k); omega) 1 (by decide)]
  rw [Nat.testBit_eq_decide_div_mod_eq]
  have hm : a / 2 ^ k % 2 < 2 := Nat.mod_lt _ (by omega)
  by_cases h1 : a / 2 ^ k % 2 = 1
  · simp [h1]
  · have : a / 2 ^ k % 2 = 0 := by omega
    simp [this]
section FI
variable {N : Nat} {P M ON ST H : Nat} {CO : Nat → Nat} {D W S V : Nat → Nat} {G : Nat → Option Nat} {hr dposts dmen don dstove th : Int32} {db gu sd sv s dsees dcold many sees cold : FN} {fm fh fi gm gh gi w : FN} {size gn : Int32}
/-- an hour of the reference's row alone -/
theorem goes_ref (hN : 8000 < N) (dr : DR P M ON ST CO dposts dsees dcold dmen don dstove many sees cold) (iv : IV P M H D W G S V) (hH9 : H < 1000) (rs : RS M s H D W S V) :
    ∃ (s' : FN) (D' S' V' : Nat → Nat), f_X7_goes_w N many cold s = some s' ∧ RS M s' (H + 1) D' W S' V' ∧ IV P M (H + 1) D' W G S' V' ∧ (∀ m, m < M → D' m = stD ST H CO (W m) (D m)) := by
  have rw : RW M (nI H) (fun j => nI (D j)) (fun p => enc (G p)) (fun p => nI (S p)) (fun j => nI (V j)) H D G S V := ⟨rfl, fun _ _ => rfl, fun _ _ => rfl, fun _ _ => rfl, fun _ _ _ _ => rfl⟩
  obtain ⟨db', sd', sv', s', D', S', V', t1, t2, t3, t4, t5, t6⟩ := hour_two hN dr iv hH9 rw rs
  exact ⟨s', D', S', V', t2, t4, t5, t6⟩
def trj (ST H : Nat) (CO : Nat → Nat) (wm debt : Nat) : Nat → Nat
  | 0 => debt
  | k + 1 => stD ST (H + k) CO wm (trj ST H CO wm debt k)
theorem trj_le {wm debt : Nat} (hd : debt ≤ 60) : ∀ k, trj ST H CO wm debt k ≤ 60
  | 0 => hd
  | k + 1 => by
    have := trj_le (wm := wm) hd k
    rw [trj]
    unfold stD
    split <;> omega
def slk (ST H : Nat) (CO : Nat → Nat) (wm debt k : Nat) : Bool := decide (0 < wm ∧ 40 ≤ trj ST H CO wm debt k)
theorem hoursAsleep_eq (hN : 8000 < N) (hP : P ≤ 5) (hco : ∀ p, p < P → dcold p = nI (CO p) ∧ CO p ≤ 9) (hH : H ≤ 200) {wm debt : Nat} (hw : wm ≤ P) (hd : debt ≤ 60) : ∃ a, a < 2 ^ 25 ∧ f_X6_hoursAsleep N (pl wm) (nI debt) dcold (nI H) = some (nI a) ∧ ∀ k, k < 25 → a.testBit k = slk ST H CO wm debt k := by
  unfold f_X6_hoursAsleep
  by_cases h0 : wm = 0
  · subst h0
    refine ⟨0, by omega, ?_, fun k hk => by simp [slk]⟩
    rw [if_pos (show pl 0 = (-9 : Int32) from rfl)]; rfl
  · have hpl : pl wm = nI (wm - 1) := by simp [pl, h0]
    refine ⟨mk (slk ST H CO wm debt) 25, mk_lt _ 25, ?_, fun k hk => by rw [mk_bit]; simp [hk]⟩
    rw [hpl, if_neg (by show ¬ nI (wm - 1) = -nI 9; rw [nI_ne_neg (by omega) (by omega) (by omega)]; exact fun h => h)]
    have h := lp_seq (body := fun x : Int32 × Int32 × Int32 => b_X6_hoursAsleep_1 N (nI (wm - 1)) dcold (nI H) x.1 x.2.1 x.2.2) (t := nI (mk (slk ST H CO wm debt) 25)) (fun i => (nI (mk (slk ST H CO wm debt) i), nI (trj ST H CO wm debt i), nI i)) 25 (N := N) (by
      intro i hi
      have n1 : ¬ 24 < i := by omega
      have hb := burden_eq (N := N) (p := wm - 1) (h := H + i) (dcold := dcold) (by omega) (by omega) (hco (wm - 1) (by omega)).1 (hco (wm - 1) (by omega)).2
      have ht := trj_le (ST := ST) (H := H) (CO := CO) (wm := wm) hd i
      have hbl := bur_le (h := H + i) (hco (wm - 1) (by omega)).2
      have e1 : (if 60 < trj ST H CO wm debt i + bur (CO (wm - 1)) (H + i) then nI 60 else nI (trj ST H CO wm debt i + bur (CO (wm - 1)) (H + i))) = nI (trj ST H CO wm debt (i + 1)) := by
        rw [trj, stD, if_neg h0]
        by_cases h1 : 60 < trj ST H CO wm debt i + bur (CO (wm - 1)) (H + i)
        · rw [if_pos h1, Nat.min_eq_left (by omega)]
        · rw [if_neg h1, Nat.min_eq_right (by omega)]
      simp (disch := omega) only [b_X6_hoursAsleep_1, fa_lit, nI_ltI, n1, ↓reduceIte, nI_add, hb, ob, shl_one i hi]
      rw [mk]
      by_cases h4 : trj ST H CO wm debt i < 40
      · have : slk ST H CO wm debt i = false := by simp [slk]; omega
        simp only [h4, this, ↓reduceIte, e1, Bool.false_eq_true]
      · have : slk ST H CO wm debt i = true := by simp [slk]; omega
        simp only [h4, this, ↓reduceIte, e1, fa_or]) (by
      have n1 : 24 < 25 := by omega
      simp (disch := omega) only [b_X6_hoursAsleep_1, fa_lit, nI_ltI, n1, ↓reduceIte]) (by omega)
    rw [show lp (fun x : Int32 × Int32 × Int32 => b_X6_hoursAsleep_1 N (nI (wm - 1)) dcold (nI H) x.1 x.2.1 x.2.2) N (0, nI debt, 0) = _ from h]; rfl
/-- does what was found agree with who would be asleep (f) -/
def okB (f : Nat → Bool) (m : Int32) (gm gi : FN) (hk : Nat → Nat) : Nat → Bool
  | 0 => true
  | e + 1 => okB f m gm gi hk e && (!decide (gm e = m) || decide ((if f (hk e) then nI 1 else nI 0) = gi e))
theorem okB_mono {f : Nat → Bool} {m : Int32} {gm gi : FN} {hk : Nat → Nat} {a : Nat} (h : okB f m gm gi hk a = false) : ∀ n, a ≤ n → okB f m gm gi hk n = false := by
  intro n
  induction n with
  | zero => intro hn; rw [show a = 0 by omega] at h; exact h
  | succ n ih =>
    intro hn
    by_cases e : a = n + 1
    · rw [← e]; exact h
    · rw [okB, ih (by omega)]; rfl
theorem agree_eq (hN : 8000 < N) {n a : Nat} (hn : n ≤ 6) (m : Int32) (hk : Nat → Nat) (f : Nat → Bool) (ha : a < 2 ^ 25) (hf : ∀ k, k < 25 → a.testBit k = f k) (h1 : ∀ e, e < n → fm e = gm e ∧ fh e = nI (hk e) ∧ hk e ≤ 24 ∧ fi e = gi e) : f_X1_agree N m (nI a) (nI n) fm fh fi = some (if okB f m gm gi hk n then nI 1 else nI 0) := by
  unfold f_X1_agree
  obtain ⟨t, g1, g2⟩ := lp_inv (body := fun x : Int32 => b_X1_agree_1 N m (nI a) (nI n) fm fh fi x) (Q := fun t => (Sum.elim (fun _ => some 1) (fun r_ => some r_) t : Option Int32) = some (if okB f m gm gi hk n then nI 1 else nI 0)) (fun i x => x = nI i ∧ okB f m gm gi hk i = true) n 0 N (by
    rintro i x hi ⟨rfl, hok⟩
    obtain ⟨a1, a2, a3, a4⟩ := h1 i hi
    have n1 : ¬ n ≤ i := by omega
    have n2 : i < 6 := by omega
    have hb := shr_bit (a := a) (k := hk i) (by omega) (by omega)
    rw [hf (hk i) (by omega)] at hb
    simp (disch := omega) only [b_X1_agree_1, fa_lit, nI_leI, n1, ↓reduceIte, ix_iff, ci_nI, n2, a1, a2, a4, hb]
    by_cases c1 : gm i = m
    · by_cases c2 : (if f (hk i) = true then nI 1 else nI 0) = gi i
      · refine Or.inl ⟨nI (i + 1), ?_, rfl, ?_⟩
        · simp only [c1, c2, ↓reduceIte, nI_add]
        · rw [okB, hok]; simp [c2]
      · refine Or.inr ⟨.inr (nI 0), ?_, ?_⟩
        · simp only [c1, c2, ↓reduceIte]
        · have : okB f m gm gi hk n = false := okB_mono (a := i + 1) (by rw [okB, hok]; simp [c1, c2]) n (by omega)
          rw [this]; rfl
    · refine Or.inl ⟨nI (i + 1), ?_, rfl, ?_⟩
      · simp only [c1, ↓reduceIte, nI_add]
      · rw [okB, hok]; simp [c1]) (by
    rintro x ⟨rfl, hok⟩
    refine ⟨.inl (), ?_, ?_⟩
    · simp (disch := omega) only [b_X1_agree_1, nI_leI, Nat.le_refl, ↓reduceIte]
    · rw [hok]; rfl) (by omega) ⟨rfl, rfl⟩
  rw [show lp (fun x : Int32 => b_X1_agree_1 N m (nI a) (nI n) fm fh fi x) N 0 = some t from g1]
  exact g2
set_option maxHeartbeats 1000000 in
theorem isFit_eq (hN : 8000 < N) (dr : DR P M ON ST CO dposts dsees dcold dmen don dstove many sees cold) (iv : IV P M H D W G S V) (hH : H ≤ 200) (rs : RS M s H D W S V) {n m debt : Nat} (hn : n ≤ 6) (hm : m < M) (hd : debt ≤ 60) (hk : Nat → Nat) (h1 : ∀ e, e < n → gh e = nI (hk e) ∧ hk e ≤ 24 ∧ (gi e = nI 0 ∨ gi e = nI 1)) (w : FN) : ∃ w', f_X7_isFit N (nI m) (nI debt) many cold s w gm gh gi (nI n) = some (if okB (slk ST H CO (W m) debt) (nI m) gm gi hk n then nI 1 else nI 0, w') := by
  obtain ⟨hP, hM, hH9, hD, hW, lk, hS, hV⟩ := id iv
  unfold f_X7_isFit
  obtain ⟨t, g1, g2⟩ := lp_inv (body := fun x : Int32 × Int32 × FN => b_X7_isFit_1 N (nI m) (nI debt) many cold s gm gh gi (nI n) x.1 x.2.1 x.2.2) (Q := fun t => t.1 = if okB (slk ST H CO (W m) debt) (nI m) gm gi hk n then nI 1 else nI 0) (fun i x => x.1 = (if okB (slk ST H CO (W m) debt) (nI m) gm gi hk i then nI 1 else nI 0) ∧ x.2.1 = nI i) n (1, 0, w) N (by
    rintro i ⟨x1, x2, x3⟩ hi ⟨hx1, hx2⟩
    dsimp only at hx1 hx2 ⊢
    subst hx2
    obtain ⟨a1, a2, a3⟩ := h1 i hi
    have n1 : ¬ n ≤ i := by omega
    have n2 : i < 6 := by omega
    have n3 : 1 + m < 48 := by omega
    refine Or.inl ?_
    by_cases c1 : gm i = nI m
    · have rs0 : RS M (upd (rowF s x3 0 48) (1 + m) (nI debt)) H (updN D m debt) W S V := by
        have r := RS_cong (s' := rowF s x3 0 48) hM rs (rowF48 _ _)
        refine ⟨by rw [upd_ne (by omega)]; exact r.1, fun k hk => ?_, fun k hk => by rw [upd_ne (by omega)]; exact r.2.2.1 k hk, fun p hp => by rw [upd_ne (by omega)]; exact r.2.2.2.1 p hp, fun k hk p hp => by rw [upd_ne (by omega)]; exact r.2.2.2.2 k hk p hp⟩
        by_cases e : k = m
        · subst e; rw [upd_same, updN_same]
        · rw [upd_ne (by omega), updN_ne e]; exact r.2.1 k hk
      have iv0 : IV P M H (updN D m debt) W G S V := by
        refine ⟨hP, hM, hH9, fun k hk => ?_, hW, lk, hS, hV⟩
        by_cases e : k = m
        · subst e; rw [updN_same]; exact hd
        · rw [updN_ne e]; exact hD k hk
      obtain ⟨t, l1, D', S', V', l2, l3, l4⟩ := lp_inv (body := fun x : Int32 × FN => b_X7_isFit_2 N (nI m) (nI debt) x1 (nI i) many cold gh x.1 x.2) (Q := fun t => ∃ D' S' V', RS M t (H + hk i) D' W S' V' ∧ IV P M (H + hk i) D' W G S' V' ∧ D' m = trj ST H CO (W m) debt (hk i)) (fun j x => x.1 = nI j ∧ ∃ D' S' V', RS M x.2 (H + j) D' W S' V' ∧ IV P M (H + j) D' W G S' V' ∧ D' m = trj ST H CO (W m) debt j) (hk i) (0, upd (rowF s x3 0 48) (1 + m) (nI debt)) N (by
        rintro j ⟨y1, y2⟩ hj ⟨hy1, D', S', V', r1, r2, r3⟩
        dsimp only at hy1 r1 ⊢
        subst hy1
        have n4 : ¬ hk i ≤ j := by omega
        obtain ⟨s', D2, S2, V2, t1, t2, t3, t4⟩ := goes_ref hN dr r2 (by omega) r1
        refine Or.inl ⟨(nI (j + 1), s'), ?_, rfl, D2, S2, V2, t2, t3, ?_⟩
        · have t1' : f_X7_goesBy N (nI 0) many cold y2 = some s' := by
            unfold f_X7_goesBy
            rw [t1, Option.bind_some, if_neg (by decide)]
          simp (disch := omega) only [b_X7_isFit_2, fa_lit, ix_iff, ci_nI, n2, ↓reduceIte, a1, nI_leI, n4, t1', ob, nI_add]
        · rw [t4 m hm, r3]; rfl) (by
        rintro ⟨y1, y2⟩ ⟨hy1, hr⟩
        dsimp only at hy1 hr ⊢
        subst hy1
        refine ⟨y2, ?_, hr⟩
        simp (disch := omega) only [b_X7_isFit_2, ix_iff, ci_nI, n2, ↓reduceIte, a1, nI_leI, Nat.le_refl]) (by omega) ⟨rfl, _, _, _, rs0, iv0, by rw [updN_same]; rfl⟩
      have ia := isAsleep_eq (N := N) l3 l2 hm
      rw [l4] at ia
      have ea : f_X7_asNow N s x3 = _ := asNow_eq (N := N) (s := s) hN x3
      simp (disch := omega) only [b_X7_isFit_1, fa_lit, nI_leI, n1, ↓reduceIte, ix_iff, ci_nI, n2, n3, c1, nI_add, ea, ob]
      rw [show lp (fun x : Int32 × FN => b_X7_isFit_2 N (nI m) (nI debt) x1 (nI i) many cold gh x.1 x.2) N (nI 0, upd (rowF s x3 0 48) (1 + m) (nI debt)) = some t from l1]
      simp only [ob, ia]
      have zz : ¬ nI 1 = nI 0 := by decide
      by_cases c0 : okB (slk ST H CO (W m) debt) (nI m) gm gi hk i = true
      · rw [if_pos c0] at hx1
        subst hx1
        by_cases c3 : 0 < W m ∧ 40 ≤ trj ST H CO (W m) debt (hk i)
        · have hs : slk ST H CO (W m) debt (hk i) = true := by simp [slk, c3]
          by_cases c4 : nI 1 = gi i
          · have c4' : (nI 1 = gi i) = True := eq_true c4
            simp only [zz, c3, and_self, c4', ↓reduceIte]
            refine ⟨_, rfl, ?_, rfl⟩
            rw [okB, c0, hs]
            simp [c1, ← c4]
          · simp only [zz, c3, and_self, c4, ↓reduceIte]
            refine ⟨_, rfl, ?_, rfl⟩
            rw [okB, c0, hs]
            simp [c1, c4]
        · have hs : slk ST H CO (W m) debt (hk i) = false := by simp only [slk, c3, decide_false]
          by_cases c4 : nI 0 = gi i
          · have c4' : (nI 0 = gi i) = True := eq_true c4
            simp only [zz, c3, c4', ↓reduceIte]
            refine ⟨_, rfl, ?_, rfl⟩
            rw [okB, c0, hs]
            simp [c1, ← c4]
          · simp only [zz, c3, c4, ↓reduceIte]
            refine ⟨_, rfl, ?_, rfl⟩
            rw [okB, c0, hs]
            simp [c1, c4]
      · rw [if_neg c0] at hx1
        subst hx1
        simp only [↓reduceIte]
        refine ⟨_, rfl, ?_, rfl⟩
        have : okB (slk ST H CO (W m) debt) (nI m) gm gi hk i = false := by simpa using c0
        rw [okB, this]; rfl
    · simp (disch := omega) only [b_X7_isFit_1, fa_lit, nI_leI, n1, ↓reduceIte, ix_iff, ci_nI, n2, c1, nI_add]
      refine ⟨_, rfl, ?_, rfl⟩
      rw [okB, hx1]
      simp [c1]) (by
    rintro ⟨x1, x2, x3⟩ ⟨hx1, hx2⟩
    dsimp only at hx1 hx2 ⊢
    subst hx2
    refine ⟨(x1, x3), ?_, hx1⟩
    simp (disch := omega) only [b_X7_isFit_1, nI_leI, Nat.le_refl, ↓reduceIte]) (by omega) ⟨rfl, rfl⟩
  obtain ⟨t1, t2⟩ := t
  dsimp only at g2
  refine ⟨t2, ?_⟩
  rw [show lp (fun x : Int32 × Int32 × FN => b_X7_isFit_1 N (nI m) (nI debt) many cold s gm gh gi (nI n) x.1 x.2.1 x.2.2) N (1, 0, w) = _ from g1, Option.bind_some]
  dsimp only
  rw [g2]
  split <;> rfl
theorem c_fits (hN : 8000 < N) (dr : DR P M ON ST CO dposts dsees dcold dmen don dstove many sees cold) (ws : WS P M hr db gu sd sv s) (fr : FindR size fm fh fi gm gh gi gn) (a1 a2 : Int32) : ∃ v w', f_X6_fits N a1 a2 dcold dmen hr gu size fm fh fi = some v ∧ f_X7_fits N a1 a2 th many cold s w gm gh gi gn = some (v, 0, w') := by
  obtain ⟨⟨e1, e2, e3, e4⟩, ⟨dm0, dm1, dm2, dm3⟩, ⟨dP, dM, dON, dST⟩, dco, dse⟩ := id dr
  obtain ⟨H, D, W, G, S, V, rw, rs, iv, hh⟩ := ws
  obtain ⟨hP, hM, hH9, hD, hW, lk, hS, hV⟩ := id iv
  obtain ⟨n, hn, rfl, rfl, hfd⟩ := fr
  have z0 : ¬ nI 1 = (0 : Int32) := by decide
  have zz : nI 0 = (0 : Int32) := rfl
  unfold f_X6_fits f_X7_fits
  rw [e2]
  rcases man_cases (N := N) (many := many) a1 dM dm1 with ⟨h1, h2⟩ | ⟨m, hm, rfl, h1, h2⟩
  · rw [h1, h2, Option.bind_some, Option.bind_some, if_pos zz, if_pos zz]
    exact ⟨-1, _, rfl, rfl⟩
  rw [h1, h2, Option.bind_some, Option.bind_some, if_neg z0, if_neg z0]
  rcases range_cases (N := N) a2 0 1 (by omega) (by omega) with ⟨g1, g2, -⟩ | ⟨what, -, hwhat, rfl, g1, g2⟩
  · rw [show f_X6_within N a2 0 1 = _ from g1, show f_X7_in N a2 0 1 = _ from g2, Option.bind_some, Option.bind_some, if_pos zz, if_pos zz]
    exact ⟨-1, _, rfl, rfl⟩
  rw [show f_X6_within N (nI what) 0 1 = _ from g1, show f_X7_in N (nI what) 0 1 = _ from g2, Option.bind_some, Option.bind_some, if_neg z0, if_neg z0, placeOf_eq hN hM (fun m hm => Nat.le_trans (hW m hm) hP) lk rw.2.2.1 hm, Option.bind_some, rw.1]
  have hk1 : ∀ e, e < n → fm e = gm e ∧ fh e = nI ((gh e).toNatClampNeg) ∧ (gh e).toNatClampNeg ≤ 24 ∧ fi e = gi e := by
    intro e he
    obtain ⟨b1, b2, b3, m', k', b', c1, c2, c3, c4, c5, c6⟩ := hfd e he
    have : (gh e).toNatClampNeg = k' := by rw [c5]; exact nI_clamp (by omega)
    exact ⟨b1, by rw [this, b2, c5], by omega, b3⟩
  have hk2 : ∀ e, e < n → gh e = nI ((gh e).toNatClampNeg) ∧ (gh e).toNatClampNeg ≤ 24 ∧ (gi e = nI 0 ∨ gi e = nI 1) := by
    intro e he
    obtain ⟨b1, b2, b3, m', k', b', c1, c2, c3, c4, c5, c6⟩ := hfd e he
    have : (gh e).toNatClampNeg = k' := by rw [c5]; exact nI_clamp (by omega)
    refine ⟨by rw [this, c5], by omega, ?_⟩
    rcases (show b' = 0 ∨ b' = 1 by omega) with rfl | rfl
    · exact Or.inl c6
    · exact Or.inr c6
  obtain ⟨t, t', l1, l2, q1, q2⟩ := lp_two (b1 := fun x : Int32 × Int32 × Int32 => b_X6_fits_1 N (nI m) (nI what) (pl (W m)) dcold (nI H) (nI n) fm fh fi x.1 x.2.1 x.2.2) (b2 := fun x : Int32 × Int32 × Int32 × FN => b_X7_fits_1 N (nI m) (nI what) many cold s gm gh gi (nI n) x.1 x.2.1 x.2.2.1 x.2.2.2)
    (Q := fun t t' => t.1 = t'.1 ∧ t.2 = t'.2.1) 61 (fun i x y => x.2.2 = nI i ∧ y.2.2.1 = nI i ∧ x.1 = y.1 ∧ x.2.1 = y.2.1 ∧ ∃ c, c ≤ i ∧ x.1 = nI c ∧ ((c = 0 ∧ x.2.1 = -nI 9) ∨ (0 < c ∧ ∃ l, l ≤ 60 ∧ x.2.1 = nI l))) (0, -9, 0) (0, -9, 0, w) N (by
      rintro i ⟨x1, x2, x3⟩ ⟨y1, y2, y3, y4⟩ hi ⟨g1, g2, g3, g4, c, hc, g5, g6⟩
      dsimp only at g1 g2 g3 g4 g5 g6 ⊢
      subst g1 g2 g3 g4 g5
      have n1 : ¬ 60 < i := by omega
      obtain ⟨a, ha, e5, e6⟩ := hoursAsleep_eq (N := N) (ST := ST) (H := H) (wm := W m) (debt := i) hN hP (fun p hp => ⟨(dco p hp).1, (dco p hp).2.2⟩) hh (hW m hm) (by omega)
      have e7 := agree_eq (N := N) (gm := gm) (gi := gi) hN hn (nI m) (fun e => (gh e).toNatClampNeg) (slk ST H CO (W m) i) ha e6 hk1
      obtain ⟨w', e8⟩ := isFit_eq (gm := gm) hN dr iv hh rs hn hm (show i ≤ 60 by omega) (fun e => (gh e).toNatClampNeg) hk2 y4
      have zz : ¬ nI 1 = nI 0 := by decide
      refine Or.inl ?_
      simp (disch := omega) only [b_X6_fits_1, b_X7_fits_1, fa_lit, nI_ltI, n1, ↓reduceIte, e5, e7, e8, ob, nI_eq]
      by_cases hok : okB (slk ST H CO (W m) i) (nI m) gm gi (fun e => (gh e).toNatClampNeg) n = true
      · simp only [hok, zz, ↓reduceIte, nI_add]
        rcases g6 with ⟨rfl, rfl⟩ | ⟨hc0, l, hl, rfl⟩
        · simp only [↓reduceIte]
          exact ⟨_, _, rfl, rfl, rfl, rfl, rfl, rfl, 0 + 1, by omega, rfl, Or.inr ⟨by omega, i, by omega, rfl⟩⟩
        · have : ¬ c = 0 := by omega
          simp (disch := omega) only [nI_ne_neg, this, ↓reduceIte]
          exact ⟨_, _, rfl, rfl, rfl, rfl, rfl, rfl, c + 1, by omega, rfl, Or.inr ⟨by omega, l, hl, rfl⟩⟩
      · simp only [hok, ↓reduceIte, nI_add, Bool.false_eq_true]
        exact ⟨_, _, rfl, rfl, rfl, rfl, rfl, rfl, c, by omega, rfl, g6⟩) (by
      rintro ⟨x1, x2, x3⟩ ⟨y1, y2, y3, y4⟩ ⟨g1, g2, g3, g4, c, hc, g5, g6⟩
      dsimp only at g1 g2 g3 g4 g5 g6 ⊢
      subst g1 g2 g3 g4 g5
      have n1 : 60 < 61 := by omega
      simp (disch := omega) only [b_X6_fits_1, b_X7_fits_1, fa_lit, nI_ltI, n1, ↓reduceIte]
      exact ⟨_, _, rfl, rfl, rfl, rfl⟩) (by omega) ⟨rfl, rfl, rfl, rfl, 0, by omega, rfl, Or.inl ⟨rfl, rfl⟩⟩
  rw [show lp (fun x : Int32 × Int32 × Int32 => b_X6_fits_1 N (nI m) (nI what) (pl (W m)) dcold (nI H) (nI n) fm fh fi x.1 x.2.1 x.2.2) N (0, -9, 0) = _ from l1, show lp (fun x : Int32 × Int32 × Int32 × FN => b_X7_fits_1 N (nI m) (nI what) many cold s gm gh gi (nI n) x.1 x.2.1 x.2.2.1 x.2.2.2) N (0, -9, 0, w) = _ from l2, Option.bind_some, Option.bind_some, q1, q2]
  by_cases hw : nI what = 0
  · rw [if_pos hw, if_pos hw]
    exact ⟨_, _, rfl, rfl⟩
  · rw [if_neg hw, if_neg hw]
    exact ⟨_, _, rfl, rfl⟩
end FI
