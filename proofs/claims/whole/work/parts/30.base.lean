/-! ===== pure side: loops, small numbers, bits ===== -/
theorem fa_lit (n : Nat) : (OfNat.ofNat n : Int32) = nI n := rfl
/-- n rounds of a loop that all go on -/
theorem lp_run {σ τ : Type} {body : σ → Option (σ ⊕ τ)} (J : Nat → σ → Prop) : ∀ (n : Nat) (s : σ), (∀ i s, i < n → J i s → ∃ s', body s = some (.inl s') ∧ J (i + 1) s') → J 0 s → ∃ s', J n s' ∧ ∀ N, lp body (N + n) s = lp body N s' := by
  intro n
  induction n with
  | zero => intro s _ h; exact ⟨s, h, fun N => rfl⟩
  | succ n ih =>
    intro s hs h0
    obtain ⟨s1, h1, h2⟩ := ih s (fun i s hi hJ => hs i s (by omega) hJ) h0
    obtain ⟨s2, h3, h4⟩ := hs n s1 (by omega) h1
    refine ⟨s2, h4, fun N => ?_⟩
    rw [show N + (n + 1) = (N + 1) + n by omega, h2]
    show (match body s1 with | none => none | some (.inl s') => lp body N s' | some (.inr t) => some t) = _
    rw [h3]
theorem lp_inl {σ τ : Type} {body : σ → Option (σ ⊕ τ)} {s s' : σ} {N : Nat} (h : body s = some (.inl s')) : lp body (N + 1) s = lp body N s' := by
  show (match body s with | none => none | some (.inl s') => lp body N s' | some (.inr t) => some t) = _
  rw [h]
theorem lp_inr {σ τ : Type} {body : σ → Option (σ ⊕ τ)} {s : σ} {t : τ} {N : Nat} (h : body s = some (.inr t)) : lp body (N + 1) s = some t := by
  show (match body s with | none => none | some (.inl s') => lp body N s' | some (.inr t) => some t) = _
  rw [h]
theorem lp_inv {σ τ : Type} {body : σ → Option (σ ⊕ τ)} {Q : τ → Prop} (J : Nat → σ → Prop) : ∀ (n : Nat) (s : σ) (N : Nat), (∀ i s, i < n → J i s → (∃ s', body s = some (.inl s') ∧ J (i + 1) s') ∨ (∃ t, body s = some (.inr t) ∧ Q t)) → (∀ s, J n s → ∃ t, body s = some (.inr t) ∧ Q t) → n < N → J 0 s → ∃ t, lp body N s = some t ∧ Q t := by
  have key : ∀ (k n : Nat) (J : Nat → σ → Prop) (s : σ) (N : Nat), k = n → (∀ i s, i < n → J i s → (∃ s', body s = some (.inl s') ∧ J (i + 1) s') ∨ (∃ t, body s = some (.inr t) ∧ Q t)) → (∀ s, J n s → ∃ t, body s = some (.inr t) ∧ Q t) → n < N → J 0 s → ∃ t, lp body N s = some t ∧ Q t := by
    intro k
    induction k with
    | zero =>
      intro n J s N hk hs hf hN h0
      subst hk
      obtain ⟨t, h1, h2⟩ := hf s h0
      obtain ⟨N, rfl⟩ : ∃ N', N = N' + 1 := ⟨N - 1, by omega⟩
      exact ⟨t, lp_inr h1, h2⟩
    | succ k ih =>
      intro n J s N hk hs hf hN h0
      subst hk
      obtain ⟨N, rfl⟩ : ∃ N', N = N' + 1 := ⟨N - 1, by omega⟩
      rcases hs 0 s (by omega) h0 with ⟨s', h1, h2⟩ | ⟨t, h1, h2⟩
      · rw [lp_inl h1]
        exact ih k (fun i => J (i + 1)) s' N rfl (fun i s hi hJ => hs (i + 1) s (by omega) hJ) hf (by omega) h2
      · exact ⟨t, lp_inr h1, h2⟩
  intro n s N
  exact key n n J s N rfl
/-- the same, where the loop's state is known at each round, and it ends with t -/
theorem lp_seq {σ τ : Type} {body : σ → Option (σ ⊕ τ)} {t : τ} (st : Nat → σ) (n : Nat) {N : Nat} (hs : ∀ i, i < n → body (st i) = some (.inl (st (i + 1)))) (hf : body (st n) = some (.inr t)) (hN : n < N) : lp body N (st 0) = some t := by
  obtain ⟨t', h1, rfl⟩ := lp_inv (body := body) (Q := fun t' => t' = t) (fun i s => s = st i) n (st 0) N (fun i s hi e => Or.inl ⟨st (i + 1), by rw [e]; exact hs i hi, rfl⟩) (fun s e => ⟨t, by rw [e]; exact hf, rfl⟩) hN rfl
  exact h1
/-- two loops side by side -/
theorem lp_two {σ τ σ' τ' : Type} {b1 : σ → Option (σ ⊕ τ)} {b2 : σ' → Option (σ' ⊕ τ')} {Q : τ → τ' → Prop} : ∀ (n : Nat) (J : Nat → σ → σ' → Prop) (s : σ) (s' : σ') (N : Nat), (∀ i s s', i < n → J i s s' → (∃ u u', b1 s = some (.inl u) ∧ b2 s' = some (.inl u') ∧ J (i + 1) u u') ∨ (∃ t t', b1 s = some (.inr t) ∧ b2 s' = some (.inr t') ∧ Q t t')) → (∀ s s', J n s s' → ∃ t t', b1 s = some (.inr t) ∧ b2 s' = some (.inr t') ∧ Q t t') → n < N → J 0 s s' → ∃ t t', lp b1 N s = some t ∧ lp b2 N s' = some t' ∧ Q t t' := by
  intro n
  induction n with
  | zero =>
    intro J s s' N hs hf hN h0
    obtain ⟨t, t', h1, h2, h3⟩ := hf s s' h0
    obtain ⟨N, rfl⟩ : ∃ N', N = N' + 1 := ⟨N - 1, by omega⟩
    exact ⟨t, t', lp_inr h1, lp_inr h2, h3⟩
  | succ n ih =>
    intro J s s' N hs hf hN h0
    obtain ⟨N, rfl⟩ : ∃ N', N = N' + 1 := ⟨N - 1, by omega⟩
    rcases hs 0 s s' (by omega) h0 with ⟨u, u', h1, h2, h3⟩ | ⟨t, t', h1, h2, h3⟩
    · rw [lp_inl h1, lp_inl h2]
      exact ih (fun i => J (i + 1)) u u' N (fun i s s' hi hJ => hs (i + 1) s s' (by omega) hJ) hf (by omega) h3
    · exact ⟨t, t', lp_inr h1, lp_inr h2, h3⟩
/-! small numbers -/
theorem ci_nI {a : Nat} (h : a < 2 ^ 31) : ci (nI a) = a := nI_clamp h
theorem ix_iff {a n : Nat} (h : a < 2 ^ 31) : ix (nI a) n = true ↔ a < n := by
  have h1 : ¬ nI a < 0 := nI_pos h
  have h2 : (nI a).toNatClampNeg = a := nI_clamp h
  simp [ix, h1, h2]
theorem nI_inj {a b : Nat} (ha : a < 2 ^ 31) (hb : b < 2 ^ 31) (h : nI a = nI b) : a = b := (nI_eq ha hb).mp h
theorem neg_toInt {k : Nat} (hk : k < 2 ^ 31) : (-nI k).toInt = -(k : Int) := sb_negT hk
theorem nI_ne_neg {a k : Nat} (ha : a < 2 ^ 31) (hk : k < 2 ^ 31) (h0 : 0 < k) : (nI a = -nI k) = False := by
  apply eq_false
  intro h
  have h1 := congrArg Int32.toInt h
  rw [neg_toInt hk, nI_toInt ha] at h1
  omega
theorem neg_ne_nI {a k : Nat} (ha : a < 2 ^ 31) (hk : k < 2 ^ 31) (h0 : 0 < k) : (-nI k = nI a) = False := by
  apply eq_false
  intro h
  have h1 := congrArg Int32.toInt h
  rw [neg_toInt hk, nI_toInt ha] at h1
  omega
theorem nI_lt0 {a : Nat} (h : a < 2 ^ 31) : (nI a < nI 0) = False := eq_false (nI_pos h)
theorem irem_nI {a d : Nat} (ha : a < 2 ^ 31) (h0 : 0 < d) (hd : d < 2 ^ 31) : nI a % nI d = nI (a % d) := by
  rw [← irem_eq_mod]
  exact pk_rem ha h0 hd
theorem upd_same {f : FN} {k : Nat} {x : Int32} : upd f k x k = x := by simp [upd]
theorem upd_ne {f : FN} {k j : Nat} {x : Int32} (h : j ≠ k) : upd f k x j = f j := by simp [upd, h]
def updN (f : Nat → Nat) (k x : Nat) : Nat → Nat := fun j => if j = k then x else f j
theorem updN_same {f : Nat → Nat} {k x : Nat} : updN f k x k = x := by simp [updN]
theorem updN_ne {f : Nat → Nat} {k j x : Nat} (h : j ≠ k) : updN f k x j = f j := by simp [updN, h]
theorem cpy_in {f g : FN} {j n : Nat} (h : j < n) : va_cpy f g 0 0 n j = f j := by
  show (if 0 ≤ j ∧ j < 0 + n then f (0 + (j - 0)) else g j) = f j
  rw [if_pos ⟨by omega, by omega⟩, Nat.sub_zero, Nat.zero_add]
