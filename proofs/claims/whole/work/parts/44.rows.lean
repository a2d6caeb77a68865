/-! ===== pure side: rows of men, as numbers; the best one ===== -/
def dg (M P way j : Nat) : Nat := way / M ^ (P - 1 - j) % M
def mxN : Nat → (Nat → Nat) → Nat
  | 0, _ => 0
  | n + 1, f => max (mxN n f) (f n)
theorem mxN_cong {f g : Nat → Nat} : ∀ {n : Nat}, (∀ k, k < n → f k = g k) → mxN n f = mxN n g
  | 0, _ => rfl
  | n + 1, h => by rw [mxN, mxN, mxN_cong (fun k hk => h k (by omega)), h n (by omega)]
theorem mxN_le {f : Nat → Nat} {c : Nat} : ∀ {n : Nat}, (∀ k, k < n → f k ≤ c) → mxN n f ≤ c
  | 0, _ => by simp [mxN]
  | n + 1, h => by
    have h1 := mxN_le (f := f) (c := c) (n := n) (fun k hk => h k (by omega))
    have h2 := h n (by omega)
    rw [mxN]; omega
theorem mxN_mono (f : Nat → Nat) {a : Nat} : ∀ {b : Nat}, a ≤ b → mxN a f ≤ mxN b f := by
  intro b
  induction b with
  | zero => intro h; rw [show a = 0 by omega]; exact Nat.le_refl _
  | succ b ih =>
    intro h
    by_cases e : a = b + 1
    · rw [e]; exact Nat.le_refl _
    · have := ih (by omega)
      rw [mxN]; omega
def rowB (M P way : Nat) : Bool := !(anyB P (fun b => anyB b (fun a => decide (dg M P way a = dg M P way b))))
theorem rowB_iff {M P way : Nat} : rowB M P way = true ↔ ∀ a b, a < b → b < P → dg M P way a ≠ dg M P way b := by
  unfold rowB
  rw [Bool.not_eq_true', ← Bool.not_eq_true, anyB_iff]
  constructor
  · intro h a b h1 h2 h3
    exact h ⟨b, h2, anyB_iff.mpr ⟨a, h1, by simpa using h3⟩⟩
  · rintro h ⟨b, h2, h3⟩
    obtain ⟨a, h1, h4⟩ := anyB_iff.mp h3
    exact h a b h1 h2 (by simpa using h4)
def cst (M P : Nat) (dt : Nat → Nat → Nat) (way : Nat) : Nat := mxN P (fun j => dt (dg M P way j) j)
def lst (M P : Nat) (dt : Nat → Nat → Nat) : Option Nat → Nat
  | none => 61
  | some b => cst M P dt b
/-- the first of the best rows below n -/
def FB (M P : Nat) (dt : Nat → Nat → Nat) : Nat → Option Nat
  | 0 => none
  | n + 1 => if rowB M P n && decide (cst M P dt n < lst M P dt (FB M P dt n)) then some n else FB M P dt n
section RO
variable {M P : Nat} {dt : Nat → Nat → Nat}
theorem FB_skip {a : Nat} : ∀ b, a ≤ b → (∀ way, a ≤ way → way < b → rowB M P way = true → lst M P dt (FB M P dt a) ≤ cst M P dt way) → FB M P dt b = FB M P dt a := by
  intro b
  induction b with
  | zero => intro h _; rw [show a = 0 by omega]
  | succ b ih =>
    intro h hs
    by_cases e : a = b + 1
    · rw [e]
    · have i1 := ih (by omega) (fun way h1 h2 h3 => hs way h1 (by omega) h3)
      rw [FB, i1]
      by_cases hr : rowB M P b = true
      · have := hs b (by omega) (by omega) hr
        have h2 : ¬ cst M P dt b < lst M P dt (FB M P dt a) := by omega
        simp [h2]
      · simp [hr]
theorem FB_take {a : Nat} (hr : rowB M P a = true) (hc : cst M P dt a < lst M P dt (FB M P dt a)) : FB M P dt (a + 1) = some a := by
  rw [FB, hr]; simp [hc]
theorem FB_lt : ∀ n b, FB M P dt n = some b → b < n := by
  intro n
  induction n with
  | zero => intro b h; cases h
  | succ n ih =>
    intro b h
    rw [FB] at h
    split at h
    · cases h; omega
    · have := ih b h; omega
theorem FB_some (hc : ∀ way, cst M P dt way ≤ 60) {way : Nat} (hr : rowB M P way = true) : ∀ n, way < n → ∃ b, FB M P dt n = some b := by
  intro n
  induction n with
  | zero => intro h; omega
  | succ n ih =>
    intro h
    rw [FB]
    by_cases e : way = n
    · subst e
      cases hf : FB M P dt way with
      | none =>
        have : cst M P dt way < lst M P dt none := by have := hc way; show _ < 61; omega
        rw [hr]; simp [this]
      | some b =>
        split
        · exact ⟨_, rfl⟩
        · exact ⟨_, rfl⟩
    · obtain ⟨b, hb⟩ := ih (by omega)
      split
      · exact ⟨_, rfl⟩
      · exact ⟨b, hb⟩
/-- digits of a number whose first p digits are those of pv -/
theorem dg_pre {p k pv way j : Nat} (hP : p + k = P) (hw : way / M ^ k = pv) (hj : j < p) : dg M P way j = dg M p pv j := by
  unfold dg
  rw [← hw, Nat.div_div_eq_div_mul, ← Nat.pow_add, show P - 1 - j = k + (p - 1 - j) by omega]
theorem blk_div {k pv way : Nat} (hM : 0 < M) (h1 : pv * M ^ k ≤ way) (h2 : way < (pv + 1) * M ^ k) : way / M ^ k = pv :=
  Nat.div_eq_of_lt_le h1 h2
theorem dg_lt {way j : Nat} (hM : 0 < M) : dg M P way j < M := Nat.mod_lt _ hM
theorem dg_last {p pv m : Nat} (hm : m < M) : dg M (p + 1) (pv * M + m) p = m := by
  unfold dg
  rw [show p + 1 - 1 - p = 0 by omega, Nat.pow_zero, Nat.div_one, Nat.mul_comm, Nat.mul_add_mod, Nat.mod_eq_of_lt hm]
theorem dg_front {p pv m j : Nat} (hm : m < M) (hj : j < p) : dg M (p + 1) (pv * M + m) j = dg M p pv j := by
  refine dg_pre (k := 1) rfl ?_ hj
  rw [Nat.pow_one, Nat.mul_comm, Nat.mul_add_div (by omega), Nat.div_eq_of_lt hm, Nat.add_zero]
theorem rowB_pre {p k pv way : Nat} (hP : p + k = P) (hw : way / M ^ k = pv) (hr : rowB M P way = true) : rowB M p pv = true := by
  rw [rowB_iff] at hr ⊢
  intro a b h1 h2
  rw [← dg_pre hP hw (j := a) (by omega), ← dg_pre hP hw h2]
  exact hr a b h1 (by omega)
theorem cst_pre {p k pv way : Nat} (hP : p + k = P) (hw : way / M ^ k = pv) : mxN p (fun j => dt (dg M p pv j) j) ≤ cst M P dt way := by
  unfold cst
  rw [mxN_cong (f := fun j => dt (dg M p pv j) j) (g := fun j => dt (dg M P way j) j) (fun j hj => by rw [dg_pre hP hw hj])]
  exact mxN_mono _ (by omega)
/-- a row is there, where there are men enough -/
def wit (M : Nat) : Nat → Nat
  | 0 => 0
  | p + 1 => wit M p * M + p
theorem wit_ok (hP : P ≤ 5) (hM : M ≤ 6) (hPM : P ≤ M) : rowB M P (wit M P) = true ∧ wit M P < M ^ P := by
  have key : ∀ (m : Fin 7) (p : Fin 6), p.val ≤ m.val → rowB m.val p.val (wit m.val p.val) = true ∧ wit m.val p.val < m.val ^ p.val := by decide +kernel
  exact key ⟨M, by omega⟩ ⟨P, by omega⟩ hPM
end RO
