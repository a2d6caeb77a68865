/-! ===== pure side: copies, the past, images ===== -/
/-- a row of the first, then of the second -/
def rowF (f g : FN) (a n : Nat) : FN := fun k => if a ≤ k ∧ k < a + n then f (k - a) else g k
theorem rowF_0 (f g : FN) (a : Nat) : rowF f g a 0 = g := by
  funext k
  have : ¬ (a ≤ k ∧ k < a + 0) := by omega
  exact if_neg this
theorem rowF_step (f g : FN) (a n : Nat) : upd (rowF f g a n) (a + n) (f n) = rowF f g a (n + 1) := by
  funext k
  unfold upd rowF
  by_cases h : k = a + n
  · subst h
    have : a ≤ a + n ∧ a + n < a + (n + 1) := by omega
    simp [this]
  · by_cases h2 : a ≤ k ∧ k < a + n
    · have : a ≤ k ∧ k < a + (n + 1) := by omega
      simp only [h, h2, this, if_true, if_false, and_self]
    · have : ¬ (a ≤ k ∧ k < a + (n + 1)) := by omega
      simp only [h, h2, this, if_false]
theorem rowF_in {f g : FN} {a n j : Nat} (h : j < n) : rowF f g a n (a + j) = f j := by
  have : a ≤ a + j ∧ a + j < a + n := by omega
  simp only [rowF, this, and_self, if_true, Nat.add_sub_cancel_left]
theorem rowF_out {f g : FN} {a n k : Nat} (h : ¬ (a ≤ k ∧ k < a + n)) : rowF f g a n k = g k := by simp only [rowF, h, if_false]
section PA
variable {N : Nat} {P M H : Nat} {D W S V : Nat → Nat} {G : Nat → Option Nat} {hr : Int32} {db gu sd sv s s' many : FN}
def WS (P M : Nat) (hr : Int32) (db gu sd sv s : FN) : Prop := ∃ (H : Nat) (D W : Nat → Nat) (G : Nat → Option Nat) (S V : Nat → Nat), RW M hr db gu sd sv H D G S V ∧ RS M s H D W S V ∧ IV P M H D W G S V ∧ H ≤ 200
theorem RS_cong (hM : M ≤ 6) (h : RS M s H D W S V) (e : ∀ j, j < 48 → s' j = s j) : RS M s' H D W S V := by
  obtain ⟨rs1, rs2, rs3, rs4, rs5⟩ := h
  exact ⟨by rw [e _ (by omega), rs1], fun m hm => by rw [e _ (by omega), rs2 m hm], fun m hm => by rw [e _ (by omega), rs3 m hm], fun p hp => by rw [e _ (by omega), rs4 p hp], fun m hm p hp => by rw [e _ (by omega), rs5 m hm p hp]⟩
theorem RW_copy (hM : M ≤ 6) (h : RW M hr db gu sd sv H D G S V) (db0 gu0 sd0 sv0 : FN) : RW M hr (va_cpy db db0 (ci 0) (ci 0) (ci 6)) (va_cpy gu gu0 (ci 0) (ci 0) (ci 5)) (va_cpy sd sd0 (ci 0) (ci 0) (ci 5)) (va_cpy sv sv0 (ci 0) (ci 0) (ci 30)) H D G S V := by
  obtain ⟨rw1, rw2, rw3, rw4, rw5⟩ := h
  refine ⟨rw1, fun m hm => ?_, fun p hp => ?_, fun p hp => ?_, fun m hm p hp => ?_⟩
  · exact (cpy_in (n := 6) (by omega)).trans (rw2 m hm)
  · exact (cpy_in (n := 5) hp).trans (rw3 p hp)
  · exact (cpy_in (n := 5) hp).trans (rw4 p hp)
  · exact (cpy_in (n := 30) (by omega)).trans (rw5 m hm p hp)
theorem WS_copy (h : WS P M hr db gu sd sv s) (e : ∀ j, j < 48 → s' j = s j) (db0 gu0 sd0 sv0 : FN) : WS P M hr (va_cpy db db0 (ci 0) (ci 0) (ci 6)) (va_cpy gu gu0 (ci 0) (ci 0) (ci 5)) (va_cpy sd sd0 (ci 0) (ci 0) (ci 5)) (va_cpy sv sv0 (ci 0) (ci 0) (ci 30)) s' := by
  obtain ⟨H, D, W, G, S, V, rw, rs, iv, hh⟩ := h
  exact ⟨H, D, W, G, S, V, RW_copy iv.2.1 rw _ _ _ _, RS_cong iv.2.1 rs e, iv, hh⟩
theorem asNow_eq (hN : 8000 < N) (w : FN) : f_X7_asNow N s w = some (rowF s w 0 48) := by
  unfold f_X7_asNow
  have h := lp_seq (body := fun x : Int32 × FN => b_X7_asNow_1 N s x.1 x.2) (t := rowF s w 0 48) (fun i => (nI i, rowF s w 0 i)) 48 (N := N) (by
    intro i hi
    have n1 : ¬ 48 ≤ i := by omega
    simp (disch := omega) only [b_X7_asNow_1, fa_lit, nI_leI, n1, if_false, ix_iff, ci_nI, hi, if_true, nI_add]
    have := rowF_step s w 0 i
    rw [Nat.zero_add] at this
    rw [this]) (by simp (disch := omega) only [b_X7_asNow_1, fa_lit, nI_leI, Nat.le_refl, if_true]) (by omega)
  rw [rowF_0] at h
  rw [show lp (fun x : Int32 × FN => b_X7_asNow_1 N s x.1 x.2) N (0, w) = _ from h]; rfl
theorem notes3_eq (hN : 8000 < N) (u : FN) {um : Nat} (hu : um ≤ 9) : lp (fun x : Int32 × FN => b_X7_notes_3 N s (nI um) x.1 x.2) N (0, u) = some (rowF s u (48 * um) 48) := by
  have h := lp_seq (body := fun x : Int32 × FN => b_X7_notes_3 N s (nI um) x.1 x.2) (t := rowF s u (48 * um) 48) (fun i => (nI i, rowF s u (48 * um) i)) 48 (N := N) (by
    intro i hi
    have n1 : ¬ 48 ≤ i := by omega
    have n2 : 48 * um + i < 480 := by omega
    simp (disch := omega) only [b_X7_notes_3, fa_lit, nI_leI, n1, if_false, pk_mul, nI_add, ix_iff, ci_nI, hi, n2, if_true]
    rw [rowF_step s u (48 * um) i]) (by simp (disch := omega) only [b_X7_notes_3, fa_lit, nI_leI, Nat.le_refl, if_true]) (by omega)
  rw [rowF_0] at h
  exact h
theorem notes1_eq (hN : 8000 < N) (u : FN) : lp (fun x : Int32 × FN => b_X7_notes_1 N x.1 x.2) N (0, u) = some (rowF (fun k => u (k + 48)) u 0 432) := by
  have h := lp_seq (body := fun x : Int32 × FN => b_X7_notes_1 N x.1 x.2) (t := rowF (fun k => u (k + 48)) u 0 432) (fun i => (nI i, rowF (fun k => u (k + 48)) u 0 i)) 432 (N := N) (by
    intro i hi
    have n1 : ¬ 432 ≤ i := by omega
    have n2 : i + 48 < 480 := by omega
    have n3 : i < 480 := by omega
    have e1 : rowF (fun k => u (k + 48)) u 0 i (i + 48) = u (i + 48) := rowF_out (by omega)
    simp (disch := omega) only [b_X7_notes_1, fa_lit, nI_leI, n1, if_false, nI_add, ix_iff, ci_nI, n2, n3, if_true, e1]
    have := rowF_step (fun k => u (k + 48)) u 0 i
    rw [Nat.zero_add] at this
    rw [this]) (by simp (disch := omega) only [b_X7_notes_1, fa_lit, nI_leI, Nat.le_refl, if_true]) (by omega)
  rw [rowF_0] at h
  exact h
theorem notes_eq (hN : 8000 < N) (u : FN) {um : Nat} (hu : um ≤ 10) : ∃ u', f_X7_notes N s u (nI um) = some (u', nI (min (um + 1) 10)) ∧ (um = 10 → (∀ i j, i < 9 → j < 48 → u' (48 * i + j) = u (48 * (i + 1) + j)) ∧ ∀ j, j < 48 → u' (48 * 9 + j) = s j) ∧ (um ≠ 10 → (∀ i j, i < um → j < 48 → u' (48 * i + j) = u (48 * i + j)) ∧ ∀ j, j < 48 → u' (48 * um + j) = s j) := by
  by_cases h10 : um = 10
  · subst h10
    refine ⟨rowF s (rowF (fun k => u (k + 48)) u 0 432) (48 * 9) 48, ?_, fun _ => ⟨?_, ?_⟩, fun h => absurd rfl h⟩
    · unfold f_X7_notes
      rw [if_pos (show nI 10 = 10 from rfl), notes1_eq hN, Option.bind_some, show lp (fun x : Int32 × FN => b_X7_notes_2 N s 9 x.1 x.2) N (0, rowF (fun k => u (k + 48)) u 0 432) = _ from notes3_eq hN _ (um := 9) (by omega), Option.bind_some]
      rfl
    · intro i j hi hj
      rw [rowF_out (by omega)]
      have := rowF_in (f := fun k => u (k + 48)) (g := u) (a := 0) (n := 432) (j := 48 * i + j) (by omega)
      rw [Nat.zero_add] at this
      rw [this, show 48 * i + j + 48 = 48 * (i + 1) + j by omega]
    · intro j hj
      exact rowF_in hj
  · refine ⟨rowF s u (48 * um) 48, ?_, fun h => absurd h h10, fun _ => ⟨?_, ?_⟩⟩
    · unfold f_X7_notes
      rw [if_neg (by show ¬ nI um = nI 10; rw [nI_eq (by omega) (by omega)]; exact h10), notes3_eq hN _ (by omega), Option.bind_some, show min (um + 1) 10 = um + 1 by omega]
      simp only [fa_lit, nI_add]
    · intro i j hi hj
      exact rowF_out (by omega)
    · intro j hj
      exact rowF_in hj
def WSt (P M : Nat) (w : WtT) (s : FN) : Prop := WS P M w.1 w.2.1 w.2.2.1 w.2.2.2.1 w.2.2.2.2 s
theorem WS_cong (h : WS P M hr db gu sd sv s) (e : ∀ j, j < 48 → s' j = s j) : WS P M hr db gu sd sv s' := by
  obtain ⟨H, D, W, G, S, V, rw, rs, iv, hh⟩ := h
  exact ⟨H, D, W, G, S, V, rw, RS_cong iv.2.1 rs e, iv, hh⟩
def PastR (P M : Nat) (next known : Int32) (pw : Nat → WtT) (undos : FN) (um : Int32) : Prop := ∃ nx kn : Nat, next = nI nx ∧ nx < 10 ∧ known = nI kn ∧ kn ≤ 10 ∧ um = nI kn ∧ ∀ i, i < kn → WSt P M (pw ((nx + 10 - kn + i) % 10)) (fun j => undos (48 * i + j))
variable {next known um : Int32} {pw : Nat → WtT} {undos : FN}
theorem updT_same {f : Nat → WtT} {k : Nat} {x : WtT} : updT f k x k = x := by simp [updT]
theorem updT_ne {f : Nat → WtT} {k j : Nat} {x : WtT} (h : j ≠ k) : updT f k x j = f j := by simp [updT, h]
theorem remember_two (hN : 8000 < N) (ws : WS P M hr db gu sd sv s) (pr : PastR P M next known pw undos um) : ∃ next' known' pw' undos' um', f_X2_remember N hr db gu sd sv next known pw = some (next', known', pw') ∧ f_X7_notes N s undos um = some (undos', um') ∧ PastR P M next' known' pw' undos' um' := by
  obtain ⟨nx, kn, rfl, hnx, rfl, hkn, rfl, hp⟩ := pr
  obtain ⟨u', h1, h2, h3⟩ := notes_eq (s := s) hN undos hkn
  have e1 : (if nI kn + 1 < 10 then nI kn + 1 else 10) = nI (min (kn + 1) 10) := by
    simp (disch := omega) only [fa_lit, nI_add, nI_ltI]
    by_cases h : kn + 1 < 10
    · rw [if_pos h, show min (kn + 1) 10 = kn + 1 by omega]
    · rw [if_neg h, show min (kn + 1) 10 = 10 by omega]
  refine ⟨nI ((nx + 1) % 10), nI (min (kn + 1) 10), updT pw nx (hr, va_cpy db (pw nx).2.1 (ci 0) (ci 0) (ci 6), va_cpy gu (pw nx).2.2.1 (ci 0) (ci 0) (ci 5), va_cpy sd (pw nx).2.2.2.1 (ci 0) (ci 0) (ci 5), va_cpy sv (pw nx).2.2.2.2 (ci 0) (ci 0) (ci 30)), u', nI (min (kn + 1) 10), ?_, h1, (nx + 1) % 10, min (kn + 1) 10, rfl, Nat.mod_lt _ (by omega), rfl, by omega, rfl, ?_⟩
  · have e2 : (nI nx + 1) % 10 = nI ((nx + 1) % 10) := by
      simp (disch := omega) only [fa_lit, nI_add, irem_nI]
    have e3 : ci (nI nx) = nx := ci_nI (by omega)
    unfold f_X2_remember
    rw [if_pos ((ix_iff (by omega)).mpr hnx), e1, e2, e3]
    rfl
  · intro i hi
    by_cases h10 : kn = 10
    · obtain ⟨g1, g2⟩ := h2 h10
      by_cases hi9 : i = 9
      · subst hi9
        rw [show ((nx + 1) % 10 + 10 - min (kn + 1) 10 + 9) % 10 = nx by omega, updT_same]
        exact WS_copy ws (fun j hj => g2 j hj) _ _ _ _
      · rw [show ((nx + 1) % 10 + 10 - min (kn + 1) 10 + i) % 10 = (nx + 10 - kn + (i + 1)) % 10 by omega, updT_ne (by omega)]
        exact WS_cong (hp (i + 1) (by omega)) (fun j hj => g1 i j (by omega) hj)
    · obtain ⟨g1, g2⟩ := h3 h10
      by_cases hik : i = kn
      · subst hik
        rw [show ((nx + 1) % 10 + 10 - min (i + 1) 10 + i) % 10 = nx by omega, updT_same]
        exact WS_copy ws (fun j hj => g2 j hj) _ _ _ _
      · rw [show ((nx + 1) % 10 + 10 - min (kn + 1) 10 + i) % 10 = (nx + 10 - kn + i) % 10 by omega, updT_ne (by omega)]
        exact WS_cong (hp i (by omega)) (fun j hj => g1 i j (by omega) hj)
end PA
