/-! The rows of the proof: asked and altered. -/
/-- the rows that both keep -/
def RO (N : Nat) (w s : g_St) : Prop := N ≤ 12 ∧ gi w 9 = nI N ∧ gi s 36 = nI N ∧ ∀ i, i < N → ∀ j, j < 3 → gr w (100 + i) j = gr s 34 (3 * i + j)
theorem three (i j : Nat) : (3 : Int32) * nI i + nI j = nI (3 * i + j) := by rw [show (3 : Int32) = nI 3 from rfl, pk_mul, nI_add]
theorem row_or {N : Nat} {w s : g_St} (h : RO N w s) (x1 x2 : Int32) : (∃ i j, i < N ∧ j < 3 ∧ x1 = nI i ∧ x2 = nI j ∧ f_O_isInRows w x1 x2 = 1 ∧ f_M_isRow s x1 x2 = 1) ∨ (f_O_isInRows w x1 x2 = 0 ∧ f_M_isRow s x1 x2 = 0) := by
  obtain ⟨hN, h1, h2, -⟩ := h
  unfold f_O_isInRows f_M_isRow
  rw [within_in, within_in, h1, h2]
  rcases in_P x1 N (by omega) with ⟨e1, i, hi, rfl⟩ | ⟨e1, -⟩
  · rw [e1, if_neg ne10]
    rcases in_0 x2 2 (by omega) with ⟨e2, j, hj, rfl⟩ | e2
    · rw [show (2 : Int32) = nI 2 from rfl, e2, if_neg ne10]
      exact Or.inl ⟨i, j, hi, by omega, rfl, rfl, rfl, rfl⟩
    · rw [show (2 : Int32) = nI 2 from rfl, e2, if_pos rfl]
      exact Or.inr ⟨rfl, rfl⟩
  · rw [e1, if_pos rfl]
    exact Or.inr ⟨rfl, rfl⟩
theorem t_row {N : Nat} {w s : g_St} (h : RO N w s) (x1 x2 : Int32) : ∃ r, f_O_row w x1 x2 = some r ∧ f_M_row s x1 x2 = some r := by
  unfold f_O_row f_M_row
  rcases row_or h x1 x2 with ⟨i, j, hi, hj, rfl, rfl, e1, e2⟩ | ⟨e1, e2⟩
  · have hN := h.1
    rw [e1, e2, if_neg ne10, if_neg ne10, three, gd_of (vpn (n := i) (N := 12) (by omega) (by omega)), gd_of (vpn (n := j) (N := 3) (by omega) (by omega)), gd_of (vpn (n := 3 * i + j) (N := 36) (by omega) (by omega)), nIc (show 3 * i + j ≤ 4096 by omega), nIc (show i ≤ 4096 by omega), nIc (show j ≤ 4096 by omega), h.2.2.2 i hi j hj]
    exact ⟨_, rfl, rfl⟩
  · rw [e1, e2, if_pos rfl, if_pos rfl]; exact ⟨_, rfl, rfl⟩
/-- all but the rows -/
def OR (s t : g_St) : Prop := (∀ i, i ≠ 36 → gi t i = gi s i) ∧ (∀ i, i ≠ 34 → gr t i = gr s i) ∧ gt t = gt s
theorem t_alterRow {N : Nat} {w s : g_St} (h : RO N w s) (x1 x2 x3 : Int32) : ∃ r w' s', f_O_alterRow w x1 x2 x3 = some (r, w') ∧ f_M_alterRow s x1 x2 x3 = some (r, s') ∧ RO N w' s' ∧ OR s s' ∧ (∀ i, gi w' i = gi w i) ∧ (∀ i, i < 100 → gr w' i = gr w i) := by
  unfold f_O_alterRow f_M_alterRow
  rcases row_or h x1 x2 with ⟨i, j, hi, hj, rfl, rfl, e1, e2⟩ | ⟨e1, e2⟩
  · obtain ⟨hN, h1, h2, h3⟩ := h
    rw [e1, e2, if_neg ne10, if_neg ne10, three]
    simp only [lt_lt, gd_of (vpn (show i < 12 by omega) (show 12 ≤ 4096 by omega)), gd_of (vpn (show j < 3 by omega) (show 3 ≤ 4096 by omega)), gd_of (vpn (show 3 * i + j < 36 by omega) (show 36 ≤ 4096 by omega)), nIc (show 3 * i + j ≤ 4096 by omega), nIc (show i ≤ 4096 by omega), nIc (show j ≤ 4096 by omega)]
    rw [h3 i hi j hj]
    refine ⟨_, _, _, rfl, rfl, ⟨hN, h1, h2, fun i' hi' j' hj' => ?_⟩, ⟨fun _ _ => rfl, fun k hk => if_neg hk, rfl⟩, fun _ => rfl, fun k hk => if_neg (by omega)⟩
    rw [gr_sr, gr_sr, if_pos rfl, nIc (show 3 * i + j ≤ 4096 by omega), upd_at]
    by_cases e : i' = i
    · rw [e, if_pos rfl, nIc (show j ≤ 4096 by omega), upd_at]
      by_cases e' : j' = j
      · rw [if_pos e', if_pos (by omega)]
      · rw [if_neg e', if_neg (by omega)]; exact h3 i hi j' hj'
    · rw [if_neg (show ¬ 100 + i' = 100 + i by omega), if_neg (by omega)]; exact h3 i' hi' j' hj'
  · rw [e1, e2, if_pos rfl, if_pos rfl]
    exact ⟨_, w, s, rfl, rfl, h, ⟨fun _ _ => rfl, fun _ _ => rfl, rfl⟩, fun _ => rfl, fun _ _ => rfl⟩
