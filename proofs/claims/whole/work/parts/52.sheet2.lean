/-! A sheet is made anew. -/
theorem H_become_L {fu q0 q : Nat} : ∀ (k n j : Nat) (hh : g_Sf), k + j = 40 → k < n → ∃ hh', f_H_become_L12 fu q0 n hh q (nI j) = some hh' ∧ (∀ q', q' ≠ q → hh' q' = hh q') ∧ gi (hh' q) 0 = gi (hh q) 0 ∧ gi (hh' q) 1 = gi (hh q) 1 ∧ ∀ i, i < 40 → gr (hh' q) 2 i = if j ≤ i then 0 else gr (hh q) 2 i := by
  intro k
  induction k with
  | zero =>
    intro n j hh hk hn
    obtain ⟨m, rfl⟩ : ∃ m, n = m + 1 := ⟨n - 1, by omega⟩
    refine ⟨hh, ?_, fun _ _ => rfl, rfl, rfl, fun i hi => by rw [if_neg (by omega)]⟩
    rw [f_H_become_L12, if_pos (show (40 : Int32) ≤ nI j from nI_le (a := 40) (by omega) (by omega))]
  | succ k ih =>
    intro n j hh hk hn
    obtain ⟨m, rfl⟩ : ∃ m, n = m + 1 := ⟨n - 1, by omega⟩
    obtain ⟨hh', e, a1, a2, a3, a4⟩ := ih m (j + 1) (ups hh q (sr (hh q) 2 (nI j) 0)) (by omega) (by omega)
    have u : ups hh q (sr (hh q) 2 (nI j) 0) q = sr (hh q) 2 (nI j) 0 := if_pos rfl
    refine ⟨hh', ?_, fun q' h => (a1 q' h).trans (if_neg h), ?_, ?_, fun i hi => ?_⟩
    · rw [f_H_become_L12, if_neg (show ¬ (40 : Int32) ≤ nI j from nI_ge (b := 40) (by omega) (by omega)), gd_of (vpn (n := j) (N := 40) (by omega) (by omega)), lt_lt, lt_lt, nI_1]
      exact e
    · rw [a2, u]; rfl
    · rw [a3, u]; rfl
    · rw [a4 i hi, u, gr_sr, if_pos rfl, nIc (by omega), upd_at]
      by_cases z : j + 1 ≤ i
      · rw [if_pos z, if_pos (by omega)]
      · rw [if_neg z]
        by_cases z2 : i = j
        · rw [if_pos z2, if_pos (by omega)]
        · rw [if_neg z2, if_neg (by omega)]
theorem M_sheet_L {fu q : Nat} (hq : q < 4) : ∀ (k n j : Nat) (s : g_St), k + j = 40 → k < n → ∃ s', f_M_sheet_L64 fu n s (nI q) (nI j) = some (1, s') ∧ (∀ i, gi s' i = gi s i) ∧ (∀ i, gr s' i = gr s i) ∧ (∀ i, i ≠ 39 → gt s' i = gt s i) ∧ ∀ q', q' < 4 → ∀ i, i < 40 → gt s' 39 (40 * q' + i) = if q' = q ∧ j ≤ i then 0 else gt s 39 (40 * q' + i) := by
  intro k
  induction k with
  | zero =>
    intro n j s hk hn
    obtain ⟨m, rfl⟩ : ∃ m, n = m + 1 := ⟨n - 1, by omega⟩
    refine ⟨s, ?_, fun _ => rfl, fun _ => rfl, fun _ _ => rfl, fun q' h1 i h2 => by rw [if_neg (by omega)]⟩
    rw [f_M_sheet_L64, if_pos (show (40 : Int32) ≤ nI j from nI_le (a := 40) (by omega) (by omega))]
  | succ k ih =>
    intro n j s hk hn
    obtain ⟨m, rfl⟩ : ∃ m, n = m + 1 := ⟨n - 1, by omega⟩
    obtain ⟨s', e, a1, a2, a3, a4⟩ := ih m (j + 1) (st s 39 (nI (40 * q + j)) 0) (by omega) (by omega)
    refine ⟨s', ?_, fun i => a1 i, fun i => a2 i, fun i h => (a3 i h).trans (if_neg h), fun q' h1 i h2 => ?_⟩
    · rw [f_M_sheet_L64, if_neg (show ¬ (40 : Int32) ≤ nI j from nI_ge (b := 40) (by omega) (by omega)), fty, gd_of (vpn (n := 40 * q + j) (N := 160) (by omega) (by omega)), lt_lt, lt_lt, nI_1]
      exact e
    · rw [a4 q' h1 i h2, gt_st, if_pos rfl, nIc (by omega)]
      show (if q' = q ∧ j + 1 ≤ i then 0 else if 40 * q' + i = 40 * q + j then 0 else gt s 39 (40 * q' + i)) = _
      by_cases z : q' = q ∧ j + 1 ≤ i
      · rw [if_pos z, if_pos ⟨z.1, by omega⟩]
      · rw [if_neg z]
        by_cases z2 : 40 * q' + i = 40 * q + j
        · rw [if_pos z2, if_pos ⟨by omega, by omega⟩]
        · rw [if_neg z2, if_neg (fun t => by omega)]
