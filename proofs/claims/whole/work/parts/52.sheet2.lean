/-! A sheet is made anew. -/
theorem H_become_L {fu q0 q : Nat} : ∀ (k n j : Nat) (hh : g_Sf), k + j = 40 → k < n → ∃ hh', f_H_become_L12 fu q0 n hh q (nI j) = some hh' ∧ (∀ q', q' ≠ q → hh' q' = hh q') ∧ gi (hh' q) 0 = gi (hh q) 0 ∧ gi (hh' q) 1 = gi (hh q) 1 ∧ ∀ i, i < 40 → gr (hh' q) 2 i = if j ≤ i then 0 else gr (hh q) 2 i := by
  intro k
  induction k with
  | zero =>
    intro n j hh hk hn
    obtain ⟨m, rfl⟩ : ∃ m, n = m + 1 := ⟨n - 1, by omega⟩
    refine ⟨hh, ?_, fun _ _ => rfl, rfl, rfl, fun i hi => by rw [if_neg (by omega)]⟩
    rw [f_H_become_L12, if_pos (show (40 : Int32) ≤ nI j from nI_le (a := 40) (by omega) (by omega))]
  | succ k ih =>
    intro n j hh hk hn
    obtain ⟨m, rfl⟩ : ∃ m, n = m + 1 := ⟨n - 1, by omega⟩
    obtain ⟨hh', e, a1, a2, a3, a4⟩ := ih m (j + 1) (ups hh q (sr (hh q) 2 (nI j) 0)) (by omega) (by omega)
    have u : ups hh q (sr (hh q) 2 (nI j) 0) q = sr (hh q) 2 (nI j) 0 := if_pos rfl
    refine ⟨hh', ?_, fun q' h => (a1 q' h).trans (if_neg h), ?_, ?_, fun i hi => ?_⟩
    · rw [f_H_become_L12, if_neg (show ¬ (40 : Int32) ≤ nI j from nI_ge (b := 40) (by omega) (by omega)), gd_of (vpn (n := j) (N := 40) (by omega) (by omega)), lt_lt, lt_lt, nI_1]
      exact e
    · rw [a2, u]; rfl
    · rw [a3, u]; rfl
    · rw [a4 i hi, u, gr_sr, if_pos rfl, nIc (by omega), upd_at]
      by_cases z : j + 1 ≤ i
      · rw [if_pos z, if_pos (by omega)]
      · rw [if_neg z]
        by_cases z2 : i = j
        · rw [if_pos z2, if_pos (by omega)]
        · rw [if_neg z2, if_neg (by omega)]
theorem M_sheet_L {fu q : Nat} (hq : q < 4) : ∀ (k n j : Nat) (s : g_St), k + j = 40 → k < n → ∃ s', f_M_sheet_L64 fu n s (nI q) (nI j) = some (1, s') ∧ (∀ i, gi s' i = gi s i) ∧ (∀ i, gr s' i = gr s i) ∧ (∀ i, i ≠ 39 → gt s' i = gt s i) ∧ ∀ q', q' < 4 → ∀ i, i < 40 → gt s' 39 (40 * q' + i) = if q' = q ∧ j ≤ i then 0 else gt s 39 (40 * q' + i) := by
  intro k
  induction k with
  | zero =>
    intro n j s hk hn
    obtain ⟨m, rfl⟩ : ∃ m, n = m + 1 := ⟨n - 1, by omega⟩
    refine ⟨s, ?_, fun _ => rfl, fun _ => rfl, fun _ _ => rfl, fun q' h1 i h2 => by rw [if_neg (by omega)]⟩
    rw [f_M_sheet_L64, if_pos (show (40 : Int32) ≤ nI j from nI_le (a := 40) (by omega) (by omega))]
  | succ k ih =>
    intro n j s hk hn
    obtain ⟨m, rfl⟩ : ∃ m, n = m + 1 := ⟨n - 1, by omega⟩
    obtain ⟨s', e, a1, a2, a3, a4⟩ := ih m (j + 1) (st s 39 (nI (40 * q + j)) 0) (by omega) (by omega)
    refine ⟨s', ?_, fun i => a1 i, fun i => a2 i, fun i h => (a3 i h).trans (if_neg h), fun q' h1 i h2 => ?_⟩
    · rw [f_M_sheet_L64, if_neg (show ¬ (40 : Int32) ≤ nI j from nI_ge (b := 40) (by omega) (by omega)), fty, gd_of (vpn (n := 40 * q + j) (N := 160) (by omega) (by omega)), lt_lt, lt_lt, nI_1]
      exact e
    · rw [a4 q' h1 i h2, gt_st, if_pos rfl, nIc (by omega)]
      show (if q' = q ∧ j + 1 ≤ i then 0 else if 40 * q' + i = 40 * q + j then 0 else gt s 39 (40 * q' + i)) = _
      by_cases z : q' = q ∧ j + 1 ≤ i
      · rw [if_pos z, if_pos ⟨z.1, by omega⟩]
      · rw [if_neg z]
        by_cases z2 : 40 * q' + i = 40 * q + j
        · rw [if_pos z2, if_pos ⟨by omega, by omega⟩]
        · rw [if_neg z2, if_neg (fun t => by omega)]
theorem W_become {fu q n : Nat} (hfu : 5000 ≤ fu) {hh : g_Sf} {s : g_St} (h : HS hh s) (hq : q < 4) (hn : n ≤ 40) (S : Int32) (hS : S = -1 ∨ ∃ k, k ≤ 3 ∧ S = nI k) : ∃ hh' s', f_H_become fu q hh S (nI n) = some hh' ∧ f_M_sheet_L64 fu fu (sr (sr s 37 (nI q) S) 38 (nI q) (nI n)) (nI q) 0 = some (1, s') ∧ HS hh' s' ∧ OH s s' := by
  have cq : (nI q).toNatClampNeg = q := nIc (by omega)
  obtain ⟨hh', e1, a1, a2, a3, a4⟩ := H_become_L (fu := fu) (q0 := q) (q := q) 40 fu 0 (ups (ups hh q (si (hh q) 0 S)) q (si (ups hh q (si (hh q) 0 S) q) 1 (nI n))) (by omega) (by omega)
  obtain ⟨s', e2, b1, b2, b3, b4⟩ := M_sheet_L (fu := fu) hq 40 fu 0 (sr (sr s 37 (nI q) S) 38 (nI q) (nI n)) (by omega) (by omega)
  have u1 : ups hh q (si (hh q) 0 S) q = si (hh q) 0 S := if_pos rfl
  have u2 : ups (ups hh q (si (hh q) 0 S)) q (si (ups hh q (si (hh q) 0 S) q) 1 (nI n)) q = si (si (hh q) 0 S) 1 (nI n) := (if_pos rfl).trans (by rw [u1])
  refine ⟨hh', s', e1, e2, fun q' hq' => ?_, ⟨fun i => b1 i, fun i h1 h2 => ?_, fun i h1 => b3 i h1⟩⟩
  · have c37 : gr s' 37 q' = if q' = q then S else gr s 37 q' := by
      rw [b2, gr_sr, if_neg (by omega), gr_sr, if_pos rfl, cq, upd_at]
    have c38 : gr s' 38 q' = if q' = q then nI n else gr s 38 q' := by
      rw [b2, gr_sr, if_pos rfl, cq, upd_at, gr_sr, if_neg (show ¬ 38 = 37 by omega)]
    rw [c37, c38]
    by_cases z : q' = q
    · subst z
      rw [if_pos rfl, if_pos rfl, a2, a3, u2]
      refine ⟨rfl, rfl, hS, ⟨n, hn, rfl⟩, fun i hi => ?_⟩
      rw [b4 q' hq' i hi, if_pos ⟨rfl, by omega⟩, a4 i hi, if_pos (by omega)]
      rfl
    · rw [if_neg z, if_neg z, a1 q' z]
      obtain ⟨h1, h2, h3, h4, h5⟩ := h q' hq'
      have e : ups (ups hh q (si (hh q) 0 S)) q (si (ups hh q (si (hh q) 0 S) q) 1 (nI n)) q' = hh q' := (if_neg z).trans (if_neg z)
      rw [e]
      refine ⟨h1, h2, h3, h4, fun i hi => ?_⟩
      rw [b4 q' hq' i hi, if_neg (fun t => z t.1)]
      exact h5 i hi
  · rw [b2, gr_sr, if_neg h2, gr_sr, if_neg h1]
theorem t_sheet {fu : Nat} (hfu : 5000 ≤ fu) {hh : g_Sf} {s : g_St} (h : HS hh s) (x1 x2 x3 : Int32) : ∃ r hh' s', f_O_sheet fu hh x1 x2 x3 = some (r, hh') ∧ f_M_sheet fu s x1 x2 x3 = some (r, s') ∧ HS hh' s' ∧ OH s s' := by
  have no : OH s s := ⟨fun _ => rfl, fun _ _ _ => rfl, fun _ _ => rfl⟩
  unfold f_O_sheet f_M_sheet
  rw [within_in, within_in, show f_S_isShelf x1 = f_S_in x1 0 3 from rfl]
  rcases in_0 x1 3 (by omega) with ⟨e1, q, hq, rfl⟩ | e1
  · have e1' : f_S_in (nI q) 0 3 = 1 := e1
    have cq : (nI q).toNatClampNeg = q := nIc (by omega)
    rw [e1', if_neg ne10, if_neg ne10]
    rcases in_cases x2 (-1) 3 with ⟨e2, l1, l2⟩ | ⟨e2, -⟩
    · rw [e2, if_neg ne10, if_neg ne10]
      unfold f_M_sheet_L39
      simp only [gd_of (vpn (show q < 4 by omega) (show 4 ≤ 4096 by omega)), lt_lt, cq]
      by_cases m1 : x2 = -1
      · subst m1
        obtain ⟨hh', s', f1, f2, f3, f4⟩ := W_become (n := 0) hfu h (show q < 4 by omega) (by omega) (-1) (Or.inl rfl)
        have f1' : f_H_become fu q hh (-1) 0 = some hh' := f1
        rw [if_pos rfl, bd1_eq _ f1', if_pos (show (-1 : Int32) < 0 by decide), if_pos (show (-1 : Int32) < 0 by decide), if_neg (show ¬ (0 : Int32) ≤ -1 by decide)]
        exact ⟨1, hh', s', rfl, f2, f3, f4⟩
      · have l0 : ¬ x2 < 0 := fun z => by
          rw [Int32.lt_iff_toInt_lt] at z l1
          have d0 : (0 : Int32).toInt = 0 := rfl
          have d1 : (-1 : Int32).toInt = -1 := rfl
          exact m1 (Int32.toInt_inj.mp (by omega))
        obtain ⟨k, hk, rfl⟩ := nI_of l0
        have hk3 : k ≤ 3 := by
          have := mt (nI_ltI (a := 3) (b := k) (by omega) hk).mpr l2
          omega
        rw [if_neg m1, if_neg l0, if_neg l0, if_pos (nI_pos' (n := k) hk)]
        by_cases m2 : x3 ≤ 40
        · rw [if_pos m2, if_pos m2]
          by_cases m3 : 0 ≤ x3
          · rw [if_pos m3, if_pos m3]
            have m3' : ¬ x3 < 0 := fun z => by
              rw [Int32.lt_iff_toInt_lt] at z
              rw [Int32.le_iff_toInt_le] at m3
              omega
            obtain ⟨n, hn, rfl⟩ := nI_of m3'
            have hn40 : n ≤ 40 := (nI_leI (b := 40) hn (by omega)).mp m2
            obtain ⟨hh', s', f1, f2, f3, f4⟩ := W_become (n := n) hfu h (show q < 4 by omega) hn40 (nI k) (Or.inr ⟨k, hk3, rfl⟩)
            rw [bd1_eq _ f1]
            exact ⟨1, hh', s', rfl, f2, f3, f4⟩
          · rw [if_neg m3, if_neg m3]; exact ⟨_, hh, s, rfl, rfl, h, no⟩
        · rw [if_neg m2, if_neg m2]; exact ⟨_, hh, s, rfl, rfl, h, no⟩
    · rw [e2, if_pos rfl, if_pos rfl]; exact ⟨_, hh, s, rfl, rfl, h, no⟩
  · have e1' : f_S_in x1 0 3 = 0 := e1
    rw [e1', if_pos rfl, if_pos rfl]; exact ⟨_, hh, s, rfl, rfl, h, no⟩
