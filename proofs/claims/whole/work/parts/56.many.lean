/-! How many. -/
theorem W_allNoes {fu P : Nat} {v s : g_St} (v0 : gi v 0 = nI P) (s0 : gi s 0 = nI P) (hP : P ≤ 6) (hn : ∀ p, p < P → gr v 4 p = gr s 11 p) : ∀ (k n j : Nat) (a : Int32), k + j = P → k < n → ∃ r, f_V_allNoes_L4 fu n v a (nI j) = some r ∧ f_M_many_L60 fu n s a (nI j) = some r := by
  intro k
  induction k with
  | zero =>
    intro n j a hk hn'
    obtain ⟨m, rfl⟩ : ∃ m, n = m + 1 := ⟨n - 1, by omega⟩
    refine ⟨a, ?_, ?_⟩
    · rw [f_V_allNoes_L4, v0, if_pos (nI_le (by omega) (by omega))]
    · rw [f_M_many_L60, s0, if_pos (nI_le (by omega) (by omega))]
  | succ k ih =>
    intro n j a hk hn'
    obtain ⟨m, rfl⟩ : ∃ m, n = m + 1 := ⟨n - 1, by omega⟩
    obtain ⟨r, e1, e2⟩ := ih m (j + 1) (a + gr s 11 j) (by omega) (by omega)
    refine ⟨r, ?_, ?_⟩
    · rw [f_V_allNoes_L4, v0, if_neg (nI_ge (by omega) (by omega)), gd_of (vpn (n := j) (N := 6) (by omega) (by omega)), lt_lt, lt_lt, nI_1, nIc (show j ≤ 4096 by omega), hn j (by omega)]
      exact e1
    · rw [f_M_many_L60, s0, if_neg (nI_ge (by omega) (by omega)), gd_of (vpn (n := j) (N := 35) (by omega) (by omega)), lt_lt, lt_lt, nI_1, nIc (show j ≤ 4096 by omega)]
      exact e2
theorem t_many {fu P Q N T B : Nat} (hfu : 5000 ≤ fu) {v s w tp tr : g_St} (h : RV P Q v s) (hO : RO N w s) (hT : TP T w tp s) (hB : TR B tr s) (x1 : Int32) : ∃ r, f_O_many fu w v tr x1 = some r ∧ f_M_many fu s x1 = some r := by
  obtain ⟨⟨⟨hP, hQ, v0, s0, v6, s5⟩, -⟩, hn, -, -, hz1, hz2⟩ := h
  unfold f_O_many f_M_many
  by_cases c0 : x1 = 0
  · rw [if_pos c0, if_pos c0, v0, s0]; exact ⟨_, rfl, rfl⟩
  rw [if_neg c0, if_neg c0]
  by_cases c1 : x1 = 1
  · rw [if_pos c1, if_pos c1, v6, s5]; exact ⟨_, rfl, rfl⟩
  rw [if_neg c1, if_neg c1]
  by_cases c2 : x1 = 2
  · rw [if_pos c2, if_pos c2]
    obtain ⟨r, e1, e2⟩ := W_allNoes (fu := fu) v0 s0 hP (fun p hp => (hn p hp).1) P fu 0 0 (by omega) (by omega)
    have e1' : f_V_allNoes fu v = some r := e1
    rw [bd1_eq _ e1']
    exact ⟨r, rfl, e2⟩
  rw [if_neg c2, if_neg c2]
  by_cases c3 : x1 = 3
  · rw [if_pos c3, if_pos c3, hz1]; exact ⟨_, rfl, rfl⟩
  rw [if_neg c3, if_neg c3]
  by_cases c4 : x1 = 4
  · rw [if_pos c4, if_pos c4, hz2]; exact ⟨_, rfl, rfl⟩
  rw [if_neg c4, if_neg c4]
  by_cases c5 : x1 = 5
  · rw [if_pos c5, if_pos c5, hO.2.1, hO.2.2.1]; exact ⟨_, rfl, rfl⟩
  rw [if_neg c5, if_neg c5]
  by_cases c6 : x1 = 6
  · rw [if_pos c6, if_pos c6, hT.2.1, hT.2.2.1]; exact ⟨_, rfl, rfl⟩
  rw [if_neg c6, if_neg c6]
  by_cases c7 : x1 = 7
  · rw [if_pos c7, if_pos c7, hB.2.1, hB.2.2.1]; exact ⟨_, rfl, rfl⟩
  rw [if_neg c7, if_neg c7]
  exact ⟨_, rfl, rfl⟩
