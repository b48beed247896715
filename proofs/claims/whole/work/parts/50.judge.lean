/-! judge. -/
theorem W_judge_1 {fu N i n : Nat} {v w s : g_St} (K : g_St → g_St → Int32 → Option (Int32 × g_St)) (hN : N ≤ 12) (hi : i < N) (s36 : gi s 36 = nI N) (hr : ∀ j, j < 3 → gr w (100 + i) j = gr s 34 (3 * i + j)) (hd : ∀ j, j < 3 → gr w (120 + i) j = gr s 35 (3 * i + j)) (hK : ∃ r, K w v (nI (i + 1)) = some (r, w) ∧ f_M_judge_L23 fu n s (nI (3 * i + 3)) = some (r, s)) : ∀ (k m j : Nat), k + j = 3 → k < m → ∃ r, f_O_judge_L37 fu K m w v (nI i) (nI j) = some (r, w) ∧ f_M_judge_L23 fu (n + k) s (nI (3 * i + j)) = some (r, s) := by
  intro k
  induction k with
  | zero =>
    intro m j hk hm
    obtain ⟨a, rfl⟩ : ∃ a, m = a + 1 := ⟨m - 1, by omega⟩
    obtain ⟨r, h1, h2⟩ := hK
    refine ⟨r, ?_, ?_⟩
    · rw [f_O_judge_L37, if_pos (show (3 : Int32) ≤ nI j from nI_le (a := 3) (by omega) (by omega)), lt_lt, nI_1]; exact h1
    · rw [show j = 3 by omega]; exact h2
  | succ k ih =>
    intro m j hk hm
    obtain ⟨a, rfl⟩ : ∃ a, m = a + 1 := ⟨m - 1, by omega⟩
    obtain ⟨r, h1, h2⟩ := ih a (j + 1) (by omega) (by omega)
    have t3 : (3 : Int32) * nI N = nI (3 * N) := pk_mul 3 N
    have dv : nI (3 * i + j) / 3 = nI i := by
      have e := pk_div (a := 3 * i + j) (d := 3) (by omega) (by omega) (by omega)
      rw [show (3 * i + j) / 3 = i by omega] at e
      exact e
    rw [f_O_judge_L37, show n + (k + 1) = (n + k) + 1 from rfl, f_M_judge_L23, s36, t3, if_neg (show ¬ (3 : Int32) ≤ nI j from nI_ge (b := 3) (by omega) (by omega)), if_neg (nI_ge (by omega) (by omega)), gd_of (vpn (n := i) (N := 12) (by omega) (by omega)), gd_of (vpn (n := j) (N := 3) (by omega) (by omega)), gd_of (vpn (n := i) (N := 12) (by omega) (by omega)), gd_of (vpn (n := j) (N := 3) (by omega) (by omega)), gd_of (vpn (n := 3 * i + j) (N := 36) (by omega) (by omega)), gd_of (vpn (n := 3 * i + j) (N := 36) (by omega) (by omega)), nIc (show i ≤ 4096 by omega), nIc (show j ≤ 4096 by omega), nIc (show 3 * i + j ≤ 4096 by omega), hr j (by omega), hd j (by omega)]
    by_cases z : gr s 34 (3 * i + j) = gr s 35 (3 * i + j)
    · rw [if_pos z, if_pos z, lt_lt, lt_lt, nI_1, nI_1]
      exact ⟨r, h1, h2⟩
    · rw [if_neg z, if_neg z, dv]
      exact ⟨_, rfl, rfl⟩
theorem W_judge_L {fu N : Nat} {v w s : g_St} (hfu : 5000 ≤ fu) (hN : N ≤ 12) (w9 : gi w 9 = nI N) (s36 : gi s 36 = nI N) (hr : ∀ i, i < N → ∀ j, j < 3 → gr w (100 + i) j = gr s 34 (3 * i + j)) (hd : ∀ i, i < N → ∀ j, j < 3 → gr w (120 + i) j = gr s 35 (3 * i + j)) : ∀ (k n m i : Nat), k + i = N → k < n → 3 * k < m → ∃ r, f_O_judge_L27 fu n w v (nI i) = some (r, w) ∧ f_M_judge_L23 fu m s (nI (3 * i)) = some (r, s) := by
  intro k
  induction k with
  | zero =>
    intro n m i hk hn hm
    obtain ⟨a, rfl⟩ : ∃ a, n = a + 1 := ⟨n - 1, by omega⟩
    obtain ⟨b, rfl⟩ : ∃ b, m = b + 1 := ⟨m - 1, by omega⟩
    have t3 : (3 : Int32) * nI N = nI (3 * N) := pk_mul 3 N
    refine ⟨0, ?_, ?_⟩
    · rw [f_O_judge_L27, w9, if_pos (nI_le (by omega) (by omega))]
    · rw [f_M_judge_L23, s36, t3, if_pos (nI_le (by omega) (by omega))]
  | succ k ih =>
    intro n m i hk hn hm
    obtain ⟨a, rfl⟩ : ∃ a, n = a + 1 := ⟨n - 1, by omega⟩
    obtain ⟨b, rfl⟩ : ∃ b, m = b + 3 := ⟨m - 3, by omega⟩
    have hi : i < N := by omega
    rw [f_O_judge_L27, w9, if_neg (nI_ge (by omega) (by omega))]
    exact W_judge_1 (fu := fu) (n := b) (v := v) (f_O_judge_L27 fu a) hN hi s36 (hr i hi) (hd i hi) (ih a b (i + 1) (by omega) (by omega) (by omega)) 3 fu 0 (by omega) (by omega)
theorem t_judge {fu P Q N : Nat} (hfu : 5000 ≤ fu) {v w s : g_St} (h : RV P Q v s) (c : RC s) (ho : RO N w s) : ∃ r w' s', f_O_judge fu w v = some (r, w') ∧ f_M_judge fu s = some (r, s') ∧ RO N w' s' ∧ OP s s' ∧ (∀ i, gi w' i = gi w i) ∧ (∀ b, b < 120 ∨ 132 ≤ b → gr w' b = gr w b) := by
  have hS := h.1
  obtain ⟨W1, W2⟩ := W_weights hfu hS
  obtain ⟨y, y1, hR, y2, hn⟩ := h.row
  have hle := sm_le (w := wgS s) Q (fun p hp => (wg_at hS hp).2.2)
  have hQ := hS.1.2.1
  have ho' := ho
  obtain ⟨hN, w9, s36, hr⟩ := ho'
  unfold f_O_judge f_M_judge
  rw [bd1_eq _ W1, bd1_eq _ W2]
  by_cases z : sm (wgS s) Q = 0
  · rw [z, if_pos (show nI 0 = 0 from rfl), if_pos (show nI 0 = 0 from rfl)]
    exact ⟨_, w, s, rfl, rfl, ho, ⟨fun _ _ _ => rfl, fun _ _ _ _ => rfl, rfl, fun _ _ => rfl⟩, fun _ => rfl, fun _ _ => rfl⟩
  · have z2 : ¬ nI (sm (wgS s) Q) = 0 := nI_ne0 (by omega) (by omega)
    rw [if_neg z2, if_neg z2, w9, s36]
    obtain ⟨w1, s1, e1, e2, e3, e4, e5, e6, e7, e8, e9, -⟩ := W_due_L (T := sm (wgS s) Q) hfu hN (by omega) N fu 0 0 y (dgS s 0) (gi s 14) w s (by omega) (by omega) (by rw [if_pos rfl]) (by omega) hS hR c.2.2.2.2.2.2 rfl
    have f1 : f_O_fillRows_dueRows fu w v (nI N) = some w1 := by
      unfold f_O_fillRows_dueRows
      rw [lt_lt, lt_lt, cl3, y2, h.2.2.2.1, bd1_eq _ (V_packed hfu hS.1.2.2.1 hS.1.1 hn)]
      exact e1
    have f2 : f_M_findRows fu s (nI N) (nI (sm (wgS s) Q)) = some s1 := e2
    have r34 : gr s1 34 = gr s 34 := e7 34 (by omega) (by omega)
    have hr1 : ∀ i, i < N → ∀ j, j < 3 → gr w1 (100 + i) j = gr s1 34 (3 * i + j) := fun i hi j hj => by
      rw [e4 (100 + i) (by omega), r34]; exact hr i hi j hj
    obtain ⟨r, g1, g2⟩ := W_judge_L (fu := fu) (v := v) hfu hN ((e3 9).trans w9) ((e6 36 (by omega)).trans s36) hr1 (fun i hi j hj => e5 i (by omega) hi j hj) N fu fu 0 (by omega) (by omega) (by omega)
    rw [bd1_eq _ f1, bd1_eq _ f2]
    exact ⟨r, w1, s1, g1, g2, ⟨hN, (e3 9).trans w9, (e6 36 (by omega)).trans s36, hr1⟩, ⟨fun i h1 _ => e6 i h1, fun i h1 _ h3 => e7 i h1 h3, e8, e9⟩, e3, fun b hb => e4 b (by omega)⟩
