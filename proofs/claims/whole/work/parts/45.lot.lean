/-! The lot. -/
def sm (w : Nat → Nat) : Nat → Nat
  | 0 => 0
  | n + 1 => sm w n + w n
theorem sm_le {w : Nat → Nat} : ∀ n, (∀ p, p < n → w p ≤ 9) → sm w n ≤ 9 * n := by
  intro n
  induction n with
  | zero => intro _; exact Nat.le_refl _
  | succ n ih =>
    intro h
    have a := ih (fun p hp => h p (by omega))
    have b := h n (by omega)
    show sm w n + w n ≤ 9 * (n + 1)
    omega
theorem sm_mono {w : Nat → Nat} {a b : Nat} (h : a ≤ b) : sm w a ≤ sm w b := by
  induction h with
  | refl => exact Nat.le_refl _
  | step _ ih => exact Nat.le_trans ih (Nat.le_add_right _ _)
def wgS (s : g_St) (q : Nat) : Nat := (gr s 6 q).toNatClampNeg
theorem wg_at {P Q : Nat} {v s : g_St} (hS : SV P Q v s) {q : Nat} (hq : q < Q) : gr v 7 q = nI (wgS s q) ∧ gr s 6 q = nI (wgS s q) ∧ wgS s q ≤ 9 := by
  obtain ⟨-, -, hw, -⟩ := hS
  obtain ⟨e, ⟨w, hw9, ew⟩, -⟩ := hw q hq
  have k : wgS s q = w := by unfold wgS; rw [ew, nIc (by omega)]
  rw [k, e, ew]
  exact ⟨rfl, rfl, hw9⟩
theorem W_weights {fu P Q : Nat} {v s : g_St} (hfu : 5000 ≤ fu) (hS : SV P Q v s) : f_V_allWeights fu v = some (nI (sm (wgS s) Q)) ∧ f_M_weightsInAll fu s = some (nI (sm (wgS s) Q)) := by
  have hS' := hS
  obtain ⟨⟨hP, hQ, v0, s0, v6, s5⟩, -⟩ := hS'
  have L : ∀ (k n j : Nat), k + j = Q → k < n → f_V_allWeights_L4 fu n v (nI (sm (wgS s) j)) (nI j) = some (nI (sm (wgS s) Q)) ∧ f_M_weightsInAll_L4 fu n s (nI (sm (wgS s) j)) (nI j) = some (nI (sm (wgS s) Q)) := by
    intro k
    induction k with
    | zero =>
      intro n j hk hn
      obtain ⟨m, rfl⟩ : ∃ m, n = m + 1 := ⟨n - 1, by omega⟩
      rw [f_V_allWeights_L4, f_M_weightsInAll_L4, v6, s5, if_pos (nI_le (by omega) (by omega)), if_pos (nI_le (by omega) (by omega)), show j = Q by omega]
      exact ⟨rfl, rfl⟩
    | succ k ih =>
      intro n j hk hn
      obtain ⟨m, rfl⟩ : ∃ m, n = m + 1 := ⟨n - 1, by omega⟩
      obtain ⟨e1, e2⟩ := ih m (j + 1) (by omega) (by omega)
      obtain ⟨w1, w2, -⟩ := wg_at hS (show j < Q by omega)
      rw [f_V_allWeights_L4, f_M_weightsInAll_L4, v6, s5, if_neg (nI_ge (by omega) (by omega)), if_neg (nI_ge (by omega) (by omega)), gd_of (vpn (n := j) (N := 8) (by omega) (by omega)), gd_of (vpn (n := j) (N := 8) (by omega) (by omega))]
      simp only [lt_lt]
      rw [nIc (by omega), w1, w2, nI_add, nI_1]
      exact ⟨e1, e2⟩
  exact L Q fu 0 (by omega) (by omega)
theorem nI_self (x : Int32) : x = nI x.toBitVec.toNat := by
  apply Int32.toBitVec_inj.mp
  apply BitVec.eq_of_toNat_eq
  rw [pk_tn x.toBitVec.isLt]
theorem ushr16 (x : Int32) : ∃ n, n < 65536 ∧ g_ushr x 16 = nI n := by
  refine ⟨x.toBitVec.toNat / 2 ^ 16, ?_, ?_⟩
  · have := x.toBitVec.isLt
    exact (Nat.div_lt_iff_lt_mul (by decide)).mpr (by omega)
  · conv => lhs; rw [nI_self x]
    exact ushr_N (k := 16) (by omega) x.toBitVec.isLt
theorem W_lot {fu P Q : Nat} {v s : g_St} (hfu : 5000 ≤ fu) (hS : SV P Q v s) (x : Int32) (h0 : 0 < sm (wgS s) Q) : ∃ q, q < Q ∧ f_V_drawn fu v x = some (nI q) ∧ f_M_lotOf fu s x (nI (sm (wgS s) Q)) = some (nI q) := by
  have hS' := hS
  obtain ⟨⟨hP, hQ, v0, s0, v6, s5⟩, -⟩ := hS'
  obtain ⟨N, hN, eN⟩ := ushr16 x
  have hle := sm_le (w := wgS s) Q (fun p hp => (wg_at hS hp).2.2)
  obtain ⟨W1, W2⟩ := W_weights hfu hS
  have hT := Nat.mod_lt N h0
  have L : ∀ (k n j : Nat), k + j = Q → k < n → sm (wgS s) j ≤ N % sm (wgS s) Q → ∃ q, q < Q ∧ f_V_drawn_L24 fu n v (nI (N % sm (wgS s) Q)) (nI (sm (wgS s) j)) (nI j) = some (nI q) ∧ f_M_lotOf_L10 fu n s (nI (N % sm (wgS s) Q - sm (wgS s) j)) (nI j) = some (nI q) := by
    intro k
    induction k with
    | zero => intro n j hk hn hj; rw [show j = Q by omega] at hj; omega
    | succ k ih =>
      intro n j hk hn hj
      obtain ⟨m, rfl⟩ : ∃ m, n = m + 1 := ⟨n - 1, by omega⟩
      obtain ⟨w1, w2, w3⟩ := wg_at hS (show j < Q by omega)
      have e1 : sm (wgS s) (j + 1) = sm (wgS s) j + wgS s j := rfl
      rw [f_V_drawn_L24, f_M_lotOf_L10, v6, if_neg (nI_ge (by omega) (by omega)), gd_of (vpn (n := j) (N := 8) (by omega) (by omega)), gd_of (vpn (n := j) (N := 8) (by omega) (by omega)), gd_of (vpn (n := j) (N := 8) (by omega) (by omega))]
      simp only [lt_lt]
      rw [nIc (by omega), w1, w2, nI_add, nI_1]
      by_cases z : sm (wgS s) (j + 1) ≤ N % sm (wgS s) Q
      · rw [if_pos (nI_le (by omega) (by omega)), if_neg (nI_nlt (by omega) (by omega)), pk_sub (by omega), show N % sm (wgS s) Q - sm (wgS s) j - wgS s j = N % sm (wgS s) Q - sm (wgS s) (j + 1) by omega]
        exact ih m (j + 1) (by omega) (by omega) z
      · rw [if_neg (nI_ge (by omega) (by omega)), if_pos (nI_lt (by omega) (by omega))]
        exact ⟨j, by omega, rfl, rfl⟩
  have z2 : ¬ nI (sm (wgS s) Q) = 0 := nI_ne0 h0 (by omega)
  obtain ⟨q, q1, q2, q3⟩ := L Q fu 0 (by omega) (by omega) (Nat.zero_le _)
  refine ⟨q, q1, ?_, ?_⟩
  · unfold f_V_drawn
    rw [bd1_eq _ W1, if_pos (show (0 : Int32) < nI (sm (wgS s) Q) from (nIlt (a := 0) (by omega) (by omega)).mpr h0), gd_of z2, eN, g_rem_N (by omega) h0 (by omega), lt_lt]
    exact q2
  · unfold f_M_lotOf
    rw [gd_of z2, eN, g_rem_N (by omega) h0 (by omega), lt_lt]
    exact q3
theorem t_lot {fu P Q : Nat} (hfu : 5000 ≤ fu) {v s : g_St} (h : RV P Q v s) (c : RC s) : ∃ r v' s', f_O_lot fu v = some (r, v') ∧ f_M_lot fu s = some (r, s') ∧ RV P Q v' s' ∧ OV s s' := by
  have hS := h.1
  have hle := sm_le (w := wgS s) Q (fun p hp => (wg_at hS hp).2.2)
  have hQ := hS.1.2.1
  obtain ⟨W1, W2⟩ := W_weights hfu hS
  obtain ⟨y, ey, ev, hy⟩ := year_or h
  unfold f_O_lot f_M_lot
  rw [bd1_eq _ W1, bd1_eq _ W2]
  by_cases z : sm (wgS s) Q = 0
  · rw [z, if_pos (show nI 0 = 0 from rfl), if_pos (show nI 0 = 0 from rfl)]; exact ⟨_, _, _, rfl, rfl, h, OV.rf⟩
  · have z2 : ¬ nI (sm (wgS s) Q) = 0 := nI_ne0 (by omega) (by omega)
    rw [if_neg z2, if_neg z2, cl3, cl6, ey, ev]
    rcases hy with ⟨a, b, d⟩ | ⟨a, b, d⟩
    · have ez : gi v 10 = gi s 14 := h.2.2.2.1
      have h6 : RV P Q (si v 10 (f_S_next (gi s 14))) (si s 14 (f_S_next (gi s 14))) := (t_seed h (f_S_next (gi s 14))).2.1
      rw [if_pos b, if_neg d, lt_lt, lt_lt, lt_lt, lt_lt, ez, show f_S_nextLot (gi s 14) = f_S_next (gi s 14) from rfl]
      obtain ⟨q, q1, q2, q3⟩ := W_lot hfu h6.1 (f_S_next (gi s 14)) (show 0 < sm (wgS s) Q by omega)
      have q2' : f_V_drawn fu (si v 10 (f_S_next (gi s 14))) (gi (si v 10 (f_S_next (gi s 14))) 10) = some (nI q) := q2
      have q3' : f_M_lotOf fu (si s 14 (f_S_next (gi s 14))) (gi (si s 14 (f_S_next (gi s 14))) 14) (nI (sm (wgS s) Q)) = some (nI q) := q3
      obtain ⟨F, v', s', f1, f2, f3, f4, f5⟩ := t_year hfu h6 c q1 ey a
      rw [bd1_eq _ q2', bd2_eq _ f1, bd1_eq _ q3', bd2_eq _ f2]
      exact ⟨_, v', s', rfl, rfl, f4, OV.trans OV.rf f5⟩
    · rw [if_neg b, if_pos d]; exact ⟨_, _, _, rfl, rfl, h, OV.rf⟩
