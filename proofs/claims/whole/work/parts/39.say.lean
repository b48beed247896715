/-! Who says no, out of those who would. -/
theorem W_old {fu P Q m r : Nat} {v s : g_St} {t : Int32} (K : g_St → Int32 → Int32 → Int32 → Option Int32) (hS : SV P Q v s) (hm : m < 64) (hr : r < 64) : ∀ (k n j : Nat) (o : Int32), k + j = P → k < n → ((o = -1 ∧ ∃ p, j ≤ p ∧ p < P ∧ bt m p = 1) ∨ (∃ c, c < P ∧ bt m c = 1 ∧ o = nI c)) → ∃ c, c < P ∧ bt m c = 1 ∧ f_V_oldestOf_L4 fu n v (nI m) o (nI j) = some (nI c) ∧ f_M_saySet_L45 fu K n s (nI m) (nI r) t o (nI j) = K s (nI (clr m c)) (nI (ins r c)) (t + 1) := by
  obtain ⟨⟨hP, hQ, v0, s0, -⟩, hk, -, -⟩ := hS
  intro k
  induction k with
  | zero =>
    intro n j o hk' hn ho
    obtain ⟨w, rfl⟩ : ∃ w, n = w + 1 := ⟨n - 1, by omega⟩
    rcases ho with ⟨-, p, h1, h2, -⟩ | ⟨c, c1, c2, rfl⟩
    · omega
    · refine ⟨c, c1, c2, ?_, ?_⟩
      · rw [f_V_oldestOf_L4, v0, if_pos (nI_le (by omega) (by omega)), if_neg (nI_pos (by omega))]
      · have e1 : nI m &&& (g_shl 1 (nI c) ^^^ (-1)) = nI (clr m c) := F_clr ⟨m, hm⟩ ⟨c, by omega⟩
        have e2 : nI r ||| g_shl 1 (nI c) = nI (ins r c) := F_ins ⟨r, hr⟩ ⟨c, by omega⟩
        rw [f_M_saySet_L45, s0, if_pos (nI_le (by omega) (by omega)), lt_lt, lt_lt, lt_lt, e1, e2]
  | succ k ih =>
    intro n j o hk' hn ho
    obtain ⟨w, rfl⟩ : ∃ w, n = w + 1 := ⟨n - 1, by omega⟩
    have hj : j < P := by omega
    have bj : nI (m / 2 ^ j % 2) = 1 ↔ bt m j = 1 := bit_one
    have g0 : ∀ o, f_M_saySet_L100 fu K (f_M_saySet_L45 fu K w) s (nI m) (nI r) t o (nI j) 0 = f_M_saySet_L45 fu K w s (nI m) (nI r) t o (nI (j + 1)) := fun o => by
      rw [f_M_saySet_L100, if_pos rfl, lt_lt, nI_1]
    have g1 : ∀ o, f_M_saySet_L100 fu K (f_M_saySet_L45 fu K w) s (nI m) (nI r) t o (nI j) 1 = f_M_saySet_L45 fu K w s (nI m) (nI r) t (nI j) (nI (j + 1)) := fun o => by
      rw [f_M_saySet_L100, if_neg ne10, lt_lt, nI_1]
    rw [f_V_oldestOf_L4, f_M_saySet_L45, v0, s0, if_neg (nI_ge (by omega) (by omega)), if_neg (nI_ge (by omega) (by omega)), bit_ushr hm (by omega), bit_shr (by omega) (by omega), nI_1]
    simp only [lt_lt]
    by_cases b : bt m j = 1
    · rw [if_pos (bj.mpr b), if_pos (bj.mpr b)]
      rcases ho with ⟨rfl, -⟩ | ⟨c, c1, c2, rfl⟩
      · rw [if_pos (show (-1 : Int32) < 0 by decide), if_pos (show (-1 : Int32) < 0 by decide), g1]
        exact ih w (j + 1) (nI j) (by omega) (by omega) (Or.inr ⟨j, hj, b, rfl⟩)
      · rw [if_neg (nI_pos (n := c) (by omega)), if_neg (nI_pos (n := c) (by omega)), if_pos (nI_pos' (n := c) (by omega)), gd_of (vpn (n := j) (N := 6) (by omega) (by omega)), gd_of (vpn (n := c) (N := 6) (by omega) (by omega)), gd_of (vpn (n := j) (N := 6) (by omega) (by omega)), gd_of (vpn (n := c) (N := 6) (by omega) (by omega)), nIc (show j ≤ 4096 by omega), nIc (show c ≤ 4096 by omega), (hk j hj).2.2.1, (hk c c1).2.2.1, g0, g1]
        by_cases z : gr s 3 j ≤ gr s 3 c
        · rw [if_pos z, if_pos z]
          exact ih w (j + 1) (nI c) (by omega) (by omega) (Or.inr ⟨c, c1, c2, rfl⟩)
        · rw [if_neg z, if_neg z]
          exact ih w (j + 1) (nI j) (by omega) (by omega) (Or.inr ⟨j, hj, b, rfl⟩)
    · rw [if_neg (mt bj.mp b), if_neg (mt bj.mp b), g0]
      refine ih w (j + 1) o (by omega) (by omega) ?_
      rcases ho with ⟨e, p, h1, h2, h3⟩ | h
      · refine Or.inl ⟨e, p, ?_, h2, h3⟩
        rcases Nat.lt_or_ge j p with a | a
        · exact a
        · exact absurd (show bt m j = 1 by rw [show j = p by omega]; exact h3) b
      · exact Or.inr h
theorem W_say_L {fu P Q N : Nat} {v s : g_St} (hfu : 5000 ≤ fu) (hS : SV P Q v s) (hN : N ≤ 3) (hn1 : gr s 8 0 = nI N) : ∀ (k n t m r : Nat), k + t = N → k < n → m < 64 → r < 64 → (∀ p, P ≤ p → p < 6 → bt m p = 0) → ∃ R, R < 64 ∧ (∀ p, p < 6 → bt R p = 1 → bt r p = 1 ∨ bt m p = 1) ∧ f_V_sayersOf_L18 fu n v (nI m) (nI r) (nI t) = some (nI R) ∧ f_M_saySet_L24 fu n s (nI m) (nI r) (nI t) = some (nI R) := by
  have hS' := hS
  obtain ⟨⟨hP, hQ, v0, s0, -⟩, hk, -, hl1, -⟩ := hS'
  intro k
  induction k with
  | zero =>
    intro n t m r hk' hn hm hr hz
    obtain ⟨w, rfl⟩ : ∃ w, n = w + 1 := ⟨n - 1, by omega⟩
    refine ⟨r, hr, fun p _ h => Or.inl h, ?_, ?_⟩
    · rw [f_V_sayersOf_L18, cl0, hl1, hn1, if_pos (nI_le (by omega) (by omega))]
    · rw [f_M_saySet_L24, cl0, hn1, if_pos (nI_le (by omega) (by omega))]
  | succ k ih =>
    intro n t m r hk' hn hm hr hz
    obtain ⟨w, rfl⟩ : ∃ w, n = w + 1 := ⟨n - 1, by omega⟩
    rw [f_V_sayersOf_L18, f_M_saySet_L24, cl0, hl1, hn1, if_neg (nI_ge (by omega) (by omega)), if_neg (nI_ge (by omega) (by omega))]
    by_cases z : m = 0
    · subst z
      rw [if_pos (show nI 0 = 0 from rfl), if_pos (show nI 0 = 0 from rfl)]
      exact ⟨r, hr, fun p _ h => Or.inl h, rfl, rfl⟩
    · rw [if_neg (nI_ne0 (by omega) (by omega)), if_neg (nI_ne0 (by omega) (by omega))]
      obtain ⟨p0, hp0⟩ : ∃ p : Fin 6, bt m p.val = 1 := by
        rcases F_some ⟨m, hm⟩ with h | h
        · exact absurd h z
        · exact h
      have hp1 : p0.val < P := by
        rcases Nat.lt_or_ge p0.val P with a | a
        · exact a
        · have := hz p0.val a p0.isLt; omega
      obtain ⟨c, c1, c2, c3, c4⟩ := W_old (fu := fu) (t := nI t) (f_M_saySet_L24 fu w) hS hm hr P fu 0 (-1) (by omega) (by omega) (Or.inl ⟨rfl, p0.val, by omega, hp1, hp0⟩)
      have c3' : f_V_oldestOf fu v (nI m) = some (nI c) := c3
      have c6 : c < 6 := by omega
      have e1 : nI m &&& (g_shl 1 (nI c) ^^^ (-1)) = nI (clr m c) := F_clr ⟨m, hm⟩ ⟨c, c6⟩
      have e2 : nI r ||| g_shl 1 (nI c) = nI (ins r c) := F_ins ⟨r, hr⟩ ⟨c, c6⟩
      have l1 := (F_lt ⟨r, hr⟩ ⟨c, c6⟩).1
      have l2 := (F_lt ⟨m, hm⟩ ⟨c, c6⟩).2
      have l1' : ins r c < 64 := l1
      have l2' : clr m c ≤ m := l2
      obtain ⟨R, R1, R2, R3, R4⟩ := ih w (t + 1) (clr m c) (ins r c) (by omega) (by omega) (by omega) l1' (fun p hp h6 => by
        have e := F_cb ⟨m, hm⟩ ⟨c, c6⟩ ⟨p, h6⟩
        have e' : bt (clr m c) p = if p = c then 0 else bt m p := e
        rw [e']; split
        · rfl
        · exact hz p hp h6)
      refine ⟨R, R1, fun p h6 h => ?_, ?_, ?_⟩
      · have e : bt (ins r c) p = if p = c then 1 else bt r p := F_ib ⟨r, hr⟩ ⟨c, c6⟩ ⟨p, h6⟩
        have e' : bt (clr m c) p = if p = c then 0 else bt m p := F_cb ⟨m, hm⟩ ⟨c, c6⟩ ⟨p, h6⟩
        by_cases pc : p = c
        · exact Or.inr (by rw [pc]; exact c2)
        · rw [if_neg pc] at e e'
          rcases R2 p h6 h with a | a
          · exact Or.inl (e.symm.trans a)
          · exact Or.inr (e'.symm.trans a)
      · rw [bd1_eq _ c3']
        simp only [lt_lt]
        rw [e1, e2, nI_1]
        exact R3
      · rw [nI_1] at c4
        exact c4.trans R4
theorem W_say {fu P Q m : Nat} {v s : g_St} (hfu : 5000 ≤ fu) (hS : SV P Q v s) (hm : m < 64) (hz : ∀ p, P ≤ p → p < 6 → bt m p = 0) : ∃ R, R < 64 ∧ (∀ p, p < 6 → bt R p = 1 → bt m p = 1) ∧ f_V_sayersOf fu v (nI m) = some (nI R) ∧ (if gr s 8 (1 : Int32).toNatClampNeg = 0 then some (nI m) else f_M_saySet_L24 fu fu s (nI m) 0 0) = some (nI R) := by
  have hS' := hS
  obtain ⟨-, -, -, l1, l2, -, ⟨N, -, hN, eN⟩, -, -⟩ := hS'
  unfold f_V_sayersOf
  rw [cl1, l2]
  by_cases z : gr s 8 1 = 0
  · rw [if_pos z, if_pos z]
    exact ⟨m, hm, fun p _ h => h, rfl, rfl⟩
  · rw [if_neg z, if_neg z]
    obtain ⟨R, R1, R2, R3, R4⟩ := W_say_L hfu hS hN eN N fu 0 m 0 (by omega) (by omega) hm (by omega) hz
    refine ⟨R, R1, fun p h6 h => ?_, R3, R4⟩
    rcases R2 p h6 h with a | a
    · have : bt 0 p = 0 := by unfold bt; rw [Nat.zero_div]
      omega
    · exact a
