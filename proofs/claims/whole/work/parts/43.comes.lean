/-! A year passes: comes and lot. -/
theorem M_goes_of {fu P Q A B y q R : Nat} {d : Nat → Nat} {v s : g_St} (hfu : 5000 ≤ fu) (hS : SV P Q v s) (hR : RW P A y d s) (hB : B ≤ 28) (hAB : A = B ∨ A + 7 ≤ B ∨ B + 7 ≤ A) (hR1 : R < 64) (hR2 : ∀ p, p < P → bt R p = 1 → 1 ≤ d p) (hs : f_M_saySet fu s (nI A) (nI q) = some (nI R)) : ∃ s', f_M_goes fu s (nI A) (nI B) (nI q) = some (felln s R, s') ∧ (∀ i, i ≠ 31 → gi s' i = gi s i) ∧ (∀ i, i ≠ 11 → gr s' i = gr s i) ∧ gt s' = gt s ∧ (∀ p, p < P → gr s' 11 (B + p) = nI (nwd (grw s y) R d p)) ∧ gr s' 11 (B + 6) = nI (y + 1) ∧ (∀ i, ¬ (B ≤ i ∧ i < B + P) → i ≠ B + 6 → gr s' 11 i = gr s 11 i) ∧ gi s' 31 = nI R := by
  obtain ⟨⟨hP, hQ, v0, s0, -⟩, -, -, -, -, -, -, -, hG⟩ := hS
  have hA := hR.2.2.1
  obtain ⟨s', e, a1, a2, a3, a4, a5, a6⟩ := M_goes_L (fu := fu) (A := A) (B := B) (y := y) (R := R) (d := d) (g := grw s y) hfu hP hA hB hAB hR1 (fun p hp => ⟨(hR.1 p hp).2, hR2 p hp⟩) P fu 0 (si s 31 (nI R)) (by omega) (by omega) s0 rfl hG rfl (fun p _ hp => (hR.1 p hp).1)
  refine ⟨s', ?_, fun i hi => (a1 i).trans (if_neg hi), a2, a3, fun p hp => a4 p (Nat.zero_le _) hp, a5, fun i h1 h2 => a6 i (by omega) h2, a1 31⟩
  unfold f_M_goes
  rw [bd1_eq _ hs, lt_lt, show nI A + 6 = nI (A + 6) from nI_add A 6, gd_of (vpn (by omega) (by omega)), lt_lt, nIc (by omega), show gr (si s 31 (nI R)) 11 (A + 6) = nI y from hR.2.1]
  exact e
theorem V_pass_L {fu P q : Nat} {nd : Nat → Nat} (hP : P ≤ 6) (hq : q < 8) (hd : ∀ p, p < P → nd p ≤ 9) (F : Int32) : ∀ (k n j : Nat) (v : g_St), k + j = P → k < n → gi v 0 = nI P → ∃ v', f_V_passYear_L42 fu n v (nI q) F (nI (dgs 4 nd P)) (nI j) = some (F, v') ∧ (∀ i, i ≠ 11 → i ≠ 12 → gi v' i = gi v i) ∧ gi v' 11 = (if F = 0 then gi v 11 else gi v 11 + 1) ∧ gi v' 12 = (if F = 0 then gi v 12 + 1 else gi v 12) ∧ (∀ i, i ≠ 4 → i ≠ 5 → i ≠ 9 → gr v' i = gr v i) ∧ (∀ p, gr v' 4 p = if j ≤ p ∧ p < P then nI (nd p) else gr v 4 p) ∧ (∀ p, gr v' 5 p = if F = 0 ∧ j ≤ p ∧ p < P then gr v 5 p + gr v (20 + q) p else gr v 5 p) ∧ gr v' 9 = upd (gr v 9) 3 (gr v 9 3 + 1) := by
  intro k
  induction k with
  | zero =>
    intro n j v hk hn v0
    obtain ⟨w, rfl⟩ : ∃ w, n = w + 1 := ⟨n - 1, by omega⟩
    by_cases z : F = 0
    · refine ⟨sr (si v 12 (gi v 12 + 1)) 9 3 (gr v 9 3 + 1), ?_, fun i h1 h2 => if_neg h2, ?_, ?_, fun i h1 h2 h3 => if_neg h3, fun p => ?_, fun p => ?_, ?_⟩
      · rw [f_V_passYear_L42, v0, if_pos (nI_le (by omega) (by omega)), if_pos z]; rfl
      · rw [if_pos z]; rfl
      · rw [if_pos z]; rfl
      · rw [if_neg (by omega)]; rfl
      · rw [if_neg (by omega)]; rfl
      · rw [gr_sr, if_pos rfl]; rfl
    · refine ⟨sr (si v 11 (gi v 11 + 1)) 9 3 (gr v 9 3 + 1), ?_, fun i h1 h2 => if_neg h1, ?_, ?_, fun i h1 h2 h3 => if_neg h3, fun p => ?_, fun p => ?_, ?_⟩
      · rw [f_V_passYear_L42, v0, if_pos (nI_le (by omega) (by omega)), if_neg z]; rfl
      · rw [if_neg z]; rfl
      · rw [if_neg z]; rfl
      · rw [if_neg (by omega)]; rfl
      · rw [if_neg (by omega)]; rfl
      · rw [gr_sr, if_pos rfl]; rfl
  | succ k ih =>
    intro n j v hk hn v0
    obtain ⟨w, rfl⟩ : ∃ w, n = w + 1 := ⟨n - 1, by omega⟩
    have hj : j < P := by omega
    have cj : (nI j).toNatClampNeg = j := nIc (by omega)
    have cq : (nI q).toNatClampNeg = q := nIc (by omega)
    have hno : f_S_noesIn (nI (dgs 4 nd P)) (nI j) = nI (nd j) := noes_at hP (fun p hp => by have := hd p hp; omega) hj
    by_cases z : F = 0
    · obtain ⟨v', e, a1, a2, a3, a4, a5, a6, a7⟩ := ih w (j + 1) (sr (sr v 4 (nI j) (nI (nd j))) 5 (nI j) (gr v 5 j + gr v (20 + q) j)) (by omega) (by omega) v0
      refine ⟨v', ?_, a1, a2, a3, fun i h1 h2 h3 => ?_, fun p => ?_, fun p => ?_, a7⟩
      · rw [f_V_passYear_L42, v0, if_neg (nI_ge (by omega) (by omega)), lt_lt, hno, gd_of (vpn (n := j) (N := 6) (by omega) (by omega)), lt_lt, if_pos z, gd_of (vpn (n := j) (N := 6) (by omega) (by omega)), gd_of (vpn (n := q) (N := 8) (by omega) (by omega)), gd_of (vpn (n := j) (N := 6) (by omega) (by omega)), lt_lt, gd_of (vpn (n := j) (N := 6) (by omega) (by omega)), lt_lt, lt_lt, nI_1, cj, cq, gr_sr, if_neg (show ¬ 5 = 4 by omega), gr_sr, if_neg (show ¬ 20 + q = 4 by omega)]
        exact e
      · rw [a4 i h1 h2 h3, gr_sr, if_neg h2, gr_sr, if_neg h1]
      · rw [a5 p]
        show (if j + 1 ≤ p ∧ p < P then nI (nd p) else upd (gr v 4) (nI j).toNatClampNeg (nI (nd j)) p) = _
        rw [cj, upd_at]
        by_cases q1 : j + 1 ≤ p ∧ p < P
        · rw [if_pos q1, if_pos ⟨by omega, q1.2⟩]
        · rw [if_neg q1]
          by_cases q2 : p = j
          · rw [if_pos q2, if_pos ⟨by omega, by omega⟩, q2]
          · rw [if_neg q2, if_neg (by omega)]
      · rw [a6 p]
        rw [show gr (sr (sr v 4 (nI j) (nI (nd j))) 5 (nI j) (gr v 5 j + gr v (20 + q) j)) (20 + q) p = gr v (20 + q) p from by rw [gr_sr, if_neg (by omega), gr_sr, if_neg (by omega)]]
        show (if F = 0 ∧ j + 1 ≤ p ∧ p < P then upd (gr v 5) (nI j).toNatClampNeg (gr v 5 j + gr v (20 + q) j) p + gr v (20 + q) p else upd (gr v 5) (nI j).toNatClampNeg (gr v 5 j + gr v (20 + q) j) p) = _
        rw [cj, upd_at]
        by_cases q1 : j + 1 ≤ p ∧ p < P
        · rw [if_pos ⟨z, q1⟩, if_neg (by omega), if_pos ⟨z, by omega, q1.2⟩]
        · rw [if_neg (fun t => q1 t.2)]
          by_cases q2 : p = j
          · rw [if_pos q2, if_pos ⟨z, by omega, by omega⟩, q2]
          · rw [if_neg q2, if_neg (fun t => q1 ⟨by omega, t.2.2⟩)]
    · obtain ⟨v', e, a1, a2, a3, a4, a5, a6, a7⟩ := ih w (j + 1) (sr v 4 (nI j) (nI (nd j))) (by omega) (by omega) v0
      refine ⟨v', ?_, a1, a2, a3, fun i h1 h2 h3 => ?_, fun p => ?_, fun p => ?_, a7⟩
      · rw [f_V_passYear_L42, v0, if_neg (nI_ge (by omega) (by omega)), lt_lt, hno, gd_of (vpn (n := j) (N := 6) (by omega) (by omega)), lt_lt, if_neg z, lt_lt, nI_1]
        exact e
      · rw [a4 i h1 h2 h3, gr_sr, if_neg h1]
      · rw [a5 p]
        show (if j + 1 ≤ p ∧ p < P then nI (nd p) else upd (gr v 4) (nI j).toNatClampNeg (nI (nd j)) p) = _
        rw [cj, upd_at]
        by_cases q1 : j + 1 ≤ p ∧ p < P
        · rw [if_pos q1, if_pos ⟨by omega, q1.2⟩]
        · rw [if_neg q1]
          by_cases q2 : p = j
          · rw [if_pos q2, if_pos ⟨by omega, by omega⟩, q2]
          · rw [if_neg q2, if_neg (by omega)]
      · rw [a6 p, if_neg (fun t => z t.1), if_neg (fun t => z t.1)]; rfl
theorem M_had_L {fu P q : Nat} (hP : P ≤ 6) (hq : q < 8) (F : Int32) (hF : F = 0 ∨ F = 1) : ∀ (k n j : Nat) (s : g_St), k + j = P → k < n → gi s 0 = nI P → ∃ s', f_M_comesNow_L46 fu n s (nI q) F (nI j) = some (F, s') ∧ (∀ i, gi s' i = gi s i) ∧ (∀ i, i ≠ 4 → gr s' i = gr s i) ∧ gt s' = gt s ∧ ∀ p, gr s' 4 p = if F = 0 ∧ j ≤ p ∧ p < P then gr s 4 p + gr s 7 (6 * q + p) else gr s 4 p := by
  intro k
  induction k with
  | zero =>
    intro n j s hk hn s0
    obtain ⟨w, rfl⟩ : ∃ w, n = w + 1 := ⟨n - 1, by omega⟩
    refine ⟨s, ?_, fun i => rfl, fun i hi => rfl, rfl, fun p => by rw [if_neg (by omega)]⟩
    rw [f_M_comesNow_L46, s0, if_pos (nI_le (by omega) (by omega))]
    rcases hF with rfl | rfl
    · rw [if_pos rfl]
    · rw [if_neg ne10]
  | succ k ih =>
    intro n j s hk hn s0
    obtain ⟨w, rfl⟩ : ∃ w, n = w + 1 := ⟨n - 1, by omega⟩
    have hj : j < P := by omega
    have cj : (nI j).toNatClampNeg = j := nIc (by omega)
    by_cases z : F = 0
    · obtain ⟨s', e, a1, a2, a3, a4⟩ := ih w (j + 1) (sr s 4 (nI j) (gr s 4 j + gr s 7 (6 * q + j))) (by omega) (by omega) s0
      refine ⟨s', ?_, a1, fun i hi => (a2 i hi).trans (if_neg hi), a3, fun p => ?_⟩
      · rw [f_M_comesNow_L46, s0, if_neg (nI_ge (by omega) (by omega)), gd_of (vpn (n := j) (N := 6) (by omega) (by omega)), if_pos z, bd1_eq _ (M_worthTo (by omega) (by omega)), lt_lt, gd_of (vpn (n := j) (N := 6) (by omega) (by omega)), lt_lt, lt_lt, nI_1, cj]
        exact e
      · rw [a4 p]
        show (if F = 0 ∧ j + 1 ≤ p ∧ p < P then upd (gr s 4) (nI j).toNatClampNeg (gr s 4 j + gr s 7 (6 * q + j)) p + gr s 7 (6 * q + p) else upd (gr s 4) (nI j).toNatClampNeg (gr s 4 j + gr s 7 (6 * q + j)) p) = _
        rw [cj, upd_at]
        by_cases q1 : j + 1 ≤ p ∧ p < P
        · rw [if_pos ⟨z, q1⟩, if_neg (by omega), if_pos ⟨z, by omega, q1.2⟩]
        · rw [if_neg (fun t => q1 t.2)]
          by_cases q2 : p = j
          · rw [if_pos q2, if_pos ⟨z, by omega, by omega⟩, q2]
          · rw [if_neg q2, if_neg (fun t => q1 ⟨by omega, t.2.2⟩)]
    · obtain ⟨s', e, a1, a2, a3, a4⟩ := ih w (j + 1) (sr s 4 (nI j) (gr s 4 j + 0)) (by omega) (by omega) s0
      refine ⟨s', ?_, a1, fun i hi => (a2 i hi).trans (if_neg hi), a3, fun p => ?_⟩
      · rw [f_M_comesNow_L46, s0, if_neg (nI_ge (by omega) (by omega)), gd_of (vpn (n := j) (N := 6) (by omega) (by omega)), if_neg z, lt_lt, gd_of (vpn (n := j) (N := 6) (by omega) (by omega)), lt_lt, lt_lt, nI_1, cj]
        exact e
      · rw [a4 p, if_neg (fun t => z t.1), if_neg (fun t => z t.1)]
        show upd (gr s 4) (nI j).toNatClampNeg (gr s 4 j + 0) p = _
        rw [cj, upd_at]
        by_cases q2 : p = j
        · rw [if_pos q2, q2, Int32.add_zero]
        · rw [if_neg q2]
