/-! The rows of the proof: found. -/
theorem SV.keep {P Q : Nat} {v s t : g_St} (h : SV P Q v s) (i0 : gi t 0 = gi s 0) (i5 : gi t 5 = gi s 5) (r1 : gr t 1 = gr s 1) (r2 : gr t 2 = gr s 2) (r3 : gr t 3 = gr s 3) (r6 : gr t 6 = gr s 6) (r7 : gr t 7 = gr s 7) (r8 : gr t 8 = gr s 8) : SV P Q v t := by
  unfold SV at h ⊢
  rw [i0, i5, r1, r2, r3, r6, r7, r8]
  exact h
theorem wgS_cong {s t : g_St} (r6 : gr t 6 = gr s 6) : wgS t = wgS s := by
  funext q
  unfold wgS
  rw [r6]
theorem W_find_L {fu P Q T M : Nat} {v : g_St} (hfu : 5000 ≤ fu) (hM : M ≤ 12) (hT : 0 < T) : ∀ (k n j A y : Nat) (d : Nat → Nat) (z : Int32) (w s : g_St), k + j = M → k < n → (A = if j = 0 then 0 else 7) → y ≤ 1000 + j → SV P Q v s → RW P A y d s → gi s 29 = -1 → sm (wgS s) Q = T → ∃ w' s', f_O_fillRows_rows_L31 fu n w v (nI M) z (nI y) (nI (dgs 4 d P)) (nI j) = some w' ∧ f_M_findRows_L8 fu n s (nI M) (nI T) z (nI j) = some s' ∧ (∀ i, gi w' i = gi w i) ∧ (∀ b, ¬ (100 + j ≤ b ∧ b < 100 + M) → gr w' b = gr w b) ∧ (∀ i, j ≤ i → i < M → ∀ c, c < 3 → gr w' (100 + i) c = gr s' 35 (3 * i + c)) ∧ (∀ i, i ≠ 31 → gi s' i = gi s i) ∧ (∀ i, i ≠ 11 → i ≠ 35 → gr s' i = gr s i) ∧ gt s' = gt s ∧ (∀ i, i < 7 → gr s' 11 i = gr s 11 i) ∧ ∀ x, x < 3 * j → gr s' 35 x = gr s 35 x := by
  intro k
  induction k with
  | zero =>
    intro n j A y d z w s hk hn hA hy hS hR h29 hT'
    obtain ⟨m, rfl⟩ : ∃ m, n = m + 1 := ⟨n - 1, by omega⟩
    refine ⟨w, s, ?_, ?_, fun _ => rfl, fun _ _ => rfl, fun i h1 h2 => by omega, fun _ _ => rfl, fun _ _ _ => rfl, rfl, fun _ _ => rfl, fun _ _ => rfl⟩
    · rw [f_O_fillRows_rows_L31, if_pos (nI_le (by omega) (by omega))]
    · rw [f_M_findRows_L8, if_pos (nI_le (by omega) (by omega))]
  | succ k ih =>
    intro n j A y d z w s hk hn hA hy hS hR h29 hT'
    obtain ⟨m, rfl⟩ : ∃ m, n = m + 1 := ⟨n - 1, by omega⟩
    have hP := hS.1.1
    obtain ⟨q, q1, q2, q3⟩ := W_lot hfu hS (f_S_next z) (by omega)
    obtain ⟨R, R1, R2, R3, R4⟩ := W_says hfu hS hR q1 h29
    have hA' : A = 7 ∨ A + 7 ≤ 7 ∨ 7 + 7 ≤ A := by rw [hA]; split <;> omega
    obtain ⟨s2, f1, b1, b2, b3, b4, b5, b6, s31⟩ := M_goes_of (B := 7) hfu hS hR (by omega) hA' R1 R2 R4
    have g1 := V_after hfu hS R1 (fun p hp => ⟨(hR.1 p hp).2, R2 p hp⟩) (y := y)
    have hnd : ∀ p, p < P → nwd (grw s y) R d p ≤ 9 := fun p hp => nwd_le (hR.1 p hp).2
    have cj : (nI j).toNatClampNeg = j := nIc (by omega)
    -- the two states after this row
    have hw : ∀ F : Int32, F = felln s R → f_O_fillRows_rows_L112 fu (f_O_fillRows_rows_L31 fu m) (sr (sr w (100 + j) 0 (nI q)) (100 + j) 1 (nI R)) v (nI M) (f_S_next z) (nI y) (nI (dgs 4 d P)) (nI j) (nI R) F 2 (nI j) = f_O_fillRows_rows_L31 fu m (sr (sr (sr w (100 + j) 0 (nI q)) (100 + j) 1 (nI R)) (100 + j) 2 (felln s R)) v (nI M) (f_S_next z) (nI (y + 1)) (nI (dgs 4 (nwd (grw s y) R d) P)) (nI (j + 1)) := fun F hF => by
      rw [f_O_fillRows_rows_L112, gd_of (vp2 (by omega) (by omega)), lt_lt, bd1_eq _ g1, lt_lt, lt_lt, cj, nI_1, nI_1, hF]
    obtain ⟨w', s', e1, e2, e3, e4, e5, e6, e7, e8, e9, e10⟩ := ih m (j + 1) 7 (y + 1) (nwd (grw s y) R d) (f_S_next z) (sr (sr (sr w (100 + j) 0 (nI q)) (100 + j) 1 (nI R)) (100 + j) 2 (felln s R)) (sr (sr (sr s2 35 (nI (3 * j)) (nI q)) 35 (nI (3 * j + 1)) (nI R)) 35 (nI (3 * j + 2)) (felln s R)) (by omega) (by omega) (by rw [if_neg (by omega)]) (by omega) (hS.keep (b1 0 (by omega)) (b1 5 (by omega)) (b2 1 (by omega)) (b2 2 (by omega)) (b2 3 (by omega)) (b2 6 (by omega)) (b2 7 (by omega)) (b2 8 (by omega))) ⟨fun p hp => ⟨b4 p hp, hnd p hp⟩, b5, by omega, by omega, by omega⟩ ((b1 29 (by omega)).trans h29) (by rw [show wgS (sr (sr (sr s2 35 (nI (3 * j)) (nI q)) 35 (nI (3 * j + 1)) (nI R)) 35 (nI (3 * j + 2)) (felln s R)) = wgS s from wgS_cong (b2 6 (by omega))]; exact hT')
    have t0 : (3 : Int32) * nI j = nI (3 * j) := pk_mul 3 j
    have hF := felln01 s R
    -- the reference's step
    have hs : ∀ Z : Nat, f_M_goes fu s (nI Z) 7 (nI q) = some (felln s R, s2) → f_M_findRows_L39 fu (f_M_findRows_L8 fu m) s (nI M) (nI T) (f_S_next z) (nI j) (nI q) (nI Z) = some s' := fun Z hZ => by
      rw [f_M_findRows_L39, bd2_eq _ hZ, t0, show nI (3 * j) + 1 = nI (3 * j + 1) from nI_add _ 1, show nI (3 * j) + 2 = nI (3 * j + 2) from nI_add _ 2, gd_of (vpn (n := 3 * j) (N := 36) (by omega) (by omega)), lt_lt, lt_lt, gi_sr, s31, gd_of (vpn (n := 3 * j + 1) (N := 36) (by omega) (by omega)), lt_lt, gd_of (vpn (n := 3 * j + 2) (N := 36) (by omega) (by omega)), gd_of (vpn (n := 3 * j + 2) (N := 36) (by omega) (by omega)), lt_lt, lt_lt, lt_lt, nI_1]
      rcases hF with h | h
      · rw [h] at e2 ⊢
        rw [if_pos rfl]; exact e2
      · rw [h] at e2 ⊢
        rw [if_neg ne10]; exact e2
    refine ⟨w', s', ?_, ?_, fun i => e3 i, fun b hb => ?_, fun i h1 h2 c hc => ?_, fun i hi => (e6 i hi).trans (b1 i hi), fun i h1 h2 => ?_, e8.trans b3, fun i hi => ?_, fun x hx => ?_⟩
    · rw [f_O_fillRows_rows_L31, if_neg (nI_ge (by omega) (by omega)), if_neg (show ¬ (12 : Int32) ≤ nI j from nI_ge (b := 12) (by omega) (by omega)), lt_lt, show f_S_nextLot z = f_S_next z from rfl, bd1_eq _ q2, bd1_eq _ R3, gd_of (vpn (n := j) (N := 12) (by omega) (by omega)), lt_lt, gd_of (vpn (n := j) (N := 12) (by omega) (by omega)), lt_lt, gd_of (vpn (n := j) (N := 12) (by omega) (by omega)), cj, V_isFall hS R1]
      rcases hF with h | h
      · rw [if_pos h, hw 0 h.symm]; exact e1
      · rw [if_neg (by rw [h]; decide), hw 1 h.symm]; exact e1
    · rw [f_M_findRows_L8, if_neg (nI_ge (by omega) (by omega)), lt_lt, ← hT', bd1_eq _ q3, hT']
      by_cases j0 : j = 0
      · rw [if_pos (show nI j = 0 by rw [j0]; rfl)]
        rw [if_pos j0] at hA
        rw [hA] at f1
        exact hs 0 f1
      · rw [if_neg (nI_ne0 (by omega) (by omega))]
        rw [if_neg j0] at hA
        rw [hA] at f1
        exact hs 7 f1
    · rw [e4 b (by omega), gr_sr, if_neg (by omega), gr_sr, if_neg (by omega), gr_sr, if_neg (by omega)]
    · by_cases q0 : i = j
      · rw [e4 (100 + i) (by omega), e10 (3 * i + c) (by omega), q0]
        rw [gr_sr, if_pos rfl, gr_sr, if_pos rfl, gr_sr, if_pos rfl, gr_sr, if_pos rfl, gr_sr, if_pos rfl, gr_sr, if_pos rfl, nIc (show 3 * j + 2 ≤ 4096 by omega), nIc (show 3 * j + 1 ≤ 4096 by omega), nIc (show 3 * j ≤ 4096 by omega), cl0, cl1, cl2]
        simp only [upd_at]
        rcases (show c = 0 ∨ c = 1 ∨ c = 2 by omega) with rfl | rfl | rfl
        · rw [if_neg (by omega), if_neg (by omega), if_pos rfl, if_neg (by omega), if_neg (by omega), if_pos (by omega)]
        · rw [if_neg (by omega), if_pos rfl, if_neg (by omega), if_pos rfl]
        · rw [if_pos rfl, if_pos rfl]
      · exact e5 i (by omega) h2 c hc
    · rw [e7 i h1 h2, gr_sr, if_neg h2, gr_sr, if_neg h2, gr_sr, if_neg h2, b2 i h1]
    · rw [e9 i hi]
      exact b6 i (by omega) (by omega)
    · rw [e10 x (by omega), gr_sr, if_pos rfl, gr_sr, if_pos rfl, gr_sr, if_pos rfl, nIc (show 3 * j + 2 ≤ 4096 by omega), nIc (show 3 * j + 1 ≤ 4096 by omega), nIc (show 3 * j ≤ 4096 by omega), upd_at, if_neg (by omega), upd_at, if_neg (by omega), upd_at, if_neg (by omega), b2 35 (by omega)]
