/-! prove: the rows that are due, and the rows that are kept. -/
theorem W_due_L {fu P Q T M : Nat} {v : g_St} (hfu : 5000 ≤ fu) (hM : M ≤ 12) (hT : 0 < T) : ∀ (k n j A y : Nat) (d : Nat → Nat) (z : Int32) (w s : g_St), k + j = M → k < n → (A = if j = 0 then 0 else 7) → y ≤ 1000 + j → SV P Q v s → RW P A y d s → gi s 29 = -1 → sm (wgS s) Q = T → ∃ w' s', f_O_fillRows_dueRows_L31 fu n w v (nI M) z (nI y) (nI (dgs 4 d P)) (nI j) = some w' ∧ f_M_findRows_L8 fu n s (nI M) (nI T) z (nI j) = some s' ∧ (∀ i, gi w' i = gi w i) ∧ (∀ b, ¬ (120 + j ≤ b ∧ b < 120 + M) → gr w' b = gr w b) ∧ (∀ i, j ≤ i → i < M → ∀ c, c < 3 → gr w' (120 + i) c = gr s' 35 (3 * i + c)) ∧ (∀ i, i ≠ 31 → gi s' i = gi s i) ∧ (∀ i, i ≠ 11 → i ≠ 35 → gr s' i = gr s i) ∧ gt s' = gt s ∧ (∀ i, i < 7 → gr s' 11 i = gr s 11 i) ∧ ∀ x, x < 3 * j → gr s' 35 x = gr s 35 x := by
  intro k
  induction k with
  | zero =>
    intro n j A y d z w s hk hn hA hy hS hR h29 hT'
    obtain ⟨m, rfl⟩ : ∃ m, n = m + 1 := ⟨n - 1, by omega⟩
    refine ⟨w, s, ?_, ?_, fun _ => rfl, fun _ _ => rfl, fun i h1 h2 => by omega, fun _ _ => rfl, fun _ _ _ => rfl, rfl, fun _ _ => rfl, fun _ _ => rfl⟩
    · rw [f_O_fillRows_dueRows_L31, if_pos (nI_le (by omega) (by omega))]
    · rw [f_M_findRows_L8, if_pos (nI_le (by omega) (by omega))]
  | succ k ih =>
    intro n j A y d z w s hk hn hA hy hS hR h29 hT'
    obtain ⟨m, rfl⟩ : ∃ m, n = m + 1 := ⟨n - 1, by omega⟩
    have hP := hS.1.1
    obtain ⟨q, q1, q2, q3⟩ := W_lot hfu hS (f_S_next z) (by omega)
    obtain ⟨R, R1, R2, R3, R4⟩ := W_says hfu hS hR q1 h29
    have hA' : A = 7 ∨ A + 7 ≤ 7 ∨ 7 + 7 ≤ A := by rw [hA]; split <;> omega
    obtain ⟨s2, f1, b1, b2, b3, b4, b5, b6, s31⟩ := M_goes_of (B := 7) hfu hS hR (by omega) hA' R1 R2 R4
    have g1 := V_after hfu hS R1 (fun p hp => ⟨(hR.1 p hp).2, R2 p hp⟩) (y := y)
    have hnd : ∀ p, p < P → nwd (grw s y) R d p ≤ 9 := fun p hp => nwd_le (hR.1 p hp).2
    have cj : (nI j).toNatClampNeg = j := nIc (by omega)
    -- the two states after this row
    have hw : ∀ F : Int32, F = felln s R → f_O_fillRows_dueRows_L112 fu (f_O_fillRows_dueRows_L31 fu m) (sr (sr w (120 + j) 0 (nI q)) (120 + j) 1 (nI R)) v (nI M) (f_S_next z) (nI y) (nI (dgs 4 d P)) (nI j) (nI R) F 2 (nI j) = f_O_fillRows_dueRows_L31 fu m (sr (sr (sr w (120 + j) 0 (nI q)) (120 + j) 1 (nI R)) (120 + j) 2 (felln s R)) v (nI M) (f_S_next z) (nI (y + 1)) (nI (dgs 4 (nwd (grw s y) R d) P)) (nI (j + 1)) := fun F hF => by
      rw [f_O_fillRows_dueRows_L112, gd_of (vp2 (by omega) (by omega)), lt_lt, bd1_eq _ g1, lt_lt, lt_lt, cj, nI_1, nI_1, hF]
    obtain ⟨w', s', e1, e2, e3, e4, e5, e6, e7, e8, e9, e10⟩ := ih m (j + 1) 7 (y + 1) (nwd (grw s y) R d) (f_S_next z) (sr (sr (sr w (120 + j) 0 (nI q)) (120 + j) 1 (nI R)) (120 + j) 2 (felln s R)) (sr (sr (sr s2 35 (nI (3 * j)) (nI q)) 35 (nI (3 * j + 1)) (nI R)) 35 (nI (3 * j + 2)) (felln s R)) (by omega) (by omega) (by rw [if_neg (by omega)]) (by omega) (hS.keep (b1 0 (by omega)) (b1 5 (by omega)) (b2 1 (by omega)) (b2 2 (by omega)) (b2 3 (by omega)) (b2 6 (by omega)) (b2 7 (by omega)) (b2 8 (by omega))) ⟨fun p hp => ⟨b4 p hp, hnd p hp⟩, b5, by omega, by omega, by omega⟩ ((b1 29 (by omega)).trans h29) (by rw [show wgS (sr (sr (sr s2 35 (nI (3 * j)) (nI q)) 35 (nI (3 * j + 1)) (nI R)) 35 (nI (3 * j + 2)) (felln s R)) = wgS s from wgS_cong (b2 6 (by omega))]; exact hT')
    have t0 : (3 : Int32) * nI j = nI (3 * j) := pk_mul 3 j
    have hF := felln01 s R
    -- the reference's step
    have hs : ∀ Z : Nat, f_M_goes fu s (nI Z) 7 (nI q) = some (felln s R, s2) → f_M_findRows_L39 fu (f_M_findRows_L8 fu m) s (nI M) (nI T) (f_S_next z) (nI j) (nI q) (nI Z) = some s' := fun Z hZ => by
      rw [f_M_findRows_L39, bd2_eq _ hZ, t0, show nI (3 * j) + 1 = nI (3 * j + 1) from nI_add _ 1, show nI (3 * j) + 2 = nI (3 * j + 2) from nI_add _ 2, gd_of (vpn (n := 3 * j) (N := 36) (by omega) (by omega)), lt_lt, lt_lt, gi_sr, s31, gd_of (vpn (n := 3 * j + 1) (N := 36) (by omega) (by omega)), lt_lt, gd_of (vpn (n := 3 * j + 2) (N := 36) (by omega) (by omega)), gd_of (vpn (n := 3 * j + 2) (N := 36) (by omega) (by omega)), lt_lt, lt_lt, lt_lt, nI_1]
      rcases hF with h | h
      · rw [h] at e2 ⊢
        rw [if_pos rfl]; exact e2
      · rw [h] at e2 ⊢
        rw [if_neg ne10]; exact e2
    refine ⟨w', s', ?_, ?_, fun i => e3 i, fun b hb => ?_, fun i h1 h2 c hc => ?_, fun i hi => (e6 i hi).trans (b1 i hi), fun i h1 h2 => ?_, e8.trans b3, fun i hi => ?_, fun x hx => ?_⟩
    · rw [f_O_fillRows_dueRows_L31, if_neg (nI_ge (by omega) (by omega)), if_neg (show ¬ (12 : Int32) ≤ nI j from nI_ge (b := 12) (by omega) (by omega)), lt_lt, show f_S_nextLot z = f_S_next z from rfl, bd1_eq _ q2, bd1_eq _ R3, gd_of (vpn (n := j) (N := 12) (by omega) (by omega)), lt_lt, gd_of (vpn (n := j) (N := 12) (by omega) (by omega)), lt_lt, gd_of (vpn (n := j) (N := 12) (by omega) (by omega)), cj, V_isFall hS R1]
      rcases hF with h | h
      · rw [if_pos h, hw 0 h.symm]; exact e1
      · rw [if_neg (by rw [h]; decide), hw 1 h.symm]; exact e1
    · rw [f_M_findRows_L8, if_neg (nI_ge (by omega) (by omega)), lt_lt, ← hT', bd1_eq _ q3, hT']
      by_cases j0 : j = 0
      · rw [if_pos (show nI j = 0 by rw [j0]; rfl)]
        rw [if_pos j0] at hA
        rw [hA] at f1
        exact hs 0 f1
      · rw [if_neg (nI_ne0 (by omega) (by omega))]
        rw [if_neg j0] at hA
        rw [hA] at f1
        exact hs 7 f1
    · rw [e4 b (by omega), gr_sr, if_neg (by omega), gr_sr, if_neg (by omega), gr_sr, if_neg (by omega)]
    · by_cases q0 : i = j
      · rw [e4 (120 + i) (by omega), e10 (3 * i + c) (by omega), q0]
        rw [gr_sr, if_pos rfl, gr_sr, if_pos rfl, gr_sr, if_pos rfl, gr_sr, if_pos rfl, gr_sr, if_pos rfl, gr_sr, if_pos rfl, nIc (show 3 * j + 2 ≤ 4096 by omega), nIc (show 3 * j + 1 ≤ 4096 by omega), nIc (show 3 * j ≤ 4096 by omega), cl0, cl1, cl2]
        simp only [upd_at]
        rcases (show c = 0 ∨ c = 1 ∨ c = 2 by omega) with rfl | rfl | rfl
        · rw [if_neg (by omega), if_neg (by omega), if_pos rfl, if_neg (by omega), if_neg (by omega), if_pos (by omega)]
        · rw [if_neg (by omega), if_pos rfl, if_neg (by omega), if_pos rfl]
        · rw [if_pos rfl, if_pos rfl]
      · exact e5 i (by omega) h2 c hc
    · rw [e7 i h1 h2, gr_sr, if_neg h2, gr_sr, if_neg h2, gr_sr, if_neg h2, b2 i h1]
    · rw [e9 i hi]
      exact b6 i (by omega) (by omega)
    · rw [e10 x (by omega), gr_sr, if_pos rfl, gr_sr, if_pos rfl, gr_sr, if_pos rfl, nIc (show 3 * j + 2 ≤ 4096 by omega), nIc (show 3 * j + 1 ≤ 4096 by omega), nIc (show 3 * j ≤ 4096 by omega), upd_at, if_neg (by omega), upd_at, if_neg (by omega), upd_at, if_neg (by omega), b2 35 (by omega)]
theorem M_prove_L {fu M : Nat} (hM : M ≤ 12) : ∀ (k n i : Nat) (s : g_St), k + i = 3 * M → k < n → ∃ s', f_M_prove_L37 fu n s (nI M) (nI i) = some (gi s 36, s') ∧ (∀ j, gi s' j = gi s j) ∧ (∀ b, b ≠ 34 → gr s' b = gr s b) ∧ gt s' = gt s ∧ ∀ x, gr s' 34 x = if i ≤ x ∧ x < 3 * M then gr s 35 x else gr s 34 x := by
  intro k
  induction k with
  | zero =>
    intro n i s hk hn
    obtain ⟨m, rfl⟩ : ∃ m, n = m + 1 := ⟨n - 1, by omega⟩
    refine ⟨s, ?_, fun _ => rfl, fun _ _ => rfl, rfl, fun x => by rw [if_neg (by omega)]⟩
    rw [f_M_prove_L37, show (3 : Int32) * nI M = nI (3 * M) from pk_mul 3 M, if_pos (nI_le (by omega) (by omega))]
  | succ k ih =>
    intro n i s hk hn
    obtain ⟨m, rfl⟩ : ∃ m, n = m + 1 := ⟨n - 1, by omega⟩
    obtain ⟨s', e, a1, a2, a3, a4⟩ := ih m (i + 1) (sr s 34 (nI i) (gr s 35 i)) (by omega) (by omega)
    refine ⟨s', ?_, a1, fun b hb => (a2 b hb).trans (if_neg hb), a3, fun x => ?_⟩
    · rw [f_M_prove_L37, show (3 : Int32) * nI M = nI (3 * M) from pk_mul 3 M, if_neg (nI_ge (by omega) (by omega)), gd_of (vpn (n := i) (N := 36) (by omega) (by omega)), lt_lt, gd_of (vpn (n := i) (N := 36) (by omega) (by omega)), lt_lt, lt_lt, nIc (by omega), nI_1]
      exact e
    · rw [a4 x]
      show (if i + 1 ≤ x ∧ x < 3 * M then gr s 35 x else upd (gr s 34) (nI i).toNatClampNeg (gr s 35 i) x) = _
      rw [nIc (by omega), upd_at]
      by_cases q1 : i + 1 ≤ x ∧ x < 3 * M
      · rw [if_pos q1, if_pos ⟨by omega, q1.2⟩]
      · rw [if_neg q1]
        by_cases q2 : x = i
        · rw [if_pos q2, if_pos ⟨by omega, by omega⟩, q2]
        · rw [if_neg q2, if_neg (fun t => q1 ⟨by omega, t.2⟩)]
/-- what prove leaves alone -/
def OP (s t : g_St) : Prop := (∀ i, i ≠ 31 → i ≠ 36 → gi t i = gi s i) ∧ (∀ i, i ≠ 11 → i ≠ 34 → i ≠ 35 → gr t i = gr s i) ∧ gt t = gt s ∧ ∀ i, i < 7 → gr t 11 i = gr s 11 i
theorem t_prove {fu P Q N : Nat} (hfu : 5000 ≤ fu) {v w s : g_St} (h : RV P Q v s) (c : RC s) (ho : RO N w s) (x1 : Int32) : ∃ r w' s' N', f_O_prove fu w v x1 = some (r, w') ∧ f_M_prove fu s x1 = some (r, s') ∧ RO N' w' s' ∧ OP s s' ∧ (∀ i, i ≠ 9 → gi w' i = gi w i) ∧ (∀ b, b < 100 ∨ 112 ≤ b → gr w' b = gr w b) := by
  have hS := h.1
  obtain ⟨W1, W2⟩ := W_weights hfu hS
  obtain ⟨y, y1, hR, y2, hn⟩ := h.row
  have hle := sm_le (w := wgS s) Q (fun p hp => (wg_at hS hp).2.2)
  have hQ := hS.1.2.1
  have no : ∃ w' s' N', (w' = w ∧ s' = s) ∧ RO N' w' s' ∧ OP s s' ∧ (∀ i, i ≠ 9 → gi w' i = gi w i) ∧ (∀ b, b < 100 ∨ 112 ≤ b → gr w' b = gr w b) := ⟨w, s, N, ⟨rfl, rfl⟩, ho, ⟨fun _ _ _ => rfl, fun _ _ _ _ => rfl, rfl, fun _ _ => rfl⟩, fun _ _ => rfl, fun _ _ => rfl⟩
  unfold f_O_prove f_M_prove
  rw [within_in]
  rcases in_ab x1 1 12 (by omega) (by omega) with ⟨e, M, hM1, hM, rfl⟩ | e
  · have e' : f_S_in (nI M) 1 12 = 1 := e
    rw [e', if_neg ne10, if_neg ne10, bd1_eq _ W1, bd1_eq _ W2]
    by_cases z : sm (wgS s) Q = 0
    · rw [z, if_pos (show nI 0 = 0 from rfl), if_pos (show nI 0 = 0 from rfl)]
      obtain ⟨w', s', N', ⟨rfl, rfl⟩, k⟩ := no
      exact ⟨_, w', s', N', rfl, rfl, k⟩
    · have z2 : ¬ nI (sm (wgS s) Q) = 0 := nI_ne0 (by omega) (by omega)
      rw [if_neg z2, if_neg z2]
      obtain ⟨w1, s1, e1, e2, e3, e4, e5, e6, e7, e8, e9, -⟩ := W_find_L (T := sm (wgS s) Q) hfu hM (by omega) M fu 0 0 y (dgS s 0) (gi s 14) w s (by omega) (by omega) (by rw [if_pos rfl]) (by omega) hS hR c.2.2.2.2.2.2 rfl
      have f1 : f_O_fillRows_rows fu w v (nI M) = some w1 := by
        unfold f_O_fillRows_rows
        rw [lt_lt, lt_lt, cl3, y2, h.2.2.2.1, bd1_eq _ (V_packed hfu hS.1.2.2.1 hS.1.1 hn)]
        exact e1
      have f2 : f_M_findRows fu s (nI M) (nI (sm (wgS s) Q)) = some s1 := e2
      obtain ⟨s2, g1, g2, g3, g4, g5⟩ := M_prove_L (fu := fu) hM (3 * M) fu 0 (si s1 36 (nI M)) (by omega) (by omega)
      rw [bd1_eq _ f1, bd1_eq _ f2, lt_lt, lt_lt]
      refine ⟨nI M, si w1 9 (nI M), s2, M, rfl, g1, ⟨hM, rfl, g2 36, fun i hi j hj => ?_⟩, ⟨fun i h1 h2 => ?_, fun i h1 h2 h3 => ?_, g4.trans e8, fun i hi => ?_⟩, fun i hi => (if_neg hi).trans (e3 i), fun b hb => ?_⟩
      · rw [g5, if_pos ⟨by omega, by omega⟩]
        exact e5 i (by omega) hi j hj
      · exact (g2 i).trans ((if_neg h2).trans (e6 i h1))
      · exact (g3 i h2).trans (e7 i h1 h3)
      · exact (congrFun (g3 11 (by omega)) i).trans (e9 i hi)
      · exact e4 b (by omega)
  · have e' : f_S_in x1 1 12 = 0 := e
    rw [e', if_pos rfl, if_pos rfl]
    obtain ⟨w', s', N', ⟨rfl, rfl⟩, k⟩ := no
    exact ⟨_, w', s', N', rfl, rfl, k⟩
