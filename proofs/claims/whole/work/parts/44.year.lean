theorem felln01 (s : g_St) (R : Nat) : felln s R = 0 ∨ felln s R = 1 := by
  unfold felln
  split
  · exact Or.inl rfl
  · exact Or.inr rfl
theorem t_year {fu P Q q y : Nat} (hfu : 5000 ≤ fu) {v s : g_St} (h : RV P Q v s) (c : RC s) (hq : q < Q) (ey : gr s 11 6 = nI y) (hy : y < 999) : ∃ F v' s', f_V_passYear fu v (nI q) = some (F, v') ∧ f_M_comesNow fu s (nI q) = some (F, s') ∧ (F = 0 ∨ F = 1) ∧ RV P Q v' s' ∧ OV s s' := by
  have h0 := h
  obtain ⟨⟨⟨hP, hQ, v0, s0, v6, s5⟩, hp, hqq, hl⟩, hn0, hy0, hz⟩ := h0
  have hS := h.1
  obtain ⟨y', y1, hR, y2, hn⟩ := h.row
  have eyy : y' = y := (nIeq (by omega) (by omega)).mp (y2.symm.trans (hy0.1.trans ey))
  subst eyy
  obtain ⟨R, R1, R2, R3, R4⟩ := W_says hfu hS hR hq c.2.2.2.2.2.2
  have hd : ∀ p, p < P → dgS s 0 p ≤ 9 ∧ (bt R p = 1 → 1 ≤ dgS s 0 p) := fun p hp => ⟨(hn p hp).2, R2 p hp⟩
  have g1 := V_after hfu hS R1 hd (y := y')
  have hnd : ∀ p, p < P → nwd (grw s y') R (dgS s 0) p ≤ 9 := fun p hp => nwd_le (hn p hp).2
  obtain ⟨v', e, a1, a2, a3, a4, a5, a6, a7⟩ := V_pass_L (fu := fu) (q := q) hP (by omega) hnd (felln s R) P fu 0 v (by omega) (by omega) v0
  obtain ⟨s2, f1, b1, b2, b3, b4, b5, b6⟩ := M_goes_of (B := 0) hfu hS hR (by omega) (Or.inl rfl) R1 R2 R4
  have f1' : f_M_goes fu s 0 0 (nI q) = some (felln s R, s2) := f1
  have hF := felln01 s R
  -- the two counts
  obtain ⟨s3, i3, k1, k2, k3, k4⟩ : ∃ s3, f_M_comesNow fu s (nI q) = f_M_comesNow_L46 fu fu s3 (nI q) (felln s R) 0 ∧ (∀ i, i ≠ 12 → i ≠ 13 → gi s3 i = gi s2 i) ∧ gi s3 12 = (if felln s R = 0 then gi s2 12 else gi s2 12 + 1) ∧ gi s3 13 = (if felln s R = 0 then gi s2 13 + 1 else gi s2 13) ∧ (gr s3 = gr s2 ∧ gt s3 = gt s2) := by
    unfold f_M_comesNow
    rw [bd2_eq _ f1']
    rcases hF with z | z
    · refine ⟨si (si s2 12 (gi s2 12 + 0)) 13 (gi (si s2 12 (gi s2 12 + 0)) 13 + 1), ?_, fun i h1 h2 => ?_, ?_, ?_, rfl, rfl⟩
      · rw [if_pos z, f_M_comesNow_L22, lt_lt, lt_lt, if_pos z, lt_lt, lt_lt]
      · rw [gi_si, if_neg h2, gi_si, if_neg h1]
      · rw [if_pos z, gi_si, if_neg (by omega), gi_si, if_pos rfl, Int32.add_zero]
      · rw [if_pos z, gi_si, if_pos rfl, gi_si, if_neg (by omega)]
    · have z' : ¬ felln s R = 0 := by rw [z]; decide
      refine ⟨si (si s2 12 (gi s2 12 + 1)) 13 (gi (si s2 12 (gi s2 12 + 1)) 13 + 0), ?_, fun i h1 h2 => ?_, ?_, ?_, rfl, rfl⟩
      · rw [if_neg z', f_M_comesNow_L22, lt_lt, lt_lt, if_neg z', lt_lt, lt_lt]
      · rw [gi_si, if_neg h2, gi_si, if_neg h1]
      · rw [if_neg z', gi_si, if_neg (by omega), gi_si, if_pos rfl]
      · rw [if_neg z', gi_si, if_pos rfl, gi_si, if_neg (by omega), Int32.add_zero]
  obtain ⟨s', m1, m2, m3, m4, m5⟩ := M_had_L (fu := fu) (q := q) hP (by omega) (felln s R) hF P fu 0 s3 (by omega) (by omega) ((k1 0 (by omega) (by omega)).trans ((b1 0 (by omega)).trans s0))
  have I : ∀ i, i ≠ 12 → i ≠ 13 → i ≠ 31 → gi s' i = gi s i := fun i h1 h2 h3 => (m2 i).trans ((k1 i h1 h2).trans (b1 i h3))
  have G : ∀ i, i ≠ 4 → i ≠ 11 → gr s' i = gr s i := fun i h1 h2 => (m3 i h1).trans ((congrFun k4.1 i).trans (b2 i h2))
  have G11 : gr s' 11 = gr s2 11 := (m3 11 (by omega)).trans (congrFun k4.1 11)
  have G4 : gr s3 4 = gr s 4 := (congrFun k4.1 4).trans (b2 4 (by omega))
  have G7 : gr s3 7 = gr s 7 := (congrFun k4.1 7).trans (b2 7 (by omega))
  refine ⟨felln s R, v', s', ?_, i3.trans m1, hF, ⟨⟨⟨hP, hQ, (a1 0 (by omega) (by omega)).trans v0, (I 0 (by omega) (by omega) (by omega)).trans s0, (a1 6 (by omega) (by omega)).trans v6, (I 5 (by omega) (by omega) (by omega)).trans s5⟩, fun p hpP => ?_, fun q' hq' => ?_, ?_⟩, fun p hpP => ?_, ?_, ?_⟩, ?_⟩
  · unfold f_V_passYear
    rw [bd1_eq _ (V_packed hfu v0 hP hn), cl3, y2, bd1_eq _ R3, lt_lt, V_isFall hS R1, bd1_eq _ g1]
    exact e
  · rw [a4 1 (by omega) (by omega) (by omega), a4 2 (by omega) (by omega) (by omega), a4 3 (by omega) (by omega) (by omega), G 1 (by omega) (by omega), G 2 (by omega) (by omega), G 3 (by omega) (by omega)]
    exact hp p hpP
  · rw [a4 7 (by omega) (by omega) (by omega), G 6 (by omega) (by omega), G 7 (by omega) (by omega), a4 (20 + q') (by omega) (by omega) (by omega)]
    exact hqq q' hq'
  · rw [a7, G 8 (by omega) (by omega)]
    exact hl
  · refine ⟨?_, ?_, ?_⟩
    · have b4' := b4 p hpP
      rw [Nat.zero_add] at b4'
      rw [a5 p, if_pos ⟨by omega, hpP⟩, G11, b4']
    · rw [a6 p, m5 p, G4, G7, (hn0 p hpP).2.1, ((hqq q hq).2.2 p hpP).1]
    · have b4' := b4 p hpP
      rw [Nat.zero_add] at b4'
      rw [G11, b4']
      exact ⟨_, hnd p hpP, rfl⟩
  · have b5' := b5
    rw [Nat.zero_add] at b5'
    rw [a7, G11, b5', upd_at, if_pos rfl, y2, nI_1]
    exact ⟨rfl, y' + 1, by omega, by omega, rfl⟩
  · refine ⟨?_, ?_, ?_⟩
    · rw [a1 10 (by omega) (by omega), I 14 (by omega) (by omega) (by omega)]; exact hz.1
    · rw [a2, m2 12, k2, b1 12 (by omega), hz.2.1]
    · rw [a3, m2 13, k3, b1 13 (by omega), hz.2.2]
  · have T : gt s' = gt s := m4.trans (k4.2.trans b3)
    exact ⟨⟨I 16 (by omega) (by omega) (by omega), I 29 (by omega) (by omega) (by omega), I 36 (by omega) (by omega) (by omega), I 47 (by omega) (by omega) (by omega), I 49 (by omega) (by omega) (by omega)⟩, ⟨G 9 (by omega) (by omega), G 10 (by omega) (by omega), G 15 (by omega) (by omega), G 34 (by omega) (by omega), G 37 (by omega) (by omega), G 38 (by omega) (by omega)⟩, G 40 (by omega) (by omega), G 41 (by omega) (by omega), G 42 (by omega) (by omega), G 46 (by omega) (by omega), G 50 (by omega) (by omega), congrFun T 39⟩
theorem year_or {P Q : Nat} {v s : g_St} (h : RV P Q v s) : ∃ y, gr s 11 6 = nI y ∧ gr v 9 3 = nI y ∧ (y < 999 ∧ nI y < 999 ∧ ¬ nI y = 999 ∨ y = 999 ∧ ¬ nI y < 999 ∧ nI y = 999) := by
  obtain ⟨-, -, ⟨hy, y, y1, y2, ey⟩, -⟩ := h
  refine ⟨y, ey, hy.trans ey, ?_⟩
  rcases (show y < 999 ∨ y = 999 by omega) with a | a
  · exact Or.inl ⟨a, (nIlt (b := 999) (by omega) (by omega)).mpr a, fun e => by have := (nIeq (b := 999) (by omega) (by omega)).mp e; omega⟩
  · exact Or.inr ⟨a, by rw [a]; decide, by rw [a]; rfl⟩
theorem t_comes {fu P Q : Nat} (hfu : 5000 ≤ fu) {v s : g_St} (h : RV P Q v s) (c : RC s) (x1 : Int32) : ∃ r v' s', f_O_comes fu v x1 = some (r, v') ∧ f_M_comes fu s x1 = some (r, s') ∧ RV P Q v' s' ∧ OV s s' := by
  obtain ⟨⟨hP, hQ, v0, s0, v6, s5⟩, -⟩ := h.1
  obtain ⟨y, ey, ev, hy⟩ := year_or h
  unfold f_O_comes f_M_comes
  rcases proposal_or v6 s5 (by omega) x1 with ⟨q, hqQ, rfl, e1, e2⟩ | ⟨e1, e2⟩
  · rw [e1, e2, if_neg ne10, if_neg ne10, cl3, cl6, ey, ev]
    rcases hy with ⟨a, b, d⟩ | ⟨a, b, d⟩
    · rw [if_pos b, if_neg d]
      obtain ⟨F, v', s', f1, f2, f3, f4, f5⟩ := t_year hfu h c hqQ ey a
      rw [bd2_eq _ f1, bd2_eq _ f2]
      rcases f3 with rfl | rfl
      · exact ⟨0, v', s', if_pos rfl, rfl, f4, f5⟩
      · exact ⟨1, v', s', if_neg ne10, rfl, f4, f5⟩
    · rw [if_neg b, if_pos d]; exact ⟨_, _, _, rfl, rfl, h, OV.rf⟩
  · rw [e1, e2, if_pos rfl, if_pos rfl]; exact ⟨_, _, _, rfl, rfl, h, OV.rf⟩
