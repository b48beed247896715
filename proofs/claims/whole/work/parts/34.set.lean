/-! The law is set and asked. -/
theorem vp0 {N : Nat} (h : 0 < N) (hN : N ≤ 4096) : vp_in 0 N := vpn (n := 0) h hN
theorem vp1 {N : Nat} (h : 1 < N) (hN : N ≤ 4096) : vp_in 1 N := vpn (n := 1) h hN
theorem vp2 {N : Nat} (h : 2 < N) (hN : N ≤ 4096) : vp_in 2 N := vpn (n := 2) h hN
theorem vp3 {N : Nat} (h : 3 < N) (hN : N ≤ 4096) : vp_in 3 N := vpn (n := 3) h hN
theorem cl0 : (0 : Int32).toNatClampNeg = 0 := rfl
theorem cl1 : (1 : Int32).toNatClampNeg = 1 := rfl
theorem cl2 : (2 : Int32).toNatClampNeg = 2 := rfl
theorem cl3 : (3 : Int32).toNatClampNeg = 3 := rfl
theorem cl6 : (6 : Int32).toNatClampNeg = 6 := rfl
theorem vp_r {x y : Int32} {N : Nat} (h : vp_in x N) (e : x = y) : vp_in y N := e ▸ h
theorem in_ab (x : Int32) (a b : Nat) (ha : a ≤ 4096) (hb : b ≤ 4096) : (f_S_in x (nI a) (nI b) = 1 ∧ ∃ j, a ≤ j ∧ j ≤ b ∧ x = nI j) ∨ (f_S_in x (nI a) (nI b) = 0) := by
  rcases in_cases x (nI a) (nI b) with ⟨h, c, d⟩ | ⟨h, -⟩
  · left
    have c' : ¬ x < 0 := fun z => by
      rw [Int32.lt_iff_toInt_lt] at z c
      rw [nI_toInt (by omega)] at c
      have : (0 : Int32).toInt = 0 := rfl
      omega
    obtain ⟨j, hj, rfl⟩ := nI_of c'
    refine ⟨h, j, ?_, ?_, rfl⟩
    · have := mt (nI_ltI (a := j) (b := a) hj (by omega)).mpr c
      omega
    · have := mt (nI_ltI (a := b) (b := j) (by omega) hj).mpr d
      omega
  · exact Or.inr h
theorem RV.law {P Q : Nat} {v s : g_St} (h : RV P Q v s) {k n : Nat} (hk : k = 0 ∧ 1 ≤ n ∧ n ≤ 3 ∨ k = 1 ∧ n ≤ 1 ∨ k = 2 ∧ n ≤ 20) : RV P Q (sr v 9 (nI k) (nI n)) (sr s 8 (nI k) (nI n)) := by
  obtain ⟨⟨a, b, c, d1, d2, d3, d4, d5, d6⟩, e, f, g⟩ := h
  have ck : (nI k).toNatClampNeg = k := nIc (by omega)
  have hd : gr (sr v 9 (nI k) (nI n)) 9 0 = gr (sr s 8 (nI k) (nI n)) 8 0 ∧ gr (sr v 9 (nI k) (nI n)) 9 1 = gr (sr s 8 (nI k) (nI n)) 8 1 ∧ gr (sr v 9 (nI k) (nI n)) 9 2 = gr (sr s 8 (nI k) (nI n)) 8 2 ∧ (∃ m, 1 ≤ m ∧ m ≤ 3 ∧ gr (sr s 8 (nI k) (nI n)) 8 0 = nI m) ∧ (∃ t, t ≤ 1 ∧ gr (sr s 8 (nI k) (nI n)) 8 1 = nI t) ∧ (∃ g, g ≤ 20 ∧ gr (sr s 8 (nI k) (nI n)) 8 2 = nI g) := by
    show upd (gr v 9) (nI k).toNatClampNeg (nI n) 0 = upd (gr s 8) (nI k).toNatClampNeg (nI n) 0 ∧ upd (gr v 9) (nI k).toNatClampNeg (nI n) 1 = upd (gr s 8) (nI k).toNatClampNeg (nI n) 1 ∧ upd (gr v 9) (nI k).toNatClampNeg (nI n) 2 = upd (gr s 8) (nI k).toNatClampNeg (nI n) 2 ∧ (∃ m, 1 ≤ m ∧ m ≤ 3 ∧ upd (gr s 8) (nI k).toNatClampNeg (nI n) 0 = nI m) ∧ (∃ t, t ≤ 1 ∧ upd (gr s 8) (nI k).toNatClampNeg (nI n) 1 = nI t) ∧ (∃ g, g ≤ 20 ∧ upd (gr s 8) (nI k).toNatClampNeg (nI n) 2 = nI g)
    rw [ck]
    rcases hk with ⟨rfl, h1, h2⟩ | ⟨rfl, h1⟩ | ⟨rfl, h1⟩
    · exact ⟨rfl, d2, d3, ⟨n, h1, h2, rfl⟩, d5, d6⟩
    · exact ⟨d1, rfl, d3, d4, ⟨n, h1, rfl⟩, d6⟩
    · exact ⟨d1, d2, rfl, d4, d5, ⟨n, h1, rfl⟩⟩
  refine ⟨⟨a, b, fun q' hq' => ?_, hd⟩, e, ?_, g⟩
  · obtain ⟨c1, c2, c3⟩ := c q' hq'
    refine ⟨c1, c2, fun p hp => ?_⟩
    rw [gr_sr, if_neg (by omega)]
    exact c3 p hp
  · show upd (gr v 9) (nI k).toNatClampNeg (nI n) 3 = gr s 11 6 ∧ _
    rw [ck, upd_at, if_neg (by omega)]
    exact f
theorem law_cases (x : Int32) : (f_S_isLaw x = 1 ∧ (x = 0 ∨ x = 1 ∨ x = 2)) ∨ (f_S_isLaw x = 0 ∧ ¬ x = 0 ∧ ¬ x = 1 ∧ ¬ x = 2) := by
  have e : f_S_isLaw x = f_S_in x 0 (nI 2) := rfl
  rcases in_cases x 0 (nI 2) with ⟨h, c, d⟩ | ⟨h, c⟩
  · left
    obtain ⟨j, hj, rfl⟩ := nI_of c
    have := mt (nI_ltI (a := 2) (b := j) (by omega) hj).mpr d
    refine ⟨e.trans h, ?_⟩
    rcases (show j = 0 ∨ j = 1 ∨ j = 2 by omega) with rfl | rfl | rfl
    · exact Or.inl rfl
    · exact Or.inr (Or.inl rfl)
    · exact Or.inr (Or.inr rfl)
  · right
    refine ⟨e.trans h, ?_, ?_, ?_⟩
    · rintro rfl; exact absurd c (by decide)
    · rintro rfl; exact absurd c (by decide)
    · rintro rfl; exact absurd c (by decide)
theorem t_law {P Q : Nat} {v s : g_St} (h : RV P Q v s) (x1 : Int32) : ∃ r, f_O_law v x1 = some r ∧ f_M_law s x1 = some r := by
  obtain ⟨⟨-, -, -, d1, d2, d3, -⟩, -, hy, -⟩ := h
  unfold f_O_law f_M_law
  rw [within_in]
  rcases law_cases x1 with ⟨e, h1⟩ | ⟨e, h1, h2, h3⟩
  · rw [e, if_neg ne10]
    rcases h1 with rfl | rfl | rfl
    · rw [show f_S_in 0 0 3 = 1 from by decide +kernel, if_neg ne10, gd_of (vp0 (by omega) (by omega)), gd_of (vp0 (by omega) (by omega)), cl0, d1]; exact ⟨_, rfl, rfl⟩
    · rw [show f_S_in 1 0 3 = 1 from by decide +kernel, if_neg ne10, gd_of (vp1 (by omega) (by omega)), gd_of (vp1 (by omega) (by omega)), cl1, d2]; exact ⟨_, rfl, rfl⟩
    · rw [show f_S_in 2 0 3 = 1 from by decide +kernel, if_neg ne10, gd_of (vp2 (by omega) (by omega)), gd_of (vp2 (by omega) (by omega)), cl2, d3]; exact ⟨_, rfl, rfl⟩
  · rw [e, if_pos rfl]
    by_cases h4 : x1 = 3
    · subst h4
      rw [show f_S_in 3 0 3 = 1 from by decide +kernel, if_neg ne10, if_pos rfl, gd_of (vp3 (by omega) (by omega)), cl3, cl6, hy.1]; exact ⟨_, rfl, rfl⟩
    · rw [if_neg h4]
      rcases in_0 x1 3 (by omega) with ⟨e5, j, hj, rfl⟩ | e5
      · exfalso
        rcases (show j = 0 ∨ j = 1 ∨ j = 2 ∨ j = 3 by omega) with rfl | rfl | rfl | rfl
        · exact h1 rfl
        · exact h2 rfl
        · exact h3 rfl
        · exact h4 rfl
      · rw [show (3 : Int32) = nI 3 from rfl, e5, if_pos rfl]; exact ⟨_, rfl, rfl⟩
theorem t_setLaw {P Q : Nat} {v s : g_St} (h : RV P Q v s) (c : RC s) (x1 x2 : Int32) : ∃ r v' s', f_O_set v x1 x2 = some (r, v') ∧ f_M_set s x1 x2 = some (r, s') ∧ RV P Q v' s' ∧ OV s s' := by
  have h0 := h
  obtain ⟨⟨-, -, -, d1, d2, d3, -⟩, -, hy, -⟩ := h0
  obtain ⟨c1, c2, c3, c4, c5, c6, -⟩ := c
  unfold f_O_set f_M_set
  rcases law_cases x1 with ⟨e, h1⟩ | ⟨e, h1, h2, h3⟩
  · rw [e, if_neg ne10]
    unfold f_M_set_L12
    rw [e, if_neg ne10]
    rcases h1 with rfl | rfl | rfl
    · rw [show f_S_mayBeLaw 0 x2 = f_S_in x2 (nI 1) (nI 3) from rfl]
      simp only [gd_of (vp0 (show 0 < 3 by omega) (show 3 ≤ 4096 by omega)), gd_of (vp0 (show 0 < 4 by omega) (show 4 ≤ 4096 by omega)), lt_lt, cl0, d1]
      rw [c1, c4, show (1 : Int32) = nI 1 from rfl, show (3 : Int32) = nI 3 from rfl]
      rcases in_ab x2 1 3 (by omega) (by omega) with ⟨e5, n, hn1, hn2, rfl⟩ | e5
      · rw [e5, if_neg ne10, if_neg ne10]
        exact ⟨_, _, _, rfl, rfl, h.law (k := 0) (n := n) (Or.inl ⟨rfl, hn1, hn2⟩), OV.rf⟩
      · rw [e5, if_pos rfl, if_pos rfl]; exact ⟨_, _, _, rfl, rfl, h, OV.rf⟩
    · rw [show f_S_mayBeLaw 1 x2 = f_S_in x2 (nI 0) (nI 1) from rfl]
      simp only [gd_of (vp1 (show 1 < 3 by omega) (show 3 ≤ 4096 by omega)), gd_of (vp1 (show 1 < 4 by omega) (show 4 ≤ 4096 by omega)), lt_lt, cl1, d2]
      rw [c2, c5, show f_S_in x2 0 1 = f_S_in x2 (nI 0) (nI 1) from rfl]
      rcases in_ab x2 0 1 (by omega) (by omega) with ⟨e5, n, hn1, hn2, rfl⟩ | e5
      · rw [e5, if_neg ne10, if_neg ne10]
        exact ⟨_, _, _, rfl, rfl, h.law (k := 1) (n := n) (Or.inr (Or.inl ⟨rfl, hn2⟩)), OV.rf⟩
      · rw [e5, if_pos rfl, if_pos rfl]; exact ⟨_, _, _, rfl, rfl, h, OV.rf⟩
    · rw [show f_S_mayBeLaw 2 x2 = f_S_in x2 (nI 0) (nI 20) from rfl]
      simp only [gd_of (vp2 (show 2 < 3 by omega) (show 3 ≤ 4096 by omega)), gd_of (vp2 (show 2 < 4 by omega) (show 4 ≤ 4096 by omega)), lt_lt, cl2, d3]
      rw [c3, c6, show f_S_in x2 0 20 = f_S_in x2 (nI 0) (nI 20) from rfl]
      rcases in_ab x2 0 20 (by omega) (by omega) with ⟨e5, n, hn1, hn2, rfl⟩ | e5
      · rw [e5, if_neg ne10, if_neg ne10]
        exact ⟨_, _, _, rfl, rfl, h.law (k := 2) (n := n) (Or.inr (Or.inr ⟨rfl, hn2⟩)), OV.rf⟩
      · rw [e5, if_pos rfl, if_pos rfl]; exact ⟨_, _, _, rfl, rfl, h, OV.rf⟩
  · rw [e, if_pos rfl]
    unfold f_M_set_L12 f_S_mayBeLaw
    rw [e, if_pos rfl, if_neg h1, if_neg h2, if_neg h3, if_pos rfl]; exact ⟨_, _, _, rfl, rfl, h, OV.rf⟩
