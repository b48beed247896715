/-! worths: numbers of a sheet are taken for worths. -/
def cl9 (x : Int32) : Int32 := if (-9 : Int32) < (if x < 9 then x else 9) then (if x < 9 then x else 9) else (-9)
theorem cl9_in (x : Int32) : -9 ≤ (cl9 x).toInt ∧ (cl9 x).toInt ≤ 9 := by
  unfold cl9
  have d1 : (9 : Int32).toInt = 9 := rfl
  have d2 : (-9 : Int32).toInt = -9 := rfl
  by_cases a : x < 9
  · rw [if_pos a]
    by_cases b : (-9 : Int32) < x
    · rw [if_pos b]
      rw [Int32.lt_iff_toInt_lt] at a b
      omega
    · rw [if_neg b]; decide
  · rw [if_neg a, if_pos (show (-9 : Int32) < 9 by decide)]; decide
theorem n9_l : (-9 : Int64) = (-9 : Int32).toInt64 := rfl
theorem p9_l : (9 : Int64) = (9 : Int32).toInt64 := rfl
theorem le_64 {x y : Int32} : x.toInt64 ≤ y.toInt64 ↔ x ≤ y := by
  rw [Int64.le_iff_toInt_le, Int32.le_iff_toInt_le, Int32.toInt_toInt64, Int32.toInt_toInt64]
theorem W_worths_L {fu P Q c q w : Nat} {hh : g_Sf} (hc : c ≤ P) (hq : q < Q) (hw : w < 4) : ∀ (k n j : Nat) (v s : g_St), k + j = c → k < n → RV P Q v s → (∀ i, i < 40 → gt s 39 (40 * w + i) = (gr (hh w) 2 i).toInt64) → ∃ v' s', f_O_worths_L67 fu n v hh (nI q) w (nI c) (nI j) = some (nI c, v') ∧ f_M_worths_L61 fu n s (nI q) (nI w) (nI c) (nI j) = some (nI c, s') ∧ RV P Q v' s' ∧ OV s s' := by
  intro k
  induction k with
  | zero =>
    intro n j v s hk hn h hg
    obtain ⟨m, rfl⟩ : ∃ m, n = m + 1 := ⟨n - 1, by omega⟩
    have hP := h.1.1.1
    refine ⟨v, s, ?_, ?_, h, OV.rf⟩
    · rw [f_O_worths_L67, if_pos (nI_le (by omega) (by omega))]
    · rw [f_M_worths_L61, if_pos (nI_le (by omega) (by omega))]
  | succ k ih =>
    intro n j v s hk hn h hg
    obtain ⟨m, rfl⟩ : ∃ m, n = m + 1 := ⟨n - 1, by omega⟩
    have hP := h.1.1.1
    have hQ := h.1.1.2.1
    obtain ⟨c1, c2⟩ := cl9_in (gr (hh w) 2 j)
    obtain ⟨v', s', e1, e2, e3, e4⟩ := ih m (j + 1) (sr v (20 + q) (nI j) (cl9 (gr (hh w) 2 j))) (sr s 7 (nI (6 * q + j)) (cl9 (gr (hh w) 2 j))) (by omega) (by omega) (h.wor hq (show j < P by omega) c1 c2) hg
    refine ⟨v', s', ?_, ?_, e3, OV.trans OV.rf e4⟩
    · rw [f_O_worths_L67, if_neg (nI_ge (by omega) (by omega)), gd_of (vpn (n := q) (N := 8) (by omega) (by omega)), gd_of (vpn (n := j) (N := 40) (by omega) (by omega)), lt_lt, gd_of (vpn (n := j) (N := 6) (by omega) (by omega)), lt_lt, lt_lt, nI_1, nIc (show j ≤ 4096 by omega), nIc (show q ≤ 4096 by omega)]
      exact e1
    · rw [f_M_worths_L61, if_neg (nI_ge (by omega) (by omega)), fty, gd_of (vpn (n := 40 * w + j) (N := 160) (by omega) (by omega)), lt_lt, nIc (show 40 * w + j ≤ 4096 by omega), hg j (by omega), six]
      simp only [gd_of (vpn (show 6 * q + j < 48 by omega) (show 48 ≤ 4096 by omega)), lt_lt]
      rw [nI_1, i32_64]
      by_cases a : (-9 : Int32) ≤ gr (hh w) 2 j
      · rw [if_pos ((lg_cmp_ge _ _).mpr (show (-9 : Int64) ≤ _ from le_64.mpr a))]
        by_cases b : gr (hh w) 2 j ≤ 9
        · rw [if_pos ((lg_cmp_le _ _).mpr (show _ ≤ (9 : Int64) from le_64.mpr b))]
          have e : cl9 (gr (hh w) 2 j) = gr (hh w) 2 j := by
            unfold cl9
            by_cases z : gr (hh w) 2 j < 9
            · rw [if_pos z]
              by_cases y : (-9 : Int32) < gr (hh w) 2 j
              · rw [if_pos y]
              · rw [if_neg y]
                rw [Int32.lt_iff_toInt_lt] at y
                rw [Int32.le_iff_toInt_le] at a
                exact Int32.toInt_inj.mp (by omega)
            · rw [if_neg z, if_pos (show (-9 : Int32) < 9 by decide)]
              rw [Int32.lt_iff_toInt_lt] at z
              rw [Int32.le_iff_toInt_le] at b
              exact Int32.toInt_inj.mp (by omega)
          rw [e] at e2
          exact e2
        · rw [if_neg (fun t => b (le_64.mp ((lg_cmp_le _ (9 : Int64)).mp t)))]
          have e : cl9 (gr (hh w) 2 j) = 9 := by
            unfold cl9
            have z : ¬ gr (hh w) 2 j < 9 := fun z => b (Int32.le_of_lt z)
            rw [if_neg z, if_pos (show (-9 : Int32) < 9 by decide)]
          rw [e] at e2
          exact e2
      · rw [if_neg (fun t => a (le_64.mp ((lg_cmp_ge _ (-9 : Int64)).mp t)))]
        have e : cl9 (gr (hh w) 2 j) = -9 := by
          unfold cl9
          have z : gr (hh w) 2 j < 9 := by
            rw [Int32.le_iff_toInt_le] at a
            rw [Int32.lt_iff_toInt_lt]
            have d1 : (9 : Int32).toInt = 9 := rfl
            have d2 : (-9 : Int32).toInt = -9 := rfl
            omega
          rw [if_pos z, if_neg (fun y => a (Int32.le_of_lt y))]
        rw [e] at e2
        exact e2
theorem t_worths {fu P Q : Nat} (hfu : 5000 ≤ fu) {v s : g_St} {hh : g_Sf} (h : RV P Q v s) (hH : HS hh s) (x1 x2 : Int32) : ∃ r v' s', f_O_worths fu v hh x1 x2 = some (r, v') ∧ f_M_worths fu s x1 x2 = some (r, s') ∧ RV P Q v' s' ∧ OV s s' := by
  have h0 := h
  obtain ⟨⟨⟨hP, hQ, v0, s0, v6, s5⟩, -⟩, -⟩ := h0
  unfold f_O_worths f_M_worths f_M_lacksSort
  rw [within_in, show f_S_isShelf x2 = f_S_in x2 0 3 from rfl]
  rcases proposal_or v6 s5 (by omega) x1 with ⟨q, hqQ, rfl, e1, e2⟩ | ⟨e1, e2⟩
  · rw [e1, e2, if_neg ne10, if_neg ne10]
    rcases in_0 x2 3 (by omega) with ⟨e3, w, hw, rfl⟩ | e3
    · have e3' : f_S_in (nI w) 0 3 = 1 := e3
      obtain ⟨h1, h2, h3, ⟨n, hn, h4⟩, h5⟩ := hH w (by omega)
      rw [e3', if_neg ne10, if_neg ne10]
      simp only [gd_of (vpn (show w < 4 by omega) (show 4 ≤ 4096 by omega)), nIc (show w ≤ 4096 by omega), h1, h2, h4, v0, s0]
      rcases h3 with h3 | ⟨k, hk, h3⟩
      · rw [h3, if_pos rfl, if_neg (show ¬ (0 : Int32) ≤ -1 by decide), bd1_eq _ rfl, if_neg (show ¬ (-11 : Int32) = 0 by decide)]
        exact ⟨_, _, _, rfl, rfl, h, OV.rf⟩
      · have hne : ¬ nI k = -1 := fun z => by
          have h0 : ¬ nI k < 0 := nI_pos (by omega)
          rw [z] at h0
          exact h0 (by decide)
        rw [h3, if_neg hne, if_pos (nI_pos' (n := k) (by omega))]
        by_cases k2 : nI k = 2
        · rw [if_pos k2, if_pos k2, bd1_eq _ rfl, if_pos rfl]
          simp only [lt_lt]
          by_cases z : P ≤ n
          · obtain ⟨v', s', f1, f2, f3, f4⟩ := W_worths_L (fu := fu) (c := P) (hh := hh) (Nat.le_refl P) hqQ (show w < 4 by omega) P fu 0 v s (by omega) (by omega) h h5
            rw [if_pos (nI_le (a := P) (b := n) z (by omega))]
            refine ⟨_, v', s', ?_, f2, f3, f4⟩
            by_cases y : P = n
            · rw [if_neg (nI_nlt (a := P) (b := n) (by omega) (by omega)), ← y]; exact f1
            · rw [if_pos (nI_lt (a := P) (b := n) (by omega) (by omega))]; exact f1
          · obtain ⟨v', s', f1, f2, f3, f4⟩ := W_worths_L (fu := fu) (c := n) (hh := hh) (show n ≤ P by omega) hqQ (show w < 4 by omega) n fu 0 v s (by omega) (by omega) h h5
            rw [if_neg (nI_ge (a := n) (b := P) (by omega) (by omega)), if_neg (nI_nlt (a := P) (b := n) (by omega) (by omega))]
            exact ⟨_, v', s', f1, f2, f3, f4⟩
        · rw [if_neg k2, if_neg k2, bd1_eq _ rfl, if_neg (show ¬ (-13 : Int32) = 0 by decide)]
          exact ⟨_, _, _, rfl, rfl, h, OV.rf⟩
    · have e3' : f_S_in x2 0 3 = 0 := e3
      rw [e3', if_pos rfl, if_pos rfl]; exact ⟨_, _, _, rfl, rfl, h, OV.rf⟩
  · rw [e1, e2, if_pos rfl, if_pos rfl]; exact ⟨_, _, _, rfl, rfl, h, OV.rf⟩
