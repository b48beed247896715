/-! The sheets: items put. -/
/-- the sheets that both keep -/
def HS (hh : g_Sf) (s : g_St) : Prop := ∀ q, q < 4 → gi (hh q) 0 = gr s 37 q ∧ gi (hh q) 1 = gr s 38 q ∧ (gr s 37 q = -1 ∨ ∃ k, k ≤ 3 ∧ gr s 37 q = nI k) ∧ (∃ n, n ≤ 40 ∧ gr s 38 q = nI n) ∧ ∀ i, i < 40 → gt s 39 (40 * q + i) = (gr (hh q) 2 i).toInt64
theorem fty (q i : Nat) : (40 : Int32) * nI q + nI i = nI (40 * q + i) := by rw [show (40 : Int32) = nI 40 from rfl, pk_mul, nI_add]
/-- all but the sheets -/
def OH (s t : g_St) : Prop := (∀ i, gi t i = gi s i) ∧ (∀ i, i ≠ 37 → i ≠ 38 → gr t i = gr s i) ∧ ∀ i, i ≠ 39 → gt t i = gt s i
theorem HS.put {hh : g_Sf} {s : g_St} (h : HS hh s) {q i : Nat} (hq : q < 4) (hi : i < 40) (x : Int32) : HS (ups hh q (sr (hh q) 2 (nI i) x)) (st s 39 (nI (40 * q + i)) x.toInt64) := by
  intro q' hq'
  obtain ⟨h1, h2, h3, h4, h5⟩ := h q' hq'
  have e : gi (ups hh q (sr (hh q) 2 (nI i) x) q') 0 = gi (hh q') 0 ∧ gi (ups hh q (sr (hh q) 2 (nI i) x) q') 1 = gi (hh q') 1 := by
    unfold ups
    by_cases z : q' = q
    · rw [if_pos z, z]; exact ⟨rfl, rfl⟩
    · rw [if_neg z]; exact ⟨rfl, rfl⟩
  refine ⟨e.1.trans h1, e.2.trans h2, h3, h4, fun j hj => ?_⟩
  rw [gt_st, if_pos rfl, nIc (by omega)]
  unfold ups vp_updL
  by_cases z : q' = q
  · rw [if_pos z, gr_sr, if_pos rfl, nIc (by omega), upd_at]
    by_cases z2 : j = i
    · rw [if_pos z2, if_pos (by omega)]
    · rw [if_neg z2, if_neg (by omega), ← z]; exact h5 j hj
  · rw [if_neg z, if_neg (by omega)]; exact h5 j hj
theorem t_put {hh : g_Sf} {s : g_St} (h : HS hh s) (x1 x2 x3 : Int32) : ∃ r hh' s', f_O_put hh x1 x2 x3 = some (r, hh') ∧ f_M_put s x1 x2 x3 = some (r, s') ∧ HS hh' s' ∧ OH s s' := by
  have no : OH s s := ⟨fun _ => rfl, fun _ _ _ => rfl, fun _ _ => rfl⟩
  unfold f_O_put f_M_put
  rw [within_in, show f_S_isShelf x1 = f_S_in x1 0 3 from rfl]
  rcases in_0 x1 3 (by omega) with ⟨e1, q, hq, rfl⟩ | e1
  · have e1' : f_S_in (nI q) 0 3 = 1 := e1
    obtain ⟨h1, h2, h3, ⟨n, hn, h4⟩, h5⟩ := h q (by omega)
    rw [e1', if_neg ne10, if_neg ne10]
    simp only [gd_of (vpn (show q < 4 by omega) (show 4 ≤ 4096 by omega)), nIc (show q ≤ 4096 by omega), h1, h2, h4]
    rcases h3 with h3 | ⟨k, hk, h3⟩
    · rw [h3, if_pos rfl, if_neg (show ¬ (0 : Int32) ≤ -1 by decide)]
      exact ⟨_, hh, s, rfl, rfl, h, no⟩
    · have hne : ¬ nI k = -1 := fun z => by
        have h0 : ¬ nI k < 0 := nI_pos (by omega)
        rw [z] at h0
        exact h0 (by decide)
      rw [h3, if_neg hne, if_pos (nI_pos' (n := k) (by omega)), within_in]
      rcases in_P x2 n (by omega) with ⟨e2, i, hi, rfl⟩ | ⟨e2, -⟩
      · rw [e2, if_neg ne10, if_neg ne10, lt_lt, gd_of (vpn (n := i) (N := 40) (by omega) (by omega)), lt_lt]
        simp only [fty, gd_of (vpn (show 40 * q + i < 160 by omega) (show 160 ≤ 4096 by omega)), lt_lt]
        unfold f_S_narrowed
        by_cases k0 : nI k = 0
        · rw [if_pos k0, if_pos k0]
          exact ⟨_, _, _, rfl, rfl, h.put (by omega) (by omega) _, ⟨fun _ => rfl, fun _ _ _ => rfl, fun j hj => if_neg hj⟩⟩
        · rw [if_neg k0, if_neg k0]
          by_cases k1 : nI k = 1
          · rw [if_pos k1, if_pos k1]
            exact ⟨_, _, _, rfl, rfl, h.put (by omega) (by omega) _, ⟨fun _ => rfl, fun _ _ _ => rfl, fun j hj => if_neg hj⟩⟩
          · rw [if_neg k1, if_neg k1]
            exact ⟨_, _, _, rfl, rfl, h.put (by omega) (by omega) _, ⟨fun _ => rfl, fun _ _ _ => rfl, fun j hj => if_neg hj⟩⟩
      · rw [e2, if_pos rfl, if_pos rfl]
        exact ⟨_, hh, s, rfl, rfl, h, no⟩
  · have e1' : f_S_in x1 0 3 = 0 := e1
    rw [e1', if_pos rfl, if_pos rfl]
    exact ⟨_, hh, s, rfl, rfl, h, no⟩
theorem i32_64 (x : Int32) : x.toInt64.toInt32 = x := Int32.toInt32_toInt64 x
theorem t_item {hh : g_Sf} {s : g_St} (h : HS hh s) (x1 x2 x3 : Int32) : ∃ r, f_O_item hh x1 x2 x3 = some r ∧ f_M_item s x1 x2 x3 = some r := by
  unfold f_O_item f_M_item f_M_lacksSort
  rw [within_in, within_in, show f_S_isShelf x1 = f_S_in x1 0 3 from rfl]
  rcases in_0 x1 3 (by omega) with ⟨e1, q, hq, rfl⟩ | e1
  · have e1' : f_S_in (nI q) 0 3 = 1 := e1
    obtain ⟨h1, h2, h3, ⟨n, hn, h4⟩, h5⟩ := h q (by omega)
    rw [e1', if_neg ne10, if_neg ne10]
    by_cases c2 : f_S_in x2 0 3 = 0
    · rw [if_pos c2, if_pos c2]; exact ⟨_, rfl, rfl⟩
    rw [if_neg c2, if_neg c2]
    simp only [gd_of (vpn (show q < 4 by omega) (show 4 ≤ 4096 by omega)), nIc (show q ≤ 4096 by omega), h1, h2, h4]
    rcases h3 with h3 | ⟨k, hk, h3⟩
    · rw [h3, if_pos rfl, if_neg (show ¬ (0 : Int32) ≤ -1 by decide)]
      exact ⟨_, rfl, rfl⟩
    · have hne : ¬ nI k = -1 := fun z => by
        have h0 : ¬ nI k < 0 := nI_pos (by omega)
        rw [z] at h0
        exact h0 (by decide)
      rw [h3, if_neg hne, if_pos (nI_pos' (n := k) (by omega)), within_in]
      by_cases k2 : nI k = x2
      · rw [if_pos k2, if_pos k2, bd1_eq _ rfl, if_pos rfl]
        rcases in_P x3 n (by omega) with ⟨e2, i, hi, rfl⟩ | ⟨e2, -⟩
        · rw [e2, if_neg ne10, if_neg ne10, fty, gd_of (vpn (n := i) (N := 40) (by omega) (by omega)), gd_of (vpn (n := 40 * q + i) (N := 160) (by omega) (by omega)), nIc (show i ≤ 4096 by omega), nIc (show 40 * q + i ≤ 4096 by omega), h5 i (by omega), i32_64]
          exact ⟨_, rfl, rfl⟩
        · rw [e2, if_pos rfl, if_pos rfl]; exact ⟨_, rfl, rfl⟩
      · rw [if_neg k2, if_neg k2, bd1_eq _ rfl, if_neg (show ¬ (-13 : Int32) = 0 by decide)]
        exact ⟨_, rfl, rfl⟩
  · have e1' : f_S_in x1 0 3 = 0 := e1
    rw [e1', if_pos rfl, if_pos rfl]
    exact ⟨_, rfl, rfl⟩
