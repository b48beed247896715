/-! The acts: kind by kind, body by body. -/
/-- the trace that both keep -/
def TR (N : Nat) (tr s : g_St) : Prop := N ≤ 30 ∧ gi tr 1 = nI N ∧ gi s 47 = nI N ∧ ∀ i, i < N → gr tr 0 i = gr s 46 i
/-- all but what an act writes -/
def OA (s t : g_St) : Prop := (∀ i, i ≠ 43 → i ≠ 44 → i ≠ 45 → i ≠ 47 → i ≠ 48 → gi t i = gi s i) ∧ (∀ i, i ≠ 46 → gr t i = gr s i) ∧ gt t = gt s
def AR (k : Nat) (nn a : Int32) (s0 tr s : g_St) : Prop := (∃ N, TR N tr s) ∧ gi tr 2 = gi s 48 ∧ gi s 43 = nI k ∧ gi s 44 = nn ∧ gi s 45 = a ∧ OA s0 s
def AgP (k : Nat) (nn a : Int32) (s0 : g_St) (m m' : Option (Int32 × g_St)) : Prop := ∃ r tr s, m = some (r, tr) ∧ m' = some (r, s) ∧ AR k nn a s0 tr s
theorem AR.n {k : Nat} {nn a : Int32} {s0 tr s : g_St} (h : AR k nn a s0 tr s) : gi s 44 = nn := h.2.2.2.1
theorem AR.a {k : Nat} {nn a : Int32} {s0 tr s : g_St} (h : AR k nn a s0 tr s) : gi s 45 = a := h.2.2.2.2.1
theorem AR.k {k : Nat} {nn a : Int32} {s0 tr s : g_St} (h : AR k nn a s0 tr s) : gi s 43 = nI k := h.2.2.1
theorem ran_ar {k : Nat} {nn a : Int32} {s0 tr s : g_St} (h : AR k nn a s0 tr s) (b : Int32) : ∃ tr' s', f_K_begin tr b = some tr' ∧ f_M_ran s b = some s' ∧ AR k nn a s0 tr' s' := by
  obtain ⟨⟨N, hN, t1, s47, ht⟩, h2, h3, h4, h5, h6, h7, h8⟩ := h
  unfold f_K_begin f_M_ran
  rw [t1, s47]
  by_cases z : N = 30
  · rw [if_pos (show (30 : Int32) ≤ nI N from nI_le (a := 30) (by omega) (by omega)), if_pos (show (30 : Int32) ≤ nI N from nI_le (a := 30) (by omega) (by omega))]
    exact ⟨tr, s, rfl, rfl, ⟨N, hN, t1, s47, ht⟩, h2, h3, h4, h5, h6, h7, h8⟩
  · have c : (nI N).toNatClampNeg = N := nIc (by omega)
    rw [if_neg (show ¬ (30 : Int32) ≤ nI N from nI_ge (b := 30) (by omega) (by omega)), if_neg (show ¬ (30 : Int32) ≤ nI N from nI_ge (b := 30) (by omega) (by omega)), gd_of (vpn (n := N) (N := 30) (by omega) (by omega)), gd_of (vpn (n := N) (N := 30) (by omega) (by omega))]
    simp only [lt_lt]
    rw [gi_sr, gi_sr, t1, s47, nI_1]
    refine ⟨_, _, rfl, rfl, ⟨N + 1, by omega, rfl, rfl, fun i hi => ?_⟩, h2, h3, h4, h5, fun i i1 i2 i3 i4 i5 => ?_, fun i i1 => ?_, h8⟩
    · show upd (gr tr 0) (nI N).toNatClampNeg b i = upd (gr s 46) (nI N).toNatClampNeg b i
      rw [c, upd_at, upd_at]
      by_cases y : i = N
      · rw [if_pos y, if_pos y]
      · rw [if_neg y, if_neg y]; exact ht i (by omega)
    · rw [gi_si, if_neg i4]; exact h6 i i1 i2 i3 i4 i5
    · show (if i = 46 then _ else gr s i) = _
      rw [if_neg i1]; exact h7 i i1
theorem ag_ran {k : Nat} {nn a : Int32} {s0 tr s : g_St} {b : Int32} {F G : g_St → Option (Int32 × g_St)} (h : AR k nn a s0 tr s) (kk : ∀ tr s, AR k nn a s0 tr s → AgP k nn a s0 (F tr) (G s)) : AgP k nn a s0 (bd1 (f_K_begin tr b) F) (bd1 (f_M_ran s b) G) := by
  obtain ⟨tr', s', e1, e2, e3⟩ := ran_ar h b
  rw [bd1_eq _ e1, bd1_eq _ e2]
  exact kk tr' s' e3
theorem ag_then {k : Nat} {nn a : Int32} {s0 : g_St} {m m' : Option (Int32 × g_St)} {F G : Int32 → g_St → Option (Int32 × g_St)} (h : AgP k nn a s0 m m') (kk : ∀ r tr s, AR k nn a s0 tr s → AgP k nn a s0 (F r tr) (G r s)) : AgP k nn a s0 (bd2 m F) (bd2 m' G) := by
  obtain ⟨r, tr', s', e1, e2, e3⟩ := h
  rw [bd2_eq _ e1, bd2_eq _ e2]
  exact kk r tr' s' e3
theorem ag_ret {k : Nat} {nn a : Int32} {s0 tr s : g_St} {r r' : Int32} (h : AR k nn a s0 tr s) (e : r' = r) : AgP k nn a s0 (some (r, tr)) (some (r', s)) := ⟨r, tr, s, rfl, by rw [e], h⟩
theorem ag_id {k : Nat} {nn a : Int32} {s0 : g_St} {m m' : Option (Int32 × g_St)} (h : AgP k nn a s0 m m') : AgP k nn a s0 m (bd2 m' fun r s => some (r, s)) := by
  obtain ⟨r, tr', s', e1, e2, e3⟩ := h
  exact ⟨r, tr', s', e1, by rw [bd2_eq _ e2], e3⟩
theorem ag_id2 {k : Nat} {nn a : Int32} {s0 : g_St} {m m' : Option (Int32 × g_St)} (h : AgP k nn a s0 m m') : AgP k nn a s0 (bd2 m fun r s => some (r, s)) m' := by
  obtain ⟨r, tr', s', e1, e2, e3⟩ := h
  exact ⟨r, tr', s', by rw [bd2_eq _ e1], e2, e3⟩
theorem ag_sh {k : Nat} {nn a : Int32} {s0 tr s : g_St} (h : AR k nn a s0 tr s) (x nn' a' : Int32) (hn : nn' = nn) (ha : a' = a) : AgP k nn a s0 (if a' = nn' then (lt (si tr 2 (1 : Int32)) fun s5 => some ((0 : Int32), s5)) else (gd (¬ (a' - nn') = 0) (some ((x / (a' - nn')), tr)))) (if (gi s 45) = (gi s 44) then (lt (si s 48 (1 : Int32)) fun s5 => some ((0 : Int32), s5)) else (gd (¬ ((gi s 45) - (gi s 44)) = 0) (some ((x / ((gi s 45) - (gi s 44))), s)))) := by
  rw [h.n, h.a, hn, ha]
  obtain ⟨⟨N, hN, t1, s47, ht⟩, h2, h3, h4, h5, h6, h7, h8⟩ := h
  by_cases z : a = nn
  · rw [if_pos z, if_pos z, lt_lt, lt_lt]
    exact ⟨0, _, _, rfl, rfl, ⟨N, hN, t1, s47, ht⟩, rfl, h3, h4, h5, fun i i1 i2 i3 i4 i5 => by rw [gi_si, if_neg i5]; exact h6 i i1 i2 i3 i4 i5, h7, h8⟩
  · have g : ¬ a - nn = 0 := fun t => z (by
      have u : a - nn + nn = 0 + nn := by rw [t]
      rw [Int32.sub_add_cancel, Int32.zero_add] at u
      exact u)
    rw [if_neg z, if_neg z, gd_of g, gd_of g]
    exact ⟨_, _, _, rfl, rfl, ⟨N, hN, t1, s47, ht⟩, h2, h3, h4, h5, h6, h7, h8⟩
noncomputable def actM (s : g_St) (y x : Int32) : Option (Int32 × g_St) := if y = 0 then f_M_barsIt s x else (if y = 1 then f_M_waitsIt s x else (if y = 2 then f_M_sharesIt s x else f_M_tellsIt s x))
theorem sb_0 {nn a : Int32} {s0 th tr s : g_St} (hn : gi th 0 = nn) (ha : gi th 10 = a) (h : AR 0 nn a s0 tr s) (x : Int32) : AgP 0 nn a s0 (f_Y0_Sayer_bars th tr x) (f_M_plainBars s x) := by
  unfold f_Y0_Sayer_bars f_M_plainBars
  exact ag_ran h fun tr s h => ag_ret h (by rw [hn, h.n])
theorem bars_0 {nn a : Int32} {s0 th tr s : g_St} (hn : gi th 0 = nn) (ha : gi th 10 = a) (h : AR 0 nn a s0 tr s) (x : Int32) : AgP 0 nn a s0 (f_Y0_Sayer_bars th tr x) (f_M_barsIt s x) := by
  unfold f_M_barsIt
  rw [lt_lt, h.k, if_neg (show ¬ nI 0 = 2 by decide), if_neg (show ¬ nI 0 = 3 by decide), if_neg (show ¬ nI 0 = 4 by decide)]
  exact ag_id (sb_0 hn ha h x)
theorem sw_0 {nn a : Int32} {s0 th tr s : g_St} (hn : gi th 0 = nn) (ha : gi th 10 = a) (h : AR 0 nn a s0 tr s) (x : Int32) : AgP 0 nn a s0 (f_Y0_Sayer_waits th tr x) (f_M_plainWaits s x) := by
  unfold f_Y0_Sayer_waits f_M_plainWaits
  exact ag_ran h fun tr s h => ag_then (bars_0 hn ha h x) fun r tr s h => ag_ret h rfl
theorem waits_0 {nn a : Int32} {s0 th tr s : g_St} (hn : gi th 0 = nn) (ha : gi th 10 = a) (h : AR 0 nn a s0 tr s) (x : Int32) : AgP 0 nn a s0 (f_Y0_Sayer_waits th tr x) (f_M_waitsIt s x) := by
  unfold f_M_waitsIt
  rw [h.k, if_neg (show ¬ nI 0 = 1 by decide), if_neg (show ¬ nI 0 = 4 by decide), if_neg (show ¬ nI 0 = 3 by decide)]
  exact ag_id (sw_0 hn ha h x)
theorem ss_0 {nn a : Int32} {s0 th tr s : g_St} (hn : gi th 0 = nn) (ha : gi th 10 = a) (h : AR 0 nn a s0 tr s) (x : Int32) : AgP 0 nn a s0 (f_Y0_Sayer_shares th tr x) (f_M_plainShares s x) := by
  unfold f_Y0_Sayer_shares f_M_plainShares
  exact ag_ran h fun tr s h => ag_sh h x _ _ hn ha
theorem shares_0 {nn a : Int32} {s0 th tr s : g_St} (hn : gi th 0 = nn) (ha : gi th 10 = a) (h : AR 0 nn a s0 tr s) (x : Int32) : AgP 0 nn a s0 (f_Y0_Sayer_shares th tr x) (f_M_sharesIt s x) := by
  unfold f_M_sharesIt
  rw [h.k, if_neg (show ¬ nI 0 = 4 by decide), if_neg (show ¬ nI 0 = 5 by decide)]
  exact ag_id (ss_0 hn ha h x)
theorem st_0 {nn a : Int32} {s0 th tr s : g_St} (hn : gi th 0 = nn) (ha : gi th 10 = a) (h : AR 0 nn a s0 tr s) (x : Int32) : AgP 0 nn a s0 (f_Y0_Sayer_tells th tr x) (f_M_plainTells s x) := by
  unfold f_Y0_Sayer_tells f_M_plainTells
  exact ag_ran h fun tr s h => ag_then (waits_0 hn ha h x) fun r tr s h => ag_ret h (by rw [ha, h.a])
theorem tells_0 {nn a : Int32} {s0 th tr s : g_St} (hn : gi th 0 = nn) (ha : gi th 10 = a) (h : AR 0 nn a s0 tr s) (x : Int32) : AgP 0 nn a s0 (f_Y0_Sayer_tells th tr x) (f_M_tellsIt s x) := by
  unfold f_M_tellsIt
  rw [h.k, if_neg (show ¬ nI 0 = 2 by decide), if_neg (show ¬ nI 0 = 3 by decide), if_neg (show ¬ nI 0 = 5 by decide)]
  exact ag_id (st_0 hn ha h x)
theorem ans_0 {nn a : Int32} {s0 th tr s : g_St} (hn : gi th 0 = nn) (ha : gi th 10 = a) (h : AR 0 nn a s0 tr s) (y x : Int32) : AgP 0 nn a s0 (if y = (0 : Int32) then f_Y0_Sayer_bars th tr x else (if y = (1 : Int32) then f_Y0_Sayer_waits th tr x else (if y = (2 : Int32) then f_Y0_Sayer_shares th tr x else f_Y0_Sayer_tells th tr x))) (actM s y x) := by
  unfold actM
  by_cases c0 : y = 0
  · rw [if_pos c0, if_pos c0]; exact bars_0 hn ha h x
  rw [if_neg c0, if_neg c0]
  by_cases c1 : y = 1
  · rw [if_pos c1, if_pos c1]; exact waits_0 hn ha h x
  rw [if_neg c1, if_neg c1]
  by_cases c2 : y = 2
  · rw [if_pos c2, if_pos c2]; exact shares_0 hn ha h x
  rw [if_neg c2, if_neg c2]
  exact tells_0 hn ha h x
theorem sb_1 {nn a : Int32} {s0 th tr s : g_St} (hn : gi th 1 = nn) (ha : gi th 11 = a) (h : AR 1 nn a s0 tr s) (x : Int32) : AgP 1 nn a s0 (f_Y1_Sayer_bars th tr x) (f_M_plainBars s x) := by
  unfold f_Y1_Sayer_bars f_M_plainBars
  exact ag_ran h fun tr s h => ag_ret h (by rw [hn, h.n])
theorem bars_1 {nn a : Int32} {s0 th tr s : g_St} (hn : gi th 1 = nn) (ha : gi th 11 = a) (h : AR 1 nn a s0 tr s) (x : Int32) : AgP 1 nn a s0 (f_Y1_Sayer_bars th tr x) (f_M_barsIt s x) := by
  unfold f_M_barsIt
  rw [lt_lt, h.k, if_neg (show ¬ nI 1 = 2 by decide), if_neg (show ¬ nI 1 = 3 by decide), if_neg (show ¬ nI 1 = 4 by decide)]
  exact ag_id (sb_1 hn ha h x)
theorem sw_1 {nn a : Int32} {s0 th tr s : g_St} (hn : gi th 1 = nn) (ha : gi th 11 = a) (h : AR 1 nn a s0 tr s) (x : Int32) : AgP 1 nn a s0 (f_Y1_Sayer_waits th tr x) (f_M_plainWaits s x) := by
  unfold f_Y1_Sayer_waits f_M_plainWaits
  exact ag_ran h fun tr s h => ag_then (bars_1 hn ha h x) fun r tr s h => ag_ret h rfl
theorem waits_1 {nn a : Int32} {s0 th tr s : g_St} (hn : gi th 1 = nn) (ha : gi th 11 = a) (h : AR 1 nn a s0 tr s) (x : Int32) : AgP 1 nn a s0 (f_Y1_Quick_waits th tr x) (f_M_waitsIt s x) := by
  unfold f_Y1_Quick_waits f_M_waitsIt f_M_waitsIt_L16
  rw [h.k, if_pos (show nI 1 = 1 from rfl)]
  exact ag_ran h fun tr s h => ag_then (sw_1 hn ha h x) fun r tr s h => ag_ret h (by rw [ha, h.a])
theorem ss_1 {nn a : Int32} {s0 th tr s : g_St} (hn : gi th 1 = nn) (ha : gi th 11 = a) (h : AR 1 nn a s0 tr s) (x : Int32) : AgP 1 nn a s0 (f_Y1_Sayer_shares th tr x) (f_M_plainShares s x) := by
  unfold f_Y1_Sayer_shares f_M_plainShares
  exact ag_ran h fun tr s h => ag_sh h x _ _ hn ha
theorem shares_1 {nn a : Int32} {s0 th tr s : g_St} (hn : gi th 1 = nn) (ha : gi th 11 = a) (h : AR 1 nn a s0 tr s) (x : Int32) : AgP 1 nn a s0 (f_Y1_Sayer_shares th tr x) (f_M_sharesIt s x) := by
  unfold f_M_sharesIt
  rw [h.k, if_neg (show ¬ nI 1 = 4 by decide), if_neg (show ¬ nI 1 = 5 by decide)]
  exact ag_id (ss_1 hn ha h x)
theorem st_1 {nn a : Int32} {s0 th tr s : g_St} (hn : gi th 1 = nn) (ha : gi th 11 = a) (h : AR 1 nn a s0 tr s) (x : Int32) : AgP 1 nn a s0 (f_Y1_Sayer_tells th tr x) (f_M_plainTells s x) := by
  unfold f_Y1_Sayer_tells f_M_plainTells
  exact ag_ran h fun tr s h => ag_then (waits_1 hn ha h x) fun r tr s h => ag_ret h (by rw [ha, h.a])
theorem tells_1 {nn a : Int32} {s0 th tr s : g_St} (hn : gi th 1 = nn) (ha : gi th 11 = a) (h : AR 1 nn a s0 tr s) (x : Int32) : AgP 1 nn a s0 (f_Y1_Sayer_tells th tr x) (f_M_tellsIt s x) := by
  unfold f_M_tellsIt
  rw [h.k, if_neg (show ¬ nI 1 = 2 by decide), if_neg (show ¬ nI 1 = 3 by decide), if_neg (show ¬ nI 1 = 5 by decide)]
  exact ag_id (st_1 hn ha h x)
theorem ans_1 {nn a : Int32} {s0 th tr s : g_St} (hn : gi th 1 = nn) (ha : gi th 11 = a) (h : AR 1 nn a s0 tr s) (y x : Int32) : AgP 1 nn a s0 (if y = (0 : Int32) then f_Y1_Sayer_bars th tr x else (if y = (1 : Int32) then f_Y1_Quick_waits th tr x else (if y = (2 : Int32) then f_Y1_Sayer_shares th tr x else f_Y1_Sayer_tells th tr x))) (actM s y x) := by
  unfold actM
  by_cases c0 : y = 0
  · rw [if_pos c0, if_pos c0]; exact bars_1 hn ha h x
  rw [if_neg c0, if_neg c0]
  by_cases c1 : y = 1
  · rw [if_pos c1, if_pos c1]; exact waits_1 hn ha h x
  rw [if_neg c1, if_neg c1]
  by_cases c2 : y = 2
  · rw [if_pos c2, if_pos c2]; exact shares_1 hn ha h x
  rw [if_neg c2, if_neg c2]
  exact tells_1 hn ha h x
theorem sb_2 {nn a : Int32} {s0 th tr s : g_St} (hn : gi th 2 = nn) (ha : gi th 12 = a) (h : AR 2 nn a s0 tr s) (x : Int32) : AgP 2 nn a s0 (f_Y2_Sayer_bars th tr x) (f_M_plainBars s x) := by
  unfold f_Y2_Sayer_bars f_M_plainBars
  exact ag_ran h fun tr s h => ag_ret h (by rw [hn, h.n])
theorem bb_2 {nn a : Int32} {s0 th tr s : g_St} (hn : gi th 2 = nn) (ha : gi th 12 = a) (h : AR 2 nn a s0 tr s) (x : Int32) : AgP 2 nn a s0 (f_Y2_Bar_bars th tr x) (f_M_barBars s x) := by
  unfold f_Y2_Bar_bars f_M_barBars
  exact ag_ran h fun tr s h => ag_then (sb_2 hn ha h x) fun r tr s h => ag_ret h rfl
theorem bars_2 {nn a : Int32} {s0 th tr s : g_St} (hn : gi th 2 = nn) (ha : gi th 12 = a) (h : AR 2 nn a s0 tr s) (x : Int32) : AgP 2 nn a s0 (f_Y2_Bar_bars th tr x) (f_M_barsIt s x) := by
  unfold f_M_barsIt
  rw [lt_lt, h.k, if_pos (show nI 2 = 2 from rfl)]
  exact ag_id (bb_2 hn ha h x)
theorem sw_2 {nn a : Int32} {s0 th tr s : g_St} (hn : gi th 2 = nn) (ha : gi th 12 = a) (h : AR 2 nn a s0 tr s) (x : Int32) : AgP 2 nn a s0 (f_Y2_Sayer_waits th tr x) (f_M_plainWaits s x) := by
  unfold f_Y2_Sayer_waits f_M_plainWaits
  exact ag_ran h fun tr s h => ag_then (bars_2 hn ha h x) fun r tr s h => ag_ret h rfl
theorem waits_2 {nn a : Int32} {s0 th tr s : g_St} (hn : gi th 2 = nn) (ha : gi th 12 = a) (h : AR 2 nn a s0 tr s) (x : Int32) : AgP 2 nn a s0 (f_Y2_Sayer_waits th tr x) (f_M_waitsIt s x) := by
  unfold f_M_waitsIt
  rw [h.k, if_neg (show ¬ nI 2 = 1 by decide), if_neg (show ¬ nI 2 = 4 by decide), if_neg (show ¬ nI 2 = 3 by decide)]
  exact ag_id (sw_2 hn ha h x)
theorem ss_2 {nn a : Int32} {s0 th tr s : g_St} (hn : gi th 2 = nn) (ha : gi th 12 = a) (h : AR 2 nn a s0 tr s) (x : Int32) : AgP 2 nn a s0 (f_Y2_Sayer_shares th tr x) (f_M_plainShares s x) := by
  unfold f_Y2_Sayer_shares f_M_plainShares
  exact ag_ran h fun tr s h => ag_sh h x _ _ hn ha
theorem shares_2 {nn a : Int32} {s0 th tr s : g_St} (hn : gi th 2 = nn) (ha : gi th 12 = a) (h : AR 2 nn a s0 tr s) (x : Int32) : AgP 2 nn a s0 (f_Y2_Sayer_shares th tr x) (f_M_sharesIt s x) := by
  unfold f_M_sharesIt
  rw [h.k, if_neg (show ¬ nI 2 = 4 by decide), if_neg (show ¬ nI 2 = 5 by decide)]
  exact ag_id (ss_2 hn ha h x)
theorem st_2 {nn a : Int32} {s0 th tr s : g_St} (hn : gi th 2 = nn) (ha : gi th 12 = a) (h : AR 2 nn a s0 tr s) (x : Int32) : AgP 2 nn a s0 (f_Y2_Sayer_tells th tr x) (f_M_plainTells s x) := by
  unfold f_Y2_Sayer_tells f_M_plainTells
  exact ag_ran h fun tr s h => ag_then (waits_2 hn ha h x) fun r tr s h => ag_ret h (by rw [ha, h.a])
theorem tells_2 {nn a : Int32} {s0 th tr s : g_St} (hn : gi th 2 = nn) (ha : gi th 12 = a) (h : AR 2 nn a s0 tr s) (x : Int32) : AgP 2 nn a s0 (f_Y2_Bar_tells th tr x) (f_M_tellsIt s x) := by
  unfold f_Y2_Bar_tells f_M_tellsIt f_M_tellsIt_L16
  rw [h.k, if_pos (show nI 2 = 2 from rfl)]
  refine ag_ran h fun tr s h => ag_then (st_2 hn ha h x) fun r tr s h => ag_then ?_ fun r2 tr s h => ag_ret h rfl
  rw [hn, h.n]
  exact shares_2 hn ha h nn
theorem ans_2 {nn a : Int32} {s0 th tr s : g_St} (hn : gi th 2 = nn) (ha : gi th 12 = a) (h : AR 2 nn a s0 tr s) (y x : Int32) : AgP 2 nn a s0 (if y = (0 : Int32) then f_Y2_Bar_bars th tr x else (if y = (1 : Int32) then f_Y2_Sayer_waits th tr x else (if y = (2 : Int32) then f_Y2_Sayer_shares th tr x else f_Y2_Bar_tells th tr x))) (actM s y x) := by
  unfold actM
  by_cases c0 : y = 0
  · rw [if_pos c0, if_pos c0]; exact bars_2 hn ha h x
  rw [if_neg c0, if_neg c0]
  by_cases c1 : y = 1
  · rw [if_pos c1, if_pos c1]; exact waits_2 hn ha h x
  rw [if_neg c1, if_neg c1]
  by_cases c2 : y = 2
  · rw [if_pos c2, if_pos c2]; exact shares_2 hn ha h x
  rw [if_neg c2, if_neg c2]
  exact tells_2 hn ha h x
theorem sb_3 {nn a : Int32} {s0 th tr s : g_St} (hn : gi th 3 = nn) (ha : gi th 13 = a) (h : AR 3 nn a s0 tr s) (x : Int32) : AgP 3 nn a s0 (f_Y3_Sayer_bars th tr x) (f_M_plainBars s x) := by
  unfold f_Y3_Sayer_bars f_M_plainBars
  exact ag_ran h fun tr s h => ag_ret h (by rw [hn, h.n])
theorem bb_3 {nn a : Int32} {s0 th tr s : g_St} (hn : gi th 3 = nn) (ha : gi th 13 = a) (h : AR 3 nn a s0 tr s) (x : Int32) : AgP 3 nn a s0 (f_Y3_Bar_bars th tr x) (f_M_barBars s x) := by
  unfold f_Y3_Bar_bars f_M_barBars
  exact ag_ran h fun tr s h => ag_then (sb_3 hn ha h x) fun r tr s h => ag_ret h rfl
theorem bars_3 {nn a : Int32} {s0 th tr s : g_St} (hn : gi th 3 = nn) (ha : gi th 13 = a) (h : AR 3 nn a s0 tr s) (x : Int32) : AgP 3 nn a s0 (f_Y3_Wait_bars th tr x) (f_M_barsIt s x) := by
  unfold f_M_barsIt
  rw [lt_lt, h.k, if_neg (show ¬ nI 3 = 2 by decide), if_pos (show nI 3 = 3 from rfl)]
  unfold f_Y3_Wait_bars
  exact ag_ran h fun tr s h => ag_then (bb_3 hn ha h x) fun r tr s h => ag_ret h rfl
theorem sw_3 {nn a : Int32} {s0 th tr s : g_St} (hn : gi th 3 = nn) (ha : gi th 13 = a) (h : AR 3 nn a s0 tr s) (x : Int32) : AgP 3 nn a s0 (f_Y3_Sayer_waits th tr x) (f_M_plainWaits s x) := by
  unfold f_Y3_Sayer_waits f_M_plainWaits
  exact ag_ran h fun tr s h => ag_then (bars_3 hn ha h x) fun r tr s h => ag_ret h rfl
theorem waits_3 {nn a : Int32} {s0 th tr s : g_St} (hn : gi th 3 = nn) (ha : gi th 13 = a) (h : AR 3 nn a s0 tr s) (x : Int32) : AgP 3 nn a s0 (f_Y3_Wait_waits th tr x) (f_M_waitsIt s x) := by
  unfold f_Y3_Wait_waits f_M_waitsIt
  rw [h.k, if_neg (show ¬ nI 3 = 1 by decide), if_neg (show ¬ nI 3 = 4 by decide), if_pos (show nI 3 = 3 from rfl)]
  refine ag_ran h fun tr s h => ag_then (sw_3 hn ha h x) fun r tr s h => ag_then ?_ fun r2 tr s h => ag_ret h rfl
  rw [hn, h.n]
  exact bars_3 hn ha h nn
theorem ss_3 {nn a : Int32} {s0 th tr s : g_St} (hn : gi th 3 = nn) (ha : gi th 13 = a) (h : AR 3 nn a s0 tr s) (x : Int32) : AgP 3 nn a s0 (f_Y3_Sayer_shares th tr x) (f_M_plainShares s x) := by
  unfold f_Y3_Sayer_shares f_M_plainShares
  exact ag_ran h fun tr s h => ag_sh h x _ _ hn ha
theorem shares_3 {nn a : Int32} {s0 th tr s : g_St} (hn : gi th 3 = nn) (ha : gi th 13 = a) (h : AR 3 nn a s0 tr s) (x : Int32) : AgP 3 nn a s0 (f_Y3_Sayer_shares th tr x) (f_M_sharesIt s x) := by
  unfold f_M_sharesIt
  rw [h.k, if_neg (show ¬ nI 3 = 4 by decide), if_neg (show ¬ nI 3 = 5 by decide)]
  exact ag_id (ss_3 hn ha h x)
theorem st_3 {nn a : Int32} {s0 th tr s : g_St} (hn : gi th 3 = nn) (ha : gi th 13 = a) (h : AR 3 nn a s0 tr s) (x : Int32) : AgP 3 nn a s0 (f_Y3_Sayer_tells th tr x) (f_M_plainTells s x) := by
  unfold f_Y3_Sayer_tells f_M_plainTells
  exact ag_ran h fun tr s h => ag_then (waits_3 hn ha h x) fun r tr s h => ag_ret h (by rw [ha, h.a])
theorem tells_3 {nn a : Int32} {s0 th tr s : g_St} (hn : gi th 3 = nn) (ha : gi th 13 = a) (h : AR 3 nn a s0 tr s) (x : Int32) : AgP 3 nn a s0 (f_Y3_Bar_tells th tr x) (f_M_tellsIt s x) := by
  unfold f_Y3_Bar_tells f_M_tellsIt f_M_tellsIt_L16
  rw [h.k, if_neg (show ¬ nI 3 = 2 by decide), if_pos (show nI 3 = 3 from rfl)]
  refine ag_ran h fun tr s h => ag_then (st_3 hn ha h x) fun r tr s h => ag_then ?_ fun r2 tr s h => ag_ret h rfl
  rw [hn, h.n]
  exact shares_3 hn ha h nn
theorem ans_3 {nn a : Int32} {s0 th tr s : g_St} (hn : gi th 3 = nn) (ha : gi th 13 = a) (h : AR 3 nn a s0 tr s) (y x : Int32) : AgP 3 nn a s0 (if y = (0 : Int32) then f_Y3_Wait_bars th tr x else (if y = (1 : Int32) then f_Y3_Wait_waits th tr x else (if y = (2 : Int32) then f_Y3_Sayer_shares th tr x else f_Y3_Bar_tells th tr x))) (actM s y x) := by
  unfold actM
  by_cases c0 : y = 0
  · rw [if_pos c0, if_pos c0]; exact bars_3 hn ha h x
  rw [if_neg c0, if_neg c0]
  by_cases c1 : y = 1
  · rw [if_pos c1, if_pos c1]; exact waits_3 hn ha h x
  rw [if_neg c1, if_neg c1]
  by_cases c2 : y = 2
  · rw [if_pos c2, if_pos c2]; exact shares_3 hn ha h x
  rw [if_neg c2, if_neg c2]
  exact tells_3 hn ha h x
theorem sb_4 {nn a : Int32} {s0 th tr s : g_St} (hn : gi th 4 = nn) (ha : gi th 14 = a) (h : AR 4 nn a s0 tr s) (x : Int32) : AgP 4 nn a s0 (f_Y4_Sayer_bars th tr x) (f_M_plainBars s x) := by
  unfold f_Y4_Sayer_bars f_M_plainBars
  exact ag_ran h fun tr s h => ag_ret h (by rw [hn, h.n])
theorem bars_4 {nn a : Int32} {s0 th tr s : g_St} (hn : gi th 4 = nn) (ha : gi th 14 = a) (h : AR 4 nn a s0 tr s) (x : Int32) : AgP 4 nn a s0 (f_Y4_League_bars th tr x) (f_M_barsIt s x) := by
  unfold f_M_barsIt
  rw [lt_lt, h.k, if_neg (show ¬ nI 4 = 2 by decide), if_neg (show ¬ nI 4 = 3 by decide), if_pos (show nI 4 = 4 from rfl)]
  unfold f_Y4_League_bars
  exact ag_ran h fun tr s h => ag_then (sb_4 hn ha h x) fun r tr s h => ag_ret h (by rw [hn, h.n])
theorem sw_4 {nn a : Int32} {s0 th tr s : g_St} (hn : gi th 4 = nn) (ha : gi th 14 = a) (h : AR 4 nn a s0 tr s) (x : Int32) : AgP 4 nn a s0 (f_Y4_Sayer_waits th tr x) (f_M_plainWaits s x) := by
  unfold f_Y4_Sayer_waits f_M_plainWaits
  exact ag_ran h fun tr s h => ag_then (bars_4 hn ha h x) fun r tr s h => ag_ret h rfl
theorem waits_4 {nn a : Int32} {s0 th tr s : g_St} (hn : gi th 4 = nn) (ha : gi th 14 = a) (h : AR 4 nn a s0 tr s) (x : Int32) : AgP 4 nn a s0 (f_Y4_Quick_waits th tr x) (f_M_waitsIt s x) := by
  unfold f_Y4_Quick_waits f_M_waitsIt f_M_waitsIt_L16
  rw [h.k, if_neg (show ¬ nI 4 = 1 by decide), if_pos (show nI 4 = 4 from rfl)]
  exact ag_ran h fun tr s h => ag_then (sw_4 hn ha h x) fun r tr s h => ag_ret h (by rw [ha, h.a])
theorem ss_4 {nn a : Int32} {s0 th tr s : g_St} (hn : gi th 4 = nn) (ha : gi th 14 = a) (h : AR 4 nn a s0 tr s) (x : Int32) : AgP 4 nn a s0 (f_Y4_Sayer_shares th tr x) (f_M_plainShares s x) := by
  unfold f_Y4_Sayer_shares f_M_plainShares
  exact ag_ran h fun tr s h => ag_sh h x _ _ hn ha
theorem shares_4 {nn a : Int32} {s0 th tr s : g_St} (hn : gi th 4 = nn) (ha : gi th 14 = a) (h : AR 4 nn a s0 tr s) (x : Int32) : AgP 4 nn a s0 (f_Y4_League_shares th tr x) (f_M_sharesIt s x) := by
  unfold f_Y4_League_shares f_M_sharesIt
  rw [h.k, if_pos (show nI 4 = 4 from rfl)]
  exact ag_ran h fun tr s h => ag_then (ss_4 hn ha h (x + 2)) fun r tr s h => ag_ret h rfl
theorem st_4 {nn a : Int32} {s0 th tr s : g_St} (hn : gi th 4 = nn) (ha : gi th 14 = a) (h : AR 4 nn a s0 tr s) (x : Int32) : AgP 4 nn a s0 (f_Y4_Sayer_tells th tr x) (f_M_plainTells s x) := by
  unfold f_Y4_Sayer_tells f_M_plainTells
  exact ag_ran h fun tr s h => ag_then (waits_4 hn ha h x) fun r tr s h => ag_ret h (by rw [ha, h.a])
theorem tells_4 {nn a : Int32} {s0 th tr s : g_St} (hn : gi th 4 = nn) (ha : gi th 14 = a) (h : AR 4 nn a s0 tr s) (x : Int32) : AgP 4 nn a s0 (f_Y4_Sayer_tells th tr x) (f_M_tellsIt s x) := by
  unfold f_M_tellsIt
  rw [h.k, if_neg (show ¬ nI 4 = 2 by decide), if_neg (show ¬ nI 4 = 3 by decide), if_neg (show ¬ nI 4 = 5 by decide)]
  exact ag_id (st_4 hn ha h x)
theorem ans_4 {nn a : Int32} {s0 th tr s : g_St} (hn : gi th 4 = nn) (ha : gi th 14 = a) (h : AR 4 nn a s0 tr s) (y x : Int32) : AgP 4 nn a s0 (if y = (0 : Int32) then f_Y4_League_bars th tr x else (if y = (1 : Int32) then f_Y4_Quick_waits th tr x else (if y = (2 : Int32) then f_Y4_League_shares th tr x else f_Y4_Sayer_tells th tr x))) (actM s y x) := by
  unfold actM
  by_cases c0 : y = 0
  · rw [if_pos c0, if_pos c0]; exact bars_4 hn ha h x
  rw [if_neg c0, if_neg c0]
  by_cases c1 : y = 1
  · rw [if_pos c1, if_pos c1]; exact waits_4 hn ha h x
  rw [if_neg c1, if_neg c1]
  by_cases c2 : y = 2
  · rw [if_pos c2, if_pos c2]; exact shares_4 hn ha h x
  rw [if_neg c2, if_neg c2]
  exact tells_4 hn ha h x
theorem sb_5 {nn a : Int32} {s0 th tr s : g_St} (hn : gi th 5 = nn) (ha : gi th 15 = a) (h : AR 5 nn a s0 tr s) (x : Int32) : AgP 5 nn a s0 (f_Y5_Sayer_bars th tr x) (f_M_plainBars s x) := by
  unfold f_Y5_Sayer_bars f_M_plainBars
  exact ag_ran h fun tr s h => ag_ret h (by rw [hn, h.n])
theorem bars_5 {nn a : Int32} {s0 th tr s : g_St} (hn : gi th 5 = nn) (ha : gi th 15 = a) (h : AR 5 nn a s0 tr s) (x : Int32) : AgP 5 nn a s0 (f_Y5_Sayer_bars th tr x) (f_M_barsIt s x) := by
  unfold f_M_barsIt
  rw [lt_lt, h.k, if_neg (show ¬ nI 5 = 2 by decide), if_neg (show ¬ nI 5 = 3 by decide), if_neg (show ¬ nI 5 = 4 by decide)]
  exact ag_id (sb_5 hn ha h x)
theorem sw_5 {nn a : Int32} {s0 th tr s : g_St} (hn : gi th 5 = nn) (ha : gi th 15 = a) (h : AR 5 nn a s0 tr s) (x : Int32) : AgP 5 nn a s0 (f_Y5_Sayer_waits th tr x) (f_M_plainWaits s x) := by
  unfold f_Y5_Sayer_waits f_M_plainWaits
  exact ag_ran h fun tr s h => ag_then (bars_5 hn ha h x) fun r tr s h => ag_ret h rfl
theorem waits_5 {nn a : Int32} {s0 th tr s : g_St} (hn : gi th 5 = nn) (ha : gi th 15 = a) (h : AR 5 nn a s0 tr s) (x : Int32) : AgP 5 nn a s0 (f_Y5_Sayer_waits th tr x) (f_M_waitsIt s x) := by
  unfold f_M_waitsIt
  rw [h.k, if_neg (show ¬ nI 5 = 1 by decide), if_neg (show ¬ nI 5 = 4 by decide), if_neg (show ¬ nI 5 = 3 by decide)]
  exact ag_id (sw_5 hn ha h x)
theorem ss_5 {nn a : Int32} {s0 th tr s : g_St} (hn : gi th 5 = nn) (ha : gi th 15 = a) (h : AR 5 nn a s0 tr s) (x : Int32) : AgP 5 nn a s0 (f_Y5_Sayer_shares th tr x) (f_M_plainShares s x) := by
  unfold f_Y5_Sayer_shares f_M_plainShares
  exact ag_ran h fun tr s h => ag_sh h x _ _ hn ha
theorem shares_5 {nn a : Int32} {s0 th tr s : g_St} (hn : gi th 5 = nn) (ha : gi th 15 = a) (h : AR 5 nn a s0 tr s) (x : Int32) : AgP 5 nn a s0 (f_Y5_Told_shares th tr x) (f_M_sharesIt s x) := by
  unfold f_Y5_Told_shares f_M_sharesIt
  rw [h.k, if_neg (show ¬ nI 5 = 4 by decide), if_pos (show nI 5 = 5 from rfl)]
  refine ag_ran h fun tr s h => ag_then (ss_5 hn ha h x) fun r tr s h => ?_
  rw [h.2.1, ha, h.a]
  by_cases z : gi s 48 = 0
  · rw [if_pos z, if_pos z]
    have b := bars_5 hn ha h a
    exact ag_then b fun r2 tr s h => ag_ret h rfl
  · rw [if_neg z, if_neg z]
    exact ag_ret h rfl
theorem st_5 {nn a : Int32} {s0 th tr s : g_St} (hn : gi th 5 = nn) (ha : gi th 15 = a) (h : AR 5 nn a s0 tr s) (x : Int32) : AgP 5 nn a s0 (f_Y5_Sayer_tells th tr x) (f_M_plainTells s x) := by
  unfold f_Y5_Sayer_tells f_M_plainTells
  exact ag_ran h fun tr s h => ag_then (waits_5 hn ha h x) fun r tr s h => ag_ret h (by rw [ha, h.a])
theorem tells_5 {nn a : Int32} {s0 th tr s : g_St} (hn : gi th 5 = nn) (ha : gi th 15 = a) (h : AR 5 nn a s0 tr s) (x : Int32) : AgP 5 nn a s0 (f_Y5_Told_tells th tr x) (f_M_tellsIt s x) := by
  unfold f_Y5_Told_tells f_M_tellsIt
  rw [h.k, if_neg (show ¬ nI 5 = 2 by decide), if_neg (show ¬ nI 5 = 3 by decide), if_pos (show nI 5 = 5 from rfl)]
  exact ag_ran h fun tr s h => ag_then (st_5 hn ha h x) fun r tr s h => ag_ret h rfl
theorem ans_5 {nn a : Int32} {s0 th tr s : g_St} (hn : gi th 5 = nn) (ha : gi th 15 = a) (h : AR 5 nn a s0 tr s) (y x : Int32) : AgP 5 nn a s0 (if y = (0 : Int32) then f_Y5_Sayer_bars th tr x else (if y = (1 : Int32) then f_Y5_Sayer_waits th tr x else (if y = (2 : Int32) then f_Y5_Told_shares th tr x else f_Y5_Told_tells th tr x))) (actM s y x) := by
  unfold actM
  by_cases c0 : y = 0
  · rw [if_pos c0, if_pos c0]; exact bars_5 hn ha h x
  rw [if_neg c0, if_neg c0]
  by_cases c1 : y = 1
  · rw [if_pos c1, if_pos c1]; exact waits_5 hn ha h x
  rw [if_neg c1, if_neg c1]
  by_cases c2 : y = 2
  · rw [if_pos c2, if_pos c2]; exact shares_5 hn ha h x
  rw [if_neg c2, if_neg c2]
  exact tells_5 hn ha h x
/-- the end of the reference's act -/
theorem act_end (s : g_St) (y x : Int32) {r : Int32} {s' : g_St} (e : actM s y x = some (r, s')) : (if y = 0 then (bd2 (f_M_barsIt s x) fun r28 s29 => f_M_act_L121 s29 r28) else (if y = (1 : Int32) then (bd2 (f_M_waitsIt s x) fun r24 s25 => f_M_act_L121 s25 r24) else (if y = (2 : Int32) then (bd2 (f_M_sharesIt s x) fun r20 s21 => f_M_act_L121 s21 r20) else (bd2 (f_M_tellsIt s x) fun r16 s17 => f_M_act_L121 s17 r16)))) = (if gi s' 48 = 0 then some (r, s') else some (-15, s')) := by
  unfold actM at e
  by_cases c0 : y = 0
  · rw [if_pos c0] at e ⊢; rw [bd2_eq _ e]; rfl
  rw [if_neg c0] at e ⊢
  by_cases c1 : y = 1
  · rw [if_pos c1] at e ⊢; rw [bd2_eq _ e]; rfl
  rw [if_neg c1] at e ⊢
  by_cases c2 : y = 2
  · rw [if_pos c2] at e ⊢; rw [bd2_eq _ e]; rfl
  rw [if_neg c2] at e ⊢
  rw [bd2_eq _ e]; rfl
theorem act_fin {k : Nat} {nn a : Int32} {s0 : g_St} (th : g_St) {m m' : Option (Int32 × g_St)} {e1 : Option (Int32 × g_St)} (h : AgP k nn a s0 m m') (he : ∀ r s', m' = some (r, s') → e1 = (if gi s' 48 = 0 then some (r, s') else some (-15, s'))) : ∃ r tr' s' N', (bd2 m fun r8 s9 => if (gi s9 2) = 0 then (some (r8, th, s9)) else (some (((-15) : Int32), th, s9))) = some (r, th, tr') ∧ e1 = some (r, s') ∧ TR N' tr' s' ∧ OA s0 s' := by
  obtain ⟨r, tr, s, e2, e3, ⟨N, hN⟩, h2, -, -, -, h6⟩ := h
  rw [bd2_eq _ e2, he r s e3, h2]
  by_cases z : gi s 48 = 0
  · rw [if_pos z, if_pos z]; exact ⟨r, tr, s, N, rfl, rfl, hN, h6⟩
  · rw [if_neg z, if_neg z]; exact ⟨-15, tr, s, N, rfl, rfl, hN, h6⟩
theorem M_act_thing {s : g_St} {q p k a : Nat} {x2 x3 : Int32} (hq : q < 4) (hp : p < 6) (hk : k ≤ 5) (e2 : f_S_in x2 0 3 = 1) (ep : gr s 41 q = nI p) (ea : gr s 2 p = nI a) : f_M_act_L21 (si s 47 0) (nI q) x2 x3 (nI k) = (if x2 = 0 then (bd2 (f_M_barsIt (si (si (si (si (si s 47 0) 43 (nI k)) 44 (nI p)) 45 (nI a)) 48 0) x3) fun r28 s29 => f_M_act_L121 s29 r28) else (if x2 = (1 : Int32) then (bd2 (f_M_waitsIt (si (si (si (si (si s 47 0) 43 (nI k)) 44 (nI p)) 45 (nI a)) 48 0) x3) fun r24 s25 => f_M_act_L121 s25 r24) else (if x2 = (2 : Int32) then (bd2 (f_M_sharesIt (si (si (si (si (si s 47 0) 43 (nI k)) 44 (nI p)) 45 (nI a)) 48 0) x3) fun r20 s21 => f_M_act_L121 s21 r20) else (bd2 (f_M_tellsIt (si (si (si (si (si s 47 0) 43 (nI k)) 44 (nI p)) 45 (nI a)) 48 0) x3) fun r16 s17 => f_M_act_L121 s17 r16)))) := by
  have k5 : f_S_in (nI k) 0 5 = 1 := by
    rcases (show k = 0 ∨ k = 1 ∨ k = 2 ∨ k = 3 ∨ k = 4 ∨ k = 5 by omega) with rfl | rfl | rfl | rfl | rfl | rfl <;> decide
  unfold f_M_act_L21
  rw [e2, if_neg ne10, k5, if_neg ne10, lt_lt, gd_of (vpn (n := q) (N := 4) (by omega) (by omega)), lt_lt, lt_lt, nIc (show q ≤ 4096 by omega)]
  have g1 : gr (si (si s 47 0) 43 (nI k)) 41 q = nI p := ep
  rw [g1]
  have g2 : gi (si (si (si s 47 0) 43 (nI k)) 44 (nI p)) 44 = nI p := rfl
  rw [g2, gd_of (vpn (n := p) (N := 6) (by omega) (by omega)), lt_lt, lt_lt, nIc (show p ≤ 4096 by omega)]
  have g3 : gr (si (si (si s 47 0) 43 (nI k)) 44 (nI p)) 2 p = nI a := ea
  rw [g3, lt_lt]
theorem act_sw {w v th : g_St} {y : Int32} (hy : f_S_in y 0 3 = 1) (b0 b1 b2 b3 : Option (Int32 × g_St)) (z : Option (Int32 × g_St × g_St)) : (if y = (0 : Int32) then (bd2 b0 fun r s => f_O_act_L114 w v th s r) else (if y = (1 : Int32) then (bd2 b1 fun r s => f_O_act_L114 w v th s r) else (if y = (2 : Int32) then (bd2 b2 fun r s => f_O_act_L114 w v th s r) else (if y = (3 : Int32) then (bd2 b3 fun r s => f_O_act_L114 w v th s r) else z)))) = (bd2 (if y = (0 : Int32) then b0 else (if y = (1 : Int32) then b1 else (if y = (2 : Int32) then b2 else b3))) fun r8 s9 => if (gi s9 2) = 0 then (some (r8, th, s9)) else (some (((-15) : Int32), th, s9))) := by
  rcases in_0 y 3 (by omega) with ⟨-, j, hj, rfl⟩ | e
  · rcases (show j = 0 ∨ j = 1 ∨ j = 2 ∨ j = 3 by omega) with rfl | rfl | rfl | rfl
    · rw [if_pos (show nI 0 = 0 from rfl), if_pos (show nI 0 = 0 from rfl)]; rfl
    · rw [if_neg (show ¬ nI 1 = 0 by decide), if_neg (show ¬ nI 1 = 0 by decide), if_pos (show nI 1 = 1 from rfl), if_pos (show nI 1 = 1 from rfl)]; rfl
    · rw [if_neg (show ¬ nI 2 = 0 by decide), if_neg (show ¬ nI 2 = 0 by decide), if_neg (show ¬ nI 2 = 1 by decide), if_neg (show ¬ nI 2 = 1 by decide), if_pos (show nI 2 = 2 from rfl), if_pos (show nI 2 = 2 from rfl)]; rfl
    · rw [if_neg (show ¬ nI 3 = 0 by decide), if_neg (show ¬ nI 3 = 0 by decide), if_neg (show ¬ nI 3 = 1 by decide), if_neg (show ¬ nI 3 = 1 by decide), if_neg (show ¬ nI 3 = 2 by decide), if_neg (show ¬ nI 3 = 2 by decide), if_pos (show nI 3 = 3 from rfl)]; rfl
  · replace e : f_S_in y 0 3 = 0 := e
    rw [e] at hy
    exact absurd hy (by decide)
theorem act_sw0 {γ : Type} {y : Int32} (hy : f_S_in y 0 3 = 0) (b0 b1 b2 b3 z : γ) : (if y = (0 : Int32) then b0 else (if y = (1 : Int32) then b1 else (if y = (2 : Int32) then b2 else (if y = (3 : Int32) then b3 else z)))) = z := by
  have no : ∀ t : Int32, f_S_in t 0 3 = 1 → ¬ y = t := fun t ht q => by
    rw [q, ht] at hy
    exact absurd hy (by decide)
  rw [if_neg (no 0 (by decide)), if_neg (no 1 (by decide)), if_neg (no 2 (by decide)), if_neg (no 3 (by decide))]
theorem t_act {P Q N : Nat} {v s w tr : g_St} (th : g_St) (h : RV P Q v s) (hE : HE w s) (x1 x2 x3 : Int32) : ∃ r th' tr' s' N', f_O_act w v th tr x1 x2 x3 = some (r, th', tr') ∧ f_M_act s x1 x2 x3 = some (r, s') ∧ TR N' tr' s' ∧ OA s s' := by
  have t0 : TR 0 (f_K_clear tr) (si s 47 0) := ⟨by omega, rfl, rfl, fun i hi => by omega⟩
  have o0 : OA s (si s 47 0) := ⟨fun i _ _ _ h4 _ => by rw [gi_si, if_neg h4], fun _ _ => rfl, rfl⟩
  have bad : ∀ z : Int32, f_S_in z 0 5 = 0 → f_M_act_L21 (si s 47 0) x1 x2 x3 z = some (0, si s 47 0) := fun z hz => by
    unfold f_M_act_L21
    by_cases c : f_S_in x2 0 3 = 0
    · rw [if_pos c]
    · rw [if_neg c, if_pos hz]
  unfold f_O_act f_M_act
  rw [lt_lt, lt_lt, within_in, show f_S_isShelf x1 = f_S_in x1 0 3 from rfl]
  rcases in_0 x1 3 (by omega) with ⟨e1, q, hq, rfl⟩ | e1
  · have e1' : f_S_in (nI q) 0 3 = 1 := e1
    rw [e1', if_neg ne10, if_neg ne10]
    have hE' : HE w (si s 47 0) := hE
    have hS' : SV P Q v (si s 47 0) := h.1
    have hP := h.1.1.1
    rcases W_on th hS' hE' (show q < 4 by omega) with ⟨-, e3, e4⟩ | ⟨-, -, e3, e4, -⟩ | ⟨-, p, k, a, hp, hk, ha, ep, ea, e4, e3⟩
    · rw [bd2_eq _ e3, if_pos rfl, bd1_eq _ e4, bad (-1) (by decide)]
      exact ⟨0, th, _, _, 0, rfl, rfl, t0, o0⟩
    · rw [bd2_eq _ e3, if_pos rfl, bd1_eq _ e4, bad 9 (by decide)]
      exact ⟨0, th, _, _, 0, rfl, rfl, t0, o0⟩
    · rw [bd2_eq _ e3, if_neg (show ¬ (some k : Option Nat) = none from fun t => by cases t), bd1_eq _ e4]
      rcases in_cases x2 0 3 with ⟨e2, -⟩ | ⟨e2, -⟩
      · have ar : AR k (nI p) (nI a) s (f_K_clear tr) (si (si (si (si (si s 47 0) 43 (nI k)) 44 (nI p)) 45 (nI a)) 48 0) := ⟨⟨0, t0⟩, rfl, rfl, rfl, rfl, fun i i1 i2 i3 i4 i5 => by rw [gi_si, if_neg i5, gi_si, if_neg i3, gi_si, if_neg i2, gi_si, if_neg i1, gi_si, if_neg i4], fun _ _ => rfl, rfl⟩
        have hn : gi (si (si th k (nI p)) (10 + k) (nI a)) k = nI p := by rw [gi_si, if_neg (by omega), gi_si, if_pos rfl]
        have hA : gi (si (si th k (nI p)) (10 + k) (nI a)) (10 + k) = nI a := by rw [gi_si, if_pos rfl]
        rw [M_act_thing (s := s) (by omega) (by omega) hk e2 ep ea]
        rcases (show k = 0 ∨ k = 1 ∨ k = 2 ∨ k = 3 ∨ k = 4 ∨ k = 5 by omega) with rfl | rfl | rfl | rfl | rfl | rfl
        · rw [if_pos (show (some 0 : Option Nat) = some 0 from rfl)]
          obtain ⟨r, tr', s', N', f1, f2, f3, f4⟩ := act_fin (si (si th 0 (nI p)) (10 + 0) (nI a)) (ans_0 hn hA ar x2 x3) (fun r s' e => act_end _ x2 x3 e)
          exact ⟨r, _, tr', s', N', (act_sw e2 _ _ _ _ _).trans f1, f2, f3, f4⟩
        · rw [if_neg (show ¬ (some 1 : Option Nat) = some 0 from by decide), if_pos (show (some 1 : Option Nat) = some 1 from rfl)]
          obtain ⟨r, tr', s', N', f1, f2, f3, f4⟩ := act_fin (si (si th 1 (nI p)) (10 + 1) (nI a)) (ans_1 hn hA ar x2 x3) (fun r s' e => act_end _ x2 x3 e)
          exact ⟨r, _, tr', s', N', (act_sw e2 _ _ _ _ _).trans f1, f2, f3, f4⟩
        · rw [if_neg (show ¬ (some 2 : Option Nat) = some 0 from by decide), if_neg (show ¬ (some 2 : Option Nat) = some 1 from by decide), if_pos (show (some 2 : Option Nat) = some 2 from rfl)]
          obtain ⟨r, tr', s', N', f1, f2, f3, f4⟩ := act_fin (si (si th 2 (nI p)) (10 + 2) (nI a)) (ans_2 hn hA ar x2 x3) (fun r s' e => act_end _ x2 x3 e)
          exact ⟨r, _, tr', s', N', (act_sw e2 _ _ _ _ _).trans f1, f2, f3, f4⟩
        · rw [if_neg (show ¬ (some 3 : Option Nat) = some 0 from by decide), if_neg (show ¬ (some 3 : Option Nat) = some 1 from by decide), if_neg (show ¬ (some 3 : Option Nat) = some 2 from by decide), if_pos (show (some 3 : Option Nat) = some 3 from rfl)]
          obtain ⟨r, tr', s', N', f1, f2, f3, f4⟩ := act_fin (si (si th 3 (nI p)) (10 + 3) (nI a)) (ans_3 hn hA ar x2 x3) (fun r s' e => act_end _ x2 x3 e)
          exact ⟨r, _, tr', s', N', (act_sw e2 _ _ _ _ _).trans f1, f2, f3, f4⟩
        · rw [if_neg (show ¬ (some 4 : Option Nat) = some 0 from by decide), if_neg (show ¬ (some 4 : Option Nat) = some 1 from by decide), if_neg (show ¬ (some 4 : Option Nat) = some 2 from by decide), if_neg (show ¬ (some 4 : Option Nat) = some 3 from by decide), if_pos (show (some 4 : Option Nat) = some 4 from rfl)]
          obtain ⟨r, tr', s', N', f1, f2, f3, f4⟩ := act_fin (si (si th 4 (nI p)) (10 + 4) (nI a)) (ans_4 hn hA ar x2 x3) (fun r s' e => act_end _ x2 x3 e)
          exact ⟨r, _, tr', s', N', (act_sw e2 _ _ _ _ _).trans f1, f2, f3, f4⟩
        · rw [if_neg (show ¬ (some 5 : Option Nat) = some 0 from by decide), if_neg (show ¬ (some 5 : Option Nat) = some 1 from by decide), if_neg (show ¬ (some 5 : Option Nat) = some 2 from by decide), if_neg (show ¬ (some 5 : Option Nat) = some 3 from by decide), if_neg (show ¬ (some 5 : Option Nat) = some 4 from by decide), if_pos (show (some 5 : Option Nat) = some 5 from rfl)]
          obtain ⟨r, tr', s', N', f1, f2, f3, f4⟩ := act_fin (si (si th 5 (nI p)) (10 + 5) (nI a)) (ans_5 hn hA ar x2 x3) (fun r s' e => act_end _ x2 x3 e)
          exact ⟨r, _, tr', s', N', (act_sw e2 _ _ _ _ _).trans f1, f2, f3, f4⟩
      · have g : ∀ z : Int32, f_M_act_L21 (si s 47 0) (nI q) x2 x3 z = some (0, si s 47 0) := fun z => by
          unfold f_M_act_L21
          rw [e2, if_pos rfl]
        rw [g]
        rcases (show k = 0 ∨ k = 1 ∨ k = 2 ∨ k = 3 ∨ k = 4 ∨ k = 5 by omega) with rfl | rfl | rfl | rfl | rfl | rfl
        · rw [if_pos (show (some 0 : Option Nat) = some 0 from rfl)]
          exact ⟨0, _, _, _, 0, act_sw0 e2 _ _ _ _ _, rfl, t0, o0⟩
        · rw [if_neg (show ¬ (some 1 : Option Nat) = some 0 from by decide), if_pos (show (some 1 : Option Nat) = some 1 from rfl)]
          exact ⟨0, _, _, _, 0, act_sw0 e2 _ _ _ _ _, rfl, t0, o0⟩
        · rw [if_neg (show ¬ (some 2 : Option Nat) = some 0 from by decide), if_neg (show ¬ (some 2 : Option Nat) = some 1 from by decide), if_pos (show (some 2 : Option Nat) = some 2 from rfl)]
          exact ⟨0, _, _, _, 0, act_sw0 e2 _ _ _ _ _, rfl, t0, o0⟩
        · rw [if_neg (show ¬ (some 3 : Option Nat) = some 0 from by decide), if_neg (show ¬ (some 3 : Option Nat) = some 1 from by decide), if_neg (show ¬ (some 3 : Option Nat) = some 2 from by decide), if_pos (show (some 3 : Option Nat) = some 3 from rfl)]
          exact ⟨0, _, _, _, 0, act_sw0 e2 _ _ _ _ _, rfl, t0, o0⟩
        · rw [if_neg (show ¬ (some 4 : Option Nat) = some 0 from by decide), if_neg (show ¬ (some 4 : Option Nat) = some 1 from by decide), if_neg (show ¬ (some 4 : Option Nat) = some 2 from by decide), if_neg (show ¬ (some 4 : Option Nat) = some 3 from by decide), if_pos (show (some 4 : Option Nat) = some 4 from rfl)]
          exact ⟨0, _, _, _, 0, act_sw0 e2 _ _ _ _ _, rfl, t0, o0⟩
        · rw [if_neg (show ¬ (some 5 : Option Nat) = some 0 from by decide), if_neg (show ¬ (some 5 : Option Nat) = some 1 from by decide), if_neg (show ¬ (some 5 : Option Nat) = some 2 from by decide), if_neg (show ¬ (some 5 : Option Nat) = some 3 from by decide), if_neg (show ¬ (some 5 : Option Nat) = some 4 from by decide), if_pos (show (some 5 : Option Nat) = some 5 from rfl)]
          exact ⟨0, _, _, _, 0, act_sw0 e2 _ _ _ _ _, rfl, t0, o0⟩
  · have e1' : f_S_in x1 0 3 = 0 := e1
    rw [e1', if_pos rfl, if_pos rfl, bad (-1) (by decide)]
    exact ⟨0, th, _, _, 0, rfl, rfl, t0, o0⟩
theorem t_trace {N : Nat} {tr s : g_St} (h : TR N tr s) (x1 : Int32) : ∃ r, f_O_trace tr x1 = some r ∧ f_M_trace s x1 = some r := by
  obtain ⟨hN, t1, s47, ht⟩ := h
  unfold f_O_trace f_M_trace
  rw [within_in, t1, s47]
  rcases in_P x1 N (by omega) with ⟨e1, i, hi, rfl⟩ | ⟨e1, -⟩
  · rw [e1, if_neg ne10, if_neg ne10, gd_of (vpn (n := i) (N := 30) (by omega) (by omega)), gd_of (vpn (n := i) (N := 30) (by omega) (by omega)), nIc (show i ≤ 4096 by omega), ht i hi]
    exact ⟨_, rfl, rfl⟩
  · rw [e1, if_pos rfl, if_pos rfl]; exact ⟨_, rfl, rfl⟩
