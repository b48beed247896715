/-! value and spoilt. -/
theorem wL_sum {P Q : Nat} {v s : g_St} (hS : SV P Q v s) : sL (wL s) Q = (nI (sm (wgS s) Q)).toInt64 := by
  have L : ∀ n, n ≤ Q → sL (wL s) n = lN (sm (wgS s) n) := by
    intro n
    induction n with
    | zero => intro _; rfl
    | succ n ih =>
      intro h
      show sL (wL s) n + wL s n = lN (sm (wgS s) n + wgS s n)
      have w := (wg_at hS (show n < Q by omega)).2.2
      rw [ih (by omega), ← lN_add]
      unfold wL
      rw [nI_l (by omega)]
  have hle := sm_le (w := wgS s) Q (fun p hp => (wg_at hS hp).2.2)
  have hQ := hS.1.2.1
  rw [L Q (Nat.le_refl Q), nI_l (by omega)]
theorem sm_0 {w : Nat → Nat} : ∀ n, sm w n = 0 → ∀ q, q < n → w q = 0 := by
  intro n
  induction n with
  | zero => intro _ q hq; omega
  | succ n ih =>
    intro h q hq
    have h' : sm w n + w n = 0 := h
    by_cases z : q = n
    · rw [z]; omega
    · exact ih (by omega) q (by omega)
theorem vsy_0 {fu P Q : Nat} {v s : g_St} {wm : Int32} {T : Int64} (h : ∀ q, q < Q → wgS s q = 0) : ∀ n y d, vsy fu P Q v s wm T n y d = 0 := by
  intro n y d
  rcases n with - | n
  · rfl
  · show sL (fun q => wL s q * (bsy fu P v s wm q y d * pwr T n + vsy fu P Q v s wm T n (y + 1) (nxt fu P v s q y d))) Q = 0
    have L : ∀ k, k ≤ Q → sL (fun q => wL s q * (bsy fu P v s wm q y d * pwr T n + vsy fu P Q v s wm T n (y + 1) (nxt fu P v s q y d))) k = 0 := by
      intro k
      induction k with
      | zero => intro _; rfl
      | succ k ih =>
        intro hk
        show sL _ k + wL s k * _ = 0
        rw [ih (by omega), show wL s k = 0 from by unfold wL; rw [h k (by omega)]; rfl, Int64.zero_mul]; rfl
    exact L Q (Nat.le_refl Q)
/-- all weights, but 1 at least -/
def tw (all : Nat) : Int64 := (if (1 : Int32) < nI all then nI all else (1 : Int32)).toInt64
theorem W_look_L {fu all : Nat} {v ua : g_St} (ha : f_V_allWeights fu v = some (nI all)) : ∀ (k n j : Nat) (a : g_St), k + j = 4 → k < n → 1 ≤ j → (∀ i, i < j → gt a 1 i = pwr (tw all) i) → ∃ a', f_AU_look_L22 fu n a v ua (nI j) = some (a', v) ∧ (∀ i, gi a' i = gi a i) ∧ ∀ i, i ≤ 3 → gt a' 1 i = pwr (tw all) i := by
  intro k
  induction k with
  | zero =>
    intro n j a hk hn hj h
    obtain ⟨m, rfl⟩ : ∃ m, n = m + 1 := ⟨n - 1, by omega⟩
    refine ⟨a, ?_, fun _ => rfl, fun i hi => h i (by omega)⟩
    rw [f_AU_look_L22, if_pos (show (3 : Int32) < nI j from nI_lt (a := 3) (by omega) (by omega))]
  | succ k ih =>
    intro n j a hk hn hj h
    obtain ⟨m, rfl⟩ : ∃ m, n = m + 1 := ⟨n - 1, by omega⟩
    have cj : (nI j).toNatClampNeg = j := nIc (by omega)
    obtain ⟨i, rfl⟩ : ∃ i, j = i + 1 := ⟨j - 1, by omega⟩
    obtain ⟨a', e1, e2, e3⟩ := ih m (i + 1 + 1) (st a 1 (nI (i + 1)) (pwr (tw all) (i + 1))) (by omega) (by omega) (by omega) (fun x hx => by
      rw [gt_st, if_pos rfl, cj]
      by_cases z : x = i + 1
      · rw [z]; exact pk_uLs
      · rw [pk_uLn z]; exact h x (by omega))
    refine ⟨a', ?_, fun x => e2 x, e3⟩
    rw [f_AU_look_L22, if_neg (show ¬ (3 : Int32) < nI (i + 1) from nI_nlt (a := 3) (by omega) (by omega)), show nI (i + 1) - 1 = nI i from nI_pred i, gd_of (vpn (n := i) (N := 4) (by omega) (by omega)), bd1_eq _ ha, lt_lt, gd_of (vpn (n := i + 1) (N := 4) (by omega) (by omega)), lt_lt, lt_lt, nIc (show i ≤ 4096 by omega), h i (by omega), nI_1]
    exact e1
theorem W_look {fu P Q : Nat} (hfu : 5000 ≤ fu) {v s : g_St} (hS : SV P Q v s) (ah aw : g_St) (wm : Int32) : ∃ ah' aw', f_AU_look fu ah aw v wm = some (ah', aw') ∧ gi ah' 2 = wm ∧ (∀ i, i ≤ 3 → gt ah' 1 i = pwr (tw (sm (wgS s) Q)) i) ∧ CV v aw' := by
  obtain ⟨aw', e1, c⟩ := V_copy hfu aw v
  obtain ⟨W1, -⟩ := W_weights hfu (hS.copy c)
  obtain ⟨ah', f1, f2, f3⟩ := W_look_L (fu := fu) (ua := v) W1 3 fu 1 (st (si ah 2 wm) 1 0 1) (by omega) (by omega) (by omega) (fun i hi => by
    rw [show i = 0 by omega]; rfl)
  refine ⟨ah', aw', ?_, f2 2, f3, c⟩
  unfold f_AU_look
  rw [bd1_eq _ e1]
  exact f1
theorem part01 {fu : Nat} (hfu : 5000 ≤ fu) (part : Int32) : f_S_partOf fu 0 1 part = some (if part = 0 then 0 else 1) := by
  have e : f_S_commonDivisor fu (if (0 : Int64) < 0 then 0 else -0) 1 = some 1 := by
    obtain ⟨n, rfl⟩ : ∃ k, fu = k + 1 + 1 := ⟨fu - 2, by omega⟩
    unfold f_S_commonDivisor
    rw [if_neg (show ¬ (0 : Int64) < 0 by decide), Int64.neg_zero, f_S_commonDivisor_L9, if_neg (show ¬ (100 : Int32) ≤ 0 by decide), if_neg (mt (lg_cmp_eq 1 0).mp (by decide)), gd_of (show ¬ (1 : Int64) = 0 by decide), lt_lt, lt_lt, show g_remL 0 1 = 0 by decide, f_S_commonDivisor_L9, if_neg (show ¬ (100 : Int32) ≤ 0 + 1 by decide), if_pos ((lg_cmp_eq 0 0).mpr rfl)]
  unfold f_S_partOf
  rw [bd1_eq _ e, if_neg (mt (lg_cmp_eq 1 0).mp (by decide))]
  by_cases z : part = 0
  · rw [if_pos z, if_pos z, gd_of (show ¬ (1 : Int64) = 0 by decide)]; rfl
  · rw [if_neg z, if_neg z, gd_of (show ¬ (1 : Int64) = 0 by decide)]; rfl
theorem pwr_1 : ∀ n, pwr 1 n = 1 := by
  intro n
  induction n with
  | zero => rfl
  | succ n ih =>
    show pwr 1 n * 1 = 1
    rw [ih]; rfl
/-- the same fraction for both: out of a sum that both found -/
theorem W_part {fu all : Nat} (hfu : 5000 ≤ fu) (s : g_St) (X : Int64) (n : Nat) (hn : n ≤ 3) (h0 : 0 < all) (h1 : all ≤ 72) (part : Int32) : ∃ r s', f_S_partOf fu X (pwr (tw all) n) part = some r ∧ (bd1 (f_S_power fu (nI all).toInt64 (nI n)) fun r8 => bd1 (f_M_lowest fu s X r8) fun s11 => if part = 0 then (some ((gj s11 32), s11)) else (some ((gj s11 33), s11))) = some (r, s') ∧ (∀ i, gi s' i = gi s i) ∧ gr s' = gr s ∧ gt s' = gt s := by
  have t : tw all = (nI all).toInt64 := by
    unfold tw
    by_cases z : all = 1
    · rw [z]; rfl
    · rw [if_pos (show (1 : Int32) < nI all from nI_lt (a := 1) (by omega) (by omega))]
  obtain ⟨p1, p2⟩ := pwr_ok ⟨all, by omega⟩ ⟨n, by omega⟩
  have p2' : ¬ pwr (nI all).toInt64 n = 0 := by
    rcases p2 with z | z
    · have : all = 0 := z
      omega
    · exact z
  obtain ⟨r, s', e1, e2, e3, e4⟩ := W_frac hfu s X (pwr (nI all).toInt64 n) part p1 p2'
  rw [t]
  refine ⟨r, s', e1, ?_, e4⟩
  rw [bd1_eq _ (S_power hfu hn), bd1_eq _ e2]
  exact e3
theorem OW.nums {B : Nat} {s t u : g_St} (a : OW B s t) (h : (∀ i, gi u i = gi t i) ∧ gr u = gr t ∧ gt u = gt t) : OW B s u := ⟨fun i h1 h2 => (h.1 i).trans (a.1 i h1 h2), fun i h1 => (congrFun h.2.1 i).trans (a.2.1 i h1), h.2.2.trans a.2.2.1, fun i hi => (congrFun (congrFun h.2.1 11) i).trans (a.2.2.2 i hi)⟩
theorem W_side {fu P Q n : Nat} (hfu : 5000 ≤ fu) {v s : g_St} (h : RV P Q v s) (c : RC s) (ah aw : g_St) {wm : Int32} (hw : WM P wm) (hn : n ≤ 3) (part : Int32) : ∃ r ah' aw' s', (bd2 (f_AU_look fu ah aw v wm) fun s4 s5 => bd1 (f_A_sum fu s4 s5 (nI n)) fun r8 => gd (vp_in (nI n) 4) (bd1 (f_S_partOf fu r8 (gt s4 1 (nI n).toNatClampNeg) part) fun r12 => some (r12, s4, s5))) = some (r, ah', aw') ∧ f_M_valueSide fu s wm (nI n) part = some (r, s') ∧ RV P Q v s' ∧ OV s s' := by
  have h29 := c.2.2.2.2.2.2
  have hS := h.1
  have hQ := hS.1.2.1
  have hle := sm_le (w := wgS s) Q (fun p hp => (wg_at hS hp).2.2)
  obtain ⟨-, W2⟩ := W_weights hfu hS
  obtain ⟨ah', aw', l1, l2, l3, l4⟩ := W_look hfu hS ah aw wm
  have hA := h.copy l4
  obtain ⟨y, y1, hR, y2, hd⟩ := hA.row
  have hy0 := hR.2.2.2.1
  have e1 := A_sum_n (P := P) (Q := Q) (T := tw (sm (wgS s) Q)) hfu hA.1 h29 hw l2 l3 n 6 y (dgS s 0) hn (by omega) (fun p hp => (hd p hp).2) hy0 (by omega)
  have e1' : f_A_sum fu ah' aw' (nI n) = some (vsy fu P Q aw' s wm (tw (sm (wgS s) Q)) n y (dgS s 0)) := by
    unfold f_A_sum
    rw [bd1_eq _ (V_packed hfu hA.1.1.2.2.1 hA.1.1.1 hd), cl3, y2, bd1_eq _ e1]
  rw [bd2_eq _ l1, bd1_eq _ e1', gd_of (vpn (n := n) (N := 4) (by omega) (by omega)), nIc (show n ≤ 4096 by omega), l3 n hn]
  unfold f_M_valueSide
  rw [bd1_eq _ W2]
  by_cases z : sm (wgS s) Q = 0
  · rw [vsy_0 (sm_0 Q z), z, if_pos (show nI 0 = 0 from rfl), show tw 0 = 1 from rfl, pwr_1, bd1_eq _ (part01 hfu part)]
    by_cases p : part = 0
    · rw [if_pos p, if_pos p]; exact ⟨0, ah', aw', s, rfl, rfl, h, OV.rf⟩
    · rw [if_neg p, if_neg p]; exact ⟨1, ah', aw', s, rfl, rfl, h, OV.rf⟩
  · have hQ0 : 0 < Q := by
      rcases Nat.eq_zero_or_pos Q with a | a
      · exact absurd (by rw [a]; rfl) z
      · exact a
    obtain ⟨s1, f1, f2⟩ := M_value_n (n := n) hfu hA.1 hR h29 hQ0 hw hn (by omega)
    have tt : tw (sm (wgS s) Q) = sL (wL s) Q := by
      rw [wL_sum hS]
      unfold tw
      by_cases o : sm (wgS s) Q = 1
      · rw [o]; rfl
      · rw [if_pos (show (1 : Int32) < nI (sm (wgS s) Q) from nI_lt (a := 1) (by omega) (by omega))]
    obtain ⟨r, s', g1, g2, g3⟩ := W_part hfu s1 (vsy fu P Q aw' s wm (tw (sm (wgS s) Q)) n y (dgS s 0)) n hn (show 0 < sm (wgS s) Q by omega) (by omega) part
    rw [← tt] at f1
    rw [if_neg (nI_ne0 (by omega) (by omega)), bd2_eq _ f1, bd1_eq _ g1]
    have o := f2.nums g3
    exact ⟨r, ah', aw', s', rfl, g2, h.ag (o.ag (by omega)), o.ov⟩
theorem side_of (x : Int32) : f_S_isSide x = f_S_in x 0 1 := rfl
theorem t_value {fu P Q : Nat} (hfu : 5000 ≤ fu) {v s : g_St} (h : RV P Q v s) (c : RC s) (ah aw : g_St) (x1 x2 x3 : Int32) : ∃ r ah' aw' s', f_O_value fu v ah aw x1 x2 x3 = some (r, ah', aw') ∧ f_M_value fu s x1 x2 x3 = some (r, s') ∧ RV P Q v s' ∧ OV s s' := by
  obtain ⟨⟨hP, hQ, v0, s0, v6, s5⟩, -⟩ := h.1
  unfold f_O_value f_M_value
  rw [within_in, within_in, side_of]
  rcases person_or v0 s0 (by omega) x1 with ⟨p, hpP, rfl, e1, e2⟩ | ⟨e1, e2⟩
  · rw [e1, e2, if_neg ne10, if_neg ne10]
    rcases in_0 x2 3 (by omega) with ⟨e3, n, hn, rfl⟩ | e3
    · have e3' : f_S_in (nI n) 0 3 = 1 := e3
      rw [e3', if_neg ne10, if_neg ne10]
      by_cases k : f_S_in x3 0 1 = 0
      · rw [if_pos k, if_pos k]; exact ⟨_, ah, aw, s, rfl, rfl, h, OV.rf⟩
      · rw [if_neg k, if_neg k]
        obtain ⟨r, ah', aw', s', f1, f2, f3⟩ := W_side hfu h c ah aw (Or.inl ⟨p, hpP, rfl⟩) hn x3
        rw [bd2_eq _ f2]
        exact ⟨r, ah', aw', s', f1, rfl, f3⟩
    · have e3' : f_S_in x2 0 3 = 0 := e3
      rw [e3', if_pos rfl, if_pos rfl]; exact ⟨_, ah, aw, s, rfl, rfl, h, OV.rf⟩
  · rw [e1, e2, if_pos rfl, if_pos rfl]; exact ⟨_, ah, aw, s, rfl, rfl, h, OV.rf⟩
theorem t_spoilt {fu P Q : Nat} (hfu : 5000 ≤ fu) {v s : g_St} (h : RV P Q v s) (c : RC s) (ah aw : g_St) (x1 x2 : Int32) : ∃ r ah' aw' s', f_O_spoilt fu v ah aw x1 x2 = some (r, ah', aw') ∧ f_M_spoilt fu s x1 x2 = some (r, s') ∧ RV P Q v s' ∧ OV s s' := by
  unfold f_O_spoilt f_M_spoilt
  rw [within_in, within_in, side_of]
  rcases in_0 x1 3 (by omega) with ⟨e3, n, hn, rfl⟩ | e3
  · have e3' : f_S_in (nI n) 0 3 = 1 := e3
    rw [e3', if_neg ne10, if_neg ne10]
    by_cases k : f_S_in x2 0 1 = 0
    · rw [if_pos k, if_pos k]; exact ⟨_, ah, aw, s, rfl, rfl, h, OV.rf⟩
    · rw [if_neg k, if_neg k]
      obtain ⟨r, ah', aw', s', f1, f2, f3⟩ := W_side hfu h c ah aw (Or.inr (Or.inr rfl)) hn x2
      rw [bd2_eq _ f2]
      exact ⟨r, ah', aw', s', f1, rfl, f3⟩
  · have e3' : f_S_in x1 0 3 = 0 := e3
    rw [e3', if_pos rfl, if_pos rfl]; exact ⟨_, ah, aw, s, rfl, rfl, h, OV.rf⟩
