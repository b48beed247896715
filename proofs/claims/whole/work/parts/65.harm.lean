/-! harm. -/
theorem SV.lw {P Q : Nat} {v s : g_St} (h : SV P Q v s) {t n : Nat} (ht : t ≤ 1) (hn1 : 1 ≤ n) (hn : n ≤ 3) : SV P Q (sr (sr v 9 1 (nI t)) 9 0 (nI n)) (sr (sr s 8 0 (nI n)) 8 1 (nI t)) := by
  obtain ⟨a0, b, c, l1, l2, l3, l4, l5, l6⟩ := h
  refine ⟨a0, b, fun q hq => ?_, ?_⟩
  · obtain ⟨c1, c2, c3⟩ := c q hq
    refine ⟨c1, c2, fun p hp => ?_⟩
    rw [gr_sr, if_neg (by omega), gr_sr, if_neg (by omega)]
    exact c3 p hp
  · show nI n = nI n ∧ nI t = nI t ∧ gr v 9 2 = gr s 8 2 ∧ (∃ m, 1 ≤ m ∧ m ≤ 3 ∧ nI n = nI m) ∧ (∃ m, m ≤ 1 ∧ nI t = nI m) ∧ (∃ m, m ≤ 20 ∧ gr s 8 2 = nI m)
    exact ⟨rfl, rfl, l3, ⟨n, hn1, hn, rfl⟩, ⟨t, ht, rfl⟩, l6⟩
/-- all but two laws -/
def OL (s t : g_St) : Prop := (∀ i, i ≠ 30 → i ≠ 31 → gi t i = gi s i) ∧ (∀ i, i ≠ 11 → i ≠ 8 → gr t i = gr s i) ∧ gt t = gt s ∧ (∀ i, i < 7 → gr t 11 i = gr s 11 i) ∧ ∀ x, x ≠ 0 → x ≠ 1 → gr t 8 x = gr s 8 x
theorem OL.ow {s t u : g_St} (a : OL s t) (b : OW 7 t u) : OL s u := ⟨fun i h1 h2 => (b.1 i h1 h2).trans (a.1 i h1 h2), fun i h1 h2 => (b.2.1 i h1).trans (a.2.1 i h1 h2), b.2.2.1.trans a.2.2.1, fun i hi => (b.2.2.2 i hi).trans (a.2.2.2.1 i hi), fun x h0 h1 => by
  rw [b.2.1 8 (by omega)]; exact a.2.2.2.2 x h0 h1⟩
theorem OL.set {x z : Int32} {s t : g_St} (a : OL s t) : OL s (sr (sr t 8 0 x) 8 1 z) := by
  refine ⟨a.1, fun i h1 h2 => ?_, a.2.2.1, fun i hi => a.2.2.2.1 i hi, fun y h0 h1 => ?_⟩
  · rw [gr_sr, if_neg h2, gr_sr, if_neg h2]; exact a.2.1 i h1 h2
  · show upd (upd (gr t 8) 0 x) 1 z y = gr s 8 y
    rw [upd_at, if_neg h1, upd_at, if_neg h0]
    exact a.2.2.2.2 y h0 h1
theorem OL.ag {s t : g_St} (a : OL s t) (h0 : gr t 8 0 = gr s 8 0) (h1 : gr t 8 1 = gr s 8 1) : AG s t := ⟨⟨a.1 0 (by omega) (by omega), a.1 5 (by omega) (by omega), a.1 12 (by omega) (by omega), a.1 13 (by omega) (by omega), a.1 14 (by omega) (by omega)⟩, fun x _ => ⟨congrFun (a.2.1 1 (by omega) (by omega)) x, congrFun (a.2.1 2 (by omega) (by omega)) x, congrFun (a.2.1 3 (by omega) (by omega)) x, congrFun (a.2.1 4 (by omega) (by omega)) x⟩, fun p _ => congrFun (a.2.1 6 (by omega) (by omega)) p, fun p _ => congrFun (a.2.1 7 (by omega) (by omega)) p, fun p _ => by
  by_cases z : p = 0
  · rw [z]; exact h0
  · by_cases w : p = 1
    · rw [w]; exact h1
    · exact a.2.2.2.2 p z w, fun p hp => a.2.2.2.1 p hp⟩
theorem OL.ov {s t : g_St} (a : OL s t) : OV s t := ⟨⟨a.1 16 (by omega) (by omega), a.1 29 (by omega) (by omega), a.1 36 (by omega) (by omega), a.1 47 (by omega) (by omega), a.1 49 (by omega) (by omega)⟩, ⟨a.2.1 9 (by omega) (by omega), a.2.1 10 (by omega) (by omega), a.2.1 15 (by omega) (by omega), a.2.1 34 (by omega) (by omega), a.2.1 37 (by omega) (by omega), a.2.1 38 (by omega) (by omega)⟩, a.2.1 40 (by omega) (by omega), a.2.1 41 (by omega) (by omega), a.2.1 42 (by omega) (by omega), a.2.1 46 (by omega) (by omega), a.2.1 50 (by omega) (by omega), congrFun a.2.2.1 39⟩
/-- one turn's three laws -/
theorem W_harm_L {fu P Q y n all t : Nat} {d : Nat → Nat} {aa s0 : g_St} {wn wt : Int32} {k7 : g_St → g_St → Int32 → Int32 → Int64 → Int32 → Option (Int32 × g_St)} {k34 : g_St → Int32 → Int32 → Int32 → Int32 → Int64 → Int32 → Option (Int32 × g_St)} (hfu : 5000 ≤ fu) (ht : t ≤ 1) (ha : gi aa 2 = -1) (hT : ∀ k, k ≤ 3 → gt aa 1 k = pwr (tw all) k) (hn : n ≤ 3) (hy : y + n ≤ 2000) : ∀ (k m m' j : Nat) (v s : g_St) (best : Int32) (most : Int64), k + j = 4 → k < m → k < m' → 1 ≤ j → SV P Q v s → YV P y d v → RW P 0 y d s → gi s 29 = -1 → sm (wgS s) Q = all → OL s0 s → ∃ b mo v' s', f_A_leastHarm_L16 fu k7 m aa v (nI n) best most (nI t) (nI j) = k7 aa v' (nI n) b mo (nI (t + 1)) ∧ f_M_harm_L43 fu k34 m' s (nI n) wn wt best most (nI t) (nI j) = k34 s' (nI n) wn wt b mo (nI (t + 1)) ∧ SV P Q v' s' ∧ YV P y d v' ∧ RW P 0 y d s' ∧ gi s' 29 = -1 ∧ sm (wgS s') Q = all ∧ OL s0 s' := by
  intro k
  induction k with
  | zero =>
    intro m m' j v s best most hk hm hm' hj hS hY hR h29 hall hO
    obtain ⟨m, rfl⟩ : ∃ x, m = x + 1 := ⟨m - 1, by omega⟩
    obtain ⟨m', rfl⟩ : ∃ x, m' = x + 1 := ⟨m' - 1, by omega⟩
    refine ⟨best, most, v, s, ?_, ?_, hS, hY, hR, h29, hall, hO⟩
    · rw [f_A_leastHarm_L16, if_pos (show (3 : Int32) < nI j from nI_lt (a := 3) (by omega) (by omega)), lt_lt, nI_1]
    · rw [f_M_harm_L43, if_pos (show (4 : Int32) ≤ nI j from nI_le (a := 4) (by omega) (by omega)), lt_lt, nI_1]
  | succ k ih =>
    intro m m' j v s best most hk hm hm' hj hS hY hR h29 hall hO
    obtain ⟨m, rfl⟩ : ∃ x, m = x + 1 := ⟨m - 1, by omega⟩
    obtain ⟨m', rfl⟩ : ∃ x, m' = x + 1 := ⟨m' - 1, by omega⟩
    have hP := hS.1.1
    have hQ := hS.1.2.1
    have hS1 := hS.lw ht hj (show j ≤ 3 by omega)
    have hle := sm_le (w := wgS s) Q (fun p hp => (wg_at hS hp).2.2)
    have hall1 : sm (wgS (sr (sr s 8 0 (nI j)) 8 1 (nI t))) Q = all := hall
    have hY1 : YV P y d (sr (sr v 9 1 (nI t)) 9 0 (nI j)) := hY
    have hR1 : RW P 0 y d (sr (sr s 8 0 (nI j)) 8 1 (nI t)) := hR
    obtain ⟨X, s', e1, e2, e3⟩ := W_sums (n := n) hfu hS1 hY1 hR1 h29 (Or.inr (Or.inl rfl)) ha (by rw [hall1]; exact hT) hn hy
    have ih' := fun b mo => ih m m' (j + 1) (sr (sr v 9 1 (nI t)) 9 0 (nI j)) s' b mo (by omega) (by omega) (by omega) (by omega) (e3.sv hS1) hY1 (e3.rw hR1 hP (by omega)) ((e3.1 29 (by omega) (by omega)).trans h29) (by rw [wgS_cong (e3.2.1 6 (by omega))]; exact hall1) (hO.set.ow e3)
    obtain ⟨-, W2⟩ := W_weights hfu hS1
    have hM : f_M_harm_L43 fu k34 (m' + 1) s (nI n) wn wt best most (nI t) (nI j) = f_M_harm_L82 fu k34 (f_M_harm_L43 fu k34 m') s' (nI n) wn wt best most (nI t) (nI j) X := by
      rw [f_M_harm_L43, if_neg (show ¬ (4 : Int32) ≤ nI j from nI_ge (b := 4) (by omega) (by omega)), lt_lt, lt_lt, bd1_eq _ W2]
      rcases e2 with ⟨z, hX, hs⟩ | ⟨z, f⟩
      · rw [z, if_pos (show nI 0 = 0 from rfl), hX, hs]
      · rw [if_neg (nI_ne0 (by omega) (by rw [hall1]; omega)), bd2_eq _ f]
    rw [hM, f_A_leastHarm_L16, if_neg (show ¬ (3 : Int32) < nI j from nI_nlt (a := 3) (by omega) (by omega)), lt_lt, lt_lt, bd1_eq _ e1]
    unfold f_A_leastHarm_L62 f_M_harm_L82 f_M_harm_L97
    simp only [lt_lt]
    rw [nI_1]
    by_cases z : best = 0
    · rw [if_pos z, if_pos z]; exact ih' _ _
    · rw [if_neg z, if_neg z]
      by_cases w : lg_cmp X most ≤ 0
      · rw [if_pos w, if_pos w]; exact ih' _ _
      · rw [if_neg w, if_neg w]; exact ih' _ _
theorem W_harm_O {fu P Q y n all : Nat} {d : Nat → Nat} {aa s0 : g_St} {wn wt : Int32} (hfu : 5000 ≤ fu) (ha : gi aa 2 = -1) (hT : ∀ k, k ≤ 3 → gt aa 1 k = pwr (tw all) k) (hn : n ≤ 3) (hy : y + n ≤ 2000) : ∀ (k m t : Nat) (v s : g_St) (best : Int32) (most : Int64), k + t = 2 → k < m → SV P Q v s → YV P y d v → RW P 0 y d s → gi s 29 = -1 → sm (wgS s) Q = all → OL s0 s → ∃ r v' s', f_A_leastHarm_L7 fu m aa v (nI n) best most (nI t) = some (r, v') ∧ f_M_harm_L34 fu m s (nI n) wn wt best most (nI t) = some (r, s') ∧ OL s0 s' ∧ gr s' 8 0 = wn ∧ gr s' 8 1 = wt := by
  intro k
  induction k with
  | zero =>
    intro m t v s best most hk hm hS hY hR h29 hall hO
    obtain ⟨m, rfl⟩ : ∃ x, m = x + 1 := ⟨m - 1, by omega⟩
    refine ⟨best, v, sr (sr s 8 0 wn) 8 1 wt, ?_, ?_, hO.set, rfl, rfl⟩
    · rw [f_A_leastHarm_L7, if_pos (show (1 : Int32) < nI t from nI_lt (a := 1) (by omega) (by omega))]
    · rw [f_M_harm_L34, if_pos (show (2 : Int32) ≤ nI t from nI_le (a := 2) (by omega) (by omega)), lt_lt, lt_lt]
  | succ k ih =>
    intro m t v s best most hk hm hS hY hR h29 hall hO
    obtain ⟨m, rfl⟩ : ∃ x, m = x + 1 := ⟨m - 1, by omega⟩
    obtain ⟨b, mo, v1, s1, e1, e2, e3, e4, e5, e6, e7, e8⟩ := W_harm_L (k7 := f_A_leastHarm_L7 fu m) (k34 := f_M_harm_L34 fu m) (wn := wn) (wt := wt) hfu (show t ≤ 1 by omega) ha hT hn hy 3 fu fu 1 v s best most (by omega) (by omega) (by omega) (by omega) hS hY hR h29 hall hO
    rw [f_A_leastHarm_L7, if_neg (show ¬ (1 : Int32) < nI t from nI_nlt (a := 1) (by omega) (by omega)), f_M_harm_L34, if_neg (show ¬ (2 : Int32) ≤ nI t from nI_ge (b := 2) (by omega) (by omega))]
    have e1' : f_A_leastHarm_L16 fu (f_A_leastHarm_L7 fu m) fu aa v (nI n) best most (nI t) 1 = _ := e1
    have e2' : f_M_harm_L43 fu (f_M_harm_L34 fu m) fu s (nI n) wn wt best most (nI t) 1 = _ := e2
    rw [e1', e2']
    exact ih m (t + 1) v1 s1 b mo (by omega) (by omega) e3 e4 e5 e6 e7 e8
theorem t_harm {fu P Q : Nat} (hfu : 5000 ≤ fu) {v s : g_St} (h : RV P Q v s) (c : RC s) (ah aw : g_St) (x1 : Int32) : ∃ r ah' aw' s', f_O_harm fu v ah aw x1 = some (r, ah', aw') ∧ f_M_harm fu s x1 = some (r, s') ∧ RV P Q v s' ∧ OV s s' := by
  have h29 := c.2.2.2.2.2.2
  unfold f_O_harm f_M_harm
  rw [within_in]
  rcases in_ab x1 1 2 (by omega) (by omega) with ⟨e3, n, hn1, hn2, rfl⟩ | e3
  · have e3' : f_S_in (nI n) 1 2 = 1 := e3
    rw [e3', if_neg ne10, if_neg ne10]
    obtain ⟨ah', aw', l1, l2, l3, l4⟩ := W_look hfu h.1 ah aw (-1)
    have hA := h.copy l4
    obtain ⟨y, y1, hR, y2, hd⟩ := hA.row
    obtain ⟨r, v', s', f1, f2, f3, f4, f5⟩ := W_harm_O (P := P) (Q := Q) (s0 := s) (wn := gr s 8 0) (wt := gr s 8 1) (d := dgS s 0) (y := y) hfu l2 l3 (show n ≤ 3 by omega) (by omega) 2 fu 0 aw' s 0 0 (by omega) (by omega) hA.1 ⟨y2, hd⟩ hR h29 rfl ⟨fun _ _ _ => rfl, fun _ _ _ => rfl, rfl, fun _ _ => rfl, fun _ _ _ => rfl⟩
    have f1' : f_A_leastHarm fu ah' aw' (nI n) = some (r, v') := f1
    rw [bd2_eq _ l1, bd2_eq _ f1', lt_lt, lt_lt, cl0, cl1]
    exact ⟨r, ah', v', s', rfl, f2, h.ag (f3.ag f4 f5), f3.ov⟩
  · have e3' : f_S_in x1 1 2 = 0 := e3
    rw [e3', if_pos rfl, if_pos rfl]; exact ⟨_, ah, aw, s, rfl, rfl, h, OV.rf⟩
