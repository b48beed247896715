/-! barOf. -/
/-- what a village shows of a year: its number, its noes -/
def YV (P y : Nat) (d : Nat → Nat) (v : g_St) : Prop := gr v 9 3 = nI y ∧ ∀ p, p < P → gr v 4 p = nI (d p) ∧ d p ≤ 9
theorem W_sums {fu P Q y n : Nat} {d : Nat → Nat} {v s aa : g_St} {wm : Int32} (hfu : 5000 ≤ fu) (hS : SV P Q v s) (hY : YV P y d v) (hR : RW P 0 y d s) (h29 : gi s 29 = -1) (hw : WM P wm) (ha : gi aa 2 = wm) (hT : ∀ k, k ≤ 3 → gt aa 1 k = pwr (tw (sm (wgS s) Q)) k) (hn : n ≤ 3) (hy : y + n ≤ 2000) : ∃ X s', f_A_sum fu aa v (nI n) = some X ∧ ((sm (wgS s) Q = 0 ∧ X = 0 ∧ s' = s) ∨ (¬ sm (wgS s) Q = 0 ∧ f_M_valueOf fu s wm (nI n) = some (X, s'))) ∧ OW 7 s s' := by
  have hQ := hS.1.2.1
  have hle := sm_le (w := wgS s) Q (fun p hp => (wg_at hS hp).2.2)
  have e1 := A_sum_n (P := P) (Q := Q) (T := tw (sm (wgS s) Q)) hfu hS h29 hw ha hT n 6 y d hn (by omega) (fun p hp => (hY.2 p hp).2) hR.2.2.2.1 hy
  have e1' : f_A_sum fu aa v (nI n) = some (vsy fu P Q v s wm (tw (sm (wgS s) Q)) n y d) := by
    unfold f_A_sum
    rw [bd1_eq _ (V_packed hfu hS.1.2.2.1 hS.1.1 hY.2), cl3, hY.1, bd1_eq _ e1]
  by_cases z : sm (wgS s) Q = 0
  · rw [vsy_0 (sm_0 Q z)] at e1'
    exact ⟨0, s, e1', Or.inl ⟨z, rfl, rfl⟩, OW.rf⟩
  · have hQ0 : 0 < Q := by
      rcases Nat.eq_zero_or_pos Q with a | a
      · exact absurd (by rw [a]; rfl) z
      · exact a
    obtain ⟨s1, f1, f2⟩ := M_value_n (n := n) hfu hS hR h29 hQ0 hw hn hy
    have tt : tw (sm (wgS s) Q) = sL (wL s) Q := by
      rw [wL_sum hS]
      unfold tw
      by_cases o : sm (wgS s) Q = 1
      · rw [o]; rfl
      · rw [if_pos (show (1 : Int32) < nI (sm (wgS s) Q) from nI_lt (a := 1) (by omega) (by omega))]
    rw [← tt] at f1
    exact ⟨_, s1, e1', Or.inr ⟨z, f1⟩, f2⟩
theorem SV.kd {P Q : Nat} {v s : g_St} (h : SV P Q v s) {p k : Nat} (hp : p < P) (hk : k ≤ 5) : SV P Q (sr v 1 (nI p) (nI k)) (sr s 1 (nI p) (nI k)) := by
  obtain ⟨a0, b, c, dd⟩ := h
  have hP : P ≤ 6 := a0.1
  refine ⟨a0, fun p' hp' => ?_, fun q' hq' => ?_, dd⟩
  · obtain ⟨b1, b2, b3, b4, b5⟩ := b p' hp'
    show upd (gr v 1) (nI p).toNatClampNeg (nI k) p' = upd (gr s 1) (nI p).toNatClampNeg (nI k) p' ∧ gr v 2 p' = gr s 2 p' ∧ gr v 3 p' = gr s 3 p' ∧ (∃ k', k' ≤ 5 ∧ upd (gr s 1) (nI p).toNatClampNeg (nI k) p' = nI k') ∧ (∃ a', a' ≤ 255 ∧ gr s 2 p' = nI a')
    rw [nIc (by omega)]
    simp only [upd_at]
    by_cases e : p' = p
    · simp only [if_pos e]; exact ⟨trivial, b2, b3, ⟨k, hk, rfl⟩, b5⟩
    · simp only [if_neg e]; exact ⟨b1, b2, b3, b4, b5⟩
  · obtain ⟨c1, c2, c3⟩ := c q' hq'
    refine ⟨c1, c2, fun p hp => ?_⟩
    rw [gr_sr, if_neg (by omega)]
    exact c3 p hp
theorem SV.aa {P Q : Nat} {v s : g_St} (h : SV P Q v s) {p a : Nat} (hp : p < P) (ha : a ≤ 255) : SV P Q (sr v 2 (nI p) (nI a)) (sr s 2 (nI p) (nI a)) := by
  obtain ⟨a0, b, c, dd⟩ := h
  have hP : P ≤ 6 := a0.1
  refine ⟨a0, fun p' hp' => ?_, fun q' hq' => ?_, dd⟩
  · obtain ⟨b1, b2, b3, b4, b5⟩ := b p' hp'
    show gr v 1 p' = gr s 1 p' ∧ upd (gr v 2) (nI p).toNatClampNeg (nI a) p' = upd (gr s 2) (nI p).toNatClampNeg (nI a) p' ∧ gr v 3 p' = gr s 3 p' ∧ (∃ k', k' ≤ 5 ∧ gr s 1 p' = nI k') ∧ (∃ a', a' ≤ 255 ∧ upd (gr s 2) (nI p).toNatClampNeg (nI a) p' = nI a')
    rw [nIc (by omega)]
    simp only [upd_at]
    by_cases e : p' = p
    · simp only [if_pos e]; exact ⟨b1, trivial, b3, b4, ⟨a, ha, rfl⟩⟩
    · simp only [if_neg e]; exact ⟨b1, b2, b3, b4, b5⟩
  · obtain ⟨c1, c2, c3⟩ := c q' hq'
    refine ⟨c1, c2, fun p hp => ?_⟩
    rw [gr_sr, if_neg (by omega)]
    exact c3 p hp
/-- all but somebody's mind -/
def OB (p : Nat) (s t : g_St) : Prop := (∀ i, i ≠ 30 → i ≠ 31 → gi t i = gi s i) ∧ (∀ i, i ≠ 11 → i ≠ 1 → i ≠ 2 → gr t i = gr s i) ∧ gt t = gt s ∧ (∀ i, i < 7 → gr t 11 i = gr s 11 i) ∧ ∀ x, x ≠ p → gr t 1 x = gr s 1 x ∧ gr t 2 x = gr s 2 x
theorem OB.ow {p : Nat} {s t u : g_St} (a : OB p s t) (b : OW 7 t u) : OB p s u := ⟨fun i h1 h2 => (b.1 i h1 h2).trans (a.1 i h1 h2), fun i h1 h2 h3 => (b.2.1 i h1).trans (a.2.1 i h1 h2 h3), b.2.2.1.trans a.2.2.1, fun i hi => (b.2.2.2 i hi).trans (a.2.2.2.1 i hi), fun x hx => by
  rw [b.2.1 1 (by omega), b.2.1 2 (by omega)]; exact a.2.2.2.2 x hx⟩
theorem OB.set {p k : Nat} {x : Int32} {s t : g_St} (a : OB p s t) (hk : k = 1 ∨ k = 2) (hp : p ≤ 4096) : OB p s (sr t k (nI p) x) := by
  have c : (nI p).toNatClampNeg = p := nIc hp
  refine ⟨a.1, fun i h1 h2 h3 => ?_, a.2.2.1, fun i hi => ?_, fun y hy => ⟨?_, ?_⟩⟩
  · rw [gr_sr, if_neg (by omega)]; exact a.2.1 i h1 h2 h3
  · rw [gr_sr, if_neg (by omega)]; exact a.2.2.2.1 i hi
  · rw [gr_sr]
    split
    · rename_i e
      rw [c, upd_at, if_neg hy, ← e]; exact (a.2.2.2.2 y hy).1
    · exact (a.2.2.2.2 y hy).1
  · rw [gr_sr]
    split
    · rename_i e
      rw [c, upd_at, if_neg hy, ← e]; exact (a.2.2.2.2 y hy).2
    · exact (a.2.2.2.2 y hy).2
theorem OB.ag {p : Nat} {s t : g_St} (a : OB p s t) (h1 : gr t 1 p = gr s 1 p) (h2 : gr t 2 p = gr s 2 p) : AG s t := ⟨⟨a.1 0 (by omega) (by omega), a.1 5 (by omega) (by omega), a.1 12 (by omega) (by omega), a.1 13 (by omega) (by omega), a.1 14 (by omega) (by omega)⟩, fun x _ => by
  refine ⟨?_, ?_, congrFun (a.2.1 3 (by omega) (by omega) (by omega)) x, congrFun (a.2.1 4 (by omega) (by omega) (by omega)) x⟩
  · by_cases z : x = p
    · rw [z]; exact h1
    · exact (a.2.2.2.2 x z).1
  · by_cases z : x = p
    · rw [z]; exact h2
    · exact (a.2.2.2.2 x z).2, fun p _ => congrFun (a.2.1 6 (by omega) (by omega) (by omega)) p, fun p _ => congrFun (a.2.1 7 (by omega) (by omega) (by omega)) p, fun p _ => congrFun (a.2.1 8 (by omega) (by omega) (by omega)) p, fun p hp => a.2.2.2.1 p hp⟩
theorem OB.ov {p : Nat} {s t : g_St} (a : OB p s t) : OV s t := ⟨⟨a.1 16 (by omega) (by omega), a.1 29 (by omega) (by omega), a.1 36 (by omega) (by omega), a.1 47 (by omega) (by omega), a.1 49 (by omega) (by omega)⟩, ⟨a.2.1 9 (by omega) (by omega) (by omega), a.2.1 10 (by omega) (by omega) (by omega), a.2.1 15 (by omega) (by omega) (by omega), a.2.1 34 (by omega) (by omega) (by omega), a.2.1 37 (by omega) (by omega) (by omega), a.2.1 38 (by omega) (by omega) (by omega)⟩, a.2.1 40 (by omega) (by omega) (by omega), a.2.1 41 (by omega) (by omega) (by omega), a.2.1 42 (by omega) (by omega) (by omega), a.2.1 46 (by omega) (by omega) (by omega), a.2.1 50 (by omega) (by omega) (by omega), congrFun a.2.2.1 39⟩
theorem M_bar_step {fu p n : Nat} {K : g_St → Int32 → Int32 → Int32 → Int32 → Int32 → Int64 → Int32 → Option (Int32 × g_St)} {s : g_St} {wk wa best : Int32} {most X : Int64} {j : Nat} (hj : j ≤ 4096) : f_M_barOf_L82 fu K s (nI p) (nI n) wk wa best most (nI j) X = (if j = 0 then K s (nI p) (nI n) wk wa (nI j) X (nI (j + 1)) else if lg_cmp X most ≤ 0 then K s (nI p) (nI n) wk wa best most (nI (j + 1)) else K s (nI p) (nI n) wk wa (nI j) X (nI (j + 1))) := by
  unfold f_M_barOf_L82
  simp only [lt_lt]
  rw [nI_1]
  by_cases z : j = 0
  · rw [if_pos z, if_pos (show nI j = 0 by rw [z]; rfl)]
  · rw [if_neg z, if_neg (nI_ne0 (by omega) (by omega))]
theorem W_bar_L {fu P Q y n p all : Nat} {d : Nat → Nat} {aa s0 : g_St} {wk wa : Int32} (hfu : 5000 ≤ fu) (hp : p < P) (ha : gi aa 2 = nI p) (hT : ∀ k, k ≤ 3 → gt aa 1 k = pwr (tw all) k) (hn : n ≤ 3) (hy : y + n ≤ 2000) : ∀ (k m j : Nat) (v s : g_St) (best : Int32) (most : Int64), k + j = 10 → k < m → SV P Q v s → YV P y d v → RW P 0 y d s → gi s 29 = -1 → sm (wgS s) Q = all → OB p s0 s → ∃ r v' s', f_A_bestBar_L18 fu m aa v (nI p) (nI n) best most (nI j) = some (r, v') ∧ f_M_barOf_L50 fu m s (nI p) (nI n) wk wa best most (nI j) = some (r, s') ∧ OB p s0 s' ∧ gr s' 1 p = wk ∧ gr s' 2 p = wa := by
  intro k
  induction k with
  | zero =>
    intro m j v s best most hk hm hS hY hR h29 hall hO
    obtain ⟨m, rfl⟩ : ∃ x, m = x + 1 := ⟨m - 1, by omega⟩
    have hP := hS.1.1
    have c : (nI p).toNatClampNeg = p := nIc (by omega)
    refine ⟨best, v, sr (sr s 1 (nI p) wk) 2 (nI p) wa, ?_, ?_, (hO.set (Or.inl rfl) (by omega)).set (Or.inr rfl) (by omega), ?_, ?_⟩
    · rw [f_A_bestBar_L18, if_pos (show (9 : Int32) < nI j from nI_lt (a := 9) (by omega) (by omega))]
    · rw [f_M_barOf_L50, if_pos (show (10 : Int32) ≤ nI j from nI_le (a := 10) (by omega) (by omega)), gd_of (vpn (n := p) (N := 6) (by omega) (by omega)), lt_lt, gd_of (vpn (n := p) (N := 6) (by omega) (by omega)), lt_lt]
    · show upd (gr s 1) (nI p).toNatClampNeg wk p = wk
      rw [c, upd_at, if_pos rfl]
    · show upd (gr s 2) (nI p).toNatClampNeg wa p = wa
      rw [c, upd_at, if_pos rfl]
  | succ k ih =>
    intro m j v s best most hk hm hS hY hR h29 hall hO
    obtain ⟨m, rfl⟩ : ∃ x, m = x + 1 := ⟨m - 1, by omega⟩
    have hP := hS.1.1
    have hQ := hS.1.2.1
    have hS1 := hS.aa hp (show j ≤ 255 by omega)
    have hle := sm_le (w := wgS s) Q (fun p hp => (wg_at hS hp).2.2)
    have hall1 : sm (wgS (sr s 2 (nI p) (nI j))) Q = all := hall
    obtain ⟨X, s', e1, e2, e3⟩ := W_sums (n := n) hfu hS1 (show YV P y d (sr v 2 (nI p) (nI j)) from hY) (show RW P 0 y d (sr s 2 (nI p) (nI j)) from hR) h29 (Or.inl ⟨p, hp, rfl⟩) ha (by rw [hall1]; exact hT) hn hy
    have ih' := fun b mo => ih m (j + 1) (sr v 2 (nI p) (nI j)) s' b mo (by omega) (by omega) (e3.sv hS1) hY (e3.rw (show RW P 0 y d (sr s 2 (nI p) (nI j)) from hR) hP (by omega)) ((e3.1 29 (by omega) (by omega)).trans h29) (by rw [wgS_cong (e3.2.1 6 (by omega))]; exact hall1) ((hO.set (Or.inr rfl) (by omega)).ow e3)
    obtain ⟨-, W2⟩ := W_weights hfu hS1
    -- the reference's step
    have hM : f_M_barOf_L50 fu (m + 1) s (nI p) (nI n) wk wa best most (nI j) = f_M_barOf_L82 fu (f_M_barOf_L50 fu m) s' (nI p) (nI n) wk wa best most (nI j) X := by
      rw [f_M_barOf_L50, if_neg (show ¬ (10 : Int32) ≤ nI j from nI_ge (b := 10) (by omega) (by omega)), gd_of (vpn (n := p) (N := 6) (by omega) (by omega)), lt_lt, bd1_eq _ W2]
      rcases e2 with ⟨z, hX, hs⟩ | ⟨z, f⟩
      · rw [z, if_pos (show nI 0 = 0 from rfl), hX, hs]
      · rw [if_neg (nI_ne0 (by omega) (by rw [hall1]; omega)), bd2_eq _ f]
    rw [hM, M_bar_step (by omega), f_A_bestBar_L18, if_neg (show ¬ (9 : Int32) < nI j from nI_nlt (a := 9) (by omega) (by omega)), gd_of (vpn (n := p) (N := 6) (by omega) (by omega)), lt_lt, bd1_eq _ e1]
    simp only [lt_lt]
    rw [nI_1]
    by_cases z : j = 0
    · rw [if_pos (show nI j = 0 by rw [z]; rfl), if_pos z]
      exact ih' _ _
    · rw [if_neg (nI_ne0 (by omega) (by omega)), if_neg z]
      by_cases w : lg_cmp X most ≤ 0
      · rw [if_pos w, if_pos w]; exact ih' _ _
      · rw [if_neg w, if_neg w]; exact ih' _ _
theorem t_barOf {fu P Q : Nat} (hfu : 5000 ≤ fu) {v s : g_St} (h : RV P Q v s) (c : RC s) (ah aw : g_St) (x1 x2 : Int32) : ∃ r ah' aw' s', f_O_barOf fu v ah aw x1 x2 = some (r, ah', aw') ∧ f_M_barOf fu s x1 x2 = some (r, s') ∧ RV P Q v s' ∧ OV s s' := by
  obtain ⟨⟨hP, hQ, v0, s0, v6, s5⟩, -⟩ := h.1
  have h29 := c.2.2.2.2.2.2
  unfold f_O_barOf f_M_barOf
  rw [within_in]
  rcases person_or v0 s0 (by omega) x1 with ⟨p, hpP, rfl, e1, e2⟩ | ⟨e1, e2⟩
  · rw [e1, e2, if_neg ne10, if_neg ne10]
    rcases in_ab x2 1 2 (by omega) (by omega) with ⟨e3, n, hn1, hn2, rfl⟩ | e3
    · have e3' : f_S_in (nI n) 1 2 = 1 := e3
      rw [e3', if_neg ne10, if_neg ne10]
      obtain ⟨ah', aw', l1, l2, l3, l4⟩ := W_look hfu h.1 ah aw (nI p)
      have hA := h.copy l4
      obtain ⟨y, y1, hR, y2, hd⟩ := hA.row
      have hS2 := hA.1.kd hpP (show 2 ≤ 5 by omega)
      obtain ⟨r, v', s', f1, f2, f3, f4, f5⟩ := W_bar_L (fu := fu) (P := P) (Q := Q) (s0 := s) (wk := gr s 1 p) (wa := gr s 2 p) (aa := ah') (d := dgS s 0) (y := y) hfu hpP l2 l3 (show n ≤ 3 by omega) (by omega) 10 fu 0 (sr aw' 1 (nI p) 2) (sr s 1 (nI p) 2) 0 0 (by omega) (by omega) hS2 ⟨y2, hd⟩ hR h29 rfl ((show OB p s s from ⟨fun _ _ _ => rfl, fun _ _ _ _ => rfl, rfl, fun _ _ => rfl, fun _ _ => ⟨rfl, rfl⟩⟩).set (Or.inl rfl) (by omega))
      have f1' : f_A_bestBar fu ah' aw' (nI p) (nI n) = some (r, v') := by
        unfold f_A_bestBar
        rw [gd_of (vpn (n := p) (N := 6) (by omega) (by omega)), lt_lt]
        exact f1
      rw [bd2_eq _ l1, bd2_eq _ f1']
      simp only [gd_of (vpn (show p < 6 by omega) (show 6 ≤ 4096 by omega)), lt_lt, nIc (show p ≤ 4096 by omega)]
      exact ⟨r, ah', v', s', rfl, f2, h.ag (f3.ag f4 f5), f3.ov⟩
    · have e3' : f_S_in x2 1 2 = 0 := e3
      rw [e3', if_pos rfl, if_pos rfl]; exact ⟨_, ah, aw, s, rfl, rfl, h, OV.rf⟩
  · rw [e1, e2, if_pos rfl, if_pos rfl]; exact ⟨_, ah, aw, s, rfl, rfl, h, OV.rf⟩
