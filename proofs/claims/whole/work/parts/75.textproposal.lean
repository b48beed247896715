/-! The text: a proposal. -/
/-- the village that is read, while a proposal comes to it -/
def FRW (F G w : Nat) (md s : g_St) : Prop := (F ≤ 6 ∧ G < 8 ∧ gi md 0 = nI F ∧ gi s 23 = nI F ∧ gi md 6 = nI (G + 1) ∧ gi s 24 = nI G) ∧ (∀ p, p < F → gr md 1 p = gr s 25 (4 * p) ∧ gr md 2 p = gr s 25 (4 * p + 1) ∧ gr md 3 p = gr s 25 (4 * p + 2) ∧ gr md 4 p = gr s 25 (4 * p + 3) ∧ gr md 5 p = 0 ∧ (∃ k, k ≤ 5 ∧ gr md 1 p = nI k) ∧ (∃ a, a ≤ 255 ∧ gr md 2 p = nI a) ∧ (∃ o, o ≤ 9 ∧ gr md 4 p = nI o)) ∧ (∀ q, q < G → gr md 7 q = gr s 26 q ∧ (∃ w, w ≤ 9 ∧ gr md 7 q = nI w)) ∧ (w ≤ 9 ∧ gr md 7 G = nI w) ∧ (∀ q, q ≤ G → ∀ p, p < 6 → gr md (20 + q) p = gr s 27 (6 * q + p) ∧ -9 ≤ (gr s 27 (6 * q + p)).toInt ∧ (gr s 27 (6 * q + p)).toInt ≤ 9 ∧ (F ≤ p → gr s 27 (6 * q + p) = 0)) ∧ ((gr md 9 0 = gr s 28 0 ∧ gr md 9 1 = gr s 28 1 ∧ gr md 9 2 = gr s 28 2 ∧ gr md 9 3 = 1) ∧ (∃ n, 1 ≤ n ∧ n ≤ 3 ∧ gr md 9 0 = nI n) ∧ (∃ n, n ≤ 1 ∧ gr md 9 1 = nI n) ∧ (∃ n, n ≤ 20 ∧ gr md 9 2 = nI n)) ∧ (gi md 11 = 0 ∧ gi md 12 = 0)
theorem FRW.oy {F G w : Nat} {md s t : g_St} (h : FRW F G w md s) (o : OY s t) : FRW F G w md t := by
  unfold FRW at h ⊢
  rw [o.1 23 (by omega) (by omega) (by omega) (by omega) (by omega), o.1 24 (by omega) (by omega) (by omega) (by omega) (by omega), o.2.1]
  exact h
theorem FRW.set {F G w j : Nat} {md s : g_St} (h : FRW F G w md s) (hj : j < F) {x : Int32} (x1 : -9 ≤ x.toInt) (x2 : x.toInt ≤ 9) : FRW F G w (sr md (20 + G) (nI j) x) (sr s 27 (nI (6 * G + j)) x) := by
  obtain ⟨h0, hp, hq, hw, hr, hl, hz⟩ := h
  have c1 : (nI j).toNatClampNeg = j := nIc (by omega)
  have c2 : (nI (6 * G + j)).toNatClampNeg = 6 * G + j := nIc (by omega)
  have k : ∀ i, i < 20 → gr (sr md (20 + G) (nI j) x) i = gr md i := fun i hi => by rw [gr_sr, if_neg (by omega)]
  refine ⟨h0, fun p hpF => ?_, fun q hqG => ?_, ?_, fun q hqG p hp6 => ?_, ?_, hz⟩
  · rw [k 1 (by omega), k 2 (by omega), k 3 (by omega), k 4 (by omega), k 5 (by omega)]; exact hp p hpF
  · rw [k 7 (by omega)]; exact hq q hqG
  · rw [k 7 (by omega)]; exact hw
  · have e : gr (sr s 27 (nI (6 * G + j)) x) 27 (6 * q + p) = if 6 * q + p = 6 * G + j then x else gr s 27 (6 * q + p) := by
      show upd (gr s 27) (nI (6 * G + j)).toNatClampNeg x (6 * q + p) = _
      rw [c2, upd_at]
    rw [e]
    by_cases z : q = G
    · subst z
      rw [gr_sr, if_pos rfl, c1, upd_at]
      by_cases y : p = j
      · rw [if_pos y, if_pos (by omega)]
        exact ⟨rfl, x1, x2, fun t => by omega⟩
      · rw [if_neg y, if_neg (by omega)]
        exact hr q hqG p hp6
    · rw [gr_sr, if_neg (by omega), if_neg (by omega)]
      exact hr q hqG p hp6
  · rw [k 9 (by omega)]; exact hl
def SW (N : Nat) (B : Nat → Nat) (a0 F G w : Nat) (s : g_St) (m : Option (Int32 × g_St × g_St)) (m' : Option g_St) : Prop := ∃ r rd' md' s', m = some (r, rd', md') ∧ m' = some s' ∧ OZ s s' ∧ ((r = 1 ∧ ∃ t a e, TK N B t a e rd' s' ∧ FRW F G w md' s' ∧ a0 < a ∧ gi s' 22 = 1) ∨ (r = 0 ∧ gi s' 22 = 0 ∧ gi rd' 5 = gi s' 18))
theorem SW.fail {N a0 F G w : Nat} {B : Nat → Nat} {s0 rd md s : g_St} (o : OZ s0 s) (h1 : gi s 22 = 0) (h2 : gi rd 5 = gi s 18) : SW N B a0 F G w s0 (some (0, rd, md)) (some s) := ⟨0, rd, md, s, rfl, rfl, o, Or.inr ⟨rfl, h1, h2⟩⟩
theorem mL7F {fu m : Nat} {s : g_St} (g : gi s 22 = 0) (x y : Int32) : f_M_wantWorths_L7 fu (m + 1) s x y = some s := by
  rw [f_M_wantWorths_L7, if_pos g]
theorem mL65F {fu m : Nat} {s : g_St} (g : gi s 22 = 0) (x y : Int32) : f_M_wantWorths_L65 fu (f_M_wantWorths_L7 fu (m + 1)) s x y = some (si s 22 0) := by
  unfold f_M_wantWorths_L65
  rw [bd2_eq _ (numF g _ _), if_pos (show gi (si s 22 0) 22 = 0 from rfl)]
  unfold f_M_wantWorths_L107
  rw [lt_lt, if_pos (show gi (si s 22 0) 22 = 0 from rfl)]
  exact mL7F (show gi (si s 22 0) 22 = 0 from rfl) _ _
theorem neg9 : ∀ v : Fin 10, -9 ≤ (-(nI v.val)).toInt ∧ (-(nI v.val)).toInt ≤ 9 ∧ -9 ≤ (nI v.val).toInt ∧ (nI v.val).toInt ≤ 9 := by decide +kernel
/-- a number of the row, once its sign is read -/
theorem X_w1 {fu N t a e a0 F G w j n m : Nat} {B : Nat → Nat} {rd s s0 md : g_St} {sg : Int32} (hfu : 5000 ≤ fu) (h : TK N B t a e rd s) (g : gi s 22 = 1) (hF : FRW F G w md s) (hj : j < F) (oz : OZ s0 s) (ha : a0 ≤ a)
    (kk : ∀ (rd1 rd2 md1 s2 : g_St) (t2 a2 e2 : Nat), f_T_advance fu rd1 = some rd2 → TK N B t2 a2 e2 rd2 s2 → gi s2 22 = 1 → FRW F G w md1 s2 → OZ s0 s2 → a0 ≤ a2 → SW N B a0 F G w s0 (f_T_readWorths_L2 fu n rd1 md1 (nI G) (nI (j + 1))) (f_M_wantWorths_L7 fu (m + 1) s2 (nI (j + 1)) 1)) :
    SW N B a0 F G w s0 (f_T_readWorths_L32 fu (f_T_readWorths_L2 fu n) rd md (nI G) (nI j) sg) (f_M_wantWorths_L65 fu (f_M_wantWorths_L7 fu (m + 1)) s (nI j) sg) := by
  have h6 := hF.1.1
  have hG := hF.1.2.1
  unfold f_T_readWorths_L32 f_M_wantWorths_L65
  rcases B_num hfu h g 0 9 with ⟨n1, n2⟩ | ⟨n1, n2, n3, rd1, s1, n4, n5, t1, a1, e1, hT, ha1, o1, g1⟩
  · rw [if_pos n1, bd2_eq _ n2, if_pos (show gi (si s 22 0) 22 = 0 from rfl)]
    unfold f_M_wantWorths_L107
    rw [lt_lt, if_pos (show gi (si s 22 0) 22 = 0 from rfl), mL7F (show gi (si s 22 0) 22 = 0 from rfl)]
    exact SW.fail (oz.trans (OY.rf.bad 0).oz) rfl (h.2.2.2.2.2.2.1.trans h.2.2.2.2.2.2.2.1.symm)
  · obtain ⟨v, hv, ev⟩ : ∃ v, v ≤ 9 ∧ gi s 21 = nI v := by
      rcases in_0 (gi s 21) 9 (by omega) with ⟨-, j, hj, ej⟩ | z
      · exact ⟨j, hj, ej⟩
      · have z' : f_S_in (gi s 21) 0 9 = 0 := z
        rw [n2] at z'; cases z'
    have s124 : gi s1 24 = nI G := (o1.1 24 (by omega) (by omega) (by omega) (by omega) (by omega)).trans hF.1.2.2.2.2.2
    have x9 := neg9 ⟨v, by omega⟩
    rw [if_neg (by rw [n1]; decide), gd_of (vpn (n := G) (N := 8) (by omega) (by omega)), bd2_eq _ n5, if_neg (g10 g1), n3, ev, s124, six]
    -- both go on alike, whatever the sign
    have on : ∀ x : Int32, -9 ≤ x.toInt → x.toInt ≤ 9 → SW N B a0 F G w s0 (f_T_readWorths_L70 fu (f_T_readWorths_L2 fu n) rd md (nI G) (nI j) x (nI j) (nI G)) (gd (vp_in (nI (6 * G + j)) 48) (lt (sr s1 27 (nI (6 * G + j)) x) fun s12 => f_M_wantWorths_L107 fu (f_M_wantWorths_L7 fu (m + 1)) s12 (nI j))) := fun x x1 x2 => by
      have hF1 := (hF.oy o1).set hj x1 x2
      have hT1 : TK N B t1 a1 e1 rd1 (sr s1 27 (nI (6 * G + j)) x) := hT
      have g1' : gi (sr s1 27 (nI (6 * G + j)) x) 22 = 1 := g1
      have oz1 : OZ s0 (sr s1 27 (nI (6 * G + j)) x) := (oz.trans o1.oz).trans ⟨fun _ _ => rfl, fun i hi => if_neg (by omega), rfl⟩
      unfold f_T_readWorths_L70 f_M_wantWorths_L107
      rw [gd_of (vpn (n := j) (N := 6) (by omega) (by omega)), lt_lt, bd1_eq _ n4, gd_of (vpn (n := 6 * G + j) (N := 48) (by omega) (by omega)), lt_lt, lt_lt, lt_lt, if_neg (g10 g1'), nIc (show G ≤ 4096 by omega), nI_1]
      obtain ⟨m1, m2, m3⟩ := mark_eq hT1 44
      rw [← m1]
      by_cases k : f_T_isByte rd1 44 = 0
      · rw [if_pos k, if_pos k, f_M_wantWorths_L7, if_neg (g10 g1'), if_pos rfl]
        exact ⟨1, rd1, _, _, rfl, rfl, oz1, Or.inl ⟨rfl, t1, a1, e1, hT1, hF1, by omega, g1'⟩⟩
      · obtain ⟨rd2, s2, k1, k2, t2, a2, e2, hT2, ha2, o2, g2⟩ := B_adv hfu hT1 (m3 k) g1'
        rw [if_neg k, if_neg k, bd1_eq _ k2]
        exact kk rd1 rd2 _ s2 t2 a2 e2 k1 hT2 g2 (hF1.oy o2) (oz1.trans o2.oz) (by omega)
    by_cases c : sg = 0
    · rw [if_pos c, if_pos c]
      exact on _ x9.2.2.1 x9.2.2.2
    · rw [if_neg c, if_neg c]
      exact on _ x9.1 x9.2.1
theorem X_worths {fu N a0 F G w : Nat} {B : Nat → Nat} {s0 : g_St} (hfu : 5000 ≤ fu) : ∀ (k n m j : Nat) (rd rd1 md s : g_St) (t a e : Nat), k + j = F → k < n → k + 1 < m → f_T_advance fu rd = some rd1 → TK N B t a e rd1 s → gi s 22 = 1 → FRW F G w md s → OZ s0 s → a0 ≤ a → SW N B a0 F G w s0 (f_T_readWorths_L2 fu n rd md (nI G) (nI j)) (f_M_wantWorths_L7 fu m s (nI j) 1) := by
  intro k
  induction k with
  | zero =>
    intro n m j rd rd1 md s t a e hk hn hm hadv h g hF oz ha
    obtain ⟨n, rfl⟩ : ∃ x, n = x + 1 := ⟨n - 1, by omega⟩
    obtain ⟨m, rfl⟩ : ∃ x, m = x + 1 + 1 := ⟨m - 2, by omega⟩
    have h6 := hF.1.1
    rw [f_T_readWorths_L2, hF.1.2.2.1, if_pos (nI_le (by omega) (by omega)), bd1_eq _ hadv, f_M_wantWorths_L7, if_neg (g10 g), if_neg ne10, hF.1.2.2.2.1, if_pos (nI_le (by omega) (by omega))]
    unfold f_M_wantWorths_L32
    rw [lt_lt, if_pos (show gi (si s 22 0) 22 = 0 from rfl), mL65F (show gi (si s 22 0) 22 = 0 from rfl), si_si]
    exact SW.fail (oz.trans (OY.rf.bad 0).oz) rfl (h.2.2.2.2.2.2.1.trans h.2.2.2.2.2.2.2.1.symm)
  | succ k ih =>
    intro n m j rd rd1 md s t a e hk hn hm hadv h g hF oz ha
    obtain ⟨n, rfl⟩ : ∃ x, n = x + 1 := ⟨n - 1, by omega⟩
    obtain ⟨m, rfl⟩ : ∃ x, m = x + 1 + 1 := ⟨m - 2, by omega⟩
    have h6 := hF.1.1
    have kk : ∀ (rd1 rd2 md1 s2 : g_St) (t2 a2 e2 : Nat), f_T_advance fu rd1 = some rd2 → TK N B t2 a2 e2 rd2 s2 → gi s2 22 = 1 → FRW F G w md1 s2 → OZ s0 s2 → a0 ≤ a2 → SW N B a0 F G w s0 (f_T_readWorths_L2 fu n rd1 md1 (nI G) (nI (j + 1))) (f_M_wantWorths_L7 fu (m + 1) s2 (nI (j + 1)) 1) := fun rd1 rd2 md1 s2 t2 a2 e2 z1 z2 z3 z4 z5 z6 => ih n (m + 1) (j + 1) rd1 rd2 md1 s2 t2 a2 e2 (by omega) (by omega) (by omega) z1 z2 z3 z4 z5 z6
    rw [f_T_readWorths_L2, hF.1.2.2.1, if_neg (nI_ge (by omega) (by omega)), bd1_eq _ hadv, lt_lt, f_M_wantWorths_L7, if_neg (g10 g), if_neg ne10, hF.1.2.2.2.1, if_neg (nI_ge (by omega) (by omega))]
    unfold f_M_wantWorths_L32
    rw [lt_lt, si_id g, if_neg (g10 g)]
    obtain ⟨m1, m2, m3⟩ := mark_eq h 45
    rw [← m1]
    rcases m2 with z | z
    · rw [z, if_pos rfl, if_pos rfl]
      exact X_w1 hfu h g hF (by omega) oz ha kk
    · obtain ⟨rd2, s2, k1, k2, t2, a2, e2, hT2, ha2, o2, g2⟩ := B_adv hfu h (m3 (by rw [z]; decide)) g
      rw [z, if_neg ne10, if_neg ne10, bd1_eq _ k1, bd1_eq _ k2]
      exact X_w1 hfu hT2 g2 (hF.oy o2) (by omega) (oz.trans o2.oz) (by omega) kk
theorem V_addQ {fu G : Nat} {v : g_St} (hfu : 5000 ≤ fu) (v6 : gi v 6 = nI G) (hG : G < 8) (x : Int32) : ∃ v', f_V_addProposal fu v x = some (nI G, v') ∧ gi v' 6 = nI (G + 1) ∧ (∀ j, j ≠ 6 → gi v' j = gi v j) ∧ gr v' 7 = upd (gr v 7) G x ∧ (∀ j, j ≠ 7 → j ≠ 20 + G → gr v' j = gr v j) ∧ ∀ j, j < 6 → gr v' (20 + G) j = 0 := by
  have c : (nI G).toNatClampNeg = G := nIc (by omega)
  obtain ⟨v', e, a1, a2, a3, a4⟩ := V_addProposal_L (fu := fu) 6 fu 0 G (sr v 7 (nI G) x) (by omega) (by omega) hG v6
  refine ⟨v', ?_, a1, fun j hj => a2 j hj, ?_, fun j h1 h2 => (a3 j h2).trans (by rw [gr_sr, if_neg h1]), fun j hj => ?_⟩
  · unfold f_V_addProposal
    rw [lt_lt, v6, gd_of (vpn (n := G) (N := 8) (by omega) (by omega)), lt_lt]
    exact e
  · rw [a3 7 (by omega)]
    show upd (gr v 7) (nI G).toNatClampNeg x = _
    rw [c]
  · rw [a4 j hj, if_pos (Nat.zero_le _)]
theorem M_zero_L {fu G : Nat} {v1 : Int32} (hG : G < 8) : ∀ (k n j : Nat) (s : g_St), k + j = 6 → k < n → gi s 22 = 1 → gi s 24 = nI G → ∃ s', f_M_wantProposal_L39 fu n s v1 (nI j) = f_M_wantProposal_L73 fu s' v1 ∧ (∀ i, gi s' i = gi s i) ∧ s'.2.1 = s.2.1 ∧ (∀ i, i ≠ 27 → gr s' i = gr s i) ∧ gt s' = gt s ∧ ∀ x, gr s' 27 x = if 6 * G + j ≤ x ∧ x < 6 * G + 6 then 0 else gr s 27 x := by
  intro k
  induction k with
  | zero =>
    intro n j s hk hn g s24
    obtain ⟨n, rfl⟩ : ∃ x, n = x + 1 := ⟨n - 1, by omega⟩
    refine ⟨s, ?_, fun _ => rfl, rfl, fun _ _ => rfl, rfl, fun x => by rw [if_neg (by omega)]⟩
    rw [f_M_wantProposal_L39, if_pos (i6le (by omega) (by omega))]
  | succ k ih =>
    intro n j s hk hn g s24
    obtain ⟨n, rfl⟩ : ∃ x, n = x + 1 := ⟨n - 1, by omega⟩
    obtain ⟨s', e, a1, a2, a3, a4, a5⟩ := ih n (j + 1) (sr s 27 (nI (6 * G + j)) 0) (by omega) (by omega) g s24
    refine ⟨s', ?_, fun i => a1 i, a2, fun i hi => (a3 i hi).trans (if_neg hi), a4, fun x => ?_⟩
    · rw [f_M_wantProposal_L39, if_neg (i6gt (by omega)), if_neg (g10 g), s24, six, gd_of (vpn (n := 6 * G + j) (N := 48) (by omega) (by omega)), lt_lt, lt_lt, nI_1]
      exact e
    · rw [a5 x]
      show (if 6 * G + (j + 1) ≤ x ∧ x < 6 * G + 6 then 0 else upd (gr s 27) (nI (6 * G + j)).toNatClampNeg 0 x) = _
      rw [nIc (by omega), upd_at]
      by_cases z : 6 * G + (j + 1) ≤ x ∧ x < 6 * G + 6
      · rw [if_pos z, if_pos ⟨by omega, z.2⟩]
      · rw [if_neg z]
        by_cases y : x = 6 * G + j
        · rw [if_pos y, if_pos ⟨by omega, by omega⟩]
        · rw [if_neg y, if_neg (by omega)]
theorem L98F {fu : Nat} {s : g_St} (g : gi s 22 = 0) (v1 : Int32) : f_M_wantProposal_L98 fu s v1 = some (si s 22 0) := by
  unfold f_M_wantProposal_L98
  rw [bd1_eq _ (endF g), if_pos (show gi (si s 22 0) 22 = 0 from rfl)]
theorem L39F {fu : Nat} (hfu : 5000 ≤ fu) {s : g_St} (g : gi s 22 = 0) (v1 : Int32) : f_M_wantProposal_L39 fu fu s v1 0 = some (si s 22 0) := by
  obtain ⟨n, rfl⟩ : ∃ x, fu = x + 1 := ⟨fu - 1, by omega⟩
  rw [f_M_wantProposal_L39, if_neg (show ¬ (6 : Int32) ≤ 0 by decide), if_pos g]
  unfold f_M_wantProposal_L73
  rw [if_pos g]
  exact L98F g v1
/-- the end of a proposal -/
theorem X_q4 {fu N t a e a0 F G w : Nat} {B : Nat → Nat} {rd s s0 md : g_St} (hfu : 5000 ≤ fu) (h : TK N B t a e rd s) (g : gi s 22 = 1) (hF : FRW F G w md s) (oz : OZ s0 s) (ha : a0 ≤ a) : SO N B a0 s0 (bd2 (f_T_readEnd fu rd) fun r15 s16 => some (r15, s16, md)) (f_M_wantProposal_L98 fu s (nI w)) := by
  unfold f_M_wantProposal_L98
  rcases B_end hfu h g with ⟨b1, b2⟩ | ⟨rd', s1, b1, b2, t1, a1, e1, hT, ha1, o1, g1⟩
  · rw [bd2_eq _ b1, bd1_eq _ b2, if_pos (show gi (si s 22 0) 22 = 0 from rfl)]
    exact ⟨0, rd, md, _, rfl, rfl, oz.trans (OY.rf.bad 0).oz, Or.inr ⟨rfl, rfl, h.2.2.2.2.2.2.1.trans h.2.2.2.2.2.2.2.1.symm⟩⟩
  · obtain ⟨⟨f1, f2, f3, f4, f5, f6⟩, fp, fq, fw, fr, fl, fz⟩ := hF.oy o1
    have c : (nI G).toNatClampNeg = G := nIc (by omega)
    rw [bd2_eq _ b1, bd1_eq _ b2, if_neg (g10 g1), f6, gd_of (vpn (n := G) (N := 8) (by omega) (by omega)), lt_lt, gi_sr, f6, lt_lt, lt_lt, nI_1]
    refine ⟨1, rd', md, _, rfl, rfl, (oz.trans o1.oz).trans ⟨fun i hi => if_neg (by omega), fun i hi => if_neg (by omega), rfl⟩, Or.inl ⟨rfl, t1, a1, e1, F, G + 1, hT, ⟨⟨f1, by omega, f3, f4, f5, rfl⟩, fp, fun q hq => ?_, fl, fz⟩, by omega, g1⟩⟩
    have e26 : gr (si (sr s1 26 (nI G) (nI w)) 24 (nI (G + 1))) 26 q = if q = G then nI w else gr s1 26 q := by
      show upd (gr s1 26) (nI G).toNatClampNeg (nI w) q = _
      rw [c, upd_at]
    refine ⟨?_, ?_, fun p hp => fr q (by omega) p hp⟩
    · rw [e26]
      by_cases z : q = G
      · rw [if_pos z, z]; exact fw.2
      · rw [if_neg z]; exact (fq q (by omega)).1
    · by_cases z : q = G
      · rw [z]; exact ⟨w, fw.1, fw.2⟩
      · exact (fq q (by omega)).2
theorem TK.rows {N t a e : Nat} {B : Nat → Nat} {rd s u : g_St} (h : TK N B t a e rd s) (h1 : ∀ i, gi u i = gi s i) (h2 : gr u 15 = gr s 15) (h3 : u.2.1 = s.2.1) : TK N B t a e rd u := by
  obtain ⟨hB, ha, he, ht, r4, s17, r5, s18, r3, s19, hw, h6, hp⟩ := h
  have g20 : gj u 20 = gj s 20 := congrFun h3 20
  exact ⟨hB.m (h1 16) h2, ha, he, ht, r4, (h1 17).trans s17, r5, (h1 18).trans s18, r3, (h1 19).trans s19, by rw [g20]; exact hw, fun z => (h6 z).trans (h1 21).symm, hp⟩
theorem X_proposal {fu N t a e F G : Nat} {B : Nat → Nat} {rd s md : g_St} (hfu : 5000 ≤ fu) (h : TK N B t a e rd s) (ht : ¬ t = 0) (g : gi s 22 = 1) (hF : FR F G md s) : SO N B a s (f_T_readProposal fu rd md) (f_M_wantProposal fu s) := by
  have f6 := hF.1.2.2.2.2.1
  have f24 := hF.1.2.2.2.2.2
  have hG8 := hF.1.2.1
  have hF6 := hF.1.1
  unfold f_T_readProposal f_M_wantProposal f_M_wantProposal_L15
  rw [f6, f24]
  by_cases h8 : G < 8
  · rw [if_pos (i8lt h8), if_neg (i8gt h8), lt_lt, si_id g, if_neg (g10 g)]
    obtain ⟨rd1, s1, k1, k2, t1, a1, e1, hT, ha1, o1, g1⟩ := B_adv hfu h ht g
    rw [bd1_eq _ k1, bd1_eq _ k2]
    rcases B_num hfu hT g1 0 9 with ⟨n1, n2⟩ | ⟨n1, n2, n3, rd2, s2, n4, n5, t2, a2, e2, hT2, ha2, o2, g2⟩
    · rw [if_pos n1, bd2_eq _ n2, L39F hfu (show gi (si s1 22 0) 22 = 0 from rfl), si_si]
      exact SO.fail (hT.fx o1)
    · obtain ⟨w, hw, ew⟩ : ∃ v, v ≤ 9 ∧ gi s1 21 = nI v := by
        rcases in_0 (gi s1 21) 9 (by omega) with ⟨-, j, hj, ej⟩ | z
        · exact ⟨j, hj, ej⟩
        · have z' : f_S_in (gi s1 21) 0 9 = 0 := z
          rw [n2] at z'; cases z'
      obtain ⟨md1, q1, q2, q3, q4, q5, q6⟩ := V_addQ hfu f6 h8 (nI w)
      have hF2 := (hF.oy o1).oy o2
      obtain ⟨s3, z1, z2, z3, z4, z5, z6⟩ := M_zero_L (fu := fu) (v1 := nI w) h8 6 fu 0 s2 (by omega) (by omega) g2 hF2.1.2.2.2.2.2
      have z1' : f_M_wantProposal_L39 fu fu s2 (nI w) 0 = f_M_wantProposal_L73 fu s3 (nI w) := z1
      rw [if_neg (by rw [n1]; decide), n3, ew, bd2_eq _ q1, bd1_eq _ n4, bd2_eq _ n5, ew, z1']
      have hT3 : TK N B t2 a2 e2 rd2 s3 := hT2.rows z2 (z4 15 (by omega)) z3
      have g3 : gi s3 22 = 1 := (z2 22).trans g2
      have oz3 : OZ s s3 := ((o1.trans o2).oz).trans ⟨fun i _ => z2 i, fun i hi => z4 i (by omega), z5⟩
      have hW : FRW F G w md1 s3 := by
        obtain ⟨⟨y1, y2, y3, y4, y5, y6⟩, yp, yq, yl, yz⟩ := hF2
        refine ⟨⟨y1, h8, (q3 0 (by omega)).trans y3, (z2 23).trans y4, q2, (z2 24).trans y6⟩, fun p hp => ?_, fun q hq => ?_, ⟨hw, by rw [q4, upd_at, if_pos rfl]⟩, fun q hq p hp => ?_, ?_, (q3 11 (by omega)).trans yz.1, (q3 12 (by omega)).trans yz.2⟩
        · rw [q5 1 (by omega) (by omega), q5 2 (by omega) (by omega), q5 3 (by omega) (by omega), q5 4 (by omega) (by omega), q5 5 (by omega) (by omega), z4 25 (by omega)]
          exact yp p hp
        · rw [q4, upd_at, if_neg (by omega), z4 26 (by omega)]
          exact ⟨(yq q hq).1, (yq q hq).2.1⟩
        · by_cases x : q = G
          · subst x
            rw [q6 p hp, z6, if_pos ⟨by omega, by omega⟩]
            exact ⟨rfl, by decide, by decide, fun _ => rfl⟩
          · rw [q5 (20 + q) (by omega) (by omega), z6, if_neg (by omega)]
            exact (yq q (by omega)).2.2 p hp
        · rw [q5 9 (by omega) (by omega), z4 28 (by omega)]
          exact yl
      rw [bd1_eq _ (T_worth hfu hT3)]
      unfold f_M_wantProposal_L73
      rw [if_neg (g10 g3)]
      by_cases c : f_M_isWord s3 12532058 = 0
      · rw [if_pos c, if_pos c]
        exact X_q4 hfu hT3 g3 hW oz3 (by omega)
      · obtain ⟨rd4, s4, k3, k4, t4, a4, e4, hT4, ha4, o4, g4⟩ := B_adv hfu hT3 (word_t hT3 c) g3
        rw [if_neg c, if_neg c, bd1_eq _ k4]
        obtain ⟨r, rd5, md5, s5, w1, w2, w3, w4⟩ := X_worths (a0 := a) (s0 := s) (F := F) (G := G) (w := w) hfu F fu fu 0 rd2 rd4 md1 s4 t4 a4 e4 (by omega) (by omega) (by omega) k3 hT4 g4 (hW.oy o4) (oz3.trans o4.oz) (by omega)
        have w1' : f_T_readWorths fu rd2 md1 (nI G) = some (r, rd5, md5) := w1
        have w2' : f_M_wantWorths fu s4 = some s5 := by
          unfold f_M_wantWorths
          rw [lt_lt, g4]
          exact w2
        rw [bd3_eq _ w1', bd1_eq _ w2']
        rcases w4 with ⟨rfl, t5, a5, e5, hT5, hW5, ha5, g5⟩ | ⟨rfl, x1, x2⟩
        · rw [if_neg ne10]
          exact X_q4 hfu hT5 g5 hW5 w3 (by omega)
        · rw [if_pos rfl, L98F x1]
          exact ⟨0, rd5, md5, _, rfl, rfl, w3.trans (OY.rf.bad 0).oz, Or.inr ⟨rfl, rfl, x2⟩⟩
  · have g8 : G = 8 := by omega
    rw [g8, if_neg (show ¬ nI 8 < 8 by decide), if_pos (show (8 : Int32) ≤ nI 8 by decide), lt_lt, if_pos (show gi (si s 22 0) 22 = 0 from rfl), bd2_eq _ (numF (show gi (si s 22 0) 22 = 0 from rfl) _ _), L39F hfu (show gi (si (si s 22 0) 22 0) 22 = 0 from rfl), si_si, si_si]
    exact SO.fail (h.fx OY.rf)
