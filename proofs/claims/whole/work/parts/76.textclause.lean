/-! The text: laws, clauses, all of it. -/
theorem SO.id3 {N a0 : Nat} {B : Nat → Nat} {s0 : g_St} {m : Option (Int32 × g_St × g_St)} {m' : Option g_St} (h : SO N B a0 s0 m m') : SO N B a0 s0 (bd3 m fun r s u => some (r, s, u)) (bd1 m' fun s => some s) := by
  obtain ⟨r, rd, md, s, e1, e2, e3⟩ := h
  exact ⟨r, rd, md, s, by rw [bd3_eq _ e1], by rw [bd1_eq _ e2], e3⟩
theorem FR.law {F G l x : Nat} {md s : g_St} (h : FR F G md s) (hx : l = 0 ∧ 1 ≤ x ∧ x ≤ 3 ∨ l = 1 ∧ x ≤ 1 ∨ l = 2 ∧ x ≤ 20) : FR F G (sr md 9 (nI l) (nI x)) (sr s 28 (nI l) (nI x)) := by
  obtain ⟨h0, hp, hq, ⟨⟨l0, l1, l2, l3⟩, r0, r1, r2⟩, hz⟩ := h
  have c : (nI l).toNatClampNeg = l := nIc (by omega)
  have e1 : ∀ i, gr (sr md 9 (nI l) (nI x)) 9 i = if i = l then nI x else gr md 9 i := fun i => by
    show upd (gr md 9) (nI l).toNatClampNeg (nI x) i = _
    rw [c, upd_at]
  have e2 : ∀ i, gr (sr s 28 (nI l) (nI x)) 28 i = if i = l then nI x else gr s 28 i := fun i => by
    show upd (gr s 28) (nI l).toNatClampNeg (nI x) i = _
    rw [c, upd_at]
  refine ⟨h0, hp, fun q hqG => ?_, ?_, hz⟩
  · obtain ⟨q1, q2, q3⟩ := hq q hqG
    refine ⟨q1, q2, fun p hp6 => ?_⟩
    rw [gr_sr, if_neg (by omega)]
    exact q3 p hp6
  · rw [e1, e1, e1, e1, e2, e2, e2]
    rcases hx with ⟨rfl, x1, x2⟩ | ⟨rfl, x1⟩ | ⟨rfl, x1⟩
    · exact ⟨⟨rfl, l1, l2, l3⟩, ⟨x, x1, x2, rfl⟩, r1, r2⟩
    · exact ⟨⟨l0, rfl, l2, l3⟩, r0, ⟨x, x1, rfl⟩, r2⟩
    · exact ⟨⟨l0, l1, rfl, l3⟩, r0, r1, ⟨x, x1, rfl⟩⟩
/-- the end of a law -/
theorem X_law4 {fu N t a e a0 F G l x : Nat} {B : Nat → Nat} {rd s s0 md : g_St} (hfu : 5000 ≤ fu) (h : TK N B t a e rd s) (g : gi s 22 = 1) (hF : FR F G md s) (hx : l = 0 ∧ 1 ≤ x ∧ x ≤ 3 ∨ l = 1 ∧ x ≤ 1 ∨ l = 2 ∧ x ≤ 20) (oy : OY s0 s) (ha : a0 ≤ a) : SO N B a0 s0 (bd2 (f_T_readEnd fu rd) fun r15 s16 => some (r15, s16, sr md 9 (nI l) (nI x))) (f_M_wantLaw_L29 fu s (nI l) (nI x)) := by
  have hl : l ≤ 2 := by omega
  unfold f_M_wantLaw_L29
  rcases B_end hfu h g with ⟨b1, b2⟩ | ⟨rd', s1, b1, b2, t1, a1, e1, hT, ha1, o1, g1⟩
  · rw [bd2_eq _ b1, bd1_eq _ b2, gd_of (vpn (n := l) (N := 3) (by omega) (by omega)), lt_lt]
    exact ⟨0, rd, _, _, rfl, rfl, (oy.bad 0).oz.trans ⟨fun _ _ => rfl, fun i hi => if_neg (by omega), rfl⟩, Or.inr ⟨rfl, rfl, h.2.2.2.2.2.2.1.trans h.2.2.2.2.2.2.2.1.symm⟩⟩
  · rw [bd2_eq _ b1, bd1_eq _ b2, gd_of (vpn (n := l) (N := 3) (by omega) (by omega)), lt_lt]
    exact ⟨1, rd', _, _, rfl, rfl, (oy.trans o1).oz.trans ⟨fun _ _ => rfl, fun i hi => if_neg (by omega), rfl⟩, Or.inl ⟨rfl, t1, a1, e1, F, G, hT, (hF.oy o1).law hx, by omega, g1⟩⟩
theorem X_law {fu N t a e F G l lo hi : Nat} {B : Nat → Nat} {rd s md : g_St} (hfu : 5000 ≤ fu) (h : TK N B t a e rd s) (ht : ¬ t = 0) (g : gi s 22 = 1) (hF : FR F G md s) (hl : l = 0 ∧ lo = 1 ∧ hi = 3 ∨ l = 2 ∧ lo = 0 ∧ hi = 20) (r9 : gr s 9 l = nI lo) (r10 : gr s 10 l = nI hi) : SO N B a s (f_T_readLaw fu rd md (nI l) (nI lo) (nI hi)) (f_M_wantLaw fu s (nI l)) := by
  have hl2 : l ≤ 2 := by omega
  obtain ⟨rd1, s1, k1, k2, t1, a1, e1, hT, ha1, o1, g1⟩ := B_adv hfu h ht g
  unfold f_T_readLaw f_M_wantLaw
  rw [bd1_eq _ k1, bd1_eq _ k2, if_neg (show ¬ nI l = (1 : Int32) from fun q => by have := (nIeq (a := l) (b := 1) (by omega) (by omega)).mp q; omega), gd_of (vpn (n := l) (N := 3) (by omega) (by omega)), gd_of (vpn (n := l) (N := 3) (by omega) (by omega)), nIc (show l ≤ 4096 by omega), o1.2.1, r9, r10]
  rcases B_num hfu hT g1 (nI lo) (nI hi) with ⟨n1, n2⟩ | ⟨n1, n2, n3, rd2, s2, n4, n5, t2, a2, e2, hT2, ha2, o2, g2⟩
  · rw [if_pos n1, bd2_eq _ n2]
    unfold f_M_wantLaw_L29
    rw [bd1_eq _ (endF (show gi (si s1 22 0) 22 = 0 from rfl)), si_si, gd_of (vpn (n := l) (N := 3) (by omega) (by omega)), lt_lt]
    exact ⟨0, rd1, md, _, rfl, rfl, (o1.bad 0).oz.trans ⟨fun _ _ => rfl, fun i hi => if_neg (by omega), rfl⟩, Or.inr ⟨rfl, rfl, hT.2.2.2.2.2.2.1.trans hT.2.2.2.2.2.2.2.1.symm⟩⟩
  · obtain ⟨x, x1, x2, ex⟩ : ∃ x, lo ≤ x ∧ x ≤ hi ∧ gi s1 21 = nI x := by
      rcases in_ab (gi s1 21) lo hi (by omega) (by omega) with ⟨-, j, hj1, hj2, ej⟩ | z
      · exact ⟨j, hj1, hj2, ej⟩
      · rw [n2] at z; cases z
    rw [if_neg (by rw [n1]; decide), lt_lt, gd_of (vpn (n := l) (N := 4) (by omega) (by omega)), lt_lt, bd1_eq _ n4, bd2_eq _ n5, n3, ex]
    exact X_law4 hfu hT2 g2 ((hF.oy o1).oy o2) (by omega) (o1.trans o2) (by omega)
theorem X_turn {fu N t a e F G : Nat} {B : Nat → Nat} {rd s md : g_St} (hfu : 5000 ≤ fu) (h : TK N B t a e rd s) (ht : ¬ t = 0) (g : gi s 22 = 1) (hF : FR F G md s) : SO N B a s (lt (sr md 9 (1 : Int32) (1 : Int32)) fun s16 => bd1 (f_T_advance fu rd) fun s17 => bd2 (f_T_readEnd fu s17) fun r20 s21 => some (r20, s21, s16)) (f_M_wantLaw fu s 1) := by
  obtain ⟨rd1, s1, k1, k2, t1, a1, e1, hT, ha1, o1, g1⟩ := B_adv hfu h ht g
  unfold f_M_wantLaw
  rw [lt_lt, bd1_eq _ k1, bd1_eq _ k2, if_pos rfl]
  exact X_law4 (l := 1) (x := 1) hfu hT g1 (hF.oy o1) (Or.inr (Or.inl ⟨rfl, by omega⟩)) o1 (by omega)
theorem word_j {s : g_St} {w : Int64} (h : ¬ f_M_isWord s w = 0) : gj s 20 = w := by
  unfold f_M_isWord at h
  by_cases z : gi s 17 = 1
  · rw [if_pos z] at h
    by_cases y : lg_cmp (gj s 20) w = 0
    · exact (lg_cmp_eq _ _).mp y
    · rw [if_neg y] at h; exact absurd rfl h
  · rw [if_neg z] at h; exact absurd rfl h
theorem T_kind {fu N t a e : Nat} {B : Nat → Nat} {rd s : g_St} (hfu : 5000 ≤ fu) (h : TK N B t a e rd s) : f_T_kindNamed fu rd = some (f_M_kindHere s) ∧ (f_M_kindHere s < 0 ∨ (¬ f_M_kindHere s < 0 ∧ ¬ t = 0 ∧ ∃ k, k ≤ 5 ∧ f_M_kindHere s = nI k)) := by
  unfold f_T_kindNamed f_M_kindHere
  rw [bd1_eq _ (T_sayer hfu h), bd1_eq _ (T_quick hfu h), bd1_eq _ (T_bar hfu h), bd1_eq _ (T_wait hfu h), bd1_eq _ (T_league hfu h), bd1_eq _ (T_told hfu h)]
  by_cases c0 : f_M_isWord s 10135440 = 0
  · rw [if_pos c0, if_pos c0]
    by_cases c1 : f_M_isWord s 9454493 = 0
    · rw [if_pos c1, if_pos c1]
      by_cases c2 : f_M_isWord s 1503 = 0
      · rw [if_pos c2, if_pos c2]
        by_cases c3 : f_M_isWord s 453701 = 0
        · rw [if_pos c3, if_pos c3]
          by_cases c4 : f_M_isWord s 174869447 = 0
          · rw [if_pos c4, if_pos c4]
            by_cases c5 : f_M_isWord s 404923 = 0
            · rw [if_pos c5, if_pos c5]
              exact ⟨rfl, Or.inl (by decide)⟩
            · rw [if_neg c5, if_neg c5]
              exact ⟨rfl, Or.inr ⟨by decide, word_t h c5, 5, by omega, rfl⟩⟩
          · rw [if_neg c4, if_neg c4]
            exact ⟨rfl, Or.inr ⟨by decide, word_t h c4, 4, by omega, rfl⟩⟩
        · rw [if_neg c3, if_neg c3]
          exact ⟨rfl, Or.inr ⟨by decide, word_t h c3, 3, by omega, rfl⟩⟩
      · rw [if_neg c2, if_neg c2]
        exact ⟨rfl, Or.inr ⟨by decide, word_t h c2, 2, by omega, rfl⟩⟩
    · rw [if_neg c1, if_neg c1]
      exact ⟨rfl, Or.inr ⟨by decide, word_t h c1, 1, by omega, rfl⟩⟩
  · rw [if_neg c0, if_neg c0]
    exact ⟨rfl, Or.inr ⟨by decide, word_t h c0, 0, by omega, rfl⟩⟩
theorem X_clause {fu N t a e F G : Nat} {B : Nat → Nat} {rd s md : g_St} (hfu : 5000 ≤ fu) (h : TK N B t a e rd s) (g : gi s 22 = 1) (hF : FR F G md s) (hc : RC s) : SO N B a s (f_T_readStatement fu rd md) (f_M_wantClause fu s) := by
  obtain ⟨k1, k2⟩ := T_kind hfu h
  obtain ⟨c90, -, c92, c100, -, c102, -⟩ := hc
  unfold f_T_readStatement f_M_wantClause
  rw [bd1_eq _ k1]
  rcases k2 with k2 | ⟨k2, k3, k, k4, k5⟩
  · rw [if_pos k2, if_pos k2, bd1_eq _ (T_proposal hfu h), bd1_eq _ (T_need hfu h), bd1_eq _ (T_grow hfu h), bd1_eq _ (T_turn hfu h)]
    by_cases p : f_M_isWord s 174563265846 = 0
    · rw [if_pos p, if_pos p]
      by_cases nd : f_M_isWord s 279346 = 0
      · rw [if_pos nd, if_pos nd]
        by_cases tu : f_M_isWord s 409469 = 0
        · rw [if_pos tu, if_pos tu]
          by_cases gw : f_M_isWord s 151331 = 0
          · rw [if_pos gw, if_pos gw, lt_lt]
            exact SO.fail (h.fx OY.rf)
          · rw [if_neg gw, if_neg gw]
            exact (X_law (l := 2) (lo := 0) (hi := 20) hfu h (word_t h gw) g hF (Or.inr ⟨rfl, rfl, rfl⟩) c92 c102).id3
        · have gw : f_M_isWord s 151331 = 0 := Classical.byContradiction fun z => by
            have e1 := word_j z
            have e2 := word_j tu
            rw [e1] at e2
            exact absurd e2 (by decide)
          rw [if_pos gw, if_neg tu, if_neg tu]
          obtain ⟨r, rd1, md1, s1, q1, q2, q3⟩ := X_turn hfu h (word_t h tu) g hF
          exact ⟨r, rd1, md1, s1, q1, by rw [bd1_eq _ q2], q3⟩
      · rw [if_neg nd, if_neg nd]
        exact (X_law (l := 0) (lo := 1) (hi := 3) hfu h (word_t h nd) g hF (Or.inl ⟨rfl, rfl, rfl⟩) c90 c100).id3
    · rw [if_neg p, if_neg p]
      exact (X_proposal hfu h (word_t h p) g hF).id3
  · rw [if_neg k2, if_neg k2, k5]
    exact (X_person hfu h k3 g hF k4).id3
theorem RC.oz {s t : g_St} (h : RC s) (o : OZ s t) : RC t := by
  unfold RC at h ⊢
  rw [o.2.1 9 (by omega), o.2.1 10 (by omega), o.1 29 (by omega)]
  exact h
/-- all clauses -/
theorem X_all {fu N : Nat} {B : Nat → Nat} {tp : g_St} (hfu : 5000 ≤ fu) : ∀ (k n m i : Nat) (rd md s : g_St) (t a e F G : Nat), N ≤ a + k → k < n → k + 1 < m → i ≤ a → TK N B t a e rd s → gi s 22 = 1 → FR F G md s → RC s → ∃ r rd' md' s', f_TP_readText_L52 fu n rd md tp (nI i) = some (r, rd', md') ∧ f_M_village_L49 fu m s = f_M_village_L70 fu s' ∧ OZ s s' ∧ ((r = 1 ∧ gi s' 22 = 1 ∧ ∃ F G, FR F G md' s') ∨ (r = 0 ∧ gi s' 22 = 0 ∧ gi rd' 5 = gi s' 18)) := by
  intro k
  induction k with
  | zero =>
    intro n m i rd md s t a e F G hk hn hm hi h g hF hc
    obtain ⟨n, rfl⟩ : ∃ x, n = x + 1 := ⟨n - 1, by omega⟩
    obtain ⟨m, rfl⟩ : ∃ x, m = x + 1 := ⟨m - 1, by omega⟩
    obtain ⟨hB, ha, he, ht, r4, s17, -, -, -, -, -, -, hp⟩ := h
    have t0 : t = 0 := Classical.byContradiction fun z => by have := hp z; omega
    have hN := hB.1
    refine ⟨1, rd, md, s, ?_, ?_, OZ.rf, Or.inl ⟨rfl, g, F, G, hF⟩⟩
    · rw [f_TP_readText_L52, hB.2.1, if_neg (nI_nlt (by omega) (by omega)), r4, if_pos (show nI t = 0 by rw [t0]; rfl)]
    · rw [f_M_village_L49, if_neg (g10 g), s17, if_pos (show nI t = 0 by rw [t0]; rfl)]
  | succ k ih =>
    intro n m i rd md s t a e F G hk hn hm hi h g hF hc
    obtain ⟨n, rfl⟩ : ∃ x, n = x + 1 := ⟨n - 1, by omega⟩
    obtain ⟨m, rfl⟩ : ∃ x, m = x + 1 + 1 := ⟨m - 2, by omega⟩
    have h' := h
    obtain ⟨hB, ha, he, ht, r4, s17, -, -, -, -, -, -, hp⟩ := h'
    have hN := hB.1
    rw [f_TP_readText_L52, hB.2.1, if_neg (nI_nlt (by omega) (by omega)), r4, f_M_village_L49, if_neg (g10 g), s17]
    by_cases t0 : t = 0
    · rw [if_pos (show nI t = 0 by rw [t0]; rfl), if_pos (show nI t = 0 by rw [t0]; rfl)]
      exact ⟨1, rd, md, s, rfl, rfl, OZ.rf, Or.inl ⟨rfl, g, F, G, hF⟩⟩
    · have n0 : ¬ nI t = 0 := nI_ne0 (by omega) (by omega)
      obtain ⟨r, rd1, md1, s1, q1, q2, q3, q4⟩ := X_clause hfu h g hF hc
      rw [if_neg n0, if_neg n0, bd3_eq _ q1, bd1_eq _ q2]
      rcases q4 with ⟨rfl, t1, a1, e1, F1, G1, hT, hF1, ha1, g1⟩ | ⟨rfl, x1, x2⟩
      · rw [if_neg ne10, lt_lt, nI_1]
        obtain ⟨r, rd2, md2, s2, w1, w2, w3, w4⟩ := ih n (m + 1) (i + 1) rd1 md1 s1 t1 a1 e1 F1 G1 (by omega) (by omega) (by omega) (by omega) hT g1 hF1 (hc.oz q3)
        exact ⟨r, rd2, md2, s2, w1, w2, q3.trans w3, w4⟩
      · rw [if_pos rfl, f_M_village_L49, if_pos x1]
        exact ⟨0, rd1, md1, s1, rfl, rfl, q3, Or.inr ⟨rfl, x1, x2⟩⟩
