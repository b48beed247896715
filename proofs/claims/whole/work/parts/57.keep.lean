/-! keep and again. -/
/-- what a village takes over from another -/
def CV (u v : g_St) : Prop := (gi v 0 = gi u 0 ∧ gi v 6 = gi u 6 ∧ gi v 10 = gi u 10 ∧ gi v 11 = gi u 11 ∧ gi v 12 = gi u 12) ∧ (∀ p, p < 6 → gr v 1 p = gr u 1 p ∧ gr v 2 p = gr u 2 p ∧ gr v 3 p = gr u 3 p ∧ gr v 4 p = gr u 4 p ∧ gr v 5 p = gr u 5 p) ∧ (∀ q, q < 8 → gr v 7 q = gr u 7 q ∧ ∀ p, p < 6 → gr v (20 + q) p = gr u (20 + q) p) ∧ ∀ k, k < 4 → gr v 9 k = gr u 9 k
theorem cpy0 {f g : Nat → Int32} {n j : Nat} (h : j < n) : va_cpy f g 0 0 n j = f j := by
  rw [pk_cpy_in (Nat.zero_le _) (by omega)]
  exact congrArg f (by omega)
theorem cl4 : (4 : Int32).toNatClampNeg = 4 := rfl
theorem cl8 : (8 : Int32).toNatClampNeg = 8 := rfl
theorem V_copy_L {fu : Nat} {u : g_St} : ∀ (k n j : Nat) (v : g_St), k + j = 8 → k < n → ∃ v', f_VV_copyFrom_L108 fu n v u (nI j) = some v' ∧ (gi v' 10 = gi u 10 ∧ gi v' 11 = gi u 11 ∧ gi v' 12 = gi u 12) ∧ (∀ i, i ≠ 10 → i ≠ 11 → i ≠ 12 → gi v' i = gi v i) ∧ (∀ i, i < 20 → i ≠ 9 → gr v' i = gr v i) ∧ (∀ i, i < 4 → gr v' 9 i = gr u 9 i) ∧ ∀ q, q < 8 → ∀ p, p < 6 → gr v' (20 + q) p = if j ≤ q then gr u (20 + q) p else gr v (20 + q) p := by
  intro k
  induction k with
  | zero =>
    intro n j v hk hn
    obtain ⟨m, rfl⟩ : ∃ m, n = m + 1 := ⟨n - 1, by omega⟩
    refine ⟨si (si (si (sra v 9 (va_cpy (gr u 9) (gr v 9) 0 0 4)) 10 (gi u 10)) 11 (gi u 11)) 12 (gi u 12), by rw [f_VV_copyFrom_L108, if_pos (i8le (by omega) (by omega))]; rfl, ⟨rfl, rfl, rfl⟩, fun i h1 h2 h3 => ?_, fun i h1 h2 => if_neg h2, fun i hi => ?_, fun q hq p hp => ?_⟩
    · show (if i = 12 then _ else if i = 11 then _ else if i = 10 then _ else gi v i) = _
      rw [if_neg h3, if_neg h2, if_neg h1]
    · exact cpy0 hi
    · rw [if_neg (by omega)]
      show (if 20 + q = 9 then _ else gr v (20 + q)) p = _
      rw [if_neg (by omega)]
  | succ k ih =>
    intro n j v hk hn
    obtain ⟨m, rfl⟩ : ∃ m, n = m + 1 := ⟨n - 1, by omega⟩
    obtain ⟨v', e, a1, a2, a3, a4, a5⟩ := ih m (j + 1) (sra v (20 + j) (va_cpy (gr u (20 + j)) (gr v (20 + j)) 0 0 6)) (by omega) (by omega)
    refine ⟨v', ?_, a1, fun i h1 h2 h3 => a2 i h1 h2 h3, fun i h1 h2 => ?_, a4, fun q hq p hp => ?_⟩
    · rw [f_VV_copyFrom_L108, if_neg (i8gt (by omega)), gd_of (vpn (n := j) (N := 8) (by omega) (by omega)), gd_of (vpn (n := j) (N := 8) (by omega) (by omega)), lt_lt, lt_lt, nIc (show j ≤ 4096 by omega), nI_1, cl0, cl6]
      exact e
    · rw [a3 i h1 h2]
      show (if i = 20 + j then _ else gr v i) = _
      rw [if_neg (by omega)]
    · rw [a5 q hq p hp]
      show (if j + 1 ≤ q then gr u (20 + q) p else (if 20 + q = 20 + j then va_cpy (gr u (20 + j)) (gr v (20 + j)) 0 0 6 else gr v (20 + q)) p) = _
      by_cases z : j + 1 ≤ q
      · rw [if_pos z, if_pos (by omega)]
      · rw [if_neg z]
        by_cases y : q = j
        · rw [if_pos (by omega), if_pos (by omega), cpy0 hp, y]
        · rw [if_neg (by omega), if_neg (by omega)]
theorem V_copy {fu : Nat} (hfu : 5000 ≤ fu) (v u : g_St) : ∃ v', f_VV_copyFrom fu v u = some v' ∧ CV u v' := by
  obtain ⟨v', e, a1, a2, a3, a4, a5⟩ := V_copy_L (fu := fu) (u := u) 8 fu 0 (sra (si (sra (sra (sra (sra (sra (si v 0 (gi u 0)) 1 (va_cpy (gr u 1) (gr v 1) 0 0 6)) 2 (va_cpy (gr u 2) (gr v 2) 0 0 6)) 3 (va_cpy (gr u 3) (gr v 3) 0 0 6)) 4 (va_cpy (gr u 4) (gr v 4) 0 0 6)) 5 (va_cpy (gr u 5) (gr v 5) 0 0 6)) 6 (gi u 6)) 7 (va_cpy (gr u 7) (gr v 7) 0 0 8)) (by omega) (by omega)
  refine ⟨v', e, ⟨a2 0 (by omega) (by omega) (by omega), a2 6 (by omega) (by omega) (by omega), a1⟩, fun p hp => ?_, fun q hq => ⟨?_, fun p hp => ?_⟩, a4⟩
  · rw [a3 1 (by omega) (by omega), a3 2 (by omega) (by omega), a3 3 (by omega) (by omega), a3 4 (by omega) (by omega), a3 5 (by omega) (by omega)]
    exact ⟨cpy0 hp, cpy0 hp, cpy0 hp, cpy0 hp, cpy0 hp⟩
  · rw [a3 7 (by omega) (by omega)]
    exact cpy0 hq
  · rw [a5 q hq p hp, if_pos (Nat.zero_le _)]
theorem SV.copy {P Q : Nat} {u v s : g_St} (h : SV P Q u s) (c : CV u v) : SV P Q v s := by
  obtain ⟨⟨hP, hQ, v0, s0, v6, s5⟩, hp, hq, l1, l2, l3, hl⟩ := h
  obtain ⟨⟨c0, c6, -⟩, cp, cq, ck⟩ := c
  refine ⟨⟨hP, hQ, c0.trans v0, s0, c6.trans v6, s5⟩, fun p hpP => ?_, fun q hqQ => ?_, (ck 0 (by omega)).trans l1, (ck 1 (by omega)).trans l2, (ck 2 (by omega)).trans l3, hl⟩
  · obtain ⟨k1, k2, k3, k4, k5⟩ := cp p (by omega)
    rw [k1, k2, k3]; exact hp p hpP
  · obtain ⟨k1, k2⟩ := cq q (by omega)
    rw [k1]
    obtain ⟨g1, g2, g3⟩ := hq q hqQ
    refine ⟨g1, g2, fun p hpP => ?_⟩
    rw [k2 p (by omega)]; exact g3 p hpP
theorem RV.copy {P Q : Nat} {u v s : g_St} (h : RV P Q u s) (c : CV u v) : RV P Q v s := by
  obtain ⟨hS, hn, hy, hz1, hz2, hz3⟩ := h
  have hP := hS.1.1
  have hS' := hS.copy c
  obtain ⟨⟨c0, c6, c10, c11, c12⟩, cp, cq, ck⟩ := c
  refine ⟨hS', fun p hp => ?_, ?_, c10.trans hz1, c11.trans hz2, c12.trans hz3⟩
  · obtain ⟨k1, k2, k3, k4, k5⟩ := cp p (by omega)
    rw [k4, k5]; exact hn p hp
  · rw [ck 3 (by omega)]; exact hy
/-- what the reference's village is made of, the same in both states -/
def AG (s t : g_St) : Prop := (gi t 0 = gi s 0 ∧ gi t 5 = gi s 5 ∧ gi t 12 = gi s 12 ∧ gi t 13 = gi s 13 ∧ gi t 14 = gi s 14) ∧ (∀ p, p < 6 → gr t 1 p = gr s 1 p ∧ gr t 2 p = gr s 2 p ∧ gr t 3 p = gr s 3 p ∧ gr t 4 p = gr s 4 p) ∧ (∀ p, p < 8 → gr t 6 p = gr s 6 p) ∧ (∀ p, p < 48 → gr t 7 p = gr s 7 p) ∧ (∀ p, p < 3 → gr t 8 p = gr s 8 p) ∧ ∀ p, p < 7 → gr t 11 p = gr s 11 p
theorem RV.ag {P Q : Nat} {v s t : g_St} (h : RV P Q v s) (g : AG s t) : RV P Q v t := by
  obtain ⟨⟨⟨hP, hQ, v0, s0, v6, s5⟩, hp, hq, hl⟩, hn, hy, hz⟩ := h
  obtain ⟨⟨g0, g5, g12, g13, g14⟩, gp, g6, g7, g8, g11⟩ := g
  refine ⟨⟨⟨hP, hQ, v0, g0.trans s0, v6, g5.trans s5⟩, fun p hpP => ?_, fun q hqQ => ?_, ?_⟩, fun p hpP => ?_, ?_, ?_⟩
  · obtain ⟨k1, k2, k3, k4⟩ := gp p (by omega)
    rw [k1, k2, k3]; exact hp p hpP
  · rw [g6 q (by omega)]
    obtain ⟨q1, q2, q3⟩ := hq q hqQ
    refine ⟨q1, q2, fun p hpP => ?_⟩
    rw [g7 (6 * q + p) (by omega)]; exact q3 p hpP
  · rw [g8 0 (by omega), g8 1 (by omega), g8 2 (by omega)]; exact hl
  · obtain ⟨k1, k2, k3, k4⟩ := gp p (by omega)
    rw [g11 p (by omega), k4]; exact hn p hpP
  · rw [g11 6 (by omega)]; exact hy
  · rw [g12, g13, g14]; exact hz
/-- the reference's kept row, read as a village -/
def uk (k : Nat → Int32) : g_St := (fun i => if i = 0 then k 0 else if i = 5 then k 1 else if i = 12 then k 2 else if i = 13 then k 3 else k 4, fun _ => 0, fun i p => if i = 1 then k (5 + p) else if i = 2 then k (11 + p) else if i = 3 then k (17 + p) else if i = 4 then k (23 + p) else if i = 6 then k (29 + p) else if i = 7 then k (37 + p) else if i = 8 then k (85 + p) else k (88 + p), fun _ _ => 0)
theorem mk_single {fu b : Nat} (hb : b + 5 ≤ 120) : ∀ (k n j : Nat) (s : g_St), k + j = 5 → k < n → gi s 51 = nI (b + j) → ∃ s', f_M_moveRow_single_L3 fu n s (nI 5) 1 (nI j) = some s' ∧ gi s' 51 = nI (b + 5) ∧ (∀ i, i ≠ 51 → gi s' i = gi s i) ∧ (∀ i, i ≠ 50 → gr s' i = gr s i) ∧ gt s' = gt s ∧ (∀ x, x < b + j → gr s' 50 x = gr s 50 x) ∧ ∀ x, j ≤ x → x < 5 → gr s' 50 (b + x) = gr s 52 x := by
  intro k
  induction k with
  | zero =>
    intro n j s hk hn h51
    obtain ⟨m, rfl⟩ : ∃ m, n = m + 1 := ⟨n - 1, by omega⟩
    refine ⟨s, ?_, by rw [h51, show j = 5 by omega], fun _ _ => rfl, fun _ _ => rfl, rfl, fun _ _ => rfl, fun x h1 h2 => by omega⟩
    rw [f_M_moveRow_single_L3, if_pos (nI_le (by omega) (by omega))]
  | succ k ih =>
    intro n j s hk hn h51
    obtain ⟨m, rfl⟩ : ∃ m, n = m + 1 := ⟨n - 1, by omega⟩
    have c : (nI (b + j)).toNatClampNeg = b + j := nIc (by omega)
    obtain ⟨s', e, a1, a2, a3, a4, a5, a6⟩ := ih m (j + 1) (si (sr s 50 (nI (b + j)) (gr s 52 j)) 51 (nI (b + j + 1))) (by omega) (by omega) rfl
    refine ⟨s', ?_, a1, fun i hi => (a2 i hi).trans (if_neg hi), fun i hi => (a3 i hi).trans (if_neg hi), a4, fun x hx => ?_, fun x h1 h2 => ?_⟩
    · rw [f_M_moveRow_single_L3, if_neg (nI_ge (by omega) (by omega)), if_neg ne10, gd_of (vpn (n := j) (N := 5) (by omega) (by omega)), lt_lt, h51, gd_of (vpn (n := b + j) (N := 120) (by omega) (by omega)), lt_lt, lt_lt, lt_lt, lt_lt, gi_sr, h51, nI_1, nI_1, nIc (show j ≤ 4096 by omega)]
      exact e
    · rw [a5 x (by omega)]
      show upd (gr s 50) (nI (b + j)).toNatClampNeg (gr s 52 j) x = _
      rw [c, upd_at, if_neg (by omega)]
    · by_cases z : x = j
      · rw [z, a5 (b + j) (by omega)]
        show upd (gr s 50) (nI (b + j)).toNatClampNeg (gr s 52 j) (b + j) = _
        rw [c, upd_at, if_pos rfl]
      · exact a6 x (by omega) h2
theorem ml_single {fu b : Nat} (hb : b + 5 ≤ 120) : ∀ (k n j : Nat) (s : g_St), k + j = 5 → k < n → gi s 51 = nI (b + j) → ∃ s', f_M_moveRow_single_L3 fu n s (nI 5) 0 (nI j) = some s' ∧ gi s' 51 = nI (b + 5) ∧ (∀ i, i ≠ 51 → gi s' i = gi s i) ∧ (∀ i, i ≠ 52 → gr s' i = gr s i) ∧ gt s' = gt s ∧ (∀ x, x < j → gr s' 52 x = gr s 52 x) ∧ ∀ x, j ≤ x → x < 5 → gr s' 52 x = gr s 50 (b + x) := by
  intro k
  induction k with
  | zero =>
    intro n j s hk hn h51
    obtain ⟨m, rfl⟩ : ∃ m, n = m + 1 := ⟨n - 1, by omega⟩
    refine ⟨s, ?_, by rw [h51, show j = 5 by omega], fun _ _ => rfl, fun _ _ => rfl, rfl, fun _ _ => rfl, fun x h1 h2 => by omega⟩
    rw [f_M_moveRow_single_L3, if_pos (nI_le (by omega) (by omega))]
  | succ k ih =>
    intro n j s hk hn h51
    obtain ⟨m, rfl⟩ : ∃ m, n = m + 1 := ⟨n - 1, by omega⟩
    have c : (nI j).toNatClampNeg = j := nIc (by omega)
    obtain ⟨s', e, a1, a2, a3, a4, a5, a6⟩ := ih m (j + 1) (si (sr s 52 (nI j) (gr s 50 (b + j))) 51 (nI (b + j + 1))) (by omega) (by omega) rfl
    refine ⟨s', ?_, a1, fun i hi => (a2 i hi).trans (if_neg hi), fun i hi => (a3 i hi).trans (if_neg hi), a4, fun x hx => ?_, fun x h1 h2 => ?_⟩
    · rw [f_M_moveRow_single_L3, if_neg (nI_ge (by omega) (by omega)), if_pos rfl, h51, gd_of (vpn (n := b + j) (N := 120) (by omega) (by omega)), lt_lt, gd_of (vpn (n := j) (N := 5) (by omega) (by omega)), lt_lt, lt_lt, lt_lt, lt_lt, gi_sr, h51, nI_1, nI_1, nIc (show b + j ≤ 4096 by omega)]
      exact e
    · rw [a5 x (by omega)]
      show upd (gr s 52) (nI j).toNatClampNeg (gr s 50 (b + j)) x = _
      rw [c, upd_at, if_neg (by omega)]
    · by_cases z : x = j
      · rw [z, a5 j (by omega)]
        show upd (gr s 52) (nI j).toNatClampNeg (gr s 50 (b + j)) j = _
        rw [c, upd_at, if_pos rfl]
      · exact a6 x (by omega) h2
theorem mk_kindOf {fu b : Nat} (hb : b + 6 ≤ 120) : ∀ (k n j : Nat) (s : g_St), k + j = 6 → k < n → gi s 51 = nI (b + j) → ∃ s', f_M_moveRow_kindOf_L3 fu n s (nI 6) 1 (nI j) = some s' ∧ gi s' 51 = nI (b + 6) ∧ (∀ i, i ≠ 51 → gi s' i = gi s i) ∧ (∀ i, i ≠ 50 → gr s' i = gr s i) ∧ gt s' = gt s ∧ (∀ x, x < b + j → gr s' 50 x = gr s 50 x) ∧ ∀ x, j ≤ x → x < 6 → gr s' 50 (b + x) = gr s 1 x := by
  intro k
  induction k with
  | zero =>
    intro n j s hk hn h51
    obtain ⟨m, rfl⟩ : ∃ m, n = m + 1 := ⟨n - 1, by omega⟩
    refine ⟨s, ?_, by rw [h51, show j = 6 by omega], fun _ _ => rfl, fun _ _ => rfl, rfl, fun _ _ => rfl, fun x h1 h2 => by omega⟩
    rw [f_M_moveRow_kindOf_L3, if_pos (nI_le (by omega) (by omega))]
  | succ k ih =>
    intro n j s hk hn h51
    obtain ⟨m, rfl⟩ : ∃ m, n = m + 1 := ⟨n - 1, by omega⟩
    have c : (nI (b + j)).toNatClampNeg = b + j := nIc (by omega)
    obtain ⟨s', e, a1, a2, a3, a4, a5, a6⟩ := ih m (j + 1) (si (sr s 50 (nI (b + j)) (gr s 1 j)) 51 (nI (b + j + 1))) (by omega) (by omega) rfl
    refine ⟨s', ?_, a1, fun i hi => (a2 i hi).trans (if_neg hi), fun i hi => (a3 i hi).trans (if_neg hi), a4, fun x hx => ?_, fun x h1 h2 => ?_⟩
    · rw [f_M_moveRow_kindOf_L3, if_neg (nI_ge (by omega) (by omega)), if_neg ne10, gd_of (vpn (n := j) (N := 6) (by omega) (by omega)), lt_lt, h51, gd_of (vpn (n := b + j) (N := 120) (by omega) (by omega)), lt_lt, lt_lt, lt_lt, lt_lt, gi_sr, h51, nI_1, nI_1, nIc (show j ≤ 4096 by omega)]
      exact e
    · rw [a5 x (by omega)]
      show upd (gr s 50) (nI (b + j)).toNatClampNeg (gr s 1 j) x = _
      rw [c, upd_at, if_neg (by omega)]
    · by_cases z : x = j
      · rw [z, a5 (b + j) (by omega)]
        show upd (gr s 50) (nI (b + j)).toNatClampNeg (gr s 1 j) (b + j) = _
        rw [c, upd_at, if_pos rfl]
      · exact a6 x (by omega) h2
theorem ml_kindOf {fu b : Nat} (hb : b + 6 ≤ 120) : ∀ (k n j : Nat) (s : g_St), k + j = 6 → k < n → gi s 51 = nI (b + j) → ∃ s', f_M_moveRow_kindOf_L3 fu n s (nI 6) 0 (nI j) = some s' ∧ gi s' 51 = nI (b + 6) ∧ (∀ i, i ≠ 51 → gi s' i = gi s i) ∧ (∀ i, i ≠ 1 → gr s' i = gr s i) ∧ gt s' = gt s ∧ (∀ x, x < j → gr s' 1 x = gr s 1 x) ∧ ∀ x, j ≤ x → x < 6 → gr s' 1 x = gr s 50 (b + x) := by
  intro k
  induction k with
  | zero =>
    intro n j s hk hn h51
    obtain ⟨m, rfl⟩ : ∃ m, n = m + 1 := ⟨n - 1, by omega⟩
    refine ⟨s, ?_, by rw [h51, show j = 6 by omega], fun _ _ => rfl, fun _ _ => rfl, rfl, fun _ _ => rfl, fun x h1 h2 => by omega⟩
    rw [f_M_moveRow_kindOf_L3, if_pos (nI_le (by omega) (by omega))]
  | succ k ih =>
    intro n j s hk hn h51
    obtain ⟨m, rfl⟩ : ∃ m, n = m + 1 := ⟨n - 1, by omega⟩
    have c : (nI j).toNatClampNeg = j := nIc (by omega)
    obtain ⟨s', e, a1, a2, a3, a4, a5, a6⟩ := ih m (j + 1) (si (sr s 1 (nI j) (gr s 50 (b + j))) 51 (nI (b + j + 1))) (by omega) (by omega) rfl
    refine ⟨s', ?_, a1, fun i hi => (a2 i hi).trans (if_neg hi), fun i hi => (a3 i hi).trans (if_neg hi), a4, fun x hx => ?_, fun x h1 h2 => ?_⟩
    · rw [f_M_moveRow_kindOf_L3, if_neg (nI_ge (by omega) (by omega)), if_pos rfl, h51, gd_of (vpn (n := b + j) (N := 120) (by omega) (by omega)), lt_lt, gd_of (vpn (n := j) (N := 6) (by omega) (by omega)), lt_lt, lt_lt, lt_lt, lt_lt, gi_sr, h51, nI_1, nI_1, nIc (show b + j ≤ 4096 by omega)]
      exact e
    · rw [a5 x (by omega)]
      show upd (gr s 1) (nI j).toNatClampNeg (gr s 50 (b + j)) x = _
      rw [c, upd_at, if_neg (by omega)]
    · by_cases z : x = j
      · rw [z, a5 j (by omega)]
        show upd (gr s 1) (nI j).toNatClampNeg (gr s 50 (b + j)) j = _
        rw [c, upd_at, if_pos rfl]
      · exact a6 x (by omega) h2
theorem mk_aOf {fu b : Nat} (hb : b + 6 ≤ 120) : ∀ (k n j : Nat) (s : g_St), k + j = 6 → k < n → gi s 51 = nI (b + j) → ∃ s', f_M_moveRow_aOf_L3 fu n s (nI 6) 1 (nI j) = some s' ∧ gi s' 51 = nI (b + 6) ∧ (∀ i, i ≠ 51 → gi s' i = gi s i) ∧ (∀ i, i ≠ 50 → gr s' i = gr s i) ∧ gt s' = gt s ∧ (∀ x, x < b + j → gr s' 50 x = gr s 50 x) ∧ ∀ x, j ≤ x → x < 6 → gr s' 50 (b + x) = gr s 2 x := by
  intro k
  induction k with
  | zero =>
    intro n j s hk hn h51
    obtain ⟨m, rfl⟩ : ∃ m, n = m + 1 := ⟨n - 1, by omega⟩
    refine ⟨s, ?_, by rw [h51, show j = 6 by omega], fun _ _ => rfl, fun _ _ => rfl, rfl, fun _ _ => rfl, fun x h1 h2 => by omega⟩
    rw [f_M_moveRow_aOf_L3, if_pos (nI_le (by omega) (by omega))]
  | succ k ih =>
    intro n j s hk hn h51
    obtain ⟨m, rfl⟩ : ∃ m, n = m + 1 := ⟨n - 1, by omega⟩
    have c : (nI (b + j)).toNatClampNeg = b + j := nIc (by omega)
    obtain ⟨s', e, a1, a2, a3, a4, a5, a6⟩ := ih m (j + 1) (si (sr s 50 (nI (b + j)) (gr s 2 j)) 51 (nI (b + j + 1))) (by omega) (by omega) rfl
    refine ⟨s', ?_, a1, fun i hi => (a2 i hi).trans (if_neg hi), fun i hi => (a3 i hi).trans (if_neg hi), a4, fun x hx => ?_, fun x h1 h2 => ?_⟩
    · rw [f_M_moveRow_aOf_L3, if_neg (nI_ge (by omega) (by omega)), if_neg ne10, gd_of (vpn (n := j) (N := 6) (by omega) (by omega)), lt_lt, h51, gd_of (vpn (n := b + j) (N := 120) (by omega) (by omega)), lt_lt, lt_lt, lt_lt, lt_lt, gi_sr, h51, nI_1, nI_1, nIc (show j ≤ 4096 by omega)]
      exact e
    · rw [a5 x (by omega)]
      show upd (gr s 50) (nI (b + j)).toNatClampNeg (gr s 2 j) x = _
      rw [c, upd_at, if_neg (by omega)]
    · by_cases z : x = j
      · rw [z, a5 (b + j) (by omega)]
        show upd (gr s 50) (nI (b + j)).toNatClampNeg (gr s 2 j) (b + j) = _
        rw [c, upd_at, if_pos rfl]
      · exact a6 x (by omega) h2
theorem ml_aOf {fu b : Nat} (hb : b + 6 ≤ 120) : ∀ (k n j : Nat) (s : g_St), k + j = 6 → k < n → gi s 51 = nI (b + j) → ∃ s', f_M_moveRow_aOf_L3 fu n s (nI 6) 0 (nI j) = some s' ∧ gi s' 51 = nI (b + 6) ∧ (∀ i, i ≠ 51 → gi s' i = gi s i) ∧ (∀ i, i ≠ 2 → gr s' i = gr s i) ∧ gt s' = gt s ∧ (∀ x, x < j → gr s' 2 x = gr s 2 x) ∧ ∀ x, j ≤ x → x < 6 → gr s' 2 x = gr s 50 (b + x) := by
  intro k
  induction k with
  | zero =>
    intro n j s hk hn h51
    obtain ⟨m, rfl⟩ : ∃ m, n = m + 1 := ⟨n - 1, by omega⟩
    refine ⟨s, ?_, by rw [h51, show j = 6 by omega], fun _ _ => rfl, fun _ _ => rfl, rfl, fun _ _ => rfl, fun x h1 h2 => by omega⟩
    rw [f_M_moveRow_aOf_L3, if_pos (nI_le (by omega) (by omega))]
  | succ k ih =>
    intro n j s hk hn h51
    obtain ⟨m, rfl⟩ : ∃ m, n = m + 1 := ⟨n - 1, by omega⟩
    have c : (nI j).toNatClampNeg = j := nIc (by omega)
    obtain ⟨s', e, a1, a2, a3, a4, a5, a6⟩ := ih m (j + 1) (si (sr s 2 (nI j) (gr s 50 (b + j))) 51 (nI (b + j + 1))) (by omega) (by omega) rfl
    refine ⟨s', ?_, a1, fun i hi => (a2 i hi).trans (if_neg hi), fun i hi => (a3 i hi).trans (if_neg hi), a4, fun x hx => ?_, fun x h1 h2 => ?_⟩
    · rw [f_M_moveRow_aOf_L3, if_neg (nI_ge (by omega) (by omega)), if_pos rfl, h51, gd_of (vpn (n := b + j) (N := 120) (by omega) (by omega)), lt_lt, gd_of (vpn (n := j) (N := 6) (by omega) (by omega)), lt_lt, lt_lt, lt_lt, lt_lt, gi_sr, h51, nI_1, nI_1, nIc (show b + j ≤ 4096 by omega)]
      exact e
    · rw [a5 x (by omega)]
      show upd (gr s 2) (nI j).toNatClampNeg (gr s 50 (b + j)) x = _
      rw [c, upd_at, if_neg (by omega)]
    · by_cases z : x = j
      · rw [z, a5 j (by omega)]
        show upd (gr s 2) (nI j).toNatClampNeg (gr s 50 (b + j)) j = _
        rw [c, upd_at, if_pos rfl]
      · exact a6 x (by omega) h2
theorem mk_age {fu b : Nat} (hb : b + 6 ≤ 120) : ∀ (k n j : Nat) (s : g_St), k + j = 6 → k < n → gi s 51 = nI (b + j) → ∃ s', f_M_moveRow_age_L3 fu n s (nI 6) 1 (nI j) = some s' ∧ gi s' 51 = nI (b + 6) ∧ (∀ i, i ≠ 51 → gi s' i = gi s i) ∧ (∀ i, i ≠ 50 → gr s' i = gr s i) ∧ gt s' = gt s ∧ (∀ x, x < b + j → gr s' 50 x = gr s 50 x) ∧ ∀ x, j ≤ x → x < 6 → gr s' 50 (b + x) = gr s 3 x := by
  intro k
  induction k with
  | zero =>
    intro n j s hk hn h51
    obtain ⟨m, rfl⟩ : ∃ m, n = m + 1 := ⟨n - 1, by omega⟩
    refine ⟨s, ?_, by rw [h51, show j = 6 by omega], fun _ _ => rfl, fun _ _ => rfl, rfl, fun _ _ => rfl, fun x h1 h2 => by omega⟩
    rw [f_M_moveRow_age_L3, if_pos (nI_le (by omega) (by omega))]
  | succ k ih =>
    intro n j s hk hn h51
    obtain ⟨m, rfl⟩ : ∃ m, n = m + 1 := ⟨n - 1, by omega⟩
    have c : (nI (b + j)).toNatClampNeg = b + j := nIc (by omega)
    obtain ⟨s', e, a1, a2, a3, a4, a5, a6⟩ := ih m (j + 1) (si (sr s 50 (nI (b + j)) (gr s 3 j)) 51 (nI (b + j + 1))) (by omega) (by omega) rfl
    refine ⟨s', ?_, a1, fun i hi => (a2 i hi).trans (if_neg hi), fun i hi => (a3 i hi).trans (if_neg hi), a4, fun x hx => ?_, fun x h1 h2 => ?_⟩
    · rw [f_M_moveRow_age_L3, if_neg (nI_ge (by omega) (by omega)), if_neg ne10, gd_of (vpn (n := j) (N := 6) (by omega) (by omega)), lt_lt, h51, gd_of (vpn (n := b + j) (N := 120) (by omega) (by omega)), lt_lt, lt_lt, lt_lt, lt_lt, gi_sr, h51, nI_1, nI_1, nIc (show j ≤ 4096 by omega)]
      exact e
    · rw [a5 x (by omega)]
      show upd (gr s 50) (nI (b + j)).toNatClampNeg (gr s 3 j) x = _
      rw [c, upd_at, if_neg (by omega)]
    · by_cases z : x = j
      · rw [z, a5 (b + j) (by omega)]
        show upd (gr s 50) (nI (b + j)).toNatClampNeg (gr s 3 j) (b + j) = _
        rw [c, upd_at, if_pos rfl]
      · exact a6 x (by omega) h2
theorem ml_age {fu b : Nat} (hb : b + 6 ≤ 120) : ∀ (k n j : Nat) (s : g_St), k + j = 6 → k < n → gi s 51 = nI (b + j) → ∃ s', f_M_moveRow_age_L3 fu n s (nI 6) 0 (nI j) = some s' ∧ gi s' 51 = nI (b + 6) ∧ (∀ i, i ≠ 51 → gi s' i = gi s i) ∧ (∀ i, i ≠ 3 → gr s' i = gr s i) ∧ gt s' = gt s ∧ (∀ x, x < j → gr s' 3 x = gr s 3 x) ∧ ∀ x, j ≤ x → x < 6 → gr s' 3 x = gr s 50 (b + x) := by
  intro k
  induction k with
  | zero =>
    intro n j s hk hn h51
    obtain ⟨m, rfl⟩ : ∃ m, n = m + 1 := ⟨n - 1, by omega⟩
    refine ⟨s, ?_, by rw [h51, show j = 6 by omega], fun _ _ => rfl, fun _ _ => rfl, rfl, fun _ _ => rfl, fun x h1 h2 => by omega⟩
    rw [f_M_moveRow_age_L3, if_pos (nI_le (by omega) (by omega))]
  | succ k ih =>
    intro n j s hk hn h51
    obtain ⟨m, rfl⟩ : ∃ m, n = m + 1 := ⟨n - 1, by omega⟩
    have c : (nI j).toNatClampNeg = j := nIc (by omega)
    obtain ⟨s', e, a1, a2, a3, a4, a5, a6⟩ := ih m (j + 1) (si (sr s 3 (nI j) (gr s 50 (b + j))) 51 (nI (b + j + 1))) (by omega) (by omega) rfl
    refine ⟨s', ?_, a1, fun i hi => (a2 i hi).trans (if_neg hi), fun i hi => (a3 i hi).trans (if_neg hi), a4, fun x hx => ?_, fun x h1 h2 => ?_⟩
    · rw [f_M_moveRow_age_L3, if_neg (nI_ge (by omega) (by omega)), if_pos rfl, h51, gd_of (vpn (n := b + j) (N := 120) (by omega) (by omega)), lt_lt, gd_of (vpn (n := j) (N := 6) (by omega) (by omega)), lt_lt, lt_lt, lt_lt, lt_lt, gi_sr, h51, nI_1, nI_1, nIc (show b + j ≤ 4096 by omega)]
      exact e
    · rw [a5 x (by omega)]
      show upd (gr s 3) (nI j).toNatClampNeg (gr s 50 (b + j)) x = _
      rw [c, upd_at, if_neg (by omega)]
    · by_cases z : x = j
      · rw [z, a5 j (by omega)]
        show upd (gr s 3) (nI j).toNatClampNeg (gr s 50 (b + j)) j = _
        rw [c, upd_at, if_pos rfl]
      · exact a6 x (by omega) h2
theorem mk_had {fu b : Nat} (hb : b + 6 ≤ 120) : ∀ (k n j : Nat) (s : g_St), k + j = 6 → k < n → gi s 51 = nI (b + j) → ∃ s', f_M_moveRow_had_L3 fu n s (nI 6) 1 (nI j) = some s' ∧ gi s' 51 = nI (b + 6) ∧ (∀ i, i ≠ 51 → gi s' i = gi s i) ∧ (∀ i, i ≠ 50 → gr s' i = gr s i) ∧ gt s' = gt s ∧ (∀ x, x < b + j → gr s' 50 x = gr s 50 x) ∧ ∀ x, j ≤ x → x < 6 → gr s' 50 (b + x) = gr s 4 x := by
  intro k
  induction k with
  | zero =>
    intro n j s hk hn h51
    obtain ⟨m, rfl⟩ : ∃ m, n = m + 1 := ⟨n - 1, by omega⟩
    refine ⟨s, ?_, by rw [h51, show j = 6 by omega], fun _ _ => rfl, fun _ _ => rfl, rfl, fun _ _ => rfl, fun x h1 h2 => by omega⟩
    rw [f_M_moveRow_had_L3, if_pos (nI_le (by omega) (by omega))]
  | succ k ih =>
    intro n j s hk hn h51
    obtain ⟨m, rfl⟩ : ∃ m, n = m + 1 := ⟨n - 1, by omega⟩
    have c : (nI (b + j)).toNatClampNeg = b + j := nIc (by omega)
    obtain ⟨s', e, a1, a2, a3, a4, a5, a6⟩ := ih m (j + 1) (si (sr s 50 (nI (b + j)) (gr s 4 j)) 51 (nI (b + j + 1))) (by omega) (by omega) rfl
    refine ⟨s', ?_, a1, fun i hi => (a2 i hi).trans (if_neg hi), fun i hi => (a3 i hi).trans (if_neg hi), a4, fun x hx => ?_, fun x h1 h2 => ?_⟩
    · rw [f_M_moveRow_had_L3, if_neg (nI_ge (by omega) (by omega)), if_neg ne10, gd_of (vpn (n := j) (N := 6) (by omega) (by omega)), lt_lt, h51, gd_of (vpn (n := b + j) (N := 120) (by omega) (by omega)), lt_lt, lt_lt, lt_lt, lt_lt, gi_sr, h51, nI_1, nI_1, nIc (show j ≤ 4096 by omega)]
      exact e
    · rw [a5 x (by omega)]
      show upd (gr s 50) (nI (b + j)).toNatClampNeg (gr s 4 j) x = _
      rw [c, upd_at, if_neg (by omega)]
    · by_cases z : x = j
      · rw [z, a5 (b + j) (by omega)]
        show upd (gr s 50) (nI (b + j)).toNatClampNeg (gr s 4 j) (b + j) = _
        rw [c, upd_at, if_pos rfl]
      · exact a6 x (by omega) h2
theorem ml_had {fu b : Nat} (hb : b + 6 ≤ 120) : ∀ (k n j : Nat) (s : g_St), k + j = 6 → k < n → gi s 51 = nI (b + j) → ∃ s', f_M_moveRow_had_L3 fu n s (nI 6) 0 (nI j) = some s' ∧ gi s' 51 = nI (b + 6) ∧ (∀ i, i ≠ 51 → gi s' i = gi s i) ∧ (∀ i, i ≠ 4 → gr s' i = gr s i) ∧ gt s' = gt s ∧ (∀ x, x < j → gr s' 4 x = gr s 4 x) ∧ ∀ x, j ≤ x → x < 6 → gr s' 4 x = gr s 50 (b + x) := by
  intro k
  induction k with
  | zero =>
    intro n j s hk hn h51
    obtain ⟨m, rfl⟩ : ∃ m, n = m + 1 := ⟨n - 1, by omega⟩
    refine ⟨s, ?_, by rw [h51, show j = 6 by omega], fun _ _ => rfl, fun _ _ => rfl, rfl, fun _ _ => rfl, fun x h1 h2 => by omega⟩
    rw [f_M_moveRow_had_L3, if_pos (nI_le (by omega) (by omega))]
  | succ k ih =>
    intro n j s hk hn h51
    obtain ⟨m, rfl⟩ : ∃ m, n = m + 1 := ⟨n - 1, by omega⟩
    have c : (nI j).toNatClampNeg = j := nIc (by omega)
    obtain ⟨s', e, a1, a2, a3, a4, a5, a6⟩ := ih m (j + 1) (si (sr s 4 (nI j) (gr s 50 (b + j))) 51 (nI (b + j + 1))) (by omega) (by omega) rfl
    refine ⟨s', ?_, a1, fun i hi => (a2 i hi).trans (if_neg hi), fun i hi => (a3 i hi).trans (if_neg hi), a4, fun x hx => ?_, fun x h1 h2 => ?_⟩
    · rw [f_M_moveRow_had_L3, if_neg (nI_ge (by omega) (by omega)), if_pos rfl, h51, gd_of (vpn (n := b + j) (N := 120) (by omega) (by omega)), lt_lt, gd_of (vpn (n := j) (N := 6) (by omega) (by omega)), lt_lt, lt_lt, lt_lt, lt_lt, gi_sr, h51, nI_1, nI_1, nIc (show b + j ≤ 4096 by omega)]
      exact e
    · rw [a5 x (by omega)]
      show upd (gr s 4) (nI j).toNatClampNeg (gr s 50 (b + j)) x = _
      rw [c, upd_at, if_neg (by omega)]
    · by_cases z : x = j
      · rw [z, a5 j (by omega)]
        show upd (gr s 4) (nI j).toNatClampNeg (gr s 50 (b + j)) j = _
        rw [c, upd_at, if_pos rfl]
      · exact a6 x (by omega) h2
theorem mk_weight {fu b : Nat} (hb : b + 8 ≤ 120) : ∀ (k n j : Nat) (s : g_St), k + j = 8 → k < n → gi s 51 = nI (b + j) → ∃ s', f_M_moveRow_weight_L3 fu n s (nI 8) 1 (nI j) = some s' ∧ gi s' 51 = nI (b + 8) ∧ (∀ i, i ≠ 51 → gi s' i = gi s i) ∧ (∀ i, i ≠ 50 → gr s' i = gr s i) ∧ gt s' = gt s ∧ (∀ x, x < b + j → gr s' 50 x = gr s 50 x) ∧ ∀ x, j ≤ x → x < 8 → gr s' 50 (b + x) = gr s 6 x := by
  intro k
  induction k with
  | zero =>
    intro n j s hk hn h51
    obtain ⟨m, rfl⟩ : ∃ m, n = m + 1 := ⟨n - 1, by omega⟩
    refine ⟨s, ?_, by rw [h51, show j = 8 by omega], fun _ _ => rfl, fun _ _ => rfl, rfl, fun _ _ => rfl, fun x h1 h2 => by omega⟩
    rw [f_M_moveRow_weight_L3, if_pos (nI_le (by omega) (by omega))]
  | succ k ih =>
    intro n j s hk hn h51
    obtain ⟨m, rfl⟩ : ∃ m, n = m + 1 := ⟨n - 1, by omega⟩
    have c : (nI (b + j)).toNatClampNeg = b + j := nIc (by omega)
    obtain ⟨s', e, a1, a2, a3, a4, a5, a6⟩ := ih m (j + 1) (si (sr s 50 (nI (b + j)) (gr s 6 j)) 51 (nI (b + j + 1))) (by omega) (by omega) rfl
    refine ⟨s', ?_, a1, fun i hi => (a2 i hi).trans (if_neg hi), fun i hi => (a3 i hi).trans (if_neg hi), a4, fun x hx => ?_, fun x h1 h2 => ?_⟩
    · rw [f_M_moveRow_weight_L3, if_neg (nI_ge (by omega) (by omega)), if_neg ne10, gd_of (vpn (n := j) (N := 8) (by omega) (by omega)), lt_lt, h51, gd_of (vpn (n := b + j) (N := 120) (by omega) (by omega)), lt_lt, lt_lt, lt_lt, lt_lt, gi_sr, h51, nI_1, nI_1, nIc (show j ≤ 4096 by omega)]
      exact e
    · rw [a5 x (by omega)]
      show upd (gr s 50) (nI (b + j)).toNatClampNeg (gr s 6 j) x = _
      rw [c, upd_at, if_neg (by omega)]
    · by_cases z : x = j
      · rw [z, a5 (b + j) (by omega)]
        show upd (gr s 50) (nI (b + j)).toNatClampNeg (gr s 6 j) (b + j) = _
        rw [c, upd_at, if_pos rfl]
      · exact a6 x (by omega) h2
theorem ml_weight {fu b : Nat} (hb : b + 8 ≤ 120) : ∀ (k n j : Nat) (s : g_St), k + j = 8 → k < n → gi s 51 = nI (b + j) → ∃ s', f_M_moveRow_weight_L3 fu n s (nI 8) 0 (nI j) = some s' ∧ gi s' 51 = nI (b + 8) ∧ (∀ i, i ≠ 51 → gi s' i = gi s i) ∧ (∀ i, i ≠ 6 → gr s' i = gr s i) ∧ gt s' = gt s ∧ (∀ x, x < j → gr s' 6 x = gr s 6 x) ∧ ∀ x, j ≤ x → x < 8 → gr s' 6 x = gr s 50 (b + x) := by
  intro k
  induction k with
  | zero =>
    intro n j s hk hn h51
    obtain ⟨m, rfl⟩ : ∃ m, n = m + 1 := ⟨n - 1, by omega⟩
    refine ⟨s, ?_, by rw [h51, show j = 8 by omega], fun _ _ => rfl, fun _ _ => rfl, rfl, fun _ _ => rfl, fun x h1 h2 => by omega⟩
    rw [f_M_moveRow_weight_L3, if_pos (nI_le (by omega) (by omega))]
  | succ k ih =>
    intro n j s hk hn h51
    obtain ⟨m, rfl⟩ : ∃ m, n = m + 1 := ⟨n - 1, by omega⟩
    have c : (nI j).toNatClampNeg = j := nIc (by omega)
    obtain ⟨s', e, a1, a2, a3, a4, a5, a6⟩ := ih m (j + 1) (si (sr s 6 (nI j) (gr s 50 (b + j))) 51 (nI (b + j + 1))) (by omega) (by omega) rfl
    refine ⟨s', ?_, a1, fun i hi => (a2 i hi).trans (if_neg hi), fun i hi => (a3 i hi).trans (if_neg hi), a4, fun x hx => ?_, fun x h1 h2 => ?_⟩
    · rw [f_M_moveRow_weight_L3, if_neg (nI_ge (by omega) (by omega)), if_pos rfl, h51, gd_of (vpn (n := b + j) (N := 120) (by omega) (by omega)), lt_lt, gd_of (vpn (n := j) (N := 8) (by omega) (by omega)), lt_lt, lt_lt, lt_lt, lt_lt, gi_sr, h51, nI_1, nI_1, nIc (show b + j ≤ 4096 by omega)]
      exact e
    · rw [a5 x (by omega)]
      show upd (gr s 6) (nI j).toNatClampNeg (gr s 50 (b + j)) x = _
      rw [c, upd_at, if_neg (by omega)]
    · by_cases z : x = j
      · rw [z, a5 j (by omega)]
        show upd (gr s 6) (nI j).toNatClampNeg (gr s 50 (b + j)) j = _
        rw [c, upd_at, if_pos rfl]
      · exact a6 x (by omega) h2
theorem mk_worth {fu b : Nat} (hb : b + 48 ≤ 120) : ∀ (k n j : Nat) (s : g_St), k + j = 48 → k < n → gi s 51 = nI (b + j) → ∃ s', f_M_moveRow_worth_L3 fu n s (nI 48) 1 (nI j) = some s' ∧ gi s' 51 = nI (b + 48) ∧ (∀ i, i ≠ 51 → gi s' i = gi s i) ∧ (∀ i, i ≠ 50 → gr s' i = gr s i) ∧ gt s' = gt s ∧ (∀ x, x < b + j → gr s' 50 x = gr s 50 x) ∧ ∀ x, j ≤ x → x < 48 → gr s' 50 (b + x) = gr s 7 x := by
  intro k
  induction k with
  | zero =>
    intro n j s hk hn h51
    obtain ⟨m, rfl⟩ : ∃ m, n = m + 1 := ⟨n - 1, by omega⟩
    refine ⟨s, ?_, by rw [h51, show j = 48 by omega], fun _ _ => rfl, fun _ _ => rfl, rfl, fun _ _ => rfl, fun x h1 h2 => by omega⟩
    rw [f_M_moveRow_worth_L3, if_pos (nI_le (by omega) (by omega))]
  | succ k ih =>
    intro n j s hk hn h51
    obtain ⟨m, rfl⟩ : ∃ m, n = m + 1 := ⟨n - 1, by omega⟩
    have c : (nI (b + j)).toNatClampNeg = b + j := nIc (by omega)
    obtain ⟨s', e, a1, a2, a3, a4, a5, a6⟩ := ih m (j + 1) (si (sr s 50 (nI (b + j)) (gr s 7 j)) 51 (nI (b + j + 1))) (by omega) (by omega) rfl
    refine ⟨s', ?_, a1, fun i hi => (a2 i hi).trans (if_neg hi), fun i hi => (a3 i hi).trans (if_neg hi), a4, fun x hx => ?_, fun x h1 h2 => ?_⟩
    · rw [f_M_moveRow_worth_L3, if_neg (nI_ge (by omega) (by omega)), if_neg ne10, gd_of (vpn (n := j) (N := 48) (by omega) (by omega)), lt_lt, h51, gd_of (vpn (n := b + j) (N := 120) (by omega) (by omega)), lt_lt, lt_lt, lt_lt, lt_lt, gi_sr, h51, nI_1, nI_1, nIc (show j ≤ 4096 by omega)]
      exact e
    · rw [a5 x (by omega)]
      show upd (gr s 50) (nI (b + j)).toNatClampNeg (gr s 7 j) x = _
      rw [c, upd_at, if_neg (by omega)]
    · by_cases z : x = j
      · rw [z, a5 (b + j) (by omega)]
        show upd (gr s 50) (nI (b + j)).toNatClampNeg (gr s 7 j) (b + j) = _
        rw [c, upd_at, if_pos rfl]
      · exact a6 x (by omega) h2
theorem ml_worth {fu b : Nat} (hb : b + 48 ≤ 120) : ∀ (k n j : Nat) (s : g_St), k + j = 48 → k < n → gi s 51 = nI (b + j) → ∃ s', f_M_moveRow_worth_L3 fu n s (nI 48) 0 (nI j) = some s' ∧ gi s' 51 = nI (b + 48) ∧ (∀ i, i ≠ 51 → gi s' i = gi s i) ∧ (∀ i, i ≠ 7 → gr s' i = gr s i) ∧ gt s' = gt s ∧ (∀ x, x < j → gr s' 7 x = gr s 7 x) ∧ ∀ x, j ≤ x → x < 48 → gr s' 7 x = gr s 50 (b + x) := by
  intro k
  induction k with
  | zero =>
    intro n j s hk hn h51
    obtain ⟨m, rfl⟩ : ∃ m, n = m + 1 := ⟨n - 1, by omega⟩
    refine ⟨s, ?_, by rw [h51, show j = 48 by omega], fun _ _ => rfl, fun _ _ => rfl, rfl, fun _ _ => rfl, fun x h1 h2 => by omega⟩
    rw [f_M_moveRow_worth_L3, if_pos (nI_le (by omega) (by omega))]
  | succ k ih =>
    intro n j s hk hn h51
    obtain ⟨m, rfl⟩ : ∃ m, n = m + 1 := ⟨n - 1, by omega⟩
    have c : (nI j).toNatClampNeg = j := nIc (by omega)
    obtain ⟨s', e, a1, a2, a3, a4, a5, a6⟩ := ih m (j + 1) (si (sr s 7 (nI j) (gr s 50 (b + j))) 51 (nI (b + j + 1))) (by omega) (by omega) rfl
    refine ⟨s', ?_, a1, fun i hi => (a2 i hi).trans (if_neg hi), fun i hi => (a3 i hi).trans (if_neg hi), a4, fun x hx => ?_, fun x h1 h2 => ?_⟩
    · rw [f_M_moveRow_worth_L3, if_neg (nI_ge (by omega) (by omega)), if_pos rfl, h51, gd_of (vpn (n := b + j) (N := 120) (by omega) (by omega)), lt_lt, gd_of (vpn (n := j) (N := 48) (by omega) (by omega)), lt_lt, lt_lt, lt_lt, lt_lt, gi_sr, h51, nI_1, nI_1, nIc (show b + j ≤ 4096 by omega)]
      exact e
    · rw [a5 x (by omega)]
      show upd (gr s 7) (nI j).toNatClampNeg (gr s 50 (b + j)) x = _
      rw [c, upd_at, if_neg (by omega)]
    · by_cases z : x = j
      · rw [z, a5 j (by omega)]
        show upd (gr s 7) (nI j).toNatClampNeg (gr s 50 (b + j)) j = _
        rw [c, upd_at, if_pos rfl]
      · exact a6 x (by omega) h2
theorem mk_laws {fu b : Nat} (hb : b + 3 ≤ 120) : ∀ (k n j : Nat) (s : g_St), k + j = 3 → k < n → gi s 51 = nI (b + j) → ∃ s', f_M_moveRow_laws_L3 fu n s (nI 3) 1 (nI j) = some s' ∧ gi s' 51 = nI (b + 3) ∧ (∀ i, i ≠ 51 → gi s' i = gi s i) ∧ (∀ i, i ≠ 50 → gr s' i = gr s i) ∧ gt s' = gt s ∧ (∀ x, x < b + j → gr s' 50 x = gr s 50 x) ∧ ∀ x, j ≤ x → x < 3 → gr s' 50 (b + x) = gr s 8 x := by
  intro k
  induction k with
  | zero =>
    intro n j s hk hn h51
    obtain ⟨m, rfl⟩ : ∃ m, n = m + 1 := ⟨n - 1, by omega⟩
    refine ⟨s, ?_, by rw [h51, show j = 3 by omega], fun _ _ => rfl, fun _ _ => rfl, rfl, fun _ _ => rfl, fun x h1 h2 => by omega⟩
    rw [f_M_moveRow_laws_L3, if_pos (nI_le (by omega) (by omega))]
  | succ k ih =>
    intro n j s hk hn h51
    obtain ⟨m, rfl⟩ : ∃ m, n = m + 1 := ⟨n - 1, by omega⟩
    have c : (nI (b + j)).toNatClampNeg = b + j := nIc (by omega)
    obtain ⟨s', e, a1, a2, a3, a4, a5, a6⟩ := ih m (j + 1) (si (sr s 50 (nI (b + j)) (gr s 8 j)) 51 (nI (b + j + 1))) (by omega) (by omega) rfl
    refine ⟨s', ?_, a1, fun i hi => (a2 i hi).trans (if_neg hi), fun i hi => (a3 i hi).trans (if_neg hi), a4, fun x hx => ?_, fun x h1 h2 => ?_⟩
    · rw [f_M_moveRow_laws_L3, if_neg (nI_ge (by omega) (by omega)), if_neg ne10, gd_of (vpn (n := j) (N := 3) (by omega) (by omega)), lt_lt, h51, gd_of (vpn (n := b + j) (N := 120) (by omega) (by omega)), lt_lt, lt_lt, lt_lt, lt_lt, gi_sr, h51, nI_1, nI_1, nIc (show j ≤ 4096 by omega)]
      exact e
    · rw [a5 x (by omega)]
      show upd (gr s 50) (nI (b + j)).toNatClampNeg (gr s 8 j) x = _
      rw [c, upd_at, if_neg (by omega)]
    · by_cases z : x = j
      · rw [z, a5 (b + j) (by omega)]
        show upd (gr s 50) (nI (b + j)).toNatClampNeg (gr s 8 j) (b + j) = _
        rw [c, upd_at, if_pos rfl]
      · exact a6 x (by omega) h2
theorem ml_laws {fu b : Nat} (hb : b + 3 ≤ 120) : ∀ (k n j : Nat) (s : g_St), k + j = 3 → k < n → gi s 51 = nI (b + j) → ∃ s', f_M_moveRow_laws_L3 fu n s (nI 3) 0 (nI j) = some s' ∧ gi s' 51 = nI (b + 3) ∧ (∀ i, i ≠ 51 → gi s' i = gi s i) ∧ (∀ i, i ≠ 8 → gr s' i = gr s i) ∧ gt s' = gt s ∧ (∀ x, x < j → gr s' 8 x = gr s 8 x) ∧ ∀ x, j ≤ x → x < 3 → gr s' 8 x = gr s 50 (b + x) := by
  intro k
  induction k with
  | zero =>
    intro n j s hk hn h51
    obtain ⟨m, rfl⟩ : ∃ m, n = m + 1 := ⟨n - 1, by omega⟩
    refine ⟨s, ?_, by rw [h51, show j = 3 by omega], fun _ _ => rfl, fun _ _ => rfl, rfl, fun _ _ => rfl, fun x h1 h2 => by omega⟩
    rw [f_M_moveRow_laws_L3, if_pos (nI_le (by omega) (by omega))]
  | succ k ih =>
    intro n j s hk hn h51
    obtain ⟨m, rfl⟩ : ∃ m, n = m + 1 := ⟨n - 1, by omega⟩
    have c : (nI j).toNatClampNeg = j := nIc (by omega)
    obtain ⟨s', e, a1, a2, a3, a4, a5, a6⟩ := ih m (j + 1) (si (sr s 8 (nI j) (gr s 50 (b + j))) 51 (nI (b + j + 1))) (by omega) (by omega) rfl
    refine ⟨s', ?_, a1, fun i hi => (a2 i hi).trans (if_neg hi), fun i hi => (a3 i hi).trans (if_neg hi), a4, fun x hx => ?_, fun x h1 h2 => ?_⟩
    · rw [f_M_moveRow_laws_L3, if_neg (nI_ge (by omega) (by omega)), if_pos rfl, h51, gd_of (vpn (n := b + j) (N := 120) (by omega) (by omega)), lt_lt, gd_of (vpn (n := j) (N := 3) (by omega) (by omega)), lt_lt, lt_lt, lt_lt, lt_lt, gi_sr, h51, nI_1, nI_1, nIc (show b + j ≤ 4096 by omega)]
      exact e
    · rw [a5 x (by omega)]
      show upd (gr s 8) (nI j).toNatClampNeg (gr s 50 (b + j)) x = _
      rw [c, upd_at, if_neg (by omega)]
    · by_cases z : x = j
      · rw [z, a5 j (by omega)]
        show upd (gr s 8) (nI j).toNatClampNeg (gr s 50 (b + j)) j = _
        rw [c, upd_at, if_pos rfl]
      · exact a6 x (by omega) h2
theorem mk_row {fu b : Nat} (hb : b + 7 ≤ 120) : ∀ (k n j : Nat) (s : g_St), k + j = 7 → k < n → gi s 51 = nI (b + j) → ∃ s', f_M_moveRow_row_L3 fu n s (nI 7) 1 (nI j) = some s' ∧ gi s' 51 = nI (b + 7) ∧ (∀ i, i ≠ 51 → gi s' i = gi s i) ∧ (∀ i, i ≠ 50 → gr s' i = gr s i) ∧ gt s' = gt s ∧ (∀ x, x < b + j → gr s' 50 x = gr s 50 x) ∧ ∀ x, j ≤ x → x < 7 → gr s' 50 (b + x) = gr s 11 x := by
  intro k
  induction k with
  | zero =>
    intro n j s hk hn h51
    obtain ⟨m, rfl⟩ : ∃ m, n = m + 1 := ⟨n - 1, by omega⟩
    refine ⟨s, ?_, by rw [h51, show j = 7 by omega], fun _ _ => rfl, fun _ _ => rfl, rfl, fun _ _ => rfl, fun x h1 h2 => by omega⟩
    rw [f_M_moveRow_row_L3, if_pos (nI_le (by omega) (by omega))]
  | succ k ih =>
    intro n j s hk hn h51
    obtain ⟨m, rfl⟩ : ∃ m, n = m + 1 := ⟨n - 1, by omega⟩
    have c : (nI (b + j)).toNatClampNeg = b + j := nIc (by omega)
    obtain ⟨s', e, a1, a2, a3, a4, a5, a6⟩ := ih m (j + 1) (si (sr s 50 (nI (b + j)) (gr s 11 j)) 51 (nI (b + j + 1))) (by omega) (by omega) rfl
    refine ⟨s', ?_, a1, fun i hi => (a2 i hi).trans (if_neg hi), fun i hi => (a3 i hi).trans (if_neg hi), a4, fun x hx => ?_, fun x h1 h2 => ?_⟩
    · rw [f_M_moveRow_row_L3, if_neg (nI_ge (by omega) (by omega)), if_neg ne10, gd_of (vpn (n := j) (N := 35) (by omega) (by omega)), lt_lt, h51, gd_of (vpn (n := b + j) (N := 120) (by omega) (by omega)), lt_lt, lt_lt, lt_lt, lt_lt, gi_sr, h51, nI_1, nI_1, nIc (show j ≤ 4096 by omega)]
      exact e
    · rw [a5 x (by omega)]
      show upd (gr s 50) (nI (b + j)).toNatClampNeg (gr s 11 j) x = _
      rw [c, upd_at, if_neg (by omega)]
    · by_cases z : x = j
      · rw [z, a5 (b + j) (by omega)]
        show upd (gr s 50) (nI (b + j)).toNatClampNeg (gr s 11 j) (b + j) = _
        rw [c, upd_at, if_pos rfl]
      · exact a6 x (by omega) h2
theorem ml_row {fu b : Nat} (hb : b + 7 ≤ 120) : ∀ (k n j : Nat) (s : g_St), k + j = 7 → k < n → gi s 51 = nI (b + j) → ∃ s', f_M_moveRow_row_L3 fu n s (nI 7) 0 (nI j) = some s' ∧ gi s' 51 = nI (b + 7) ∧ (∀ i, i ≠ 51 → gi s' i = gi s i) ∧ (∀ i, i ≠ 11 → gr s' i = gr s i) ∧ gt s' = gt s ∧ (∀ x, x < j → gr s' 11 x = gr s 11 x) ∧ ∀ x, j ≤ x → x < 7 → gr s' 11 x = gr s 50 (b + x) := by
  intro k
  induction k with
  | zero =>
    intro n j s hk hn h51
    obtain ⟨m, rfl⟩ : ∃ m, n = m + 1 := ⟨n - 1, by omega⟩
    refine ⟨s, ?_, by rw [h51, show j = 7 by omega], fun _ _ => rfl, fun _ _ => rfl, rfl, fun _ _ => rfl, fun x h1 h2 => by omega⟩
    rw [f_M_moveRow_row_L3, if_pos (nI_le (by omega) (by omega))]
  | succ k ih =>
    intro n j s hk hn h51
    obtain ⟨m, rfl⟩ : ∃ m, n = m + 1 := ⟨n - 1, by omega⟩
    have c : (nI j).toNatClampNeg = j := nIc (by omega)
    obtain ⟨s', e, a1, a2, a3, a4, a5, a6⟩ := ih m (j + 1) (si (sr s 11 (nI j) (gr s 50 (b + j))) 51 (nI (b + j + 1))) (by omega) (by omega) rfl
    refine ⟨s', ?_, a1, fun i hi => (a2 i hi).trans (if_neg hi), fun i hi => (a3 i hi).trans (if_neg hi), a4, fun x hx => ?_, fun x h1 h2 => ?_⟩
    · rw [f_M_moveRow_row_L3, if_neg (nI_ge (by omega) (by omega)), if_pos rfl, h51, gd_of (vpn (n := b + j) (N := 120) (by omega) (by omega)), lt_lt, gd_of (vpn (n := j) (N := 35) (by omega) (by omega)), lt_lt, lt_lt, lt_lt, lt_lt, gi_sr, h51, nI_1, nI_1, nIc (show b + j ≤ 4096 by omega)]
      exact e
    · rw [a5 x (by omega)]
      show upd (gr s 11) (nI j).toNatClampNeg (gr s 50 (b + j)) x = _
      rw [c, upd_at, if_neg (by omega)]
    · by_cases z : x = j
      · rw [z, a5 j (by omega)]
        show upd (gr s 11) (nI j).toNatClampNeg (gr s 50 (b + j)) j = _
        rw [c, upd_at, if_pos rfl]
      · exact a6 x (by omega) h2
/-- all but what is kept -/
def OK (s t : g_St) : Prop := (∀ i, i ≠ 49 → i ≠ 51 → gi t i = gi s i) ∧ (∀ i, i ≠ 50 → i ≠ 52 → gr t i = gr s i) ∧ gt t = gt s
theorem M_keep {fu : Nat} (hfu : 5000 ≤ fu) (s : g_St) : ∃ s', f_M_keep fu s = some (1, s') ∧ AG s (uk (gr s' 50)) ∧ OK s s' ∧ gi s' 49 = 1 := by
  have z0 : gi (sr (sr (sr (sr (sr (si s 51 0) 52 0 (gi s 0)) 52 1 (gi s 5)) 52 2 (gi s 12)) 52 3 (gi s 13)) 52 4 (gi s 14)) 51 = nI (0 + 0) := rfl
  obtain ⟨t1, e1, a1, b1, c1, d1, f1, g1⟩ := mk_single (fu := fu) (b := 0) (by omega) 5 fu 0 (sr (sr (sr (sr (sr (si s 51 0) 52 0 (gi s 0)) 52 1 (gi s 5)) 52 2 (gi s 12)) 52 3 (gi s 13)) 52 4 (gi s 14)) (by omega) (by omega) z0
  have e1' : f_M_moveRow_single fu (sr (sr (sr (sr (sr (si s 51 0) 52 0 (gi s 0)) 52 1 (gi s 5)) 52 2 (gi s 12)) 52 3 (gi s 13)) 52 4 (gi s 14)) 5 1 = some t1 := e1
  obtain ⟨t2, e2, a2, b2, c2, d2, f2, g2⟩ := mk_kindOf (fu := fu) (b := 5) (by omega) 6 fu 0 t1 (by omega) (by omega) (show gi t1 51 = nI (5 + 0) from a1)
  have e2' : f_M_moveRow_kindOf fu t1 6 1 = some t2 := e2
  obtain ⟨t3, e3, a3, b3, c3, d3, f3, g3⟩ := mk_aOf (fu := fu) (b := 11) (by omega) 6 fu 0 t2 (by omega) (by omega) (show gi t2 51 = nI (11 + 0) from a2)
  have e3' : f_M_moveRow_aOf fu t2 6 1 = some t3 := e3
  obtain ⟨t4, e4, a4, b4, c4, d4, f4, g4⟩ := mk_age (fu := fu) (b := 17) (by omega) 6 fu 0 t3 (by omega) (by omega) (show gi t3 51 = nI (17 + 0) from a3)
  have e4' : f_M_moveRow_age fu t3 6 1 = some t4 := e4
  obtain ⟨t5, e5, a5, b5, c5, d5, f5, g5⟩ := mk_had (fu := fu) (b := 23) (by omega) 6 fu 0 t4 (by omega) (by omega) (show gi t4 51 = nI (23 + 0) from a4)
  have e5' : f_M_moveRow_had fu t4 6 1 = some t5 := e5
  obtain ⟨t6, e6, a6, b6, c6, d6, f6, g6⟩ := mk_weight (fu := fu) (b := 29) (by omega) 8 fu 0 t5 (by omega) (by omega) (show gi t5 51 = nI (29 + 0) from a5)
  have e6' : f_M_moveRow_weight fu t5 8 1 = some t6 := e6
  obtain ⟨t7, e7, a7, b7, c7, d7, f7, g7⟩ := mk_worth (fu := fu) (b := 37) (by omega) 48 fu 0 t6 (by omega) (by omega) (show gi t6 51 = nI (37 + 0) from a6)
  have e7' : f_M_moveRow_worth fu t6 48 1 = some t7 := e7
  obtain ⟨t8, e8, a8, b8, c8, d8, f8, g8⟩ := mk_laws (fu := fu) (b := 85) (by omega) 3 fu 0 t7 (by omega) (by omega) (show gi t7 51 = nI (85 + 0) from a7)
  have e8' : f_M_moveRow_laws fu t7 3 1 = some t8 := e8
  obtain ⟨t9, e9, a9, b9, c9, d9, f9, g9⟩ := mk_row (fu := fu) (b := 88) (by omega) 7 fu 0 t8 (by omega) (by omega) (show gi t8 51 = nI (88 + 0) from a8)
  have e9' : f_M_moveRow_row fu t8 7 1 = some t9 := e9
  have m : f_M_moveAll fu s 1 = some t9 := by
    unfold f_M_moveAll
    simp only [lt_lt]
    show bd1 (f_M_moveRow_single fu (sr (sr (sr (sr (sr (si s 51 0) 52 0 (gi s 0)) 52 1 (gi s 5)) 52 2 (gi s 12)) 52 3 (gi s 13)) 52 4 (gi s 14)) 5 1) _ = _
    rw [bd1_eq _ e1', bd1_eq _ e2', bd1_eq _ e3', bd1_eq _ e4', bd1_eq _ e5', bd1_eq _ e6', bd1_eq _ e7', bd1_eq _ e8', bd1_eq _ e9']
  have k1 : ∀ x, x < 5 → gr t9 50 (0 + x) = gr (sr (sr (sr (sr (sr (si s 51 0) 52 0 (gi s 0)) 52 1 (gi s 5)) 52 2 (gi s 12)) 52 3 (gi s 13)) 52 4 (gi s 14)) 52 x := fun x hx => (f9 _ (by omega)).trans ((f8 _ (by omega)).trans ((f7 _ (by omega)).trans ((f6 _ (by omega)).trans ((f5 _ (by omega)).trans ((f4 _ (by omega)).trans ((f3 _ (by omega)).trans ((f2 _ (by omega)).trans (g1 x (by omega) hx))))))))
  have k2 : ∀ x, x < 6 → gr t9 50 (5 + x) = gr s 1 x := fun x hx => (f9 _ (by omega)).trans ((f8 _ (by omega)).trans ((f7 _ (by omega)).trans ((f6 _ (by omega)).trans ((f5 _ (by omega)).trans ((f4 _ (by omega)).trans ((f3 _ (by omega)).trans ((g2 x (by omega) hx).trans (((congrFun (c1 1 (by omega)) x).trans rfl)))))))))
  have k3 : ∀ x, x < 6 → gr t9 50 (11 + x) = gr s 2 x := fun x hx => (f9 _ (by omega)).trans ((f8 _ (by omega)).trans ((f7 _ (by omega)).trans ((f6 _ (by omega)).trans ((f5 _ (by omega)).trans ((f4 _ (by omega)).trans ((g3 x (by omega) hx).trans (((congrFun (c2 2 (by omega)) x).trans ((congrFun (c1 2 (by omega)) x).trans rfl)))))))))
  have k4 : ∀ x, x < 6 → gr t9 50 (17 + x) = gr s 3 x := fun x hx => (f9 _ (by omega)).trans ((f8 _ (by omega)).trans ((f7 _ (by omega)).trans ((f6 _ (by omega)).trans ((f5 _ (by omega)).trans ((g4 x (by omega) hx).trans (((congrFun (c3 3 (by omega)) x).trans ((congrFun (c2 3 (by omega)) x).trans ((congrFun (c1 3 (by omega)) x).trans rfl)))))))))
  have k5 : ∀ x, x < 6 → gr t9 50 (23 + x) = gr s 4 x := fun x hx => (f9 _ (by omega)).trans ((f8 _ (by omega)).trans ((f7 _ (by omega)).trans ((f6 _ (by omega)).trans ((g5 x (by omega) hx).trans (((congrFun (c4 4 (by omega)) x).trans ((congrFun (c3 4 (by omega)) x).trans ((congrFun (c2 4 (by omega)) x).trans ((congrFun (c1 4 (by omega)) x).trans rfl)))))))))
  have k6 : ∀ x, x < 8 → gr t9 50 (29 + x) = gr s 6 x := fun x hx => (f9 _ (by omega)).trans ((f8 _ (by omega)).trans ((f7 _ (by omega)).trans ((g6 x (by omega) hx).trans (((congrFun (c5 6 (by omega)) x).trans ((congrFun (c4 6 (by omega)) x).trans ((congrFun (c3 6 (by omega)) x).trans ((congrFun (c2 6 (by omega)) x).trans ((congrFun (c1 6 (by omega)) x).trans rfl)))))))))
  have k7 : ∀ x, x < 48 → gr t9 50 (37 + x) = gr s 7 x := fun x hx => (f9 _ (by omega)).trans ((f8 _ (by omega)).trans ((g7 x (by omega) hx).trans (((congrFun (c6 7 (by omega)) x).trans ((congrFun (c5 7 (by omega)) x).trans ((congrFun (c4 7 (by omega)) x).trans ((congrFun (c3 7 (by omega)) x).trans ((congrFun (c2 7 (by omega)) x).trans ((congrFun (c1 7 (by omega)) x).trans rfl)))))))))
  have k8 : ∀ x, x < 3 → gr t9 50 (85 + x) = gr s 8 x := fun x hx => (f9 _ (by omega)).trans ((g8 x (by omega) hx).trans (((congrFun (c7 8 (by omega)) x).trans ((congrFun (c6 8 (by omega)) x).trans ((congrFun (c5 8 (by omega)) x).trans ((congrFun (c4 8 (by omega)) x).trans ((congrFun (c3 8 (by omega)) x).trans ((congrFun (c2 8 (by omega)) x).trans ((congrFun (c1 8 (by omega)) x).trans rfl)))))))))
  have k9 : ∀ x, x < 7 → gr t9 50 (88 + x) = gr s 11 x := fun x hx => (g9 x (by omega) hx).trans (((congrFun (c8 11 (by omega)) x).trans ((congrFun (c7 11 (by omega)) x).trans ((congrFun (c6 11 (by omega)) x).trans ((congrFun (c5 11 (by omega)) x).trans ((congrFun (c4 11 (by omega)) x).trans ((congrFun (c3 11 (by omega)) x).trans ((congrFun (c2 11 (by omega)) x).trans ((congrFun (c1 11 (by omega)) x).trans rfl)))))))))
  refine ⟨si t9 49 1, by unfold f_M_keep; rw [bd1_eq _ m]; rfl, ⟨⟨?_, ?_, ?_, ?_, ?_⟩, fun p hp => ⟨?_, ?_, ?_, ?_⟩, fun p hp => ?_, fun p hp => ?_, fun p hp => ?_, fun p hp => ?_⟩, ⟨fun i h1 h2 => ?_, fun i h1 h2 => ?_, ?_⟩, rfl⟩
  · exact k1 0 (by omega)
  · exact k1 1 (by omega)
  · exact k1 2 (by omega)
  · exact k1 3 (by omega)
  · exact k1 4 (by omega)
  · exact k2 p hp
  · exact k3 p hp
  · exact k4 p hp
  · exact k5 p hp
  · exact k6 p hp
  · exact k7 p hp
  · exact k8 p hp
  · exact k9 p hp
  · rw [gi_si, if_neg h1]
    exact (b9 i h2).trans ((b8 i h2).trans ((b7 i h2).trans ((b6 i h2).trans ((b5 i h2).trans ((b4 i h2).trans ((b3 i h2).trans ((b2 i h2).trans ((b1 i h2).trans (if_neg h2)))))))))
  · rw [gr_si]
    exact (c9 i h1).trans ((c8 i h1).trans ((c7 i h1).trans ((c6 i h1).trans ((c5 i h1).trans ((c4 i h1).trans ((c3 i h1).trans ((c2 i h1).trans ((c1 i h1).trans (by
      show (if i = 52 then _ else if i = 52 then _ else if i = 52 then _ else if i = 52 then _ else if i = 52 then _ else gr s i) = _
      rw [if_neg h2, if_neg h2, if_neg h2, if_neg h2, if_neg h2])))))))))
  · exact d9.trans (d8.trans (d7.trans (d6.trans (d5.trans (d4.trans (d3.trans (d2.trans (d1.trans (rfl)))))))))
theorem M_again {fu : Nat} (hfu : 5000 ≤ fu) (s : g_St) (h49 : ¬ gi s 49 = 0) : ∃ s', f_M_again fu s = some (gi s' 0, s') ∧ AG (uk (gr s 50)) s' ∧ OV s s' := by
  have z0 : gi (sr (sr (sr (sr (sr (si s 51 0) 52 0 (gi s 0)) 52 1 (gi s 5)) 52 2 (gi s 12)) 52 3 (gi s 13)) 52 4 (gi s 14)) 51 = nI (0 + 0) := rfl
  obtain ⟨t1, e1, a1, b1, c1, d1, f1, g1⟩ := ml_single (fu := fu) (b := 0) (by omega) 5 fu 0 (sr (sr (sr (sr (sr (si s 51 0) 52 0 (gi s 0)) 52 1 (gi s 5)) 52 2 (gi s 12)) 52 3 (gi s 13)) 52 4 (gi s 14)) (by omega) (by omega) z0
  have e1' : f_M_moveRow_single fu (sr (sr (sr (sr (sr (si s 51 0) 52 0 (gi s 0)) 52 1 (gi s 5)) 52 2 (gi s 12)) 52 3 (gi s 13)) 52 4 (gi s 14)) 5 0 = some t1 := e1
  obtain ⟨t2, e2, a2, b2, c2, d2, f2, g2⟩ := ml_kindOf (fu := fu) (b := 5) (by omega) 6 fu 0 t1 (by omega) (by omega) (show gi t1 51 = nI (5 + 0) from a1)
  have e2' : f_M_moveRow_kindOf fu t1 6 0 = some t2 := e2
  obtain ⟨t3, e3, a3, b3, c3, d3, f3, g3⟩ := ml_aOf (fu := fu) (b := 11) (by omega) 6 fu 0 t2 (by omega) (by omega) (show gi t2 51 = nI (11 + 0) from a2)
  have e3' : f_M_moveRow_aOf fu t2 6 0 = some t3 := e3
  obtain ⟨t4, e4, a4, b4, c4, d4, f4, g4⟩ := ml_age (fu := fu) (b := 17) (by omega) 6 fu 0 t3 (by omega) (by omega) (show gi t3 51 = nI (17 + 0) from a3)
  have e4' : f_M_moveRow_age fu t3 6 0 = some t4 := e4
  obtain ⟨t5, e5, a5, b5, c5, d5, f5, g5⟩ := ml_had (fu := fu) (b := 23) (by omega) 6 fu 0 t4 (by omega) (by omega) (show gi t4 51 = nI (23 + 0) from a4)
  have e5' : f_M_moveRow_had fu t4 6 0 = some t5 := e5
  obtain ⟨t6, e6, a6, b6, c6, d6, f6, g6⟩ := ml_weight (fu := fu) (b := 29) (by omega) 8 fu 0 t5 (by omega) (by omega) (show gi t5 51 = nI (29 + 0) from a5)
  have e6' : f_M_moveRow_weight fu t5 8 0 = some t6 := e6
  obtain ⟨t7, e7, a7, b7, c7, d7, f7, g7⟩ := ml_worth (fu := fu) (b := 37) (by omega) 48 fu 0 t6 (by omega) (by omega) (show gi t6 51 = nI (37 + 0) from a6)
  have e7' : f_M_moveRow_worth fu t6 48 0 = some t7 := e7
  obtain ⟨t8, e8, a8, b8, c8, d8, f8, g8⟩ := ml_laws (fu := fu) (b := 85) (by omega) 3 fu 0 t7 (by omega) (by omega) (show gi t7 51 = nI (85 + 0) from a7)
  have e8' : f_M_moveRow_laws fu t7 3 0 = some t8 := e8
  obtain ⟨t9, e9, a9, b9, c9, d9, f9, g9⟩ := ml_row (fu := fu) (b := 88) (by omega) 7 fu 0 t8 (by omega) (by omega) (show gi t8 51 = nI (88 + 0) from a8)
  have e9' : f_M_moveRow_row fu t8 7 0 = some t9 := e9
  have m : f_M_moveAll fu s 0 = some t9 := by
    unfold f_M_moveAll
    simp only [lt_lt]
    show bd1 (f_M_moveRow_single fu (sr (sr (sr (sr (sr (si s 51 0) 52 0 (gi s 0)) 52 1 (gi s 5)) 52 2 (gi s 12)) 52 3 (gi s 13)) 52 4 (gi s 14)) 5 0) _ = _
    rw [bd1_eq _ e1', bd1_eq _ e2', bd1_eq _ e3', bd1_eq _ e4', bd1_eq _ e5', bd1_eq _ e6', bd1_eq _ e7', bd1_eq _ e8', bd1_eq _ e9']
  have k1 : ∀ x, x < 5 → gr t9 52 x = gr s 50 (0 + x) := fun x hx => (congrFun (c9 52 (by omega)) x).trans ((congrFun (c8 52 (by omega)) x).trans ((congrFun (c7 52 (by omega)) x).trans ((congrFun (c6 52 (by omega)) x).trans ((congrFun (c5 52 (by omega)) x).trans ((congrFun (c4 52 (by omega)) x).trans ((congrFun (c3 52 (by omega)) x).trans ((congrFun (c2 52 (by omega)) x).trans ((g1 x (by omega) hx).trans (rfl)))))))))
  have k2 : ∀ x, x < 6 → gr t9 1 x = gr s 50 (5 + x) := fun x hx => (congrFun (c9 1 (by omega)) x).trans ((congrFun (c8 1 (by omega)) x).trans ((congrFun (c7 1 (by omega)) x).trans ((congrFun (c6 1 (by omega)) x).trans ((congrFun (c5 1 (by omega)) x).trans ((congrFun (c4 1 (by omega)) x).trans ((congrFun (c3 1 (by omega)) x).trans ((g2 x (by omega) hx).trans (((congrFun (c1 50 (by omega)) (5 + x)).trans rfl)))))))))
  have k3 : ∀ x, x < 6 → gr t9 2 x = gr s 50 (11 + x) := fun x hx => (congrFun (c9 2 (by omega)) x).trans ((congrFun (c8 2 (by omega)) x).trans ((congrFun (c7 2 (by omega)) x).trans ((congrFun (c6 2 (by omega)) x).trans ((congrFun (c5 2 (by omega)) x).trans ((congrFun (c4 2 (by omega)) x).trans ((g3 x (by omega) hx).trans (((congrFun (c2 50 (by omega)) (11 + x)).trans ((congrFun (c1 50 (by omega)) (11 + x)).trans rfl)))))))))
  have k4 : ∀ x, x < 6 → gr t9 3 x = gr s 50 (17 + x) := fun x hx => (congrFun (c9 3 (by omega)) x).trans ((congrFun (c8 3 (by omega)) x).trans ((congrFun (c7 3 (by omega)) x).trans ((congrFun (c6 3 (by omega)) x).trans ((congrFun (c5 3 (by omega)) x).trans ((g4 x (by omega) hx).trans (((congrFun (c3 50 (by omega)) (17 + x)).trans ((congrFun (c2 50 (by omega)) (17 + x)).trans ((congrFun (c1 50 (by omega)) (17 + x)).trans rfl)))))))))
  have k5 : ∀ x, x < 6 → gr t9 4 x = gr s 50 (23 + x) := fun x hx => (congrFun (c9 4 (by omega)) x).trans ((congrFun (c8 4 (by omega)) x).trans ((congrFun (c7 4 (by omega)) x).trans ((congrFun (c6 4 (by omega)) x).trans ((g5 x (by omega) hx).trans (((congrFun (c4 50 (by omega)) (23 + x)).trans ((congrFun (c3 50 (by omega)) (23 + x)).trans ((congrFun (c2 50 (by omega)) (23 + x)).trans ((congrFun (c1 50 (by omega)) (23 + x)).trans rfl)))))))))
  have k6 : ∀ x, x < 8 → gr t9 6 x = gr s 50 (29 + x) := fun x hx => (congrFun (c9 6 (by omega)) x).trans ((congrFun (c8 6 (by omega)) x).trans ((congrFun (c7 6 (by omega)) x).trans ((g6 x (by omega) hx).trans (((congrFun (c5 50 (by omega)) (29 + x)).trans ((congrFun (c4 50 (by omega)) (29 + x)).trans ((congrFun (c3 50 (by omega)) (29 + x)).trans ((congrFun (c2 50 (by omega)) (29 + x)).trans ((congrFun (c1 50 (by omega)) (29 + x)).trans rfl)))))))))
  have k7 : ∀ x, x < 48 → gr t9 7 x = gr s 50 (37 + x) := fun x hx => (congrFun (c9 7 (by omega)) x).trans ((congrFun (c8 7 (by omega)) x).trans ((g7 x (by omega) hx).trans (((congrFun (c6 50 (by omega)) (37 + x)).trans ((congrFun (c5 50 (by omega)) (37 + x)).trans ((congrFun (c4 50 (by omega)) (37 + x)).trans ((congrFun (c3 50 (by omega)) (37 + x)).trans ((congrFun (c2 50 (by omega)) (37 + x)).trans ((congrFun (c1 50 (by omega)) (37 + x)).trans rfl)))))))))
  have k8 : ∀ x, x < 3 → gr t9 8 x = gr s 50 (85 + x) := fun x hx => (congrFun (c9 8 (by omega)) x).trans ((g8 x (by omega) hx).trans (((congrFun (c7 50 (by omega)) (85 + x)).trans ((congrFun (c6 50 (by omega)) (85 + x)).trans ((congrFun (c5 50 (by omega)) (85 + x)).trans ((congrFun (c4 50 (by omega)) (85 + x)).trans ((congrFun (c3 50 (by omega)) (85 + x)).trans ((congrFun (c2 50 (by omega)) (85 + x)).trans ((congrFun (c1 50 (by omega)) (85 + x)).trans rfl)))))))))
  have k9 : ∀ x, x < 7 → gr t9 11 x = gr s 50 (88 + x) := fun x hx => (g9 x (by omega) hx).trans (((congrFun (c8 50 (by omega)) (88 + x)).trans ((congrFun (c7 50 (by omega)) (88 + x)).trans ((congrFun (c6 50 (by omega)) (88 + x)).trans ((congrFun (c5 50 (by omega)) (88 + x)).trans ((congrFun (c4 50 (by omega)) (88 + x)).trans ((congrFun (c3 50 (by omega)) (88 + x)).trans ((congrFun (c2 50 (by omega)) (88 + x)).trans ((congrFun (c1 50 (by omega)) (88 + x)).trans rfl)))))))))
  refine ⟨si (si (si (si (si t9 0 (gr t9 52 0)) 5 (gr t9 52 1)) 12 (gr t9 52 2)) 13 (gr t9 52 3)) 14 (gr t9 52 4), by unfold f_M_again; rw [if_neg h49, bd1_eq _ m]; rfl, ⟨⟨k1 0 (by omega), k1 1 (by omega), k1 2 (by omega), k1 3 (by omega), k1 4 (by omega)⟩, fun p hp => ⟨k2 p hp, k3 p hp, k4 p hp, k5 p hp⟩, fun p hp => k6 p hp, fun p hp => k7 p hp, fun p hp => k8 p hp, fun p hp => k9 p hp⟩, ⟨?_, ?_, ?_, ?_, ?_⟩, ⟨?_, ?_, ?_, ?_, ?_, ?_⟩, ?_, ?_, ?_, ?_, ?_, ?_⟩
  · exact (b9 16 (by omega)).trans ((b8 16 (by omega)).trans ((b7 16 (by omega)).trans ((b6 16 (by omega)).trans ((b5 16 (by omega)).trans ((b4 16 (by omega)).trans ((b3 16 (by omega)).trans ((b2 16 (by omega)).trans ((b1 16 (by omega)).trans (rfl)))))))))
  · exact (b9 29 (by omega)).trans ((b8 29 (by omega)).trans ((b7 29 (by omega)).trans ((b6 29 (by omega)).trans ((b5 29 (by omega)).trans ((b4 29 (by omega)).trans ((b3 29 (by omega)).trans ((b2 29 (by omega)).trans ((b1 29 (by omega)).trans (rfl)))))))))
  · exact (b9 36 (by omega)).trans ((b8 36 (by omega)).trans ((b7 36 (by omega)).trans ((b6 36 (by omega)).trans ((b5 36 (by omega)).trans ((b4 36 (by omega)).trans ((b3 36 (by omega)).trans ((b2 36 (by omega)).trans ((b1 36 (by omega)).trans (rfl)))))))))
  · exact (b9 47 (by omega)).trans ((b8 47 (by omega)).trans ((b7 47 (by omega)).trans ((b6 47 (by omega)).trans ((b5 47 (by omega)).trans ((b4 47 (by omega)).trans ((b3 47 (by omega)).trans ((b2 47 (by omega)).trans ((b1 47 (by omega)).trans (rfl)))))))))
  · exact (b9 49 (by omega)).trans ((b8 49 (by omega)).trans ((b7 49 (by omega)).trans ((b6 49 (by omega)).trans ((b5 49 (by omega)).trans ((b4 49 (by omega)).trans ((b3 49 (by omega)).trans ((b2 49 (by omega)).trans ((b1 49 (by omega)).trans (rfl)))))))))
  · exact (c9 9 (by omega)).trans ((c8 9 (by omega)).trans ((c7 9 (by omega)).trans ((c6 9 (by omega)).trans ((c5 9 (by omega)).trans ((c4 9 (by omega)).trans ((c3 9 (by omega)).trans ((c2 9 (by omega)).trans ((c1 9 (by omega)).trans (rfl)))))))))
  · exact (c9 10 (by omega)).trans ((c8 10 (by omega)).trans ((c7 10 (by omega)).trans ((c6 10 (by omega)).trans ((c5 10 (by omega)).trans ((c4 10 (by omega)).trans ((c3 10 (by omega)).trans ((c2 10 (by omega)).trans ((c1 10 (by omega)).trans (rfl)))))))))
  · exact (c9 15 (by omega)).trans ((c8 15 (by omega)).trans ((c7 15 (by omega)).trans ((c6 15 (by omega)).trans ((c5 15 (by omega)).trans ((c4 15 (by omega)).trans ((c3 15 (by omega)).trans ((c2 15 (by omega)).trans ((c1 15 (by omega)).trans (rfl)))))))))
  · exact (c9 34 (by omega)).trans ((c8 34 (by omega)).trans ((c7 34 (by omega)).trans ((c6 34 (by omega)).trans ((c5 34 (by omega)).trans ((c4 34 (by omega)).trans ((c3 34 (by omega)).trans ((c2 34 (by omega)).trans ((c1 34 (by omega)).trans (rfl)))))))))
  · exact (c9 37 (by omega)).trans ((c8 37 (by omega)).trans ((c7 37 (by omega)).trans ((c6 37 (by omega)).trans ((c5 37 (by omega)).trans ((c4 37 (by omega)).trans ((c3 37 (by omega)).trans ((c2 37 (by omega)).trans ((c1 37 (by omega)).trans (rfl)))))))))
  · exact (c9 38 (by omega)).trans ((c8 38 (by omega)).trans ((c7 38 (by omega)).trans ((c6 38 (by omega)).trans ((c5 38 (by omega)).trans ((c4 38 (by omega)).trans ((c3 38 (by omega)).trans ((c2 38 (by omega)).trans ((c1 38 (by omega)).trans (rfl)))))))))
  · exact (c9 40 (by omega)).trans ((c8 40 (by omega)).trans ((c7 40 (by omega)).trans ((c6 40 (by omega)).trans ((c5 40 (by omega)).trans ((c4 40 (by omega)).trans ((c3 40 (by omega)).trans ((c2 40 (by omega)).trans ((c1 40 (by omega)).trans (rfl)))))))))
  · exact (c9 41 (by omega)).trans ((c8 41 (by omega)).trans ((c7 41 (by omega)).trans ((c6 41 (by omega)).trans ((c5 41 (by omega)).trans ((c4 41 (by omega)).trans ((c3 41 (by omega)).trans ((c2 41 (by omega)).trans ((c1 41 (by omega)).trans (rfl)))))))))
  · exact (c9 42 (by omega)).trans ((c8 42 (by omega)).trans ((c7 42 (by omega)).trans ((c6 42 (by omega)).trans ((c5 42 (by omega)).trans ((c4 42 (by omega)).trans ((c3 42 (by omega)).trans ((c2 42 (by omega)).trans ((c1 42 (by omega)).trans (rfl)))))))))
  · exact (c9 46 (by omega)).trans ((c8 46 (by omega)).trans ((c7 46 (by omega)).trans ((c6 46 (by omega)).trans ((c5 46 (by omega)).trans ((c4 46 (by omega)).trans ((c3 46 (by omega)).trans ((c2 46 (by omega)).trans ((c1 46 (by omega)).trans (rfl)))))))))
  · exact (c9 50 (by omega)).trans ((c8 50 (by omega)).trans ((c7 50 (by omega)).trans ((c6 50 (by omega)).trans ((c5 50 (by omega)).trans ((c4 50 (by omega)).trans ((c3 50 (by omega)).trans ((c2 50 (by omega)).trans ((c1 50 (by omega)).trans (rfl)))))))))
  · exact congrFun (d9.trans (d8.trans (d7.trans (d6.trans (d5.trans (d4.trans (d3.trans (d2.trans (d1.trans (rfl)))))))))) 39
/-- what both have kept -/
def KE (w kp s : g_St) : Prop := (gi w 2 = 0 ∧ gi s 49 = 0) ∨ (gi w 2 = 1 ∧ gi s 49 = 1 ∧ ∃ P Q, RV P Q kp (uk (gr s 50)))
theorem t_keep {fu P Q : Nat} (hfu : 5000 ≤ fu) {w v kp s : g_St} (h : RV P Q v s) : ∃ r w' kp' s', f_O_keep fu w v kp = some (r, w', kp') ∧ f_M_keep fu s = some (r, s') ∧ KE w' kp' s' ∧ OK s s' ∧ (∀ i, i ≠ 2 → gi w' i = gi w i) ∧ gr w' = gr w := by
  obtain ⟨kp', e1, c⟩ := V_copy hfu kp v
  obtain ⟨s', e2, g1, g2, g3⟩ := M_keep hfu s
  refine ⟨1, si w 2 1, kp', s', ?_, e2, Or.inr ⟨rfl, g3, P, Q, (h.copy c).ag g1⟩, g2, fun i hi => if_neg hi, rfl⟩
  unfold f_O_keep
  rw [bd1_eq _ e1]; rfl
theorem t_again {fu P Q : Nat} (hfu : 5000 ≤ fu) {w v kp s : g_St} (h : RV P Q v s) (hK : KE w kp s) : ∃ r v' s' P' Q', f_O_again fu w v kp = some (r, v') ∧ f_M_again fu s = some (r, s') ∧ RV P' Q' v' s' ∧ OV s s' := by
  rcases hK with ⟨k1, k2⟩ | ⟨k1, k2, P', Q', k3⟩
  · unfold f_O_again f_M_again
    rw [k1, k2, if_pos rfl, if_pos rfl]
    exact ⟨_, v, s, P, Q, rfl, rfl, h, OV.rf⟩
  · obtain ⟨v', e1, c⟩ := V_copy hfu v kp
    obtain ⟨s', e2, g1, g2⟩ := M_again hfu s (by rw [k2]; decide)
    have hR := (k3.copy c).ag g1
    refine ⟨gi s' 0, v', s', P', Q', ?_, e2, hR, g2⟩
    unfold f_O_again
    rw [k1, if_neg ne10, bd1_eq _ e1, hR.1.1.2.2.1, hR.1.1.2.2.2.1]
