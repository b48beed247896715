/-! village: the tape becomes the village. -/
theorem M_fill_p {fu : Nat} : ∀ (k n j F : Nat) (s : g_St), k + j = F → F ≤ 6 → k < n → gi s 0 = nI F → ∃ s', f_M_village_L100 fu n s (nI j) = f_M_village_L193 fu fu (si s' 5 (gi s' 24)) 0 ∧ (∀ i, gi s' i = gi s i) ∧ (∀ i, i ≠ 1 → i ≠ 2 → i ≠ 3 → i ≠ 4 → i ≠ 11 → gr s' i = gr s i) ∧ gt s' = gt s ∧ (∀ p, j ≤ p → p < F → gr s' 1 p = gr s 25 (4 * p) ∧ gr s' 2 p = gr s 25 (4 * p + 1) ∧ gr s' 3 p = gr s 25 (4 * p + 2) ∧ gr s' 11 p = gr s 25 (4 * p + 3) ∧ gr s' 4 p = 0) ∧ ∀ p, p < j → gr s' 1 p = gr s 1 p ∧ gr s' 2 p = gr s 2 p ∧ gr s' 3 p = gr s 3 p ∧ gr s' 11 p = gr s 11 p ∧ gr s' 4 p = gr s 4 p := by
  intro k
  induction k with
  | zero =>
    intro n j F s hk hF hn s0
    obtain ⟨n, rfl⟩ : ∃ x, n = x + 1 := ⟨n - 1, by omega⟩
    refine ⟨s, ?_, fun _ => rfl, fun _ _ _ _ _ _ => rfl, rfl, fun p h1 h2 => by omega, fun p _ => ⟨rfl, rfl, rfl, rfl, rfl⟩⟩
    rw [f_M_village_L100, s0, if_pos (nI_le (by omega) (by omega)), lt_lt, lt_lt]
  | succ k ih =>
    intro n j F s hk hF hn s0
    obtain ⟨n, rfl⟩ : ∃ x, n = x + 1 := ⟨n - 1, by omega⟩
    have c : (nI j).toNatClampNeg = j := nIc (by omega)
    obtain ⟨s', e, a1, a2, a3, a4, a5⟩ := ih n (j + 1) F (sr (sr (sr (sr (sr s 1 (nI j) (gr s 25 (4 * j))) 2 (nI j) (gr s 25 (4 * j + 1))) 3 (nI j) (gr s 25 (4 * j + 2))) 11 (nI j) (gr s 25 (4 * j + 3))) 4 (nI j) 0) (by omega) hF (by omega) s0
    have at1 : ∀ p, gr (sr (sr (sr (sr (sr s 1 (nI j) (gr s 25 (4 * j))) 2 (nI j) (gr s 25 (4 * j + 1))) 3 (nI j) (gr s 25 (4 * j + 2))) 11 (nI j) (gr s 25 (4 * j + 3))) 4 (nI j) 0) 1 p = if p = j then gr s 25 (4 * j) else gr s 1 p := fun p => by
      show upd (gr s 1) (nI j).toNatClampNeg _ p = _
      rw [c, upd_at]
    have at2 : ∀ p, gr (sr (sr (sr (sr (sr s 1 (nI j) (gr s 25 (4 * j))) 2 (nI j) (gr s 25 (4 * j + 1))) 3 (nI j) (gr s 25 (4 * j + 2))) 11 (nI j) (gr s 25 (4 * j + 3))) 4 (nI j) 0) 2 p = if p = j then gr s 25 (4 * j + 1) else gr s 2 p := fun p => by
      show upd (gr s 2) (nI j).toNatClampNeg _ p = _
      rw [c, upd_at]
    have at3 : ∀ p, gr (sr (sr (sr (sr (sr s 1 (nI j) (gr s 25 (4 * j))) 2 (nI j) (gr s 25 (4 * j + 1))) 3 (nI j) (gr s 25 (4 * j + 2))) 11 (nI j) (gr s 25 (4 * j + 3))) 4 (nI j) 0) 3 p = if p = j then gr s 25 (4 * j + 2) else gr s 3 p := fun p => by
      show upd (gr s 3) (nI j).toNatClampNeg _ p = _
      rw [c, upd_at]
    have at11 : ∀ p, gr (sr (sr (sr (sr (sr s 1 (nI j) (gr s 25 (4 * j))) 2 (nI j) (gr s 25 (4 * j + 1))) 3 (nI j) (gr s 25 (4 * j + 2))) 11 (nI j) (gr s 25 (4 * j + 3))) 4 (nI j) 0) 11 p = if p = j then gr s 25 (4 * j + 3) else gr s 11 p := fun p => by
      show upd (gr s 11) (nI j).toNatClampNeg _ p = _
      rw [c, upd_at]
    have at4 : ∀ p, gr (sr (sr (sr (sr (sr s 1 (nI j) (gr s 25 (4 * j))) 2 (nI j) (gr s 25 (4 * j + 1))) 3 (nI j) (gr s 25 (4 * j + 2))) 11 (nI j) (gr s 25 (4 * j + 3))) 4 (nI j) 0) 4 p = if p = j then 0 else gr s 4 p := fun p => by
      show upd (gr s 4) (nI j).toNatClampNeg _ p = _
      rw [c, upd_at]
    refine ⟨s', ?_, fun i => a1 i, fun i i1 i2 i3 i4 i5 => ?_, a3, fun p h1 h2 => ?_, fun p hp => ?_⟩
    · have b1 : gr (sr s 1 (nI j) (gr s 25 (4 * j))) 25 = gr s 25 := rfl
      have b2 : gr (sr (sr s 1 (nI j) (gr s 25 (4 * j))) 2 (nI j) (gr s 25 (4 * j + 1))) 25 = gr s 25 := rfl
      have b3 : gr (sr (sr (sr s 1 (nI j) (gr s 25 (4 * j))) 2 (nI j) (gr s 25 (4 * j + 1))) 3 (nI j) (gr s 25 (4 * j + 2))) 25 = gr s 25 := rfl
      rw [f_M_village_L100, s0, if_neg (nI_ge (by omega) (by omega)), four1, show nI (4 * j) + 1 = nI (4 * j + 1) from nI_add _ 1, show nI (4 * j) + 2 = nI (4 * j + 2) from nI_add _ 2, show nI (4 * j) + 3 = nI (4 * j + 3) from nI_add _ 3]
      simp only [gd_of (vpn (show 4 * j < 24 by omega) (show 24 ≤ 4096 by omega)), gd_of (vpn (show 4 * j + 1 < 24 by omega) (show 24 ≤ 4096 by omega)), gd_of (vpn (show 4 * j + 2 < 24 by omega) (show 24 ≤ 4096 by omega)), gd_of (vpn (show 4 * j + 3 < 24 by omega) (show 24 ≤ 4096 by omega)), gd_of (vpn (show j < 6 by omega) (show 6 ≤ 4096 by omega)), gd_of (vpn (show j < 35 by omega) (show 35 ≤ 4096 by omega)), lt_lt, nIc (show 4 * j ≤ 4096 by omega), nIc (show 4 * j + 1 ≤ 4096 by omega), nIc (show 4 * j + 2 ≤ 4096 by omega), nIc (show 4 * j + 3 ≤ 4096 by omega), b1, b2, b3]
      rw [nI_1]
      exact e
    · rw [a2 i i1 i2 i3 i4 i5, gr_sr, if_neg i4, gr_sr, if_neg i5, gr_sr, if_neg i3, gr_sr, if_neg i2, gr_sr, if_neg i1]
    · by_cases z : p = j
      · subst z
        obtain ⟨k1, k2, k3, k4, k5⟩ := a5 p (by omega)
        rw [k1, k2, k3, k4, k5, at1, at2, at3, at11, at4, if_pos rfl, if_pos rfl, if_pos rfl, if_pos rfl, if_pos rfl]
        exact ⟨rfl, rfl, rfl, rfl, rfl⟩
      · exact a4 p (by omega) h2
    · obtain ⟨k1, k2, k3, k4, k5⟩ := a5 p (by omega)
      have z : ¬ p = j := by omega
      rw [k1, k2, k3, k4, k5, at1, at2, at3, at11, at4, if_neg z, if_neg z, if_neg z, if_neg z, if_neg z]
      exact ⟨rfl, rfl, rfl, rfl, rfl⟩
theorem M_fill_w {fu q : Nat} {K : g_St → Int32 → Option (Int32 × g_St)} (hq : q < 8) : ∀ (k n j : Nat) (s : g_St), k + j = 6 → k < n → ∃ s', f_M_village_L215 fu K n s (nI q) (nI j) = K s' (nI (q + 1)) ∧ (∀ i, gi s' i = gi s i) ∧ (∀ i, i ≠ 7 → gr s' i = gr s i) ∧ gt s' = gt s ∧ ∀ x, gr s' 7 x = if 6 * q + j ≤ x ∧ x < 6 * q + 6 then gr s 27 x else gr s 7 x := by
  intro k
  induction k with
  | zero =>
    intro n j s hk hn
    obtain ⟨n, rfl⟩ : ∃ x, n = x + 1 := ⟨n - 1, by omega⟩
    refine ⟨s, ?_, fun _ => rfl, fun _ _ => rfl, rfl, fun x => by rw [if_neg (by omega)]⟩
    rw [f_M_village_L215, if_pos (i6le (by omega) (by omega)), lt_lt, nI_1]
  | succ k ih =>
    intro n j s hk hn
    obtain ⟨n, rfl⟩ : ∃ x, n = x + 1 := ⟨n - 1, by omega⟩
    have c : (nI (6 * q + j)).toNatClampNeg = 6 * q + j := nIc (by omega)
    obtain ⟨s', e, a1, a2, a3, a4⟩ := ih n (j + 1) (sr s 7 (nI (6 * q + j)) (gr s 27 (6 * q + j))) (by omega) (by omega)
    refine ⟨s', ?_, fun i => a1 i, fun i hi => (a2 i hi).trans (if_neg hi), a3, fun x => ?_⟩
    · rw [f_M_village_L215, if_neg (i6gt (by omega)), six, gd_of (vpn (n := 6 * q + j) (N := 48) (by omega) (by omega)), lt_lt, gd_of (vpn (n := 6 * q + j) (N := 48) (by omega) (by omega)), lt_lt, lt_lt, c, nI_1]
      exact e
    · rw [a4 x]
      show (if 6 * q + (j + 1) ≤ x ∧ x < 6 * q + 6 then gr s 27 x else upd (gr s 7) (nI (6 * q + j)).toNatClampNeg (gr s 27 (6 * q + j)) x) = _
      rw [c, upd_at]
      by_cases z : 6 * q + (j + 1) ≤ x ∧ x < 6 * q + 6
      · rw [if_pos z, if_pos ⟨by omega, z.2⟩]
      · rw [if_neg z]
        by_cases y : x = 6 * q + j
        · rw [if_pos y, if_pos ⟨by omega, by omega⟩, y]
        · rw [if_neg y, if_neg (by omega)]
theorem M_fill_q {fu : Nat} (hfu : 5000 ≤ fu) : ∀ (k n j G : Nat) (s : g_St), k + j = G → G ≤ 8 → k < n → gi s 5 = nI G → ∃ s', f_M_village_L193 fu n s (nI j) = f_M_village_L257 fu fu s' 0 ∧ (∀ i, gi s' i = gi s i) ∧ (∀ i, i ≠ 6 → i ≠ 7 → gr s' i = gr s i) ∧ gt s' = gt s ∧ (∀ q, j ≤ q → q < G → gr s' 6 q = gr s 26 q ∧ ∀ p, p < 6 → gr s' 7 (6 * q + p) = gr s 27 (6 * q + p)) ∧ ∀ q, q < j → gr s' 6 q = gr s 6 q ∧ ∀ p, p < 6 → gr s' 7 (6 * q + p) = gr s 7 (6 * q + p) := by
  intro k
  induction k with
  | zero =>
    intro n j G s hk hG hn s5
    obtain ⟨n, rfl⟩ : ∃ x, n = x + 1 := ⟨n - 1, by omega⟩
    refine ⟨s, ?_, fun _ => rfl, fun _ _ _ => rfl, rfl, fun q h1 h2 => by omega, fun q _ => ⟨rfl, fun _ _ => rfl⟩⟩
    rw [f_M_village_L193, s5, if_pos (nI_le (by omega) (by omega))]
  | succ k ih =>
    intro n j G s hk hG hn s5
    obtain ⟨n, rfl⟩ : ∃ x, n = x + 1 := ⟨n - 1, by omega⟩
    have c : (nI j).toNatClampNeg = j := nIc (by omega)
    obtain ⟨s1, f, b1, b2, b3, b4⟩ := M_fill_w (fu := fu) (K := f_M_village_L193 fu n) (show j < 8 by omega) 6 fu 0 (sr s 6 (nI j) (gr s 26 j)) (by omega) (by omega)
    have f' : f_M_village_L215 fu (f_M_village_L193 fu n) fu (sr s 6 (nI j) (gr s 26 j)) (nI j) 0 = f_M_village_L193 fu n s1 (nI (j + 1)) := f
    obtain ⟨s', e, a1, a2, a3, a4, a5⟩ := ih n (j + 1) G s1 (by omega) hG (by omega) ((b1 5).trans s5)
    have g26 : gr s1 26 = gr s 26 := (b2 26 (by omega)).trans rfl
    have g27 : gr s1 27 = gr s 27 := (b2 27 (by omega)).trans rfl
    have g6 : ∀ q, gr s1 6 q = if q = j then gr s 26 j else gr s 6 q := fun q => by
      rw [b2 6 (by omega)]
      show upd (gr s 6) (nI j).toNatClampNeg _ q = _
      rw [c, upd_at]
    have g7 : ∀ x, gr s1 7 x = if 6 * j + 0 ≤ x ∧ x < 6 * j + 6 then gr s 27 x else gr s 7 x := fun x => b4 x
    refine ⟨s', ?_, fun i => (a1 i).trans (b1 i), fun i h1 h2 => (a2 i h1 h2).trans ((b2 i h2).trans (if_neg h1)), a3.trans b3, fun q h1 h2 => ?_, fun q hq => ?_⟩
    · rw [f_M_village_L193, s5, if_neg (nI_ge (by omega) (by omega)), gd_of (vpn (n := j) (N := 8) (by omega) (by omega)), lt_lt, gd_of (vpn (n := j) (N := 8) (by omega) (by omega)), lt_lt, c, f']
      exact e
    · by_cases z : q = j
      · subst z
        obtain ⟨k1, k2⟩ := a5 q (by omega)
        rw [k1, g6, if_pos rfl]
        refine ⟨rfl, fun p hp => ?_⟩
        rw [k2 p hp, g7, if_pos ⟨by omega, by omega⟩]
      · rw [← g26, ← g27]
        exact a4 q (by omega) h2
    · obtain ⟨k1, k2⟩ := a5 q (by omega)
      rw [k1, g6, if_neg (by omega)]
      refine ⟨rfl, fun p hp => ?_⟩
      rw [k2 p hp, g7, if_neg (by omega)]
theorem M_fill_l {fu : Nat} (hfu : 5000 ≤ fu) (s : g_St) : ∃ s', f_M_village_L257 fu fu s 0 = some (gi s 0, s') ∧ (∀ i, i ≠ 12 → i ≠ 13 → i ≠ 36 → gi s' i = gi s i) ∧ (gi s' 12 = 0 ∧ gi s' 13 = 0 ∧ gi s' 36 = 0) ∧ (∀ i, i ≠ 8 → i ≠ 11 → gr s' i = gr s i) ∧ gt s' = gt s ∧ (gr s' 8 0 = gr s 28 0 ∧ gr s' 8 1 = gr s 28 1 ∧ gr s' 8 2 = gr s 28 2) ∧ ∀ x, gr s' 11 x = if x = 6 then 1 else gr s 11 x := by
  obtain ⟨n, rfl⟩ : ∃ x, fu = x + 4 := ⟨fu - 4, by omega⟩
  refine ⟨si (si (si (sr (sr (sr (sr s 8 0 (gr s 28 0)) 8 1 (gr s 28 1)) 8 2 (gr s 28 2)) 11 6 1) 12 0) 13 0) 36 0, ?_, fun i h1 h2 h3 => by rw [gi_si, if_neg h3, gi_si, if_neg h2, gi_si, if_neg h1, gi_sr, gi_sr, gi_sr, gi_sr], ⟨rfl, rfl, rfl⟩, fun i h1 h2 => by rw [gr_si, gr_si, gr_si, gr_sr, if_neg h2, gr_sr, if_neg h1, gr_sr, if_neg h1, gr_sr, if_neg h1], rfl, ⟨rfl, rfl, rfl⟩, fun x => rfl⟩
  have e0 : f_M_village_L257 (n + 4) (n + 4) s 0 = f_M_village_L257 (n + 4) (n + 3) (sr s 8 0 (gr s 28 0)) 1 := by
    rw [f_M_village_L257, if_neg (show ¬ (3 : Int32) ≤ 0 by decide), gd_of (vp0 (N := 3) (by omega) (by omega)), lt_lt, gd_of (vp0 (N := 3) (by omega) (by omega)), lt_lt]; rfl
  have e1 : ∀ t : g_St, f_M_village_L257 (n + 4) (n + 3) t 1 = f_M_village_L257 (n + 4) (n + 2) (sr t 8 1 (gr t 28 1)) 2 := fun t => by
    rw [f_M_village_L257, if_neg (show ¬ (3 : Int32) ≤ 1 by decide), gd_of (vp1 (N := 3) (by omega) (by omega)), lt_lt, gd_of (vp1 (N := 3) (by omega) (by omega)), lt_lt]; rfl
  have e2 : ∀ t : g_St, f_M_village_L257 (n + 4) (n + 2) t 2 = f_M_village_L257 (n + 4) (n + 1) (sr t 8 2 (gr t 28 2)) 3 := fun t => by
    rw [f_M_village_L257, if_neg (show ¬ (3 : Int32) ≤ 2 by decide), gd_of (vp2 (N := 3) (by omega) (by omega)), lt_lt, gd_of (vp2 (N := 3) (by omega) (by omega)), lt_lt]; rfl
  rw [e0, e1, e2, f_M_village_L257, if_pos (show (3 : Int32) ≤ 3 by decide)]; rfl
theorem M_first {fu : Nat} (hfu : 5000 ≤ fu) (s : g_St) : f_M_village_L22 fu fu s 0 = bd1 (f_M_advance fu (sr (sr (sr s 28 0 (gr s 9 0)) 28 1 (gr s 9 1)) 28 2 (gr s 9 2))) fun s5 => f_M_village_L49 fu fu s5 := by
  obtain ⟨n, rfl⟩ : ∃ x, fu = x + 4 := ⟨fu - 4, by omega⟩
  have e0 : f_M_village_L22 (n + 4) (n + 4) s 0 = f_M_village_L22 (n + 4) (n + 3) (sr s 28 0 (gr s 9 0)) 1 := by
    rw [f_M_village_L22, if_neg (show ¬ (3 : Int32) ≤ 0 by decide), gd_of (vp0 (N := 3) (by omega) (by omega)), lt_lt, gd_of (vp0 (N := 3) (by omega) (by omega)), lt_lt]; rfl
  have e1 : ∀ t : g_St, f_M_village_L22 (n + 4) (n + 3) t 1 = f_M_village_L22 (n + 4) (n + 2) (sr t 28 1 (gr t 9 1)) 2 := fun t => by
    rw [f_M_village_L22, if_neg (show ¬ (3 : Int32) ≤ 1 by decide), gd_of (vp1 (N := 3) (by omega) (by omega)), lt_lt, gd_of (vp1 (N := 3) (by omega) (by omega)), lt_lt]; rfl
  have e2 : ∀ t : g_St, f_M_village_L22 (n + 4) (n + 2) t 2 = f_M_village_L22 (n + 4) (n + 1) (sr t 28 2 (gr t 9 2)) 3 := fun t => by
    rw [f_M_village_L22, if_neg (show ¬ (3 : Int32) ≤ 2 by decide), gd_of (vp2 (N := 3) (by omega) (by omega)), lt_lt, gd_of (vp2 (N := 3) (by omega) (by omega)), lt_lt]; rfl
  rw [e0, e1, e2, f_M_village_L22, if_pos (show (3 : Int32) ≤ 3 by decide)]; rfl
/-- the bytes of the tape are bytes -/
def BY (N : Nat) (s : g_St) : Prop := ∀ i, i < N → ∃ b, b ≤ 255 ∧ gr s 15 i = nI b
/-- all but what village() writes -/
def OVi (s t : g_St) : Prop := (gi t 29 = gi s 29 ∧ gi t 47 = gi s 47 ∧ gi t 49 = gi s 49) ∧ (gr t 9 = gr s 9 ∧ gr t 10 = gr s 10 ∧ gr t 34 = gr s 34 ∧ gr t 37 = gr s 37 ∧ gr t 38 = gr s 38) ∧ (gr t 40 = gr s 40 ∧ gr t 41 = gr s 41 ∧ gr t 42 = gr s 42 ∧ gr t 46 = gr s 46 ∧ gr t 50 = gr s 50 ∧ gt t 39 = gt s 39)
theorem t_village {fu P Q N n : Nat} (hfu : 5000 ≤ fu) {w v rd md tp s : g_St} (h : RV P Q v s) (c : RC s) (hT : TP N w tp s) (hb : BY N s) (hO : RO n w s) : ∃ r w' v' rd' md' s' P' Q' n', f_O_village fu w v rd md tp = some (r, w', v', rd', md') ∧ f_M_village fu s = some (r, s') ∧ RV P' Q' v' s' ∧ RC s' ∧ TP 0 w' tp s' ∧ RO n' w' s' ∧ OVi s s' ∧ (∀ i, i ≠ 6 → i ≠ 9 → gi w' i = gi w i) ∧ gr w' = gr w := by
  obtain ⟨hN, w6, s16, ht⟩ := hT
  -- the first token
  let B : Nat → Nat := fun i => (gr s 15 i).toNatClampNeg
  have hB : ∀ i, i < N → gr s 15 i = nI (B i) ∧ B i ≤ 255 := fun i hi => by
    obtain ⟨b, h1, h2⟩ := hb i hi
    have e : B i = b := by show (gr s 15 i).toNatClampNeg = b; rw [h2, nIc (by omega)]
    rw [e]; exact ⟨h2, h1⟩
  have clamp : (if (0 : Int32) < (if (240 : Int32) < gi w 6 then (240 : Int32) else gi w 6) then (if (240 : Int32) < gi w 6 then (240 : Int32) else gi w 6) else (0 : Int32)) = nI N := by
    rw [w6, if_neg (show ¬ (240 : Int32) < nI N from nI_nlt (a := 240) hN (by omega))]
    by_cases z : N = 0
    · rw [z]; rfl
    · rw [if_pos (show (0 : Int32) < nI N from nI_lt (a := 0) (by omega) (by omega))]
  have cN : (nI N).toNatClampNeg = N := nIc (by omega)
  have cp : cp_ok 0 0 (nI N) 240 240 := ⟨by decide, by decide, nI_pos (by omega), by rw [cl0, cN]; omega, by rw [cl0, cN]; omega⟩
  have hb0 : BYT N B (si (sra (si rd 2 (nI N)) 1 (va_cpy (gr tp 0) (gr (si rd 2 (nI N)) 1) 0 0 N)) 3 0) (sr (sr (sr (si (si (si (si s 19 0) 22 1) 23 0) 24 0) 28 0 (gr s 9 0)) 28 1 (gr s 9 1)) 28 2 (gr s 9 2)) := by
    refine ⟨hN, rfl, s16, fun i hi => ⟨?_, (hB i hi).1, (hB i hi).2⟩⟩
    show va_cpy (gr tp 0) (gr rd 1) 0 0 N i = nI (B i)
    rw [cpy0 hi, ht i hi]; exact (hB i hi).1
  obtain ⟨t, a, e, rd1, s1, f1, f2, f3, -, f5⟩ := T_adv hfu hb0 rfl rfl (Nat.zero_le N)
  have hF : FR 0 0 (f_V_empty md) s1 := by
    refine FR.oy (s := sr (sr (sr (si (si (si (si s 19 0) 22 1) 23 0) 24 0) 28 0 (gr s 9 0)) 28 1 (gr s 9 1)) 28 2 (gr s 9 2)) ⟨⟨by omega, by omega, rfl, rfl, rfl, rfl⟩, fun p hp => by omega, fun q hq => by omega, ⟨⟨?_, ?_, ?_, rfl⟩, ⟨1, by omega, by omega, rfl⟩, ⟨0, by omega, rfl⟩, ⟨0, by omega, rfl⟩⟩, rfl, rfl⟩ f5.oy
    · exact c.1.symm
    · exact c.2.1.symm
    · exact c.2.2.1.symm
  have g1 : gi s1 22 = 1 := (f5.1 22 (by omega) (by omega) (by omega) (by omega)).trans rfl
  have oz1 : OZ s s1 := by
    refine OZ.trans (t := sr (sr (sr (si (si (si (si s 19 0) 22 1) 23 0) 24 0) 28 0 (gr s 9 0)) 28 1 (gr s 9 1)) 28 2 (gr s 9 2)) ⟨fun i hi => ?_, fun i hi => ?_, rfl⟩ f5.oy.oz
    · rw [gi_sr, gi_sr, gi_sr, gi_si, if_neg (by omega), gi_si, if_neg (by omega), gi_si, if_neg (by omega), gi_si, if_neg (by omega)]
    · rw [gr_sr, if_neg (by omega), gr_sr, if_neg (by omega), gr_sr, if_neg (by omega)]; rfl
  obtain ⟨r, rd2, md2, s2, x1, x2, x3, x4⟩ := X_all (tp := tp) hfu N fu fu 0 rd1 (f_V_empty md) s1 t a e 0 0 (by omega) (by omega) (by omega) (by omega) f3 g1 hF (c.oz oz1)
  have oz2 : OZ s s2 := oz1.trans x3
  have hc : f_TP_readText fu rd md tp (gi w 6) = some (r, rd2, md2) := by
    unfold f_TP_readText
    rw [clamp, lt_lt, lt_lt]
    have k2 : gi (si rd 2 (nI N)) 2 = nI N := rfl
    rw [k2, if_neg (show ¬ (240 : Int32) < nI N from nI_nlt (a := 240) hN (by omega)), gd_of cp, lt_lt, lt_lt, lt_lt, cl0, cN, bd1_eq _ f1]
    exact x1
  have hm : f_M_village fu s = f_M_village_L70 fu s2 := by
    unfold f_M_village
    rw [lt_lt, lt_lt, lt_lt, lt_lt, M_first hfu]
    have f2' : f_M_advance fu (sr (sr (sr (si (si (si (si s 19 0) 22 1) 23 0) 24 0) 28 0 (gr (si (si (si (si s 19 0) 22 1) 23 0) 24 0) 9 0)) 28 1 (gr (si (si (si (si s 19 0) 22 1) 23 0) 24 0) 9 1)) 28 2 (gr (si (si (si (si s 19 0) 22 1) 23 0) 24 0) 9 2)) = some s1 := f2
    rw [bd1_eq _ f2']
    exact x2
  have tp0 : ∀ (u : g_St) (x : g_St), gi u 6 = 0 → gi x 16 = 0 → TP 0 u tp x := fun u x h1 h2 => ⟨by omega, h1, h2, fun i hi => by omega⟩
  unfold f_O_village
  rw [bd3_eq _ hc, lt_lt, hm]
  unfold f_M_village_L70
  rw [lt_lt]
  rcases x4 with ⟨rfl, g2, F, G, hF2⟩ | ⟨rfl, g2, x6⟩
  · have g2' : ¬ gi (si s2 16 0) 22 = 0 := g10 g2
    obtain ⟨v1, u1, u2⟩ := V_copy hfu v md2
    obtain ⟨⟨h1, h2, h3, h4, h5, h6⟩, hp, hq, ⟨⟨l0, l1, l2, l3⟩, m0, m1, m2⟩, z1, z2⟩ := hF2
    have k23 : gi (si s2 16 0) 23 = nI F := h4
    obtain ⟨s3, p1, p2, p3, p4, p5, -⟩ := M_fill_p (fu := fu) F fu 0 F (si (si s2 16 0) 0 (nI F)) (by omega) h1 (by omega) rfl
    have p1' : f_M_village_L100 fu fu (si (si s2 16 0) 0 (nI F)) 0 = f_M_village_L193 fu fu (si s3 5 (gi s3 24)) 0 := p1
    have k24 : gi s3 24 = nI G := (p2 24).trans h6
    obtain ⟨s4, q1, q2, q3, q4, q5, -⟩ := M_fill_q hfu G fu 0 G (si s3 5 (gi s3 24)) (by omega) h2 (by omega) k24
    have q1' : f_M_village_L193 fu fu (si s3 5 (gi s3 24)) 0 = f_M_village_L257 fu fu s4 0 := q1
    obtain ⟨s5, y1, y2, ⟨y3, y4, y5⟩, y6, y7, y8, y9⟩ := M_fill_l hfu s4
    -- numbers of the last state
    have G0 : gi s4 0 = nI F := (q2 0).trans ((gi_si _ _ _ _).trans ((if_neg (by omega)).trans ((p2 0).trans rfl)))
    have I : ∀ i, i ≠ 0 → i ≠ 5 → i ≠ 12 → i ≠ 13 → i ≠ 16 → i ≠ 36 → gi s5 i = gi s2 i := fun i i0 i5 i12 i13 i16 i36 => by
      rw [y2 i i12 i13 i36, q2 i, gi_si, if_neg i5, p2 i, gi_si, if_neg i0, gi_si, if_neg i16]
    have J : ∀ i, i ≠ 1 → i ≠ 2 → i ≠ 3 → i ≠ 4 → i ≠ 6 → i ≠ 7 → i ≠ 8 → i ≠ 11 → gr s5 i = gr s2 i := fun i i1 i2 i3 i4 i6 i7 i8 i11 => by
      rw [y6 i i8 i11, q3 i i6 i7, gr_si, p3 i i1 i2 i3 i4 i11]; rfl
    have r25 : ∀ i, i = 1 ∨ i = 2 ∨ i = 3 ∨ i = 4 → gr s5 i = gr s3 i := fun i hi => by
      rw [y6 i (by omega) (by omega), q3 i (by omega) (by omega)]; rfl
    have r11 : ∀ x, gr s5 11 x = if x = 6 then 1 else gr s3 11 x := fun x => by
      rw [y9 x, q3 11 (by omega) (by omega)]; rfl
    have r26 : gr (si s3 5 (gi s3 24)) 26 = gr s2 26 := p3 26 (by omega) (by omega) (by omega) (by omega) (by omega)
    have r27 : gr (si s3 5 (gi s3 24)) 27 = gr s2 27 := p3 27 (by omega) (by omega) (by omega) (by omega) (by omega)
    have r28 : gr s4 28 = gr s2 28 := (q3 28 (by omega) (by omega)).trans (p3 28 (by omega) (by omega) (by omega) (by omega) (by omega))
    rw [r26, r27] at q5
    have c0 : gi v1 0 = nI F := u2.1.1.trans h3
    obtain ⟨⟨u0, u6, u10, u11, u12⟩, up, uq, uk⟩ := u2
    have S14 : gi s5 14 = gi s 14 := (I 14 (by omega) (by omega) (by omega) (by omega) (by omega) (by omega)).trans (oz2.1 14 (by omega))
    rw [if_neg ne10, lt_lt, bd1_eq _ u1, lt_lt, lt_lt, if_neg g2', lt_lt, lt_lt, k23, p1', q1', y1]
    refine ⟨gi (si v1 10 (gi v 10)) 0, _, _, _, _, s5, F, G, 0, rfl, ?_, ⟨⟨⟨h1, h2, c0, ?_, u6.trans h5, ?_⟩, fun p hpF => ?_, fun q hqG => ?_, ?_⟩, fun p hpF => ?_, ?_, ?_⟩, ?_, tp0 _ _ rfl ?_, ⟨by omega, rfl, y5, fun i hi => by omega⟩, ⟨⟨?_, ?_, ?_⟩, ⟨?_, ?_, ?_, ?_, ?_⟩, ?_, ?_, ?_, ?_, ?_, ?_⟩, fun i h1 h2 => ?_, rfl⟩
    · rw [show gi (si v1 10 (gi v 10)) 0 = gi v1 0 from rfl, c0, G0]
    · rw [y2 0 (by omega) (by omega) (by omega)]; exact G0
    · rw [y2 5 (by omega) (by omega) (by omega), q2 5, gi_si, if_pos rfl, k24]
    · obtain ⟨b1, b2, b3, -, -, b6, b7, -⟩ := hp p hpF
      obtain ⟨d1, d2, d3, -, -⟩ := up p (by omega)
      obtain ⟨e1, e2, e3, -, -⟩ := p5 p (Nat.zero_le p) hpF
      have g25 : gr (si (si s2 16 0) 0 (nI F)) 25 = gr s2 25 := rfl
      rw [g25] at e1 e2 e3
      rw [r25 1 (by omega), r25 2 (by omega), r25 3 (by omega), e1, e2, e3, ← b1, ← b2, ← b3]
      exact ⟨d1, d2, d3, b6, b7⟩
    · obtain ⟨b1, b2, b3⟩ := hq q hqG
      obtain ⟨d1, d2⟩ := uq q (by omega)
      obtain ⟨e1, e2⟩ := q5 q (Nat.zero_le q) hqG
      rw [y6 6 (by omega) (by omega), y6 7 (by omega) (by omega), e1, ← b1]
      refine ⟨d1, b2, fun p hpF => ?_⟩
      obtain ⟨w1, w2, w3, -⟩ := b3 p (by omega)
      rw [e2 p (by omega)]
      exact ⟨(d2 p (by omega)).trans w1, w2, w3⟩
    · rw [y8.1, y8.2.1, y8.2.2, r28, ← l0, ← l1, ← l2]
      exact ⟨uk 0 (by omega), uk 1 (by omega), uk 2 (by omega), m0, m1, m2⟩
    · obtain ⟨-, -, -, b4, b5, -, -, b8⟩ := hp p hpF
      obtain ⟨-, -, -, d4, d5⟩ := up p (by omega)
      obtain ⟨-, -, -, e4, e5⟩ := p5 p (Nat.zero_le p) hpF
      have g25 : gr (si (si s2 16 0) 0 (nI F)) 25 = gr s2 25 := rfl
      rw [g25] at e4
      rw [r11, if_neg (by omega), e4, r25 4 (by omega), e5, ← b4]
      exact ⟨d4, d5.trans b5, b8⟩
    · rw [r11, if_pos rfl]
      exact ⟨(uk 3 (by omega)).trans l3, 1, by omega, by omega, rfl⟩
    · rw [y3, y4, S14]
      exact ⟨h.2.2.2.1, u11.trans z1, u12.trans z2⟩
    · have c2 := c.oz oz2
      unfold RC at c2 ⊢
      rw [J 9 (by omega) (by omega) (by omega) (by omega) (by omega) (by omega) (by omega) (by omega), J 10 (by omega) (by omega) (by omega) (by omega) (by omega) (by omega) (by omega) (by omega), I 29 (by omega) (by omega) (by omega) (by omega) (by omega) (by omega)]
      exact c2
    · rw [y2 16 (by omega) (by omega) (by omega), q2 16, gi_si, if_neg (by omega), p2 16]; rfl
    · exact (I 29 (by omega) (by omega) (by omega) (by omega) (by omega) (by omega)).trans (oz2.1 29 (by omega))
    · exact (I 47 (by omega) (by omega) (by omega) (by omega) (by omega) (by omega)).trans (oz2.1 47 (by omega))
    · exact (I 49 (by omega) (by omega) (by omega) (by omega) (by omega) (by omega)).trans (oz2.1 49 (by omega))
    · exact (J 9 (by omega) (by omega) (by omega) (by omega) (by omega) (by omega) (by omega) (by omega)).trans (oz2.2.1 9 (by omega))
    · exact (J 10 (by omega) (by omega) (by omega) (by omega) (by omega) (by omega) (by omega) (by omega)).trans (oz2.2.1 10 (by omega))
    · exact (J 34 (by omega) (by omega) (by omega) (by omega) (by omega) (by omega) (by omega) (by omega)).trans (oz2.2.1 34 (by omega))
    · exact (J 37 (by omega) (by omega) (by omega) (by omega) (by omega) (by omega) (by omega) (by omega)).trans (oz2.2.1 37 (by omega))
    · exact (J 38 (by omega) (by omega) (by omega) (by omega) (by omega) (by omega) (by omega) (by omega)).trans (oz2.2.1 38 (by omega))
    · exact (J 40 (by omega) (by omega) (by omega) (by omega) (by omega) (by omega) (by omega) (by omega)).trans (oz2.2.1 40 (by omega))
    · exact (J 41 (by omega) (by omega) (by omega) (by omega) (by omega) (by omega) (by omega) (by omega)).trans (oz2.2.1 41 (by omega))
    · exact (J 42 (by omega) (by omega) (by omega) (by omega) (by omega) (by omega) (by omega) (by omega)).trans (oz2.2.1 42 (by omega))
    · exact (J 46 (by omega) (by omega) (by omega) (by omega) (by omega) (by omega) (by omega) (by omega)).trans (oz2.2.1 46 (by omega))
    · exact (J 50 (by omega) (by omega) (by omega) (by omega) (by omega) (by omega) (by omega) (by omega)).trans (oz2.2.1 50 (by omega))
    · exact congrFun (y7.trans (q4.trans (p4.trans oz2.2.2))) 39
    · show (if i = 9 then _ else if i = 6 then _ else gi w i) = gi w i
      rw [if_neg h2, if_neg h1]
  · have g2' : gi (si s2 16 0) 22 = 0 := g2
    have k18 : gi (si s2 16 0) 18 = gi rd2 5 := x6.symm
    rw [if_pos rfl, lt_lt, if_pos g2', k18]
    have ag : AG s (si s2 16 0) := ⟨⟨oz2.1 0 (by omega), oz2.1 5 (by omega), oz2.1 12 (by omega), oz2.1 13 (by omega), oz2.1 14 (by omega)⟩, fun p _ => ⟨congrFun (oz2.2.1 1 (by omega)) p, congrFun (oz2.2.1 2 (by omega)) p, congrFun (oz2.2.1 3 (by omega)) p, congrFun (oz2.2.1 4 (by omega)) p⟩, fun p _ => congrFun (oz2.2.1 6 (by omega)) p, fun p _ => congrFun (oz2.2.1 7 (by omega)) p, fun p _ => congrFun (oz2.2.1 8 (by omega)) p, fun p _ => congrFun (oz2.2.1 11 (by omega)) p⟩
    refine ⟨_, _, v, rd2, md2, _, P, Q, n, rfl, rfl, h.ag ag, ?_, tp0 _ _ rfl rfl, ?_, ⟨⟨oz2.1 29 (by omega), oz2.1 47 (by omega), oz2.1 49 (by omega)⟩, ⟨oz2.2.1 9 (by omega), oz2.2.1 10 (by omega), oz2.2.1 34 (by omega), oz2.2.1 37 (by omega), oz2.2.1 38 (by omega)⟩, oz2.2.1 40 (by omega), oz2.2.1 41 (by omega), oz2.2.1 42 (by omega), oz2.2.1 46 (by omega), oz2.2.1 50 (by omega), congrFun oz2.2.2 39⟩, fun i h1 _ => if_neg h1, rfl⟩
    · exact (show RC s2 from c.oz oz2)
    · obtain ⟨o1, o2, o3, o4⟩ := hO
      refine ⟨o1, o2, (oz2.1 36 (by omega)).trans o3, fun i hi j hj => ?_⟩
      show gr w (100 + i) j = gr s2 34 (3 * i + j)
      rw [oz2.2.1 34 (by omega)]
      exact o4 i hi j hj
