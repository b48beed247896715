/-! What years ahead are worth: the class's sum, the reference's ways. -/
def wL (s : g_St) (q : Nat) : Int64 := (nI (wgS s q)).toInt64
def VS (W : Nat → Int64) (B : Nat → Nat → (Nat → Nat) → Int64) (N : Nat → Nat → (Nat → Nat) → Nat → Nat) (T : Int64) (Q : Nat) : Nat → Nat → (Nat → Nat) → Int64
  | 0, _, _ => 0
  | n + 1, y, d => sL (fun q => W q * (B q y d * pwr T n + VS W B N T Q n (y + 1) (N q y d))) Q
noncomputable def bsy (fu P : Nat) (v s : g_St) (wm : Int32) (q y : Nat) (d : Nat → Nat) : Int64 := gnv fu v wm q (felln s (rsy fu P v q y d))
noncomputable def vsy (fu P Q : Nat) (v s : g_St) (wm : Int32) (T : Int64) : Nat → Nat → (Nat → Nat) → Int64 := VS (wL s) (bsy fu P v s wm) (nxt fu P v s) T Q
theorem wL_at {P Q q : Nat} {v s : g_St} (hS : SV P Q v s) (hq : q < Q) : (gr v 7 q).toInt64 = wL s q ∧ (gr s 6 q).toInt64 = wL s q := by
  obtain ⟨a, b, -⟩ := wg_at hS hq
  rw [a, b]
  exact ⟨rfl, rfl⟩
theorem A_sum_n {fu P Q : Nat} {v s aa : g_St} {wm : Int32} {T : Int64} (hfu : 5000 ≤ fu) (hS : SV P Q v s) (h29 : gi s 29 = -1) (hw : WM P wm) (ha : gi aa 2 = wm) (hT : ∀ k, k ≤ 3 → gt aa 1 k = pwr T k) : ∀ (n D y : Nat) (d : Nat → Nat), n ≤ 3 → n < D → (∀ p, p < P → d p ≤ 9) → 1 ≤ y → y + n ≤ 2000 → f_A_sumFrom fu D aa v (nI n) (nI y) (nI (dgs 4 d P)) = some (vsy fu P Q v s wm T n y d) := by
  have hS' := hS
  obtain ⟨⟨hP, hQ, v0, s0, v6, s5⟩, -⟩ := hS'
  intro n
  induction n with
  | zero =>
    intro D y d h1 h2 hd hy1 hy2
    obtain ⟨D, rfl⟩ : ∃ k, D = k + 1 := ⟨D - 1, by omega⟩
    rw [f_A_sumFrom, f_A_sumFrom_B, if_pos (show nI 0 ≤ 0 by decide)]; rfl
  | succ n ih =>
    intro D y d h1 h2 hd hy1 hy2
    obtain ⟨D, rfl⟩ : ∃ k, D = k + 1 := ⟨D - 1, by omega⟩
    have L : ∀ (k m j : Nat), k + j = Q → k < m → f_A_sumFrom_B_L17 fu (f_A_sumFrom fu D) m aa v (nI (n + 1)) (nI y) (nI (dgs 4 d P)) (sL (fun q => wL s q * (bsy fu P v s wm q y d * pwr T n + vsy fu P Q v s wm T n (y + 1) (nxt fu P v s q y d))) j) (nI j) = some (vsy fu P Q v s wm T (n + 1) y d) := by
      intro k
      induction k with
      | zero =>
        intro m j hk hm
        obtain ⟨m, rfl⟩ : ∃ k, m = k + 1 := ⟨m - 1, by omega⟩
        rw [f_A_sumFrom_B_L17, v6, if_pos (nI_le (by omega) (by omega)), show j = Q by omega]; rfl
      | succ k ihk =>
        intro m j hk hm
        obtain ⟨m, rfl⟩ : ∃ k, m = k + 1 := ⟨m - 1, by omega⟩
        have hj : j < Q := by omega
        have e := ihk m (j + 1) (by omega) (by omega)
        obtain ⟨w1, w2, w3⟩ := wg_at hS hj
        have cj : (nI j).toNatClampNeg = j := nIc (by omega)
        rw [f_A_sumFrom_B_L17, v6, if_neg (nI_ge (by omega) (by omega)), gd_of (vpn (n := j) (N := 8) (by omega) (by omega)), cj, w1]
        by_cases z : wgS s j = 0
        · rw [z, if_pos (show nI 0 = 0 from rfl), lt_lt, nI_1]
          have e0 : sL (fun q => wL s q * (bsy fu P v s wm q y d * pwr T n + vsy fu P Q v s wm T n (y + 1) (nxt fu P v s q y d))) (j + 1) = sL (fun q => wL s q * (bsy fu P v s wm q y d * pwr T n + vsy fu P Q v s wm T n (y + 1) (nxt fu P v s q y d))) j := by
            show sL _ j + wL s j * _ = _
            rw [show wL s j = 0 from by unfold wL; rw [z]; rfl, Int64.zero_mul, Int64.add_zero]
          rw [e0] at e
          exact e
        · obtain ⟨g1, g2, g3⟩ := V_step hfu hS h29 hd hy1 (show y ≤ 2000 by omega) hj
          obtain ⟨g4, -⟩ := W_gain hfu hS hj hw (felln01 s (rsy fu P v j y d))
          rw [if_neg (nI_ne0 (by omega) (by omega)), bd1_eq _ g1, g2, bd1_eq _ (g4 aa ha), show nI (n + 1) - 1 = nI n from nI_pred n, gd_of (vpn (n := n) (N := 4) (by omega) (by omega)), lt_lt, nIc (show n ≤ 4096 by omega), hT n (by omega)]
          have fin : ∀ x : Int64, x = bsy fu P v s wm j y d * pwr T n + vsy fu P Q v s wm T n (y + 1) (nxt fu P v s j y d) → f_A_sumFrom_B_L115 fu (f_A_sumFrom fu D) (f_A_sumFrom_B_L17 fu (f_A_sumFrom fu D) m) aa v (nI (n + 1)) (nI y) (nI (dgs 4 d P)) (sL (fun q => wL s q * (bsy fu P v s wm q y d * pwr T n + vsy fu P Q v s wm T n (y + 1) (nxt fu P v s q y d))) j) (nI j) x = some (vsy fu P Q v s wm T (n + 1) y d) := fun x hx => by
            rw [f_A_sumFrom_B_L115, gd_of (vpn (n := j) (N := 8) (by omega) (by omega)), lt_lt, lt_lt, nI_1, cj, (wL_at hS hj).1, hx]
            exact e
          by_cases n0 : n = 0
          · rw [if_pos (show nI (n + 1) ≤ 1 from nI_le (b := 1) (by omega) (by omega))]
            refine fin _ ?_
            subst n0
            show gnv fu v wm j (felln s (rsy fu P v j y d)) * pwr T 0 = gnv fu v wm j (felln s (rsy fu P v j y d)) * pwr T 0 + 0
            rw [Int64.add_zero]
          · have r := ih D (y + 1) (nxt fu P v s j y d) (by omega) (by omega) (fun p hp => nxt_le (hd p hp)) (by omega) (by omega)
            rw [if_neg (show ¬ nI (n + 1) ≤ 1 from nI_ge (a := 1) (by omega) (by omega)), bd1_eq _ g3, nI_1, bd1_eq _ r, lt_lt]
            exact fin _ rfl
    rw [f_A_sumFrom, f_A_sumFrom_B, if_neg (nI_nle (by omega) (by omega)), if_pos (show nI (n + 1) ≤ 3 from nI_le (b := 3) (by omega) (by omega))]
    exact L Q fu 0 (by omega) (by omega)
/-- one way through the years -/
noncomputable def wyH (fu P Q : Nat) (v s : g_St) (wm : Int32) : Nat → Nat → Nat → (Nat → Nat) → Int64
  | 0, _, _, _ => 0
  | n + 1, w, y, d => bsy fu P v s wm (w % Q) y d + wyH fu P Q v s wm n (w / Q) (y + 1) (nxt fu P v s (w % Q) y d)
theorem wy_sum {fu P Q : Nat} {v s : g_St} {wm : Int32} (hQ : 0 < Q) : ∀ (n y : Nat) (d : Nat → Nat), sL (fun w => wyO (wL s) Q n w * wyH fu P Q v s wm n w y d) (Q ^ n) = vsy fu P Q v s wm (sL (wL s) Q) n y d := by
  intro n
  induction n with
  | zero =>
    intro y d
    show (0 : Int64) + 1 * 0 = 0
    rfl
  | succ n ih =>
    intro y d
    rw [Nat.pow_succ, Nat.mul_comm]
    have e : sL (fun w => wyO (wL s) Q (n + 1) w * wyH fu P Q v s wm (n + 1) w y d) (Q * Q ^ n) = sL (fun i => sL (fun j => (wL s i * wyO (wL s) Q n j) * (bsy fu P v s wm i y d + wyH fu P Q v s wm n j (y + 1) (nxt fu P v s i y d))) (Q ^ n)) Q := sL_prod (fun i j => (wL s i * wyO (wL s) Q n j) * (bsy fu P v s wm i y d + wyH fu P Q v s wm n j (y + 1) (nxt fu P v s i y d))) Q hQ (Q ^ n)
    rw [e]
    show _ = sL (fun q => wL s q * (bsy fu P v s wm q y d * pwr (sL (wL s) Q) n + vsy fu P Q v s wm (sL (wL s) Q) n (y + 1) (nxt fu P v s q y d))) Q
    refine sL_cong Q fun i hi => ?_
    rw [← ih (y + 1) (nxt fu P v s i y d), ← wyO_sum (wL s) Q hQ n, ← sL_mul, ← sL_add, ← sL_mul]
    refine sL_cong _ fun j hj => ?_
    rw [Int64.mul_assoc, Int64.mul_add, Int64.mul_comm (wyO (wL s) Q n j) (bsy fu P v s wm i y d)]
/-- one way, as the reference goes it -/
theorem M_way {fu P Q : Nat} {v s0 : g_St} {wm : Int32} (hfu : 5000 ≤ fu) (hQ0 : 0 < Q) (hw : WM P wm) (K : g_St → Int32 → Int32 → Int32 → Int64 → Int32 → Option (Int64 × g_St)) (n : Nat) (hn : n ≤ 3) (ways : Int32) (sum : Int64) (way : Nat) : ∀ (r m k left A y : Nat) (often : Int64) (has : Int32) (d : Nat → Nat) (s : g_St), k + r = n → r < m → (A = if k = 0 then 0 else 7) → left < 4096 → SV P Q v s → gr s 8 = gr s0 8 → gr s 6 = gr s0 6 → RW P A y d s → y + r ≤ 2000 → gi s 29 = -1 → -54 * (k : Int) ≤ has.toInt → has.toInt ≤ 54 * (k : Int) → ∃ s', f_M_valueOf_L49 fu K m s wm (nI n) ways sum (nI way) (nI left) often has (nI k) = K s' wm (nI n) ways (sum + often * wyO (wL s0) Q r left * (has.toInt64 + wyH fu P Q v s0 wm r left y d)) (nI (way + 1)) ∧ OW 7 s s' := by
  intro r
  induction r with
  | zero =>
    intro m k left A y often has d s hk hm hA hl hS h8 h6 hR hy h29 h1 h2
    obtain ⟨m, rfl⟩ : ∃ x, m = x + 1 := ⟨m - 1, by omega⟩
    refine ⟨s, ?_, OW.rf⟩
    rw [f_M_valueOf_L49, if_pos (nI_le (by omega) (by omega)), lt_lt, lt_lt, nI_1]
    show K s wm (nI n) ways _ _ = K s wm (nI n) ways (sum + often * 1 * (has.toInt64 + 0)) _
    rw [Int64.mul_one, Int64.add_zero]
  | succ r ih =>
    intro m k left A y often has d s hk hm hA hl hS h8 h6 hR hy h29 h1 h2
    obtain ⟨m, rfl⟩ : ∃ x, m = x + 1 := ⟨m - 1, by omega⟩
    have hS' := hS
    obtain ⟨⟨hP, hQ, v0, s00, v6, s5⟩, -⟩ := hS'
    have hq : left % Q < Q := Nat.mod_lt _ hQ0
    have z2 : ¬ nI Q = 0 := nI_ne0 hQ0 (by omega)
    have hA' : A = 7 ∨ A + 7 ≤ 7 ∨ 7 + 7 ≤ A := by rw [hA]; split <;> omega
    obtain ⟨s1, f1, f2, f3⟩ := W_step (B := 7) hfu hS hR h29 hq (by omega) hA' (by omega)
    have hS1 := f3.sv hS
    obtain ⟨-, b, g1, g2, g3, g4⟩ := W_gain hfu hS1 hq hw (felln01 s (rsy fu P v (left % Q) y d))
    have eb : b.toInt64 = bsy fu P v s0 wm (left % Q) y d := by
      rw [g2]; unfold bsy; rw [felln_cong h8]
    have en : nxt fu P v s (left % Q) y d = nxt fu P v s0 (left % Q) y d := by
      unfold nxt; rw [grw_cong h8]
    have ew : (gr s 6 (left % Q)).toInt64 = wL s0 (left % Q) := by
      rw [(wL_at hS hq).2]
      unfold wL wgS
      rw [h6]
    rw [en] at f2
    have hdiv : left / Q ≤ left := Nat.div_le_self _ _
    obtain ⟨a1, a2⟩ := add64 (a := has) (b := b) (by omega) (by omega) (by omega) (by omega)
    obtain ⟨s', e1, e2⟩ := ih m (k + 1) (left / Q) 7 (y + 1) (often * wL s0 (left % Q)) (has + b) (nxt fu P v s0 (left % Q) y d) s1 (by omega) (by omega) (by rw [if_neg (by omega)]) (by omega) hS1 ((f3.2.1 8 (by omega)).trans h8) ((f3.2.1 6 (by omega)).trans h6) f2 (by omega) ((f3.1 29 (by omega) (by omega)).trans h29) (by omega) (by omega)
    refine ⟨s', ?_, f3.trans e2⟩
    have step : ∀ Z : Nat, Z = A → f_M_valueOf_L98 fu K (f_M_valueOf_L49 fu K m) s wm (nI n) ways sum (nI way) (nI (left / Q)) (often * wL s0 (left % Q)) has (nI k) (nI (left % Q)) (nI Z) = K s' wm (nI n) ways (sum + often * wyO (wL s0) Q (r + 1) left * (has.toInt64 + wyH fu P Q v s0 wm (r + 1) left y d)) (nI (way + 1)) := fun Z hZ => by
      have f1' : f_M_goes fu s (nI Z) 7 (nI (left % Q)) = some (felln s (rsy fu P v (left % Q) y d), s1) := by rw [hZ]; exact f1
      rw [f_M_valueOf_L98, bd2_eq _ f1', bd1_eq _ g1, lt_lt, lt_lt, nI_1, e1, a1, eb]
      show K s' wm (nI n) ways _ _ = K s' wm (nI n) ways (sum + often * (wL s0 (left % Q) * wyO (wL s0) Q r (left / Q)) * (has.toInt64 + (bsy fu P v s0 wm (left % Q) y d + wyH fu P Q v s0 wm r (left / Q) (y + 1) (nxt fu P v s0 (left % Q) y d)))) _
      rw [← Int64.mul_assoc, ← Int64.add_assoc]
    rw [f_M_valueOf_L49, if_neg (nI_ge (by omega) (by omega)), s5, gd_of z2, lt_lt, gd_of z2, lt_lt, g_rem_N (by omega) hQ0 (by omega), pk_div (by omega) hQ0 (by omega), gd_of (vpn (n := left % Q) (N := 8) (by omega) (by omega)), lt_lt, nIc (show left % Q ≤ 4096 by omega), ew]
    by_cases k0 : k = 0
    · rw [if_pos (show nI k = 0 by rw [k0]; rfl)]
      exact step 0 (by rw [hA, if_pos k0])
    · rw [if_neg (nI_ne0 (by omega) (by omega))]
      exact step 7 (by rw [hA, if_neg k0])
/-- all ways -/
theorem M_ways {fu P Q y n : Nat} {v : g_St} {wm : Int32} {d : Nat → Nat} (hfu : 5000 ≤ fu) (hQ0 : 0 < Q) (hw : WM P wm) (hn : n ≤ 3) (hN : Q ^ n ≤ 600) (hy : y + n ≤ 2000) (s0 : g_St) : ∀ (k m w : Nat) (s : g_St), k + w = Q ^ n → k < m → SV P Q v s → OW 7 s0 s → RW P 0 y d s → gi s 29 = -1 → ∃ s', f_M_valueOf_L30 fu m s wm (nI n) (nI (Q ^ n)) (sL (fun w => wyO (wL s0) Q n w * wyH fu P Q v s0 wm n w y d) w) (nI w) = some (sL (fun w => wyO (wL s0) Q n w * wyH fu P Q v s0 wm n w y d) (Q ^ n), s') ∧ OW 7 s s' := by
  intro k
  induction k with
  | zero =>
    intro m w s hk hm hS hO hR h29
    obtain ⟨m, rfl⟩ : ∃ x, m = x + 1 := ⟨m - 1, by omega⟩
    refine ⟨s, ?_, OW.rf⟩
    rw [f_M_valueOf_L30, if_pos (nI_le (by omega) (by omega)), show w = Q ^ n by omega]
  | succ k ih =>
    intro m w s hk hm hS hO hR h29
    obtain ⟨m, rfl⟩ : ∃ x, m = x + 1 := ⟨m - 1, by omega⟩
    have hP := hS.1.1
    obtain ⟨s1, e1, e2⟩ := M_way (s0 := s0) (v := v) hfu hQ0 hw (f_M_valueOf_L30 fu m) n hn (nI (Q ^ n)) (sL (fun w => wyO (wL s0) Q n w * wyH fu P Q v s0 wm n w y d) w) w n fu 0 w 0 y 1 0 d s (by omega) (by omega) (by rw [if_pos rfl]) (by omega) hS (hO.2.1 8 (by omega)) (hO.2.1 6 (by omega)) hR hy h29 (by decide) (by decide)
    obtain ⟨s', f1, f2⟩ := ih m (w + 1) s1 (by omega) (by omega) (e2.sv hS) (hO.trans e2) (e2.rw hR hP (by omega)) ((e2.1 29 (by omega) (by omega)).trans h29)
    refine ⟨s', ?_, e2.trans f2⟩
    rw [f_M_valueOf_L30, if_neg (nI_ge (by omega) (by omega))]
    refine e1.trans ?_
    rw [show (0 : Int32).toInt64 = 0 from rfl, Int64.zero_add, Int64.one_mul]
    exact f1
theorem M_value_n {fu P Q y n : Nat} {v s : g_St} {wm : Int32} {d : Nat → Nat} (hfu : 5000 ≤ fu) (hS : SV P Q v s) (hR : RW P 0 y d s) (h29 : gi s 29 = -1) (hQ0 : 0 < Q) (hw : WM P wm) (hn : n ≤ 3) (hy : y + n ≤ 2000) : ∃ s', f_M_valueOf fu s wm (nI n) = some (vsy fu P Q v s wm (sL (wL s) Q) n y d, s') ∧ OW 7 s s' := by
  have hS' := hS
  obtain ⟨⟨hP, hQ, v0, s00, v6, s5⟩, -⟩ := hS'
  have hb : ∀ k, k ≤ 3 → Q ^ k ≤ 600 := fun k hk => by
    have a : Q ^ k ≤ 8 ^ k := Nat.pow_le_pow_left hQ k
    have b : 8 ^ k ≤ 8 ^ 3 := Nat.pow_le_pow_right (by omega) hk
    omega
  have L : ∀ (k m j : Nat), k + j = n → k < m → f_M_valueOf_L5 fu m s wm (nI n) (nI (Q ^ j)) (nI j) = f_M_valueOf_L30 fu fu s wm (nI n) (nI (Q ^ n)) 0 0 := by
    intro k
    induction k with
    | zero =>
      intro m j hk hm
      obtain ⟨m, rfl⟩ : ∃ x, m = x + 1 := ⟨m - 1, by omega⟩
      rw [f_M_valueOf_L5, if_pos (nI_le (by omega) (by omega)), show j = n by omega]
    | succ k ih =>
      intro m j hk hm
      obtain ⟨m, rfl⟩ : ∃ x, m = x + 1 := ⟨m - 1, by omega⟩
      rw [f_M_valueOf_L5, if_neg (nI_ge (by omega) (by omega)), lt_lt, lt_lt, s5, pk_mul, ← Nat.pow_succ, nI_1]
      exact ih m (j + 1) (by omega) (by omega)
  obtain ⟨s', e1, e2⟩ := M_ways (v := v) (d := d) hfu hQ0 hw hn (hb n hn) hy s (Q ^ n) fu 0 s (by omega) (by have := hb n hn; omega) hS OW.rf hR h29
  rw [wy_sum hQ0] at e1
  refine ⟨s', ?_, e2⟩
  have l := L n fu 0 (by omega) (by omega)
  exact l.trans e1
