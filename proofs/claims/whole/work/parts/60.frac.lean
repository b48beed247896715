/-! A fraction in lowest terms; powers; sums of longs. -/
theorem remL_mod (x y : Int64) : g_remL x y = x % y := by
  apply Int64.toInt_inj.mp
  have e : x.toInt - x.toInt.tdiv y.toInt * y.toInt = (x % y).toInt := by
    rw [Int64.toInt_mod, Int.tmod_def, Int.mul_comm]
  unfold g_remL
  rw [Int64.toInt_sub, Int64.toInt_mul, Int64.toInt_div, Int.sub_bmod_bmod, ← Int.sub_bmod_bmod, Int.bmod_mul_bmod, Int.sub_bmod_bmod, e]
  exact Int64.toInt_bmod _
def nab (x : Int64) : Nat := x.toInt.natAbs
theorem nab_rem (x y : Int64) : nab (g_remL x y) = nab x % nab y := by
  unfold nab
  rw [remL_mod, Int64.toInt_mod, Int.natAbs_tmod]
theorem nab_0 {x : Int64} : nab x = 0 ↔ x = 0 := by
  unfold nab
  rw [Int.natAbs_eq_zero]
  exact ⟨fun h => Int64.toInt_inj.mp h, fun h => by rw [h]; rfl⟩
/-- the reference's last step -/
noncomputable def lwF (s : g_St) (a b g : Int64) : Option g_St := gd (¬ g = 0) (lt ((a / g)) fun y3 => lt (sj s 32 y3) fun s4 => gd (¬ g = 0) (lt ((b / g)) fun y6 => lt (sj s4 33 y6) fun s7 => some s7))
theorem eu {fu : Nat} {s : g_St} {a b : Int64} : ∀ (K n m i : Nat) (x y : Int64), nab y < 2 ^ K → 2 * K < n → 2 * K < m → i + 2 * K ≤ 99 → ¬ (x = 0 ∧ y = 0) → ∃ g, f_S_commonDivisor_L9 fu n x y (nI i) = some g ∧ f_M_lowest_L17 fu m s a b x y = lwF s a b g ∧ ¬ g = 0 := by
  have base : ∀ (n m i : Nat) (x : Int64), 0 < n → 0 < m → i ≤ 99 → ¬ x = 0 → ∃ g, f_S_commonDivisor_L9 fu n x 0 (nI i) = some g ∧ f_M_lowest_L17 fu m s a b x 0 = lwF s a b g ∧ ¬ g = 0 := by
    intro n m i x hn hm hi hx
    obtain ⟨n, rfl⟩ : ∃ k, n = k + 1 := ⟨n - 1, by omega⟩
    obtain ⟨m, rfl⟩ : ∃ k, m = k + 1 := ⟨m - 1, by omega⟩
    refine ⟨x, ?_, ?_, hx⟩
    · rw [f_S_commonDivisor_L9, if_neg (show ¬ (100 : Int32) ≤ nI i from nI_ge (b := 100) (by omega) (by omega)), if_pos ((lg_cmp_eq 0 0).mpr rfl)]
    · rw [f_M_lowest_L17, if_pos ((lg_cmp_eq 0 0).mpr rfl)]; rfl
  intro K
  induction K with
  | zero =>
    intro n m i x y hy hn hm hi h0
    have y0 : y = 0 := nab_0.mp (by rw [Nat.pow_zero] at hy; omega)
    subst y0
    exact base n m i x (by omega) (by omega) (by omega) (fun z => h0 ⟨z, rfl⟩)
  | succ K ih =>
    intro n m i x y hy hn hm hi h0
    by_cases y0 : y = 0
    · subst y0
      exact base n m i x (by omega) (by omega) (by omega) (fun z => h0 ⟨z, rfl⟩)
    · have yp : 0 < nab y := by
        rcases Nat.eq_zero_or_pos (nab y) with z | z
        · exact absurd (nab_0.mp z) y0
        · exact z
      obtain ⟨n, rfl⟩ : ∃ k, n = k + 1 := ⟨n - 1, by omega⟩
      obtain ⟨m, rfl⟩ : ∃ k, m = k + 1 := ⟨m - 1, by omega⟩
      rw [f_S_commonDivisor_L9, if_neg (show ¬ (100 : Int32) ≤ nI i from nI_ge (b := 100) (by omega) (by omega)), if_neg (mt (lg_cmp_eq y 0).mp y0), gd_of y0, lt_lt, lt_lt, nI_1, f_M_lowest_L17, if_neg (mt (lg_cmp_eq y 0).mp y0), gd_of y0, lt_lt]
      have r1 : nab (g_remL x y) < nab y := by rw [nab_rem]; exact Nat.mod_lt _ yp
      by_cases r0 : g_remL x y = 0
      · rw [r0]
        exact base n m (i + 1) y (by omega) (by omega) (by omega) y0
      · have rp : 0 < nab (g_remL x y) := by
          rcases Nat.eq_zero_or_pos (nab (g_remL x y)) with z | z
          · exact absurd (nab_0.mp z) r0
          · exact z
        obtain ⟨n, rfl⟩ : ∃ k, n = k + 1 := ⟨n - 1, by omega⟩
        obtain ⟨m, rfl⟩ : ∃ k, m = k + 1 := ⟨m - 1, by omega⟩
        rw [f_S_commonDivisor_L9, if_neg (show ¬ (100 : Int32) ≤ nI (i + 1) from nI_ge (b := 100) (by omega) (by omega)), if_neg (mt (lg_cmp_eq _ 0).mp r0), gd_of r0, lt_lt, lt_lt, nI_1, f_M_lowest_L17, if_neg (mt (lg_cmp_eq _ 0).mp r0), gd_of r0, lt_lt]
        refine ih n m (i + 1 + 1) _ _ ?_ (by omega) (by omega) (by omega) (fun z => r0 z.1)
        rw [nab_rem]
        have q1 := Nat.mod_lt (nab y) rp
        have q2 : nab y % nab (g_remL x y) + nab (g_remL x y) ≤ nab y := by
          have e := Nat.div_add_mod (nab y) (nab (g_remL x y))
          have d1 : 1 ≤ nab y / nab (g_remL x y) := (Nat.one_le_div_iff rp).mpr (by omega)
          have d2 : nab (g_remL x y) * 1 ≤ nab (g_remL x y) * (nab y / nab (g_remL x y)) := Nat.mul_le_mul_left _ d1
          omega
        rw [Nat.pow_succ] at hy
        omega
theorem W_frac {fu : Nat} (hfu : 5000 ≤ fu) (s : g_St) (a b : Int64) (part : Int32) (hb : nab b < 2 ^ 19) (hb0 : ¬ b = 0) : ∃ r s', f_S_partOf fu a b part = some r ∧ f_M_lowest fu s a b = some s' ∧ (if part = 0 then some ((gj s' 32), s') else some ((gj s' 33), s')) = some (r, s') ∧ (∀ i, gi s' i = gi s i) ∧ gr s' = gr s ∧ gt s' = gt s := by
  obtain ⟨g, e1, e2, e3⟩ := eu (fu := fu) (s := s) (a := a) (b := b) 19 fu fu 0 (if 0 < a then a else -a) b hb (by omega) (by omega) (by omega) (fun z => hb0 z.2)
  have m : f_M_lowest fu s a b = some (sj (sj s 32 (a / g)) 33 (b / g)) := by
    have c : f_M_lowest_L17 fu fu s a b (if 0 < a then a else -a) b = some (sj (sj s 32 (a / g)) 33 (b / g)) := by
      rw [e2]
      unfold lwF
      rw [gd_of e3, lt_lt, lt_lt, gd_of e3, lt_lt, lt_lt]
    unfold f_M_lowest
    by_cases z : 0 ≤ a
    · rw [if_pos ((lg_cmp_ge a 0).mpr z)]
      by_cases y : 0 < a
      · rw [if_pos y] at c; exact c
      · have a0 : a = 0 := Int64.le_antisymm (Int64.not_lt.mp y) z
        rw [if_neg y, a0, Int64.neg_zero] at c
        rw [a0]; exact c
    · rw [if_neg (fun t => z ((lg_cmp_ge a 0).mp t)), lt_lt]
      rw [if_neg (fun t => z (Int64.le_of_lt t))] at c
      exact c
  have e1' : f_S_commonDivisor fu (if 0 < a then a else -a) b = some g := e1
  refine ⟨if part = 0 then a / g else b / g, _, ?_, m, ?_, fun _ => rfl, rfl, rfl⟩
  · unfold f_S_partOf
    rw [bd1_eq _ e1', if_neg (mt (lg_cmp_eq g 0).mp e3)]
    by_cases z : part = 0
    · rw [if_pos z, if_pos z, gd_of e3]
    · rw [if_neg z, if_neg z, gd_of e3]
  · by_cases z : part = 0
    · rw [if_pos z, if_pos z]; rfl
    · rw [if_neg z, if_neg z]; rfl
/-- a power as both reckon it -/
def pwr (T : Int64) : Nat → Int64
  | 0 => 1
  | n + 1 => pwr T n * T
theorem S_power_L {fu N : Nat} {T : Int64} (hN : N ≤ 4096) : ∀ (k n j : Nat), k + j = N → k < n → f_S_power_L5 fu n T (nI N) (pwr T j) (nI j) = some (pwr T N) := by
  intro k
  induction k with
  | zero =>
    intro n j hk hn
    obtain ⟨m, rfl⟩ : ∃ m, n = m + 1 := ⟨n - 1, by omega⟩
    rw [f_S_power_L5, if_pos (nI_le (by omega) (by omega)), show j = N by omega]
  | succ k ih =>
    intro n j hk hn
    obtain ⟨m, rfl⟩ : ∃ m, n = m + 1 := ⟨n - 1, by omega⟩
    rw [f_S_power_L5, if_neg (nI_ge (by omega) (by omega)), lt_lt, lt_lt, nI_1]
    exact ih m (j + 1) (by omega) (by omega)
theorem S_power {fu N : Nat} {T : Int64} (hfu : 5000 ≤ fu) (hN : N ≤ 3) : f_S_power fu T (nI N) = some (pwr T N) := S_power_L (by omega) N fu 0 (by omega) (by omega)
theorem pwr_ok : ∀ (A : Fin 73) (n : Fin 4), nab (pwr (nI A.val).toInt64 n.val) < 2 ^ 19 ∧ (A.val = 0 ∨ ¬ pwr (nI A.val).toInt64 n.val = 0) := by decide +kernel
/-- sums -/
def sL (f : Nat → Int64) : Nat → Int64
  | 0 => 0
  | n + 1 => sL f n + f n
theorem sL_cong {f g : Nat → Int64} : ∀ n, (∀ i, i < n → f i = g i) → sL f n = sL g n := by
  intro n
  induction n with
  | zero => intro _; rfl
  | succ n ih =>
    intro h
    show sL f n + f n = sL g n + g n
    rw [ih (fun i hi => h i (by omega)), h n (by omega)]
theorem sL_add (f g : Nat → Int64) : ∀ n, sL (fun i => f i + g i) n = sL f n + sL g n := by
  intro n
  induction n with
  | zero => rfl
  | succ n ih =>
    show sL (fun i => f i + g i) n + (f n + g n) = sL f n + f n + (sL g n + g n)
    rw [ih, Int64.add_assoc, Int64.add_assoc, ← Int64.add_assoc (sL g n), Int64.add_comm (sL g n) (f n), Int64.add_assoc]
theorem sL_mul (c : Int64) (f : Nat → Int64) : ∀ n, sL (fun i => c * f i) n = c * sL f n := by
  intro n
  induction n with
  | zero => exact Int64.mul_zero.symm
  | succ n ih =>
    show sL (fun i => c * f i) n + c * f n = c * (sL f n + f n)
    rw [ih, Int64.mul_add]
theorem sL_split (f : Nat → Int64) (m : Nat) : ∀ n, sL f (m + n) = sL f m + sL (fun i => f (m + i)) n := by
  intro n
  induction n with
  | zero => exact (Int64.add_zero _).symm
  | succ n ih =>
    show sL f (m + n) + f (m + n) = sL f m + (sL (fun i => f (m + i)) n + f (m + n))
    rw [ih, Int64.add_assoc]
theorem sL_prod (f : Nat → Nat → Int64) (a : Nat) (ha : 0 < a) : ∀ b, sL (fun w => f (w % a) (w / a)) (a * b) = sL (fun i => sL (f i) b) a := by
  intro b
  induction b with
  | zero =>
    show (0 : Int64) = sL (fun i => (0 : Int64)) a
    have z : ∀ n, sL (fun i => (0 : Int64)) n = 0 := by
      intro n
      induction n with
      | zero => rfl
      | succ n ih =>
        show sL (fun i => (0 : Int64)) n + 0 = 0
        rw [ih]; rfl
    exact (z a).symm
  | succ b ih =>
    rw [Nat.mul_succ, sL_split, ih]
    rw [show sL (fun i => sL (f i) (b + 1)) a = sL (fun i => sL (f i) b + f i b) a from rfl, sL_add]
    refine congrArg (sL (fun i => sL (f i) b) a + ·) (sL_cong a fun i hi => ?_)
    rw [Nat.mul_add_mod, Nat.mod_eq_of_lt hi, Nat.mul_add_div ha, Nat.div_eq_of_lt hi, Nat.add_zero]
/-- a power as a sum of products: all ways through n years -/
def wyO (W : Nat → Int64) (Q : Nat) : Nat → Nat → Int64
  | 0, _ => 1
  | n + 1, w => W (w % Q) * wyO W Q n (w / Q)
theorem wyO_sum (W : Nat → Int64) (Q : Nat) (hQ : 0 < Q) : ∀ n, sL (wyO W Q n) (Q ^ n) = pwr (sL W Q) n := by
  intro n
  induction n with
  | zero =>
    show (0 : Int64) + 1 = 1
    exact Int64.zero_add 1
  | succ n ih =>
    rw [Nat.pow_succ, Nat.mul_comm]
    have e : sL (wyO W Q (n + 1)) (Q * Q ^ n) = sL (fun i => sL (fun j => W i * wyO W Q n j) (Q ^ n)) Q := sL_prod (fun i j => W i * wyO W Q n j) Q hQ (Q ^ n)
    rw [e]
    show _ = pwr (sL W Q) n * sL W Q
    rw [Int64.mul_comm, ← ih]
    rw [sL_cong (g := fun i => sL (wyO W Q n) (Q ^ n) * W i) Q (fun i hi => by rw [sL_mul, Int64.mul_comm]), sL_mul, Int64.mul_comm]
