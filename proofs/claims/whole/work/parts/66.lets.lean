/-! lets: rows of proposals by codes. -/
/-- does the told one pass behind the row that a code tells -/
noncomputable def psy (fu P Q : Nat) (v s : g_St) (q0 : Nat) : Nat → Nat → Nat → (Nat → Nat) → Prop
  | 0, _, y, d => felln s (rsy fu P v q0 y d) = 0
  | k + 1, c, y, d => psy fu P Q v s q0 k (c % Q ^ k) (y + 1) (nxt fu P v s (c / Q ^ k) y d)
/-- a code as digits to the base 8 -/
def ec (Q : Nat) : Nat → Nat → Nat
  | 0, _ => 0
  | k + 1, c => ec Q k (c % Q ^ k) * 8 + c / Q ^ k
theorem ec_lt {Q : Nat} (hQ : Q ≤ 8) : ∀ k c, c < Q ^ k → ec Q k c < 8 ^ k := by
  intro k
  induction k with
  | zero => intro c _; exact Nat.one_pos
  | succ k ih =>
    intro c hc
    have hp : 0 < Q ^ k := by
      rcases Nat.eq_zero_or_pos (Q ^ k) with z | z
      · rw [Nat.pow_succ, z, Nat.zero_mul] at hc; omega
      · exact z
    have a := ih (c % Q ^ k) (Nat.mod_lt _ hp)
    have b : c / Q ^ k < Q := (Nat.div_lt_iff_lt_mul hp).mpr (by rw [Nat.mul_comm, ← Nat.pow_succ]; exact hc)
    show ec Q k (c % Q ^ k) * 8 + c / Q ^ k < 8 ^ (k + 1)
    rw [Nat.pow_succ]
    omega
/-- the lowest digit goes to the highest place -/
theorem ec_low (Q : Nat) : ∀ k c, ec Q (k + 1) c = ec Q k (c / Q) + c % Q * 8 ^ k ∨ ¬ c < Q ^ (k + 1) := by
  intro k
  induction k with
  | zero =>
    intro c
    by_cases h : c < Q ^ 1
    · left
      rw [Nat.pow_one] at h
      show 0 * 8 + c / Q ^ 0 = 0 + c % Q * 8 ^ 0
      rw [Nat.pow_zero, Nat.div_one, Nat.pow_zero, Nat.mod_eq_of_lt h]
      omega
    · exact Or.inr h
  | succ k ih =>
    intro c
    by_cases h : c < Q ^ (k + 1 + 1)
    · left
      have hp : 0 < Q ^ (k + 1) := by
        rcases Nat.eq_zero_or_pos (Q ^ (k + 1)) with z | z
        · rw [Nat.pow_succ, z, Nat.zero_mul] at h; omega
        · exact z
      rcases ih (c % Q ^ (k + 1)) with e | e
      · show ec Q (k + 1) (c % Q ^ (k + 1)) * 8 + c / Q ^ (k + 1) = (ec Q k (c / Q % Q ^ k) * 8 + c / Q / Q ^ k) + c % Q * 8 ^ (k + 1)
        have p : Q ^ (k + 1) = Q * Q ^ k := by rw [Nat.pow_succ, Nat.mul_comm]
        rw [e]
        have e1 : c % Q ^ (k + 1) / Q = c / Q % Q ^ k := by rw [p, Nat.mod_mul_right_div_self]
        have e2 : c % Q ^ (k + 1) % Q = c % Q := Nat.mod_mod_of_dvd c ⟨Q ^ k, p⟩
        have e3 : c / Q / Q ^ k = c / Q ^ (k + 1) := by rw [Nat.div_div_eq_div_mul, p]
        have h8 : 8 ^ (k + 1) = 8 ^ k * 8 := Nat.pow_succ ..
        rw [e1, e2, e3, h8, Nat.add_mul, Nat.mul_assoc (c % Q)]
        omega
      · exact absurd (Nat.mod_lt _ hp) e
    · exact Or.inr h
theorem M_dig_L {fu Q : Nat} {s : g_St} (hQ0 : 0 < Q) (hQ : Q ≤ 8) (s5 : gi s 5 = nI Q) : ∀ (k n c b : Nat), k < n → k ≤ 3 → c < Q ^ k → b < 8 ^ (3 - k) → f_M_digitsOf_L10 fu n s (nI (b * 2 ^ (3 * k))) (nI c) (nI k - 1) = some (nI (b * 8 ^ k + ec Q k c)) := by
  intro k
  induction k with
  | zero =>
    intro n c b hn hk hc hb
    obtain ⟨n, rfl⟩ : ∃ x, n = x + 1 := ⟨n - 1, by omega⟩
    rw [f_M_digitsOf_L10, if_pos (show nI 0 - 1 < 0 by decide)]
    exact congrArg (fun x => some (nI x)) (by show b * 2 ^ (3 * 0) = b * 8 ^ 0 + 0; omega)
  | succ k ih =>
    intro n c b hn hk hc hb
    obtain ⟨n, rfl⟩ : ∃ x, n = x + 1 := ⟨n - 1, by omega⟩
    have z2 : ¬ nI Q = 0 := nI_ne0 hQ0 (by omega)
    have hm := Nat.mod_lt c hQ0
    have c512 : c < 512 := by
      have a : Q ^ (k + 1) ≤ 8 ^ (k + 1) := Nat.pow_le_pow_left hQ _
      have b : 8 ^ (k + 1) ≤ 8 ^ 3 := Nat.pow_le_pow_right (by omega) hk
      omega
    have hd : c / Q < Q ^ k := (Nat.div_lt_iff_lt_mul hQ0).mpr (by rw [← Nat.pow_succ]; exact hc)
    have e8 : ∀ x : Nat, 2 ^ (3 * x) = 8 ^ x := fun x => by rw [Nat.pow_mul]
    have t3 : (3 : Int32) * nI k = nI (3 * k) := pk_mul 3 k
    have k8 : 8 ^ k ≤ 64 := by
      have := Nat.pow_le_pow_right (show 0 < 8 by omega) (show k ≤ 2 by omega)
      omega
    have sum : b * 8 < 8 ^ (3 - k) := by
      have : 8 ^ (3 - k) = 8 ^ (3 - (k + 1)) * 8 := by rw [← Nat.pow_succ]; exact congrArg (8 ^ ·) (by omega)
      omega
    have b8 : b * 8 + c % Q < 8 ^ (3 - k) := by
      have : 8 ^ (3 - k) = 8 ^ (3 - (k + 1)) * 8 := by rw [← Nat.pow_succ]; exact congrArg (8 ^ ·) (by omega)
      omega
    have b512 : b < 512 := by
      have := Nat.pow_le_pow_right (show 0 < 8 by omega) (show 3 - (k + 1) ≤ 3 by omega)
      omega
    have b64 : b * 8 ^ (k + 1) < 512 := by
      have : 8 ^ (3 - (k + 1)) * 8 ^ (k + 1) = 512 := by rw [← Nat.pow_add]; exact congrArg (8 ^ ·) (show 3 - (k + 1) + (k + 1) = 3 by omega)
      have q : b * 8 ^ (k + 1) < 8 ^ (3 - (k + 1)) * 8 ^ (k + 1) := Nat.mul_lt_mul_of_pos_right hb (Nat.pow_pos (by omega))
      omega
    have hor : nI (b * 2 ^ (3 * (k + 1))) ||| nI (c % Q * 2 ^ (3 * k)) = nI ((b * 8 + c % Q) * 2 ^ (3 * k)) := by
      have lo : c % Q * 2 ^ (3 * k) < 2 ^ (3 * (k + 1)) := by
        rw [e8, e8, Nat.pow_succ, Nat.mul_comm]
        exact Nat.mul_lt_mul_of_pos_left (by omega) (Nat.pow_pos (by omega))
      have up : c % Q * 2 ^ (3 * k) + b * 2 ^ (3 * (k + 1)) < 2 ^ 31 := by
        rw [e8] at lo ⊢
        rw [e8] at lo ⊢
        have : 8 ^ (k + 1) ≤ 512 := by
          have := Nat.pow_le_pow_right (show 0 < 8 by omega) (show k + 1 ≤ 3 by omega)
          omega
        omega
      rw [Int32.or_comm, or_add lo up]
      refine congrArg nI ?_
      rw [e8, e8, Nat.pow_succ, Nat.add_mul]
      rw [show b * (8 ^ k * 8) = b * 8 * 8 ^ k by rw [Nat.mul_assoc, Nat.mul_comm (8 ^ k) 8]]
      omega
    have shl : g_shl (nI (c % Q)) (nI (3 * k)) = nI (c % Q * 2 ^ (3 * k)) := shl_N (by omega) (by
      rw [e8]
      have : c % Q * 8 ^ k ≤ 8 * 64 := Nat.mul_le_mul (by omega) k8
      omega)
    rw [f_M_digitsOf_L10, show nI (k + 1) - 1 = nI k from nI_pred k, if_neg (nI_pos (n := k) (by omega)), s5, gd_of z2, lt_lt, gd_of z2, lt_lt, lt_lt, g_rem_N (by omega) hQ0 (by omega), pk_div (by omega) hQ0 (by omega), t3, shl, hor]
    have fin := ih n (c / Q) (b * 8 + c % Q) (by omega) (by omega) hd b8
    rw [show nI k + (-1) = nI k - 1 from (Int32.sub_eq_add_neg ..).symm]
    rw [fin]
    rcases ec_low Q k c with e | e
    · rw [e]
      refine congrArg (fun x => some (nI x)) ?_
      rw [Nat.add_mul, Nat.pow_succ, show b * (8 ^ k * 8) = b * 8 * 8 ^ k by rw [Nat.mul_assoc, Nat.mul_comm (8 ^ k) 8]]
      omega
    · exact absurd hc e
theorem M_digits {fu Q k c : Nat} {s : g_St} (hfu : 5000 ≤ fu) (hQ0 : 0 < Q) (hQ : Q ≤ 8) (s5 : gi s 5 = nI Q) (hk : k ≤ 3) (hc : c < Q ^ k) : f_M_digitsOf fu s (nI k) (nI c) = some (nI (ec Q k c)) := by
  have e := M_dig_L (fu := fu) hQ0 hQ s5 k fu c 0 (by omega) hk hc (Nat.pow_pos (by omega))
  rw [Nat.zero_mul, Nat.zero_mul, Nat.zero_add] at e
  exact e
/-- the first of the codes -/
def FST (p : Nat → Prop) (N : Nat) (c : Nat) : Prop := c < N ∧ p c ∧ ∀ x, x < c → ¬ p x
theorem FST.eq {p : Nat → Prop} {N a b : Nat} (h : FST p N a) (k : FST p N b) : a = b := by
  rcases Nat.lt_trichotomy a b with z | z | z
  · exact absurd h.2.1 (k.2.2 a z)
  · exact z
  · exact absurd k.2.1 (h.2.2 b z)
/-- the class's search -/
theorem A_row {fu P Q q0 : Nat} {v s aa : g_St} (hfu : 5000 ≤ fu) (hS : SV P Q v s) (h29 : gi s 29 = -1) (hq : q0 < Q) : ∀ (k D y : Nat) (d : Nat → Nat), k ≤ 3 → k < D → (∀ p, p < P → d p ≤ 9) → 1 ≤ y → y + k ≤ 2000 → ∃ r, f_A_rowFrom fu D aa v (nI q0) (nI k) (nI y) (nI (dgs 4 d P)) = some r ∧ ((∃ c, FST (fun c => psy fu P Q v s q0 k c y d) (Q ^ k) c ∧ r = nI (ec Q k c)) ∨ ((∀ c, c < Q ^ k → ¬ psy fu P Q v s q0 k c y d) ∧ r = -1)) := by
  have hS' := hS
  obtain ⟨⟨hP, hQ, v0, s0, v6, s5⟩, -⟩ := hS'
  intro k
  induction k with
  | zero =>
    intro D y d h1 h2 hd hy1 hy2
    obtain ⟨D, rfl⟩ : ∃ x, D = x + 1 := ⟨D - 1, by omega⟩
    obtain ⟨g1, g2, -⟩ := V_step hfu hS h29 hd hy1 (show y ≤ 2000 by omega) hq
    rw [f_A_rowFrom, f_A_rowFrom_B, if_pos (show nI 0 ≤ 3 by decide), if_neg (show ¬ (0 : Int32) < nI 0 by decide), bd1_eq _ g1, g2]
    by_cases z : felln s (rsy fu P v q0 y d) = 0
    · rw [if_pos z]
      exact ⟨0, rfl, Or.inl ⟨0, ⟨Nat.one_pos, z, fun x hx => by omega⟩, rfl⟩⟩
    · rw [if_neg z]
      exact ⟨-1, rfl, Or.inr ⟨fun c _ => z, rfl⟩⟩
  | succ k ih =>
    intro D y d h1 h2 hd hy1 hy2
    obtain ⟨D, rfl⟩ : ∃ x, D = x + 1 := ⟨D - 1, by omega⟩
    have hp : 0 < Q ^ k := Nat.pow_pos (by omega)
    have L : ∀ (r m j : Nat), r + j = Q → r < m → (∀ c, c < j * Q ^ k → ¬ psy fu P Q v s q0 (k + 1) c y d) → ∃ x, f_A_rowFrom_B_L41 fu (f_A_rowFrom fu D) m aa v (nI q0) (nI (k + 1)) (nI y) (nI (dgs 4 d P)) (nI j) = some x ∧ ((∃ c, FST (fun c => psy fu P Q v s q0 (k + 1) c y d) (Q ^ (k + 1)) c ∧ x = nI (ec Q (k + 1) c)) ∨ ((∀ c, c < Q ^ (k + 1) → ¬ psy fu P Q v s q0 (k + 1) c y d) ∧ x = -1)) := by
      intro r
      induction r with
      | zero =>
        intro m j hr hm hno
        obtain ⟨m, rfl⟩ : ∃ x, m = x + 1 := ⟨m - 1, by omega⟩
        rw [f_A_rowFrom_B_L41, v6, if_pos (nI_le (by omega) (by omega))]
        refine ⟨-1, rfl, Or.inr ⟨fun c hc => hno c ?_, rfl⟩⟩
        rw [show j = Q by omega, Nat.mul_comm, ← Nat.pow_succ]; exact hc
      | succ r ihr =>
        intro m j hr hm hno
        obtain ⟨m, rfl⟩ : ∃ x, m = x + 1 := ⟨m - 1, by omega⟩
        have hj : j < Q := by omega
        obtain ⟨g1, -, g3⟩ := V_step hfu hS h29 hd hy1 (show y ≤ 2000 by omega) hj
        obtain ⟨x, f1, f2⟩ := ih D (y + 1) (nxt fu P v s j y d) (by omega) (by omega) (fun p hp => nxt_le (hd p hp)) (by omega) (by omega)
        rw [f_A_rowFrom_B_L41, v6, if_neg (nI_ge (by omega) (by omega)), bd1_eq _ g1, bd1_eq _ g3, show nI (k + 1) - 1 = nI k from nI_pred k, nI_1, bd1_eq _ f1]
        -- a code of this block
        have blk : ∀ c, c < Q ^ k → (psy fu P Q v s q0 (k + 1) (j * Q ^ k + c) y d ↔ psy fu P Q v s q0 k c (y + 1) (nxt fu P v s j y d)) := fun c hc => by
          show psy fu P Q v s q0 k ((j * Q ^ k + c) % Q ^ k) (y + 1) (nxt fu P v s ((j * Q ^ k + c) / Q ^ k) y d) ↔ _
          rw [Nat.mul_comm j, Nat.mul_add_mod, Nat.mod_eq_of_lt hc, Nat.mul_add_div hp, Nat.div_eq_of_lt hc]
          exact Iff.rfl
        have up : j * Q ^ k + Q ^ k ≤ Q ^ (k + 1) := by
          rw [Nat.pow_succ, ← Nat.succ_mul, Nat.mul_comm]
          exact Nat.mul_le_mul_left _ hj
        rcases f2 with ⟨c, ⟨c1, c2, c3⟩, rfl⟩ | ⟨c1, rfl⟩
        · have e8 := ec_lt hQ k c c1
          have l8 : 8 ^ k ≤ 512 := by
            have := Nat.pow_le_pow_right (show 0 < 8 by omega) (show k ≤ 3 by omega)
            omega
          rw [if_neg (nI_pos (n := ec Q k c) (by omega)), show (8 : Int32) = nI 8 from rfl, pk_mul, nI_add]
          refine ⟨_, rfl, Or.inl ⟨j * Q ^ k + c, ⟨by omega, (blk c c1).mpr c2, fun x hx => ?_⟩, ?_⟩⟩
          · by_cases z : x < j * Q ^ k
            · exact hno x z
            · have e : x = j * Q ^ k + (x - j * Q ^ k) := by omega
              rw [e]
              exact fun t => c3 (x - j * Q ^ k) (by omega) ((blk _ (by omega)).mp t)
          · refine congrArg nI ?_
            show _ = ec Q k ((j * Q ^ k + c) % Q ^ k) * 8 + (j * Q ^ k + c) / Q ^ k
            rw [Nat.mul_comm j, Nat.mul_add_mod, Nat.mod_eq_of_lt c1, Nat.mul_add_div hp, Nat.div_eq_of_lt c1, Nat.add_zero]
        · rw [if_pos (show (-1 : Int32) < 0 by decide), lt_lt, nI_1]
          refine ihr m (j + 1) (by omega) (by omega) (fun c hc => ?_)
          rw [Nat.succ_mul] at hc
          by_cases z : c < j * Q ^ k
          · exact hno c z
          · have e : c = j * Q ^ k + (c - j * Q ^ k) := by omega
            rw [e]
            exact fun t => c1 (c - j * Q ^ k) (by omega) ((blk _ (by omega)).mp t)
    rw [f_A_rowFrom, f_A_rowFrom_B, if_pos (show nI (k + 1) ≤ 3 from nI_le (b := 3) (by omega) (by omega)), if_pos (show (0 : Int32) < nI (k + 1) from nI_lt (a := 0) (by omega) (by omega))]
    exact L Q fu 0 (by omega) (by omega) (fun c hc => by rw [Nat.zero_mul] at hc; omega)
/-- the reference tries one code -/
theorem M_pass {fu P Q q0 k : Nat} {v s0 : g_St} (hfu : 5000 ≤ fu) (hq : q0 < Q) (hk : k ≤ 3) : ∀ (r m i left A y : Nat) (d : Nat → Nat) (s : g_St), i + r = k → r < m → left < Q ^ r → (A = if i = 0 then 0 else 7) → SV P Q v s → gr s 8 = gr s0 8 → RW P A y d s → gi s 29 = -1 → y + r ≤ 1999 → ∃ x s', f_M_passes_L36 fu m s (nI q0) (nI k) (nI (Q ^ (r - 1))) (nI left) (nI A) (nI i) = some (x, s') ∧ OW 7 s s' ∧ ((psy fu P Q v s0 q0 r left y d ∧ x = 1) ∨ (¬ psy fu P Q v s0 q0 r left y d ∧ x = 0)) := by
  intro r
  induction r with
  | zero =>
    intro m i left A y d s hi hm hl hA hS h8 hR h29 hy
    obtain ⟨m, rfl⟩ : ∃ x, m = x + 1 := ⟨m - 1, by omega⟩
    have hA' : A = 7 ∨ A + 7 ≤ 7 ∨ 7 + 7 ≤ A := by rw [hA]; split <;> omega
    obtain ⟨s1, f1, f2, f3⟩ := W_step (B := 7) hfu hS hR h29 hq (by omega) hA' (by omega)
    have f1' : f_M_goes fu s (nI A) 7 (nI q0) = some (felln s (rsy fu P v q0 y d), s1) := f1
    rw [f_M_passes_L36, if_pos (nI_le (by omega) (by omega)), bd2_eq _ f1']
    have ef := felln_cong h8 (rsy fu P v q0 y d)
    by_cases z : felln s (rsy fu P v q0 y d) = 0
    · rw [if_pos z]
      refine ⟨1, s1, rfl, f3, Or.inl ⟨?_, rfl⟩⟩
      show felln s0 (rsy fu P v q0 y d) = 0
      rw [← ef]; exact z
    · rw [if_neg z]
      refine ⟨0, s1, rfl, f3, Or.inr ⟨?_, rfl⟩⟩
      show ¬ felln s0 (rsy fu P v q0 y d) = 0
      rw [← ef]; exact z
  | succ r ih =>
    intro m i left A y d s hi hm hl hA hS h8 hR h29 hy
    obtain ⟨m, rfl⟩ : ∃ x, m = x + 1 := ⟨m - 1, by omega⟩
    have hQ0 : 0 < Q := by omega
    have hQ := hS.1.2.1
    have hA' : A = 7 ∨ A + 7 ≤ 7 ∨ 7 + 7 ≤ A := by rw [hA]; split <;> omega
    have hp : 0 < Q ^ r := Nat.pow_pos hQ0
    have hb : ∀ k, k ≤ 3 → Q ^ k ≤ 512 := fun k hk => by
      have a : Q ^ k ≤ 8 ^ k := Nat.pow_le_pow_left hQ k
      have b : 8 ^ k ≤ 8 ^ 3 := Nat.pow_le_pow_right (by omega) hk
      omega
    have p1 := hb r (by omega)
    have p2 := hb (r + 1) (by omega)
    have hd : left / Q ^ r < Q := (Nat.div_lt_iff_lt_mul hp).mpr (by rw [Nat.mul_comm, ← Nat.pow_succ]; exact hl)
    obtain ⟨s1, f1, f2, f3⟩ := W_step (B := 7) hfu hS hR h29 hd (by omega) hA' (by omega)
    have f1' : f_M_goes fu s (nI A) 7 (nI (left / Q ^ r)) = some (felln s (rsy fu P v (left / Q ^ r) y d), s1) := f1
    have en : nxt fu P v s (left / Q ^ r) y d = nxt fu P v s0 (left / Q ^ r) y d := by
      unfold nxt; rw [grw_cong h8]
    rw [en] at f2
    obtain ⟨x, s', e1, e2, e3⟩ := ih m (i + 1) (left % Q ^ r) 7 (y + 1) (nxt fu P v s0 (left / Q ^ r) y d) s1 (by omega) (by omega) (Nat.mod_lt _ hp) (by rw [if_neg (by omega)]) (f3.sv hS) ((f3.2.1 8 (by omega)).trans h8) f2 ((f3.1 29 (by omega) (by omega)).trans h29) (by omega)
    refine ⟨x, s', ?_, f3.trans e2, e3⟩
    have by0 : ¬ nI (Q ^ r) = 0 := nI_ne0 hp (by omega)
    rw [f_M_passes_L36, if_neg (nI_ge (by omega) (by omega)), show r + 1 - 1 = r by omega, gd_of by0, pk_div (by omega) hp (by omega), bd2_eq _ f1', gd_of by0, lt_lt, g_rem_N (by omega) hp (by omega)]
    have e1' : f_M_passes_L36 fu m s1 (nI q0) (nI k) (nI (Q ^ (r - 1))) (nI (left % Q ^ r)) 7 (nI (i + 1)) = some (x, s') := e1
    by_cases o : Q ^ r = 1
    · have o1 : Q ^ (r - 1) = 1 := by
        rcases Nat.eq_zero_or_pos r with z | z
        · rw [z]; rfl
        · have : Q ^ r = Q ^ (r - 1) * Q := by rw [← Nat.pow_succ]; exact congrArg (Q ^ ·) (by omega)
          have q := Nat.pow_pos (n := r - 1) hQ0
          rw [o] at this
          exact Nat.eq_one_of_mul_eq_one_right this.symm
      rw [if_pos (show nI (Q ^ r) ≤ 1 by rw [o]; decide), lt_lt, nI_1]
      rw [o1] at e1'
      exact e1'
    · have r0 : 0 < r := by
        rcases Nat.eq_zero_or_pos r with z | z
        · exact absurd (by rw [z]; rfl) o
        · exact z
      have ed : Q ^ r / Q = Q ^ (r - 1) := by
        have : Q ^ r = Q ^ (r - 1) * Q := by rw [← Nat.pow_succ]; exact congrArg (Q ^ ·) (by omega)
        rw [this, Nat.mul_div_cancel _ hQ0]
      have s15 : gi s1 5 = nI Q := (f3.sv hS).1.2.2.2.2.2
      rw [if_neg (show ¬ nI (Q ^ r) ≤ 1 from nI_ge (a := 1) (by omega) (by omega)), s15, gd_of (nI_ne0 hQ0 (by omega)), lt_lt, lt_lt, pk_div (by omega) hQ0 (by omega), ed, nI_1]
      exact e1'
theorem M_passes {fu P Q q0 k c y : Nat} {v s0 s : g_St} {d : Nat → Nat} (hfu : 5000 ≤ fu) (hq : q0 < Q) (hk : k ≤ 3) (hc : c < Q ^ k) (hS : SV P Q v s) (h8 : gr s 8 = gr s0 8) (hR : RW P 0 y d s) (h29 : gi s 29 = -1) (hy : y + k ≤ 1999) : ∃ x s', f_M_passes fu s (nI q0) (nI k) (nI c) = some (x, s') ∧ OW 7 s s' ∧ ((psy fu P Q v s0 q0 k c y d ∧ x = 1) ∨ (¬ psy fu P Q v s0 q0 k c y d ∧ x = 0)) := by
  have s5 := hS.1.2.2.2.2.2
  have L : ∀ (r m j : Nat), (j = 1 ∧ r = 0 ∧ k ≤ 1 ∨ r + j = k) → 1 ≤ j → r < m → f_M_passes_L6 fu m s (nI q0) (nI k) (nI c) (nI (Q ^ (j - 1))) (nI j) = f_M_passes_L36 fu fu s (nI q0) (nI k) (nI (Q ^ (k - 1))) (nI c) 0 0 := by
    intro r
    induction r with
    | zero =>
      intro m j hr hj hm
      obtain ⟨m, rfl⟩ : ∃ x, m = x + 1 := ⟨m - 1, by omega⟩
      rw [f_M_passes_L6, if_pos (nI_le (by omega) (by omega)), show Q ^ (j - 1) = Q ^ (k - 1) from congrArg (Q ^ ·) (by omega)]
    | succ r ih =>
      intro m j hr hj hm
      obtain ⟨m, rfl⟩ : ∃ x, m = x + 1 := ⟨m - 1, by omega⟩
      rw [f_M_passes_L6, if_neg (nI_ge (by omega) (by omega)), lt_lt, lt_lt, s5, pk_mul, ← Nat.pow_succ, nI_1, show (j - 1).succ = j + 1 - 1 by omega]
      exact ih m (j + 1) (by omega) (by omega) (by omega)
  obtain ⟨x, s', e1, e2⟩ := M_pass (s0 := s0) hfu hq hk k fu 0 c 0 y d s (by omega) (by omega) hc (by rw [if_pos rfl]) hS h8 hR h29 hy
  refine ⟨x, s', ?_, e2⟩
  have l := L (k - 1) fu 1 (by omega) (by omega) (by omega)
  exact l.trans e1
/-- the reference tries all codes of a length -/
theorem M_codes {fu P Q q0 k y : Nat} {v s0 : g_St} {d : Nat → Nat} {what : Int32} {K : g_St → Int32 → Int32 → Int32 → Int32 → Option (Int32 × g_St)} (hfu : 5000 ≤ fu) (hq : q0 < Q) (hk : k ≤ 3) (hy : y + k ≤ 1999) : ∀ (r m j : Nat) (s : g_St), r + j = Q ^ k → r < m → (∀ c, c < j → ¬ psy fu P Q v s0 q0 k c y d) → SV P Q v s → gr s 8 = gr s0 8 → RW P 0 y d s → gi s 29 = -1 → ∃ s', OW 7 s s' ∧ ((∃ c, FST (fun c => psy fu P Q v s0 q0 k c y d) (Q ^ k) c ∧ f_M_lets_L31 fu K m s (nI q0) what (nI (Q ^ k)) (nI k) (nI j) = some (if what = 0 then nI k else nI (ec Q k c), s')) ∨ ((∀ c, c < Q ^ k → ¬ psy fu P Q v s0 q0 k c y d) ∧ f_M_lets_L31 fu K m s (nI q0) what (nI (Q ^ k)) (nI k) (nI j) = K s' (nI q0) what (nI (Q ^ (k + 1))) (nI (k + 1)))) := by
  intro r
  induction r with
  | zero =>
    intro m j s hr hm hno hS h8 hR h29
    obtain ⟨m, rfl⟩ : ∃ x, m = x + 1 := ⟨m - 1, by omega⟩
    have s5 := hS.1.2.2.2.2.2
    have hQ := hS.1.2.1
    have b : Q ^ k ≤ 512 := by
      have a : Q ^ k ≤ 8 ^ k := Nat.pow_le_pow_left hQ k
      have b : 8 ^ k ≤ 8 ^ 3 := Nat.pow_le_pow_right (by omega) hk
      omega
    refine ⟨s, OW.rf, Or.inr ⟨fun c hc => hno c (by omega), ?_⟩⟩
    rw [f_M_lets_L31, if_pos (nI_le (by omega) (by omega)), lt_lt, lt_lt, s5, pk_mul, ← Nat.pow_succ, nI_1]
  | succ r ih =>
    intro m j s hr hm hno hS h8 hR h29
    obtain ⟨m, rfl⟩ : ∃ x, m = x + 1 := ⟨m - 1, by omega⟩
    have s5 := hS.1.2.2.2.2.2
    have hQ := hS.1.2.1
    have hP := hS.1.1
    have b : Q ^ k ≤ 512 := by
      have a : Q ^ k ≤ 8 ^ k := Nat.pow_le_pow_left hQ k
      have b : 8 ^ k ≤ 8 ^ 3 := Nat.pow_le_pow_right (by omega) hk
      omega
    obtain ⟨x, s1, e1, e2, e3⟩ := M_passes (s0 := s0) hfu hq hk (show j < Q ^ k by omega) hS h8 hR h29 hy
    rcases e3 with ⟨e3, rfl⟩ | ⟨e3, rfl⟩
    · refine ⟨s1, e2, Or.inl ⟨j, ⟨by omega, e3, hno⟩, ?_⟩⟩
      rw [f_M_lets_L31, if_neg (nI_ge (by omega) (by omega)), bd2_eq _ e1, if_neg ne10]
      by_cases w : what = 0
      · rw [if_pos w, if_pos w]
      · rw [if_neg w, if_neg w, bd1_eq _ (M_digits hfu (by omega) hQ (e2.sv hS).1.2.2.2.2.2 hk (by omega))]
    · obtain ⟨s', f1, f2⟩ := ih m (j + 1) s1 (by omega) (by omega) (fun c hc => by
        by_cases z : c = j
        · rw [z]; exact e3
        · exact hno c (by omega)) (e2.sv hS) ((e2.2.1 8 (by omega)).trans h8) (e2.rw hR hP (by omega)) ((e2.1 29 (by omega) (by omega)).trans h29)
      have st : f_M_lets_L31 fu K (m + 1) s (nI q0) what (nI (Q ^ k)) (nI k) (nI j) = f_M_lets_L31 fu K m s1 (nI q0) what (nI (Q ^ k)) (nI k) (nI (j + 1)) := by
        rw [f_M_lets_L31, if_neg (nI_ge (by omega) (by omega)), bd2_eq _ e1, if_pos rfl, lt_lt, nI_1]
      rw [st]
      exact ⟨s', e2.trans f1, f2⟩
theorem W_lets_L {fu P Q q0 y : Nat} {v s0 ah nw : g_St} {d : Nat → Nat} {what : Int32} (hfu : 5000 ≤ fu) (hq : q0 < Q) (hY : YV P y d v) (hS0 : SV P Q v s0) (hy1 : 1 ≤ y) (hy : y ≤ 1000) (h290 : gi s0 29 = -1) : ∀ (r m m' k : Nat) (s : g_St), r + k = 4 → r < m → r < m' → OW 7 s0 s → RW P 0 y d s → ∃ x s', f_O_lets_L33 fu m nw ah v (nI q0) what (nI k) = some (x, ah, v) ∧ f_M_lets_L22 fu m' s (nI q0) what (nI (Q ^ k)) (nI k) = some (x, s') ∧ OW 7 s0 s' := by
  intro r
  induction r with
  | zero =>
    intro m m' k s hr hm hm' hO hR
    obtain ⟨m, rfl⟩ : ∃ x, m = x + 1 := ⟨m - 1, by omega⟩
    obtain ⟨m', rfl⟩ : ∃ x, m' = x + 1 := ⟨m' - 1, by omega⟩
    refine ⟨-3, s, ?_, ?_, hO⟩
    · rw [f_O_lets_L33, if_pos (show (3 : Int32) < nI k from nI_lt (a := 3) (by omega) (by omega))]
    · rw [f_M_lets_L22, if_pos (show (4 : Int32) ≤ nI k from nI_le (a := 4) (by omega) (by omega))]
  | succ r ih =>
    intro m m' k s hr hm hm' hO hR
    obtain ⟨m, rfl⟩ : ∃ x, m = x + 1 := ⟨m - 1, by omega⟩
    obtain ⟨m', rfl⟩ : ∃ x, m' = x + 1 := ⟨m' - 1, by omega⟩
    have hS := hO.sv hS0
    have h29 := (hO.1 29 (by omega) (by omega)).trans h290
    have hQ := hS.1.2.1
    have hP := hS.1.1
    have hp : 0 < Q ^ k := Nat.pow_pos (by omega)
    have b : Q ^ k ≤ 512 := by
      have a : Q ^ k ≤ 8 ^ k := Nat.pow_le_pow_left hQ k
      have b : 8 ^ k ≤ 8 ^ 3 := Nat.pow_le_pow_right (by omega) (by omega)
      omega
    obtain ⟨x, e1, e2⟩ := A_row (aa := ah) hfu hS0 h290 hq k 6 y d (by omega) (by omega) (fun p hp => (hY.2 p hp).2) hy1 (by omega)
    obtain ⟨s1, f1, f2⟩ := M_codes (s0 := s0) (what := what) (K := f_M_lets_L22 fu m') (v := v) (d := d) hfu hq (show k ≤ 3 by omega) (by omega) (Q ^ k) fu 0 s (by omega) (by omega) (fun c hc => by omega) hS (hO.2.1 8 (by omega)) hR h29
    have hA : f_A_rowThatLets fu ah v (nI q0) (nI k) = some x := by
      unfold f_A_rowThatLets
      rw [bd1_eq _ (V_packed hfu hS.1.2.2.1 hP hY.2), cl3, hY.1, bd1_eq _ e1]
    rw [f_O_lets_L33, if_neg (show ¬ (3 : Int32) < nI k from nI_nlt (a := 3) (by omega) (by omega)), bd1_eq _ hA, f_M_lets_L22, if_neg (show ¬ (4 : Int32) ≤ nI k from nI_ge (b := 4) (by omega) (by omega))]
    rcases e2 with ⟨c, c1, rfl⟩ | ⟨c1, rfl⟩
    · rcases f2 with ⟨c', c2, f2⟩ | ⟨c2, -⟩
      · have cc := c1.eq c2
        subst cc
        have e8 := ec_lt hQ k c c1.1
        have l8 : 8 ^ k ≤ 512 := by
          have := Nat.pow_le_pow_right (show 0 < 8 by omega) (show k ≤ 3 by omega)
          omega
        have f2' : f_M_lets_L31 fu (f_M_lets_L22 fu m') fu s (nI q0) what (nI (Q ^ k)) (nI k) 0 = _ := f2
        rw [if_neg (nI_pos (n := ec Q k c) (by omega)), f2']
        by_cases w : what = 0
        · rw [if_pos w, if_pos w]; exact ⟨_, s1, rfl, rfl, hO.trans f1⟩
        · rw [if_neg w, if_neg w]; exact ⟨_, s1, rfl, rfl, hO.trans f1⟩
      · exact absurd c1.2.1 (c2 c c1.1)
    · rcases f2 with ⟨c', c2, -⟩ | ⟨-, f2⟩
      · exact absurd c2.2.1 (c1 c' c2.1)
      · have f2' : f_M_lets_L31 fu (f_M_lets_L22 fu m') fu s (nI q0) what (nI (Q ^ k)) (nI k) 0 = _ := f2
        rw [if_pos (show (-1 : Int32) < 0 by decide), lt_lt, nI_1, f2']
        exact ih m m' (k + 1) s1 (by omega) (by omega) (by omega) (hO.trans f1) (f1.rw hR hP (by omega))
theorem t_lets {fu P Q : Nat} (hfu : 5000 ≤ fu) {v s : g_St} (h : RV P Q v s) (c : RC s) (ah aw : g_St) (x1 x2 : Int32) : ∃ r ah' aw' s', f_O_lets fu v ah aw x1 x2 = some (r, ah', aw') ∧ f_M_lets fu s x1 x2 = some (r, s') ∧ RV P Q v s' ∧ OV s s' := by
  obtain ⟨⟨hP, hQ, v0, s0, v6, s5⟩, -⟩ := h.1
  have h29 := c.2.2.2.2.2.2
  unfold f_O_lets f_M_lets
  rw [within_in, side_of]
  rcases proposal_or v6 s5 (by omega) x1 with ⟨q, hqQ, rfl, e1, e2⟩ | ⟨e1, e2⟩
  · rw [e1, e2, if_neg ne10, if_neg ne10]
    by_cases k : f_S_in x2 0 1 = 0
    · rw [if_pos k, if_pos k]; exact ⟨_, ah, aw, s, rfl, rfl, h, OV.rf⟩
    · rw [if_neg k, if_neg k]
      obtain ⟨ah', aw', l1, l2, l3, l4⟩ := W_look hfu h.1 ah aw (-1)
      have hA := h.copy l4
      obtain ⟨y, y1, hR, y2, hd⟩ := hA.row
      obtain ⟨x, s', f1, f2, f3⟩ := W_lets_L (fu := fu) (ah := ah') (nw := v) (what := x2) hfu hqQ ⟨y2, hd⟩ hA.1 hR.2.2.2.1 (by omega) h29 4 fu fu 0 s (by omega) (by omega) (by omega) OW.rf hR
      rw [bd2_eq _ l1]
      exact ⟨x, ah', aw', s', f1, f2, h.ag (f3.ag (by omega)), f3.ov⟩
  · rw [e1, e2, if_pos rfl, if_pos rfl]; exact ⟨_, ah, aw, s, rfl, rfl, h, OV.rf⟩
