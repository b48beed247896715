/-! Digits: noes packed four bits a person, sets one bit a person. -/
def dgs (e : Nat) (d : Nat → Nat) : Nat → Nat
  | 0 => 0
  | n + 1 => dgs e d n + d n * 2 ^ (e * n)
theorem dgs_lt (e : Nat) (d : Nat → Nat) : ∀ n, (∀ p, p < n → d p < 2 ^ e) → dgs e d n < 2 ^ (e * n) := by
  intro n
  induction n with
  | zero => intro _; exact Nat.two_pow_pos _
  | succ n ih =>
    intro h
    have a := ih (fun p hp => h p (by omega))
    have b : d n + 1 ≤ 2 ^ e := h n (by omega)
    have c : (d n + 1) * 2 ^ (e * n) ≤ 2 ^ e * 2 ^ (e * n) := Nat.mul_le_mul_right _ b
    rw [Nat.add_mul, Nat.one_mul, ← Nat.pow_add] at c
    show dgs e d n + d n * 2 ^ (e * n) < 2 ^ (e * (n + 1))
    rw [show e * (n + 1) = e + e * n by rw [Nat.mul_add, Nat.mul_one, Nat.add_comm]]
    omega
theorem dgs_cong (e : Nat) (d f : Nat → Nat) : ∀ n, (∀ p, p < n → d p = f p) → dgs e d n = dgs e f n := by
  intro n
  induction n with
  | zero => intro _; rfl
  | succ n ih =>
    intro h
    show dgs e d n + d n * 2 ^ (e * n) = dgs e f n + f n * 2 ^ (e * n)
    rw [ih (fun p hp => h p (by omega)), h n (by omega)]
theorem dgs_at (e : Nat) (d : Nat → Nat) : ∀ n, (∀ p, p < n → d p < 2 ^ e) → ∀ p, p < n → dgs e d n / 2 ^ (e * p) % 2 ^ e = d p := by
  intro n
  induction n with
  | zero => intro _ p hp; omega
  | succ n ih =>
    intro h p hp
    have a := dgs_lt e d n (fun p hp => h p (by omega))
    show (dgs e d n + d n * 2 ^ (e * n)) / 2 ^ (e * p) % 2 ^ e = d p
    by_cases q : p = n
    · rw [q, Nat.add_mul_div_right _ _ (Nat.two_pow_pos _), Nat.div_eq_of_lt a, Nat.zero_add, Nat.mod_eq_of_lt (h n (by omega))]
    · have w : e * n = e * p + (e + e * (n - 1 - p)) := by
        rw [show n = p + 1 + (n - 1 - p) by omega, Nat.mul_add, Nat.mul_add, Nat.mul_one]
        rw [show p + 1 + (n - 1 - p) - 1 - p = n - 1 - p by omega]; omega
      rw [w, Nat.pow_add, Nat.pow_add, show d n * (2 ^ (e * p) * (2 ^ e * 2 ^ (e * (n - 1 - p)))) = (d n * 2 ^ (e * (n - 1 - p)) * 2 ^ e) * 2 ^ (e * p) by simp only [Nat.mul_assoc, Nat.mul_comm, Nat.mul_left_comm], Nat.add_mul_div_right _ _ (Nat.two_pow_pos _), Nat.add_mul_mod_self_right]
      exact ih (fun p hp => h p (by omega)) p (by omega)
theorem dgs_out (e : Nat) (d : Nat → Nat) (n : Nat) (h : ∀ p, p < n → d p < 2 ^ e) (p : Nat) (hp : n ≤ p) : dgs e d n / 2 ^ (e * p) = 0 :=
  Nat.div_eq_of_lt (Nat.lt_of_lt_of_le (dgs_lt e d n h) (Nat.pow_le_pow_right (by omega) (Nat.mul_le_mul_left e hp)))
/-- shifts by a place -/
theorem sh_a : ∀ k : Fin 32, ((nI k.val &&& 31).toBitVec.smod 32).toNat = k.val := by decide +kernel
theorem sh_b : ∀ k : Fin 32, (((nI k.val).toUInt32 &&& Int32.toUInt32 31).toBitVec % 32).toNat = k.val := by decide +kernel
theorem shl_N {n k : Nat} (hk : k < 32) (h : n * 2 ^ k < 2 ^ 32) : g_shl (nI n) (nI k) = nI (n * 2 ^ k) := pk_shlN _ k (sh_a ⟨k, hk⟩) h
theorem shr_N {n k : Nat} (hk : k < 32) (h : n < 2 ^ 31) : g_shr (nI n) (nI k) = nI (n / 2 ^ k) := pk_shrN h _ k (sh_a ⟨k, hk⟩)
theorem ushr_N {n k : Nat} (hk : k < 32) (h : n < 2 ^ 32) : g_ushr (nI n) (nI k) = nI (n / 2 ^ k) := pk_ushrN h _ k (sh_b ⟨k, hk⟩)
theorem or_N {a b : Nat} (ha : a < 2 ^ 32) (hb : b < 2 ^ 32) : nI a ||| nI b = nI (a ||| b) := by
  apply Int32.toBitVec_inj.mp
  apply BitVec.eq_of_toNat_eq
  rw [Int32.toBitVec_or, BitVec.toNat_or, pk_tn ha, pk_tn hb, pk_tn (Nat.or_lt_two_pow ha hb)]
theorem or_add {a b k : Nat} (ha : a < 2 ^ k) (h : a + b * 2 ^ k < 2 ^ 31) : nI a ||| nI (b * 2 ^ k) = nI (a + b * 2 ^ k) := by
  rw [or_N (by omega) (by omega), Nat.or_comm, Nat.mul_comm b, ← Nat.two_pow_add_eq_or_of_lt ha, Nat.add_comm]
theorem four (p : Nat) : (4 : Int32) * nI p = nI (4 * p) := pk_mul 4 p
theorem noes_at {d : Nat → Nat} {n p : Nat} (hn : n ≤ 6) (h : ∀ p, p < n → d p < 16) (hp : p < n) : f_S_noesIn (nI (dgs 4 d n)) (nI p) = nI (d p) := by
  have a := dgs_lt 4 d n h
  have b : 2 ^ (4 * n) ≤ 2 ^ 24 := Nat.pow_le_pow_right (by omega) (by omega)
  unfold f_S_noesIn
  rw [four, ushr_N (by omega) (by omega), pk_andN (m := 15) (Nat.lt_of_le_of_lt (Nat.div_le_self _ _) (by omega)) 4 rfl]
  exact congrArg nI (dgs_at 4 d n h p hp)
theorem noes_0 {d : Nat → Nat} {n p : Nat} (hn : n ≤ 6) (h : ∀ p, p < n → d p < 16) (hp : p < n) (b : d p ≤ 9) : (f_S_noesIn (nI (dgs 4 d n)) (nI p) ≤ 0) ↔ d p = 0 := by
  rw [noes_at hn h hp]
  exact (nIle (b := 0) (by omega) (by omega)).trans (by omega)
/-- a place in a set -/
theorem bit_ushr {m p : Nat} (hm : m < 64) (hp : p < 32) : (g_ushr (nI m) (nI p)) &&& 1 = nI (m / 2 ^ p % 2) := by
  rw [ushr_N hp (by omega)]
  exact pk_andN (m := 1) (Nat.lt_of_le_of_lt (Nat.div_le_self _ _) (by omega)) 1 rfl
theorem bit_shr {m p : Nat} (hm : m < 2 ^ 31) (hp : p < 32) : (g_shr (nI m) (nI p)) &&& 1 = nI (m / 2 ^ p % 2) := by
  rw [shr_N hp hm]
  exact pk_andN (m := 1) (Nat.lt_of_le_of_lt (Nat.div_le_self _ _) (by omega)) 1 rfl
theorem bit_u2 {m p : Nat} (hm : m < 2 ^ 31) (hp : p < 32) : (g_ushr (nI m) (nI p)) &&& 1 = nI (m / 2 ^ p % 2) := by
  rw [ushr_N hp (by omega)]
  exact pk_andN (m := 1) (Nat.lt_of_le_of_lt (Nat.div_le_self _ _) (by omega)) 1 rfl
theorem bit_one {x : Nat} : nI (x % 2) = 1 ↔ x % 2 = 1 := (nIeq (a := x % 2) (b := 1) (by omega) (by omega))
/-- the village's noes, packed -/
theorem V_packed_L {fu P : Nat} {v : g_St} {d : Nat → Nat} (v0 : gi v 0 = nI P) (hP : P ≤ 6) (hd : ∀ p, p < P → gr v 4 p = nI (d p) ∧ d p ≤ 9) : ∀ (k n j : Nat), k + j = P → k < n → f_V_packedNoes_L4 fu n v (nI (dgs 4 d j)) (nI j) = some (nI (dgs 4 d P)) := by
  intro k
  induction k with
  | zero =>
    intro n j hk hn
    obtain ⟨w, rfl⟩ : ∃ w, n = w + 1 := ⟨n - 1, by omega⟩
    rw [f_V_packedNoes_L4, v0, if_pos (nI_le (by omega) (by omega)), show j = P by omega]
  | succ k ih =>
    intro n j hk hn
    obtain ⟨w, rfl⟩ : ∃ w, n = w + 1 := ⟨n - 1, by omega⟩
    have e := ih w (j + 1) (by omega) (by omega)
    have h16 : ∀ p, p < P → d p < 2 ^ 4 := fun p hp => by have := (hd p hp).2; omega
    have a := dgs_lt 4 d j (fun p hp => h16 p (by omega))
    have a2 := dgs_lt 4 d (j + 1) (fun p hp => h16 p (by omega))
    have b : 2 ^ (4 * (j + 1)) ≤ 2 ^ 24 := Nat.pow_le_pow_right (by omega) (by omega)
    have a3 : dgs 4 d j + d j * 2 ^ (4 * j) < 2 ^ 24 := Nat.lt_of_lt_of_le a2 b
    rw [f_V_packedNoes_L4, v0, if_neg (nI_ge (by omega) (by omega)), gd_of (vpn (by omega) (by omega)), lt_lt, lt_lt, nIc (by omega), (hd j (by omega)).1, four, shl_N (by omega) (by omega), or_add a (by omega), nI_1]
    exact e
theorem V_packed {fu P : Nat} (hfu : 5000 ≤ fu) {v : g_St} {d : Nat → Nat} (v0 : gi v 0 = nI P) (hP : P ≤ 6) (hd : ∀ p, p < P → gr v 4 p = nI (d p) ∧ d p ≤ 9) : f_V_packedNoes fu v = some (nI (dgs 4 d P)) := V_packed_L v0 hP hd P fu 0 (by omega) (by omega)
