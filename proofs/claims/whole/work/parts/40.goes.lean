/-! A proposal comes: what is left of the noes. -/
def updN (d : Nat → Nat) (j x : Nat) : Nat → Nat := fun p => if p = j then x else d p
theorem dgs_upd (e : Nat) (d : Nat → Nat) (j x : Nat) : ∀ n, j < n → dgs e (updN d j x) n + d j * 2 ^ (e * j) = dgs e d n + x * 2 ^ (e * j) := by
  intro n
  induction n with
  | zero => intro h; omega
  | succ n ih =>
    intro h
    show dgs e (updN d j x) n + updN d j x n * 2 ^ (e * n) + d j * 2 ^ (e * j) = dgs e d n + d n * 2 ^ (e * n) + x * 2 ^ (e * j)
    by_cases q : n = j
    · have c : dgs e (updN d j x) n = dgs e d n := dgs_cong e _ _ n (fun p hp => if_neg (by omega))
      rw [c, q, show updN d j x j = x from if_pos rfl]
      omega
    · have i := ih (by omega)
      rw [show updN d j x n = d n from if_neg q]
      omega
/-- the noes after a year -/
def nwd (g : Bool) (R : Nat) (d : Nat → Nat) (p : Nat) : Nat := if g = true ∧ d p - bt R p = 0 then 1 else d p - bt R p
theorem nwd_le {g : Bool} {R : Nat} {d : Nat → Nat} {p : Nat} (h : d p ≤ 9) : nwd g R d p ≤ 9 := by
  unfold nwd
  split <;> omega
def gIf (g : Bool) : Int32 := if g = true then 1 else 0
theorem V_after_L {fu P R : Nat} {v : g_St} {d : Nat → Nat} {g : Bool} (v0 : gi v 0 = nI P) (hP : P ≤ 6) (hR : R < 64) (hd : ∀ p, p < P → d p ≤ 9 ∧ (bt R p = 1 → 1 ≤ d p)) : ∀ (k n j : Nat) (f : Nat → Nat), k + j = P → k < n → (∀ p, p < P → f p ≤ 9 ∧ (j ≤ p → f p = d p)) → ∃ f', (∀ p, p < P → f' p = if j ≤ p then nwd g R d p else f p) ∧ f_V_noesAfter_L33 fu n v (nI R) (gIf g) (nI (dgs 4 f P)) (nI j) = some (nI (dgs 4 f' P)) := by
  intro k
  induction k with
  | zero =>
    intro n j f hk hn hf
    obtain ⟨w, rfl⟩ : ∃ w, n = w + 1 := ⟨n - 1, by omega⟩
    refine ⟨f, fun p hp => by rw [if_neg (by omega)], ?_⟩
    rw [f_V_noesAfter_L33, v0, if_pos (nI_le (by omega) (by omega))]
  | succ k ih =>
    intro n j f hk hn hf
    obtain ⟨w, rfl⟩ : ∃ w, n = w + 1 := ⟨n - 1, by omega⟩
    have hj : j < P := by omega
    have hdj := hd j hj
    have efj := (hf j hj).2 (by omega)
    have bj : nI (R / 2 ^ j % 2) = 1 ↔ bt R j = 1 := bit_one
    have hb := bt_le R j
    have t4 : 2 ^ (4 * j) ≤ 2 ^ 20 := Nat.pow_le_pow_right (by omega) (by omega)
    have tp : 0 < 2 ^ (4 * j) := Nat.two_pow_pos _
    -- after the sayer has paid
    have f1 : ∀ p, p < P → updN f j (d j - bt R j) p ≤ 9 := fun p hp => by
      unfold updN; split
      · omega
      · exact (hf p hp).1
    have l0 := dgs_lt 4 f P (fun p hp => by have := (hf p hp).1; omega)
    have lP : 2 ^ (4 * P) ≤ 2 ^ 24 := Nat.pow_le_pow_right (by omega) (by omega)
    have u1 := dgs_upd 4 f j (d j - bt R j) P hj
    rw [efj] at u1
    have s67 : f_V_noesAfter_L67 fu (f_V_noesAfter_L33 fu w) v (nI R) (gIf g) (nI (dgs 4 (updN f j (d j - bt R j)) P)) (nI j) (nI (2 ^ (4 * j))) = f_V_noesAfter_L33 fu w v (nI R) (gIf g) (nI (dgs 4 (updN f j (nwd g R d j)) P)) (nI (j + 1)) := by
      rw [f_V_noesAfter_L67]
      simp only [lt_lt]
      rw [noes_at hP (fun p hp => by have := f1 p hp; omega) hj, show updN f j (d j - bt R j) j = d j - bt R j from if_pos rfl, nI_1]
      cases g
      · rw [show gIf false = 0 from rfl, if_pos rfl, show nwd false R d j = d j - bt R j from if_neg (fun q => by cases q.1)]
      · rw [show gIf true = 1 from rfl, if_neg ne10]
        by_cases z : d j - bt R j = 0
        · have u2 := dgs_upd 4 f j 1 P hj
          rw [efj] at u2
          rw [show nwd true R d j = 1 from if_pos ⟨rfl, z⟩, z, if_pos (show nI 0 = 0 from rfl), nI_add]
          rw [z] at u1
          rw [show dgs 4 (updN f j 0) P + 2 ^ (4 * j) = dgs 4 (updN f j 1) P by omega]
        · rw [show nwd true R d j = d j - bt R j from if_neg (fun q => z q.2), if_neg (nI_ne0 (by omega) (by omega))]
    obtain ⟨f', h1, h2⟩ := ih w (j + 1) (updN f j (nwd g R d j)) (by omega) (by omega) (fun p hp => by
      have := hf p hp
      refine ⟨?_, fun h => ?_⟩
      · unfold updN; split
        · exact nwd_le hdj.1
        · exact this.1
      · rw [show updN f j (nwd g R d j) p = f p from if_neg (by omega)]; exact this.2 (by omega))
    refine ⟨f', fun p hp => ?_, ?_⟩
    · rw [h1 p hp]
      by_cases q : j + 1 ≤ p
      · rw [if_pos q, if_pos (by omega)]
      · rw [if_neg q]
        by_cases q2 : p = j
        · rw [if_pos (by omega), q2]; exact if_pos rfl
        · rw [if_neg (by omega)]; exact if_neg q2
    · rw [f_V_noesAfter_L33, v0, if_neg (nI_ge (by omega) (by omega)), bit_ushr hR (by omega), four, show (1 : Int32) = nI 1 from rfl, shl_N (by omega) (by omega), Nat.one_mul]
      simp only [lt_lt]
      by_cases b : bt R j = 1
      · rw [if_pos (show nI (R / 2 ^ j % 2) = nI 1 from bj.mpr b)]
        have hd1 := hdj.2 b
        rw [b] at u1 s67
        have e3 : (d j - 1) * 2 ^ (4 * j) + 2 ^ (4 * j) = d j * 2 ^ (4 * j) := by
          rw [← Nat.succ_mul, show (d j - 1).succ = d j by omega]
        rw [pk_sub (by omega), show dgs 4 f P - 2 ^ (4 * j) = dgs 4 (updN f j (d j - 1)) P by omega, s67]
        exact h2
      · rw [if_neg (show ¬ nI (R / 2 ^ j % 2) = nI 1 from mt bj.mp b)]
        have b0 : bt R j = 0 := by omega
        rw [b0, Nat.sub_zero] at u1 s67
        rw [show dgs 4 f P = dgs 4 (updN f j (d j)) P by omega, s67]
        exact h2
