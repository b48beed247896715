/-! Sets of persons as numbers below 64; who says no. -/
theorem W_would {fu P Q A y q : Nat} {d : Nat → Nat} {v s : g_St} (hfu : 5000 ≤ fu) (hS : SV P Q v s) (hR : RW P A y d s) (hq : q < Q) : ∃ b : Nat → Nat, (∀ p, p < P → b p ≤ 1 ∧ (d p = 0 → b p = 0)) ∧ (∀ p, p < P → f_M_wouldBy fu s (nI A) (nI q) (nI p) = some (nI (b p))) ∧ f_V_whoWould fu v (nI q) (nI y) (nI (dgs 4 d P)) = some (nI (dgs 1 b P)) := by
  have hP := hS.1.1
  obtain ⟨c, c1, c2⟩ := V_called hfu hS hR
  obtain ⟨b, b1, b2, b3⟩ := W_fold hfu hS hR c2 hq
  refine ⟨b, b1, b2, ?_⟩
  unfold f_V_whoWould
  rw [bd1_eq _ (V_able hfu hS hR), bd1_eq _ c1]
  exact b3 P fu 0 (by omega) (by omega)
theorem M_L59 {fu P A q j z : Nat} (K : g_St → Int32 → Int32 → Int32 → Int32 → Option Int32) {s : g_St} {b : Nat → Nat} (hj : j < P) (hP : P ≤ 6) (hb : ∀ p, p < P → b p ≤ 1) (hz : b j = z) : f_M_wouldSet_L59 fu K s (nI A) (nI q) (nI (dgs 1 b j)) (nI j) (nI z) = K s (nI A) (nI q) (nI (dgs 1 b (j + 1))) (nI (j + 1)) := by
  have ed : dgs 1 b (j + 1) = dgs 1 b j + b j * 2 ^ (1 * j) := rfl
  have hb1 : ∀ p, p < P → b p < 2 ^ 1 := fun p hp => by have := hb p hp; omega
  rw [f_M_wouldSet_L59]
  simp only [lt_lt]
  rw [nI_1]
  rcases (show z = 0 ∨ z = 1 by have := hb j hj; omega) with rfl | rfl
  · rw [if_pos (show nI 0 = 0 from rfl), ed, hz, Nat.zero_mul, Int32.or_zero]; rfl
  · rw [if_neg (show ¬ nI 1 = 0 by decide)]
    have a := dgs_lt 1 b j (fun p hp => hb1 p (by omega))
    have a2 : 2 ^ (1 * j) ≤ 2 ^ 6 := Nat.pow_le_pow_right (by omega) (by omega)
    rw [Nat.one_mul] at a a2 ed
    rw [show (1 : Int32) = nI 1 from rfl, shl_N (by omega) (by omega), or_add a (by omega), ed, hz]
/-- the reference's set; one person, the self, may be set aside -/
def sfb (s : g_St) (d b : Nat → Nat) (p : Nat) : Nat := if nI p = gi s 29 then (if gi s 30 = 1 then (if d p = 0 then 0 else 1) else 0) else b p
theorem M_would {fu P Q A y q : Nat} {d b : Nat → Nat} {v s : g_St} (hfu : 5000 ≤ fu) (hS : SV P Q v s) (hR : RW P A y d s) (h1 : ∀ p, p < P → b p ≤ 1 ∧ (d p = 0 → b p = 0)) (h2 : ∀ p, p < P → f_M_wouldBy fu s (nI A) (nI q) (nI p) = some (nI (b p))) : f_M_wouldSet fu s (nI A) (nI q) = some (nI (dgs 1 (sfb s d b) P)) := by
  obtain ⟨⟨hP, hQ, v0, s0, -⟩, -, -, -⟩ := hS
  have hA := hR.2.2.1
  have hb : ∀ p, p < P → sfb s d b p ≤ 1 := fun p hp => by
    unfold sfb
    split
    · split
      · split <;> omega
      · omega
    · exact (h1 p hp).1
  have L : ∀ (k n j : Nat), k + j = P → k < n → f_M_wouldSet_L5 fu n s (nI A) (nI q) (nI (dgs 1 (sfb s d b) j)) (nI j) = some (nI (dgs 1 (sfb s d b) P)) := by
    intro k
    induction k with
    | zero =>
      intro n j hk hn
      obtain ⟨m, rfl⟩ : ∃ m, n = m + 1 := ⟨n - 1, by omega⟩
      rw [f_M_wouldSet_L5, s0, if_pos (nI_le (by omega) (by omega)), show j = P by omega]
    | succ k ih =>
      intro n j hk hn
      obtain ⟨m, rfl⟩ : ∃ m, n = m + 1 := ⟨n - 1, by omega⟩
      have e := ih m (j + 1) (by omega) (by omega)
      have hj : j < P := by omega
      rw [f_M_wouldSet_L5, s0, if_neg (nI_ge (by omega) (by omega)), nI_add A j, gd_of (vpn (by omega) (by omega)), nIc (show A + j ≤ 4096 by omega), (hR.1 j hj).1]
      by_cases c1 : nI j = gi s 29
      · rw [if_pos c1]
        by_cases c2 : gi s 30 = 1
        · rw [if_pos c2]
          by_cases z : d j = 0
          · rw [if_pos (show nI (d j) ≤ 0 by rw [z]; decide)]
            exact (M_L59 (fu := fu) (z := 0) _ hj hP hb (by unfold sfb; rw [if_pos c1, if_pos c2, if_pos z])).trans e
          · rw [if_neg (nI_nle (by omega) (by have := (hR.1 j hj).2; omega))]
            exact (M_L59 (fu := fu) (z := 1) _ hj hP hb (by unfold sfb; rw [if_pos c1, if_pos c2, if_neg z])).trans e
        · rw [if_neg c2]
          exact (M_L59 (fu := fu) (z := 0) _ hj hP hb (by unfold sfb; rw [if_pos c1, if_neg c2])).trans e
      · rw [if_neg c1, bd1_eq _ (h2 j hj)]
        exact (M_L59 (fu := fu) (z := b j) _ hj hP hb (by unfold sfb; rw [if_neg c1])).trans e
  exact L P fu 0 (by omega) (by omega)
/-- sets below 64 -/
def bt (m p : Nat) : Nat := m / 2 ^ p % 2
def clr (m c : Nat) : Nat := m - bt m c * 2 ^ c
def ins (m c : Nat) : Nat := m + (1 - bt m c) * 2 ^ c
def cnt (m : Nat) : Nat := bt m 0 + bt m 1 + bt m 2 + bt m 3 + bt m 4 + bt m 5
theorem F_clr : ∀ (m : Fin 64) (c : Fin 6), nI m.val &&& (g_shl 1 (nI c.val) ^^^ (-1)) = nI (clr m.val c.val) := by decide +kernel
theorem F_ins : ∀ (m : Fin 64) (c : Fin 6), nI m.val ||| g_shl 1 (nI c.val) = nI (ins m.val c.val) := by decide +kernel
theorem F_cb : ∀ (m : Fin 64) (c p : Fin 6), bt (clr m.val c.val) p.val = if p.val = c.val then 0 else bt m.val p.val := by decide +kernel
theorem F_ib : ∀ (m : Fin 64) (c p : Fin 6), bt (ins m.val c.val) p.val = if p.val = c.val then 1 else bt m.val p.val := by decide +kernel
theorem F_lt : ∀ (m : Fin 64) (c : Fin 6), ins m.val c.val < 64 ∧ clr m.val c.val ≤ m.val := by decide +kernel
theorem F_bc : ∀ m : Fin 64, f_S_bitCount (nI m.val) = nI (cnt m.val) := by decide +kernel
theorem F_an : ∀ m : Fin 64, m.val = 0 ∨ (nI m.val &&& (nI m.val - 1) = nI (m.val &&& (m.val - 1)) ∧ cnt (m.val &&& (m.val - 1)) + 1 = cnt m.val ∧ (m.val &&& (m.val - 1)) < 64) := by decide +kernel
theorem F_some : ∀ m : Fin 64, m.val = 0 ∨ ∃ p : Fin 6, bt m.val p.val = 1 := by decide +kernel
theorem bt_le (m p : Nat) : bt m p ≤ 1 := by have : m / 2 ^ p % 2 < 2 := Nat.mod_lt _ (by omega); unfold bt; omega
theorem S_ones {fu : Nat} : ∀ (n m k : Nat), m < 64 → cnt m < n → f_S_ones_L4 fu n (nI k) (nI m) = some (nI (k + cnt m)) := by
  intro n
  induction n with
  | zero => intro m k _ h; omega
  | succ n ih =>
    intro m k hm h
    rw [f_S_ones_L4]
    rcases F_an ⟨m, hm⟩ with e | ⟨e1, e2, e3⟩
    · replace e : m = 0 := e
      subst e
      rw [if_pos (show nI 0 = 0 from rfl)]; rfl
    · have e2' : cnt (m &&& (m - 1)) + 1 = cnt m := e2
      have e3' : (m &&& (m - 1)) < 64 := e3
      have e1' : nI m &&& (nI m - 1) = nI (m &&& (m - 1)) := e1
      by_cases z : m = 0
      · subst z; rw [if_pos (show nI 0 = 0 from rfl)]; rfl
      · rw [if_neg (nI_ne0 (by omega) (by omega))]
        simp only [lt_lt]
        rw [e1', nI_1, ih _ (k + 1) e3' (by omega)]
        exact congrArg (fun x => some (nI x)) (by omega)
theorem cnt_le (m : Nat) : cnt m ≤ 6 := by
  have h0 := bt_le m 0; have h1 := bt_le m 1; have h2 := bt_le m 2; have h3 := bt_le m 3; have h4 := bt_le m 4; have h5 := bt_le m 5
  unfold cnt; omega
theorem S_ones' {fu m : Nat} (hfu : 5000 ≤ fu) (hm : m < 64) : f_S_ones fu (nI m) = some (nI (cnt m)) := by
  have e := S_ones (fu := fu) fu m 0 hm (by have := cnt_le m; omega)
  rw [Nat.zero_add] at e
  exact e
