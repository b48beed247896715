/-! would and says. -/
def dgS (s : g_St) (A p : Nat) : Nat := (gr s 11 (A + p)).toNatClampNeg
theorem RV.row {P Q : Nat} {v s : g_St} (h : RV P Q v s) : ∃ y, y ≤ 999 ∧ RW P 0 y (dgS s 0) s ∧ gr v 9 3 = nI y ∧ ∀ p, p < P → gr v 4 p = nI (dgS s 0 p) ∧ dgS s 0 p ≤ 9 := by
  obtain ⟨-, hn, ⟨hy, y, y1, y2, ey⟩, -⟩ := h
  have k : ∀ p, p < P → gr s 11 p = nI (dgS s 0 p) ∧ dgS s 0 p ≤ 9 := fun p hp => by
    obtain ⟨-, -, o, ho, eo⟩ := hn p hp
    unfold dgS
    rw [Nat.zero_add, eo, nIc (by omega)]
    exact ⟨rfl, ho⟩
  refine ⟨y, y2, ⟨fun p hp => ?_, ?_, by omega, y1, by omega⟩, hy.trans ey, fun p hp => ⟨(hn p hp).1.trans (k p hp).1, (k p hp).2⟩⟩
  · rw [Nat.zero_add]; exact k p hp
  · rw [Nat.zero_add]; exact ey
theorem bt_dgs {b : Nat → Nat} {P p : Nat} (hb : ∀ p, p < P → b p ≤ 1) (hp : p < P) : bt (dgs 1 b P) p = b p := by
  have e := dgs_at 1 b P (fun p hp => by have := hb p hp; omega) p hp
  rw [Nat.one_mul, Nat.pow_one] at e
  exact e
theorem bt_dgs0 {b : Nat → Nat} {P p : Nat} (hb : ∀ p, p < P → b p ≤ 1) (hp : P ≤ p) : bt (dgs 1 b P) p = 0 := by
  have e := dgs_out 1 b P (fun p hp => by have := hb p hp; omega) p hp
  rw [Nat.one_mul] at e
  unfold bt
  rw [e]
theorem dgs1_lt {b : Nat → Nat} {P : Nat} (hP : P ≤ 6) (hb : ∀ p, p < P → b p ≤ 1) : dgs 1 b P < 64 := by
  have a := dgs_lt 1 b P (fun p hp => by have := hb p hp; omega)
  have c : 2 ^ (1 * P) ≤ 2 ^ 6 := Nat.pow_le_pow_right (by omega) (by omega)
  omega
/-- nobody is set aside: both find the same set -/
theorem W_both {fu P Q A y q : Nat} {d : Nat → Nat} {v s : g_St} (hfu : 5000 ≤ fu) (hS : SV P Q v s) (hR : RW P A y d s) (hq : q < Q) (hs : gi s 29 = -1) : ∃ m, m < 64 ∧ (∀ p, p < P → bt m p = 1 → 1 ≤ d p) ∧ (∀ p, P ≤ p → p < 6 → bt m p = 0) ∧ f_V_whoWould fu v (nI q) (nI y) (nI (dgs 4 d P)) = some (nI m) ∧ f_M_wouldSet fu s (nI A) (nI q) = some (nI m) := by
  have hP := hS.1.1
  obtain ⟨b, b1, b2, b3⟩ := W_would hfu hS hR hq
  have b4 := M_would hfu hS hR b1 b2
  have hb : ∀ p, p < P → b p ≤ 1 := fun p hp => (b1 p hp).1
  rw [dgs_cong 1 (sfb s d b) b P (fun p hp => by
    unfold sfb
    rw [if_neg (fun e => by
      have h0 : ¬ nI p < 0 := nI_pos (by omega)
      rw [e, hs] at h0
      exact h0 (by decide))])] at b4
  refine ⟨dgs 1 b P, dgs1_lt hP hb, fun p hp h => ?_, fun p h1 h2 => bt_dgs0 hb h1, b3, b4⟩
  rw [bt_dgs hb hp] at h
  rcases Nat.eq_zero_or_pos (d p) with z | z
  · have := (b1 p hp).2 z; omega
  · exact z
theorem W_says {fu P Q A y q : Nat} {d : Nat → Nat} {v s : g_St} (hfu : 5000 ≤ fu) (hS : SV P Q v s) (hR : RW P A y d s) (hq : q < Q) (hs : gi s 29 = -1) : ∃ R, R < 64 ∧ (∀ p, p < P → bt R p = 1 → 1 ≤ d p) ∧ f_V_whoSays fu v (nI q) (nI y) (nI (dgs 4 d P)) = some (nI R) ∧ f_M_saySet fu s (nI A) (nI q) = some (nI R) := by
  have hP := hS.1.1
  obtain ⟨m, m1, m2, m3, m4, m5⟩ := W_both hfu hS hR hq hs
  obtain ⟨R, R1, R2, R3, R4⟩ := W_say hfu hS m1 m3
  refine ⟨R, R1, fun p hp h => m2 p hp (R2 p (by omega) h), ?_, ?_⟩
  · unfold f_V_whoSays
    rw [bd1_eq _ m4, bd1_eq _ R3]
  · unfold f_M_saySet
    rw [bd1_eq _ m5]
    exact R4
theorem t_would {fu P Q : Nat} (hfu : 5000 ≤ fu) {v s : g_St} (h : RV P Q v s) (c : RC s) (x1 : Int32) : ∃ r, f_O_would fu v x1 = some r ∧ f_M_would fu s x1 = some r := by
  have hS := h.1
  obtain ⟨y, y1, hR, y2, hn⟩ := h.row
  obtain ⟨⟨hP, hQ, v0, s0, v6, s5⟩, -⟩ := h.1
  unfold f_O_would f_M_would
  rcases proposal_or v6 s5 (by omega) x1 with ⟨q, hqQ, rfl, e1, e2⟩ | ⟨e1, e2⟩
  · rw [e1, e2, if_neg ne10, if_neg ne10, bd1_eq _ (V_packed hfu v0 hP hn), cl3, y2]
    obtain ⟨m, -, -, -, m4, m5⟩ := W_both hfu hS hR hqQ c.2.2.2.2.2.2
    have m5' : f_M_wouldSet fu s 0 (nI q) = some (nI m) := m5
    rw [bd1_eq _ m4, bd1_eq _ m5']
    exact ⟨_, rfl, rfl⟩
  · rw [e1, e2, if_pos rfl, if_pos rfl]; exact ⟨_, rfl, rfl⟩
theorem t_says {fu P Q : Nat} (hfu : 5000 ≤ fu) {v s : g_St} (h : RV P Q v s) (c : RC s) (x1 : Int32) : ∃ r, f_O_says fu v x1 = some r ∧ f_M_says fu s x1 = some r := by
  have hS := h.1
  obtain ⟨y, y1, hR, y2, hn⟩ := h.row
  obtain ⟨⟨hP, hQ, v0, s0, v6, s5⟩, -⟩ := h.1
  unfold f_O_says f_M_says
  rcases proposal_or v6 s5 (by omega) x1 with ⟨q, hqQ, rfl, e1, e2⟩ | ⟨e1, e2⟩
  · rw [e1, e2, if_neg ne10, if_neg ne10, bd1_eq _ (V_packed hfu v0 hP hn), cl3, y2]
    obtain ⟨m, -, -, m4, m5⟩ := W_says hfu hS hR hqQ c.2.2.2.2.2.2
    have m5' : f_M_saySet fu s 0 (nI q) = some (nI m) := m5
    rw [bd1_eq _ m4, bd1_eq _ m5']
    exact ⟨_, rfl, rfl⟩
  · rw [e1, e2, if_pos rfl, if_pos rfl]; exact ⟨_, rfl, rfl⟩
