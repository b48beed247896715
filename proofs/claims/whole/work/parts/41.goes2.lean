/-- does a year give noes back -/
def grw (s : g_St) (y : Nat) : Bool := decide (¬ gr s 8 2 = 0 ∧ g_rem (nI y) (gr s 8 2) = 0)
theorem V_after {fu P Q y R : Nat} {d : Nat → Nat} {v s : g_St} (hfu : 5000 ≤ fu) (hS : SV P Q v s) (hR : R < 64) (hd : ∀ p, p < P → d p ≤ 9 ∧ (bt R p = 1 → 1 ≤ d p)) : f_V_noesAfter fu v (nI R) (nI y) (nI (dgs 4 d P)) = some (nI (dgs 4 (nwd (grw s y) R d) P)) := by
  obtain ⟨⟨hP, hQ, v0, s0, -⟩, -, -, -, -, l3, -, -, G, hG, eG⟩ := hS
  obtain ⟨f', h1, h2⟩ := V_after_L (fu := fu) (g := grw s y) v0 hP hR hd P fu 0 d (by omega) (by omega) (fun p hp => ⟨(hd p hp).1, fun _ => rfl⟩)
  rw [dgs_cong 4 f' (nwd (grw s y) R d) P (fun p hp => by rw [h1 p hp, if_pos (by omega)])] at h2
  unfold f_V_noesAfter
  rw [cl2, l3]
  unfold grw at h2 ⊢
  by_cases z : gr s 8 2 = 0
  · rw [if_pos (by rw [z]; decide)]
    rw [decide_eq_false (fun q : ¬ gr s 8 2 = 0 ∧ g_rem (nI y) (gr s 8 2) = 0 => q.1 z)] at h2 ⊢
    exact h2
  · have hG0 : 0 < G := by
      rcases Nat.eq_zero_or_pos G with a | a
      · exact absurd (by rw [eG, a]; rfl) z
      · exact a
    rw [if_neg (by rw [eG]; exact nI_nle hG0 (by omega)), gd_of z]
    by_cases u : g_rem (nI y) (gr s 8 2) = 0
    · rw [if_pos u]
      rw [decide_eq_true (⟨z, u⟩ : ¬ gr s 8 2 = 0 ∧ g_rem (nI y) (gr s 8 2) = 0)] at h2 ⊢
      exact h2
    · rw [if_neg u]
      rw [decide_eq_false (fun q : ¬ gr s 8 2 = 0 ∧ g_rem (nI y) (gr s 8 2) = 0 => u q.2)] at h2 ⊢
      exact h2
/-- did it fall: the reference's number -/
def felln (s : g_St) (R : Nat) : Int32 := if nI (cnt R) < gr s 8 0 then 0 else 1
theorem V_isFall {P Q R : Nat} {v s : g_St} (hS : SV P Q v s) (hR : R < 64) : f_V_isFall v (nI R) = felln s R := by
  unfold f_V_isFall felln
  rw [show f_S_bitCount (nI R) = nI (cnt R) from F_bc ⟨R, hR⟩, cl0, hS.2.2.2.1]
theorem M_goes_L {fu P A B y R : Nat} {d : Nat → Nat} {g : Bool} (hfu : 5000 ≤ fu) (hP : P ≤ 6) (hA : A ≤ 28) (hB : B ≤ 28) (hAB : A = B ∨ A + 7 ≤ B ∨ B + 7 ≤ A) (hR : R < 64) (hd : ∀ p, p < P → d p ≤ 9 ∧ (bt R p = 1 → 1 ≤ d p)) : ∀ (k n j : Nat) (s : g_St), k + j = P → k < n → gi s 0 = nI P → gi s 31 = nI R → (∃ G, G ≤ 20 ∧ gr s 8 2 = nI G) → grw s y = g → (∀ p, j ≤ p → p < P → gr s 11 (A + p) = nI (d p)) → ∃ s', f_M_goes_L24 fu n s (nI A) (nI B) (nI y) (nI j) = some (felln s R, s') ∧ (∀ i, gi s' i = gi s i) ∧ (∀ i, i ≠ 11 → gr s' i = gr s i) ∧ gt s' = gt s ∧ (∀ p, j ≤ p → p < P → gr s' 11 (B + p) = nI (nwd g R d p)) ∧ gr s' 11 (B + 6) = nI (y + 1) ∧ ∀ i, ¬ (B + j ≤ i ∧ i < B + P) → i ≠ B + 6 → gr s' 11 i = gr s 11 i := by
  intro k
  induction k with
  | zero =>
    intro n j s hk hn s0 s31 hG hg hr
    obtain ⟨w, rfl⟩ : ∃ w, n = w + 1 := ⟨n - 1, by omega⟩
    refine ⟨sr s 11 (nI (B + 6)) (nI (y + 1)), ?_, fun i => rfl, fun i hi => if_neg hi, rfl, fun p h1 h2 => by omega, ?_, fun i h1 h2 => ?_⟩
    · rw [f_M_goes_L24, s0, if_pos (nI_le (by omega) (by omega)), lt_lt, nI_1, show nI B + 6 = nI (B + 6) from nI_add B 6, gd_of (vpn (by omega) (by omega)), lt_lt]
      have e : f_S_ones fu (gi (sr s 11 (nI (B + 6)) (nI (y + 1))) 31) = some (nI (cnt R)) := by
        rw [gi_sr, s31]; exact S_ones' hfu hR
      rw [bd1_eq _ e]
      unfold felln
      by_cases z : nI (cnt R) < gr s 8 0
      · rw [if_pos z]; exact if_pos z
      · rw [if_neg z]; exact if_neg z
    · rw [gr_sr, if_pos rfl, nIc (by omega), upd_at, if_pos rfl]
    · rw [gr_sr, if_pos rfl, nIc (by omega), upd_at, if_neg h2]
  | succ k ih =>
    intro n j s hk hn s0 s31 hG hg hr
    obtain ⟨w, rfl⟩ : ∃ w, n = w + 1 := ⟨n - 1, by omega⟩
    have hj : j < P := by omega
    have hdj := hd j hj
    have hb := bt_le R j
    have hcB : (nI (B + j)).toNatClampNeg = B + j := nIc (by omega)
    have hle : bt R j ≤ d j := by
      rcases (show bt R j = 0 ∨ bt R j = 1 by omega) with a | a
      · omega
      · have := hdj.2 a; omega
    obtain ⟨s', e, a1, a2, a3, a4, a5, a6⟩ := ih w (j + 1) (sr s 11 (nI (B + j)) (nI (nwd g R d j))) (by omega) (by omega) s0 s31 hG hg (fun p h1 h2 => by
      rw [gr_sr, if_pos rfl, hcB, upd_at, if_neg (by omega)]
      exact hr p (by omega) h2)
    refine ⟨s', ?_, fun i => a1 i, fun i hi => (a2 i hi).trans (if_neg hi), a3, fun p h1 h2 => ?_, a5, fun i h1 h2 => ?_⟩
    · have n0 : f_M_goes_L93 fu (f_M_goes_L24 fu w) s (nI A) (nI B) (nI y) (nI j) (nI (d j - bt R j)) 0 = f_M_goes_L24 fu w (sr s 11 (nI (B + j)) (nI (d j - bt R j))) (nI A) (nI B) (nI y) (nI (j + 1)) := by
        rw [f_M_goes_L93, if_pos rfl, nI_add, gd_of (vpn (by omega) (by omega)), lt_lt, lt_lt, nI_1]
      have n1 : f_M_goes_L93 fu (f_M_goes_L24 fu w) s (nI A) (nI B) (nI y) (nI j) (nI (d j - bt R j)) 1 = f_M_goes_L24 fu w (sr s 11 (nI (B + j)) (if d j - bt R j = 0 then nI 1 else nI (d j - bt R j))) (nI A) (nI B) (nI y) (nI (j + 1)) := by
        rw [f_M_goes_L93, if_neg ne10, nI_add, gd_of (vpn (by omega) (by omega)), gd_of (vpn (by omega) (by omega))]
        simp only [lt_lt]
        rw [nI_1]
        by_cases z : d j - bt R j = 0
        · rw [z, if_pos (show nI 0 = 0 from rfl), if_pos rfl]; rfl
        · rw [if_neg (nI_ne0 (by omega) (by omega)), if_neg z]
      rw [f_M_goes_L24, s0, if_neg (nI_ge (by omega) (by omega)), nI_add A j, gd_of (vpn (by omega) (by omega)), lt_lt, nIc (show A + j ≤ 4096 by omega), hr j (by omega) hj, s31, bit_shr (by omega) (by omega), show R / 2 ^ j % 2 = bt R j from rfl, pk_sub hle, cl2, n0, n1]
      obtain ⟨G, hG1, hG2⟩ := hG
      have fin : ∀ x, x = nwd g R d j → f_M_goes_L24 fu w (sr s 11 (nI (B + j)) (nI x)) (nI A) (nI B) (nI y) (nI (j + 1)) = some (felln s R, s') := fun x hx => by
        rw [hx]; exact e
      unfold grw at hg
      by_cases z : gr s 8 2 = 0
      · rw [if_pos (by rw [z]; decide)]
        rw [decide_eq_false (fun q : ¬ gr s 8 2 = 0 ∧ g_rem (nI y) (gr s 8 2) = 0 => q.1 z)] at hg
        exact fin _ (by rw [← hg]; exact (if_neg (fun q => by cases q.1)).symm)
      · have hG0 : 0 < G := by
          rcases Nat.eq_zero_or_pos G with a | a
          · exact absurd (by rw [hG2, a]; rfl) z
          · exact a
        have nle : ¬ gr s 8 2 ≤ 0 := by rw [hG2]; exact nI_nle hG0 (by omega)
        rw [if_neg nle, if_neg nle, gd_of z]
        by_cases u : g_rem (nI y) (gr s 8 2) = 0
        · rw [if_pos u]
          rw [decide_eq_true (⟨z, u⟩ : ¬ gr s 8 2 = 0 ∧ g_rem (nI y) (gr s 8 2) = 0)] at hg
          by_cases t : d j - bt R j = 0
          · rw [if_pos t]
            exact fin 1 (by rw [← hg]; exact (if_pos ⟨rfl, t⟩).symm)
          · rw [if_neg t]
            exact fin _ (by rw [← hg]; exact (if_neg (fun q => t q.2)).symm)
        · rw [if_neg u]
          rw [decide_eq_false (fun q : ¬ gr s 8 2 = 0 ∧ g_rem (nI y) (gr s 8 2) = 0 => u q.2)] at hg
          exact fin _ (by rw [← hg]; exact (if_neg (fun q => by cases q.1)).symm)
    · by_cases q : p = j
      · rw [q, a6 (B + j) (by omega) (by omega), gr_sr, if_pos rfl, hcB, upd_at, if_pos rfl]
      · exact a4 p (by omega) h2
    · rw [a6 i (by omega) h2, gr_sr, if_pos rfl, hcB, upd_at, if_neg (by omega)]
