/-! The best sums of both. -/
theorem mx_eq (a b : Int64) : (if a < b then b else a) = mx a b := by
  unfold mx
  by_cases h : a ≤ b
  · rw [if_pos ((lg_cmp_le a b).mpr h)]
    by_cases k : a < b
    · rw [if_pos k]
    · rw [if_neg k]; exact Int64.le_antisymm h (Int64.not_lt.mp k)
  · rw [if_neg (fun t => h ((lg_cmp_le a b).mp t)), if_neg (fun t => h (Int64.le_of_lt t))]
theorem mx_same (a : Int64) : mx a a = a := by
  unfold mx
  split <;> rfl
theorem A_gain_p {fu P Q q p : Nat} {v s aa : g_St} {F : Int32} (hS : SV P Q v s) (hq : q < Q) (hp : p < P) (ha : gi aa 2 = nI p) : f_A_gain fu aa v (nI q) F = some (hsv s p q F) := by
  obtain ⟨⟨hP, hQ, v0, s0, -⟩, -, hW, -⟩ := hS
  have p2 : ¬ nI p = -2 := fun z => by
    have h0 : ¬ nI p < 0 := nI_pos (by omega)
    rw [z] at h0
    exact h0 (by decide)
  unfold f_A_gain hsv
  rw [ha, if_neg p2]
  by_cases z : F = 0
  · rw [if_pos z, if_pos z, if_neg (nI_pos (n := p) (by omega)), if_neg (show ¬ (6 : Int32) ≤ nI p from i6gt (by omega)), gd_of (vpn (n := q) (N := 8) (by omega) (by omega)), gd_of (vpn (n := p) (N := 6) (by omega) (by omega)), nIc (show p ≤ 4096 by omega), nIc (show q ≤ 4096 by omega), ((hW q hq).2.2 p hp).1]
  · rw [if_neg z, if_neg z]
/-- the class, once it is settled who says no -/
theorem A_with {fu P Q q p n y R : Nat} {v s aa : g_St} {d : Nat → Nat} {T X : Int64} {rc : g_St → g_St → Int32 → Int32 → Int32 → Option Int64} (hfu : 5000 ≤ fu) (hS : SV P Q v s) (hq : q < Q) (hp : p < P) (ha : gi aa 2 = nI p) (hT : ∀ k, k ≤ 3 → gt aa 1 k = pwr T k) (hn : n ≤ 2) (hR : R < 64) (hd : ∀ x, x < P → d x ≤ 9) (hb : ∀ x, x < P → bt R x = 1 → 1 ≤ d x) (hrc : (n = 0 ∧ X = 0) ∨ (¬ n = 0 ∧ rc aa v (nI n) (nI (y + 1)) (nI (dgs 4 (nwd (grw s y) R d) P)) = some X)) : f_A_withSayers fu rc aa v (nI R) (nI q) (nI (n + 1)) (nI y) (nI (dgs 4 d P)) = some (hsv s p q (felln s R) * pwr T n + X) := by
  have g := V_after hfu hS hR (fun x hx => ⟨hd x hx, hb x hx⟩) (y := y)
  unfold f_A_withSayers
  rw [if_neg (nI_nle (by omega) (by omega)), if_pos (show nI (n + 1) ≤ 3 from nI_le (b := 3) (by omega) (by omega)), V_isFall hS hR, bd1_eq _ (A_gain_p hS hq hp ha), show nI (n + 1) - 1 = nI n from nI_pred n, gd_of (vpn (n := n) (N := 4) (by omega) (by omega)), lt_lt, nIc (show n ≤ 4096 by omega), hT n (by omega)]
  rcases hrc with ⟨z, hX⟩ | ⟨z, hX⟩
  · rw [if_pos (show nI (n + 1) = 1 by rw [z]; rfl), hX, Int64.add_zero]
  · rw [if_neg (show ¬ nI (n + 1) = 1 from fun t => z (by have := (nIeq (a := n + 1) (b := 1) (by omega) (by omega)).mp t; omega)), bd1_eq _ g, nI_1, bd1_eq _ hX]
theorem ownBit {p : Nat} {aa : g_St} (ha : gi aa 2 = nI p) : f_A_ownBit aa = g_shl 1 (nI p) := by
  unfold f_A_ownBit
  rw [ha]
/-- both sets, as the class makes them -/
theorem V_sets {fu P Q A q y p : Nat} {v s : g_St} {d : Nat → Nat} (hfu : 5000 ≤ fu) (hS : SV P Q v s) (hR : RW P A y d s) (hq : q < Q) (hp : p < P) : f_V_whoWould fu v (nI q) (nI y) (nI (dgs 4 d P)) = some (nI (mwy fu P v q y d)) ∧ f_V_sayersOf fu v (nI (mwy fu P v q y d) &&& (g_shl 1 (nI p) ^^^ (-1))) = some (nI (rS fu P v p q y d 0)) ∧ (¬ d p = 0 → f_V_sayersOf fu v (nI (mwy fu P v q y d) ||| g_shl 1 (nI p)) = some (nI (rS fu P v p q y d 1))) ∧ (d p = 0 → rS fu P v p q y d 1 = rS fu P v p q y d 0) := by
  obtain ⟨b, b1, -, e, e2⟩ := mwy_spec hfu hS hR hq
  have hP := hS.1.1
  have hb : ∀ p, p < P → b p ≤ 1 := fun p hp => (b1 p hp).1
  have lm : mwy fu P v q y d < 64 := by rw [e]; exact dgs1_lt hP hb
  obtain ⟨-, -, r0, -⟩ := rS_spec (says := 0) hfu hS hR hq hp
  obtain ⟨-, -, r1, -⟩ := rS_spec (says := 1) hfu hS hR hq hp
  have m0 : mS fu P v p q y d 0 = clr (mwy fu P v q y d) p := by
    unfold mS
    exact if_neg (fun t => by omega)
  have k0 : nI (mwy fu P v q y d) &&& (g_shl 1 (nI p) ^^^ (-1)) = nI (clr (mwy fu P v q y d) p) := F_clr ⟨mwy fu P v q y d, lm⟩ ⟨p, by omega⟩
  have k1 : nI (mwy fu P v q y d) ||| g_shl 1 (nI p) = nI (ins (mwy fu P v q y d) p) := F_ins ⟨mwy fu P v q y d, lm⟩ ⟨p, by omega⟩
  refine ⟨e2, ?_, fun z => ?_, fun z => ?_⟩
  · rw [k0, ← m0]; exact r0
  · have m1 : mS fu P v p q y d 1 = ins (mwy fu P v q y d) p := by
      unfold mS
      exact if_pos ⟨rfl, z⟩
    rw [k1, ← m1]; exact r1
  · unfold rS mS
    rw [if_neg (fun t => t.2 z), if_neg (fun t => t.2 z)]
theorem A_best_n {fu P Q p : Nat} {v s aa : g_St} {T : Int64} (hfu : 5000 ≤ fu) (hS : SV P Q v s) (hp : p < P) (ha : gi aa 2 = nI p) (hT : ∀ k, k ≤ 3 → gt aa 1 k = pwr T k) : ∀ (n D y : Nat) (d : Nat → Nat), n ≤ 3 → n < D → (∀ p, p < P → d p ≤ 9) → 1 ≤ y → y + n ≤ 2000 → f_A_bestSumFrom fu D aa v (nI n) (nI y) (nI (dgs 4 d P)) = some (bst fu P Q v s p T n y d) := by
  have hS' := hS
  obtain ⟨⟨hP, hQ, v0, s0, v6, s5⟩, -⟩ := hS'
  intro n
  induction n with
  | zero =>
    intro D y d h1 h2 hd hy1 hy2
    obtain ⟨D, rfl⟩ : ∃ k, D = k + 1 := ⟨D - 1, by omega⟩
    rw [f_A_bestSumFrom, f_A_bestSumFrom_B, if_pos (show nI 0 ≤ 0 by decide)]; rfl
  | succ n ih =>
    intro D y d h1 h2 hd hy1 hy2
    obtain ⟨D, rfl⟩ : ∃ k, D = k + 1 := ⟨D - 1, by omega⟩
    have L : ∀ (k m j : Nat), k + j = Q → k < m → f_A_bestSumFrom_B_L17 fu (f_A_bestSumFrom fu D) m aa v (nI (n + 1)) (nI y) (nI (dgs 4 d P)) (sL (fun q => wL s q * mx (hsv s p q (felln s (rS fu P v p q y d 1)) * pwr T n + bst fu P Q v s p T n (y + 1) (nwd (grw s y) (rS fu P v p q y d 1) d)) (hsv s p q (felln s (rS fu P v p q y d 0)) * pwr T n + bst fu P Q v s p T n (y + 1) (nwd (grw s y) (rS fu P v p q y d 0) d))) j) (nI j) = some (bst fu P Q v s p T (n + 1) y d) := by
      intro k
      induction k with
      | zero =>
        intro m j hk hm
        obtain ⟨m, rfl⟩ : ∃ k, m = k + 1 := ⟨m - 1, by omega⟩
        rw [f_A_bestSumFrom_B_L17, v6, if_pos (nI_le (by omega) (by omega)), show j = Q by omega]; rfl
      | succ k ihk =>
        intro m j hk hm
        obtain ⟨m, rfl⟩ : ∃ k, m = k + 1 := ⟨m - 1, by omega⟩
        have hj : j < Q := by omega
        have e := ihk m (j + 1) (by omega) (by omega)
        obtain ⟨w1, w2, w3⟩ := wg_at hS hj
        have cj : (nI j).toNatClampNeg = j := nIc (by omega)
        rw [f_A_bestSumFrom_B_L17, v6, if_neg (nI_ge (by omega) (by omega)), gd_of (vpn (n := j) (N := 8) (by omega) (by omega)), cj, w1]
        by_cases z : wgS s j = 0
        · rw [z, if_pos (show nI 0 = 0 from rfl), lt_lt, nI_1]
          have e0 : ∀ f : Nat → Int64, sL (fun q => wL s q * f q) (j + 1) = sL (fun q => wL s q * f q) j := fun f => by
            show sL _ j + wL s j * _ = _
            rw [show wL s j = 0 from by unfold wL; rw [z]; rfl, Int64.zero_mul, Int64.add_zero]
          rw [e0] at e
          exact e
        · have hR := RW_rw0 (s := s) hP hd hy1 (show y ≤ 2000 by omega)
          have hS2 : SV P Q v (rw0 s y d) := hS.rw0
          obtain ⟨g1, g2, g3, g4⟩ := V_sets hfu hS2 hR hj hp
          have arm : ∀ says, f_A_withSayers fu (f_A_bestSumFrom fu D) aa v (nI (rS fu P v p j y d says)) (nI j) (nI (n + 1)) (nI y) (nI (dgs 4 d P)) = some (hsv s p j (felln s (rS fu P v p j y d says)) * pwr T n + bst fu P Q v s p T n (y + 1) (nwd (grw s y) (rS fu P v p j y d says) d)) := fun says => by
            obtain ⟨r1, r2, -, -⟩ := rS_spec (says := says) hfu hS2 hR hj hp
            refine A_with hfu hS hj hp ha hT (by omega) r1 hd r2 ?_
            by_cases n0 : n = 0
            · subst n0; exact Or.inl ⟨rfl, rfl⟩
            · exact Or.inr ⟨n0, ih D (y + 1) _ (by omega) (by omega) (fun x hx => nwd_le (hd x hx)) (by omega) (by omega)⟩
          have ho : f_A_bestOf fu (f_A_bestSumFrom fu D) aa v (nI j) (nI (n + 1)) (nI y) (nI (dgs 4 d P)) = some (mx (hsv s p j (felln s (rS fu P v p j y d 1)) * pwr T n + bst fu P Q v s p T n (y + 1) (nwd (grw s y) (rS fu P v p j y d 1) d)) (hsv s p j (felln s (rS fu P v p j y d 0)) * pwr T n + bst fu P Q v s p T n (y + 1) (nwd (grw s y) (rS fu P v p j y d 0) d))) := by
            unfold f_A_bestOf
            rw [bd1_eq _ g1, ownBit ha, bd1_eq _ g2, bd1_eq _ (arm 0), ha, noes_at hP (fun x hx => by have := hd x hx; omega) hp]
            by_cases d0 : d p = 0
            · rw [if_pos (by rw [d0]; rfl), g4 d0, mx_same]
            · rw [if_neg (nI_ne0 (by omega) (by have := hd p hp; omega)), bd1_eq _ (g3 d0)]
              by_cases eq : nI (rS fu P v p j y d 1) = nI (rS fu P v p j y d 0)
              · obtain ⟨r1, -⟩ := rS_spec (says := 1) hfu hS2 hR hj hp
                obtain ⟨r0, -⟩ := rS_spec (says := 0) hfu hS2 hR hj hp
                rw [if_pos eq, (nIeq (by omega) (by omega)).mp eq, mx_same]
              · rw [if_neg eq, bd1_eq _ (arm 1), mx_eq]
          rw [if_neg (nI_ne0 (by omega) (by omega)), gd_of (vpn (n := j) (N := 8) (by omega) (by omega)), bd1_eq _ ho, lt_lt, lt_lt, nI_1, show (nI (wgS s j)).toInt64 = wL s j from rfl]
          exact e
    rw [f_A_bestSumFrom, f_A_bestSumFrom_B, if_neg (nI_nle (by omega) (by omega)), if_pos (show nI (n + 1) ≤ 3 from nI_le (b := 3) (by omega) (by omega))]
    exact L Q fu 0 (by omega) (by omega)
theorem bst_0 {fu P Q p : Nat} {v s : g_St} {T : Int64} (h : ∀ q, q < Q → wgS s q = 0) : ∀ n y d, bst fu P Q v s p T n y d = 0 := by
  intro n y d
  rcases n with - | n
  · rfl
  · have L : ∀ (f : Nat → Int64) k, k ≤ Q → sL (fun q => wL s q * f q) k = 0 := by
      intro f k
      induction k with
      | zero => intro _; rfl
      | succ k ih =>
        intro hk
        show sL _ k + wL s k * _ = 0
        rw [ih (by omega), show wL s k = 0 from by unfold wL; rw [h k (by omega)]; rfl, Int64.zero_mul]; rfl
    exact L _ Q (Nat.le_refl Q)
theorem M_b1L {fu P Q p A y : Nat} {v s0 : g_St} {T : Int64} {d : Nat → Nat} (hfu : 5000 ≤ fu) (hp : p < P) (hA : A + 7 ≤ 28) (hy : y + 0 ≤ 1999) : ∀ (k n j : Nat) (s : g_St), k + j = Q → k < n → SV P Q v s → OW 0 s0 s → RW P A y d s → gi s 29 = -1 → ∃ s', f_M_bestOne_L5 fu n s (nI p) (nI A) (sL (fun q => wL s0 q * mx (hsv s0 p q (felln s0 (rS fu P v p q y d 1)) * pwr T 0 + bst fu P Q v s0 p T 0 (y + 1) (nwd (grw s0 y) (rS fu P v p q y d 1) d)) (hsv s0 p q (felln s0 (rS fu P v p q y d 0)) * pwr T 0 + bst fu P Q v s0 p T 0 (y + 1) (nwd (grw s0 y) (rS fu P v p q y d 0) d))) j) (nI j) = some (sL (fun q => wL s0 q * mx (hsv s0 p q (felln s0 (rS fu P v p q y d 1)) * pwr T 0 + bst fu P Q v s0 p T 0 (y + 1) (nwd (grw s0 y) (rS fu P v p q y d 1) d)) (hsv s0 p q (felln s0 (rS fu P v p q y d 0)) * pwr T 0 + bst fu P Q v s0 p T 0 (y + 1) (nwd (grw s0 y) (rS fu P v p q y d 0) d))) Q, s') ∧ OW (A + 7) s s' := by
  intro k
  induction k with
  | zero =>
    intro n j s hk hn hS hO hR h29
    obtain ⟨n, rfl⟩ : ∃ x, n = x + 1 := ⟨n - 1, by omega⟩
    have s5 := hS.1.2.2.2.2.2
    have hQ := hS.1.2.1
    refine ⟨s, ?_, OW.rf⟩
    rw [f_M_bestOne_L5, s5, if_pos (nI_le (by omega) (by omega)), show j = Q by omega]
  | succ k ih =>
    intro n j s hk hn hS hO hR h29
    obtain ⟨n, rfl⟩ : ∃ x, n = x + 1 := ⟨n - 1, by omega⟩
    have s5 := hS.1.2.2.2.2.2
    have hQ := hS.1.2.1
    have hP := hS.1.1
    have hj : j < Q := by omega
    have cj : (nI j).toNatClampNeg = j := nIc (by omega)
    obtain ⟨s2, e1, e2, e3, e4, e5, e6⟩ := W_has0 (says := 1) hfu hS hO hR hj hp (by omega) h29 (by omega) (by omega)
    obtain ⟨s6, f1, f2, f3, f4, f5, f6⟩ := W_has0 (says := 0) hfu e4 e5 (e3.rw hR hP (by omega)) hj hp (by omega) e6 (by omega) (by omega)
    obtain ⟨s', h1, h2⟩ := ih n (j + 1) s6 (by omega) (by omega) f4 f5 (f3.rw (e3.rw hR hP (by omega)) hP (by omega)) f6
    refine ⟨s', ?_, (e3.trans f3).trans h2⟩
    have ew : (gr s6 6 j).toInt64 = wL s0 j := by
      rw [(wL_at f4 hj).2, wL_cong (f5.2.1 6 (by omega))]
    rw [f_M_bestOne_L5, s5, if_neg (nI_ge (by omega) (by omega)), show (1 : Int32) = nI 1 from rfl, show (0 : Int32) = nI 0 from rfl, bd2_eq _ e1, bd2_eq _ f1, gd_of (vpn (n := j) (N := 8) (by omega) (by omega)), cj, ew]
    simp only [lt_lt]
    rw [show nI j + nI 1 = nI (j + 1) from nI_add j 1]
    have h1' : f_M_bestOne_L5 fu n s6 (nI p) (nI A) (sL (fun q => wL s0 q * mx (hsv s0 p q (felln s0 (rS fu P v p q y d 1)) * pwr T 0 + bst fu P Q v s0 p T 0 (y + 1) (nwd (grw s0 y) (rS fu P v p q y d 1) d)) (hsv s0 p q (felln s0 (rS fu P v p q y d 0)) * pwr T 0 + bst fu P Q v s0 p T 0 (y + 1) (nwd (grw s0 y) (rS fu P v p q y d 0) d))) j + wL s0 j * mx (hsv s0 p j (felln s0 (rS fu P v p j y d 1)) * 1 + 0) (hsv s0 p j (felln s0 (rS fu P v p j y d 0)) * 1 + 0)) (nI (j + 1)) = _ := h1
    rw [Int64.mul_one, Int64.mul_one, Int64.add_zero, Int64.add_zero] at h1'
    unfold mx at h1'
    by_cases c : lg_cmp (hsv s0 p j (felln s0 (rS fu P v p j y d 1))) (hsv s0 p j (felln s0 (rS fu P v p j y d 0))) ≤ nI 0
    · rw [if_pos c]; rw [if_pos (show lg_cmp (hsv s0 p j (felln s0 (rS fu P v p j y d 1))) (hsv s0 p j (felln s0 (rS fu P v p j y d 0))) ≤ 0 from c)] at h1'; exact h1'
    · rw [if_neg c]; rw [if_neg (show ¬ lg_cmp (hsv s0 p j (felln s0 (rS fu P v p j y d 1))) (hsv s0 p j (felln s0 (rS fu P v p j y d 0))) ≤ 0 from c)] at h1'; exact h1'
theorem M_b1 {fu P Q p A y : Nat} {v s0 s : g_St} {T : Int64} {d : Nat → Nat} (hfu : 5000 ≤ fu) (hp : p < P) (hA : A + 7 ≤ 28) (hy : y ≤ 1999) (hS : SV P Q v s) (hO : OW 0 s0 s) (hR : RW P A y d s) (h29 : gi s 29 = -1) : ∃ s', f_M_bestOne fu s (nI p) (nI A) = some (bst fu P Q v s0 p T 1 y d, s') ∧ OW (A + 7) s s' := M_b1L (T := T) hfu hp hA (by omega) Q fu 0 s (by omega) (by have := hS.1.2.1; omega) hS hO hR h29
theorem M_b2L {fu P Q p A y all : Nat} {v s0 : g_St} {T : Int64} {d : Nat → Nat} (F : Nat → Int64) (X : Nat → Nat → Int64) (hfu : 5000 ≤ fu) (hp : p < P) (hT : T = (nI all).toInt64) (hA : A + 14 ≤ 28) (hy : y + 1 ≤ 1999) (hF : ∀ j, j < Q → F j = wL s0 j * mx (hsv s0 p j (felln s0 (rS fu P v p j y d 1)) * T + X 1 j) (hsv s0 p j (felln s0 (rS fu P v p j y d 0)) * T + X 0 j)) (hin : ∀ says j s2, says ≤ 1 → j < Q → SV P Q v s2 → OW 0 s0 s2 → RW P (A + 7) (y + 1) (nwd (grw s0 y) (rS fu P v p j y d says) d) s2 → gi s2 29 = -1 → ∃ s3, f_M_bestOne fu s2 (nI p) (nI (A + 7)) = some (X says j, s3) ∧ OW (A + 14) s2 s3) : ∀ (k n j : Nat) (s : g_St), k + j = Q → k < n → SV P Q v s → OW 0 s0 s → RW P A y d s → gi s 29 = -1 → ∃ s', f_M_bestTwo_L6 fu n s (nI p) (nI A) (nI all) (sL F j) (nI j) = some (sL F Q, s') ∧ OW (A + 7) s s' := by
  intro k
  induction k with
  | zero =>
    intro n j s hk hn hS hO hR h29
    obtain ⟨n, rfl⟩ : ∃ x, n = x + 1 := ⟨n - 1, by omega⟩
    have s5 := hS.1.2.2.2.2.2
    have hQ := hS.1.2.1
    refine ⟨s, ?_, OW.rf⟩
    rw [f_M_bestTwo_L6, s5, if_pos (nI_le (by omega) (by omega)), show j = Q by omega]
  | succ k ih =>
    intro n j s hk hn hS hO hR h29
    obtain ⟨n, rfl⟩ : ∃ x, n = x + 1 := ⟨n - 1, by omega⟩
    have s5 := hS.1.2.2.2.2.2
    have hQ := hS.1.2.1
    have hP := hS.1.1
    have hj : j < Q := by omega
    have cj : (nI j).toNatClampNeg = j := nIc (by omega)
    obtain ⟨s2, e1, e2, e3, e4, e5, e6⟩ := W_has0 (says := 1) hfu hS hO hR hj hp (by omega) h29 (by omega) (by omega)
    obtain ⟨s3, a1, a2⟩ := hin 1 j s2 (by omega) hj e4 e5 e2 e6
    have a3 : OW (A + 7) s2 s3 := a2.mono (by omega)
    have a4 := a3.sv e4
    have a5 : OW 0 s0 s3 := e5.trans (a3.mono (Nat.zero_le _))
    have a6 := (a3.1 29 (by omega) (by omega)).trans e6
    have r3 := a3.rw (e3.rw hR hP (by omega)) hP (by omega)
    obtain ⟨s6, f1, f2, f3, f4, f5, f6⟩ := W_has0 (says := 0) hfu a4 a5 r3 hj hp (by omega) a6 (by omega) (by omega)
    obtain ⟨s7, b1, b2⟩ := hin 0 j s6 (by omega) hj f4 f5 f2 f6
    have b3 : OW (A + 7) s6 s7 := b2.mono (by omega)
    have b4 := b3.sv f4
    have b5 : OW 0 s0 s7 := f5.trans (b3.mono (Nat.zero_le _))
    obtain ⟨s', h1, h2⟩ := ih n (j + 1) s7 (by omega) (by omega) b4 b5 (b3.rw (f3.rw r3 hP (by omega)) hP (by omega)) ((b3.1 29 (by omega) (by omega)).trans f6)
    refine ⟨s', ?_, (((e3.trans a3).trans f3).trans b3).trans h2⟩
    have ew : (gr s7 6 j).toInt64 = wL s0 j := by
      rw [(wL_at b4 hj).2, wL_cong (b5.2.1 6 (by omega))]
    have e1' : f_M_hasNow fu s (nI p) (nI A) (nI j) 1 = some (hsv s0 p j (felln s0 (rS fu P v p j y d 1)), s2) := e1
    have f1' : f_M_hasNow fu s3 (nI p) (nI A) (nI j) 0 = some (hsv s0 p j (felln s0 (rS fu P v p j y d 0)), s6) := f1
    rw [show nI (A + 7) = nI A + 7 from (nI_add A 7).symm] at a1 b1
    have hs : sL F (j + 1) = sL F j + wL s0 j * mx (hsv s0 p j (felln s0 (rS fu P v p j y d 1)) * T + X 1 j) (hsv s0 p j (felln s0 (rS fu P v p j y d 0)) * T + X 0 j) := by
      show sL F j + F j = _
      rw [hF j hj]
    rw [hs] at h1
    unfold mx at h1
    rw [f_M_bestTwo_L6, s5, if_neg (nI_ge (by omega) (by omega)), bd2_eq _ e1', lt_lt, bd2_eq _ a1, lt_lt, bd2_eq _ f1', lt_lt, bd2_eq _ b1, lt_lt, gd_of (vpn (n := j) (N := 8) (by omega) (by omega)), cj, ew, ← hT]
    simp only [lt_lt]
    rw [nI_1]
    by_cases c : lg_cmp (hsv s0 p j (felln s0 (rS fu P v p j y d 1)) * T + X 1 j) (hsv s0 p j (felln s0 (rS fu P v p j y d 0)) * T + X 0 j) ≤ 0
    · rw [if_pos c]; rw [if_pos c] at h1; exact h1
    · rw [if_neg c]; rw [if_neg c] at h1; exact h1
theorem M_b2 {fu P Q p A y all : Nat} {v s0 s : g_St} {T : Int64} {d : Nat → Nat} (hfu : 5000 ≤ fu) (hp : p < P) (hT : T = (nI all).toInt64) (hA : A + 14 ≤ 28) (hy : y ≤ 1998) (hS : SV P Q v s) (hO : OW 0 s0 s) (hR : RW P A y d s) (h29 : gi s 29 = -1) : ∃ s', f_M_bestTwo fu s (nI p) (nI A) (nI all) = some (bst fu P Q v s0 p T 2 y d, s') ∧ OW (A + 7) s s' := by
  obtain ⟨s', e1, e2⟩ := M_b2L (v := v) (y := y) (d := d) (fun q => wL s0 q * mx (hsv s0 p q (felln s0 (rS fu P v p q y d 1)) * pwr T 1 + bst fu P Q v s0 p T 1 (y + 1) (nwd (grw s0 y) (rS fu P v p q y d 1) d)) (hsv s0 p q (felln s0 (rS fu P v p q y d 0)) * pwr T 1 + bst fu P Q v s0 p T 1 (y + 1) (nwd (grw s0 y) (rS fu P v p q y d 0) d))) (fun says q => bst fu P Q v s0 p T 1 (y + 1) (nwd (grw s0 y) (rS fu P v p q y d says) d)) hfu hp hT hA (by omega) (fun j _ => by rw [show pwr T 1 = T from Int64.one_mul T]) (fun says j s2 _ _ e4 e5 e2 e6 => M_b1 (T := T) (A := A + 7) (y := y + 1) hfu hp (by omega) (by omega) e4 e5 e2 e6) Q fu 0 s (by omega) (by have := hS.1.2.1; omega) hS hO hR h29
  exact ⟨s', e1, e2⟩
theorem M_b3L {fu P Q p A y all : Nat} {v s0 : g_St} {T : Int64} {d : Nat → Nat} (F : Nat → Int64) (X : Nat → Nat → Int64) (hfu : 5000 ≤ fu) (hp : p < P) (hT : T = (nI all).toInt64) (hA : A + 21 ≤ 28) (hy : y + 2 ≤ 1999) (hF : ∀ j, j < Q → F j = wL s0 j * mx (hsv s0 p j (felln s0 (rS fu P v p j y d 1)) * (T * T) + X 1 j) (hsv s0 p j (felln s0 (rS fu P v p j y d 0)) * (T * T) + X 0 j)) (hin : ∀ says j s2, says ≤ 1 → j < Q → SV P Q v s2 → OW 0 s0 s2 → RW P (A + 7) (y + 1) (nwd (grw s0 y) (rS fu P v p j y d says) d) s2 → gi s2 29 = -1 → ∃ s3, f_M_bestTwo fu s2 (nI p) (nI (A + 7)) (nI all) = some (X says j, s3) ∧ OW (A + 14) s2 s3) : ∀ (k n j : Nat) (s : g_St), k + j = Q → k < n → SV P Q v s → OW 0 s0 s → RW P A y d s → gi s 29 = -1 → ∃ s', f_M_bestThree_L6 fu n s (nI p) (nI A) (nI all) (sL F j) (nI j) = some (sL F Q, s') ∧ OW (A + 7) s s' := by
  intro k
  induction k with
  | zero =>
    intro n j s hk hn hS hO hR h29
    obtain ⟨n, rfl⟩ : ∃ x, n = x + 1 := ⟨n - 1, by omega⟩
    have s5 := hS.1.2.2.2.2.2
    have hQ := hS.1.2.1
    refine ⟨s, ?_, OW.rf⟩
    rw [f_M_bestThree_L6, s5, if_pos (nI_le (by omega) (by omega)), show j = Q by omega]
  | succ k ih =>
    intro n j s hk hn hS hO hR h29
    obtain ⟨n, rfl⟩ : ∃ x, n = x + 1 := ⟨n - 1, by omega⟩
    have s5 := hS.1.2.2.2.2.2
    have hQ := hS.1.2.1
    have hP := hS.1.1
    have hj : j < Q := by omega
    have cj : (nI j).toNatClampNeg = j := nIc (by omega)
    obtain ⟨s2, e1, e2, e3, e4, e5, e6⟩ := W_has0 (says := 1) hfu hS hO hR hj hp (by omega) h29 (by omega) (by omega)
    obtain ⟨s3, a1, a2⟩ := hin 1 j s2 (by omega) hj e4 e5 e2 e6
    have a3 : OW (A + 7) s2 s3 := a2.mono (by omega)
    have a4 := a3.sv e4
    have a5 : OW 0 s0 s3 := e5.trans (a3.mono (Nat.zero_le _))
    have a6 := (a3.1 29 (by omega) (by omega)).trans e6
    have r3 := a3.rw (e3.rw hR hP (by omega)) hP (by omega)
    obtain ⟨s6, f1, f2, f3, f4, f5, f6⟩ := W_has0 (says := 0) hfu a4 a5 r3 hj hp (by omega) a6 (by omega) (by omega)
    obtain ⟨s7, b1, b2⟩ := hin 0 j s6 (by omega) hj f4 f5 f2 f6
    have b3 : OW (A + 7) s6 s7 := b2.mono (by omega)
    have b4 := b3.sv f4
    have b5 : OW 0 s0 s7 := f5.trans (b3.mono (Nat.zero_le _))
    obtain ⟨s', h1, h2⟩ := ih n (j + 1) s7 (by omega) (by omega) b4 b5 (b3.rw (f3.rw r3 hP (by omega)) hP (by omega)) ((b3.1 29 (by omega) (by omega)).trans f6)
    refine ⟨s', ?_, (((e3.trans a3).trans f3).trans b3).trans h2⟩
    have ew : (gr s7 6 j).toInt64 = wL s0 j := by
      rw [(wL_at b4 hj).2, wL_cong (b5.2.1 6 (by omega))]
    have e1' : f_M_hasNow fu s (nI p) (nI A) (nI j) 1 = some (hsv s0 p j (felln s0 (rS fu P v p j y d 1)), s2) := e1
    have f1' : f_M_hasNow fu s3 (nI p) (nI A) (nI j) 0 = some (hsv s0 p j (felln s0 (rS fu P v p j y d 0)), s6) := f1
    rw [show nI (A + 7) = nI A + 7 from (nI_add A 7).symm] at a1 b1
    have hs : sL F (j + 1) = sL F j + wL s0 j * mx (hsv s0 p j (felln s0 (rS fu P v p j y d 1)) * (T * T) + X 1 j) (hsv s0 p j (felln s0 (rS fu P v p j y d 0)) * (T * T) + X 0 j) := by
      show sL F j + F j = _
      rw [hF j hj]
    rw [hs] at h1
    unfold mx at h1
    rw [f_M_bestThree_L6, s5, if_neg (nI_ge (by omega) (by omega)), bd2_eq _ e1', lt_lt, bd2_eq _ a1, lt_lt, bd2_eq _ f1', lt_lt, bd2_eq _ b1, lt_lt, gd_of (vpn (n := j) (N := 8) (by omega) (by omega)), cj, ew, ← hT]
    simp only [lt_lt]
    rw [nI_1, Int64.mul_assoc _ T T, Int64.mul_assoc _ T T]
    by_cases c : lg_cmp (hsv s0 p j (felln s0 (rS fu P v p j y d 1)) * (T * T) + X 1 j) (hsv s0 p j (felln s0 (rS fu P v p j y d 0)) * (T * T) + X 0 j) ≤ 0
    · rw [if_pos c]; rw [if_pos c] at h1; exact h1
    · rw [if_neg c]; rw [if_neg c] at h1; exact h1
theorem M_b3 {fu P Q p A y all : Nat} {v s0 s : g_St} {T : Int64} {d : Nat → Nat} (hfu : 5000 ≤ fu) (hp : p < P) (hT : T = (nI all).toInt64) (hA : A + 21 ≤ 28) (hy : y ≤ 1997) (hS : SV P Q v s) (hO : OW 0 s0 s) (hR : RW P A y d s) (h29 : gi s 29 = -1) : ∃ s', f_M_bestThree fu s (nI p) (nI A) (nI all) = some (bst fu P Q v s0 p T 3 y d, s') ∧ OW (A + 7) s s' := by
  obtain ⟨s', e1, e2⟩ := M_b3L (v := v) (y := y) (d := d) (fun q => wL s0 q * mx (hsv s0 p q (felln s0 (rS fu P v p q y d 1)) * pwr T 2 + bst fu P Q v s0 p T 2 (y + 1) (nwd (grw s0 y) (rS fu P v p q y d 1) d)) (hsv s0 p q (felln s0 (rS fu P v p q y d 0)) * pwr T 2 + bst fu P Q v s0 p T 2 (y + 1) (nwd (grw s0 y) (rS fu P v p q y d 0) d))) (fun says q => bst fu P Q v s0 p T 2 (y + 1) (nwd (grw s0 y) (rS fu P v p q y d says) d)) hfu hp hT hA (by omega) (fun j _ => by rw [show pwr T 2 = T * T from by show 1 * T * T = T * T; rw [Int64.one_mul]]) (fun says j s2 _ _ e4 e5 e2 e6 => M_b2 (T := T) (all := all) (A := A + 7) (y := y + 1) hfu hp hT (by omega) (by omega) e4 e5 e2 e6) Q fu 0 s (by omega) (by have := hS.1.2.1; omega) hS hO hR h29
  exact ⟨s', e1, e2⟩
/-- of any number of years -/
theorem M_bestBy {fu P Q p A y all n : Nat} {v s0 s : g_St} {T : Int64} {d : Nat → Nat} (hfu : 5000 ≤ fu) (hp : p < P) (h0 : 0 < all) (h72 : all ≤ 72) (hT : T = (nI all).toInt64) (hn : n ≤ 3) (hA : A + 7 * n ≤ 28) (hA2 : A ≤ 28) (hy : y ≤ 1997) (hS : SV P Q v s) (hO : OW 0 s0 s) (hR : RW P A y d s) (h29 : gi s 29 = -1) : ∃ s', f_M_bestBy fu s (nI p) (nI A) (nI n) (nI all) = some (bst fu P Q v s0 p T n y d, s') ∧ OW (A + 7) s s' := by
  have a0 : ¬ nI all = 0 := nI_ne0 h0 (by omega)
  unfold f_M_bestBy
  rcases (show n = 0 ∨ n = 1 ∨ n = 2 ∨ n = 3 by omega) with rfl | rfl | rfl | rfl
  · rw [if_pos (show nI 0 = 0 from rfl)]
    exact ⟨s, rfl, OW.rf⟩
  · obtain ⟨s', e1, e2⟩ := M_b1 (T := T) hfu hp (by omega) (by omega) hS hO hR h29
    rw [if_neg (show ¬ nI 1 = 0 by decide), if_neg a0, if_pos (show nI 1 = 1 from rfl), bd2_eq _ e1]
    exact ⟨s', rfl, e2⟩
  · obtain ⟨s', e1, e2⟩ := M_b2 (T := T) hfu hp hT (by omega) (by omega) hS hO hR h29
    rw [if_neg (show ¬ nI 2 = 0 by decide), if_neg a0, if_neg (show ¬ nI 2 = 1 by decide), if_pos (show nI 2 = 2 from rfl), bd2_eq _ e1]
    exact ⟨s', rfl, e2⟩
  · obtain ⟨s', e1, e2⟩ := M_b3 (T := T) hfu hp hT (by omega) (by omega) hS hO hR h29
    rw [if_neg (show ¬ nI 3 = 0 by decide), if_neg a0, if_neg (show ¬ nI 3 = 1 by decide), if_neg (show ¬ nI 3 = 2 by decide), bd2_eq _ e1]
    exact ⟨s', rfl, e2⟩
