/-! A year ahead, as both see it. -/
/-- all but rows from a place on, and who says it -/
def OW (B : Nat) (s t : g_St) : Prop := (∀ i, i ≠ 30 → i ≠ 31 → gi t i = gi s i) ∧ (∀ i, i ≠ 11 → gr t i = gr s i) ∧ gt t = gt s ∧ ∀ i, i < B → gr t 11 i = gr s 11 i
theorem OW.rf {B : Nat} {s : g_St} : OW B s s := ⟨fun _ _ _ => rfl, fun _ _ => rfl, rfl, fun _ _ => rfl⟩
theorem OW.trans {B : Nat} {s t u : g_St} (a : OW B s t) (b : OW B t u) : OW B s u := ⟨fun i h1 h2 => (b.1 i h1 h2).trans (a.1 i h1 h2), fun i h => (b.2.1 i h).trans (a.2.1 i h), b.2.2.1.trans a.2.2.1, fun i h => (b.2.2.2 i h).trans (a.2.2.2 i h)⟩
theorem OW.mono {B C : Nat} {s t : g_St} (a : OW B s t) (h : C ≤ B) : OW C s t := ⟨a.1, a.2.1, a.2.2.1, fun i hi => a.2.2.2 i (by omega)⟩
theorem OW.sv {P Q B : Nat} {v s t : g_St} (a : OW B s t) (h : SV P Q v s) : SV P Q v t := h.keep (a.1 0 (by omega) (by omega)) (a.1 5 (by omega) (by omega)) (a.2.1 1 (by omega)) (a.2.1 2 (by omega)) (a.2.1 3 (by omega)) (a.2.1 6 (by omega)) (a.2.1 7 (by omega)) (a.2.1 8 (by omega))
theorem OW.rw {P A B y : Nat} {d : Nat → Nat} {s t : g_St} (a : OW B s t) (h : RW P A y d s) (hP : P ≤ 6) (hB : A + 7 ≤ B) : RW P A y d t := by
  obtain ⟨h1, h2, h3⟩ := h
  refine ⟨fun p hp => ?_, ?_, h3⟩
  · rw [a.2.2.2 (A + p) (by omega)]; exact h1 p hp
  · rw [a.2.2.2 (A + 6) (by omega)]; exact h2
theorem OW.ag {B : Nat} {s t : g_St} (a : OW B s t) (hB : 7 ≤ B) : AG s t := ⟨⟨a.1 0 (by omega) (by omega), a.1 5 (by omega) (by omega), a.1 12 (by omega) (by omega), a.1 13 (by omega) (by omega), a.1 14 (by omega) (by omega)⟩, fun p _ => ⟨congrFun (a.2.1 1 (by omega)) p, congrFun (a.2.1 2 (by omega)) p, congrFun (a.2.1 3 (by omega)) p, congrFun (a.2.1 4 (by omega)) p⟩, fun p _ => congrFun (a.2.1 6 (by omega)) p, fun p _ => congrFun (a.2.1 7 (by omega)) p, fun p _ => congrFun (a.2.1 8 (by omega)) p, fun p hp => a.2.2.2 p (by omega)⟩
theorem OW.ov {B : Nat} {s t : g_St} (a : OW B s t) : OV s t := ⟨⟨a.1 16 (by omega) (by omega), a.1 29 (by omega) (by omega), a.1 36 (by omega) (by omega), a.1 47 (by omega) (by omega), a.1 49 (by omega) (by omega)⟩, ⟨a.2.1 9 (by omega), a.2.1 10 (by omega), a.2.1 15 (by omega), a.2.1 34 (by omega), a.2.1 37 (by omega), a.2.1 38 (by omega)⟩, a.2.1 40 (by omega), a.2.1 41 (by omega), a.2.1 42 (by omega), a.2.1 46 (by omega), a.2.1 50 (by omega), congrFun a.2.2.1 39⟩
/-- a state with a row made up -/
def rw0 (s : g_St) (y : Nat) (d : Nat → Nat) : g_St := sra s 11 (fun i => if i = 6 then nI y else nI (d i))
theorem RW_rw0 {P y : Nat} {s : g_St} {d : Nat → Nat} (hP : P ≤ 6) (hd : ∀ p, p < P → d p ≤ 9) (h1 : 1 ≤ y) (h2 : y ≤ 2000) : RW P 0 y d (rw0 s y d) := by
  refine ⟨fun p hp => ⟨?_, hd p hp⟩, ?_, by omega, h1, h2⟩
  · show (if 0 + p = 6 then nI y else nI (d (0 + p))) = nI (d p)
    rw [if_neg (by omega), Nat.zero_add]
  · rfl
theorem SV.rw0 {P Q y : Nat} {v s : g_St} {d : Nat → Nat} (h : SV P Q v s) : SV P Q v (rw0 s y d) := h
/-- who says no, as the class finds it -/
noncomputable def rsy (fu P : Nat) (v : g_St) (q y : Nat) (d : Nat → Nat) : Nat := match f_V_whoSays fu v (nI q) (nI y) (nI (dgs 4 d P)) with
  | some r => r.toNatClampNeg
  | none => 0
theorem rsy_of {fu P q y R : Nat} {v : g_St} {d : Nat → Nat} (hR : R < 64) (h : f_V_whoSays fu v (nI q) (nI y) (nI (dgs 4 d P)) = some (nI R)) : rsy fu P v q y d = R := by
  unfold rsy
  rw [h]
  exact nIc (by omega)
theorem rsy_spec {fu P Q q y : Nat} {v s : g_St} {d : Nat → Nat} (hfu : 5000 ≤ fu) (hS : SV P Q v s) (h29 : gi s 29 = -1) (hd : ∀ p, p < P → d p ≤ 9) (h1 : 1 ≤ y) (h2 : y ≤ 2000) (hq : q < Q) : rsy fu P v q y d < 64 ∧ (∀ p, p < P → bt (rsy fu P v q y d) p = 1 → 1 ≤ d p) ∧ f_V_whoSays fu v (nI q) (nI y) (nI (dgs 4 d P)) = some (nI (rsy fu P v q y d)) := by
  obtain ⟨R, R1, R2, R3, -⟩ := W_says (A := 0) hfu (hS.rw0 (y := y) (d := d)) (RW_rw0 hS.1.1 hd h1 h2) hq h29
  have e := rsy_of R1 R3
  rw [e]
  exact ⟨R1, R2, R3⟩
/-- the noes when the year is over -/
noncomputable def nxt (fu P : Nat) (v s : g_St) (q y : Nat) (d : Nat → Nat) : Nat → Nat := nwd (grw s y) (rsy fu P v q y d) d
theorem nxt_le {fu P q y p : Nat} {v s : g_St} {d : Nat → Nat} (h : d p ≤ 9) : nxt fu P v s q y d p ≤ 9 := nwd_le h
theorem grw_cong {s t : g_St} (h : gr t 8 = gr s 8) (y : Nat) : grw t y = grw s y := by
  unfold grw
  rw [h]
theorem felln_cong {s t : g_St} (h : gr t 8 = gr s 8) (R : Nat) : felln t R = felln s R := by
  unfold felln
  rw [h]
theorem W_step {fu P Q A B y q : Nat} {d : Nat → Nat} {v s : g_St} (hfu : 5000 ≤ fu) (hS : SV P Q v s) (hR : RW P A y d s) (h29 : gi s 29 = -1) (hq : q < Q) (hB : B ≤ 28) (hAB : A = B ∨ A + 7 ≤ B ∨ B + 7 ≤ A) (hy : y ≤ 1999) : ∃ s', f_M_goes fu s (nI A) (nI B) (nI q) = some (felln s (rsy fu P v q y d), s') ∧ RW P B (y + 1) (nxt fu P v s q y d) s' ∧ OW B s s' := by
  obtain ⟨R, R1, R2, R3, R4⟩ := W_says hfu hS hR hq h29
  have e := rsy_of R1 R3
  obtain ⟨s', f1, b1, b2, b3, b4, b5, b6, -⟩ := M_goes_of (B := B) hfu hS hR hB hAB R1 R2 R4
  unfold nxt
  rw [e]
  exact ⟨s', f1, ⟨fun p hp => ⟨b4 p hp, nwd_le (hR.1 p hp).2⟩, b5, hB, by omega, by omega⟩, fun i _ h2 => b1 i h2, b2, b3, fun i hi => b6 i (by omega) (by omega)⟩
/-- the class's year -/
theorem V_step {fu P Q y q : Nat} {d : Nat → Nat} {v s : g_St} (hfu : 5000 ≤ fu) (hS : SV P Q v s) (h29 : gi s 29 = -1) (hd : ∀ p, p < P → d p ≤ 9) (h1 : 1 ≤ y) (h2 : y ≤ 2000) (hq : q < Q) : f_V_whoSays fu v (nI q) (nI y) (nI (dgs 4 d P)) = some (nI (rsy fu P v q y d)) ∧ f_V_isFall v (nI (rsy fu P v q y d)) = felln s (rsy fu P v q y d) ∧ f_V_noesAfter fu v (nI (rsy fu P v q y d)) (nI y) (nI (dgs 4 d P)) = some (nI (dgs 4 (nxt fu P v s q y d) P)) := by
  obtain ⟨a, b, c⟩ := rsy_spec hfu hS h29 hd h1 h2 hq
  exact ⟨c, V_isFall hS a, V_after hfu hS a (fun p hp => ⟨hd p hp, b p hp⟩)⟩
/-- small numbers add up -/
theorem add64 {a b : Int32} (h1 : -1000 ≤ a.toInt) (h2 : a.toInt ≤ 1000) (h3 : -1000 ≤ b.toInt) (h4 : b.toInt ≤ 1000) : (a + b).toInt64 = a.toInt64 + b.toInt64 ∧ (a + b).toInt = a.toInt + b.toInt := by
  have e : (a + b).toInt = a.toInt + b.toInt := by
    rw [Int32.toInt_add]
    exact Int.bmod_eq_of_le (by omega) (by omega)
  refine ⟨?_, e⟩
  apply Int64.toInt_inj.mp
  rw [Int32.toInt_toInt64, Int64.toInt_add, Int32.toInt_toInt64, Int32.toInt_toInt64, e]
  exact (Int.bmod_eq_of_le (by omega) (by omega)).symm
/-- what a year brings to all -/
theorem W_all {fu P Q q : Nat} {v s aa : g_St} (hS : SV P Q v s) (hq : q < Q) : ∀ (k n j : Nat) (a : Int32), k + j = P → k < n → -9 * (j : Int) ≤ a.toInt → a.toInt ≤ 9 * (j : Int) → ∃ b, f_M_brings_L26 fu n s (nI q) 0 (-1) a (nI j) = some b ∧ f_A_gain_L70 fu n aa v (nI q) a.toInt64 (nI j) = some b.toInt64 ∧ -54 ≤ b.toInt ∧ b.toInt ≤ 54 := by
  have hS' := hS
  obtain ⟨⟨hP, hQ, v0, s0, -⟩, -, hw, -⟩ := hS'
  intro k
  induction k with
  | zero =>
    intro n j a hk hn h1 h2
    obtain ⟨m, rfl⟩ : ∃ m, n = m + 1 := ⟨n - 1, by omega⟩
    refine ⟨a, ?_, ?_, by omega, by omega⟩
    · rw [f_M_brings_L26, s0, if_pos (nI_le (by omega) (by omega))]
    · rw [f_A_gain_L70, v0, if_pos (nI_le (by omega) (by omega))]
  | succ k ih =>
    intro n j a hk hn h1 h2
    obtain ⟨m, rfl⟩ : ∃ m, n = m + 1 := ⟨n - 1, by omega⟩
    obtain ⟨w1, w2, w3⟩ := (hw q hq).2.2 j (by omega)
    obtain ⟨g1, g2⟩ := add64 (a := a) (b := gr s 7 (6 * q + j)) (by omega) (by omega) (by omega) (by omega)
    obtain ⟨b, e1, e2, e3, e4⟩ := ih m (j + 1) (a + gr s 7 (6 * q + j)) (by omega) (by omega) (by omega) (by omega)
    refine ⟨b, ?_, ?_, e3, e4⟩
    · rw [f_M_brings_L26, s0, if_neg (nI_ge (by omega) (by omega)), if_pos rfl, if_pos rfl, f_M_brings_L52, bd1_eq _ (M_worthTo (by omega) (by omega)), lt_lt, lt_lt, nI_1]
      exact e1
    · rw [f_A_gain_L70, v0, if_neg (nI_ge (by omega) (by omega)), gd_of (vpn (n := q) (N := 8) (by omega) (by omega)), gd_of (vpn (n := j) (N := 6) (by omega) (by omega)), lt_lt, lt_lt, nI_1, nIc (show j ≤ 4096 by omega), nIc (show q ≤ 4096 by omega), w1, ← g1]
      exact e2
/-- what a year brings to a person -/
theorem M_one {fu P Q q p : Nat} {v s : g_St} (hS : SV P Q v s) (hq : q < Q) (hp : p < P) : ∀ (k n j : Nat), k + j = P → k < n → f_M_brings_L26 fu n s (nI q) 0 (nI p) (if j ≤ p then 0 else gr s 7 (6 * q + p)) (nI j) = some (gr s 7 (6 * q + p)) := by
  obtain ⟨⟨hP, hQ, v0, s0, -⟩, -, hw, -⟩ := hS
  intro k
  induction k with
  | zero =>
    intro n j hk hn
    obtain ⟨m, rfl⟩ : ∃ m, n = m + 1 := ⟨n - 1, by omega⟩
    rw [f_M_brings_L26, s0, if_pos (nI_le (by omega) (by omega)), if_neg (by omega)]
  | succ k ih =>
    intro n j hk hn
    obtain ⟨m, rfl⟩ : ∃ m, n = m + 1 := ⟨n - 1, by omega⟩
    have e := ih m (j + 1) (by omega) (by omega)
    have p1 : ¬ nI p = -1 := fun z => by
      have h0 : ¬ nI p < 0 := nI_pos (by omega)
      rw [z] at h0
      exact h0 (by decide)
    rw [f_M_brings_L26, s0, if_neg (nI_ge (by omega) (by omega)), if_pos rfl, if_neg p1]
    by_cases z : j = p
    · subst z
      rw [if_pos rfl, if_pos (Nat.le_refl j), f_M_brings_L52, bd1_eq _ (M_worthTo (by omega) (by omega)), lt_lt, lt_lt, nI_1, Int32.zero_add]
      rw [if_neg (by omega)] at e
      exact e
    · rw [if_neg (fun t => z ((nIeq (by omega) (by omega)).mp t).symm), lt_lt, lt_lt, nI_1, Int32.add_zero]
      by_cases y : j ≤ p
      · rw [if_pos y]
        rw [if_pos (by omega)] at e
        exact e
      · rw [if_neg y]
        rw [if_neg (by omega)] at e
        exact e
/-- what is spoilt -/
theorem W_spoil {fu P Q q : Nat} {v s : g_St} (hS : SV P Q v s) (hq : q < Q) : ∀ (k n j : Nat) (c : Int32), k + j = P → k < n → (P = 0 → c = 0) → ∃ r, (r = 0 ∨ r = 1) ∧ f_M_spoiledIn_L4 fu n s (nI q) c (nI j) = some r ∧ f_A_isLikedByAllButOne_L4 fu n v (nI q) c (nI j) = some r := by
  have hS' := hS
  obtain ⟨⟨hP, hQ, v0, s0, -⟩, -, hw, -⟩ := hS'
  intro k
  induction k with
  | zero =>
    intro n j c hk hn hc
    obtain ⟨m, rfl⟩ : ∃ m, n = m + 1 := ⟨n - 1, by omega⟩
    rw [f_M_spoiledIn_L4, f_A_isLikedByAllButOne_L4, s0, v0, if_pos (nI_le (by omega) (by omega)), if_pos (nI_le (by omega) (by omega))]
    by_cases z : P = 0
    · rw [hc z, z, if_pos (show nI 0 ≤ 0 by decide), if_neg (show ¬ (0 : Int32) = nI 0 - 1 by decide)]
      exact ⟨0, Or.inl rfl, rfl, rfl⟩
    · rw [if_neg (nI_nle (by omega) (by omega))]
      by_cases y : c = nI P - 1
      · rw [if_pos y]; exact ⟨1, Or.inr rfl, rfl, rfl⟩
      · rw [if_neg y]; exact ⟨0, Or.inl rfl, rfl, rfl⟩
  | succ k ih =>
    intro n j c hk hn hc
    obtain ⟨m, rfl⟩ : ∃ m, n = m + 1 := ⟨n - 1, by omega⟩
    obtain ⟨w1, -, -⟩ := (hw q hq).2.2 j (by omega)
    rw [f_M_spoiledIn_L4, f_A_isLikedByAllButOne_L4, s0, v0, if_neg (nI_ge (by omega) (by omega)), if_neg (nI_ge (by omega) (by omega)), bd1_eq _ (M_worthTo (by omega) (by omega)), gd_of (vpn (n := q) (N := 8) (by omega) (by omega)), gd_of (vpn (n := j) (N := 6) (by omega) (by omega)), nIc (show j ≤ 4096 by omega), nIc (show q ≤ 4096 by omega), w1]
    simp only [lt_lt]
    rw [nI_1, Int32.add_zero]
    by_cases z : gr s 7 (6 * q + j) ≤ 0
    · rw [if_pos z, if_pos z]
      exact ih m (j + 1) c (by omega) (by omega) (fun t => by omega)
    · rw [if_neg z, if_neg z]
      exact ih m (j + 1) (c + 1) (by omega) (by omega) (fun t => by omega)
/-- what is summed up: somebody's, all's, what is spoilt -/
def WM (P : Nat) (wm : Int32) : Prop := (∃ p, p < P ∧ wm = nI p) ∨ wm = -1 ∨ wm = -2
noncomputable def gnv (fu : Nat) (v : g_St) (wm : Int32) (q : Nat) (F : Int32) : Int64 := match f_A_gain fu (si v 2 wm) v (nI q) F with
  | some r => r
  | none => 0
theorem W_gain' {fu P Q q : Nat} {v s : g_St} {wm F : Int32} (hfu : 5000 ≤ fu) (hS : SV P Q v s) (hq : q < Q) (hw : WM P wm) (hF : F = 0 ∨ F = 1) : ∃ b, f_M_brings fu s (nI q) F wm = some b ∧ (∀ aa, gi aa 2 = wm → f_A_gain fu aa v (nI q) F = some b.toInt64) ∧ -54 ≤ b.toInt ∧ b.toInt ≤ 54 := by
  have hS' := hS
  obtain ⟨⟨hP, hQ, v0, s0, -⟩, -, hW, -⟩ := hS'
  -- what falls brings nothing
  have fall : ∀ n, 0 < n → f_M_brings_L26 fu n s (nI q) 1 wm 0 0 = some 0 := fun n hn => by
    obtain ⟨m, rfl⟩ : ∃ m, n = m + 1 := ⟨n - 1, by omega⟩
    rw [f_M_brings_L26]
    by_cases z : gi s 0 ≤ 0
    · rw [if_pos z]
    · rw [if_neg z, if_neg ne10]
  unfold f_M_brings f_A_gain
  rcases hw with ⟨p, hp, rfl⟩ | rfl | rfl
  · have p2 : ¬ nI p = -2 := fun z => by
      have h0 : ¬ nI p < 0 := nI_pos (by omega)
      rw [z] at h0
      exact h0 (by decide)
    rw [if_neg p2]
    rcases hF with rfl | rfl
    · obtain ⟨w1, w2, w3⟩ := (hW q hq).2.2 p hp
      have e := M_one (fu := fu) hS hq hp P fu 0 (by omega) (by omega)
      rw [if_pos (Nat.zero_le p)] at e
      refine ⟨_, e, fun aa ha => ?_, by omega, by omega⟩
      rw [ha, if_neg p2, if_pos rfl, if_neg (nI_pos (n := p) (by omega)), if_neg (show ¬ (6 : Int32) ≤ nI p from i6gt (by omega)), gd_of (vpn (n := q) (N := 8) (by omega) (by omega)), gd_of (vpn (n := p) (N := 6) (by omega) (by omega)), nIc (show p ≤ 4096 by omega), nIc (show q ≤ 4096 by omega), w1]
    · refine ⟨0, fall fu (by omega), fun aa ha => ?_, by decide, by decide⟩
      rw [ha, if_neg p2, if_neg ne10]; rfl
  · rw [if_neg (show ¬ (-1 : Int32) = -2 by decide)]
    rcases hF with rfl | rfl
    · have e0 := fun aa => W_all (fu := fu) (aa := aa) hS hq P fu 0 0 (by omega) (by omega) (by decide) (by decide)
      obtain ⟨b, e1, -, e3, e4⟩ := e0 s
      refine ⟨b, e1, fun aa ha => ?_, e3, e4⟩
      obtain ⟨b', f1, f2, -, -⟩ := e0 aa
      have bb : b' = b := Option.some.inj (f1.symm.trans e1)
      subst bb
      rw [ha, if_neg (show ¬ (-1 : Int32) = -2 by decide), if_pos rfl, if_pos (show (-1 : Int32) < 0 by decide)]
      exact f2
    · refine ⟨0, fall fu (by omega), fun aa ha => ?_, by decide, by decide⟩
      rw [ha, if_neg (show ¬ (-1 : Int32) = -2 by decide), if_neg ne10]; rfl
  · rw [if_pos rfl]
    rcases hF with rfl | rfl
    · refine ⟨0, if_pos rfl, fun aa ha => ?_, by decide, by decide⟩
      rw [ha, if_pos rfl, if_pos rfl]; rfl
    · obtain ⟨r, r1, e1, e2⟩ := W_spoil (fu := fu) hS hq P fu 0 0 (by omega) (by omega) (fun _ => rfl)
      have e1' : f_M_spoiledIn fu s (nI q) = some r := e1
      have e2' : f_A_isLikedByAllButOne fu v (nI q) = some r := e2
      rw [if_neg ne10, bd1_eq _ e1']
      refine ⟨r, rfl, fun aa ha => ?_, ?_, ?_⟩
      · rw [ha, if_pos rfl, if_neg ne10, bd1_eq _ e2']
        rcases r1 with rfl | rfl
        · rw [if_pos rfl]; rfl
        · rw [if_neg ne10]; rfl
      · rcases r1 with rfl | rfl <;> decide
      · rcases r1 with rfl | rfl <;> decide
theorem W_gain {fu P Q q : Nat} {v s : g_St} {wm F : Int32} (hfu : 5000 ≤ fu) (hS : SV P Q v s) (hq : q < Q) (hw : WM P wm) (hF : F = 0 ∨ F = 1) : (∀ aa, gi aa 2 = wm → f_A_gain fu aa v (nI q) F = some (gnv fu v wm q F)) ∧ ∃ b, f_M_brings fu s (nI q) F wm = some b ∧ b.toInt64 = gnv fu v wm q F ∧ -54 ≤ b.toInt ∧ b.toInt ≤ 54 := by
  obtain ⟨b, e1, e2, e3, e4⟩ := W_gain' hfu hS hq hw hF
  have g : gnv fu v wm q F = b.toInt64 := by
    unfold gnv
    rw [e2 (si v 2 wm) rfl]
  rw [g]
  exact ⟨e2, b, e1, rfl, e3, e4⟩
