/-! Who would say no: one person. -/
/-- a year's noes and number, as the reference keeps them: a row -/
def RW (P A y : Nat) (d : Nat → Nat) (s : g_St) : Prop := (∀ p, p < P → gr s 11 (A + p) = nI (d p) ∧ d p ≤ 9) ∧ gr s 11 (A + 6) = nI y ∧ A ≤ 28 ∧ 1 ≤ y ∧ y ≤ 2000
theorem d16 {P : Nat} {d : Nat → Nat} {s : g_St} {A y : Nat} (h : RW P A y d s) : ∀ p, p < P → d p < 16 := fun p hp => by have := (h.1 p hp).2; omega
/-- who has noes, as a set -/
def hasb (d : Nat → Nat) (p : Nat) : Nat := if d p = 0 then 0 else 1
theorem hasb_0 {d : Nat → Nat} {p : Nat} (h : d p = 0) : hasb d p = 0 := if_pos h
theorem hasb_1 {d : Nat → Nat} {p : Nat} (h : ¬ d p = 0) : hasb d p = 1 := if_neg h
theorem hasb_le (d : Nat → Nat) (p : Nat) : hasb d p ≤ 1 := by unfold hasb; split <;> omega
theorem able_lt {P : Nat} (d : Nat → Nat) (hP : P ≤ 6) : dgs 1 (hasb d) P < 64 := by
  have a := dgs_lt 1 (hasb d) P (fun p _ => by have := hasb_le d p; omega)
  have b : 2 ^ (1 * P) ≤ 2 ^ 6 := Nat.pow_le_pow_right (by omega) (by omega)
  omega
theorem able_bit {P p : Nat} (d : Nat → Nat) (hP : P ≤ 6) (hp : p < P) : (g_ushr (nI (dgs 1 (hasb d) P)) (nI p)) &&& 1 = nI (hasb d p) := by
  have a := able_lt d hP
  have e := dgs_at 1 (hasb d) P (fun p _ => by have := hasb_le d p; omega) p hp
  rw [Nat.one_mul] at e
  rw [bit_ushr a (by omega)]
  exact congrArg nI e
theorem V_able {fu P Q A y : Nat} {d : Nat → Nat} {v s : g_St} (hfu : 5000 ≤ fu) (hS : SV P Q v s) (hR : RW P A y d s) : f_V_whoHasNoes fu v (nI (dgs 4 d P)) = some (nI (dgs 1 (hasb d) P)) := by
  obtain ⟨⟨hP, hQ, v0, s0, -⟩, -, -, -⟩ := hS
  have L : ∀ (k n j : Nat), k + j = P → k < n → f_V_whoHasNoes_L4 fu n v (nI (dgs 4 d P)) (nI (dgs 1 (hasb d) j)) (nI j) = some (nI (dgs 1 (hasb d) P)) := by
    intro k
    induction k with
    | zero =>
      intro n j hk hn
      obtain ⟨m, rfl⟩ : ∃ m, n = m + 1 := ⟨n - 1, by omega⟩
      rw [f_V_whoHasNoes_L4, v0, if_pos (nI_le (by omega) (by omega)), show j = P by omega]
    | succ k ih =>
      intro n j hk hn
      obtain ⟨m, rfl⟩ : ∃ m, n = m + 1 := ⟨n - 1, by omega⟩
      have e := ih m (j + 1) (by omega) (by omega)
      have hj : j < P := by omega
      have ed : dgs 1 (hasb d) (j + 1) = dgs 1 (hasb d) j + hasb d j * 2 ^ (1 * j) := rfl
      rw [f_V_whoHasNoes_L4, v0, if_neg (nI_ge (by omega) (by omega)), nI_1]
      simp only [lt_lt]
      by_cases z : d j = 0
      · rw [if_pos ((noes_0 hP (d16 hR) hj (hR.1 j hj).2).mpr z)]
        rw [ed, hasb_0 z, Nat.zero_mul, Nat.add_zero] at e
        exact e
      · rw [if_neg (mt (noes_0 hP (d16 hR) hj (hR.1 j hj).2).mp z)]
        have a := dgs_lt 1 (hasb d) j (fun p _ => by have := hasb_le d p; omega)
        have a2 : 2 ^ (1 * j) ≤ 2 ^ 6 := Nat.pow_le_pow_right (by omega) (by omega)
        rw [Nat.one_mul] at a a2 ed
        rw [show (1 : Int32) = nI 1 from rfl, shl_N (by omega) (by omega), or_add a (by omega)]
        rw [ed, hasb_1 z] at e
        exact e
  exact L P fu 0 (by omega) (by omega)
theorem W_low {fu P Q A y q p : Nat} {d : Nat → Nat} {v s : g_St} (hS : SV P Q v s) (hR : RW P A y d s) (hq : q < Q) (hp : p < P) : ∀ (k n j : Nat), k + j = P → k < n → ∃ r r', f_V_hasWorseOff_L3 fu n v (nI q) (nI p) (nI (dgs 1 (hasb d) P)) (nI j) = some r ∧ f_M_isLow_L11 fu n s (nI A) (nI q) (nI p) (gr s 7 (6 * q + p)) (nI j) = some r' ∧ (r = 0 ∧ r' = 1 ∨ r = 1 ∧ r' = 0) := by
  obtain ⟨⟨hP, hQ, v0, s0, -⟩, -, hw, -⟩ := hS
  have w := (hw q hq).2.2
  intro k
  induction k with
  | zero =>
    intro n j hk hn
    obtain ⟨m, rfl⟩ : ∃ m, n = m + 1 := ⟨n - 1, by omega⟩
    refine ⟨0, 1, ?_, ?_, Or.inl ⟨rfl, rfl⟩⟩
    · rw [f_V_hasWorseOff_L3, v0, if_pos (nI_le (by omega) (by omega))]
    · rw [f_M_isLow_L11, s0, if_pos (nI_le (by omega) (by omega))]
  | succ k ih =>
    intro n j hk hn
    obtain ⟨m, rfl⟩ : ∃ m, n = m + 1 := ⟨n - 1, by omega⟩
    obtain ⟨r, r', e1, e2, e3⟩ := ih m (j + 1) (by omega) (by omega)
    have hj : j < P := by omega
    rw [f_V_hasWorseOff_L3, f_M_isLow_L11, v0, s0, if_neg (nI_ge (by omega) (by omega)), if_neg (nI_ge (by omega) (by omega)), nI_1]
    simp only [lt_lt]
    rw [nI_add A j, gd_of (vpn (n := q) (N := 8) (by omega) (by omega)), gd_of (vpn (n := j) (N := 6) (by omega) (by omega)), gd_of (vpn (n := q) (N := 8) (by omega) (by omega)), gd_of (vpn (n := p) (N := 6) (by omega) (by omega)), gd_of (vpn (n := A + j) (N := 35) (by have := hR.2.2.1; omega) (by omega)), nIc (show A + j ≤ 4096 by have := hR.2.2.1; omega), nIc (show q ≤ 4096 by omega), nIc (show p ≤ 4096 by omega), nIc (show j ≤ 4096 by omega), (hR.1 j hj).1, bd1_eq _ (M_worthTo (by omega) (by omega)), (w p hp).1, (w j hj).1]
    rw [able_bit d hP hj]
    by_cases z : d j = 0
    · rw [hasb_0 z, if_neg (show ¬ nI 0 = 1 by decide), z, if_pos (show nI 0 ≤ 0 by decide)]
      refine ⟨r, r', e1, ?_, e3⟩
      by_cases t : nI j = nI p
      · rw [if_pos t]; exact e2
      · rw [if_neg t]; exact e2
    · rw [hasb_1 z, if_pos (show nI 1 = 1 from rfl), if_neg (nI_nle (by omega) (by have := (hR.1 j hj).2; omega))]
      by_cases t : j = p
      · subst t
        rw [if_pos (Int32.le_refl _), if_pos rfl]
        exact ⟨r, r', e1, e2, e3⟩
      · rw [if_neg (mt (nIeq (by omega) (by omega)).mp t)]
        by_cases u : gr s 7 (6 * q + p) ≤ gr s 7 (6 * q + j)
        · rw [if_pos u, if_pos u]; exact ⟨r, r', e1, e2, e3⟩
        · rw [if_neg u, if_neg u]; exact ⟨1, 0, rfl, rfl, Or.inr ⟨rfl, rfl⟩⟩
/-- the league: who is in it, and how many stand before a place -/
def lgf (s : g_St) (d : Nat → Nat) (p : Nat) : Bool := decide (gr s 1 p = 4 ∧ ¬ d p = 0)
def cn (f : Nat → Bool) : Nat → Nat
  | 0 => 0
  | n + 1 => if f n = true then cn f n + 1 else cn f n
theorem cn_le (f : Nat → Bool) : ∀ n, cn f n ≤ n := by
  intro n
  induction n with
  | zero => exact Nat.le_refl _
  | succ n ih =>
    show (if f n = true then cn f n + 1 else cn f n) ≤ n + 1
    split <;> omega
theorem cn_step (f : Nat → Bool) (n : Nat) : cn f n ≤ cn f (n + 1) := by
  show cn f n ≤ if f n = true then cn f n + 1 else cn f n
  split <;> omega
theorem cn_mono (f : Nat → Bool) {a b : Nat} (h : a ≤ b) : cn f a ≤ cn f b := by
  induction h with
  | refl => exact Nat.le_refl _
  | step _ ih => exact Nat.le_trans ih (cn_step f _)
theorem cn_in (f : Nat → Bool) {p : Nat} (h : f p = true) : cn f (p + 1) = cn f p + 1 := if_pos h
theorem cn_inj (f : Nat → Bool) {p c : Nat} (hp : f p = true) (hc : f c = true) (h : cn f p = cn f c) : p = c := by
  rcases Nat.lt_trichotomy p c with a | a | a
  · have := cn_mono f (show p + 1 ≤ c from a); rw [cn_in f hp] at this; omega
  · exact a
  · have := cn_mono f (show c + 1 ≤ p from a); rw [cn_in f hc] at this; omega
theorem V_inLeague {P Q A y p : Nat} {d : Nat → Nat} {v s : g_St} (hS : SV P Q v s) (hR : RW P A y d s) (hp : p < P) : f_V_isInLeague v (nI p) (nI (dgs 1 (hasb d) P)) = some (if lgf s d p = true then 1 else 0) := by
  obtain ⟨⟨hP, hQ, v0, s0, -⟩, hk, hw, -⟩ := hS
  unfold f_V_isInLeague lgf
  rw [gd_of (vpn (by omega) (by omega)), nIc (by omega), (hk p hp).1]
  by_cases k4 : gr s 1 p = 4
  · rw [if_pos k4, able_bit d hP hp]
    by_cases z : d p = 0
    · rw [hasb_0 z, if_neg (show ¬ nI 0 = 1 by decide), if_neg (by simp [z])]
    · rw [hasb_1 z, if_pos (show nI 1 = 1 from rfl), if_pos (by simp [z, k4])]
  · rw [if_neg k4, if_neg (by simp [k4])]
theorem V_called2 {fu P Q A y : Nat} {d : Nat → Nat} {v s : g_St} (hS : SV P Q v s) (hR : RW P A y d s) {T : Nat} (hT : T < cn (lgf s d) P) : ∀ (k n j : Nat), k + j = P → k < n → cn (lgf s d) j ≤ T → ∃ c, c < P ∧ lgf s d c = true ∧ cn (lgf s d) c = T ∧ f_V_calledOfLeague_L47 fu n v (nI (dgs 1 (hasb d) P)) (nI (T - cn (lgf s d) j)) (nI j) = some (nI c) := by
  have hS' := hS
  obtain ⟨⟨hP, hQ, v0, s0, -⟩, -, -, -⟩ := hS'
  have hle := cn_le (lgf s d) P
  intro k
  induction k with
  | zero => intro n j hk hn hj; rw [show j = P by omega] at hj; omega
  | succ k ih =>
    intro n j hk hn hj
    obtain ⟨m, rfl⟩ : ∃ m, n = m + 1 := ⟨n - 1, by omega⟩
    rw [f_V_calledOfLeague_L47, v0, if_neg (nI_ge (by omega) (by omega)), bd1_eq _ (V_inLeague hS hR (by omega))]
    by_cases z : lgf s d j = true
    · rw [if_pos z, if_neg ne10]
      by_cases t : cn (lgf s d) j = T
      · refine ⟨j, by omega, z, t, ?_⟩
        rw [t, Nat.sub_self, if_pos (show nI 0 = 0 from rfl)]
      · rw [if_neg (nI_ne0 (by omega) (by omega)), lt_lt, lt_lt, nI_1]
        obtain ⟨c, c1, c2, c3, c4⟩ := ih m (j + 1) (by omega) (by omega) (by rw [cn_in _ z]; omega)
        refine ⟨c, c1, c2, c3, ?_⟩
        rw [cn_in _ z] at c4
        rw [show T - cn (lgf s d) j = T - (cn (lgf s d) j + 1) + 1 by omega, pk_m1]
        exact c4
    · rw [if_neg z, if_pos rfl, lt_lt, nI_1]
      have e : cn (lgf s d) (j + 1) = cn (lgf s d) j := if_neg z
      obtain ⟨c, c1, c2, c3, c4⟩ := ih m (j + 1) (by omega) (by omega) (by rw [e]; omega)
      rw [e] at c4
      exact ⟨c, c1, c2, c3, c4⟩
theorem g_rem_N {a b : Nat} (ha : a < 2 ^ 31) (h0 : 0 < b) (hb : b < 2 ^ 31) : g_rem (nI a) (nI b) = nI (a % b) := pk_rem ha h0 hb
theorem V_called1 {fu P Q A y : Nat} {d : Nat → Nat} {v s : g_St} (hfu : 5000 ≤ fu) (hS : SV P Q v s) (hR : RW P A y d s) : ∀ (k n j : Nat), k + j = P → k < n → (cn (lgf s d) P = 0 ∧ f_V_calledOfLeague_L5 fu n v (nI y) (nI (dgs 1 (hasb d) P)) (nI (cn (lgf s d) j)) (nI j) = some (-1)) ∨ (∃ c, c < P ∧ 0 < cn (lgf s d) P ∧ lgf s d c = true ∧ cn (lgf s d) c = y % cn (lgf s d) P ∧ f_V_calledOfLeague_L5 fu n v (nI y) (nI (dgs 1 (hasb d) P)) (nI (cn (lgf s d) j)) (nI j) = some (nI c)) := by
  have hS' := hS
  obtain ⟨⟨hP, hQ, v0, s0, -⟩, -, -, -⟩ := hS'
  have hle := cn_le (lgf s d) P
  have hy := hR.2.2.2.2
  intro k
  induction k with
  | zero =>
    intro n j hk hn
    obtain ⟨m, rfl⟩ : ∃ m, n = m + 1 := ⟨n - 1, by omega⟩
    rw [f_V_calledOfLeague_L5, v0, if_pos (nI_le (by omega) (by omega)), show j = P by omega]
    by_cases z : cn (lgf s d) P = 0
    · exact Or.inl ⟨z, by rw [z, if_pos (show nI 0 = 0 from rfl)]⟩
    · right
      have z2 : ¬ nI (cn (lgf s d) P) = 0 := nI_ne0 (by omega) (by omega)
      rw [if_neg z2, gd_of z2, lt_lt, g_rem_N (by omega) (by omega) (by omega)]
      obtain ⟨c, c1, c2, c3, c4⟩ := V_called2 (fu := fu) hS hR (Nat.mod_lt y (show 0 < cn (lgf s d) P by omega)) P fu 0 (by omega) (by omega) (Nat.zero_le _)
      exact ⟨c, c1, by omega, c2, c3, c4⟩
  | succ k ih =>
    intro n j hk hn
    obtain ⟨m, rfl⟩ : ∃ m, n = m + 1 := ⟨n - 1, by omega⟩
    have e := ih m (j + 1) (by omega) (by omega)
    rw [f_V_calledOfLeague_L5, v0, if_neg (nI_ge (by omega) (by omega)), bd1_eq _ (V_inLeague hS hR (by omega))]
    by_cases z : lgf s d j = true
    · rw [if_pos z, if_neg ne10, lt_lt, lt_lt, nI_1, nI_1]
      rw [cn_in _ z] at e
      exact e
    · rw [if_neg z, if_pos rfl, lt_lt, nI_1]
      rw [show cn (lgf s d) (j + 1) = cn (lgf s d) j from if_neg z] at e
      exact e
theorem cn_min (f : Nat → Bool) (j p : Nat) : cn f (min (j + 1) p) = if f j = true ∧ j < p then cn f (min j p) + 1 else cn f (min j p) := by
  by_cases h : j < p
  · rw [show min (j + 1) p = j + 1 by omega, show min j p = j by omega]
    by_cases z : f j = true
    · rw [if_pos ⟨z, h⟩]; exact if_pos z
    · rw [if_neg (fun q => z q.1)]; exact if_neg z
  · rw [show min (j + 1) p = p by omega, show min j p = p by omega, if_neg (fun q => h q.2)]
theorem M_called {fu P Q A y p : Nat} {d : Nat → Nat} {v s : g_St} (hS : SV P Q v s) (hR : RW P A y d s) (hp : p < P) (hm : lgf s d p = true) : ∀ (k n j : Nat), k + j = P → k < n → f_M_isCalled_L8 fu n s (nI A) (nI p) (nI (cn (lgf s d) j)) (nI (cn (lgf s d) (min j p))) (nI j) = some (if y % cn (lgf s d) P = cn (lgf s d) p then 1 else 0) := by
  obtain ⟨⟨hP, hQ, v0, s0, -⟩, hk, -, -⟩ := hS
  have hA := hR.2.2.1
  have hy := hR.2.2.2.2
  have hle := cn_le (lgf s d) P
  have hpos : 0 < cn (lgf s d) P := by
    have := cn_mono (lgf s d) (show p + 1 ≤ P from hp)
    rw [cn_in _ hm] at this; omega
  intro k
  induction k with
  | zero =>
    intro n j hk hn
    obtain ⟨m, rfl⟩ : ∃ m, n = m + 1 := ⟨n - 1, by omega⟩
    have z2 : ¬ nI (cn (lgf s d) P) = 0 := nI_ne0 (by omega) (by omega)
    have e6 : nI A + 6 = nI (A + 6) := nI_add A 6
    have hlt := Nat.mod_lt y hpos
    have hle2 := cn_le (lgf s d) p
    rw [f_M_isCalled_L8, s0, if_pos (nI_le (by omega) (by omega)), show j = P by omega, show min P p = p by omega, e6, gd_of (vpn (by omega) (by omega)), gd_of z2, nIc (by omega), hR.2.1, g_rem_N (by omega) (by omega) (by omega)]
    by_cases t : y % cn (lgf s d) P = cn (lgf s d) p
    · rw [t, if_pos rfl, if_pos rfl]
    · rw [if_neg t, if_neg (mt (nIeq (by omega) (by omega)).mp t)]
  | succ k ih =>
    intro n j hk' hn
    obtain ⟨m, rfl⟩ : ∃ m, n = m + 1 := ⟨n - 1, by omega⟩
    have e := ih m (j + 1) (by omega) (by omega)
    have hj : j < P := by omega
    have hlj := cn_le (lgf s d) j
    have hlm := cn_le (lgf s d) (min j p)
    -- not in the league
    have no : ∀ z : lgf s d j = false, f_M_isCalled_L45 fu (f_M_isCalled_L8 fu m) s (nI A) (nI p) (nI (cn (lgf s d) j)) (nI (cn (lgf s d) (min j p))) (nI j) 0 = some (if y % cn (lgf s d) P = cn (lgf s d) p then 1 else 0) := fun z => by
      have z' : ¬ lgf s d j = true := by rw [z]; decide
      rw [f_M_isCalled_L45, if_pos rfl, f_M_isCalled_L65]
      simp only [lt_lt]
      rw [if_pos trivial, Int32.add_zero, Int32.add_zero, nI_1]
      rw [show cn (lgf s d) (j + 1) = cn (lgf s d) j from if_neg z', cn_min, if_neg (fun q => z' q.1)] at e
      exact e
    have yes : ∀ z : lgf s d j = true, f_M_isCalled_L45 fu (f_M_isCalled_L8 fu m) s (nI A) (nI p) (nI (cn (lgf s d) j)) (nI (cn (lgf s d) (min j p))) (nI j) 1 = some (if y % cn (lgf s d) P = cn (lgf s d) p then 1 else 0) := fun z => by
      rw [cn_in _ z, cn_min] at e
      rw [f_M_isCalled_L45, if_neg ne10]
      by_cases t : p ≤ j
      · rw [if_pos (nI_le t (by omega)), f_M_isCalled_L65]
        simp only [lt_lt]
        rw [if_neg ne10, Int32.add_zero, nI_1, nI_1]
        rw [if_neg (fun q => by omega)] at e
        exact e
      · rw [if_neg (nI_ge (by omega) (by omega)), f_M_isCalled_L65]
        simp only [lt_lt]
        rw [if_neg ne10, nI_1, nI_1, nI_1]
        rw [if_pos ⟨z, by omega⟩] at e
        exact e
    rw [f_M_isCalled_L8, s0, if_neg (nI_ge (by omega) (by omega)), gd_of (vpn (by omega) (by omega)), nIc (by omega), nI_add A j, gd_of (vpn (by omega) (by omega)), nIc (by omega), (hR.1 j hj).1]
    by_cases k4 : gr s 1 j = 4
    · rw [if_pos k4]
      by_cases z : d j = 0
      · rw [z, if_pos (show nI 0 ≤ 0 by decide)]
        exact no (by unfold lgf; simp [z])
      · rw [if_neg (nI_nle (by omega) (by have := (hR.1 j hj).2; omega))]
        exact yes (by unfold lgf; simp [z, k4])
    · rw [if_neg k4]
      exact no (by unfold lgf; simp [k4])
