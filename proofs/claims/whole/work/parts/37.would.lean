/-! Who would say no: all of them. -/
/-- whom the league calls -/
def CL (P y : Nat) (s : g_St) (d : Nat → Nat) (c : Int32) : Prop := (cn (lgf s d) P = 0 ∧ c = -1) ∨ (∃ i, i < P ∧ 0 < cn (lgf s d) P ∧ lgf s d i = true ∧ cn (lgf s d) i = y % cn (lgf s d) P ∧ c = nI i)
theorem V_called {fu P Q A y : Nat} {d : Nat → Nat} {v s : g_St} (hfu : 5000 ≤ fu) (hS : SV P Q v s) (hR : RW P A y d s) : ∃ c, f_V_calledOfLeague fu v (nI y) (nI (dgs 1 (hasb d) P)) = some c ∧ CL P y s d c := by
  have hP := hS.1.1
  rcases V_called1 hfu hS hR P fu 0 (by omega) (by omega) with ⟨a, b⟩ | ⟨c, a, b, e, f, g⟩
  · exact ⟨-1, b, Or.inl ⟨a, rfl⟩⟩
  · exact ⟨nI c, g, Or.inr ⟨c, a, b, e, f, rfl⟩⟩
theorem W_one {fu P Q A y q p : Nat} {d : Nat → Nat} {v s : g_St} {c : Int32} (hfu : 5000 ≤ fu) (hS : SV P Q v s) (hR : RW P A y d s) (hC : CL P y s d c) (hq : q < Q) (hp : p < P) (hd : ¬ d p = 0) : ∃ r, r ≤ 1 ∧ f_V_dislikes fu v (nI q) (nI p) (nI (dgs 1 (hasb d) P)) c = some (nI r) ∧ f_M_wouldBy fu s (nI A) (nI q) (nI p) = some (nI r) := by
  have hS' := hS
  obtain ⟨⟨hP, hQ, v0, s0, -⟩, hk, hw, -⟩ := hS'
  have hA := hR.2.2.1
  have w := ((hw q hq).2.2 p hp).1
  obtain ⟨k1, k2, -, -, a, ha, ka⟩ := hk p hp
  unfold f_V_dislikes f_M_wouldBy
  rw [nI_add A p, gd_of (vpn (n := A + p) (by omega) (by omega)), nIc (show A + p ≤ 4096 by omega), (hR.1 p hp).1, if_neg (nI_ne0 (by omega) (by have := (hR.1 p hp).2; omega)), bd1_eq _ (M_worthTo (by omega) (by omega))]
  simp only [gd_of (vpn (show q < 8 by omega) (show 8 ≤ 4096 by omega)), gd_of (vpn (show p < 6 by omega) (show 6 ≤ 4096 by omega)), lt_lt, nIc (show q ≤ 4096 by omega), nIc (show p ≤ 4096 by omega), w, k1, k2]
  by_cases c1 : gr s 1 p = 1
  · rw [if_pos c1, if_pos c1]
    by_cases z : 0 ≤ gr s 7 (6 * q + p)
    · rw [if_pos z]; exact ⟨0, by omega, rfl, rfl⟩
    · rw [if_neg z]; exact ⟨1, by omega, rfl, rfl⟩
  rw [if_neg c1, if_neg c1]
  by_cases c2 : gr s 1 p = 2
  · rw [if_pos c2, if_pos c2]
    by_cases z : -gr s 2 p ≤ gr s 7 (6 * q + p)
    · rw [if_pos z]; exact ⟨0, by omega, rfl, rfl⟩
    · rw [if_neg z]; exact ⟨1, by omega, rfl, rfl⟩
  rw [if_neg c2, if_neg c2]
  by_cases c3 : gr s 1 p = 3
  · rw [if_pos c3, if_pos c3]
    by_cases z : -gr s 2 p ≤ gr s 7 (6 * q + p)
    · rw [if_pos z, if_pos z]; exact ⟨0, by omega, rfl, rfl⟩
    · rw [if_neg z, if_neg z]
      obtain ⟨r, r', e1, e2, e3⟩ := W_low (fu := fu) hS hR hq hp P fu 0 (by omega) (by omega)
      have e1' : f_V_hasWorseOff fu v (nI q) (nI p) (nI (dgs 1 (hasb d) P)) = some r := e1
      have e2' : f_M_isLow fu s (nI A) (nI q) (nI p) = some r' := by
        unfold f_M_isLow
        rw [bd1_eq _ (M_worthTo (by omega) (by omega))]; exact e2
      rw [bd1_eq _ e1', bd1_eq _ e2']
      rcases e3 with ⟨rfl, rfl⟩ | ⟨rfl, rfl⟩
      · exact ⟨1, by omega, rfl, rfl⟩
      · exact ⟨0, by omega, rfl, rfl⟩
  rw [if_neg c3, if_neg c3]
  by_cases c4 : gr s 1 p = 4
  · rw [if_pos c4, if_pos c4]
    by_cases z : 0 ≤ gr s 7 (6 * q + p)
    · rw [if_pos z, if_pos z]; exact ⟨0, by omega, rfl, rfl⟩
    · rw [if_neg z, if_neg z]
      have hm : lgf s d p = true := by unfold lgf; simp [hd, c4]
      have e2 : f_M_isCalled fu s (nI A) (nI p) = some (if y % cn (lgf s d) P = cn (lgf s d) p then 1 else 0) := by
        have e := M_called (fu := fu) hS hR hp hm P fu 0 (by omega) (by omega)
        rw [show min 0 p = 0 by omega] at e
        exact e
      have hpos : 0 < cn (lgf s d) P := by
        have := cn_mono (lgf s d) (show p + 1 ≤ P from hp)
        rw [cn_in _ hm] at this; omega
      rw [bd1_eq _ e2]
      rcases hC with ⟨a, -⟩ | ⟨i, hi, -, i2, i3, rfl⟩
      · omega
      · by_cases t : p = i
        · have u : y % cn (lgf s d) P = cn (lgf s d) p := by rw [t]; exact i3.symm
          rw [if_pos (show nI p = nI i by rw [t]), show (if y % cn (lgf s d) P = cn (lgf s d) p then (1 : Int32) else 0) = 1 from if_pos u, if_neg ne10]
          exact ⟨1, by omega, rfl, rfl⟩
        · have u : ¬ y % cn (lgf s d) P = cn (lgf s d) p := fun q => t (cn_inj _ hm i2 (q.symm.trans i3.symm))
          rw [if_neg (mt (nIeq (by omega) (by omega)).mp t), show (if y % cn (lgf s d) P = cn (lgf s d) p then (1 : Int32) else 0) = 0 from if_neg u, if_pos rfl]
          exact ⟨0, by omega, rfl, rfl⟩
  rw [if_neg c4, if_neg c4]
  by_cases c5 : gr s 1 p = 5
  · rw [if_pos c5, if_pos c5, ka, bit_u2 (by omega) (by omega), bit_shr (by omega) (by omega)]
    by_cases z : nI (a / 2 ^ q % 2) = 1
    · rw [if_pos z]; exact ⟨1, by omega, rfl, rfl⟩
    · rw [if_neg z]; exact ⟨0, by omega, rfl, rfl⟩
  rw [if_neg c5, if_neg c5]
  exact ⟨0, by omega, rfl, rfl⟩
/-- who would, as a digit a person; the self of the reference is set aside -/
theorem W_fold {fu P Q A y q : Nat} {d : Nat → Nat} {v s : g_St} {c : Int32} (hfu : 5000 ≤ fu) (hS : SV P Q v s) (hR : RW P A y d s) (hC : CL P y s d c) (hq : q < Q) : ∃ b : Nat → Nat, (∀ p, p < P → b p ≤ 1 ∧ (d p = 0 → b p = 0)) ∧ (∀ p, p < P → f_M_wouldBy fu s (nI A) (nI q) (nI p) = some (nI (b p))) ∧ ∀ (k n j : Nat), k + j = P → k < n → f_V_whoWould_L22 fu n v (nI q) (nI (dgs 1 (hasb d) P)) c (nI (dgs 1 b j)) (nI j) = some (nI (dgs 1 b P)) := by
  have hS' := hS
  obtain ⟨⟨hP, hQ, v0, s0, -⟩, hk, hw, -⟩ := hS'
  have hA := hR.2.2.1
  have one : ∀ p, p < P → ∃ r, r ≤ 1 ∧ (d p = 0 → r = 0) ∧ f_M_wouldBy fu s (nI A) (nI q) (nI p) = some (nI r) ∧ (¬ d p = 0 → f_V_dislikes fu v (nI q) (nI p) (nI (dgs 1 (hasb d) P)) c = some (nI r)) := fun p hp => by
    by_cases z : d p = 0
    · refine ⟨0, by omega, fun _ => rfl, ?_, fun h => absurd z h⟩
      unfold f_M_wouldBy
      rw [nI_add A p, gd_of (vpn (n := A + p) (by omega) (by omega)), nIc (show A + p ≤ 4096 by omega), (hR.1 p hp).1, z, if_pos (show nI 0 = 0 from rfl)]; rfl
    · obtain ⟨r, h1, h2, h3⟩ := W_one hfu hS hR hC hq hp z
      exact ⟨r, h1, fun h => absurd h z, h3, fun _ => h2⟩
  let b : Nat → Nat := fun p => if h : p < P then Classical.choose (one p h) else 0
  have hb : ∀ p, p < P → b p ≤ 1 ∧ (d p = 0 → b p = 0) ∧ f_M_wouldBy fu s (nI A) (nI q) (nI p) = some (nI (b p)) ∧ (¬ d p = 0 → f_V_dislikes fu v (nI q) (nI p) (nI (dgs 1 (hasb d) P)) c = some (nI (b p))) := fun p hp => by
    have e : b p = Classical.choose (one p hp) := dif_pos hp
    rw [e]
    exact Classical.choose_spec (one p hp)
  refine ⟨b, fun p hp => ⟨(hb p hp).1, (hb p hp).2.1⟩, fun p hp => (hb p hp).2.2.1, ?_⟩
  have hb1 : ∀ p, p < P → b p < 2 ^ 1 := fun p hp => by have := (hb p hp).1; omega
  intro k
  induction k with
  | zero =>
    intro n j hk hn
    obtain ⟨m, rfl⟩ : ∃ m, n = m + 1 := ⟨n - 1, by omega⟩
    rw [f_V_whoWould_L22, v0, if_pos (nI_le (by omega) (by omega)), show j = P by omega]
  | succ k ih =>
    intro n j hk' hn
    obtain ⟨m, rfl⟩ : ∃ m, n = m + 1 := ⟨n - 1, by omega⟩
    have e := ih m (j + 1) (by omega) (by omega)
    have hj : j < P := by omega
    have ed : dgs 1 b (j + 1) = dgs 1 b j + b j * 2 ^ (1 * j) := rfl
    rw [f_V_whoWould_L22, v0, if_neg (nI_ge (by omega) (by omega)), nI_1]
    simp only [lt_lt]
    rw [able_bit d hP hj]
    by_cases z : d j = 0
    · rw [hasb_0 z, if_neg (show ¬ nI 0 = 1 by decide)]
      rw [ed, (hb j hj).2.1 z, Nat.zero_mul, Nat.add_zero] at e
      exact e
    · rw [hasb_1 z, if_pos (show nI 1 = 1 from rfl), bd1_eq _ ((hb j hj).2.2.2 z)]
      rcases (show b j = 0 ∨ b j = 1 by have := (hb j hj).1; omega) with y0 | y1
      · rw [y0, if_pos (show nI 0 = 0 from rfl)]
        rw [ed, y0, Nat.zero_mul, Nat.add_zero] at e
        exact e
      · rw [y1, if_neg (show ¬ nI 1 = 0 by decide)]
        have a := dgs_lt 1 b j (fun p hp => hb1 p (by omega))
        have a2 : 2 ^ (1 * j) ≤ 2 ^ 6 := Nat.pow_le_pow_right (by omega) (by omega)
        rw [Nat.one_mul] at a a2 ed
        rw [show (1 : Int32) = nI 1 from rfl, shl_N (by omega) (by omega), or_add a (by omega)]
        rw [ed, y1] at e
        exact e
