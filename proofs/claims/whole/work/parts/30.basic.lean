/-! THE MATHEMATICS. First: how states are read, numbers in a range, the small questions. -/
theorem gi_si (s : g_St) (k : Nat) (v : Int32) (j : Nat) : gi (si s k v) j = if j = k then v else gi s j := rfl
theorem gi_sj (s : g_St) (k : Nat) (v : Int64) (j : Nat) : gi (sj s k v) j = gi s j := rfl
theorem gi_sra (s : g_St) (k : Nat) (f : Nat → Int32) (j : Nat) : gi (sra s k f) j = gi s j := rfl
theorem gi_sta (s : g_St) (k : Nat) (f : Nat → Int64) (j : Nat) : gi (sta s k f) j = gi s j := rfl
theorem gi_sr (s : g_St) (k : Nat) (i x : Int32) (j : Nat) : gi (sr s k i x) j = gi s j := rfl
theorem gj_si (s : g_St) (k : Nat) (v : Int32) (j : Nat) : gj (si s k v) j = gj s j := rfl
theorem gj_sj (s : g_St) (k : Nat) (v : Int64) (j : Nat) : gj (sj s k v) j = if j = k then v else gj s j := rfl
theorem gj_sr (s : g_St) (k : Nat) (i x : Int32) (j : Nat) : gj (sr s k i x) j = gj s j := rfl
theorem gr_si (s : g_St) (k : Nat) (v : Int32) (j : Nat) : gr (si s k v) j = gr s j := rfl
theorem gr_sj (s : g_St) (k : Nat) (v : Int64) (j : Nat) : gr (sj s k v) j = gr s j := rfl
theorem gr_sra (s : g_St) (k : Nat) (f : Nat → Int32) (j : Nat) : gr (sra s k f) j = if j = k then f else gr s j := rfl
theorem gr_sta (s : g_St) (k : Nat) (f : Nat → Int64) (j : Nat) : gr (sta s k f) j = gr s j := rfl
theorem gr_sr (s : g_St) (k : Nat) (i x : Int32) (j : Nat) : gr (sr s k i x) j = if j = k then upd (gr s k) i.toNatClampNeg x else gr s j := rfl
theorem gt_si (s : g_St) (k : Nat) (v : Int32) (j : Nat) : gt (si s k v) j = gt s j := rfl
theorem gt_sr (s : g_St) (k : Nat) (i x : Int32) (j : Nat) : gt (sr s k i x) j = gt s j := rfl
theorem gt_st (s : g_St) (k : Nat) (i : Int32) (x : Int64) (j : Nat) : gt (st s k i x) j = if j = k then vp_updL (gt s k) i.toNatClampNeg x else gt s j := rfl
theorem upd_at (f : Nat → Int32) (k : Nat) (x : Int32) (j : Nat) : upd f k x j = if j = k then x else f j := rfl
theorem lt_lt {α γ : Type} (x : α) (k : α → γ) : lt x k = k x := rfl
theorem bd1_eq {α γ : Type} {m : Option α} {x : α} (k : α → Option γ) (h : m = some x) : bd1 m k = k x := by rw [h]; rfl
theorem bd2_eq {α β γ : Type} {m : Option (α × β)} {x : α} {y : β} (k : α → β → Option γ) (h : m = some (x, y)) : bd2 m k = k x y := by rw [h]; rfl
theorem bd3_eq {α β δ γ : Type} {m : Option (α × β × δ)} {x : α} {y : β} {z : δ} (k : α → β → δ → Option γ) (h : m = some (x, y, z)) : bd3 m k = k x y z := by rw [h]; rfl
/-- places -/
theorem vpn {n N : Nat} (h : n < N) (hN : N ≤ 4096) : vp_in (nI n) N := vp_in_nI h (by omega)
theorem nIc {n : Nat} (h : n ≤ 4096) : (nI n).toNatClampNeg = n := nI_clamp (by omega)
theorem nIle {a b : Nat} (ha : a ≤ 4096) (hb : b ≤ 4096) : nI a ≤ nI b ↔ a ≤ b := nI_leI (by omega) (by omega)
theorem nIlt {a b : Nat} (ha : a ≤ 4096) (hb : b ≤ 4096) : nI a < nI b ↔ a < b := nI_ltI (by omega) (by omega)
theorem nIeq {a b : Nat} (ha : a ≤ 4096) (hb : b ≤ 4096) : nI a = nI b ↔ a = b := nI_eq (by omega) (by omega)
theorem nI_lit0 : (0 : Int32) = nI 0 := rfl
theorem nI_lit1 : (1 : Int32) = nI 1 := rfl
theorem nI_lit6 : (6 : Int32) = nI 6 := rfl
theorem within_in (x l h : Int32) : f_S_within x l h = f_S_in x l h := rfl
theorem in_cases (x l h : Int32) : (f_S_in x l h = 1 ∧ ¬ x < l ∧ ¬ h < x) ∨ (f_S_in x l h = 0 ∧ (x < l ∨ h < x)) := by
  unfold f_S_in
  by_cases a : x < l
  · rw [if_pos a]; exact Or.inr ⟨rfl, Or.inl a⟩
  · rw [if_neg a]
    by_cases b : h < x
    · rw [if_pos b]; exact Or.inr ⟨rfl, Or.inr b⟩
    · rw [if_neg b]; exact Or.inl ⟨rfl, a, b⟩
/-- a number from 0 to n, or not -/
theorem in_0 (x : Int32) (n : Nat) (hn : n ≤ 4096) : (f_S_in x 0 (nI n) = 1 ∧ ∃ j, j ≤ n ∧ x = nI j) ∨ (f_S_in x 0 (nI n) = 0) := by
  rcases in_cases x 0 (nI n) with ⟨h, a, b⟩ | ⟨h, -⟩
  · left
    obtain ⟨j, hj, rfl⟩ := nI_of a
    refine ⟨h, j, ?_, rfl⟩
    have := mt (nI_ltI (a := n) (b := j) (by omega) hj).mpr b
    omega
  · exact Or.inr h
theorem nI_pred' (P : Nat) (hP : P ≤ 4096) : (nI P - 1).toInt = (P : Int) - 1 := by
  rcases P with - | n
  · rfl
  · rw [nI_pred, nI_toInt (by omega)]; omega
/-- a place among P, or not: as the reference asks -/
theorem in_P (x : Int32) (P : Nat) (hP : P ≤ 4096) : (f_S_in x 0 (nI P - 1) = 1 ∧ ∃ j, j < P ∧ x = nI j) ∨ (f_S_in x 0 (nI P - 1) = 0 ∧ (x < 0 ∨ nI P ≤ x)) := by
  rcases in_cases x 0 (nI P - 1) with ⟨h, a, b⟩ | ⟨h, a⟩
  · left
    obtain ⟨j, hj, rfl⟩ := nI_of a
    refine ⟨h, j, ?_, rfl⟩
    rw [Int32.lt_iff_toInt_lt, nI_pred' P hP, nI_toInt hj] at b
    omega
  · refine Or.inr ⟨h, ?_⟩
    rcases a with a | a
    · exact Or.inl a
    · right
      rw [Int32.lt_iff_toInt_lt, nI_pred' P hP] at a
      rw [Int32.le_iff_toInt_le, nI_toInt (by omega)]
      omega
theorem lt0_of {x : Int32} {P : Nat} (h : x < 0 ∨ nI P ≤ x) : (x < 0) ∨ (¬ x < 0 ∧ nI P ≤ x) := by
  by_cases a : x < 0
  · exact Or.inl a
  · rcases h with h | h
    · exact absurd h a
    · exact Or.inr ⟨a, h⟩
theorem O_isPerson_1 {v : g_St} {P p : Nat} (h : gi v 0 = nI P) (hP : P ≤ 4096) (hp : p < P) : f_O_isPerson v (nI p) = 1 := by
  unfold f_O_isPerson
  rw [if_neg (nI_pos (by omega)), h, if_neg (nI_ge hp (by omega))]
theorem O_isPerson_0 {v : g_St} {P : Nat} {x : Int32} (h : gi v 0 = nI P) (hx : x < 0 ∨ nI P ≤ x) : f_O_isPerson v x = 0 := by
  unfold f_O_isPerson
  rcases lt0_of hx with a | ⟨a, b⟩
  · rw [if_pos a]
  · rw [if_neg a, h, if_pos b]
theorem O_isProposal_1 {v : g_St} {P p : Nat} (h : gi v 6 = nI P) (hP : P ≤ 4096) (hp : p < P) : f_O_isProposal v (nI p) = 1 := by
  unfold f_O_isProposal
  rw [if_neg (nI_pos (by omega)), h, if_neg (nI_ge hp (by omega))]
theorem O_isProposal_0 {v : g_St} {P : Nat} {x : Int32} (h : gi v 6 = nI P) (hx : x < 0 ∨ nI P ≤ x) : f_O_isProposal v x = 0 := by
  unfold f_O_isProposal
  rcases lt0_of hx with a | ⟨a, b⟩
  · rw [if_pos a]
  · rw [if_neg a, h, if_pos b]
/-- a person's number for both, or for none -/
theorem person_or {v s : g_St} {P : Nat} (hv : gi v 0 = nI P) (hs : gi s 0 = nI P) (hP : P ≤ 4096) (x : Int32) : (∃ p, p < P ∧ x = nI p ∧ f_O_isPerson v x = 1 ∧ f_M_isPerson s x = 1) ∨ (f_O_isPerson v x = 0 ∧ f_M_isPerson s x = 0) := by
  have e : f_M_isPerson s x = f_S_in x 0 (nI P - 1) := by unfold f_M_isPerson; rw [hs]
  rcases in_P x P hP with ⟨h, p, hp, rfl⟩ | ⟨h, a⟩
  · exact Or.inl ⟨p, hp, rfl, O_isPerson_1 hv hP hp, e.trans h⟩
  · exact Or.inr ⟨O_isPerson_0 hv a, e.trans h⟩
theorem proposal_or {v s : g_St} {P : Nat} (hv : gi v 6 = nI P) (hs : gi s 5 = nI P) (hP : P ≤ 4096) (x : Int32) : (∃ p, p < P ∧ x = nI p ∧ f_O_isProposal v x = 1 ∧ f_M_isProposal s x = 1) ∨ (f_O_isProposal v x = 0 ∧ f_M_isProposal s x = 0) := by
  have e : f_M_isProposal s x = f_S_in x 0 (nI P - 1) := by unfold f_M_isProposal; rw [hs]
  rcases in_P x P hP with ⟨h, p, hp, rfl⟩ | ⟨h, a⟩
  · exact Or.inl ⟨p, hp, rfl, O_isProposal_1 hv hP hp, e.trans h⟩
  · exact Or.inr ⟨O_isProposal_0 hv a, e.trans h⟩
theorem ne10 : ¬ (1 : Int32) = 0 := by decide
/-- what both know of a village that a year doesn't change -/
def SV (P Q : Nat) (v s : g_St) : Prop :=
  (P ≤ 6 ∧ Q ≤ 8 ∧ gi v 0 = nI P ∧ gi s 0 = nI P ∧ gi v 6 = nI Q ∧ gi s 5 = nI Q) ∧
  (∀ p, p < P → gr v 1 p = gr s 1 p ∧ gr v 2 p = gr s 2 p ∧ gr v 3 p = gr s 3 p ∧ (∃ k, k ≤ 5 ∧ gr s 1 p = nI k) ∧ (∃ a, a ≤ 255 ∧ gr s 2 p = nI a)) ∧
  (∀ q, q < Q → gr v 7 q = gr s 6 q ∧ (∃ w, w ≤ 9 ∧ gr s 6 q = nI w) ∧ ∀ p, p < P → gr v (20 + q) p = gr s 7 (6 * q + p) ∧ -9 ≤ (gr s 7 (6 * q + p)).toInt ∧ (gr s 7 (6 * q + p)).toInt ≤ 9) ∧
  (gr v 9 0 = gr s 8 0 ∧ gr v 9 1 = gr s 8 1 ∧ gr v 9 2 = gr s 8 2 ∧ (∃ n, 1 ≤ n ∧ n ≤ 3 ∧ gr s 8 0 = nI n) ∧ (∃ t, t ≤ 1 ∧ gr s 8 1 = nI t) ∧ (∃ g, g ≤ 20 ∧ gr s 8 2 = nI g))
/-- the whole village -/
def RV (P Q : Nat) (v s : g_St) : Prop :=
  SV P Q v s ∧ (∀ p, p < P → gr v 4 p = gr s 11 p ∧ gr v 5 p = gr s 4 p ∧ ∃ o, o ≤ 9 ∧ gr s 11 p = nI o) ∧
  (gr v 9 3 = gr s 11 6 ∧ ∃ y, 1 ≤ y ∧ y ≤ 999 ∧ gr s 11 6 = nI y) ∧ (gi v 10 = gi s 14 ∧ gi v 11 = gi s 12 ∧ gi v 12 = gi s 13)
/-- the reference's rows that never change, and who says it by himself: nobody -/
def RC (s : g_St) : Prop := gr s 9 0 = 1 ∧ gr s 9 1 = 0 ∧ gr s 9 2 = 0 ∧ gr s 10 0 = 3 ∧ gr s 10 1 = 1 ∧ gr s 10 2 = 20 ∧ gi s 29 = -1
