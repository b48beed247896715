/-! Somebody says it or not, as is best: one year. -/
theorem F_ext : ∀ m n : Fin 64, (∀ p : Fin 6, bt m.val p.val = bt n.val p.val) → m.val = n.val := by decide +kernel
noncomputable def mwy (fu P : Nat) (v : g_St) (q y : Nat) (d : Nat → Nat) : Nat := match f_V_whoWould fu v (nI q) (nI y) (nI (dgs 4 d P)) with
  | some r => r.toNatClampNeg
  | none => 0
noncomputable def sy (fu : Nat) (v : g_St) (x : Nat) : Nat := match f_V_sayersOf fu v (nI x) with
  | some r => r.toNatClampNeg
  | none => 0
theorem sy_of {fu x R : Nat} {v : g_St} (hR : R < 64) (h : f_V_sayersOf fu v (nI x) = some (nI R)) : sy fu v x = R := by
  unfold sy
  rw [h]
  exact nIc (by omega)
/-- who would, with a person or without -/
noncomputable def mS (fu P : Nat) (v : g_St) (p q y : Nat) (d : Nat → Nat) (says : Nat) : Nat := if says = 1 ∧ ¬ d p = 0 then ins (mwy fu P v q y d) p else clr (mwy fu P v q y d) p
noncomputable def rS (fu P : Nat) (v : g_St) (p q y : Nat) (d : Nat → Nat) (says : Nat) : Nat := sy fu v (mS fu P v p q y d says)
theorem mwy_spec {fu P Q A q y : Nat} {v s : g_St} {d : Nat → Nat} (hfu : 5000 ≤ fu) (hS : SV P Q v s) (hR : RW P A y d s) (hq : q < Q) : ∃ b : Nat → Nat, (∀ p, p < P → b p ≤ 1 ∧ (d p = 0 → b p = 0)) ∧ (∀ p, p < P → f_M_wouldBy fu s (nI A) (nI q) (nI p) = some (nI (b p))) ∧ mwy fu P v q y d = dgs 1 b P ∧ f_V_whoWould fu v (nI q) (nI y) (nI (dgs 4 d P)) = some (nI (mwy fu P v q y d)) := by
  obtain ⟨b, b1, b2, b3⟩ := W_would hfu hS hR hq
  have l := dgs1_lt hS.1.1 (fun p hp => (b1 p hp).1)
  have e : mwy fu P v q y d = dgs 1 b P := by
    unfold mwy
    rw [b3]
    exact nIc (by omega)
  rw [e]
  exact ⟨b, b1, b2, rfl, b3⟩
/-- the sets, with him or without -/
theorem mS_spec {fu P Q A q y p says : Nat} {v s : g_St} {d : Nat → Nat} (hfu : 5000 ≤ fu) (hS : SV P Q v s) (hR : RW P A y d s) (hq : q < Q) (hp : p < P) : mS fu P v p q y d says < 64 ∧ (∀ x, x < P → bt (mS fu P v p q y d says) x = 1 → 1 ≤ d x) ∧ (∀ x, P ≤ x → x < 6 → bt (mS fu P v p q y d says) x = 0) := by
  obtain ⟨b, b1, -, e, -⟩ := mwy_spec hfu hS hR hq
  have hP := hS.1.1
  have hb : ∀ p, p < P → b p ≤ 1 := fun p hp => (b1 p hp).1
  have l := dgs1_lt hP hb
  have one : ∀ x, x < P → bt (mwy fu P v q y d) x = 1 → 1 ≤ d x := fun x hx h => by
    rw [e, bt_dgs hb hx] at h
    rcases Nat.eq_zero_or_pos (d x) with z | z
    · have := (b1 x hx).2 z; omega
    · exact z
  have out : ∀ x, P ≤ x → bt (mwy fu P v q y d) x = 0 := fun x hx => by rw [e]; exact bt_dgs0 hb hx
  have lm : mwy fu P v q y d < 64 := by rw [e]; exact l
  have f1 := F_lt ⟨mwy fu P v q y d, lm⟩ ⟨p, by omega⟩
  have f1' : ins (mwy fu P v q y d) p < 64 ∧ clr (mwy fu P v q y d) p ≤ mwy fu P v q y d := f1
  unfold mS
  by_cases c : says = 1 ∧ ¬ d p = 0
  · rw [if_pos c]
    refine ⟨f1'.1, fun x hx h => ?_, fun x h1 h2 => ?_⟩
    · have k : bt (ins (mwy fu P v q y d) p) x = if x = p then 1 else bt (mwy fu P v q y d) x := F_ib ⟨mwy fu P v q y d, lm⟩ ⟨p, by omega⟩ ⟨x, by omega⟩
      by_cases z : x = p
      · rw [z]; omega
      · rw [k, if_neg z] at h; exact one x hx h
    · have k : bt (ins (mwy fu P v q y d) p) x = if x = p then 1 else bt (mwy fu P v q y d) x := F_ib ⟨mwy fu P v q y d, lm⟩ ⟨p, by omega⟩ ⟨x, by omega⟩
      rw [k, if_neg (by omega)]; exact out x h1
  · rw [if_neg c]
    refine ⟨by omega, fun x hx h => ?_, fun x h1 h2 => ?_⟩
    · have k : bt (clr (mwy fu P v q y d) p) x = if x = p then 0 else bt (mwy fu P v q y d) x := F_cb ⟨mwy fu P v q y d, lm⟩ ⟨p, by omega⟩ ⟨x, by omega⟩
      rw [k] at h
      by_cases z : x = p
      · rw [if_pos z] at h; omega
      · rw [if_neg z] at h; exact one x hx h
    · have k : bt (clr (mwy fu P v q y d) p) x = if x = p then 0 else bt (mwy fu P v q y d) x := F_cb ⟨mwy fu P v q y d, lm⟩ ⟨p, by omega⟩ ⟨x, by omega⟩
      rw [k, if_neg (by omega)]; exact out x h1
/-- those who say no then, for the class -/
theorem rS_spec {fu P Q A q y p says : Nat} {v s : g_St} {d : Nat → Nat} (hfu : 5000 ≤ fu) (hS : SV P Q v s) (hR : RW P A y d s) (hq : q < Q) (hp : p < P) : rS fu P v p q y d says < 64 ∧ (∀ x, x < P → bt (rS fu P v p q y d says) x = 1 → 1 ≤ d x) ∧ f_V_sayersOf fu v (nI (mS fu P v p q y d says)) = some (nI (rS fu P v p q y d says)) ∧ (if gr s 8 (1 : Int32).toNatClampNeg = 0 then some (nI (mS fu P v p q y d says)) else f_M_saySet_L24 fu fu s (nI (mS fu P v p q y d says)) 0 0) = some (nI (rS fu P v p q y d says)) := by
  have hP := hS.1.1
  obtain ⟨m1, m2, m3⟩ := mS_spec (says := says) hfu hS hR hq hp
  obtain ⟨R, R1, R2, R3, R4⟩ := W_say hfu hS m1 m3
  have e : rS fu P v p q y d says = R := sy_of R1 R3
  rw [e]
  exact ⟨R1, fun x hx h => m2 x hx (R2 x (by omega) h), R3, R4⟩
/-- the reference's set, when somebody is set aside -/
theorem M_setaside {fu P Q A q y p says : Nat} {v s : g_St} {d : Nat → Nat} (hfu : 5000 ≤ fu) (hS : SV P Q v s) (hR : RW P A y d s) (hq : q < Q) (hp : p < P) (hsy : says ≤ 1) (h29 : gi s 29 = nI p) (h30 : gi s 30 = nI says) : f_M_wouldSet fu s (nI A) (nI q) = some (nI (mS fu P v p q y d says)) := by
  obtain ⟨b, b1, b2, e, -⟩ := mwy_spec hfu hS hR hq
  have hP := hS.1.1
  have hb : ∀ p, p < P → b p ≤ 1 := fun p hp => (b1 p hp).1
  have l := dgs1_lt hP hb
  have lm : mwy fu P v q y d < 64 := by rw [e]; exact l
  have hs : ∀ x, x < P → sfb s d b x ≤ 1 := fun x hx => by
    unfold sfb
    split
    · split
      · split <;> omega
      · omega
    · exact hb x hx
  have m := M_would hfu hS hR b1 b2
  have ls := dgs1_lt hP hs
  obtain ⟨n1, -, n3⟩ := mS_spec (says := says) hfu hS hR hq hp
  have ex : dgs 1 (sfb s d b) P = mS fu P v p q y d says := F_ext ⟨_, ls⟩ ⟨_, n1⟩ (fun x => by
    have k1 : bt (ins (mwy fu P v q y d) p) x.val = if x.val = p then 1 else bt (mwy fu P v q y d) x.val := F_ib ⟨mwy fu P v q y d, lm⟩ ⟨p, by omega⟩ x
    have k2 : bt (clr (mwy fu P v q y d) p) x.val = if x.val = p then 0 else bt (mwy fu P v q y d) x.val := F_cb ⟨mwy fu P v q y d, lm⟩ ⟨p, by omega⟩ x
    show bt (dgs 1 (sfb s d b) P) x.val = bt (mS fu P v p q y d says) x.val
    by_cases hx : x.val < P
    · rw [bt_dgs hs hx]
      unfold sfb mS
      rw [h29, h30]
      by_cases z : x.val = p
      · rw [if_pos (show nI x.val = nI p by rw [z])]
        by_cases o : says = 1
        · rw [if_pos (show nI says = 1 by rw [o]; rfl)]
          by_cases d0 : d p = 0
          · rw [if_pos (by rw [z]; exact d0), if_neg (fun t => t.2 d0), k2, if_pos z]
          · rw [if_neg (by rw [z]; exact d0), if_pos ⟨o, d0⟩, k1, if_pos z]
        · rw [if_neg (show ¬ nI says = (1 : Int32) from fun t => o ((nIeq (b := 1) (by omega) (by omega)).mp t)), if_neg (fun t => o t.1), k2, if_pos z]
      · rw [if_neg (fun t => z ((nIeq (by omega) (by omega)).mp t))]
        have eb : bt (mwy fu P v q y d) x.val = b x.val := by rw [e, bt_dgs hb hx]
        by_cases c : says = 1 ∧ ¬ d p = 0
        · rw [if_pos c, k1, if_neg z, eb]
        · rw [if_neg c, k2, if_neg z, eb]
    · rw [bt_dgs0 hs (by omega), n3 x.val (by omega) x.isLt])
  rw [ex] at m
  exact m
/-- what he has of a year -/
def hsv (s : g_St) (p q : Nat) (F : Int32) : Int64 := if F = 0 then (gr s 7 (6 * q + p)).toInt64 else 0
theorem W_has {fu P Q A q y p says : Nat} {v s : g_St} {d : Nat → Nat} (hfu : 5000 ≤ fu) (hS : SV P Q v s) (hR : RW P A y d s) (hq : q < Q) (hp : p < P) (hsy : says ≤ 1) (h29 : gi s 29 = -1) (hA : A + 7 ≤ 28) (hy : y ≤ 1999) : ∃ s', f_M_hasNow fu s (nI p) (nI A) (nI q) (nI says) = some (hsv s p q (felln s (rS fu P v p q y d says)), s') ∧ RW P (A + 7) (y + 1) (nwd (grw s y) (rS fu P v p q y d says) d) s' ∧ OW (A + 7) s s' := by
  have hP := hS.1.1
  have hQ := hS.1.2.1
  have hS2 : SV P Q v (si (si s 29 (nI p)) 30 (nI says)) := hS
  have hR2 : RW P A y d (si (si s 29 (nI p)) 30 (nI says)) := hR
  obtain ⟨R1, R2, -, R4⟩ := rS_spec (says := says) hfu hS2 hR2 hq hp
  have m := M_setaside (says := says) hfu hS2 hR2 hq hp hsy rfl rfl
  have ms : f_M_saySet fu (si (si s 29 (nI p)) 30 (nI says)) (nI A) (nI q) = some (nI (rS fu P v p q y d says)) := by
    unfold f_M_saySet
    rw [bd1_eq _ m]
    exact R4
  obtain ⟨s1, f1, b1, b2, b3, b4, b5, b6, -⟩ := M_goes_of (B := A + 7) hfu hS2 hR2 hA (Or.inr (Or.inl (Nat.le_refl _))) R1 R2 ms
  have f1' : f_M_goes fu (si (si s 29 (nI p)) 30 (nI says)) (nI A) (nI A + 7) (nI q) = some (felln s (rS fu P v p q y d says), s1) := by
    rw [show nI A + 7 = nI (A + 7) from nI_add A 7]
    exact f1
  have g7 : gr s1 7 = gr s 7 := b2 7 (by omega)
  refine ⟨si s1 29 (-1), ?_, ⟨fun x hx => ⟨b4 x hx, nwd_le (hR.1 x hx).2⟩, b5, hA, by omega, by omega⟩, fun i h1 h2 => ?_, fun i hi => b2 i hi, b3, fun i hi => b6 i (by omega) (by omega)⟩
  · unfold f_M_hasNow hsv
    rw [lt_lt, lt_lt, bd2_eq _ f1', lt_lt]
    by_cases z : felln s (rS fu P v p q y d says) = 0
    · rw [if_pos z, if_pos z, bd1_eq _ (M_worthTo (by omega) (by omega))]
      show some ((gr s1 7 (6 * q + p)).toInt64, _) = _
      rw [g7]
    · rw [if_neg z, if_neg z]
  · rw [gi_si]
    by_cases z : i = 29
    · rw [if_pos z, z, h29]
    · rw [if_neg z, b1 i h2, gi_si, if_neg h1, gi_si, if_neg z]
/-- the best sums -/
def mx (a b : Int64) : Int64 := if lg_cmp a b ≤ 0 then b else a
noncomputable def bst (fu P Q : Nat) (v s : g_St) (p : Nat) (T : Int64) : Nat → Nat → (Nat → Nat) → Int64
  | 0, _, _ => 0
  | n + 1, y, d => sL (fun q => wL s q * mx (hsv s p q (felln s (rS fu P v p q y d 1)) * pwr T n + bst fu P Q v s p T n (y + 1) (nwd (grw s y) (rS fu P v p q y d 1) d)) (hsv s p q (felln s (rS fu P v p q y d 0)) * pwr T n + bst fu P Q v s p T n (y + 1) (nwd (grw s y) (rS fu P v p q y d 0) d))) Q
theorem hsv_cong {s t : g_St} (h : gr t 7 = gr s 7) (p q : Nat) (F : Int32) : hsv t p q F = hsv s p q F := by
  unfold hsv
  rw [h]
theorem wL_cong {s t : g_St} (h : gr t 6 = gr s 6) (q : Nat) : wL t q = wL s q := by
  unfold wL
  rw [wgS_cong h]
/-- the same, said of the first state -/
theorem W_has0 {fu P Q A q y p says : Nat} {v s0 s : g_St} {d : Nat → Nat} (hfu : 5000 ≤ fu) (hS : SV P Q v s) (hO : OW 0 s0 s) (hR : RW P A y d s) (hq : q < Q) (hp : p < P) (hsy : says ≤ 1) (h29 : gi s 29 = -1) (hA : A + 7 ≤ 28) (hy : y ≤ 1999) : ∃ s', f_M_hasNow fu s (nI p) (nI A) (nI q) (nI says) = some (hsv s0 p q (felln s0 (rS fu P v p q y d says)), s') ∧ RW P (A + 7) (y + 1) (nwd (grw s0 y) (rS fu P v p q y d says) d) s' ∧ OW (A + 7) s s' ∧ SV P Q v s' ∧ OW 0 s0 s' ∧ gi s' 29 = -1 := by
  obtain ⟨s', e1, e2, e3⟩ := W_has hfu hS hR hq hp hsy h29 hA hy
  have g8 := hO.2.1 8 (by omega)
  rw [hsv_cong (hO.2.1 7 (by omega)), felln_cong g8] at e1
  rw [grw_cong g8] at e2
  exact ⟨s', e1, e2, e3, e3.sv hS, hO.trans (e3.mono (Nat.zero_le _)), (e3.1 29 (by omega) (by omega)).trans h29⟩
