/-! A person leaves; the law is set and asked. -/
def shf (f : Nat → Int32) (x e : Nat) : Nat → Int32 := fun i => if x ≤ i ∧ i < e then f (i + 1) else f i
theorem cpy_shf (f : Nat → Int32) (x m : Nat) : va_cpy f f (x + 1) x m = shf f x (x + m) := by
  funext i
  unfold va_cpy shf
  by_cases e : x ≤ i ∧ i < x + m
  · rw [if_pos e, if_pos e, show x + 1 + (i - x) = i + 1 by omega]
  · rw [if_neg e, if_neg e]
theorem gr_sra' (s : g_St) (k : Nat) (f : Nat → Int32) (j : Nat) : gr (sra s k f) j = if j = k then f else gr s j := rfl
theorem V_remove_L {fu : Nat} : ∀ (d n k P x m : Nat) (v : g_St), d + k = 8 → d < n → P < 6 → x + m + 1 ≤ 6 → gi v 0 = nI (P + 1) → ∃ v', f_V_removePerson_L91 fu n v (nI x) (nI m) (nI k) = some v' ∧ gi v' 0 = nI P ∧ (∀ j, j ≠ 0 → gi v' j = gi v j) ∧ (∀ j, j < 20 → gr v' j = gr v j) ∧ ∀ q, q < 8 → gr v' (20 + q) = if k ≤ q then shf (gr v (20 + q)) x (x + m) else gr v (20 + q) := by
  intro d
  induction d with
  | zero =>
    intro n k P x m v hk hn hP hx h0
    obtain ⟨w, rfl⟩ : ∃ w, n = w + 1 := ⟨n - 1, by omega⟩
    refine ⟨si v 0 (gi v 0 - 1), ?_, ?_, fun j hj => if_neg hj, fun j hj => rfl, fun q hq => ?_⟩
    · rw [f_V_removePerson_L91, if_pos (i8le (by omega) (by omega))]; rfl
    · show gi v 0 - 1 = nI P
      rw [h0, nI_pred]
    · rw [if_neg (by omega)]; rfl
  | succ d ih =>
    intro n k P x m v hk hn hP hx h0
    obtain ⟨w, rfl⟩ : ∃ w, n = w + 1 := ⟨n - 1, by omega⟩
    obtain ⟨v', e, a, b, c, f⟩ := ih w (k + 1) P x m (sra v (20 + k) (shf (gr v (20 + k)) x (x + m))) (by omega) (by omega) hP hx h0
    refine ⟨v', ?_, a, fun j hj => b j hj, fun j hj => ?_, fun q hq => ?_⟩
    · rw [f_V_removePerson_L91, if_neg (i8gt (by omega)), gd_of (vpn (by omega) (by omega)), gd_of (vpn (by omega) (by omega)), nI_1 x, nI_1 k]
      rw [gd_of (show cp_ok (nI (x + 1)) (nI x) (nI m) 6 6 from ⟨nI_pos (by omega), nI_pos (by omega), nI_pos (by omega), by rw [nIc (by omega), nIc (by omega)]; omega, by rw [nIc (by omega), nIc (by omega)]; omega⟩)]
      rw [lt_lt, lt_lt, nIc (show k ≤ 4096 by omega), nIc (show x + 1 ≤ 4096 by omega), nIc (show x ≤ 4096 by omega), nIc (show m ≤ 4096 by omega), cpy_shf]
      exact e
    · rw [c j hj, gr_sra', if_neg (by omega)]
    · rw [f q hq, gr_sra']
      by_cases e1 : q = k
      · rw [e1, if_pos rfl, if_neg (by omega), if_pos (by omega)]
      · rw [if_neg (show ¬ 20 + q = 20 + k by omega)]
        by_cases e2 : k + 1 ≤ q
        · rw [if_pos e2, if_pos (by omega)]
        · rw [if_neg e2, if_neg (by omega)]
theorem M_leave_L {fu : Nat} (K : g_St → Int32 → Option (Int32 × g_St)) : ∀ (d n q k : Nat) (s : g_St), d + q = 8 → d < n → k < 5 → ∃ s', f_M_leave_L102 fu K n s (nI k) (nI q) = K s' (nI (k + 1)) ∧ (∀ j, gi s' j = gi s j) ∧ (∀ j, j ≠ 7 → gr s' j = gr s j) ∧ gt s' = gt s ∧ ∀ q', q' < 8 → ∀ p, p < 6 → gr s' 7 (6 * q' + p) = if q ≤ q' ∧ p = k then gr s 7 (6 * q' + p + 1) else gr s 7 (6 * q' + p) := by
  intro d
  induction d with
  | zero =>
    intro n q k s hq hn hk
    obtain ⟨w, rfl⟩ : ∃ w, n = w + 1 := ⟨n - 1, by omega⟩
    refine ⟨s, ?_, fun j => rfl, fun j hj => rfl, rfl, fun q' hq' p hp => ?_⟩
    · rw [f_M_leave_L102, if_pos (i8le (by omega) (by omega)), lt_lt, nI_1]
    · rw [if_neg (by omega)]
  | succ d ih =>
    intro n q k s hq hn hk
    obtain ⟨w, rfl⟩ : ∃ w, n = w + 1 := ⟨n - 1, by omega⟩
    obtain ⟨s', e, a, b, c, f⟩ := ih w (q + 1) k (sr s 7 (nI (6 * q + k)) (gr s 7 (6 * q + k + 1))) (by omega) (by omega) hk
    refine ⟨s', ?_, fun j => a j, fun j hj => ?_, c, fun q' hq' p hp => ?_⟩
    · rw [f_M_leave_L102, if_neg (i8gt (by omega)), six, nI_1 (6 * q + k), gd_of (vpn (by omega) (by omega)), lt_lt, gd_of (vpn (by omega) (by omega)), lt_lt, lt_lt, nIc (by omega), nI_1 q]
      exact e
    · rw [b j hj, gr_sr, if_neg hj]
    · rw [f q' hq' p hp, gr_sr, if_pos rfl, nIc (by omega), upd_at, upd_at]
      by_cases e1 : q + 1 ≤ q' ∧ p = k
      · rw [if_pos e1, if_neg (by omega), if_pos ⟨by omega, e1.2⟩]
      · rw [if_neg e1]
        by_cases e2 : 6 * q' + p = 6 * q + k
        · rw [if_pos e2, if_pos ⟨by omega, by omega⟩, e2]
        · rw [if_neg e2, if_neg (fun z => e1 ⟨by omega, z.2⟩)]
theorem M_leave_O {fu : Nat} (hfu : 5000 ≤ fu) : ∀ (d n k P : Nat) (s : g_St), d + k = P → d < n → P ≤ 5 → gi s 0 = nI P → ∃ s', f_M_leave_L22 fu n s (nI k) = some (nI P, s') ∧ (∀ j, gi s' j = gi s j) ∧ (∀ j, j ≠ 7 ∧ j ≠ 1 ∧ j ≠ 2 ∧ j ≠ 3 ∧ j ≠ 11 ∧ j ≠ 4 → gr s' j = gr s j) ∧ gt s' = gt s ∧ gr s' 1 = shf (gr s 1) k P ∧ gr s' 2 = shf (gr s 2) k P ∧ gr s' 3 = shf (gr s 3) k P ∧ gr s' 11 = shf (gr s 11) k P ∧ gr s' 4 = shf (gr s 4) k P ∧ ∀ q', q' < 8 → ∀ p, p < 6 → gr s' 7 (6 * q' + p) = if k ≤ p ∧ p < P then gr s 7 (6 * q' + p + 1) else gr s 7 (6 * q' + p) := by
  intro d
  induction d with
  | zero =>
    intro n k P s hk hn hP h0
    obtain ⟨w, rfl⟩ : ∃ w, n = w + 1 := ⟨n - 1, by omega⟩
    have z : ∀ f : Nat → Int32, f = shf f k P := fun f => by
      funext i; unfold shf; rw [if_neg (by omega)]
    refine ⟨s, ?_, fun j => rfl, fun j hj => rfl, rfl, z _, z _, z _, z _, z _, fun q' hq' p hp => ?_⟩
    · rw [f_M_leave_L22, h0, if_pos (nI_le (by omega) (by omega))]
    · rw [if_neg (by omega)]
  | succ d ih =>
    intro n k P s hk hn hP h0
    obtain ⟨w, rfl⟩ : ∃ w, n = w + 1 := ⟨n - 1, by omega⟩
    obtain ⟨s1, e1, a1, b1, c1, f1⟩ := M_leave_L (fu := fu) (f_M_leave_L22 fu w) 8 fu 0 k (sr (sr (sr (sr (sr s 1 (nI k) (gr s 1 (k + 1))) 2 (nI k) (gr s 2 (k + 1))) 3 (nI k) (gr s 3 (k + 1))) 11 (nI k) (gr s 11 (k + 1))) 4 (nI k) (gr s 4 (k + 1))) (by omega) (by omega) (by omega)
    obtain ⟨s', e, a, b, c, g1, g2, g3, g11, g4, f⟩ := ih w (k + 1) P s1 (by omega) (by omega) hP ((a1 0).trans h0)
    have ck : (nI k).toNatClampNeg = k := nIc (by omega)
    have u : ∀ f : Nat → Int32, shf (upd f k (f (k + 1))) (k + 1) P = shf f k P := fun f => by
      funext i
      unfold shf
      rw [upd_at, upd_at]
      by_cases z1 : k + 1 ≤ i ∧ i < P
      · rw [if_pos z1, if_neg (by omega), if_pos ⟨by omega, z1.2⟩]
      · rw [if_neg z1]
        by_cases z2 : i = k
        · rw [if_pos z2, if_pos ⟨by omega, by omega⟩, z2]
        · rw [if_neg z2, if_neg (fun z => z1 ⟨by omega, z.2⟩)]
    refine ⟨s', ?_, fun j => (a j).trans (a1 j), fun j hj => ?_, c.trans c1, ?_, ?_, ?_, ?_, ?_, fun q' hq' p hp => ?_⟩
    · rw [f_M_leave_L22, h0, if_neg (nI_ge (by omega) (by omega)), nI_1 k, gd_of (vpn (by omega) (by omega)), lt_lt, gd_of (vpn (by omega) (by omega)), lt_lt, gd_of (vpn (by omega) (by omega)), lt_lt, gd_of (vpn (by omega) (by omega)), lt_lt, gd_of (vpn (by omega) (by omega)), lt_lt, gd_of (vpn (by omega) (by omega)), lt_lt, gd_of (vpn (by omega) (by omega)), lt_lt, gd_of (vpn (by omega) (by omega)), lt_lt, gd_of (vpn (by omega) (by omega)), lt_lt, gd_of (vpn (by omega) (by omega)), lt_lt, nIc (by omega)]
      exact e1.trans e
    · rw [b j hj, b1 j hj.1, gr_sr, if_neg hj.2.2.2.2.2, gr_sr, if_neg hj.2.2.2.2.1, gr_sr, if_neg hj.2.2.2.1, gr_sr, if_neg hj.2.2.1, gr_sr, if_neg hj.2.1]
    · rw [g1, b1 1 (by omega)]
      show shf (upd (gr s 1) (nI k).toNatClampNeg (gr s 1 (k + 1))) (k + 1) P = _
      rw [ck, u]
    · rw [g2, b1 2 (by omega)]
      show shf (upd (gr s 2) (nI k).toNatClampNeg (gr s 2 (k + 1))) (k + 1) P = _
      rw [ck, u]
    · rw [g3, b1 3 (by omega)]
      show shf (upd (gr s 3) (nI k).toNatClampNeg (gr s 3 (k + 1))) (k + 1) P = _
      rw [ck, u]
    · rw [g11, b1 11 (by omega)]
      show shf (upd (gr s 11) (nI k).toNatClampNeg (gr s 11 (k + 1))) (k + 1) P = _
      rw [ck, u]
    · rw [g4, b1 4 (by omega)]
      show shf (upd (gr s 4) (nI k).toNatClampNeg (gr s 4 (k + 1))) (k + 1) P = _
      rw [ck, u]
    · have f1' := f1 q' hq'
      rw [f q' hq' p hp]
      by_cases z1 : k + 1 ≤ p ∧ p < P
      · rw [if_pos z1, if_pos ⟨by omega, z1.2⟩, show 6 * q' + p + 1 = 6 * q' + (p + 1) by omega, f1' (p + 1) (by omega), if_neg (by omega)]; rfl
      · rw [if_neg z1, f1' p hp]
        by_cases z2 : 0 ≤ q' ∧ p = k
        · rw [if_pos z2, if_pos ⟨by omega, by omega⟩]; rfl
        · rw [if_neg z2, if_neg (fun z => z1 ⟨by omega, z.2⟩)]; rfl
theorem V_removePerson_eq {fu x m P : Nat} {v : g_St} (v0 : gi v 0 = nI (P + 1)) (hP : P < 6) (hm : x + m = P) : f_V_removePerson fu v (nI x) = f_V_removePerson_L91 fu fu (sra (sra (sra (sra (sra v 1 (shf (gr v 1) x P)) 2 (shf (gr v 2) x P)) 3 (shf (gr v 3) x P)) 4 (shf (gr v 4) x P)) 5 (shf (gr v 5) x P)) (nI x) (nI m) 0 := by
  have ok : cp_ok (nI (x + 1)) (nI x) (nI m) 6 6 := ⟨nI_pos (by omega), nI_pos (by omega), nI_pos (by omega), by rw [nIc (by omega), nIc (by omega)]; omega, by rw [nIc (by omega), nIc (by omega)]; omega⟩
  unfold f_V_removePerson
  rw [lt_lt, v0, nI_pred, pk_sub (by omega), show P - x = m by omega, nI_1 x, gd_of ok, lt_lt, gd_of ok, lt_lt, gd_of ok, lt_lt, gd_of ok, lt_lt, gd_of ok, lt_lt, nIc (show x + 1 ≤ 4096 by omega), nIc (show x ≤ 4096 by omega), nIc (show m ≤ 4096 by omega), cpy_shf, cpy_shf, cpy_shf, cpy_shf, cpy_shf, hm]
  rfl
theorem t_leave {fu P Q : Nat} (hfu : 5000 ≤ fu) {v s : g_St} (h : RV P Q v s) (x1 : Int32) : ∃ r v' s' P', f_O_leave fu v x1 = some (r, v') ∧ f_M_leave fu s x1 = some (r, s') ∧ RV P' Q v' s' ∧ OV s s' := by
  have h0 := h
  obtain ⟨⟨⟨hP, hQ, v0, s0, v6, s5⟩, hp, hq, hl⟩, hn, hy, hz⟩ := h0
  unfold f_O_leave f_M_leave
  rcases person_or v0 s0 (by omega) x1 with ⟨x, hx, rfl, e1, e2⟩ | ⟨e1, e2⟩
  · rw [e1, e2, if_neg ne10, if_neg ne10]
    obtain ⟨p', rfl⟩ : ∃ p', P = p' + 1 := ⟨P - 1, by omega⟩
    rw [V_removePerson_eq (m := p' - x) v0 (by omega) (by omega), s0, lt_lt, lt_lt, nI_pred]
    obtain ⟨v', a1, a2, a3, a4, a5⟩ := V_remove_L (fu := fu) 8 fu 0 p' x (p' - x) (sra (sra (sra (sra (sra v 1 (shf (gr v 1) x p')) 2 (shf (gr v 2) x p')) 3 (shf (gr v 3) x p')) 4 (shf (gr v 4) x p')) 5 (shf (gr v 5) x p')) (by omega) (by omega) (by omega) (by omega) v0
    obtain ⟨s', b1, b2, b3, b4, g1, g2, g3, g11, g4, b5⟩ := M_leave_O hfu (p' - x) fu x p' (si s 0 (nI p')) (by omega) (by omega) (by omega) rfl
    have a1' : f_V_removePerson_L91 fu fu (sra (sra (sra (sra (sra v 1 (shf (gr v 1) x p')) 2 (shf (gr v 2) x p')) 3 (shf (gr v 3) x p')) 4 (shf (gr v 4) x p')) 5 (shf (gr v 5) x p')) (nI x) (nI (p' - x)) 0 = some v' := a1
    have w1 : gr v' 1 = shf (gr v 1) x p' := a4 1 (by omega)
    have w2 : gr v' 2 = shf (gr v 2) x p' := a4 2 (by omega)
    have w3 : gr v' 3 = shf (gr v 3) x p' := a4 3 (by omega)
    have w4 : gr v' 4 = shf (gr v 4) x p' := a4 4 (by omega)
    have w5 : gr v' 5 = shf (gr v 5) x p' := a4 5 (by omega)
    have w7 : gr v' 7 = gr v 7 := a4 7 (by omega)
    have w9 : gr v' 9 = gr v 9 := a4 9 (by omega)
    have u1 : gr s' 1 = shf (gr s 1) x p' := g1
    have u2 : gr s' 2 = shf (gr s 2) x p' := g2
    have u3 : gr s' 3 = shf (gr s 3) x p' := g3
    have u11 : gr s' 11 = shf (gr s 11) x p' := g11
    have u4 : gr s' 4 = shf (gr s 4) x p' := g4
    have u6 : gr s' 6 = gr s 6 := b3 6 (by omega)
    have u8 : gr s' 8 = gr s 8 := b3 8 (by omega)
    have k : ∀ f : Nat → Int32, ∀ p, p < p' → ∃ p2, p2 < p' + 1 ∧ (∀ f : Nat → Int32, shf f x p' p = f p2) ∧ ∀ f : Nat → Int32, (if x ≤ p ∧ p < p' then f (p + 1) else f p) = f p2 := fun f p hpp => by
      by_cases e : x ≤ p ∧ p < p'
      · exact ⟨p + 1, by omega, fun f => if_pos e, fun f => if_pos e⟩
      · exact ⟨p, by omega, fun f => if_neg e, fun f => if_neg e⟩
    refine ⟨nI p', v', s', p', ?_, b1, ?_, ?_⟩
    · rw [bd1_eq _ a1', a2]
    · refine ⟨⟨⟨by omega, hQ, a2, b2 0, (a3 6 (by omega)).trans v6, (b2 5).trans s5⟩, fun p hpP => ?_, fun q hqQ => ?_, ?_⟩, fun p hpP => ?_, ?_, (a3 10 (by omega)).trans (hz.1.trans (b2 14).symm), (a3 11 (by omega)).trans (hz.2.1.trans (b2 12).symm), (a3 12 (by omega)).trans (hz.2.2.trans (b2 13).symm)⟩
      · obtain ⟨p2, hp2, z, -⟩ := k (gr v 1) p hpP
        rw [w1, w2, w3, u1, u2, u3, z, z, z, z, z, z]
        exact hp p2 hp2
      · rw [w7, u6]
        obtain ⟨d1, d2, d3⟩ := hq q hqQ
        refine ⟨d1, d2, fun p hpP => ?_⟩
        obtain ⟨p2, hp2, z, z2⟩ := k (gr v 1) p hpP
        have z3 := z2 (fun i => gr s 7 (6 * q + i))
        have e7 : gr s' 7 (6 * q + p) = gr s 7 (6 * q + p2) := (b5 q (by omega) p (by omega)).trans z3
        have e8 : gr v' (20 + q) p = gr v (20 + q) p2 := by
          rw [a5 q (by omega), if_pos (by omega), show x + (p' - x) = p' by omega, gr_sra', if_neg (by omega), gr_sra', if_neg (by omega), gr_sra', if_neg (by omega), gr_sra', if_neg (by omega), gr_sra', if_neg (by omega), z]
        rw [e7, e8]
        exact d3 p2 hp2
      · rw [w9, u8]; exact hl
      · obtain ⟨p2, hp2, z, -⟩ := k (gr v 1) p hpP
        rw [w4, w5, u11, u4, z, z, z, z]
        exact hn p2 hp2
      · rw [w9, u11]
        show gr v 9 3 = (if x ≤ 6 ∧ 6 < p' then gr s 11 7 else gr s 11 6) ∧ ∃ y, 1 ≤ y ∧ y ≤ 999 ∧ (if x ≤ 6 ∧ 6 < p' then gr s 11 7 else gr s 11 6) = nI y
        rw [if_neg (by omega)]
        exact hy
    · have o : ∀ j, j ≠ 7 ∧ j ≠ 1 ∧ j ≠ 2 ∧ j ≠ 3 ∧ j ≠ 11 ∧ j ≠ 4 → gr s' j = gr s j := fun j hj => b3 j hj
      exact ⟨⟨b2 16, b2 29, b2 36, b2 47, b2 49⟩, ⟨o 9 (by omega), o 10 (by omega), o 15 (by omega), o 34 (by omega), o 37 (by omega), o 38 (by omega)⟩, o 40 (by omega), o 41 (by omega), o 42 (by omega), o 46 (by omega), o 50 (by omega), congrFun b4 39⟩
  · rw [e1, e2, if_pos rfl, if_pos rfl]; exact ⟨_, _, _, P, rfl, rfl, h, OV.rf⟩
