/-! Persons and proposals come and go; the law is set and asked. -/
theorem nI_lit8 : (8 : Int32) = nI 8 := rfl
theorem nI_lit4 : (4 : Int32) = nI 4 := rfl
theorem i8le {k : Nat} (h : 8 ≤ k) (h2 : k ≤ 4096) : (8 : Int32) ≤ nI k := nI_le (a := 8) h (by omega)
theorem i8gt {k : Nat} (h : k < 8) : ¬ (8 : Int32) ≤ nI k := nI_ge (b := 8) h (by omega)
theorem i8lt {k : Nat} (h : k < 8) : nI k < (8 : Int32) := nI_lt (b := 8) h (by omega)
theorem i6le {k : Nat} (h : 6 ≤ k) (h2 : k ≤ 4096) : (6 : Int32) ≤ nI k := nI_le (a := 6) h (by omega)
theorem i6gt {k : Nat} (h : k < 6) : ¬ (6 : Int32) ≤ nI k := nI_ge (b := 6) h (by omega)
theorem i6lt {k : Nat} (h : k < 6) : nI k < (6 : Int32) := nI_lt (b := 6) h (by omega)
theorem i6ne {k : Nat} (h : k ≤ 4096) (h2 : k ≠ 6) : ¬ nI k = (6 : Int32) := fun z => h2 ((nIeq (b := 6) h (by omega)).mp z)
theorem i8ne {k : Nat} (h : k ≤ 4096) (h2 : k ≠ 8) : ¬ nI k = (8 : Int32) := fun z => h2 ((nIeq (b := 8) h (by omega)).mp z)
theorem V_addPerson_L {fu : Nat} : ∀ (d n k P : Nat) (v : g_St), d + k = 8 → d < n → P < 6 → gi v 0 = nI P → ∃ v', f_V_addPerson_L50 fu n v (nI P) (nI k) = some (nI P, v') ∧ gi v' 0 = nI (P + 1) ∧ (∀ j, j ≠ 0 → gi v' j = gi v j) ∧ (∀ j, j < 20 → gr v' j = gr v j) ∧ ∀ q, q < 8 → ∀ j, gr v' (20 + q) j = if k ≤ q ∧ j = P then 0 else gr v (20 + q) j := by
  intro d
  induction d with
  | zero =>
    intro n k P v hk hn hP h0
    obtain ⟨m, rfl⟩ : ∃ m, n = m + 1 := ⟨n - 1, by omega⟩
    refine ⟨si v 0 (gi v 0 + 1), ?_, ?_, fun j hj => if_neg hj, fun j hj => rfl, fun q hq j => ?_⟩
    · rw [f_V_addPerson_L50, if_pos (i8le (by omega) (by omega))]; rfl
    · show gi v 0 + 1 = nI (P + 1)
      rw [h0, nI_1]
    · rw [if_neg (by omega)]; rfl
  | succ d ih =>
    intro n k P v hk hn hP h0
    obtain ⟨m, rfl⟩ : ∃ m, n = m + 1 := ⟨n - 1, by omega⟩
    obtain ⟨v', e, a, b, c, f⟩ := ih m (k + 1) P (sr v (20 + k) (nI P) 0) (by omega) (by omega) hP h0
    refine ⟨v', ?_, a, fun j hj => b j hj, fun j hj => ?_, fun q hq j => ?_⟩
    · rw [f_V_addPerson_L50, if_neg (i8gt (by omega)), gd_of (vpn (by omega) (by omega)), gd_of (vpn (by omega) (by omega)), lt_lt, lt_lt, nIc (by omega), nI_1]
      exact e
    · rw [c j hj, gr_sr, if_neg (by omega)]
    · rw [f q hq j, gr_sr, nIc (by omega)]
      by_cases e1 : q = k
      · subst e1
        rw [if_neg (by omega), if_pos rfl, upd_at]
        by_cases e2 : j = P
        · rw [if_pos e2, if_pos ⟨Nat.le_refl _, e2⟩]
        · rw [if_neg e2, if_neg (fun z => e2 z.2)]
      · rw [if_neg (show ¬ 20 + q = 20 + k by omega)]
        by_cases e2 : k + 1 ≤ q ∧ j = P
        · rw [if_pos e2, if_pos ⟨by omega, e2.2⟩]
        · rw [if_neg e2, if_neg (fun z => e2 ⟨by omega, z.2⟩)]
theorem M_person_L {fu : Nat} : ∀ (d n k P : Nat) (s : g_St), d + k = 8 → d < n → P < 6 → gi s 0 = nI P → ∃ s', f_M_person_L97 fu n s (nI k) = some (nI P, s') ∧ gi s' 0 = nI (P + 1) ∧ (∀ j, j ≠ 0 → gi s' j = gi s j) ∧ (∀ j, j ≠ 7 → gr s' j = gr s j) ∧ gt s' = gt s ∧ ∀ q, q < 8 → ∀ p, p < 6 → gr s' 7 (6 * q + p) = if k ≤ q ∧ p = P then 0 else gr s 7 (6 * q + p) := by
  intro d
  induction d with
  | zero =>
    intro n k P v hk hn hP h0
    obtain ⟨m, rfl⟩ : ∃ m, n = m + 1 := ⟨n - 1, by omega⟩
    refine ⟨si v 0 (gi v 0 + 1), ?_, ?_, fun j hj => if_neg hj, fun j hj => rfl, rfl, fun q hq j hj => ?_⟩
    · rw [f_M_person_L97, if_pos (i8le (by omega) (by omega))]
      show some (gi v 0 + 1 - 1, _) = _
      rw [h0, ← nI_succ, nI_pred]
    · show gi v 0 + 1 = nI (P + 1)
      rw [h0, nI_1]
    · rw [if_neg (by omega)]; rfl
  | succ d ih =>
    intro n k P v hk hn hP h0
    obtain ⟨m, rfl⟩ : ∃ m, n = m + 1 := ⟨n - 1, by omega⟩
    obtain ⟨v', e, a, b, c, g, f⟩ := ih m (k + 1) P (sr v 7 (nI (6 * k + P)) 0) (by omega) (by omega) hP h0
    refine ⟨v', ?_, a, fun j hj => b j hj, fun j hj => ?_, g, fun q hq j hj => ?_⟩
    · rw [f_M_person_L97, if_neg (i8gt (by omega)), h0, six, gd_of (vpn (by omega) (by omega)), lt_lt, lt_lt, nI_1]
      exact e
    · rw [c j hj, gr_sr, if_neg hj]
    · rw [f q hq j hj, gr_sr, if_pos rfl, nIc (by omega), upd_at]
      by_cases e2 : k + 1 ≤ q ∧ j = P
      · rw [if_pos e2, if_pos ⟨by omega, e2.2⟩]
      · rw [if_neg e2]
        by_cases e1 : 6 * q + j = 6 * k + P
        · rw [if_pos e1, if_pos ⟨by omega, by omega⟩]
        · rw [if_neg e1, if_neg (fun z => e2 ⟨by omega, z.2⟩)]
theorem V_addPerson_eq {fu P : Nat} {v : g_St} (v0 : gi v 0 = nI P) (hP : P < 6) (x1 x2 x3 x4 : Int32) : f_V_addPerson fu v x1 x2 x3 x4 = f_V_addPerson_L50 fu fu (sr (sr (sr (sr (sr v 1 (nI P) x1) 2 (nI P) x2) 3 (nI P) x3) 4 (nI P) x4) 5 (nI P) 0) (nI P) 0 := by
  unfold f_V_addPerson
  rw [lt_lt, v0, gd_of (vpn hP (by omega)), lt_lt, gd_of (vpn hP (by omega)), lt_lt, gd_of (vpn hP (by omega)), lt_lt, gd_of (vpn hP (by omega)), lt_lt, gd_of (vpn hP (by omega)), lt_lt]
theorem M_person_eq {fu P : Nat} {s : g_St} (s0 : gi s 0 = nI P) (hP : P < 6) (x1 x2 x3 x4 : Int32) : (gd (vp_in (gi s 0) 6) (lt (sr s 1 (gi s 0) x1) fun s5 => gd (vp_in (gi s5 0) 6) (lt (sr s5 2 (gi s5 0) x2) fun s7 => gd (vp_in (gi s7 0) 6) (lt (sr s7 3 (gi s7 0) x3) fun s9 => gd (vp_in (gi s9 0) 35) (lt (sr s9 11 (gi s9 0) x4) fun s11 => gd (vp_in (gi s11 0) 6) (lt (sr s11 4 (gi s11 0) (0 : Int32)) fun s13 => f_M_person_L97 fu fu s13 (0 : Int32))))))) = f_M_person_L97 fu fu (sr (sr (sr (sr (sr s 1 (nI P) x1) 2 (nI P) x2) 3 (nI P) x3) 11 (nI P) x4) 4 (nI P) 0) 0 := by
  rw [s0, gd_of (vpn hP (by omega)), lt_lt, gi_sr, s0, gd_of (vpn hP (by omega)), lt_lt, gi_sr, gi_sr, s0, gd_of (vpn hP (by omega)), lt_lt, gi_sr, gi_sr, gi_sr, s0, gd_of (vpn (show P < 35 by omega) (by omega)), lt_lt, gi_sr, gi_sr, gi_sr, gi_sr, s0, gd_of (vpn hP (by omega)), lt_lt]
theorem M_person_eq' {fu P : Nat} {s : g_St} (s0 : gi s 0 = nI P) (hP : P ≤ 6) (x1 x2 x3 x4 : Int32) : (if gi s 0 = 6 then some (-2, s) else gd (vp_in (gi s 0) 6) (lt (sr s 1 (gi s 0) x1) fun s5 => gd (vp_in (gi s5 0) 6) (lt (sr s5 2 (gi s5 0) x2) fun s7 => gd (vp_in (gi s7 0) 6) (lt (sr s7 3 (gi s7 0) x3) fun s9 => gd (vp_in (gi s9 0) 35) (lt (sr s9 11 (gi s9 0) x4) fun s11 => gd (vp_in (gi s11 0) 6) (lt (sr s11 4 (gi s11 0) (0 : Int32)) fun s13 => f_M_person_L97 fu fu s13 (0 : Int32))))))) = if P = 6 then some (-2, s) else f_M_person_L97 fu fu (sr (sr (sr (sr (sr s 1 (nI P) x1) 2 (nI P) x2) 3 (nI P) x3) 11 (nI P) x4) 4 (nI P) 0) 0 := by
  by_cases e : P = 6
  · rw [if_pos (by rw [s0, e]; rfl), if_pos e]
  · rw [if_neg (by rw [s0]; exact i6ne (by omega) e), if_neg e, M_person_eq s0 (by omega)]
theorem t_person {fu P Q : Nat} (hfu : 5000 ≤ fu) {v s : g_St} (h : RV P Q v s) (x1 x2 x3 x4 : Int32) : ∃ r v' s' P', f_O_person fu v x1 x2 x3 x4 = some (r, v') ∧ f_M_person fu s x1 x2 x3 x4 = some (r, s') ∧ RV P' Q v' s' ∧ OV s s' := by
  have h0 := h
  obtain ⟨⟨⟨hP, hQ, v0, s0, v6, s5⟩, hp, hq, hl⟩, hn, hy, hz⟩ := h0
  unfold f_O_person f_M_person f_S_isMind
  rw [within_in, within_in, within_in, within_in]
  rcases in_0 x1 5 (by omega) with ⟨e1, k, hk, rfl⟩ | e1
  · rcases in_0 x2 255 (by omega) with ⟨e2, a, ha, rfl⟩ | e2
    · rcases in_0 x3 99 (by omega) with ⟨e3, g, hg, rfl⟩ | e3
      · rcases in_0 x4 9 (by omega) with ⟨e4, o, ho, rfl⟩ | e4
        · rw [show (5 : Int32) = nI 5 from rfl, show (255 : Int32) = nI 255 from rfl, show (99 : Int32) = nI 99 from rfl, show (9 : Int32) = nI 9 from rfl, e1, e2, e3, e4]
          rw [if_neg ne10, if_neg ne10, if_neg ne10, if_neg ne10, if_neg ne10, if_neg ne10, if_neg ne10, if_neg ne10, if_neg ne10, v0, M_person_eq' s0 hP]
          by_cases hP6 : P = 6
          · rw [if_pos hP6, hP6, if_neg (show ¬ nI 6 < 6 by decide)]; exact ⟨_, _, _, P, rfl, rfl, h, OV.rf⟩
          · rw [if_pos (i6lt (by omega)), if_neg hP6, V_addPerson_eq v0 (by omega)]
            obtain ⟨v', a1, a2, a3, a4, a5⟩ := V_addPerson_L (fu := fu) 8 fu 0 P (sr (sr (sr (sr (sr v 1 (nI P) (nI k)) 2 (nI P) (nI a)) 3 (nI P) (nI g)) 4 (nI P) (nI o)) 5 (nI P) 0) (by omega) (by omega) (by omega) v0
            obtain ⟨s', b1, b2, b3, b4, b5, b6⟩ := M_person_L (fu := fu) 8 fu 0 P (sr (sr (sr (sr (sr s 1 (nI P) (nI k)) 2 (nI P) (nI a)) 3 (nI P) (nI g)) 11 (nI P) (nI o)) 4 (nI P) 0) (by omega) (by omega) (by omega) s0
            refine ⟨nI P, v', s', P + 1, ?_, b1, ?_, ?_⟩
            · have a1' : f_V_addPerson_L50 fu fu (sr (sr (sr (sr (sr v 1 (nI P) (nI k)) 2 (nI P) (nI a)) 3 (nI P) (nI g)) 4 (nI P) (nI o)) 5 (nI P) 0) (nI P) 0 = some (nI P, v') := a1
              rw [bd2_eq _ a1']
            · have c1 : (nI P).toNatClampNeg = P := nIc (by omega)
              refine ⟨⟨⟨by omega, hQ, a2, b2, (a3 6 (by omega)).trans v6, (b3 5 (by omega)).trans s5⟩, fun p hpP => ?_, fun q hqQ => ?_, ?_⟩, fun p hpP => ?_, ?_, (a3 10 (by omega)).trans (hz.1.trans (b3 14 (by omega)).symm), (a3 11 (by omega)).trans (hz.2.1.trans (b3 12 (by omega)).symm), (a3 12 (by omega)).trans (hz.2.2.trans (b3 13 (by omega)).symm)⟩
              · rw [a4 1 (by omega), a4 2 (by omega), a4 3 (by omega), b4 1 (by omega), b4 2 (by omega), b4 3 (by omega)]
                show upd (gr v 1) (nI P).toNatClampNeg (nI k) p = upd (gr s 1) (nI P).toNatClampNeg (nI k) p ∧ upd (gr v 2) (nI P).toNatClampNeg (nI a) p = upd (gr s 2) (nI P).toNatClampNeg (nI a) p ∧ upd (gr v 3) (nI P).toNatClampNeg (nI g) p = upd (gr s 3) (nI P).toNatClampNeg (nI g) p ∧ (∃ k', k' ≤ 5 ∧ upd (gr s 1) (nI P).toNatClampNeg (nI k) p = nI k') ∧ (∃ a', a' ≤ 255 ∧ upd (gr s 2) (nI P).toNatClampNeg (nI a) p = nI a')
                rw [c1]
                simp only [upd_at]
                by_cases e : p = P
                · simp only [if_pos e]; exact ⟨trivial, trivial, trivial, ⟨k, hk, rfl⟩, ⟨a, ha, rfl⟩⟩
                · simp only [if_neg e]; exact hp p (by omega)
              · rw [a4 7 (by omega), b4 6 (by omega)]
                obtain ⟨d1, d2, d3⟩ := hq q hqQ
                refine ⟨d1, d2, fun p hpP => ?_⟩
                rw [a5 q (by omega) p, b6 q (by omega) p (by omega)]
                by_cases e : 0 ≤ q ∧ p = P
                · rw [if_pos e, if_pos e]; exact ⟨rfl, by decide, by decide⟩
                · rw [if_neg e, if_neg e]
                  rw [gr_sr, if_neg (show ¬ 20 + q = 5 by omega), gr_sr, if_neg (show ¬ 20 + q = 4 by omega), gr_sr, if_neg (show ¬ 20 + q = 3 by omega), gr_sr, if_neg (show ¬ 20 + q = 2 by omega), gr_sr, if_neg (show ¬ 20 + q = 1 by omega)]
                  rw [gr_sr, if_neg (show ¬ 7 = 4 by omega), gr_sr, if_neg (show ¬ 7 = 11 by omega), gr_sr, if_neg (show ¬ 7 = 3 by omega), gr_sr, if_neg (show ¬ 7 = 2 by omega), gr_sr, if_neg (show ¬ 7 = 1 by omega)]
                  exact d3 p (by omega)
              · rw [a4 9 (by omega), b4 8 (by omega)]; exact hl
              · rw [a4 4 (by omega), a4 5 (by omega), b4 11 (by omega), b4 4 (by omega)]
                show upd (gr v 4) (nI P).toNatClampNeg (nI o) p = upd (gr s 11) (nI P).toNatClampNeg (nI o) p ∧ upd (gr v 5) (nI P).toNatClampNeg 0 p = upd (gr s 4) (nI P).toNatClampNeg 0 p ∧ ∃ o', o' ≤ 9 ∧ upd (gr s 11) (nI P).toNatClampNeg (nI o) p = nI o'
                rw [c1]
                simp only [upd_at]
                by_cases e : p = P
                · simp only [if_pos e]; exact ⟨trivial, trivial, o, ho, rfl⟩
                · simp only [if_neg e]; exact hn p (by omega)
              · rw [a4 9 (by omega), b4 11 (by omega)]
                show gr v 9 3 = upd (gr s 11) (nI P).toNatClampNeg (nI o) 6 ∧ ∃ y, 1 ≤ y ∧ y ≤ 999 ∧ upd (gr s 11) (nI P).toNatClampNeg (nI o) 6 = nI y
                rw [c1, upd_at, if_neg (by omega)]
                exact hy
            · have o : ∀ j, j ≠ 7 ∧ j ≠ 1 ∧ j ≠ 2 ∧ j ≠ 3 ∧ j ≠ 11 ∧ j ≠ 4 → gr s' j = gr s j := fun j hj => by
                rw [b4 j hj.1, gr_sr, if_neg hj.2.2.2.2.2, gr_sr, if_neg hj.2.2.2.2.1, gr_sr, if_neg hj.2.2.2.1, gr_sr, if_neg hj.2.2.1, gr_sr, if_neg hj.2.1]
              exact ⟨⟨b3 16 (by omega), b3 29 (by omega), b3 36 (by omega), b3 47 (by omega), b3 49 (by omega)⟩, ⟨o 9 (by omega), o 10 (by omega), o 15 (by omega), o 34 (by omega), o 37 (by omega), o 38 (by omega)⟩, o 40 (by omega), o 41 (by omega), o 42 (by omega), o 46 (by omega), o 50 (by omega), congrFun b5 39⟩
        · rw [show (5 : Int32) = nI 5 from rfl, show (255 : Int32) = nI 255 from rfl, show (99 : Int32) = nI 99 from rfl, show (9 : Int32) = nI 9 from rfl, e1, e2, e3, e4, if_neg ne10, if_neg ne10, if_neg ne10, if_neg ne10, if_neg ne10, if_neg ne10, if_neg ne10, if_pos rfl, if_pos rfl]; exact ⟨_, _, _, P, rfl, rfl, h, OV.rf⟩
      · rw [show (5 : Int32) = nI 5 from rfl, show (255 : Int32) = nI 255 from rfl, show (99 : Int32) = nI 99 from rfl, e1, e2, e3, if_neg ne10, if_neg ne10, if_neg ne10, if_neg ne10, if_neg ne10, if_pos rfl, if_pos rfl]; exact ⟨_, _, _, P, rfl, rfl, h, OV.rf⟩
    · rw [show (5 : Int32) = nI 5 from rfl, show (255 : Int32) = nI 255 from rfl, e1, e2, if_neg ne10, if_neg ne10, if_pos rfl, if_pos rfl, if_pos rfl]; exact ⟨_, _, _, P, rfl, rfl, h, OV.rf⟩
  · rw [show (5 : Int32) = nI 5 from rfl, e1, if_pos rfl, if_pos rfl, if_pos rfl]; exact ⟨_, _, _, P, rfl, rfl, h, OV.rf⟩
theorem V_addProposal_L {fu : Nat} : ∀ (d n k Q : Nat) (v : g_St), d + k = 6 → d < n → Q < 8 → gi v 6 = nI Q → ∃ v', f_V_addProposal_L14 fu n v (nI Q) (nI k) = some (nI Q, v') ∧ gi v' 6 = nI (Q + 1) ∧ (∀ j, j ≠ 6 → gi v' j = gi v j) ∧ (∀ j, j ≠ 20 + Q → gr v' j = gr v j) ∧ ∀ j, j < 6 → gr v' (20 + Q) j = if k ≤ j then 0 else gr v (20 + Q) j := by
  intro d
  induction d with
  | zero =>
    intro n k P v hk hn hP h0
    obtain ⟨m, rfl⟩ : ∃ m, n = m + 1 := ⟨n - 1, by omega⟩
    refine ⟨si v 6 (gi v 6 + 1), ?_, ?_, fun j hj => if_neg hj, fun j hj => rfl, fun j hj => ?_⟩
    · rw [f_V_addProposal_L14, if_pos (i6le (by omega) (by omega))]; rfl
    · show gi v 6 + 1 = nI (P + 1)
      rw [h0, nI_1]
    · rw [if_neg (by omega)]; rfl
  | succ d ih =>
    intro n k P v hk hn hP h0
    obtain ⟨m, rfl⟩ : ∃ m, n = m + 1 := ⟨n - 1, by omega⟩
    obtain ⟨v', e, a, b, c, f⟩ := ih m (k + 1) P (sr v (20 + P) (nI k) 0) (by omega) (by omega) hP h0
    refine ⟨v', ?_, a, fun j hj => b j hj, fun j hj => ?_, fun j hj => ?_⟩
    · rw [f_V_addProposal_L14, if_neg (i6gt (by omega)), gd_of (vpn (by omega) (by omega)), gd_of (vpn (by omega) (by omega)), lt_lt, lt_lt, nIc (show P ≤ 4096 by omega), nI_1]
      exact e
    · rw [c j hj, gr_sr, if_neg hj]
    · rw [f j hj, gr_sr, if_pos rfl, nIc (by omega), upd_at]
      by_cases e1 : j = k
      · rw [if_neg (by omega), if_pos e1, if_pos (by omega)]
      · rw [if_neg e1]
        by_cases e2 : k ≤ j
        · rw [if_pos e2, if_pos (by omega)]
        · rw [if_neg e2, if_neg (by omega)]
theorem M_proposal_L {fu : Nat} : ∀ (d n k Q : Nat) (s : g_St), d + k = 6 → d < n → Q < 8 → gi s 5 = nI Q → ∃ s', f_M_proposal_L36 fu n s (nI k) = some (nI Q, s') ∧ gi s' 5 = nI (Q + 1) ∧ (∀ j, j ≠ 5 → gi s' j = gi s j) ∧ (∀ j, j ≠ 7 → gr s' j = gr s j) ∧ gt s' = gt s ∧ ∀ q, q < 8 → ∀ p, p < 6 → gr s' 7 (6 * q + p) = if q = Q ∧ k ≤ p then 0 else gr s 7 (6 * q + p) := by
  intro d
  induction d with
  | zero =>
    intro n k P v hk hn hP h0
    obtain ⟨m, rfl⟩ : ∃ m, n = m + 1 := ⟨n - 1, by omega⟩
    refine ⟨si v 5 (gi v 5 + 1), ?_, ?_, fun j hj => if_neg hj, fun j hj => rfl, rfl, fun q hq j hj => ?_⟩
    · rw [f_M_proposal_L36, if_pos (i6le (by omega) (by omega))]
      show some (gi v 5 + 1 - 1, _) = _
      rw [h0, ← nI_succ, nI_pred]
    · show gi v 5 + 1 = nI (P + 1)
      rw [h0, nI_1]
    · rw [if_neg (by omega)]; rfl
  | succ d ih =>
    intro n k P v hk hn hP h0
    obtain ⟨m, rfl⟩ : ∃ m, n = m + 1 := ⟨n - 1, by omega⟩
    obtain ⟨v', e, a, b, c, g, f⟩ := ih m (k + 1) P (sr v 7 (nI (6 * P + k)) 0) (by omega) (by omega) hP h0
    refine ⟨v', ?_, a, fun j hj => b j hj, fun j hj => ?_, g, fun q hq j hj => ?_⟩
    · rw [f_M_proposal_L36, if_neg (i6gt (by omega)), h0, six, gd_of (vpn (by omega) (by omega)), lt_lt, lt_lt, nI_1]
      exact e
    · rw [c j hj, gr_sr, if_neg hj]
    · rw [f q hq j hj, gr_sr, if_pos rfl, nIc (by omega), upd_at]
      by_cases e2 : q = P ∧ k + 1 ≤ j
      · rw [if_pos e2, if_pos ⟨e2.1, by omega⟩]
      · rw [if_neg e2]
        by_cases e1 : 6 * q + j = 6 * P + k
        · rw [if_pos e1, if_pos ⟨by omega, by omega⟩]
        · rw [if_neg e1, if_neg (fun z => e2 ⟨z.1, by omega⟩)]
theorem t_proposal {fu P Q : Nat} (hfu : 5000 ≤ fu) {v s : g_St} (h : RV P Q v s) (x1 : Int32) : ∃ r v' s' Q', f_O_proposal fu v x1 = some (r, v') ∧ f_M_proposal fu s x1 = some (r, s') ∧ RV P Q' v' s' ∧ OV s s' := by
  have h0 := h
  obtain ⟨⟨⟨hP, hQ, v0, s0, v6, s5⟩, hp, hq, hl⟩, hn, hy, hz⟩ := h0
  unfold f_O_proposal f_M_proposal
  rw [within_in]
  rcases in_0 x1 9 (by omega) with ⟨e1, w, hw, rfl⟩ | e1
  · rw [show (9 : Int32) = nI 9 from rfl, e1]
    rw [if_neg ne10, if_neg ne10, v6, s5]
    by_cases hQ8 : Q = 8
    · rw [hQ8, if_neg (show ¬ nI 8 < 8 by decide), if_pos (show nI 8 = 8 from rfl)]; exact ⟨_, _, _, Q, rfl, rfl, h, OV.rf⟩
    · rw [if_pos (i8lt (by omega)), if_neg (i8ne (by omega) hQ8)]
      unfold f_V_addProposal
      simp only [lt_lt, v6, gi_sr, s5, gd_of (vpn (show Q < 8 by omega) (show 8 ≤ 4096 by omega))]
      obtain ⟨v', a1, a2, a3, a4, a5⟩ := V_addProposal_L (fu := fu) 6 fu 0 Q (sr v 7 (nI Q) (nI w)) (by omega) (by omega) (by omega) v6
      obtain ⟨s', b1, b2, b3, b4, b5, b6⟩ := M_proposal_L (fu := fu) 6 fu 0 Q (sr s 6 (nI Q) (nI w)) (by omega) (by omega) (by omega) s5
      have c1 : (nI Q).toNatClampNeg = Q := nIc (by omega)
      refine ⟨nI Q, v', s', Q + 1, ?_, b1, ?_, ?_⟩
      · have a1' : f_V_addProposal_L14 fu fu (sr v 7 (nI Q) (nI w)) (nI Q) 0 = some (nI Q, v') := a1
        rw [bd2_eq _ a1']
      · have a4' : ∀ j, j < 20 ∧ j ≠ 7 → gr v' j = gr v j := fun j hj => by rw [a4 j (by omega), gr_sr, if_neg hj.2]
        have b4' : ∀ j, j ≠ 7 ∧ j ≠ 6 → gr s' j = gr s j := fun j hj => by rw [b4 j hj.1, gr_sr, if_neg hj.2]
        refine ⟨⟨⟨hP, by omega, (a3 0 (by omega)).trans v0, (b3 0 (by omega)).trans s0, a2, b2⟩, fun p hpP => ?_, fun q hqQ => ?_, ?_⟩, fun p hpP => ?_, ?_, (a3 10 (by omega)).trans (hz.1.trans (b3 14 (by omega)).symm), (a3 11 (by omega)).trans (hz.2.1.trans (b3 12 (by omega)).symm), (a3 12 (by omega)).trans (hz.2.2.trans (b3 13 (by omega)).symm)⟩
        · rw [a4' 1 (by omega), a4' 2 (by omega), a4' 3 (by omega), b4' 1 (by omega), b4' 2 (by omega), b4' 3 (by omega)]
          exact hp p hpP
        · rw [a4 7 (by omega), b4 6 (by omega)]
          refine ⟨?_, ?_, fun p hpP => ?_⟩
          · show upd (gr v 7) (nI Q).toNatClampNeg (nI w) q = upd (gr s 6) (nI Q).toNatClampNeg (nI w) q
            rw [c1]
            simp only [upd_at]
            by_cases e : q = Q
            · rw [if_pos e, if_pos e]
            · rw [if_neg e, if_neg e]; exact (hq q (by omega)).1
          · show ∃ w', w' ≤ 9 ∧ upd (gr s 6) (nI Q).toNatClampNeg (nI w) q = nI w'
            rw [c1]
            simp only [upd_at]
            by_cases e : q = Q
            · rw [if_pos e]; exact ⟨w, hw, rfl⟩
            · rw [if_neg e]; exact (hq q (by omega)).2.1
          · rw [b6 q (by omega) p (by omega)]
            by_cases e : q = Q
            · rw [e, a5 p (by omega), if_pos (by omega), if_pos ⟨rfl, by omega⟩]; exact ⟨rfl, by decide, by decide⟩
            · rw [a4 (20 + q) (by omega), if_neg (fun z => e z.1), gr_sr, if_neg (by omega)]
              exact (hq q (by omega)).2.2 p hpP
        · rw [a4' 9 (by omega), b4' 8 (by omega)]; exact hl
        · rw [a4' 4 (by omega), a4' 5 (by omega), b4' 11 (by omega), b4' 4 (by omega)]
          exact hn p hpP
        · rw [a4' 9 (by omega), b4' 11 (by omega)]
          exact hy
      · have o : ∀ j, j ≠ 7 ∧ j ≠ 6 → gr s' j = gr s j := fun j hj => by rw [b4 j hj.1, gr_sr, if_neg hj.2]
        exact ⟨⟨b3 16 (by omega), b3 29 (by omega), b3 36 (by omega), b3 47 (by omega), b3 49 (by omega)⟩, ⟨o 9 (by omega), o 10 (by omega), o 15 (by omega), o 34 (by omega), o 37 (by omega), o 38 (by omega)⟩, o 40 (by omega), o 41 (by omega), o 42 (by omega), o 46 (by omega), o 50 (by omega), congrFun b5 39⟩
  · rw [show (9 : Int32) = nI 9 from rfl, e1, if_pos rfl, if_pos rfl]; exact ⟨_, _, _, Q, rfl, rfl, h, OV.rf⟩
