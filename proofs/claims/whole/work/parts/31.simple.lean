/-! The calls that ask or change one number of the village. -/
/-- what the village's calls leave alone in the reference -/
def OV (s t : g_St) : Prop :=
  (gi t 16 = gi s 16 ∧ gi t 29 = gi s 29 ∧ gi t 36 = gi s 36 ∧ gi t 47 = gi s 47 ∧ gi t 49 = gi s 49) ∧ (gr t 9 = gr s 9 ∧ gr t 10 = gr s 10 ∧ gr t 15 = gr s 15 ∧ gr t 34 = gr s 34 ∧ gr t 37 = gr s 37 ∧ gr t 38 = gr s 38) ∧ (gr t 40 = gr s 40 ∧ gr t 41 = gr s 41 ∧ gr t 42 = gr s 42 ∧ gr t 46 = gr s 46 ∧ gr t 50 = gr s 50 ∧ gt t 39 = gt s 39)
theorem OV.rf {s : g_St} : OV s s := ⟨⟨rfl, rfl, rfl, rfl, rfl⟩, ⟨rfl, rfl, rfl, rfl, rfl, rfl⟩, ⟨rfl, rfl, rfl, rfl, rfl, rfl⟩⟩
theorem OV.trans {s t u : g_St} (a : OV s t) (b : OV t u) : OV s u := by
  obtain ⟨⟨a1, a2, a3, a4, a5⟩, ⟨b1, b2, b3, b4, b5, b6⟩, c1, c2, c3, c4, c5, c6⟩ := a
  obtain ⟨⟨d1, d2, d3, d4, d5⟩, ⟨e1, e2, e3, e4, e5, e6⟩, f1, f2, f3, f4, f5, f6⟩ := b
  exact ⟨⟨d1.trans a1, d2.trans a2, d3.trans a3, d4.trans a4, d5.trans a5⟩, ⟨e1.trans b1, e2.trans b2, e3.trans b3, e4.trans b4, e5.trans b5, e6.trans b6⟩, f1.trans c1, f2.trans c2, f3.trans c3, f4.trans c4, f5.trans c5, f6.trans c6⟩
theorem M_worthTo {s : g_St} {q p : Nat} (hq : q < 8) (hp : p < 6) : f_M_worthTo s (nI q) (nI p) = some (gr s 7 (6 * q + p)) := by
  unfold f_M_worthTo
  rw [show (6 : Int32) * nI q + nI p = nI (6 * q + p) from by rw [nI_lit6, pk_mul, nI_add], gd_of (vpn (by omega) (by omega)), nIc (by omega)]
theorem six (q p : Nat) : (6 : Int32) * nI q + nI p = nI (6 * q + p) := by rw [nI_lit6, pk_mul, nI_add]
theorem t_personOf {P Q : Nat} {v s : g_St} (h : RV P Q v s) (x1 x2 : Int32) : ∃ r, f_O_personOf v x1 x2 = some r ∧ f_M_personOf s x1 x2 = some r := by
  obtain ⟨⟨⟨hP, hQ, v0, s0, v6, s5⟩, hp, hq, hl⟩, hn, hy, hz⟩ := h
  unfold f_O_personOf f_M_personOf
  rcases person_or v0 s0 (by omega) x1 with ⟨p, hpP, rfl, e1, e2⟩ | ⟨e1, e2⟩
  · obtain ⟨a1, a2, a3, -, -⟩ := hp p hpP
    obtain ⟨a4, -, -⟩ := hn p hpP
    rw [e1, e2, if_neg ne10, if_neg ne10]
    simp only [gd_of (vpn (show p < 6 by omega) (show 6 ≤ 4096 by omega)), gd_of (vpn (show p < 35 by omega) (show 35 ≤ 4096 by omega)), nIc (show p ≤ 4096 by omega), a1, a2, a3, a4]
    by_cases b0 : x2 = 0
    · rw [if_pos b0]; exact ⟨_, rfl, rfl⟩
    · rw [if_neg b0]
      by_cases b1 : x2 = 1
      · rw [if_pos b1]; exact ⟨_, rfl, rfl⟩
      · rw [if_neg b1]
        by_cases b2 : x2 = 2
        · rw [if_pos b2]; exact ⟨_, rfl, rfl⟩
        · rw [if_neg b2]
          by_cases b3 : x2 = 3
          · rw [if_pos b3]; exact ⟨_, rfl, rfl⟩
          · rw [if_neg b3]; exact ⟨_, rfl, rfl⟩
  · rw [e1, e2, if_pos rfl, if_pos rfl]; exact ⟨_, rfl, rfl⟩
theorem RV.weight {P Q : Nat} {v s : g_St} (h : RV P Q v s) {q j : Nat} (hq : q < Q) (hj : j ≤ 9) : RV P Q (sr v 7 (nI q) (nI j)) (sr s 6 (nI q) (nI j)) := by
  obtain ⟨⟨a, b, c, d⟩, e, f, g⟩ := h
  have hQ : Q ≤ 8 := a.2.1
  refine ⟨⟨a, b, fun q' hq' => ?_, d⟩, e, f, g⟩
  obtain ⟨c1, c2, c3⟩ := c q' hq'
  refine ⟨?_, ?_, fun p hp => ?_⟩
  · show upd (gr v 7) (nI q).toNatClampNeg (nI j) q' = upd (gr s 6) (nI q).toNatClampNeg (nI j) q'
    rw [nIc (by omega), upd_at, upd_at]
    split
    · rfl
    · exact c1
  · show ∃ w, w ≤ 9 ∧ upd (gr s 6) (nI q).toNatClampNeg (nI j) q' = nI w
    rw [nIc (by omega), upd_at]
    split
    · exact ⟨j, hj, rfl⟩
    · exact c2
  · rw [gr_sr, if_neg (by omega)]
    exact c3 p hp
theorem RV.noes {P Q : Nat} {v s : g_St} (h : RV P Q v s) {p j : Nat} (hp : p < P) (hj : j ≤ 9) : RV P Q (sr v 4 (nI p) (nI j)) (sr s 11 (nI p) (nI j)) := by
  obtain ⟨⟨a, b, c, d⟩, e, f, g⟩ := h
  have hP : P ≤ 6 := a.1
  refine ⟨⟨a, b, fun q' hq' => ?_, d⟩, fun p' hp' => ?_, ?_, g⟩
  · obtain ⟨c1, c2, c3⟩ := c q' hq'
    refine ⟨c1, c2, fun p hp => ?_⟩
    rw [gr_sr, if_neg (by omega)]
    exact c3 p hp
  · obtain ⟨e1, e2, e3⟩ := e p' hp'
    refine ⟨?_, e2, ?_⟩
    · show upd (gr v 4) (nI p).toNatClampNeg (nI j) p' = upd (gr s 11) (nI p).toNatClampNeg (nI j) p'
      rw [nIc (by omega), upd_at, upd_at]
      split
      · rfl
      · exact e1
    · show ∃ o, o ≤ 9 ∧ upd (gr s 11) (nI p).toNatClampNeg (nI j) p' = nI o
      rw [nIc (by omega), upd_at]
      split
      · exact ⟨j, hj, rfl⟩
      · exact e3
  · show gr v 9 3 = upd (gr s 11) (nI p).toNatClampNeg (nI j) 6 ∧ ∃ y, 1 ≤ y ∧ y ≤ 999 ∧ upd (gr s 11) (nI p).toNatClampNeg (nI j) 6 = nI y
    rw [nIc (by omega), upd_at, if_neg (by omega)]
    exact f
theorem t_weigh {P Q : Nat} {v s : g_St} (h : RV P Q v s) (x1 x2 : Int32) : ∃ r v' s', f_O_weigh v x1 x2 = some (r, v') ∧ f_M_weigh s x1 x2 = some (r, s') ∧ RV P Q v' s' ∧ OV s s' := by
  have h0 := h
  obtain ⟨⟨⟨hP, hQ, v0, s0, v6, s5⟩, hp, hq, hl⟩, hn, hy, hz⟩ := h0
  unfold f_O_weigh f_M_weigh
  rcases proposal_or v6 s5 (by omega) x1 with ⟨q, hqQ, rfl, e1, e2⟩ | ⟨e1, e2⟩
  · rw [e1, e2, if_neg ne10, if_neg ne10, within_in]
    rcases in_0 x2 9 (by omega) with ⟨e3, j, hj, rfl⟩ | e3
    · rw [show (9 : Int32) = nI 9 from rfl, e3, if_neg ne10, if_neg ne10]
      simp only [gd_of (vpn (show q < 8 by omega) (show 8 ≤ 4096 by omega)), lt_lt]
      rw [nIc (by omega), (hq q hqQ).1]
      exact ⟨_, _, _, rfl, rfl, h.weight hqQ hj, OV.rf⟩
    · rw [show (9 : Int32) = nI 9 from rfl, e3, if_pos rfl, if_pos rfl]; exact ⟨_, _, _, rfl, rfl, h, OV.rf⟩
  · rw [e1, e2, if_pos rfl, if_pos rfl]; exact ⟨_, _, _, rfl, rfl, h, OV.rf⟩
theorem t_noes {P Q : Nat} {v s : g_St} (h : RV P Q v s) (x1 x2 : Int32) : ∃ r v' s', f_O_noes v x1 x2 = some (r, v') ∧ f_M_noes s x1 x2 = some (r, s') ∧ RV P Q v' s' ∧ OV s s' := by
  have h0 := h
  obtain ⟨⟨⟨hP, hQ, v0, s0, v6, s5⟩, hp, hq, hl⟩, hn, hy, hz⟩ := h0
  unfold f_O_noes f_M_noes
  rcases person_or v0 s0 (by omega) x1 with ⟨q, hqQ, rfl, e1, e2⟩ | ⟨e1, e2⟩
  · rw [e1, e2, if_neg ne10, if_neg ne10, within_in]
    rcases in_0 x2 9 (by omega) with ⟨e3, j, hj, rfl⟩ | e3
    · rw [show (9 : Int32) = nI 9 from rfl, e3, if_neg ne10, if_neg ne10]
      simp only [gd_of (vpn (show q < 6 by omega) (show 6 ≤ 4096 by omega)), gd_of (vpn (show q < 35 by omega) (show 35 ≤ 4096 by omega)), lt_lt]
      rw [nIc (by omega), (hn q hqQ).1]
      exact ⟨_, _, _, rfl, rfl, h.noes hqQ hj, OV.rf⟩
    · rw [show (9 : Int32) = nI 9 from rfl, e3, if_pos rfl, if_pos rfl]; exact ⟨_, _, _, rfl, rfl, h, OV.rf⟩
  · rw [e1, e2, if_pos rfl, if_pos rfl]; exact ⟨_, _, _, rfl, rfl, h, OV.rf⟩
theorem RV.kind {P Q : Nat} {v s : g_St} (h : RV P Q v s) {p k a : Nat} (hp : p < P) (hk : k ≤ 5) (ha : a ≤ 255) : RV P Q (sr (sr v 1 (nI p) (nI k)) 2 (nI p) (nI a)) (sr (sr s 1 (nI p) (nI k)) 2 (nI p) (nI a)) := by
  obtain ⟨⟨a0, b, c, d⟩, e, f, g⟩ := h
  have hP : P ≤ 6 := a0.1
  refine ⟨⟨a0, fun p' hp' => ?_, fun q' hq' => ?_, d⟩, e, f, g⟩
  · obtain ⟨b1, b2, b3, b4, b5⟩ := b p' hp'
    show upd (gr v 1) (nI p).toNatClampNeg (nI k) p' = upd (gr s 1) (nI p).toNatClampNeg (nI k) p' ∧ upd (gr v 2) (nI p).toNatClampNeg (nI a) p' = upd (gr s 2) (nI p).toNatClampNeg (nI a) p' ∧ gr v 3 p' = gr s 3 p' ∧ (∃ k', k' ≤ 5 ∧ upd (gr s 1) (nI p).toNatClampNeg (nI k) p' = nI k') ∧ (∃ a', a' ≤ 255 ∧ upd (gr s 2) (nI p).toNatClampNeg (nI a) p' = nI a')
    rw [nIc (by omega)]
    simp only [upd_at]
    by_cases e : p' = p
    · simp only [if_pos e]; exact ⟨trivial, trivial, b3, ⟨k, hk, rfl⟩, ⟨a, ha, rfl⟩⟩
    · simp only [if_neg e]; exact ⟨b1, b2, b3, b4, b5⟩
  · obtain ⟨c1, c2, c3⟩ := c q' hq'
    refine ⟨c1, c2, fun p hp => ?_⟩
    rw [gr_sr, if_neg (by omega), gr_sr, if_neg (by omega)]
    exact c3 p hp
theorem t_mind {P Q : Nat} {v s : g_St} (h : RV P Q v s) (x1 x2 x3 : Int32) : ∃ r v' s', f_O_mind v x1 x2 x3 = some (r, v') ∧ f_M_mind s x1 x2 x3 = some (r, s') ∧ RV P Q v' s' ∧ OV s s' := by
  have h0 := h
  obtain ⟨⟨⟨hP, hQ, v0, s0, v6, s5⟩, hp, hq, hl⟩, hn, hy, hz⟩ := h0
  unfold f_O_mind f_M_mind f_S_isMind
  rcases person_or v0 s0 (by omega) x1 with ⟨q, hqQ, rfl, e1, e2⟩ | ⟨e1, e2⟩
  · rw [e1, e2, if_neg ne10, if_neg ne10, within_in, within_in]
    rcases in_0 x2 5 (by omega) with ⟨e3, j, hj, rfl⟩ | e3
    · rw [show (5 : Int32) = nI 5 from rfl, e3, if_neg ne10, if_neg ne10]
      rcases in_0 x3 255 (by omega) with ⟨e4, a, ha, rfl⟩ | e4
      · rw [show (255 : Int32) = nI 255 from rfl, e4, if_neg ne10, if_neg ne10, if_neg ne10]
        simp only [gd_of (vpn (show q < 6 by omega) (show 6 ≤ 4096 by omega)), lt_lt]
        rw [nIc (by omega), (hp q hqQ).1]
        exact ⟨_, _, _, rfl, rfl, h.kind hqQ hj ha, OV.rf⟩
      · rw [show (255 : Int32) = nI 255 from rfl, e4, if_pos rfl, if_pos rfl, if_pos rfl]; exact ⟨_, _, _, rfl, rfl, h, OV.rf⟩
    · rw [show (5 : Int32) = nI 5 from rfl, e3, if_pos rfl, if_pos rfl, if_pos rfl]; exact ⟨_, _, _, rfl, rfl, h, OV.rf⟩
  · rw [e1, e2, if_pos rfl, if_pos rfl]; exact ⟨_, _, _, rfl, rfl, h, OV.rf⟩
theorem t_give {P Q : Nat} {v s : g_St} (h : RV P Q v s) (x1 x2 : Int32) : ∃ r v' s', f_O_give v x1 x2 = some (r, v') ∧ f_M_give s x1 x2 = some (r, s') ∧ RV P Q v' s' ∧ OV s s' := by
  have h0 := h
  obtain ⟨⟨⟨hP, hQ, v0, s0, v6, s5⟩, hp, hq, hl⟩, hn, hy, hz⟩ := h0
  unfold f_O_give f_M_give
  rcases person_or v0 s0 (by omega) x1 with ⟨p, hpP, rfl, e1, e2⟩ | ⟨e1, e2⟩
  · rw [e1, e2, if_neg ne10, if_neg ne10]
    rcases person_or v0 s0 (by omega) x2 with ⟨q, hqP, rfl, e3, e4⟩ | ⟨e3, e4⟩
    · rw [e3, e4, if_neg ne10, if_neg ne10]
      by_cases epq : nI p = nI q
      · rw [if_pos epq, if_pos epq]; exact ⟨_, _, _, rfl, rfl, h, OV.rf⟩
      · rw [if_neg epq, if_neg epq]
        have hpq : p ≠ q := fun e => epq (by rw [e])
        obtain ⟨a1, -, o1, ho1, a2⟩ := hn p hpP
        obtain ⟨b1, -, o2, ho2, b2⟩ := hn q hqP
        simp only [gd_of (vpn (show p < 6 by omega) (show 6 ≤ 4096 by omega)), gd_of (vpn (show p < 35 by omega) (show 35 ≤ 4096 by omega)), gd_of (vpn (show q < 6 by omega) (show 6 ≤ 4096 by omega)), gd_of (vpn (show q < 35 by omega) (show 35 ≤ 4096 by omega)), lt_lt, nIc (show p ≤ 4096 by omega), nIc (show q ≤ 4096 by omega), a1, b1, a2, b2]
        by_cases z : nI o1 = 0
        · rw [if_pos z, if_pos z]; exact ⟨_, _, _, rfl, rfl, h, OV.rf⟩
        · rw [if_neg z, if_neg z]
          have ho1' : o1 ≠ 0 := fun e => z (by rw [e]; rfl)
          by_cases z2 : o2 = 9
          · subst z2
            rw [if_neg (show ¬ nI 9 < 9 by decide), if_pos (show nI 9 = 9 from rfl)]; exact ⟨_, _, _, rfl, rfl, h, OV.rf⟩
          · have e9 : nI o2 < 9 := (nIlt (b := 9) (by omega) (by omega)).mpr (by omega)
            have e9' : ¬ nI o2 = 9 := fun e => z2 ((nIeq (b := 9) (by omega) (by omega)).mp e)
            rw [if_pos e9, if_neg e9']
            have f1 : nI o1 - 1 = nI (o1 - 1) := pk_sub (b := 1) (by omega)
            have f2 : ∀ (w : g_St) (k : Nat), gr (sr w k (nI p) (nI o1 - 1)) k q = gr w k q := fun w k => by rw [gr_sr, if_pos rfl, nIc (by omega), upd_at, if_neg (Ne.symm hpq)]
            have f3 : ∀ (w : g_St) (k : Nat) (x : Int32), gr (sr w k (nI q) x) k q = x := fun w k x => by rw [gr_sr, if_pos rfl, nIc (by omega), upd_at, if_pos rfl]
            simp only [f2, f3, b1, b2]
            rw [f1, show nI o2 + 1 = nI (o2 + 1) from nI_1 o2]
            exact ⟨_, _, _, rfl, rfl, (h.noes hpP (by omega)).noes hqP (by omega), OV.rf⟩
    · rw [e3, e4, if_pos rfl, if_pos rfl]; exact ⟨_, _, _, rfl, rfl, h, OV.rf⟩
  · rw [e1, e2, if_pos rfl, if_pos rfl]; exact ⟨_, _, _, rfl, rfl, h, OV.rf⟩
theorem RV.wor {P Q : Nat} {v s : g_St} (h : RV P Q v s) {q p : Nat} (hq : q < Q) (hp : p < P) {x : Int32} (h1 : -9 ≤ x.toInt) (h2 : x.toInt ≤ 9) : RV P Q (sr v (20 + q) (nI p) x) (sr s 7 (nI (6 * q + p)) x) := by
  obtain ⟨⟨a, b, c, d⟩, e, f, g⟩ := h
  have hP : P ≤ 6 := a.1
  have hQ : Q ≤ 8 := a.2.1
  have k : ∀ j, j < 20 → gr (sr v (20 + q) (nI p) x) j = gr v j := fun j hj => by rw [gr_sr, if_neg (by omega)]
  refine ⟨⟨a, fun p' hp' => ?_, fun q' hq' => ?_, ?_⟩, fun p' hp' => ?_, ?_, g⟩
  · rw [k 1 (by omega), k 2 (by omega), k 3 (by omega)]; exact b p' hp'
  · obtain ⟨c1, c2, c3⟩ := c q' hq'
    rw [k 7 (by omega)]
    refine ⟨c1, c2, fun p' hp' => ?_⟩
    show gr (sr v (20 + q) (nI p) x) (20 + q') p' = upd (gr s 7) (nI (6 * q + p)).toNatClampNeg x (6 * q' + p') ∧ -9 ≤ (upd (gr s 7) (nI (6 * q + p)).toNatClampNeg x (6 * q' + p')).toInt ∧ (upd (gr s 7) (nI (6 * q + p)).toNatClampNeg x (6 * q' + p')).toInt ≤ 9
    rw [nIc (by omega), gr_sr]
    by_cases e1 : q' = q
    · subst e1
      rw [if_pos rfl, nIc (by omega)]
      simp only [upd_at]
      by_cases e2 : p' = p
      · subst e2; rw [if_pos rfl, if_pos rfl]; exact ⟨rfl, h1, h2⟩
      · rw [if_neg e2, if_neg (by omega)]; exact c3 p' hp'
    · rw [if_neg (by omega)]
      simp only [upd_at]
      rw [if_neg (by omega)]
      exact c3 p' hp'
  · rw [k 9 (by omega)]; exact d
  · rw [k 4 (by omega), k 5 (by omega)]; exact e p' hp'
  · rw [k 9 (by omega)]; exact f
theorem in_9 (x : Int32) : (f_S_in x (-9) 9 = 1 ∧ -9 ≤ x.toInt ∧ x.toInt ≤ 9) ∨ f_S_in x (-9) 9 = 0 := by
  rcases in_cases x (-9) 9 with ⟨h, a, b⟩ | ⟨h, -⟩
  · left
    rw [Int32.lt_iff_toInt_lt, show (-9 : Int32).toInt = -9 from rfl] at a
    rw [Int32.lt_iff_toInt_lt, show (9 : Int32).toInt = 9 from rfl] at b
    exact ⟨h, by omega, by omega⟩
  · exact Or.inr h
theorem t_worth {P Q : Nat} {v s : g_St} (h : RV P Q v s) (x1 x2 x3 : Int32) : ∃ r v' s', f_O_worth v x1 x2 x3 = some (r, v') ∧ f_M_worth s x1 x2 x3 = some (r, s') ∧ RV P Q v' s' ∧ OV s s' := by
  have h0 := h
  obtain ⟨⟨⟨hP, hQ, v0, s0, v6, s5⟩, hp, hq, hl⟩, hn, hy, hz⟩ := h0
  unfold f_O_worth f_M_worth
  rcases proposal_or v6 s5 (by omega) x1 with ⟨q, hqQ, rfl, e1, e2⟩ | ⟨e1, e2⟩
  · rw [e1, e2, if_neg ne10, if_neg ne10]
    rcases person_or v0 s0 (by omega) x2 with ⟨p, hpP, rfl, e3, e4⟩ | ⟨e3, e4⟩
    · rw [e3, e4, if_neg ne10, if_neg ne10, within_in]
      rcases in_9 x3 with ⟨e5, b1, b2⟩ | e5
      · rw [e5, if_neg ne10, if_neg ne10]
        simp only [gd_of (vpn (show q < 8 by omega) (show 8 ≤ 4096 by omega)), gd_of (vpn (show p < 6 by omega) (show 6 ≤ 4096 by omega)), lt_lt, nIc (show p ≤ 4096 by omega), nIc (show q ≤ 4096 by omega)]
        rw [bd1_eq _ (M_worthTo (by omega) (by omega))]
        simp only [six]
        rw [gd_of (vpn (show 6 * q + p < 48 by omega) (by omega)), ((hq q hqQ).2.2 p hpP).1]
        exact ⟨_, _, _, rfl, rfl, h.wor hqQ hpP b1 b2, OV.rf⟩
      · rw [e5, if_pos rfl, if_pos rfl]; exact ⟨_, _, _, rfl, rfl, h, OV.rf⟩
    · rw [e3, e4, if_pos rfl, if_pos rfl]; exact ⟨_, _, _, rfl, rfl, h, OV.rf⟩
  · rw [e1, e2, if_pos rfl, if_pos rfl]; exact ⟨_, _, _, rfl, rfl, h, OV.rf⟩
theorem t_proposalOf {P Q : Nat} {v s : g_St} (h : RV P Q v s) (x1 x2 : Int32) : ∃ r, f_O_proposalOf v x1 x2 = some r ∧ f_M_proposalOf s x1 x2 = some r := by
  obtain ⟨⟨⟨hP, hQ, v0, s0, v6, s5⟩, hp, hq, hl⟩, hn, hy, hz⟩ := h
  unfold f_O_proposalOf f_M_proposalOf f_M_proposalOf_L23
  rcases proposal_or v6 s5 (by omega) x1 with ⟨q, hqQ, rfl, e1, e2⟩ | ⟨e1, e2⟩
  · rw [e1, e2, if_neg ne10, if_neg ne10]
    by_cases b : x2 = -1
    · simp only [if_pos b, gd_of (vpn (show q < 8 by omega) (show 8 ≤ 4096 by omega)), nIc (show q ≤ 4096 by omega), (hq q hqQ).1]; exact ⟨_, rfl, rfl⟩
    · rw [if_neg b, if_neg b, if_neg b]
      rcases person_or v0 s0 (by omega) x2 with ⟨p, hpP, rfl, e3, e4⟩ | ⟨e3, e4⟩
      · rw [e3, e4, if_neg ne10, if_neg ne10, bd1_eq _ (M_worthTo (by omega) (by omega)), gd_of (vpn (show q < 8 by omega) (by omega)), gd_of (vpn (show p < 6 by omega) (by omega)), nIc (by omega), nIc (by omega), ((hq q hqQ).2.2 p hpP).1]
        exact ⟨_, rfl, rfl⟩
      · rw [e3, e4, if_pos rfl, if_pos rfl]; exact ⟨_, rfl, rfl⟩
  · rw [e1, e2, if_pos rfl, if_pos rfl]; exact ⟨_, rfl, rfl⟩
theorem t_seed {P Q : Nat} {v s : g_St} (h : RV P Q v s) (x1 : Int32) : (f_O_seed v x1).1 = (f_M_seed s x1).1 ∧ RV P Q (f_O_seed v x1).2 (f_M_seed s x1).2 ∧ OV s (f_M_seed s x1).2 := by
  obtain ⟨a, b, c, d⟩ := h
  exact ⟨d.1, ⟨a, b, c, rfl, d.2⟩, OV.rf⟩
theorem t_had {P Q : Nat} {v s : g_St} (h : RV P Q v s) (x1 : Int32) : ∃ r, f_O_had v x1 = some r ∧ f_M_had s x1 = some r := by
  obtain ⟨⟨⟨hP, hQ, v0, s0, v6, s5⟩, hp, hq, hl⟩, hn, hy, hz⟩ := h
  unfold f_O_had f_M_had
  rcases person_or v0 s0 (by omega) x1 with ⟨p, hpP, rfl, e1, e2⟩ | ⟨e1, e2⟩
  · rw [e1, e2, if_neg ne10, if_neg ne10, gd_of (vpn (show p < 6 by omega) (by omega)), gd_of (vpn (show p < 6 by omega) (by omega)), nIc (by omega), (hn p hpP).2.1]
    exact ⟨_, rfl, rfl⟩
  · rw [e1, e2, if_pos rfl, if_pos rfl]; exact ⟨_, rfl, rfl⟩
