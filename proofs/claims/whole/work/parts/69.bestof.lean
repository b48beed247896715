/-! best and should. -/
theorem t_best {fu P Q : Nat} (hfu : 5000 ≤ fu) {v s : g_St} (h : RV P Q v s) (c : RC s) (ah aw : g_St) (x1 x2 x3 : Int32) : ∃ r ah' aw' s', f_O_best fu v ah aw x1 x2 x3 = some (r, ah', aw') ∧ f_M_best fu s x1 x2 x3 = some (r, s') ∧ RV P Q v s' ∧ OV s s' := by
  obtain ⟨⟨hP, hQ, v0, s0, v6, s5⟩, -⟩ := h.1
  have h29 := c.2.2.2.2.2.2
  have hS := h.1
  have hle := sm_le (w := wgS s) Q (fun p hp => (wg_at hS hp).2.2)
  unfold f_O_best f_M_best
  rw [within_in, within_in, side_of]
  rcases person_or v0 s0 (by omega) x1 with ⟨p, hpP, rfl, e1, e2⟩ | ⟨e1, e2⟩
  · rw [e1, e2, if_neg ne10, if_neg ne10]
    rcases in_0 x2 3 (by omega) with ⟨e3, n, hn, rfl⟩ | e3
    · have e3' : f_S_in (nI n) 0 3 = 1 := e3
      rw [e3', if_neg ne10, if_neg ne10]
      by_cases k : f_S_in x3 0 1 = 0
      · rw [if_pos k, if_pos k]; exact ⟨_, ah, aw, s, rfl, rfl, h, OV.rf⟩
      · rw [if_neg k, if_neg k]
        obtain ⟨-, W2⟩ := W_weights hfu hS
        obtain ⟨ah', aw', l1, l2, l3, l4⟩ := W_look hfu hS ah aw (nI p)
        have hA := h.copy l4
        obtain ⟨y, y1, hR, y2, hd⟩ := hA.row
        have f1 := A_best_n (T := tw (sm (wgS s) Q)) hfu hA.1 hpP l2 l3 n 6 y (dgS s 0) hn (by omega) (fun p hp => (hd p hp).2) hR.2.2.2.1 (by omega)
        have f1' : f_A_bestSum fu ah' aw' (nI n) = some (bst fu P Q aw' s p (tw (sm (wgS s) Q)) n y (dgS s 0)) := by
          unfold f_A_bestSum
          rw [bd1_eq _ (V_packed hfu hA.1.1.2.2.1 hP hd), cl3, y2, bd1_eq _ f1]
        rw [bd2_eq _ l1, bd1_eq _ f1', gd_of (vpn (n := n) (N := 4) (by omega) (by omega)), nIc (show n ≤ 4096 by omega), l3 n hn, bd1_eq _ W2]
        by_cases z : sm (wgS s) Q = 0
        · rw [bst_0 (sm_0 Q z), z, if_pos (show nI 0 = 0 from rfl), show tw 0 = 1 from rfl, pwr_1, bd1_eq _ (part01 hfu x3)]
          by_cases w : x3 = 0
          · rw [if_pos w, if_pos w]; exact ⟨0, ah', aw', s, rfl, rfl, h, OV.rf⟩
          · rw [if_neg w, if_neg w]; exact ⟨1, ah', aw', s, rfl, rfl, h, OV.rf⟩
        · have tt : tw (sm (wgS s) Q) = (nI (sm (wgS s) Q)).toInt64 := by
            unfold tw
            by_cases o : sm (wgS s) Q = 1
            · rw [o]; rfl
            · rw [if_pos (show (1 : Int32) < nI (sm (wgS s) Q) from nI_lt (a := 1) (by omega) (by omega))]
          obtain ⟨s1, g1, g2⟩ := M_bestBy (n := n) (A := 0) (s0 := s) (T := tw (sm (wgS s) Q)) hfu hpP (show 0 < sm (wgS s) Q by omega) (by omega) tt hn (by omega) (by omega) (by omega) hA.1 OW.rf hR h29
          have g1' : f_M_bestBy fu s (nI p) 0 (nI n) (nI (sm (wgS s) Q)) = _ := g1
          obtain ⟨r, s', j1, j2, j3⟩ := W_part hfu s1 (bst fu P Q aw' s p (tw (sm (wgS s) Q)) n y (dgS s 0)) n hn (show 0 < sm (wgS s) Q by omega) (by omega) x3
          rw [if_neg (nI_ne0 (by omega) (by omega)), bd2_eq _ g1', bd1_eq _ j1]
          have o := g2.nums j3
          exact ⟨r, ah', aw', s', rfl, j2, h.ag (o.ag (by omega)), o.ov⟩
    · have e3' : f_S_in x2 0 3 = 0 := e3
      rw [e3', if_pos rfl, if_pos rfl]; exact ⟨_, ah, aw, s, rfl, rfl, h, OV.rf⟩
  · rw [e1, e2, if_pos rfl, if_pos rfl]; exact ⟨_, ah, aw, s, rfl, rfl, h, OV.rf⟩
/-- the reference, behind the questions -/
theorem M_should_end {fu P Q y n p q : Nat} {v s : g_St} {d : Nat → Nat} (hfu : 5000 ≤ fu) (hS : SV P Q v s) (hR : RW P 0 y d s) (h29 : gi s 29 = -1) (hp : p < P) (hq : q < Q) (hn : n ≤ 2) (hy : y ≤ 1900) : ∃ s', f_M_should_L61 fu s (nI p) (nI q) (nI n) (nI (sm (wgS s) Q)) (pwr (tw (sm (wgS s) Q)) n) = some (if lg_cmp (hsv s p q (felln s (rS fu P v p q y d 1)) * pwr (tw (sm (wgS s) Q)) n + bst fu P Q v s p (tw (sm (wgS s) Q)) n (y + 1) (nwd (grw s y) (rS fu P v p q y d 1) d)) (hsv s p q (felln s (rS fu P v p q y d 0)) * pwr (tw (sm (wgS s) Q)) n + bst fu P Q v s p (tw (sm (wgS s) Q)) n (y + 1) (nwd (grw s y) (rS fu P v p q y d 0) d)) ≤ 0 then 0 else 1, s') ∧ OW 7 s s' := by
  have hP := hS.1.1
  have hQ := hS.1.2.1
  have hle := sm_le (w := wgS s) Q (fun p hp => (wg_at hS hp).2.2)
  -- what is behind it
  have beh : ∀ (d2 : Nat → Nat) (t : g_St), SV P Q v t → OW 0 s t → RW P 7 (y + 1) d2 t → gi t 29 = -1 → ∃ t', f_M_bestBy fu t (nI p) 7 (nI n) (nI (sm (wgS s) Q)) = some (bst fu P Q v s p (tw (sm (wgS s) Q)) n (y + 1) d2, t') ∧ OW 14 t t' := fun d2 t h1 h2 h3 h4 => by
    by_cases z : sm (wgS s) Q = 0
    · refine ⟨t, ?_, OW.rf⟩
      rw [bst_0 (sm_0 Q z), z]
      unfold f_M_bestBy
      by_cases n0 : nI n = 0
      · rw [if_pos n0]
      · rw [if_neg n0, if_pos (show nI 0 = 0 from rfl)]
    · have tt : tw (sm (wgS s) Q) = (nI (sm (wgS s) Q)).toInt64 := by
        unfold tw
        by_cases o : sm (wgS s) Q = 1
        · rw [o]; rfl
        · rw [if_pos (show (1 : Int32) < nI (sm (wgS s) Q) from nI_lt (a := 1) (by omega) (by omega))]
      exact M_bestBy (n := n) (A := 7) (s0 := s) (T := tw (sm (wgS s) Q)) hfu hp (show 0 < sm (wgS s) Q by omega) (by omega) tt (by omega) (by omega) (by omega) (by omega) h1 h2 h3 h4
  obtain ⟨s2, e1, e2, e3, e4, e5, e6⟩ := W_has0 (says := 1) (s0 := s) hfu hS OW.rf hR hq hp (by omega) h29 (by omega) (by omega)
  obtain ⟨s3, a1, a2⟩ := beh _ s2 e4 e5 e2 e6
  have a3 : OW 7 s2 s3 := a2.mono (by omega)
  have a4 := a3.sv e4
  have a5 : OW 0 s s3 := e5.trans (a3.mono (Nat.zero_le _))
  have a6 := (a3.1 29 (by omega) (by omega)).trans e6
  have r3 := a3.rw (e3.rw hR hP (by omega)) hP (by omega)
  obtain ⟨s6, f1, f2, f3, f4, f5, f6⟩ := W_has0 (says := 0) (s0 := s) hfu a4 a5 r3 hq hp (by omega) a6 (by omega) (by omega)
  obtain ⟨s7, b1, b2⟩ := beh _ s6 f4 f5 f2 f6
  have b3 : OW 7 s6 s7 := b2.mono (by omega)
  have e1' : f_M_hasNow fu s (nI p) 0 (nI q) 1 = _ := e1
  have f1' : f_M_hasNow fu s3 (nI p) 0 (nI q) 0 = _ := f1
  refine ⟨s7, ?_, ((e3.trans a3).trans f3).trans b3⟩
  unfold f_M_should_L61
  rw [bd2_eq _ e1', lt_lt, bd2_eq _ a1, lt_lt, bd2_eq _ f1', lt_lt, bd2_eq _ b1, lt_lt]
  split
  · rfl
  · rfl
theorem t_should {fu P Q : Nat} (hfu : 5000 ≤ fu) {v s : g_St} (h : RV P Q v s) (c : RC s) (ah aw : g_St) (x1 x2 x3 : Int32) : ∃ r ah' aw' s', f_O_should fu v ah aw x1 x2 x3 = some (r, ah', aw') ∧ f_M_should fu s x1 x2 x3 = some (r, s') ∧ RV P Q v s' ∧ OV s s' := by
  obtain ⟨⟨hP, hQ, v0, s0, v6, s5⟩, -⟩ := h.1
  have h29 := c.2.2.2.2.2.2
  have hS := h.1
  have hle := sm_le (w := wgS s) Q (fun p hp => (wg_at hS hp).2.2)
  unfold f_O_should f_M_should
  rw [within_in]
  rcases person_or v0 s0 (by omega) x1 with ⟨p, hpP, rfl, e1, e2⟩ | ⟨e1, e2⟩
  · rw [e1, e2, if_neg ne10, if_neg ne10]
    rcases proposal_or v6 s5 (by omega) x2 with ⟨q, hqQ, rfl, e3, e4⟩ | ⟨e3, e4⟩
    · rw [e3, e4, if_neg ne10, if_neg ne10]
      rcases in_0 x3 2 (by omega) with ⟨e5, n, hn, rfl⟩ | e5
      · have e5' : f_S_in (nI n) 0 2 = 1 := e5
        rw [e5', if_neg ne10, if_neg ne10, gd_of (vpn (n := p) (N := 6) (by omega) (by omega)), gd_of (vpn (n := p) (N := 35) (by omega) (by omega)), nIc (show p ≤ 4096 by omega), (h.2.1 p hpP).1]
        by_cases z0 : gr s 11 p = 0
        · rw [if_pos z0, if_pos z0]; exact ⟨_, ah, aw, s, rfl, rfl, h, OV.rf⟩
        · rw [if_neg z0, if_neg z0]
          obtain ⟨-, W2⟩ := W_weights hfu hS
          obtain ⟨ah', aw', l1, l2, l3, l4⟩ := W_look hfu hS ah aw (nI p)
          have hA := h.copy l4
          obtain ⟨y, y1, hR, y2, hd⟩ := hA.row
          have d0 : ¬ dgS s 0 p = 0 := fun t => z0 (by
            have k := (hR.1 p hpP).1
            rw [Nat.zero_add, t] at k
            exact k)
          obtain ⟨s', g1, g2⟩ := M_should_end hfu hA.1 hR h29 hpP hqQ hn (by omega)
          -- the reference
          have hM : (bd1 (f_M_weightsInAll fu s) fun r5 => if r5 = 0 then (f_M_should_L61 fu s (nI p) (nI q) (nI n) r5 (1 : Int64)) else (bd1 (f_S_power fu (r5.toInt64) (nI n)) fun r8 => f_M_should_L61 fu s (nI p) (nI q) (nI n) r5 r8)) = f_M_should_L61 fu s (nI p) (nI q) (nI n) (nI (sm (wgS s) Q)) (pwr (tw (sm (wgS s) Q)) n) := by
            rw [bd1_eq _ W2]
            by_cases z : sm (wgS s) Q = 0
            · rw [z, if_pos (show nI 0 = 0 from rfl), show tw 0 = 1 from rfl, pwr_1]
            · have tt : tw (sm (wgS s) Q) = (nI (sm (wgS s) Q)).toInt64 := by
                unfold tw
                by_cases o : sm (wgS s) Q = 1
                · rw [o]; rfl
                · rw [if_pos (show (1 : Int32) < nI (sm (wgS s) Q) from nI_lt (a := 1) (by omega) (by omega))]
              rw [if_neg (nI_ne0 (by omega) (by omega)), bd1_eq _ (S_power hfu (by omega)), tt]
          rw [hM, g1]
          -- the class
          obtain ⟨k1, k2, k3, -⟩ := V_sets hfu hA.1 hR hqQ hpP
          have arm : ∀ says, f_A_withSayers fu (f_A_bestSumFrom fu 6) ah' aw' (nI (rS fu P aw' p q y (dgS s 0) says)) (nI q) (nI (n + 1)) (nI y) (nI (dgs 4 (dgS s 0) P)) = some (hsv s p q (felln s (rS fu P aw' p q y (dgS s 0) says)) * pwr (tw (sm (wgS s) Q)) n + bst fu P Q aw' s p (tw (sm (wgS s) Q)) n (y + 1) (nwd (grw s y) (rS fu P aw' p q y (dgS s 0) says) (dgS s 0))) := fun says => by
            obtain ⟨r1, r2, -, -⟩ := rS_spec (says := says) hfu hA.1 hR hqQ hpP
            refine A_with hfu hA.1 hqQ hpP l2 l3 hn r1 (fun x hx => (hd x hx).2) r2 ?_
            by_cases n0 : n = 0
            · subst n0; exact Or.inl ⟨rfl, rfl⟩
            · exact Or.inr ⟨n0, A_best_n hfu hA.1 hpP l2 l3 n 6 (y + 1) _ (by omega) (by omega) (fun x hx => nwd_le (hd x hx).2) (by omega) (by omega)⟩
          have hC : f_A_isNoBetter fu ah' aw' (nI q) (nI n + 1) = some (if lg_cmp (hsv s p q (felln s (rS fu P aw' p q y (dgS s 0) 1)) * pwr (tw (sm (wgS s) Q)) n + bst fu P Q aw' s p (tw (sm (wgS s) Q)) n (y + 1) (nwd (grw s y) (rS fu P aw' p q y (dgS s 0) 1) (dgS s 0))) (hsv s p q (felln s (rS fu P aw' p q y (dgS s 0) 0)) * pwr (tw (sm (wgS s) Q)) n + bst fu P Q aw' s p (tw (sm (wgS s) Q)) n (y + 1) (nwd (grw s y) (rS fu P aw' p q y (dgS s 0) 0) (dgS s 0))) ≤ 0 then 0 else 1) := by
            unfold f_A_isNoBetter
            rw [lt_lt, bd1_eq _ (V_packed hfu hA.1.1.2.2.1 hP hd), cl3, y2, bd1_eq _ k1, ownBit l2, bd1_eq _ (k3 d0), bd1_eq _ k2]
            by_cases eq : nI (rS fu P aw' p q y (dgS s 0) 1) = nI (rS fu P aw' p q y (dgS s 0) 0)
            · obtain ⟨r1, -⟩ := rS_spec (says := 1) hfu hA.1 hR hqQ hpP
              obtain ⟨r0, -⟩ := rS_spec (says := 0) hfu hA.1 hR hqQ hpP
              rw [if_pos eq, (nIeq (by omega) (by omega)).mp eq, if_pos ((lg_cmp_le _ _).mpr (Int64.le_refl _))]
            · rw [if_neg eq, nI_1, bd1_eq _ (arm 1), bd1_eq _ (arm 0)]
              split
              · rfl
              · rfl
          rw [bd2_eq _ l1, bd1_eq _ hC]
          split
          · rw [if_pos rfl]; exact ⟨_, ah', aw', s', rfl, rfl, h.ag (g2.ag (by omega)), g2.ov⟩
          · rw [if_neg ne10]; exact ⟨_, ah', aw', s', rfl, rfl, h.ag (g2.ag (by omega)), g2.ov⟩
      · have e5' : f_S_in x3 0 2 = 0 := e5
        rw [e5', if_pos rfl, if_pos rfl]; exact ⟨_, ah, aw, s, rfl, rfl, h, OV.rf⟩
    · rw [e3, e4, if_pos rfl, if_pos rfl]; exact ⟨_, ah, aw, s, rfl, rfl, h, OV.rf⟩
  · rw [e1, e2, if_pos rfl, if_pos rfl]; exact ⟨_, ah, aw, s, rfl, rfl, h, OV.rf⟩
