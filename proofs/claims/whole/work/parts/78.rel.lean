/-! What both know, kept by each call; the law's walk. -/
theorem fb_by (x : Int64) (k : Nat) (hk : k < 8) : ∃ b, b ≤ 255 ∧ ((g_shrL x ((8 : Int32) * nI k)) &&& 255).toInt32 = nI b := by
  rw [← fb x k hk]
  obtain ⟨j, h1, h2⟩ := pk_andE ((g_ushrL x ((8 : Int32) * nI k)).toInt32) (m := 255) 8 (by decide)
  exact ⟨j, by omega, h2⟩
theorem feed_by_L {fu N M : Nat} (x : Int64) (hM : M ≤ 8) (hNM : N + M ≤ 240) : ∀ (k n j : Nat) (s s' : g_St) (r : Int32), k + j = M → k < n → gi s 16 = nI (N + j) → BY (N + j) s → f_M_feed_L30 fu n s x (nI M) (nI j) = some (r, s') → BY (N + M) s' := by
  intro k
  induction k with
  | zero =>
    intro n j s s' r hk hn h1 h2 e
    obtain ⟨m, rfl⟩ : ∃ m, n = m + 1 := ⟨n - 1, by omega⟩
    rw [f_M_feed_L30, if_pos (nI_le (by omega) (by omega))] at e
    cases e
    have ej : j = M := by omega
    rw [ej] at h2; exact h2
  | succ k ih =>
    intro n j s s' r hk hn h1 h2 e
    obtain ⟨m, rfl⟩ : ∃ m, n = m + 1 := ⟨n - 1, by omega⟩
    have c1 : (nI (N + j)).toNatClampNeg = N + j := nIc (by omega)
    rw [f_M_feed_L30, if_neg (nI_ge (by omega) (by omega)), h1, lt_lt, gd_of (vpn (n := N + j) (N := 240) (by omega) (by omega)), lt_lt, lt_lt, lt_lt, lt_lt, gi_sr, h1, nI_1, nI_1] at e
    refine ih m (j + 1) _ s' r (by omega) (by omega) rfl (fun i hi => ?_) e
    show ∃ b, b ≤ 255 ∧ upd (gr s 15) (nI (N + j)).toNatClampNeg _ i = nI b
    rw [c1, upd_at]
    by_cases z : i = N + j
    · rw [if_pos z]; exact fb_by x j (by omega)
    · rw [if_neg z]; exact h2 i (by omega)
theorem feed_by {fu N : Nat} (hfu : 5000 ≤ fu) {w tp s s' : g_St} (h : TP N w tp s) (hb : BY N s) {x1 : Int64} {x3 r : Int32} (e : f_M_feed fu s x1 x3 = some (r, s')) : ∃ N', gi s' 16 = nI N' ∧ N' ≤ 240 ∧ BY N' s' := by
  have h' := h
  obtain ⟨hN, w6, s16, ht⟩ := h'
  obtain ⟨r2, w2, tp2, s2, N2, f1, f2, f3, -⟩ := t_feed hfu h x1 x3
  rw [f2] at e
  cases e
  refine ⟨N2, f3.2.2.1, f3.1, ?_⟩
  unfold f_M_feed at f2
  rw [s16] at f2
  rcases in_ab x3 1 8 (by omega) (by omega) with ⟨q, M, hM1, hM, rfl⟩ | q
  · have q' : f_S_in (nI M) 1 8 = 1 := q
    rw [q', if_neg ne10, nI_add] at f2
    by_cases z : N + M ≤ 240
    · rw [if_pos (show nI (N + M) ≤ (240 : Int32) from (nIle (b := 240) (by omega) (by omega)).mpr z)] at f2
      obtain ⟨tp', s'', g1, g2, g3, -⟩ := W_feed_L (fu := fu) (N := N) (M := M) (w := w) x1 hM z w6 M fu 0 tp s (by omega) (by omega) s16 ht
      have g2' : f_M_feed_L30 fu fu s x1 (nI M) 0 = some (nI (N + M), s'') := g2
      have b := feed_by_L (fu := fu) x1 hM z M fu 0 s _ _ (by omega) (by omega) s16 hb f2
      rw [g2'] at f2
      cases f2
      have e2 : N2 = N + M := (nIeq (by have := f3.1; omega) (by omega)).mp (f3.2.2.1.symm.trans g3)
      rw [e2]; exact b
    · rw [if_neg (show ¬ nI (N + M) ≤ (240 : Int32) from fun q => z ((nIle (b := 240) (by omega) (by omega)).mp q))] at f2
      cases f2
      have e2 : N2 = N := (nIeq (by have := f3.1; omega) (by omega)).mp (f3.2.2.1.symm.trans s16)
      rw [e2]; exact hb
  · have q' : f_S_in x3 1 8 = 0 := q
    rw [q', if_pos rfl] at f2
    cases f2
    have e2 : N2 = N := (nIeq (by have := f3.1; omega) (by omega)).mp (f3.2.2.1.symm.trans s16)
    rw [e2]; exact hb
def REL (ow nw kp tp : g_St) (hh : g_Sf) (tr s : g_St) : Prop := (∃ P Q, RV P Q nw s) ∧ RC s ∧ (∃ N, TP N ow tp s ∧ BY N s) ∧ (∃ N, RO N ow s) ∧ HS hh s ∧ HE ow s ∧ (∃ N, TR N tr s) ∧ KE ow kp s
theorem REL.ov {ow nw kp tp tr s nw' s' : g_St} {hh : g_Sf} {P Q : Nat} (h : REL ow nw kp tp hh tr s) (hr : RV P Q nw' s') (o : OV s s') : REL ow nw' kp tp hh tr s' := by
  obtain ⟨-, hc, ⟨N, hT, hB⟩, ⟨M, hO⟩, hH, hE, ⟨K, hR⟩, hK⟩ := h
  obtain ⟨⟨i16, i29, i36, i47, i49⟩, ⟨r9, r10, r15, r34, r37, r38⟩, r40, r41, r42, r46, r50, t39⟩ := o
  refine ⟨⟨P, Q, hr⟩, ?_, ⟨N, ?_, ?_⟩, ⟨M, ?_⟩, ?_, ?_, ⟨K, ?_⟩, ?_⟩
  · unfold RC at hc ⊢; rw [r9, r10, i29]; exact hc
  · unfold TP at hT ⊢; rw [i16, r15]; exact hT
  · unfold BY at hB ⊢; rw [r15]; exact hB
  · unfold RO at hO ⊢; rw [i36, r34]; exact hO
  · unfold HS at hH ⊢; rw [r37, r38, t39]; exact hH
  · unfold HE at hE ⊢; rw [r40, r41, r42]; exact hE
  · unfold TR at hR ⊢; rw [i47, r46]; exact hR
  · unfold KE at hK ⊢; rw [i49, r50]; exact hK
theorem AG.all {s t : g_St} (h1 : ∀ i, i ≤ 16 → gi t i = gi s i) (h2 : ∀ i, i ≤ 11 → gr t i = gr s i) : AG s t := ⟨⟨h1 0 (by omega), h1 5 (by omega), h1 12 (by omega), h1 13 (by omega), h1 14 (by omega)⟩, fun p _ => ⟨congrFun (h2 1 (by omega)) p, congrFun (h2 2 (by omega)) p, congrFun (h2 3 (by omega)) p, congrFun (h2 4 (by omega)) p⟩, fun p _ => congrFun (h2 6 (by omega)) p, fun p _ => congrFun (h2 7 (by omega)) p, fun p _ => congrFun (h2 8 (by omega)) p, fun p _ => congrFun (h2 11 (by omega)) p⟩
theorem REL.oh {ow nw kp tp tr s s' : g_St} {hh hh' : g_Sf} (h : REL ow nw kp tp hh tr s) (hH' : HS hh' s') (o : OH s s') : REL ow nw kp tp hh' tr s' := by
  obtain ⟨⟨P, Q, hV⟩, hc, ⟨N, hT, hB⟩, ⟨M, hO⟩, hH, hE, ⟨K, hR⟩, hK⟩ := h
  obtain ⟨oi, og, -⟩ := o
  refine ⟨⟨P, Q, hV.ag (AG.all (fun i _ => oi i) (fun i hi => og i (by omega) (by omega)))⟩, ?_, ⟨N, ?_, ?_⟩, ⟨M, ?_⟩, hH', ?_, ⟨K, ?_⟩, ?_⟩
  · unfold RC at hc ⊢; rw [og 9 (by omega) (by omega), og 10 (by omega) (by omega), oi 29]; exact hc
  · unfold TP at hT ⊢; rw [oi 16, og 15 (by omega) (by omega)]; exact hT
  · unfold BY at hB ⊢; rw [og 15 (by omega) (by omega)]; exact hB
  · unfold RO at hO ⊢; rw [oi 36, og 34 (by omega) (by omega)]; exact hO
  · unfold HE at hE ⊢; rw [og 40 (by omega) (by omega), og 41 (by omega) (by omega), og 42 (by omega) (by omega)]; exact hE
  · unfold TR at hR ⊢; rw [oi 47, og 46 (by omega) (by omega)]; exact hR
  · unfold KE at hK ⊢; rw [oi 49, og 50 (by omega) (by omega)]; exact hK
theorem REL.oe {ow nw kp tp tr s ow' s' : g_St} {hh : g_Sf} (h : REL ow nw kp tp hh tr s) (hE' : HE ow' s') (o : OE s s') (o' : OE' ow ow') : REL ow' nw kp tp hh tr s' := by
  obtain ⟨⟨P, Q, hV⟩, hc, ⟨N, hT, hB⟩, ⟨M, hO⟩, hH, hE, ⟨K, hR⟩, hK⟩ := h
  obtain ⟨oi, og, ot⟩ := o
  obtain ⟨wi, wg⟩ := o'
  refine ⟨⟨P, Q, hV.ag (AG.all (fun i _ => oi i) (fun i hi => og i (by omega) (by omega) (by omega)))⟩, ?_, ⟨N, ?_, ?_⟩, ⟨M, ?_⟩, ?_, hE', ⟨K, ?_⟩, ?_⟩
  · unfold RC at hc ⊢; rw [og 9 (by omega) (by omega) (by omega), og 10 (by omega) (by omega) (by omega), oi 29]; exact hc
  · unfold TP at hT ⊢; rw [wi 6, oi 16, og 15 (by omega) (by omega) (by omega)]; exact hT
  · unfold BY at hB ⊢; rw [og 15 (by omega) (by omega) (by omega)]; exact hB
  · obtain ⟨o1, o2, o3, o4⟩ := hO
    refine ⟨o1, (wi 9).trans o2, (oi 36).trans o3, fun i hi j hj => ?_⟩
    rw [wg (100 + i) (by omega) (by omega) (by omega), og 34 (by omega) (by omega) (by omega)]; exact o4 i hi j hj
  · unfold HS at hH ⊢; rw [og 37 (by omega) (by omega) (by omega), og 38 (by omega) (by omega) (by omega), ot]; exact hH
  · unfold TR at hR ⊢; rw [oi 47, og 46 (by omega) (by omega) (by omega)]; exact hR
  · unfold KE at hK ⊢; rw [wi 2, oi 49, og 50 (by omega) (by omega) (by omega)]; exact hK
theorem REL.oa {ow nw kp tp tr s tr' s' : g_St} {hh : g_Sf} {B : Nat} (h : REL ow nw kp tp hh tr s) (hR' : TR B tr' s') (o : OA s s') : REL ow nw kp tp hh tr' s' := by
  obtain ⟨⟨P, Q, hV⟩, hc, ⟨N, hT, hB⟩, ⟨M, hO⟩, hH, hE, ⟨K, hR⟩, hK⟩ := h
  obtain ⟨oi, og, ot⟩ := o
  refine ⟨⟨P, Q, hV.ag (AG.all (fun i hi => oi i (by omega) (by omega) (by omega) (by omega) (by omega)) (fun i hi => og i (by omega)))⟩, ?_, ⟨N, ?_, ?_⟩, ⟨M, ?_⟩, ?_, ?_, ⟨B, hR'⟩, ?_⟩
  · unfold RC at hc ⊢; rw [og 9 (by omega), og 10 (by omega), oi 29 (by omega) (by omega) (by omega) (by omega) (by omega)]; exact hc
  · unfold TP at hT ⊢; rw [oi 16 (by omega) (by omega) (by omega) (by omega) (by omega), og 15 (by omega)]; exact hT
  · unfold BY at hB ⊢; rw [og 15 (by omega)]; exact hB
  · unfold RO at hO ⊢; rw [oi 36 (by omega) (by omega) (by omega) (by omega) (by omega), og 34 (by omega)]; exact hO
  · unfold HS at hH ⊢; rw [og 37 (by omega), og 38 (by omega), ot]; exact hH
  · unfold HE at hE ⊢; rw [og 40 (by omega), og 41 (by omega), og 42 (by omega)]; exact hE
  · unfold KE at hK ⊢; rw [oi 49 (by omega) (by omega) (by omega) (by omega) (by omega), og 50 (by omega)]; exact hK
/-- the object's rows but those of the proof -/
theorem REL.rows {ow nw kp tp tr s ow' s' : g_St} {hh : g_Sf} {M' : Nat} (h : REL ow nw kp tp hh tr s) (hO' : RO M' ow' s') (o : OP s s') (w1 : ∀ i, i ≠ 9 → gi ow' i = gi ow i) (w2 : ∀ i, i < 100 → gr ow' i = gr ow i) : REL ow' nw kp tp hh tr s' := by
  obtain ⟨⟨P, Q, hV⟩, hc, ⟨N, hT, hB⟩, ⟨M, hO⟩, hH, hE, ⟨K, hR⟩, hK⟩ := h
  obtain ⟨oi, og, ot, o11⟩ := o
  refine ⟨⟨P, Q, hV.ag ⟨⟨oi 0 (by omega) (by omega), oi 5 (by omega) (by omega), oi 12 (by omega) (by omega), oi 13 (by omega) (by omega), oi 14 (by omega) (by omega)⟩, fun p _ => ⟨congrFun (og 1 (by omega) (by omega) (by omega)) p, congrFun (og 2 (by omega) (by omega) (by omega)) p, congrFun (og 3 (by omega) (by omega) (by omega)) p, congrFun (og 4 (by omega) (by omega) (by omega)) p⟩, fun p _ => congrFun (og 6 (by omega) (by omega) (by omega)) p, fun p _ => congrFun (og 7 (by omega) (by omega) (by omega)) p, fun p _ => congrFun (og 8 (by omega) (by omega) (by omega)) p, fun p hp => o11 p hp⟩⟩, ?_, ⟨N, ?_, ?_⟩, ⟨M', hO'⟩, ?_, ?_, ⟨K, ?_⟩, ?_⟩
  · unfold RC at hc ⊢; rw [og 9 (by omega) (by omega) (by omega), og 10 (by omega) (by omega) (by omega), oi 29 (by omega) (by omega)]; exact hc
  · unfold TP at hT ⊢; rw [w1 6 (by omega), oi 16 (by omega) (by omega), og 15 (by omega) (by omega) (by omega)]; exact hT
  · unfold BY at hB ⊢; rw [og 15 (by omega) (by omega) (by omega)]; exact hB
  · unfold HS at hH ⊢; rw [og 37 (by omega) (by omega) (by omega), og 38 (by omega) (by omega) (by omega), ot]; exact hH
  · unfold HE at hE ⊢; rw [w2 11 (by omega), w2 12 (by omega), w2 13 (by omega), og 40 (by omega) (by omega) (by omega), og 41 (by omega) (by omega) (by omega), og 42 (by omega) (by omega) (by omega)]; exact hE
  · unfold TR at hR ⊢; rw [oi 47 (by omega) (by omega), og 46 (by omega) (by omega) (by omega)]; exact hR
  · unfold KE at hK ⊢; rw [w1 2 (by omega), oi 49 (by omega) (by omega), og 50 (by omega) (by omega) (by omega)]; exact hK
theorem OR.op {s t : g_St} (o : OR s t) : OP s t := ⟨fun i _ h => o.1 i h, fun i _ h _ => o.2.1 i h, o.2.2, fun i _ => congrFun (o.2.1 11 (by omega)) i⟩
theorem REL.ot {ow nw kp tp tr s ow' tp' s' : g_St} {hh : g_Sf} {N' : Nat} (h : REL ow nw kp tp hh tr s) (hT' : TP N' ow' tp' s') (hB' : BY N' s') (o : OT s s') (w1 : ∀ i, i ≠ 6 → gi ow' i = gi ow i) (w2 : gr ow' = gr ow) : REL ow' nw kp tp' hh tr s' := by
  obtain ⟨⟨P, Q, hV⟩, hc, ⟨N, hT, hB⟩, ⟨M, hO⟩, hH, hE, ⟨K, hR⟩, hK⟩ := h
  obtain ⟨oi, og, ot⟩ := o
  refine ⟨⟨P, Q, hV.ag ⟨⟨oi 0 (by omega), oi 5 (by omega), oi 12 (by omega), oi 13 (by omega), oi 14 (by omega)⟩, fun p _ => ⟨congrFun (og 1 (by omega)) p, congrFun (og 2 (by omega)) p, congrFun (og 3 (by omega)) p, congrFun (og 4 (by omega)) p⟩, fun p _ => congrFun (og 6 (by omega)) p, fun p _ => congrFun (og 7 (by omega)) p, fun p _ => congrFun (og 8 (by omega)) p, fun p _ => congrFun (og 11 (by omega)) p⟩⟩, ?_, ⟨N', hT', hB'⟩, ⟨M, ?_⟩, ?_, ?_, ⟨K, ?_⟩, ?_⟩
  · unfold RC at hc ⊢; rw [og 9 (by omega), og 10 (by omega), oi 29 (by omega)]; exact hc
  · unfold RO at hO ⊢; rw [w1 9 (by omega), w2, oi 36 (by omega), og 34 (by omega)]; exact hO
  · unfold HS at hH ⊢; rw [og 37 (by omega), og 38 (by omega), ot]; exact hH
  · unfold HE at hE ⊢; rw [w2, og 40 (by omega), og 41 (by omega), og 42 (by omega)]; exact hE
  · unfold TR at hR ⊢; rw [oi 47 (by omega), og 46 (by omega)]; exact hR
  · unfold KE at hK ⊢; rw [w1 2 (by omega), oi 49 (by omega), og 50 (by omega)]; exact hK
theorem REL.ok {ow nw kp tp tr s ow' kp' s' : g_St} {hh : g_Sf} (h : REL ow nw kp tp hh tr s) (hK' : KE ow' kp' s') (o : OK s s') (w1 : ∀ i, i ≠ 2 → gi ow' i = gi ow i) (w2 : gr ow' = gr ow) : REL ow' nw kp' tp hh tr s' := by
  obtain ⟨⟨P, Q, hV⟩, hc, ⟨N, hT, hB⟩, ⟨M, hO⟩, hH, hE, ⟨K, hR⟩, hK⟩ := h
  obtain ⟨oi, og, ot⟩ := o
  refine ⟨⟨P, Q, hV.ag (AG.all (fun i hi => oi i (by omega) (by omega)) (fun i hi => og i (by omega) (by omega)))⟩, ?_, ⟨N, ?_, ?_⟩, ⟨M, ?_⟩, ?_, ?_, ⟨K, ?_⟩, hK'⟩
  · unfold RC at hc ⊢; rw [og 9 (by omega) (by omega), og 10 (by omega) (by omega), oi 29 (by omega) (by omega)]; exact hc
  · unfold TP at hT ⊢; rw [w1 6 (by omega), oi 16 (by omega) (by omega), og 15 (by omega) (by omega)]; exact hT
  · unfold BY at hB ⊢; rw [og 15 (by omega) (by omega)]; exact hB
  · unfold RO at hO ⊢; rw [w1 9 (by omega), w2, oi 36 (by omega) (by omega), og 34 (by omega) (by omega)]; exact hO
  · unfold HS at hH ⊢; rw [og 37 (by omega) (by omega), og 38 (by omega) (by omega), ot]; exact hH
  · unfold HE at hE ⊢; rw [w2, og 40 (by omega) (by omega), og 41 (by omega) (by omega), og 42 (by omega) (by omega)]; exact hE
  · unfold TR at hR ⊢; rw [oi 47 (by omega) (by omega), og 46 (by omega) (by omega)]; exact hR
theorem REL.ovi {ow nw kp tp tr s ow' nw' s' : g_St} {hh : g_Sf} {P' Q' n' : Nat} (h : REL ow nw kp tp hh tr s) (hV' : RV P' Q' nw' s') (hc' : RC s') (hT' : TP 0 ow' tp s') (hO' : RO n' ow' s') (o : OVi s s') (w1 : ∀ i, i ≠ 6 → i ≠ 9 → gi ow' i = gi ow i) (w2 : gr ow' = gr ow) : REL ow' nw' kp tp hh tr s' := by
  obtain ⟨-, -, -, -, hH, hE, ⟨K, hR⟩, hK⟩ := h
  obtain ⟨⟨i29, i47, i49⟩, ⟨r9, r10, r34, r37, r38⟩, r40, r41, r42, r46, r50, t39⟩ := o
  refine ⟨⟨P', Q', hV'⟩, hc', ⟨0, hT', fun i hi => by omega⟩, ⟨n', hO'⟩, ?_, ?_, ⟨K, ?_⟩, ?_⟩
  · unfold HS at hH ⊢; rw [r37, r38, t39]; exact hH
  · unfold HE at hE ⊢; rw [w2, r40, r41, r42]; exact hE
  · unfold TR at hR ⊢; rw [i47, r46]; exact hR
  · unfold KE at hK ⊢; rw [w1 2 (by omega) (by omega), i49, r50]; exact hK
theorem walk {fu L : Nat} {xs : Nat → Int32} (hfu : 5000 ≤ fu) (hL : L ≤ 2560) : ∀ (k n i : Nat) (ow nw kp ah aw rd md tp : g_St) (hh : g_Sf) (th tr s : g_St), L ≤ k + i → k < n → i ≤ L + 5 → REL ow nw kp tp hh tr s → f_law fu L xs n ow nw kp ah aw rd md tp hh th tr s (nI i) = some () := by
  intro k
  induction k with
  | zero =>
    intro n i ow nw kp ah aw rd md tp hh th tr s hk hn hi hR
    obtain ⟨n, rfl⟩ : ∃ x, n = x + 1 := ⟨n - 1, by omega⟩
    have lt5 : Int32.ofNat L - 5 < nI i := by
      rw [Int32.lt_iff_toInt_lt, show Int32.ofNat L - 5 = nI L - nI 5 from rfl, pk_sub_toInt (by omega) (by omega), nI_toInt (by omega)]
      omega
    rw [f_law, if_pos lt5]
  | succ k ih =>
    intro n i ow nw kp ah aw rd md tp hh th tr s hk hn hi hR
    obtain ⟨n, rfl⟩ : ∃ x, n = x + 1 := ⟨n - 1, by omega⟩
    by_cases hlt : Int32.ofNat L - 5 < nI i
    · rw [f_law, if_pos hlt]
    have hi5 : i + 5 ≤ L := by
      rw [Int32.lt_iff_toInt_lt, show Int32.ofNat L - 5 = nI L - nI 5 from rfl, pk_sub_toInt (by omega) (by omega), nI_toInt (by omega)] at hlt
      omega
    have st5 : nI i + 5 = nI (i + 5) := nI_add i 5
    have g0 : vp_in (nI i) L := vpn (n := i) (by omega) (by omega)
    have g1 : vp_in (nI i + (1 : Int32)) L := by rw [show nI i + 1 = nI (i + 1) from nI_add i 1]; exact vpn (by omega) (by omega)
    have g2 : vp_in (nI i + (2 : Int32)) L := by rw [show nI i + 2 = nI (i + 2) from nI_add i 2]; exact vpn (by omega) (by omega)
    have g3 : vp_in (nI i + (3 : Int32)) L := by rw [show nI i + 3 = nI (i + 3) from nI_add i 3]; exact vpn (by omega) (by omega)
    have g4 : vp_in (nI i + (4 : Int32)) L := by rw [show nI i + 4 = nI (i + 4) from nI_add i 4]; exact vpn (by omega) (by omega)
    have go : ∀ (ow nw kp ah aw rd md tp : g_St) (hh : g_Sf) (th tr s : g_St), REL ow nw kp tp hh tr s → f_law fu L xs n ow nw kp ah aw rd md tp hh th tr s (nI (i + 5)) = some () := fun ow nw kp ah aw rd md tp hh th tr s h => ih n (i + 5) ow nw kp ah aw rd md tp hh th tr s (by omega) (by omega) (by omega) h
    have hR' := hR
    obtain ⟨⟨P, Q, hV⟩, hc, ⟨N, hT, hB⟩, ⟨M, hO⟩, hH, hE, ⟨K, hTR⟩, hK⟩ := hR'
    rw [f_law, if_neg hlt, gd_of g0, lt_lt]
    generalize xs (nI i).toNatClampNeg &&& 63 = y
    by_cases c0 : y = 0
    · rw [if_pos c0]
      simp only [gd_of g1, gd_of g2, gd_of g3]
      obtain ⟨r, w', tp', s', N', e1, e2, e3, e4, e5, e6⟩ := t_feed hfu hT ((g_shlL ((xs (nI i + (1 : Int32)).toNatClampNeg).toInt64) (32 : Int32)) ||| (((xs (nI i + (2 : Int32)).toNatClampNeg).toInt64) &&& (4294967295 : Int64))) (xs (nI i + (3 : Int32)).toNatClampNeg)
      obtain ⟨N2, b1, b2, b3⟩ := feed_by hfu hT hB e2
      have eN : N2 = N' := (nIeq (by omega) (by have := e3.1; omega)).mp (b1.symm.trans e3.2.2.1)
      rw [eN] at b3
      rw [bd3_eq _ e1, bd2_eq _ e2, if_pos rfl, lt_lt, st5]
      exact go _ _ _ _ _ _ _ _ _ _ _ _ (hR.ot e3 b3 e4 e5 e6)
    rw [if_neg c0]
    by_cases c1 : y = 1
    · rw [if_pos c1]
      obtain ⟨r, w', v', rd', md', s', P', Q', n', e1, e2, e3, e4, e5, e6, e7, e8, e9⟩ := t_village (rd := rd) (md := md) hfu hV hc hT hB hO
      have e1' : bd5 (f_O_village fu ow nw rd md tp) (fun r17 s18 s19 s20 s21 => bd2 (f_M_village fu s) fun r23 s24 => if r17 = r23 then (lt (nI i + (5 : Int32)) fun y26 => f_law fu L xs n s18 s19 kp ah aw s20 s21 tp hh th tr s24 y26) else (none)) = bd2 (f_M_village fu s) fun r23 s24 => if r = r23 then (lt (nI i + (5 : Int32)) fun y26 => f_law fu L xs n w' v' kp ah aw rd' md' tp hh th tr s24 y26) else (none) := by rw [e1]; rfl
      rw [e1', bd2_eq _ e2, if_pos rfl, lt_lt, st5]
      exact go _ _ _ _ _ _ _ _ _ _ _ _ (hR.ovi e3 e4 e5 e6 e7 e8 e9)
    rw [if_neg c1]
    by_cases c2 : y = 2
    · rw [if_pos c2]
      simp only [gd_of g1, gd_of g2, gd_of g3, gd_of g4]
      obtain ⟨r, v', s', P', e1, e2, e3, e4⟩ := t_person hfu hV (xs (nI i + (1 : Int32)).toNatClampNeg) (xs (nI i + (2 : Int32)).toNatClampNeg) (xs (nI i + (3 : Int32)).toNatClampNeg) (xs (nI i + (4 : Int32)).toNatClampNeg)
      rw [bd2_eq _ e1, bd2_eq _ e2, if_pos rfl, lt_lt, st5]
      exact go _ _ _ _ _ _ _ _ _ _ _ _ (hR.ov e3 e4)
    rw [if_neg c2]
    by_cases c3 : y = 3
    · rw [if_pos c3]
      simp only [gd_of g1, gd_of g2]
      obtain ⟨r, e1, e2⟩ := t_personOf hV (xs (nI i + (1 : Int32)).toNatClampNeg) (xs (nI i + (2 : Int32)).toNatClampNeg)
      rw [bd1_eq _ e1, bd1_eq _ e2, if_pos rfl, lt_lt, st5]
      exact go _ _ _ _ _ _ _ _ _ _ _ _ (hR)
    rw [if_neg c3]
    by_cases c4 : y = 4
    · rw [if_pos c4]
      simp only [gd_of g1]
      obtain ⟨r, v', s', P', e1, e2, e3, e4⟩ := t_leave hfu hV (xs (nI i + (1 : Int32)).toNatClampNeg)
      rw [bd2_eq _ e1, bd2_eq _ e2, if_pos rfl, lt_lt, st5]
      exact go _ _ _ _ _ _ _ _ _ _ _ _ (hR.ov e3 e4)
    rw [if_neg c4]
    by_cases c5 : y = 5
    · rw [if_pos c5]
      simp only [gd_of g1, gd_of g2, gd_of g3]
      obtain ⟨r, v', s', e1, e2, e3, e4⟩ := t_mind hV (xs (nI i + (1 : Int32)).toNatClampNeg) (xs (nI i + (2 : Int32)).toNatClampNeg) (xs (nI i + (3 : Int32)).toNatClampNeg)
      rw [bd2_eq _ e1, bd2_eq _ e2, if_pos rfl, lt_lt, st5]
      exact go _ _ _ _ _ _ _ _ _ _ _ _ (hR.ov e3 e4)
    rw [if_neg c5]
    by_cases c6 : y = 6
    · rw [if_pos c6]
      simp only [gd_of g1, gd_of g2]
      obtain ⟨r, v', s', e1, e2, e3, e4⟩ := t_give hV (xs (nI i + (1 : Int32)).toNatClampNeg) (xs (nI i + (2 : Int32)).toNatClampNeg)
      rw [bd2_eq _ e1, bd2_eq _ e2, if_pos rfl, lt_lt, st5]
      exact go _ _ _ _ _ _ _ _ _ _ _ _ (hR.ov e3 e4)
    rw [if_neg c6]
    by_cases c7 : y = 7
    · rw [if_pos c7]
      simp only [gd_of g1, gd_of g2]
      obtain ⟨r, v', s', e1, e2, e3, e4⟩ := t_noes hV (xs (nI i + (1 : Int32)).toNatClampNeg) (xs (nI i + (2 : Int32)).toNatClampNeg)
      rw [bd2_eq _ e1, bd2_eq _ e2, if_pos rfl, lt_lt, st5]
      exact go _ _ _ _ _ _ _ _ _ _ _ _ (hR.ov e3 e4)
    rw [if_neg c7]
    by_cases c8 : y = 8
    · rw [if_pos c8]
      simp only [gd_of g1]
      obtain ⟨r, v', s', P', e1, e2, e3, e4⟩ := t_proposal hfu hV (xs (nI i + (1 : Int32)).toNatClampNeg)
      rw [bd2_eq _ e1, bd2_eq _ e2, if_pos rfl, lt_lt, st5]
      exact go _ _ _ _ _ _ _ _ _ _ _ _ (hR.ov e3 e4)
    rw [if_neg c8]
    by_cases c9 : y = 9
    · rw [if_pos c9]
      simp only [gd_of g1, gd_of g2]
      obtain ⟨r, v', s', e1, e2, e3, e4⟩ := t_weigh hV (xs (nI i + (1 : Int32)).toNatClampNeg) (xs (nI i + (2 : Int32)).toNatClampNeg)
      rw [bd2_eq _ e1, bd2_eq _ e2, if_pos rfl, lt_lt, st5]
      exact go _ _ _ _ _ _ _ _ _ _ _ _ (hR.ov e3 e4)
    rw [if_neg c9]
    by_cases c10 : y = 10
    · rw [if_pos c10]
      simp only [gd_of g1, gd_of g2, gd_of g3]
      obtain ⟨r, v', s', e1, e2, e3, e4⟩ := t_worth hV (xs (nI i + (1 : Int32)).toNatClampNeg) (xs (nI i + (2 : Int32)).toNatClampNeg) (xs (nI i + (3 : Int32)).toNatClampNeg)
      rw [bd2_eq _ e1, bd2_eq _ e2, if_pos rfl, lt_lt, st5]
      exact go _ _ _ _ _ _ _ _ _ _ _ _ (hR.ov e3 e4)
    rw [if_neg c10]
    by_cases c11 : y = 11
    · rw [if_pos c11]
      simp only [gd_of g1, gd_of g2]
      obtain ⟨r, e1, e2⟩ := t_proposalOf hV (xs (nI i + (1 : Int32)).toNatClampNeg) (xs (nI i + (2 : Int32)).toNatClampNeg)
      rw [bd1_eq _ e1, bd1_eq _ e2, if_pos rfl, lt_lt, st5]
      exact go _ _ _ _ _ _ _ _ _ _ _ _ (hR)
    rw [if_neg c11]
    by_cases c12 : y = 12
    · rw [if_pos c12]
      simp only [gd_of g1, gd_of g2]
      obtain ⟨r, v', s', e1, e2, e3, e4⟩ := t_setLaw hV hc (xs (nI i + (1 : Int32)).toNatClampNeg) (xs (nI i + (2 : Int32)).toNatClampNeg)
      rw [bd2_eq _ e1, bd2_eq _ e2, if_pos rfl, lt_lt, st5]
      exact go _ _ _ _ _ _ _ _ _ _ _ _ (hR.ov e3 e4)
    rw [if_neg c12]
    by_cases c13 : y = 13
    · rw [if_pos c13]
      simp only [gd_of g1]
      obtain ⟨r, e1, e2⟩ := t_law hV (xs (nI i + (1 : Int32)).toNatClampNeg)
      rw [bd1_eq _ e1, bd1_eq _ e2, if_pos rfl, lt_lt, st5]
      exact go _ _ _ _ _ _ _ _ _ _ _ _ (hR)
    rw [if_neg c13]
    by_cases c14 : y = 14
    · rw [if_pos c14]
      simp only [gd_of g1]
      obtain ⟨r, e1, e2⟩ := t_would hfu hV hc (xs (nI i + (1 : Int32)).toNatClampNeg)
      rw [bd1_eq _ e1, bd1_eq _ e2, if_pos rfl, lt_lt, st5]
      exact go _ _ _ _ _ _ _ _ _ _ _ _ (hR)
    rw [if_neg c14]
    by_cases c15 : y = 15
    · rw [if_pos c15]
      simp only [gd_of g1]
      obtain ⟨r, e1, e2⟩ := t_says hfu hV hc (xs (nI i + (1 : Int32)).toNatClampNeg)
      rw [bd1_eq _ e1, bd1_eq _ e2, if_pos rfl, lt_lt, st5]
      exact go _ _ _ _ _ _ _ _ _ _ _ _ (hR)
    rw [if_neg c15]
    by_cases c16 : y = 16
    · rw [if_pos c16]
      simp only [gd_of g1]
      obtain ⟨r, v', s', e1, e2, e3, e4⟩ := t_comes hfu hV hc (xs (nI i + (1 : Int32)).toNatClampNeg)
      rw [bd2_eq _ e1, bd2_eq _ e2, if_pos rfl, lt_lt, st5]
      exact go _ _ _ _ _ _ _ _ _ _ _ _ (hR.ov e3 e4)
    rw [if_neg c16]
    by_cases c17 : y = 17
    · rw [if_pos c17]
      obtain ⟨r, v', s', e1, e2, e3, e4⟩ := t_lot hfu hV hc
      rw [bd2_eq _ e1, bd2_eq _ e2, if_pos rfl, lt_lt, st5]
      exact go _ _ _ _ _ _ _ _ _ _ _ _ (hR.ov e3 e4)
    rw [if_neg c17]
    by_cases c18 : y = 18
    · rw [if_pos c18]
      simp only [gd_of g1]
      obtain ⟨r, e1, e2⟩ := t_had hV (xs (nI i + (1 : Int32)).toNatClampNeg)
      rw [bd1_eq _ e1, bd1_eq _ e2, if_pos rfl, lt_lt, st5]
      exact go _ _ _ _ _ _ _ _ _ _ _ _ (hR)
    rw [if_neg c18]
    by_cases c19 : y = 19
    · rw [if_pos c19]
      simp only [gd_of g1]
      obtain ⟨e1, e2, e3⟩ := t_seed hV (xs (nI i + (1 : Int32)).toNatClampNeg)
      rw [lt_lt, lt_lt, if_pos e1, lt_lt, st5]
      exact go _ _ _ _ _ _ _ _ _ _ _ _ (hR.ov e2 e3)
    rw [if_neg c19]
    by_cases c20 : y = 20
    · rw [if_pos c20]
      simp only [gd_of g1, gd_of g2, gd_of g3]
      obtain ⟨r, ah', aw', s', e1, e2, e3, e4⟩ := t_value hfu hV hc ah aw (xs (nI i + (1 : Int32)).toNatClampNeg) (xs (nI i + (2 : Int32)).toNatClampNeg) (xs (nI i + (3 : Int32)).toNatClampNeg)
      rw [bd3_eq _ e1, bd2_eq _ e2, if_pos ((lg_cmp_eq r r).mpr rfl), lt_lt, st5]
      exact go _ _ _ _ _ _ _ _ _ _ _ _ (hR.ov e3 e4)
    rw [if_neg c20]
    by_cases c21 : y = 21
    · rw [if_pos c21]
      simp only [gd_of g1, gd_of g2, gd_of g3]
      obtain ⟨r, ah', aw', s', e1, e2, e3, e4⟩ := t_best hfu hV hc ah aw (xs (nI i + (1 : Int32)).toNatClampNeg) (xs (nI i + (2 : Int32)).toNatClampNeg) (xs (nI i + (3 : Int32)).toNatClampNeg)
      rw [bd3_eq _ e1, bd2_eq _ e2, if_pos ((lg_cmp_eq r r).mpr rfl), lt_lt, st5]
      exact go _ _ _ _ _ _ _ _ _ _ _ _ (hR.ov e3 e4)
    rw [if_neg c21]
    by_cases c22 : y = 22
    · rw [if_pos c22]
      simp only [gd_of g1, gd_of g2, gd_of g3]
      obtain ⟨r, ah', aw', s', e1, e2, e3, e4⟩ := t_should hfu hV hc ah aw (xs (nI i + (1 : Int32)).toNatClampNeg) (xs (nI i + (2 : Int32)).toNatClampNeg) (xs (nI i + (3 : Int32)).toNatClampNeg)
      rw [bd3_eq _ e1, bd2_eq _ e2, if_pos rfl, lt_lt, st5]
      exact go _ _ _ _ _ _ _ _ _ _ _ _ (hR.ov e3 e4)
    rw [if_neg c22]
    by_cases c23 : y = 23
    · rw [if_pos c23]
      simp only [gd_of g1, gd_of g2]
      obtain ⟨r, ah', aw', s', e1, e2, e3, e4⟩ := t_barOf hfu hV hc ah aw (xs (nI i + (1 : Int32)).toNatClampNeg) (xs (nI i + (2 : Int32)).toNatClampNeg)
      rw [bd3_eq _ e1, bd2_eq _ e2, if_pos rfl, lt_lt, st5]
      exact go _ _ _ _ _ _ _ _ _ _ _ _ (hR.ov e3 e4)
    rw [if_neg c23]
    by_cases c24 : y = 24
    · rw [if_pos c24]
      simp only [gd_of g1, gd_of g2]
      obtain ⟨r, ah', aw', s', e1, e2, e3, e4⟩ := t_lets hfu hV hc ah aw (xs (nI i + (1 : Int32)).toNatClampNeg) (xs (nI i + (2 : Int32)).toNatClampNeg)
      rw [bd3_eq _ e1, bd2_eq _ e2, if_pos rfl, lt_lt, st5]
      exact go _ _ _ _ _ _ _ _ _ _ _ _ (hR.ov e3 e4)
    rw [if_neg c24]
    by_cases c25 : y = 25
    · rw [if_pos c25]
      simp only [gd_of g1]
      obtain ⟨r, ah', aw', s', e1, e2, e3, e4⟩ := t_harm hfu hV hc ah aw (xs (nI i + (1 : Int32)).toNatClampNeg)
      rw [bd3_eq _ e1, bd2_eq _ e2, if_pos rfl, lt_lt, st5]
      exact go _ _ _ _ _ _ _ _ _ _ _ _ (hR.ov e3 e4)
    rw [if_neg c25]
    by_cases c26 : y = 26
    · rw [if_pos c26]
      simp only [gd_of g1, gd_of g2]
      obtain ⟨r, ah', aw', s', e1, e2, e3, e4⟩ := t_spoilt hfu hV hc ah aw (xs (nI i + (1 : Int32)).toNatClampNeg) (xs (nI i + (2 : Int32)).toNatClampNeg)
      rw [bd3_eq _ e1, bd2_eq _ e2, if_pos ((lg_cmp_eq r r).mpr rfl), lt_lt, st5]
      exact go _ _ _ _ _ _ _ _ _ _ _ _ (hR.ov e3 e4)
    rw [if_neg c26]
    by_cases c27 : y = 27
    · rw [if_pos c27]
      simp only [gd_of g1]
      obtain ⟨r, w', s', N', e1, e2, e3, e4, e5, e6⟩ := t_prove hfu hV hc hO (xs (nI i + (1 : Int32)).toNatClampNeg)
      rw [bd2_eq _ e1, bd2_eq _ e2, if_pos rfl, lt_lt, st5]
      exact go _ _ _ _ _ _ _ _ _ _ _ _ (hR.rows e3 e4 e5 (fun b hb => e6 b (Or.inl hb)))
    rw [if_neg c27]
    by_cases c28 : y = 28
    · rw [if_pos c28]
      simp only [gd_of g1, gd_of g2]
      obtain ⟨r, e1, e2⟩ := t_row hO (xs (nI i + (1 : Int32)).toNatClampNeg) (xs (nI i + (2 : Int32)).toNatClampNeg)
      rw [bd1_eq _ e1, bd1_eq _ e2, if_pos rfl, lt_lt, st5]
      exact go _ _ _ _ _ _ _ _ _ _ _ _ (hR)
    rw [if_neg c28]
    by_cases c29 : y = 29
    · rw [if_pos c29]
      simp only [gd_of g1, gd_of g2, gd_of g3]
      obtain ⟨r, w', s', e1, e2, e3, e4, e5, e6⟩ := t_alterRow hO (xs (nI i + (1 : Int32)).toNatClampNeg) (xs (nI i + (2 : Int32)).toNatClampNeg) (xs (nI i + (3 : Int32)).toNatClampNeg)
      rw [bd2_eq _ e1, bd2_eq _ e2, if_pos rfl, lt_lt, st5]
      exact go _ _ _ _ _ _ _ _ _ _ _ _ (hR.rows e3 e4.op (fun i _ => e5 i) e6)
    rw [if_neg c29]
    by_cases c30 : y = 30
    · rw [if_pos c30]
      obtain ⟨r, w', s', e1, e2, e3, e4, e5, e6⟩ := t_judge hfu hV hc hO
      rw [bd2_eq _ e1, bd2_eq _ e2, if_pos rfl, lt_lt, st5]
      exact go _ _ _ _ _ _ _ _ _ _ _ _ (hR.rows e3 e4 (fun i _ => e5 i) (fun b hb => e6 b (Or.inl (by omega))))
    rw [if_neg c30]
    by_cases c31 : y = 31
    · rw [if_pos c31]
      simp only [gd_of g1, gd_of g2]
      obtain ⟨r, v', s', e1, e2, e3, e4⟩ := t_worths hfu hV hH (xs (nI i + (1 : Int32)).toNatClampNeg) (xs (nI i + (2 : Int32)).toNatClampNeg)
      rw [bd2_eq _ e1, bd2_eq _ e2, if_pos rfl, lt_lt, st5]
      exact go _ _ _ _ _ _ _ _ _ _ _ _ (hR.ov e3 e4)
    rw [if_neg c31]
    by_cases c32 : y = 32
    · rw [if_pos c32]
      simp only [gd_of g1, gd_of g2, gd_of g3]
      obtain ⟨r, hh', s', e1, e2, e3, e4⟩ := t_sheet hfu hH (xs (nI i + (1 : Int32)).toNatClampNeg) (xs (nI i + (2 : Int32)).toNatClampNeg) (xs (nI i + (3 : Int32)).toNatClampNeg)
      rw [bd2_eq _ e1, bd2_eq _ e2, if_pos rfl, lt_lt, st5]
      exact go _ _ _ _ _ _ _ _ _ _ _ _ (hR.oh e3 e4)
    rw [if_neg c32]
    by_cases c33 : y = 33
    · rw [if_pos c33]
      simp only [gd_of g1, gd_of g2, gd_of g3]
      obtain ⟨r, hh', s', e1, e2, e3, e4⟩ := t_put hH (xs (nI i + (1 : Int32)).toNatClampNeg) (xs (nI i + (2 : Int32)).toNatClampNeg) (xs (nI i + (3 : Int32)).toNatClampNeg)
      rw [bd2_eq _ e1, bd2_eq _ e2, if_pos rfl, lt_lt, st5]
      exact go _ _ _ _ _ _ _ _ _ _ _ _ (hR.oh e3 e4)
    rw [if_neg c33]
    by_cases c34 : y = 34
    · rw [if_pos c34]
      simp only [gd_of g1, gd_of g2, gd_of g3]
      obtain ⟨r, e1, e2⟩ := t_item hH (xs (nI i + (1 : Int32)).toNatClampNeg) (xs (nI i + (2 : Int32)).toNatClampNeg) (xs (nI i + (3 : Int32)).toNatClampNeg)
      rw [bd1_eq _ e1, bd1_eq _ e2, if_pos rfl, lt_lt, st5]
      exact go _ _ _ _ _ _ _ _ _ _ _ _ (hR)
    rw [if_neg c34]
    by_cases c35 : y = 35
    · rw [if_pos c35]
      simp only [gd_of g1, gd_of g2, gd_of g3]
      obtain ⟨r, w', s', e1, e2, e3, e4, e5⟩ := t_shelf hV hH hE (xs (nI i + (1 : Int32)).toNatClampNeg) (xs (nI i + (2 : Int32)).toNatClampNeg) (xs (nI i + (3 : Int32)).toNatClampNeg)
      rw [bd2_eq _ e1, bd2_eq _ e2, if_pos rfl, lt_lt, st5]
      exact go _ _ _ _ _ _ _ _ _ _ _ _ (hR.oe e3 e4 e5)
    rw [if_neg c35]
    by_cases c36 : y = 36
    · rw [if_pos c36]
      simp only [gd_of g1, gd_of g2]
      obtain ⟨r, th', e1, e2⟩ := t_taken th hV hE (xs (nI i + (1 : Int32)).toNatClampNeg) (xs (nI i + (2 : Int32)).toNatClampNeg)
      rw [bd2_eq _ e1, bd1_eq _ e2, if_pos rfl, lt_lt, st5]
      exact go _ _ _ _ _ _ _ _ _ _ _ _ (hR)
    rw [if_neg c36]
    by_cases c37 : y = 37
    · rw [if_pos c37]
      simp only [gd_of g1, gd_of g2, gd_of g3]
      obtain ⟨r, th', tr', s', N', e1, e2, e3, e4⟩ := t_act (N := K) (tr := tr) th hV hE (xs (nI i + (1 : Int32)).toNatClampNeg) (xs (nI i + (2 : Int32)).toNatClampNeg) (xs (nI i + (3 : Int32)).toNatClampNeg)
      rw [bd3_eq _ e1, bd2_eq _ e2, if_pos rfl, lt_lt, st5]
      exact go _ _ _ _ _ _ _ _ _ _ _ _ (hR.oa e3 e4)
    rw [if_neg c37]
    by_cases c38 : y = 38
    · rw [if_pos c38]
      simp only [gd_of g1]
      obtain ⟨r, e1, e2⟩ := t_trace hTR (xs (nI i + (1 : Int32)).toNatClampNeg)
      rw [bd1_eq _ e1, bd1_eq _ e2, if_pos rfl, lt_lt, st5]
      exact go _ _ _ _ _ _ _ _ _ _ _ _ (hR)
    rw [if_neg c38]
    by_cases c39 : y = 39
    · rw [if_pos c39]
      simp only [gd_of g1]
      obtain ⟨r, e1, e2⟩ := t_many hfu hV hO hT hTR (xs (nI i + (1 : Int32)).toNatClampNeg)
      rw [bd1_eq _ e1, bd1_eq _ e2, if_pos rfl, lt_lt, st5]
      exact go _ _ _ _ _ _ _ _ _ _ _ _ (hR)
    rw [if_neg c39]
    by_cases c40 : y = 40
    · rw [if_pos c40]
      obtain ⟨r, w', kp', s', e1, e2, e3, e4, e5, e6⟩ := t_keep (w := ow) (kp := kp) hfu hV
      rw [bd3_eq _ e1, bd2_eq _ e2, if_pos rfl, lt_lt, st5]
      exact go _ _ _ _ _ _ _ _ _ _ _ _ (hR.ok e3 e4 e5 e6)
    rw [if_neg c40]
    by_cases c41 : y = 41
    · rw [if_pos c41]
      obtain ⟨r, v', s', P', Q', e1, e2, e3, e4⟩ := t_again hfu hV hK
      rw [bd2_eq _ e1, bd2_eq _ e2, if_pos rfl, lt_lt, st5]
      exact go _ _ _ _ _ _ _ _ _ _ _ _ (hR.ov e3 e4)
    rw [if_neg c41]
    rw [lt_lt, st5]
    exact go _ _ _ _ _ _ _ _ _ _ _ _ hR
