/-! The text: a person. -/
/-- the village that is read, for both -/
def FR (F G : Nat) (md s : g_St) : Prop := (F ≤ 6 ∧ G ≤ 8 ∧ gi md 0 = nI F ∧ gi s 23 = nI F ∧ gi md 6 = nI G ∧ gi s 24 = nI G) ∧ (∀ p, p < F → gr md 1 p = gr s 25 (4 * p) ∧ gr md 2 p = gr s 25 (4 * p + 1) ∧ gr md 3 p = gr s 25 (4 * p + 2) ∧ gr md 4 p = gr s 25 (4 * p + 3) ∧ gr md 5 p = 0 ∧ (∃ k, k ≤ 5 ∧ gr md 1 p = nI k) ∧ (∃ a, a ≤ 255 ∧ gr md 2 p = nI a) ∧ (∃ o, o ≤ 9 ∧ gr md 4 p = nI o)) ∧ (∀ q, q < G → gr md 7 q = gr s 26 q ∧ (∃ w, w ≤ 9 ∧ gr md 7 q = nI w) ∧ ∀ p, p < 6 → gr md (20 + q) p = gr s 27 (6 * q + p) ∧ -9 ≤ (gr s 27 (6 * q + p)).toInt ∧ (gr s 27 (6 * q + p)).toInt ≤ 9 ∧ (F ≤ p → gr s 27 (6 * q + p) = 0)) ∧ ((gr md 9 0 = gr s 28 0 ∧ gr md 9 1 = gr s 28 1 ∧ gr md 9 2 = gr s 28 2 ∧ gr md 9 3 = 1) ∧ (∃ n, 1 ≤ n ∧ n ≤ 3 ∧ gr md 9 0 = nI n) ∧ (∃ n, n ≤ 1 ∧ gr md 9 1 = nI n) ∧ (∃ n, n ≤ 20 ∧ gr md 9 2 = nI n)) ∧ (gi md 11 = 0 ∧ gi md 12 = 0)
theorem FR.oy {F G : Nat} {md s t : g_St} (h : FR F G md s) (o : OY s t) : FR F G md t := by
  unfold FR at h ⊢
  rw [o.1 23 (by omega) (by omega) (by omega) (by omega) (by omega), o.1 24 (by omega) (by omega) (by omega) (by omega) (by omega), o.2.1]
  exact h
/-- all but what the text changes -/
def OZ (s t : g_St) : Prop := (∀ i, (i ≤ 16 ∨ 25 ≤ i) → gi t i = gi s i) ∧ (∀ i, (i ≤ 24 ∨ 29 ≤ i) → gr t i = gr s i) ∧ gt t = gt s
theorem OZ.rf {s : g_St} : OZ s s := ⟨fun _ _ => rfl, fun _ _ => rfl, rfl⟩
theorem OZ.trans {s t u : g_St} (a : OZ s t) (b : OZ t u) : OZ s u := ⟨fun i h => (b.1 i h).trans (a.1 i h), fun i h => (b.2.1 i h).trans (a.2.1 i h), b.2.2.trans a.2.2⟩
theorem OY.oz {s t : g_St} (a : OY s t) : OZ s t := ⟨fun i h => a.1 i (by omega) (by omega) (by omega) (by omega) (by omega), fun i _ => congrFun a.2.1 i, a.2.2⟩
/-- the end of a clause, for both -/
def SO (N : Nat) (B : Nat → Nat) (a0 : Nat) (s : g_St) (m : Option (Int32 × g_St × g_St)) (m' : Option g_St) : Prop := ∃ r rd' md' s', m = some (r, rd', md') ∧ m' = some s' ∧ OZ s s' ∧ ((r = 1 ∧ ∃ t a e F G, TK N B t a e rd' s' ∧ FR F G md' s' ∧ a0 < a ∧ gi s' 22 = 1) ∨ (r = 0 ∧ gi s' 22 = 0 ∧ gi rd' 5 = gi s' 18))
theorem SO.fail {N a0 : Nat} {B : Nat → Nat} {s0 rd md s : g_St} (h : FX rd s0 s) : SO N B a0 s0 (some (0, rd, md)) (some s) := ⟨0, rd, md, s, rfl, rfl, h.2.2.oz, Or.inr ⟨rfl, h.2.1, h.1⟩⟩
theorem V_addP {fu F : Nat} {v : g_St} (hfu : 5000 ≤ fu) (v0 : gi v 0 = nI F) (hF : F < 6) (x1 x2 x3 x4 : Int32) : ∃ v', f_V_addPerson fu v x1 x2 x3 x4 = some (nI F, v') ∧ gi v' 0 = nI (F + 1) ∧ (∀ j, j ≠ 0 → gi v' j = gi v j) ∧ (gr v' 1 = upd (gr v 1) F x1 ∧ gr v' 2 = upd (gr v 2) F x2 ∧ gr v' 3 = upd (gr v 3) F x3 ∧ gr v' 4 = upd (gr v 4) F x4 ∧ gr v' 5 = upd (gr v 5) F 0) ∧ (gr v' 7 = gr v 7 ∧ gr v' 9 = gr v 9) ∧ ∀ q, q < 8 → ∀ j, gr v' (20 + q) j = if j = F then 0 else gr v (20 + q) j := by
  have c : (nI F).toNatClampNeg = F := nIc (by omega)
  obtain ⟨v', e, a1, a2, a3, a4⟩ := V_addPerson_L (fu := fu) 8 fu 0 F (sr (sr (sr (sr (sr v 1 (nI F) x1) 2 (nI F) x2) 3 (nI F) x3) 4 (nI F) x4) 5 (nI F) 0) (by omega) (by omega) hF v0
  refine ⟨v', (V_addPerson_eq v0 hF x1 x2 x3 x4).trans e, a1, fun j hj => a2 j hj, ⟨?_, ?_, ?_, ?_, ?_⟩, ⟨a3 7 (by omega), a3 9 (by omega)⟩, fun q hq j => ?_⟩
  · rw [a3 1 (by omega)]
    show upd (gr v 1) (nI F).toNatClampNeg x1 = _
    rw [c]
  · rw [a3 2 (by omega)]
    show upd (gr v 2) (nI F).toNatClampNeg x2 = _
    rw [c]
  · rw [a3 3 (by omega)]
    show upd (gr v 3) (nI F).toNatClampNeg x3 = _
    rw [c]
  · rw [a3 4 (by omega)]
    show upd (gr v 4) (nI F).toNatClampNeg x4 = _
    rw [c]
  · rw [a3 5 (by omega)]
    show upd (gr v 5) (nI F).toNatClampNeg 0 = _
    rw [c]
  · rw [a4 q hq j]
    have k : ∀ i : Nat, 6 ≤ i → gr (sr (sr (sr (sr (sr v 1 (nI F) x1) 2 (nI F) x2) 3 (nI F) x3) 4 (nI F) x4) 5 (nI F) 0) i = gr v i := fun i hi => by
      rw [gr_sr, if_neg (by omega), gr_sr, if_neg (by omega), gr_sr, if_neg (by omega), gr_sr, if_neg (by omega), gr_sr, if_neg (by omega)]
    rw [k (20 + q) (by omega)]
    by_cases z : j = F
    · rw [if_pos ⟨Nat.zero_le _, z⟩, if_pos z]
    · rw [if_neg (fun t => z t.2), if_neg z]
noncomputable def mP4 (fu : Nat) (s : g_St) (v1 r12 r16 r20 : Int32) : Option g_St := bd1 (f_M_wantEnd fu s) fun s24 => if (gi s24 22) = 0 then (some s24) else (gd (vp_in ((4 : Int32) * (gi s24 23)) 24) (lt (sr s24 25 ((4 : Int32) * (gi s24 23)) v1) fun s28 => gd (vp_in (((4 : Int32) * (gi s28 23)) + (1 : Int32)) 24) (lt (sr s28 25 (((4 : Int32) * (gi s28 23)) + (1 : Int32)) r16) fun s30 => gd (vp_in (((4 : Int32) * (gi s30 23)) + (2 : Int32)) 24) (lt (sr s30 25 (((4 : Int32) * (gi s30 23)) + (2 : Int32)) r12) fun s32 => gd (vp_in (((4 : Int32) * (gi s32 23)) + (3 : Int32)) 24) (lt (sr s32 25 (((4 : Int32) * (gi s32 23)) + (3 : Int32)) r20) fun s34 => lt (((gi s34 23) + (1 : Int32))) fun y35 => lt (si s34 23 y35) fun s36 => some s36)))))
noncomputable def mP3 (fu : Nat) (s : g_St) (v1 r12 r16 : Int32) : Option g_St := bd2 (f_M_mayNumber fu s (286651 : Int64) (9 : Int32) (1 : Int32)) fun r20 s21 => mP4 fu s21 v1 r12 r16 r20
noncomputable def mP2 (fu : Nat) (s : g_St) (v1 r12 : Int32) : Option g_St := bd2 (f_M_mayNumber fu s (1503 : Int64) (255 : Int32) (0 : Int32)) fun r16 s17 => mP3 fu s17 v1 r12 r16
noncomputable def mP1 (fu : Nat) (s : g_St) (v1 : Int32) : Option g_St := bd2 (f_M_wantNumber fu s (0 : Int32) (99 : Int32)) fun r12 s13 => mP2 fu s13 v1 r12
theorem mP0 (fu : Nat) (s : g_St) (v1 : Int32) : f_M_wantPerson_L29 fu s v1 = bd1 (f_M_wantWord fu s (923 : Int64)) fun s9 => mP1 fu s9 v1 := rfl
theorem mP4F {fu : Nat} {s : g_St} (g : gi s 22 = 0) (v1 r12 r16 r20 : Int32) : mP4 fu s v1 r12 r16 r20 = some (si s 22 0) := by
  unfold mP4
  rw [bd1_eq _ (endF g), if_pos (show gi (si s 22 0) 22 = 0 from rfl)]
theorem mP3F {fu : Nat} {s : g_St} (g : gi s 22 = 0) (v1 r12 r16 : Int32) : mP3 fu s v1 r12 r16 = some (si s 22 0) := by
  unfold mP3
  rw [bd2_eq _ (mayF g _ _ _)]; exact mP4F g _ _ _ _
theorem mP2F {fu : Nat} {s : g_St} (g : gi s 22 = 0) (v1 r12 : Int32) : mP2 fu s v1 r12 = some (si s 22 0) := by
  unfold mP2
  rw [bd2_eq _ (mayF g _ _ _)]; exact mP3F g _ _ _
theorem mP1F {fu : Nat} {s : g_St} (g : gi s 22 = 0) (v1 : Int32) : mP1 fu s v1 = some (si s 22 0) := by
  unfold mP1
  rw [bd2_eq _ (numF g _ _)]
  refine (mP2F (show gi (si s 22 0) 22 = 0 from rfl) _ _).trans ?_
  rw [si_si]
theorem four1 (F : Nat) : (4 : Int32) * nI F = nI (4 * F) := pk_mul 4 F
theorem X_p4 {fu N t a e a0 F G : Nat} {B : Nat → Nat} {rd s s0 md : g_St} {k A o : Nat} {years : Int32} (hfu : 5000 ≤ fu) (h : TK N B t a e rd s) (g : gi s 22 = 1) (hF : FR F G md s) (h6 : F < 6) (oy : OY s0 s) (ha : a0 ≤ a) (hk : k ≤ 5) (hA : A ≤ 255) (ho : o ≤ 9) : SO N B a0 s0 (f_T_readPerson_L129 fu rd md (nI k) years (nI A) (nI o)) (mP4 fu s (nI k) years (nI A) (nI o)) := by
  obtain ⟨md', e1, e2, e3, ⟨e4, e5, e6, e7, e8⟩, ⟨e9, e10⟩, e11⟩ := V_addP hfu hF.1.2.2.1 h6 (nI k) (nI A) years (nI o)
  unfold f_T_readPerson_L129 mP4
  rw [bd2_eq _ e1]
  rcases B_end hfu h g with ⟨b1, b2⟩ | ⟨rd', s1, b1, b2, t1, a1, e1', hT, ha1, o1, g1⟩
  · rw [bd2_eq _ b1, bd1_eq _ b2, if_pos (show gi (si s 22 0) 22 = 0 from rfl)]
    exact SO.fail (h.fx oy)
  · have hF1 := hF.oy o1
    obtain ⟨⟨f1, f2, f3, f4, f5, f6⟩, fp, fq, fl, fz⟩ := hF1
    rw [bd2_eq _ b1, bd1_eq _ b2, if_neg (g10 g1)]
    simp only [f4, gi_sr, lt_lt, four1]
    rw [show nI (4 * F) + 1 = nI (4 * F + 1) from nI_add _ 1, show nI (4 * F) + 2 = nI (4 * F + 2) from nI_add _ 2, show nI (4 * F) + 3 = nI (4 * F + 3) from nI_add _ 3, gd_of (vpn (n := 4 * F) (N := 24) (by omega) (by omega)), gd_of (vpn (n := 4 * F + 1) (N := 24) (by omega) (by omega)), gd_of (vpn (n := 4 * F + 2) (N := 24) (by omega) (by omega)), gd_of (vpn (n := 4 * F + 3) (N := 24) (by omega) (by omega)), nI_1]
    have r25 : ∀ x, gr (si (sr (sr (sr (sr s1 25 (nI (4 * F)) (nI k)) 25 (nI (4 * F + 1)) (nI A)) 25 (nI (4 * F + 2)) years) 25 (nI (4 * F + 3)) (nI o)) 23 (nI (F + 1))) 25 x = if x = 4 * F + 3 then nI o else if x = 4 * F + 2 then years else if x = 4 * F + 1 then nI A else if x = 4 * F then nI k else gr s1 25 x := fun x => by
      show upd (upd (upd (upd (gr s1 25) (nI (4 * F)).toNatClampNeg (nI k)) (nI (4 * F + 1)).toNatClampNeg (nI A)) (nI (4 * F + 2)).toNatClampNeg years) (nI (4 * F + 3)).toNatClampNeg (nI o) x = _
      rw [nIc (show 4 * F ≤ 4096 by omega), nIc (show 4 * F + 1 ≤ 4096 by omega), nIc (show 4 * F + 2 ≤ 4096 by omega), nIc (show 4 * F + 3 ≤ 4096 by omega), upd_at, upd_at, upd_at, upd_at]
    have rest : ∀ i, i ≠ 25 → gr (si (sr (sr (sr (sr s1 25 (nI (4 * F)) (nI k)) 25 (nI (4 * F + 1)) (nI A)) 25 (nI (4 * F + 2)) years) 25 (nI (4 * F + 3)) (nI o)) 23 (nI (F + 1))) i = gr s1 i := fun i hi => by
      rw [gr_si, gr_sr, if_neg hi, gr_sr, if_neg hi, gr_sr, if_neg hi, gr_sr, if_neg hi]
    refine ⟨1, rd', md', _, rfl, rfl, OZ.trans ((oy.trans o1).oz) ⟨fun i hi => if_neg (by omega), fun i hi => rest i (by omega), rfl⟩, Or.inl ⟨rfl, t1, a1, e1', F + 1, G, hT, ⟨⟨by omega, f2, e2, rfl, (e3 6 (by omega)).trans f5, f6⟩, fun p hp => ?_, fun q hq => ?_, ?_, (e3 11 (by omega)).trans fz.1, (e3 12 (by omega)).trans fz.2⟩, by omega, g1⟩⟩
    · rw [e4, e5, e6, e7, e8, r25, r25, r25, r25]
      simp only [upd_at]
      by_cases z : p = F
      · subst z
        rw [if_pos rfl, if_pos rfl, if_pos rfl, if_pos rfl, if_pos rfl, if_neg (show ¬ 4 * p = 4 * p + 3 by omega), if_neg (show ¬ 4 * p = 4 * p + 2 by omega), if_neg (show ¬ 4 * p = 4 * p + 1 by omega), if_pos rfl, if_neg (show ¬ 4 * p + 1 = 4 * p + 3 by omega), if_neg (show ¬ 4 * p + 1 = 4 * p + 2 by omega), if_pos rfl, if_neg (show ¬ 4 * p + 2 = 4 * p + 3 by omega), if_pos rfl, if_pos rfl]
        exact ⟨rfl, rfl, rfl, rfl, rfl, ⟨k, hk, rfl⟩, ⟨A, hA, rfl⟩, ⟨o, ho, rfl⟩⟩
      · have ne : ∀ x, (x < 4 * F ∨ 4 * F + 3 < x) → (if x = 4 * F + 3 then nI o else if x = 4 * F + 2 then years else if x = 4 * F + 1 then nI A else if x = 4 * F then nI k else gr s1 25 x) = gr s1 25 x := fun x hx => by
          rw [if_neg (by omega), if_neg (by omega), if_neg (by omega), if_neg (by omega)]
        rw [if_neg z, if_neg z, if_neg z, if_neg z, if_neg z, ne (4 * p) (by omega), ne (4 * p + 1) (by omega), ne (4 * p + 2) (by omega), ne (4 * p + 3) (by omega)]
        exact fp p (by omega)
    · obtain ⟨q1, q2, q3⟩ := fq q hq
      rw [e9, rest 26 (by omega), rest 27 (by omega)]
      refine ⟨q1, q2, fun p hp => ?_⟩
      obtain ⟨w1, w2, w3, w4⟩ := q3 p hp
      rw [e11 q (by omega) p]
      refine ⟨?_, w2, w3, fun z => w4 (by omega)⟩
      by_cases z : p = F
      · rw [if_pos z, w4 (by omega)]
      · rw [if_neg z]; exact w1
    · rw [e10, rest 28 (by omega)]
      exact fl
theorem X_p3 {fu N t a e a0 F G : Nat} {B : Nat → Nat} {rd s s0 md : g_St} {k A : Nat} {years : Int32} (hfu : 5000 ≤ fu) (h : TK N B t a e rd s) (g : gi s 22 = 1) (hF : FR F G md s) (h6 : F < 6) (oy : OY s0 s) (ha : a0 ≤ a) (hk : k ≤ 5) (hA : A ≤ 255) : SO N B a0 s0 (f_T_readPerson_L91 fu rd md (nI k) years (nI A)) (mP3 fu s (nI k) years (nI A)) := by
  unfold f_T_readPerson_L91 mP3
  rw [bd1_eq _ (T_noes hfu h)]
  rcases B_may hfu h g 286651 9 1 with ⟨b1, b2⟩ | ⟨b1, rd1, b2, b3⟩
  · rw [if_pos b1, bd2_eq _ b2]
    exact X_p4 (o := 1) hfu h g hF h6 oy ha hk hA (by omega)
  · rw [if_neg b1, bd1_eq _ b2]
    rcases b3 with ⟨c1, x, s1, c2, c3⟩ | ⟨c1, c2, rd2, s1, c3, c4, t1, a1, e1, hT, ha1, o1, g1⟩
    · rw [if_pos c1, bd2_eq _ c2, mP4F c3.2.1]
      exact SO.fail ⟨c3.1, rfl, (oy.trans c3.2.2).bad 0⟩
    · obtain ⟨o, ho, eo⟩ : ∃ o, o ≤ 9 ∧ gi rd1 6 = nI o := by
        rcases in_0 (gi rd1 6) 9 (by omega) with ⟨-, j, hj, ej⟩ | z
        · exact ⟨j, hj, ej⟩
        · have z' : f_S_in (gi rd1 6) 0 9 = 0 := z
          rw [c2] at z'; cases z'
      rw [if_neg c1, lt_lt, bd1_eq _ c3, bd2_eq _ c4, eo]
      exact X_p4 hfu hT g1 (hF.oy o1) h6 (oy.trans o1) (by omega) hk hA ho
theorem X_p2 {fu N t a e a0 F G : Nat} {B : Nat → Nat} {rd s s0 md : g_St} {k : Nat} {years : Int32} (hfu : 5000 ≤ fu) (h : TK N B t a e rd s) (g : gi s 22 = 1) (hF : FR F G md s) (h6 : F < 6) (oy : OY s0 s) (ha : a0 ≤ a) (hk : k ≤ 5) : SO N B a0 s0 (bd1 (f_T_isName_bar fu rd) fun r15 => if r15 = 0 then (f_T_readPerson_L91 fu rd md (nI k) years (0 : Int32)) else (bd1 (f_T_advance fu rd) fun s18 => if (f_T_isNumber s18 (0 : Int32) (255 : Int32)) = 0 then (some ((0 : Int32), s18, md)) else (lt ((gi s18 6)) fun y22 => bd1 (f_T_advance fu s18) fun s23 => f_T_readPerson_L91 fu s23 md (nI k) years y22))) (mP2 fu s (nI k) years) := by
  unfold mP2
  rw [bd1_eq _ (T_bar hfu h)]
  rcases B_may hfu h g 1503 255 0 with ⟨b1, b2⟩ | ⟨b1, rd1, b2, b3⟩
  · rw [if_pos b1, bd2_eq _ b2]
    exact X_p3 (A := 0) hfu h g hF h6 oy ha hk (by omega)
  · rw [if_neg b1, bd1_eq _ b2]
    rcases b3 with ⟨c1, x, s1, c2, c3⟩ | ⟨c1, c2, rd2, s1, c3, c4, t1, a1, e1, hT, ha1, o1, g1⟩
    · rw [if_pos c1, bd2_eq _ c2, mP3F c3.2.1]
      exact SO.fail ⟨c3.1, rfl, (oy.trans c3.2.2).bad 0⟩
    · obtain ⟨o, ho, eo⟩ : ∃ o, o ≤ 255 ∧ gi rd1 6 = nI o := by
        rcases in_0 (gi rd1 6) 255 (by omega) with ⟨-, j, hj, ej⟩ | z
        · exact ⟨j, hj, ej⟩
        · have z' : f_S_in (gi rd1 6) 0 255 = 0 := z
          rw [c2] at z'; cases z'
      rw [if_neg c1, lt_lt, bd1_eq _ c3, bd2_eq _ c4, eo]
      exact X_p3 hfu hT g1 (hF.oy o1) h6 (oy.trans o1) (by omega) hk ho
theorem X_person {fu N t a e F G : Nat} {B : Nat → Nat} {rd s md : g_St} {k : Nat} (hfu : 5000 ≤ fu) (h : TK N B t a e rd s) (ht : ¬ t = 0) (g : gi s 22 = 1) (hF : FR F G md s) (hk : k ≤ 5) : SO N B a s (f_T_readPerson fu rd md (nI k)) (f_M_wantPerson fu s (nI k)) := by
  have f0 := hF.1.2.2.1
  have f23 := hF.1.2.2.2.1
  have hF6 := hF.1.1
  unfold f_T_readPerson f_M_wantPerson
  rw [f0, f23]
  by_cases h6 : F < 6
  · rw [if_pos (i6lt h6), if_neg (i6gt h6), lt_lt, si_id g, if_neg (g10 g)]
    obtain ⟨rd1, s1, k1, k2, t1, a1, e1, hT, ha1, o1, g1⟩ := B_adv hfu h ht g
    rw [bd1_eq _ k1, bd1_eq _ k2, mP0, bd1_eq _ (T_age hfu hT)]
    rcases B_word hfu hT g1 923 with ⟨b1, b2⟩ | ⟨b1, rd2, s2, b2, b3, t2, a2, e2, hT2, ha2, o2, g2⟩
    · rw [if_pos b1, bd1_eq _ b2, mP1F (show gi (si s1 22 0) 22 = 0 from rfl), si_si]
      exact SO.fail (hT.fx o1)
    · rw [if_neg b1, bd1_eq _ b2, bd1_eq _ b3]
      unfold mP1
      rcases B_num hfu hT2 g2 0 99 with ⟨n1, n2⟩ | ⟨n1, n2, n3, rd3, s3, n4, n5, t3, a3, e3, hT3, ha3, o3, g3⟩
      · rw [if_pos n1, bd2_eq _ n2, mP2F (show gi (si s2 22 0) 22 = 0 from rfl), si_si]
        exact SO.fail (hT2.fx (o1.trans o2))
      · rw [if_neg (by rw [n1]; decide), lt_lt, bd1_eq _ n4, bd2_eq _ n5, n3]
        exact X_p2 hfu hT3 g3 (((hF.oy o1).oy o2).oy o3) h6 ((o1.trans o2).trans o3) (by omega) hk
  · have f6 : F = 6 := by omega
    have m0 : f_M_wantPerson_L29 fu (si s 22 0) (nI k) = some (si s 22 0) := by
      rw [mP0, bd1_eq _ (wordF (show gi (si s 22 0) 22 = 0 from rfl) _), si_si]
      refine (mP1F (show gi (si s 22 0) 22 = 0 from rfl) _).trans ?_
      rw [si_si]
    rw [f6, if_neg (show ¬ nI 6 < 6 by decide), if_pos (show (6 : Int32) ≤ nI 6 by decide), lt_lt, if_pos (show gi (si s 22 0) 22 = 0 from rfl), m0]
    exact SO.fail (h.fx OY.rf)
