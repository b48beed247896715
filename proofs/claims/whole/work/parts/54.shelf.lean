/-! The shelves. -/
/-- what both know of the shelves -/
def HE (w s : g_St) : Prop := ∀ q, q < 4 → (gr w 11 q = 2 ∧ gr s 40 q = -1) ∨ (gr w 11 q = 0 ∧ gr s 40 q = 0 ∧ gr w 12 q = gr s 41 q) ∨ (gr w 11 q = 1 ∧ gr s 40 q = 1 ∧ gr w 12 q = gr s 41 q ∧ gr w 13 q = gr s 42 q)
/-- all but the shelves -/
def OE (s t : g_St) : Prop := (∀ i, gi t i = gi s i) ∧ (∀ i, i ≠ 40 → i ≠ 41 → i ≠ 42 → gr t i = gr s i) ∧ gt t = gt s
def OE' (w u : g_St) : Prop := (∀ i, gi u i = gi w i) ∧ ∀ i, i ≠ 11 → i ≠ 12 → i ≠ 13 → gr u i = gr w i
theorem OE.rf {s : g_St} : OE s s := ⟨fun _ => rfl, fun _ _ _ _ => rfl, rfl⟩
theorem OE'.rf {s : g_St} : OE' s s := ⟨fun _ => rfl, fun _ _ _ _ => rfl⟩
def fil (w : g_St) (q : Nat) (a b c : Int32) : g_St := sr (sr (sr w 11 (nI q) a) 12 (nI q) b) 13 (nI q) c
def filM (s : g_St) (q : Nat) (a b c : Int32) : g_St := sr (sr (sr s 40 (nI q) a) 41 (nI q) b) 42 (nI q) c
theorem O_fill {w : g_St} {q : Nat} (hq : q < 4) (a b c : Int32) : f_O_fillShelf w (nI q) a b c = some (fil w q a b c) := by
  unfold f_O_fillShelf fil
  simp only [gd_of (vpn (show q < 4 by omega) (show 4 ≤ 4096 by omega)), lt_lt]
theorem fil_at {w : g_St} {q : Nat} (hq : q < 4) (a b c : Int32) (p : Nat) : gr (fil w q a b c) 11 p = (if p = q then a else gr w 11 p) ∧ gr (fil w q a b c) 12 p = (if p = q then b else gr w 12 p) ∧ gr (fil w q a b c) 13 p = (if p = q then c else gr w 13 p) := by
  have k : (nI q).toNatClampNeg = q := nIc (by omega)
  refine ⟨?_, ?_, ?_⟩
  · show upd (gr w 11) (nI q).toNatClampNeg a p = _
    rw [k, upd_at]
  · show upd (gr w 12) (nI q).toNatClampNeg b p = _
    rw [k, upd_at]
  · show upd (gr w 13) (nI q).toNatClampNeg c p = _
    rw [k, upd_at]
theorem filM_at {w : g_St} {q : Nat} (hq : q < 4) (a b c : Int32) (p : Nat) : gr (filM w q a b c) 40 p = (if p = q then a else gr w 40 p) ∧ gr (filM w q a b c) 41 p = (if p = q then b else gr w 41 p) ∧ gr (filM w q a b c) 42 p = (if p = q then c else gr w 42 p) := by
  have k : (nI q).toNatClampNeg = q := nIc (by omega)
  refine ⟨?_, ?_, ?_⟩
  · show upd (gr w 40) (nI q).toNatClampNeg a p = _
    rw [k, upd_at]
  · show upd (gr w 41) (nI q).toNatClampNeg b p = _
    rw [k, upd_at]
  · show upd (gr w 42) (nI q).toNatClampNeg c p = _
    rw [k, upd_at]
theorem OE_fil {s : g_St} {q : Nat} {a b c : Int32} : OE s (filM s q a b c) := ⟨fun _ => rfl, fun i h1 h2 h3 => by
  show (if i = 42 then _ else if i = 41 then _ else if i = 40 then _ else gr s i) = _
  rw [if_neg h3, if_neg h2, if_neg h1], rfl⟩
theorem OE'_fil {s : g_St} {q : Nat} {a b c : Int32} : OE' s (fil s q a b c) := ⟨fun _ => rfl, fun i h1 h2 h3 => by
  show (if i = 13 then _ else if i = 12 then _ else if i = 11 then _ else gr s i) = _
  rw [if_neg h3, if_neg h2, if_neg h1]⟩
theorem HE.fil {w s : g_St} (h : HE w s) {q : Nat} (hq : q < 4) {a b c a' b' c' : Int32} (e : (a = 2 ∧ a' = -1) ∨ (a = 0 ∧ a' = 0 ∧ b = b') ∨ (a = 1 ∧ a' = 1 ∧ b = b' ∧ c = c')) : HE (fil w q a b c) (filM s q a' b' c') := by
  intro p hp
  obtain ⟨f1, f2, f3⟩ := fil_at (w := w) hq a b c p
  obtain ⟨g1, g2, g3⟩ := filM_at (w := s) hq a' b' c' p
  rw [f1, f2, f3, g1, g2, g3]
  by_cases z : p = q
  · simp only [if_pos z]; exact e
  · simp only [if_neg z]; exact h p hp
theorem M_L47 {s : g_St} {q : Nat} (hq : q < 4) {v2 v3 z0 : Int32} (h : ¬ v2 = 1) : f_M_shelf_L47 s (nI q) v2 v3 z0 (nI q) = some (1, filM s q z0 v3 0) := by
  unfold f_M_shelf_L47 f_M_shelf_L68 filM
  simp only [gd_of (vpn (show q < 4 by omega) (show 4 ≤ 4096 by omega)), lt_lt, if_neg h]
theorem M_L47' {s : g_St} {q w : Nat} (hq : q < 4) (hw : w < 4) {z0 : Int32} : f_M_shelf_L47 s (nI q) 1 (nI w) z0 (nI q) = some (1, filM s q z0 (gr s 37 w) (gr s 38 w)) := by
  unfold f_M_shelf_L47 f_M_shelf_L68
  simp only [gd_of (vpn (show q < 4 by omega) (show 4 ≤ 4096 by omega)), gd_of (vpn (show w < 4 by omega) (show 4 ≤ 4096 by omega)), lt_lt, if_pos trivial, nIc (show w ≤ 4096 by omega)]
  rfl
theorem t_shelf {P Q : Nat} {v s w : g_St} {hh : g_Sf} (h : RV P Q v s) (hH : HS hh s) (hE : HE w s) (x1 x2 x3 : Int32) : ∃ r w' s', f_O_shelf w v hh x1 x2 x3 = some (r, w') ∧ f_M_shelf s x1 x2 x3 = some (r, s') ∧ HE w' s' ∧ OE s s' ∧ OE' w w' := by
  obtain ⟨⟨⟨hP, hQ, v0, s0, v6, s5⟩, -⟩, -⟩ := h
  unfold f_O_shelf f_M_shelf f_M_isHeld
  rw [within_in, show f_S_isShelf x1 = f_S_in x1 0 3 from rfl, show f_S_isShelf x3 = f_S_in x3 0 3 from rfl]
  rcases in_0 x1 3 (by omega) with ⟨e1, q, hq, rfl⟩ | e1
  · have e1' : f_S_in (nI q) 0 3 = 1 := e1
    rw [e1', if_neg ne10, if_neg ne10]
    by_cases a0 : x2 = 0
    · subst a0
      rw [if_pos rfl, if_pos rfl, if_neg (show ¬ (0 : Int32) = 2 by decide), if_neg (show ¬ (0 : Int32) = 1 by decide)]
      rcases person_or v0 s0 (by omega) x3 with ⟨p, hpP, rfl, e3, e4⟩ | ⟨e3, e4⟩
      · rw [e3, e4, if_neg ne10, if_neg ne10, bd1_eq _ (O_fill (by omega) _ _ _), M_L47 (by omega) (by decide)]
        exact ⟨1, _, _, rfl, rfl, hE.fil (by omega) (Or.inr (Or.inl ⟨rfl, rfl, rfl⟩)), OE_fil, OE'_fil⟩
      · rw [e3, e4, if_pos rfl, if_pos rfl]
        exact ⟨_, w, s, rfl, rfl, hE, OE.rf, OE'.rf⟩
    rw [if_neg a0, if_neg a0]
    by_cases a1 : x2 = 1
    · subst a1
      rw [if_pos rfl, if_pos rfl, if_neg (show ¬ (1 : Int32) = 2 by decide), if_pos rfl, within_in]
      rcases in_0 x3 3 (by omega) with ⟨e3, k, hk, rfl⟩ | e3
      · have e3' : f_S_in (nI k) 0 3 = 1 := e3
        obtain ⟨h1, h2, h3, -, -⟩ := hH k (by omega)
        rw [e3', if_neg ne10, if_neg ne10, gd_of (vpn (n := k) (N := 4) (by omega) (by omega)), gd_of (vpn (n := k) (N := 4) (by omega) (by omega)), nIc (show k ≤ 4096 by omega), h1, h2, M_L47' (by omega) (by omega), M_L47' (by omega) (by omega)]
        rcases h3 with h3 | ⟨n, hn, h3⟩
        · rw [h3, if_pos rfl, if_neg (show ¬ (0 : Int32) ≤ -1 by decide), bd1_eq _ (O_fill (by omega) _ _ _)]
          exact ⟨1, _, _, rfl, rfl, hE.fil (by omega) (Or.inl ⟨rfl, rfl⟩), OE_fil, OE'_fil⟩
        · have hne : ¬ nI n = -1 := fun z => by
            have h0 : ¬ nI n < 0 := nI_pos (by omega)
            rw [z] at h0
            exact h0 (by decide)
          rw [h3, if_neg hne, if_pos (nI_pos' (n := n) (by omega)), bd1_eq _ (O_fill (by omega) _ _ _)]
          exact ⟨1, _, _, rfl, rfl, hE.fil (by omega) (Or.inr (Or.inr ⟨rfl, rfl, rfl, rfl⟩)), OE_fil, OE'_fil⟩
      · have e3' : f_S_in x3 0 3 = 0 := e3
        rw [e3', if_pos rfl, if_pos rfl]
        exact ⟨_, w, s, rfl, rfl, hE, OE.rf, OE'.rf⟩
    rw [if_neg a1, if_neg a1]
    by_cases a2 : x2 = 2
    · subst a2
      rw [if_pos rfl, if_pos rfl, if_neg ne10, if_pos rfl, bd1_eq _ (O_fill (by omega) _ _ _), M_L47 (by omega) (by decide)]
      exact ⟨1, _, _, rfl, rfl, hE.fil (by omega) (Or.inl ⟨rfl, rfl⟩), OE_fil, OE'_fil⟩
    rw [if_neg a2, if_neg a2, if_pos rfl]
    exact ⟨_, w, s, rfl, rfl, hE, OE.rf, OE'.rf⟩
  · have e1' : f_S_in x1 0 3 = 0 := e1
    rw [e1', if_pos rfl, if_pos rfl]
    exact ⟨_, w, s, rfl, rfl, hE, OE.rf, OE'.rf⟩
/-- what stands on a shelf, for both: nothing, a row, a person -/
theorem W_on {P Q q : Nat} {v s w : g_St} (th : g_St) (hS : SV P Q v s) (hE : HE w s) (hq : q < 4) : (¬ gr w 11 q = 1 ∧ f_O_thingOn w v th (nI q) = some (none, th) ∧ f_M_kindOn s (nI q) = some (-1)) ∨ (gr w 11 q = 1 ∧ ¬ gr w 11 q = 0 ∧ f_O_thingOn w v th (nI q) = some (none, th) ∧ f_M_kindOn s (nI q) = some 9 ∧ gr w 12 q = gr s 41 q ∧ gr w 13 q = gr s 42 q) ∨ (¬ gr w 11 q = 1 ∧ ∃ p k a, p < P ∧ k ≤ 5 ∧ a ≤ 255 ∧ gr s 41 q = nI p ∧ gr s 2 p = nI a ∧ f_M_kindOn s (nI q) = some (nI k) ∧ f_O_thingOn w v th (nI q) = some (some k, si (si th k (nI p)) (10 + k) (nI a))) := by
  obtain ⟨⟨hP, hQ, v0, s0, v6, s5⟩, hp, -⟩ := hS
  unfold f_O_thingOn f_M_kindOn
  simp only [gd_of (vpn (show q < 4 by omega) (show 4 ≤ 4096 by omega)), nIc (show q ≤ 4096 by omega), lt_lt]
  rcases hE q hq with ⟨h1, h2⟩ | ⟨h1, h2, h3⟩ | ⟨h1, h2, h3, h4⟩
  · left
    rw [h1, h2, if_neg (show ¬ (2 : Int32) = 0 by decide), if_neg (show ¬ (-1 : Int32) = 0 by decide), if_neg (show ¬ (0 : Int32) ≤ -1 by decide)]
    exact ⟨by decide, rfl, rfl⟩
  · rw [h1, h2, h3, if_pos rfl, if_pos rfl]
    rcases person_or v0 s0 (by omega) (gr s 41 q) with ⟨p, hpP, ep, e3, e4⟩ | ⟨e3, e4⟩
    · obtain ⟨k1, k2, -, ⟨k, hk, ek⟩, a, ha, ea⟩ := hp p hpP
      right; right
      refine ⟨by decide, p, k, a, hpP, hk, ha, ep, ea, ?_, ?_⟩
      · rw [e4, if_neg ne10, ep, gd_of (vpn (n := p) (N := 6) (by omega) (by omega)), nIc (show p ≤ 4096 by omega), ek]
      · rw [e3, if_neg ne10, ep]
        simp only [gd_of (vpn (show p < 6 by omega) (show 6 ≤ 4096 by omega)), nIc (show p ≤ 4096 by omega), k1, k2, ek, ea, within_in]
        rcases (show k = 0 ∨ k = 1 ∨ k = 2 ∨ k = 3 ∨ k = 4 ∨ k = 5 by omega) with rfl | rfl | rfl | rfl | rfl | rfl
        · rw [if_neg (show ¬ f_S_in (nI 0) 0 5 = 0 by decide), gd_of (vpn (n := 0) (N := 6) (by omega) (by omega)), if_pos (show nI 0 = 0 from rfl)]
        · rw [if_neg (show ¬ f_S_in (nI 1) 0 5 = 0 by decide), gd_of (vpn (n := 1) (N := 6) (by omega) (by omega)), if_neg (show ¬ nI 1 = 0 by decide), if_pos (show nI 1 = 1 from rfl)]
        · rw [if_neg (show ¬ f_S_in (nI 2) 0 5 = 0 by decide), gd_of (vpn (n := 2) (N := 6) (by omega) (by omega)), if_neg (show ¬ nI 2 = 0 by decide), if_neg (show ¬ nI 2 = 1 by decide), if_pos (show nI 2 = 2 from rfl)]
        · rw [if_neg (show ¬ f_S_in (nI 3) 0 5 = 0 by decide), gd_of (vpn (n := 3) (N := 6) (by omega) (by omega)), if_neg (show ¬ nI 3 = 0 by decide), if_neg (show ¬ nI 3 = 1 by decide), if_neg (show ¬ nI 3 = 2 by decide), if_pos (show nI 3 = 3 from rfl)]
        · rw [if_neg (show ¬ f_S_in (nI 4) 0 5 = 0 by decide), gd_of (vpn (n := 4) (N := 6) (by omega) (by omega)), if_neg (show ¬ nI 4 = 0 by decide), if_neg (show ¬ nI 4 = 1 by decide), if_neg (show ¬ nI 4 = 2 by decide), if_neg (show ¬ nI 4 = 3 by decide), if_pos (show nI 4 = 4 from rfl)]
        · rw [if_neg (show ¬ f_S_in (nI 5) 0 5 = 0 by decide), gd_of (vpn (n := 5) (N := 6) (by omega) (by omega)), if_neg (show ¬ nI 5 = 0 by decide), if_neg (show ¬ nI 5 = 1 by decide), if_neg (show ¬ nI 5 = 2 by decide), if_neg (show ¬ nI 5 = 3 by decide), if_neg (show ¬ nI 5 = 4 by decide), if_pos (show nI 5 = 5 from rfl)]
    · left
      rw [e3, e4, if_pos rfl, if_pos rfl]
      exact ⟨by decide, rfl, rfl⟩
  · right; left
    rw [h1, h2, if_neg ne10, if_neg ne10, if_pos (show (0 : Int32) ≤ 1 by decide)]
    exact ⟨rfl, by decide, rfl, rfl, h3, h4⟩
theorem und : ∀ (k : Fin 6) (j : Fin 14), (k.val = 0 → f_Y_isUnder_y0 (nI j.val) = if j.val < 10 ∧ ¬ f_S_isUnder (nI k.val) (nI j.val) = 0 then 1 else 0) ∧ (k.val = 1 → f_Y_isUnder_y1 (nI j.val) = if j.val < 10 ∧ ¬ f_S_isUnder (nI k.val) (nI j.val) = 0 then 1 else 0) ∧ (k.val = 2 → f_Y_isUnder_y2 (nI j.val) = if j.val < 10 ∧ ¬ f_S_isUnder (nI k.val) (nI j.val) = 0 then 1 else 0) ∧ (k.val = 3 → f_Y_isUnder_y3 (nI j.val) = if j.val < 10 ∧ ¬ f_S_isUnder (nI k.val) (nI j.val) = 0 then 1 else 0) ∧ (k.val = 4 → f_Y_isUnder_y4 (nI j.val) = if j.val < 10 ∧ ¬ f_S_isUnder (nI k.val) (nI j.val) = 0 then 1 else 0) ∧ (k.val = 5 → f_Y_isUnder_y5 (nI j.val) = if j.val < 10 ∧ ¬ f_S_isUnder (nI k.val) (nI j.val) = 0 then 1 else 0) := by decide +kernel
theorem W_taken {P Q q j : Nat} {v s w : g_St} (th : g_St) (hS : SV P Q v s) (hE : HE w s) (hq : q < 4) (hj : j < 14) : ∃ r th', f_O_taken_L33 w v th (nI q) (nI j) = some (r, th') ∧ f_M_taken_L29 s (nI q) (nI j) = some r := by
  have hP := hS.1.1
  unfold f_O_taken_L33 f_M_taken_L29
  simp only [gd_of (vpn (show q < 4 by omega) (show 4 ≤ 4096 by omega)), nIc (show q ≤ 4096 by omega)]
  rcases W_on th hS hE hq with ⟨n1, e1, e2⟩ | ⟨n1, n0, e1, e2, e3, e4⟩ | ⟨n1, p, k, a, hp, hk, ha, ep, ea, e2, e1⟩
  · rw [if_neg n1, bd2_eq _ e1, bd1_eq _ e2, if_pos rfl, if_neg (show ¬ (0 : Int32) ≤ -1 by decide)]
    exact ⟨_, th, rfl, rfl⟩
  · rw [if_pos n1, bd1_eq _ e2, if_pos (show (0 : Int32) ≤ 9 by decide), if_pos rfl, e3, e4]
    by_cases z : nI j = 10 + gr s 41 q
    · have z' : gr s 41 q = nI j - 10 := by rw [z, Int32.add_comm, Int32.add_sub_cancel]
      rw [if_pos z, if_pos z']
      exact ⟨_, th, rfl, rfl⟩
    · have z' : ¬ gr s 41 q = nI j - 10 := fun t => z (by rw [t, Int32.add_comm, Int32.sub_add_cancel])
      rw [if_neg z, if_neg z']
      exact ⟨_, th, rfl, rfl⟩
  · have u := und ⟨k, by omega⟩ ⟨j, hj⟩
    have k9 : ¬ nI k = 9 := fun t => by have := (nIeq (b := 9) (by omega) (by omega)).mp t; omega
    rw [if_neg n1, bd2_eq _ e1, bd1_eq _ e2, if_pos (nI_pos' (n := k) (by omega)), if_neg k9, ep]
    have hn : ∀ x : Int32, gi (si (si th k x) (10 + k) (nI a)) k = x := fun x => by rw [gi_si, if_neg (by omega), gi_si, if_pos rfl]
    -- the answer of both
    have fin : ∀ (b : Int32) (th' : g_St), b = (if j < 10 ∧ ¬ f_S_isUnder (nI k) (nI j) = 0 then 1 else 0) → gi th' k = nI p → ∃ r th'', (if b = 0 then some ((-13 : Int32), th') else some (gi th' k, th')) = some (r, th'') ∧ (if (10 : Int32) ≤ nI j then some (-13) else if f_S_isUnder (nI k) (nI j) = 0 then some (-13) else some (nI p)) = some r := fun b th' hb ht => by
      by_cases j10 : j < 10
      · rw [if_neg (show ¬ (10 : Int32) ≤ nI j from nI_ge (b := 10) j10 (by omega))]
        by_cases c : f_S_isUnder (nI k) (nI j) = 0
        · rw [if_pos c, if_pos (by rw [hb, if_neg (fun t => t.2 c)])]; exact ⟨_, _, rfl, rfl⟩
        · rw [if_neg c, if_neg (by rw [hb, if_pos ⟨j10, c⟩]; decide), ht]; exact ⟨_, _, rfl, rfl⟩
      · rw [if_pos (show (10 : Int32) ≤ nI j from nI_le (a := 10) (by omega) (by omega)), if_pos (by rw [hb, if_neg (fun t => j10 t.1)])]; exact ⟨_, _, rfl, rfl⟩
    rcases (show k = 0 ∨ k = 1 ∨ k = 2 ∨ k = 3 ∨ k = 4 ∨ k = 5 by omega) with rfl | rfl | rfl | rfl | rfl | rfl
    · exact fin _ _ (u.1 rfl) (hn _)
    · exact fin _ _ (u.2.1 rfl) (hn _)
    · exact fin _ _ (u.2.2.1 rfl) (hn _)
    · exact fin _ _ (u.2.2.2.1 rfl) (hn _)
    · exact fin _ _ (u.2.2.2.2.1 rfl) (hn _)
    · exact fin _ _ (u.2.2.2.2.2 rfl) (hn _)
theorem t_taken {P Q : Nat} {v s w : g_St} (th : g_St) (h : RV P Q v s) (hE : HE w s) (x1 x2 : Int32) : ∃ r th', f_O_taken w v th x1 x2 = some (r, th') ∧ f_M_taken s x1 x2 = some r := by
  unfold f_O_taken f_M_taken
  rw [within_in, within_in, within_in, show f_S_isShelf x1 = f_S_in x1 0 3 from rfl]
  rcases in_0 x1 3 (by omega) with ⟨e1, q, hq, rfl⟩ | e1
  · have e1' : f_S_in (nI q) 0 3 = 1 := e1
    rw [e1', if_neg ne10, if_neg ne10]
    rcases in_0 x2 5 (by omega) with ⟨e2, j, hj, rfl⟩ | e2
    · have e2' : f_S_in (nI j) 0 5 = 1 := e2
      rw [e2', if_neg ne10, if_neg ne10]
      exact W_taken th h.1 hE (by omega) (by omega)
    · have e2' : f_S_in x2 0 5 = 0 := e2
      rw [e2', if_pos rfl, if_pos rfl]
      rcases in_ab x2 10 13 (by omega) (by omega) with ⟨e3, j, hj1, hj2, rfl⟩ | e3
      · have e3' : f_S_in (nI j) 10 13 = 1 := e3
        rw [e3', if_neg ne10, if_neg ne10]
        exact W_taken th h.1 hE (by omega) (by omega)
      · have e3' : f_S_in x2 10 13 = 0 := e3
        rw [e3', if_pos rfl, if_pos rfl]
        exact ⟨_, th, rfl, rfl⟩
  · have e1' : f_S_in x1 0 3 = 0 := e1
    rw [e1', if_pos rfl, if_pos rfl]
    exact ⟨_, th, rfl, rfl⟩
