/-! The text: names. -/
def nms : List (List Nat) := [[115, 97, 121, 101, 114], [113, 117, 105, 99, 107], [98, 97, 114], [119, 97, 105, 116], [108, 101, 97, 103, 117, 101], [116, 111, 108, 100], [97, 103, 101], [110, 111, 101, 115], [112, 114, 111, 112, 111, 115, 97, 108], [119, 111, 114, 116, 104], [110, 101, 101, 100], [103, 114, 111, 119], [116, 117, 114, 110]]
def nmb (j i : Nat) : Nat := (nms.getD j []).getD i 0
theorem sch_n : ∀ (j : Fin 13) (i : Fin 8), sch j.val (nI i.val) = nI (nmb j.val i.val) ∧ nmb j.val i.val ≤ 255 := by decide +kernel
theorem name_core {N t a e L j : Nat} {B : Nat → Nat} {rd s : g_St} {W : Int64} (h : TK N B t a e rd s) (hL : L ≤ 8) (hn : ∀ i, i < L → 97 ≤ nmb j i ∧ nmb j i ≤ 122) (hW : W = lN (wcd (fun i => nmb j i - 96) L)) : (t = 1 ∧ f_M_isWord s W = 1 ∧ e - a = L ∧ ∀ x, x < L → B (a + x) = nmb j x) ∨ (f_M_isWord s W = 0 ∧ ¬ (t = 1 ∧ e - a = L ∧ ∀ x, x < L → B (a + x) = nmb j x)) := by
  obtain ⟨hB, ha, he, ht, r4, s17, r5, s18, r3, s19, hw, -, -⟩ := h
  unfold f_M_isWord
  rw [s17]
  by_cases t1 : t = 1
  · rw [if_pos (show nI t = 1 by rw [t1]; rfl)]
    obtain ⟨hWC, hLT⟩ := hw t1
    have g27 : 27 ^ L ≤ 27 ^ 8 := Nat.pow_le_pow_right (by omega) hL
    have wg := wcd_lt (f := fun i => nmb j i - 96) L (fun i hi => by have := hn i hi; show nmb j i - 96 ≤ 26; omega)
    rcases hWC with ⟨c1, c2⟩ | ⟨c1, c2⟩
    · have f27 : 27 ^ (e - a) ≤ 27 ^ 8 := Nat.pow_le_pow_right (by omega) c1
      have wf := wcd_lt (f := fun i => B (a + i) - 96) (e - a) (fun i hi => by have := hLT (a + i) (by omega) (by omega); show B (a + i) - 96 ≤ 26; omega)
      have iff : gj s 20 = W ↔ e - a = L ∧ ∀ x, x < L → B (a + x) = nmb j x := by
        rw [c2, hW]
        constructor
        · intro q
          have q' := (pk_lEQ (by omega) (by omega)).mp q
          obtain ⟨z1, z2⟩ := wcd_inj _ _ (fun i hi => by have := hLT (a + i) (by omega) (by omega); show 1 ≤ B (a + i) - 96 ∧ B (a + i) - 96 ≤ 26; omega) (fun i hi => by have := hn i hi; show 1 ≤ nmb j i - 96 ∧ nmb j i - 96 ≤ 26; omega) q'
          refine ⟨z1, fun x hx => ?_⟩
          have z3 : B (a + x) - 96 = nmb j x - 96 := z2 x (by omega)
          have := hLT (a + x) (by omega) (by omega)
          have := hn x hx
          omega
        · rintro ⟨z1, z2⟩
          rw [z1]
          exact congrArg lN (wcd_cong L fun i hi => by show B (a + i) - 96 = nmb j i - 96; rw [z2 i hi])
      by_cases q : gj s 20 = W
      · rw [if_pos ((lg_cmp_eq _ _).mpr q)]
        obtain ⟨z1, z2⟩ := iff.mp q
        exact Or.inl ⟨t1, rfl, z1, z2⟩
      · rw [if_neg (mt (lg_cmp_eq _ _).mp q)]
        exact Or.inr ⟨rfl, fun z => q (iff.mpr z.2)⟩
    · have q : ¬ gj s 20 = W := fun q => by
        rw [c2, hW] at q
        have q2 := congrArg Int64.toInt q
        rw [pk_lT (by omega)] at q2
        have : (-1 : Int64).toInt = -1 := rfl
        omega
      rw [if_neg (mt (lg_cmp_eq _ _).mp q)]
      exact Or.inr ⟨rfl, fun z => by omega⟩
  · rw [if_neg (show ¬ nI t = (1 : Int32) from fun q => t1 ((nIeq (b := 1) (by omega) (by omega)).mp q))]
    exact Or.inr ⟨rfl, fun z => t1 z.1⟩
theorem nl_sayer {fu a : Nat} {B : Nat → Nat} {rd : g_St} (hb : ∀ i, a ≤ i → i < a + 5 → gr rd 1 i = nI (B i) ∧ B i ≤ 255) (ha : a + 5 ≤ 240) (r5 : gi rd 5 = nI a) : ∀ (k n i : Nat), k + i = 5 → k < n → ∃ r, f_T_isName_sayer_L28 fu n rd (nI i) = some r ∧ ((r = 1 ∧ ∀ x, i ≤ x → x < 5 → B (a + x) = nmb 0 x) ∨ (r = 0 ∧ ∃ x, x < 5 ∧ ¬ B (a + x) = nmb 0 x)) := by
  intro k
  induction k with
  | zero =>
    intro n i hk hn
    obtain ⟨n, rfl⟩ : ∃ x, n = x + 1 := ⟨n - 1, by omega⟩
    refine ⟨1, ?_, Or.inl ⟨rfl, fun x h1 h2 => by omega⟩⟩
    rw [f_T_isName_sayer_L28, if_pos (show (5 : Int32) ≤ nI i from nI_le (a := 5) (by omega) (by omega))]
  | succ k ih =>
    intro n i hk hn
    obtain ⟨n, rfl⟩ : ∃ x, n = x + 1 := ⟨n - 1, by omega⟩
    obtain ⟨b1, b2⟩ := hb (a + i) (by omega) (by omega)
    have sc : sch 0 (nI i) = nI (nmb 0 i) ∧ nmb 0 i ≤ 255 := sch_n ⟨0, by omega⟩ ⟨i, by omega⟩
    rw [f_T_isName_sayer_L28, if_neg (show ¬ (5 : Int32) ≤ nI i from nI_ge (b := 5) (by omega) (by omega)), r5, nI_add, gd_of (vpn (n := a + i) (N := 240) (by omega) (by omega)), gd_of (vpn (n := i) (N := 5) (by omega) (by omega)), nIc (show a + i ≤ 4096 by omega), b1, sc.1]
    by_cases z : B (a + i) = nmb 0 i
    · rw [if_pos (by rw [z]), lt_lt, nI_1]
      obtain ⟨r, h1, h2⟩ := ih n (i + 1) (by omega) (by omega)
      refine ⟨r, h1, ?_⟩
      rcases h2 with ⟨h2, h3⟩ | h2
      · refine Or.inl ⟨h2, fun x i1 i2 => ?_⟩
        by_cases q : x = i
        · rw [q]; exact z
        · exact h3 x (by omega) i2
      · exact Or.inr h2
    · rw [if_neg (fun q => z ((nIeq (by omega) (by have := sc.2; omega)).mp q))]
      exact ⟨0, rfl, Or.inr ⟨rfl, i, by omega, z⟩⟩
theorem T_sayer {fu N t a e : Nat} {B : Nat → Nat} {rd s : g_St} (hfu : 5000 ≤ fu) (h : TK N B t a e rd s) : f_T_isName_sayer fu rd = some (f_M_isWord s 10135440) := by
  have c := name_core (L := 5) (j := 0) (W := 10135440) h (by omega) (show ∀ i, i < 5 → 97 ≤ nmb 0 i ∧ nmb 0 i ≤ 122 from fun i hi => (show ∀ i : Fin 5, 97 ≤ nmb 0 i.val ∧ nmb 0 i.val ≤ 122 by decide +kernel) ⟨i, hi⟩) (by decide +kernel)
  obtain ⟨⟨hN, r2, s16, hb⟩, ha, he, ht, r4, s17, r5, s18, r3, s19, -⟩ := h
  unfold f_T_isName_sayer
  rw [r4, r3, r5, pk_sub ha]
  rcases c with ⟨t1, w, eL, eb⟩ | ⟨w, no⟩
  · rw [w, if_pos (show nI t = 1 by rw [t1]; rfl), if_pos (show nI (e - a) = 5 by rw [eL]; rfl)]
    obtain ⟨r, h1, h2⟩ := nl_sayer (fu := fu) (fun i i1 i2 => ⟨(hb i (by omega)).1, (hb i (by omega)).2.2⟩) (show a + 5 ≤ 240 by omega) r5 5 fu 0 (by omega) (by omega)
    rcases h2 with ⟨rfl, -⟩ | ⟨-, x, x1, x2⟩
    · exact h1
    · exact absurd (eb x x1) x2
  · rw [w]
    by_cases t1 : t = 1
    · rw [if_pos (show nI t = 1 by rw [t1]; rfl)]
      by_cases eL : e - a = 5
      · rw [if_pos (show nI (e - a) = 5 by rw [eL]; rfl)]
        obtain ⟨r, h1, h2⟩ := nl_sayer (fu := fu) (fun i i1 i2 => ⟨(hb i (by omega)).1, (hb i (by omega)).2.2⟩) (show a + 5 ≤ 240 by omega) r5 5 fu 0 (by omega) (by omega)
        rcases h2 with ⟨-, h2⟩ | ⟨rfl, -⟩
        · exact absurd ⟨t1, eL, fun x hx => h2 x (Nat.zero_le x) hx⟩ no
        · exact h1
      · rw [if_neg (show ¬ nI (e - a) = (5 : Int32) from fun q => eL ((nIeq (b := 5) (by omega) (by omega)).mp q))]
    · rw [if_neg (show ¬ nI t = (1 : Int32) from fun q => t1 ((nIeq (b := 1) (by omega) (by omega)).mp q))]
theorem nl_quick {fu a : Nat} {B : Nat → Nat} {rd : g_St} (hb : ∀ i, a ≤ i → i < a + 5 → gr rd 1 i = nI (B i) ∧ B i ≤ 255) (ha : a + 5 ≤ 240) (r5 : gi rd 5 = nI a) : ∀ (k n i : Nat), k + i = 5 → k < n → ∃ r, f_T_isName_quick_L28 fu n rd (nI i) = some r ∧ ((r = 1 ∧ ∀ x, i ≤ x → x < 5 → B (a + x) = nmb 1 x) ∨ (r = 0 ∧ ∃ x, x < 5 ∧ ¬ B (a + x) = nmb 1 x)) := by
  intro k
  induction k with
  | zero =>
    intro n i hk hn
    obtain ⟨n, rfl⟩ : ∃ x, n = x + 1 := ⟨n - 1, by omega⟩
    refine ⟨1, ?_, Or.inl ⟨rfl, fun x h1 h2 => by omega⟩⟩
    rw [f_T_isName_quick_L28, if_pos (show (5 : Int32) ≤ nI i from nI_le (a := 5) (by omega) (by omega))]
  | succ k ih =>
    intro n i hk hn
    obtain ⟨n, rfl⟩ : ∃ x, n = x + 1 := ⟨n - 1, by omega⟩
    obtain ⟨b1, b2⟩ := hb (a + i) (by omega) (by omega)
    have sc : sch 1 (nI i) = nI (nmb 1 i) ∧ nmb 1 i ≤ 255 := sch_n ⟨1, by omega⟩ ⟨i, by omega⟩
    rw [f_T_isName_quick_L28, if_neg (show ¬ (5 : Int32) ≤ nI i from nI_ge (b := 5) (by omega) (by omega)), r5, nI_add, gd_of (vpn (n := a + i) (N := 240) (by omega) (by omega)), gd_of (vpn (n := i) (N := 5) (by omega) (by omega)), nIc (show a + i ≤ 4096 by omega), b1, sc.1]
    by_cases z : B (a + i) = nmb 1 i
    · rw [if_pos (by rw [z]), lt_lt, nI_1]
      obtain ⟨r, h1, h2⟩ := ih n (i + 1) (by omega) (by omega)
      refine ⟨r, h1, ?_⟩
      rcases h2 with ⟨h2, h3⟩ | h2
      · refine Or.inl ⟨h2, fun x i1 i2 => ?_⟩
        by_cases q : x = i
        · rw [q]; exact z
        · exact h3 x (by omega) i2
      · exact Or.inr h2
    · rw [if_neg (fun q => z ((nIeq (by omega) (by have := sc.2; omega)).mp q))]
      exact ⟨0, rfl, Or.inr ⟨rfl, i, by omega, z⟩⟩
theorem T_quick {fu N t a e : Nat} {B : Nat → Nat} {rd s : g_St} (hfu : 5000 ≤ fu) (h : TK N B t a e rd s) : f_T_isName_quick fu rd = some (f_M_isWord s 9454493) := by
  have c := name_core (L := 5) (j := 1) (W := 9454493) h (by omega) (show ∀ i, i < 5 → 97 ≤ nmb 1 i ∧ nmb 1 i ≤ 122 from fun i hi => (show ∀ i : Fin 5, 97 ≤ nmb 1 i.val ∧ nmb 1 i.val ≤ 122 by decide +kernel) ⟨i, hi⟩) (by decide +kernel)
  obtain ⟨⟨hN, r2, s16, hb⟩, ha, he, ht, r4, s17, r5, s18, r3, s19, -⟩ := h
  unfold f_T_isName_quick
  rw [r4, r3, r5, pk_sub ha]
  rcases c with ⟨t1, w, eL, eb⟩ | ⟨w, no⟩
  · rw [w, if_pos (show nI t = 1 by rw [t1]; rfl), if_pos (show nI (e - a) = 5 by rw [eL]; rfl)]
    obtain ⟨r, h1, h2⟩ := nl_quick (fu := fu) (fun i i1 i2 => ⟨(hb i (by omega)).1, (hb i (by omega)).2.2⟩) (show a + 5 ≤ 240 by omega) r5 5 fu 0 (by omega) (by omega)
    rcases h2 with ⟨rfl, -⟩ | ⟨-, x, x1, x2⟩
    · exact h1
    · exact absurd (eb x x1) x2
  · rw [w]
    by_cases t1 : t = 1
    · rw [if_pos (show nI t = 1 by rw [t1]; rfl)]
      by_cases eL : e - a = 5
      · rw [if_pos (show nI (e - a) = 5 by rw [eL]; rfl)]
        obtain ⟨r, h1, h2⟩ := nl_quick (fu := fu) (fun i i1 i2 => ⟨(hb i (by omega)).1, (hb i (by omega)).2.2⟩) (show a + 5 ≤ 240 by omega) r5 5 fu 0 (by omega) (by omega)
        rcases h2 with ⟨-, h2⟩ | ⟨rfl, -⟩
        · exact absurd ⟨t1, eL, fun x hx => h2 x (Nat.zero_le x) hx⟩ no
        · exact h1
      · rw [if_neg (show ¬ nI (e - a) = (5 : Int32) from fun q => eL ((nIeq (b := 5) (by omega) (by omega)).mp q))]
    · rw [if_neg (show ¬ nI t = (1 : Int32) from fun q => t1 ((nIeq (b := 1) (by omega) (by omega)).mp q))]
theorem nl_bar {fu a : Nat} {B : Nat → Nat} {rd : g_St} (hb : ∀ i, a ≤ i → i < a + 3 → gr rd 1 i = nI (B i) ∧ B i ≤ 255) (ha : a + 3 ≤ 240) (r5 : gi rd 5 = nI a) : ∀ (k n i : Nat), k + i = 3 → k < n → ∃ r, f_T_isName_bar_L28 fu n rd (nI i) = some r ∧ ((r = 1 ∧ ∀ x, i ≤ x → x < 3 → B (a + x) = nmb 2 x) ∨ (r = 0 ∧ ∃ x, x < 3 ∧ ¬ B (a + x) = nmb 2 x)) := by
  intro k
  induction k with
  | zero =>
    intro n i hk hn
    obtain ⟨n, rfl⟩ : ∃ x, n = x + 1 := ⟨n - 1, by omega⟩
    refine ⟨1, ?_, Or.inl ⟨rfl, fun x h1 h2 => by omega⟩⟩
    rw [f_T_isName_bar_L28, if_pos (show (3 : Int32) ≤ nI i from nI_le (a := 3) (by omega) (by omega))]
  | succ k ih =>
    intro n i hk hn
    obtain ⟨n, rfl⟩ : ∃ x, n = x + 1 := ⟨n - 1, by omega⟩
    obtain ⟨b1, b2⟩ := hb (a + i) (by omega) (by omega)
    have sc : sch 2 (nI i) = nI (nmb 2 i) ∧ nmb 2 i ≤ 255 := sch_n ⟨2, by omega⟩ ⟨i, by omega⟩
    rw [f_T_isName_bar_L28, if_neg (show ¬ (3 : Int32) ≤ nI i from nI_ge (b := 3) (by omega) (by omega)), r5, nI_add, gd_of (vpn (n := a + i) (N := 240) (by omega) (by omega)), gd_of (vpn (n := i) (N := 3) (by omega) (by omega)), nIc (show a + i ≤ 4096 by omega), b1, sc.1]
    by_cases z : B (a + i) = nmb 2 i
    · rw [if_pos (by rw [z]), lt_lt, nI_1]
      obtain ⟨r, h1, h2⟩ := ih n (i + 1) (by omega) (by omega)
      refine ⟨r, h1, ?_⟩
      rcases h2 with ⟨h2, h3⟩ | h2
      · refine Or.inl ⟨h2, fun x i1 i2 => ?_⟩
        by_cases q : x = i
        · rw [q]; exact z
        · exact h3 x (by omega) i2
      · exact Or.inr h2
    · rw [if_neg (fun q => z ((nIeq (by omega) (by have := sc.2; omega)).mp q))]
      exact ⟨0, rfl, Or.inr ⟨rfl, i, by omega, z⟩⟩
theorem T_bar {fu N t a e : Nat} {B : Nat → Nat} {rd s : g_St} (hfu : 5000 ≤ fu) (h : TK N B t a e rd s) : f_T_isName_bar fu rd = some (f_M_isWord s 1503) := by
  have c := name_core (L := 3) (j := 2) (W := 1503) h (by omega) (show ∀ i, i < 3 → 97 ≤ nmb 2 i ∧ nmb 2 i ≤ 122 from fun i hi => (show ∀ i : Fin 3, 97 ≤ nmb 2 i.val ∧ nmb 2 i.val ≤ 122 by decide +kernel) ⟨i, hi⟩) (by decide +kernel)
  obtain ⟨⟨hN, r2, s16, hb⟩, ha, he, ht, r4, s17, r5, s18, r3, s19, -⟩ := h
  unfold f_T_isName_bar
  rw [r4, r3, r5, pk_sub ha]
  rcases c with ⟨t1, w, eL, eb⟩ | ⟨w, no⟩
  · rw [w, if_pos (show nI t = 1 by rw [t1]; rfl), if_pos (show nI (e - a) = 3 by rw [eL]; rfl)]
    obtain ⟨r, h1, h2⟩ := nl_bar (fu := fu) (fun i i1 i2 => ⟨(hb i (by omega)).1, (hb i (by omega)).2.2⟩) (show a + 3 ≤ 240 by omega) r5 3 fu 0 (by omega) (by omega)
    rcases h2 with ⟨rfl, -⟩ | ⟨-, x, x1, x2⟩
    · exact h1
    · exact absurd (eb x x1) x2
  · rw [w]
    by_cases t1 : t = 1
    · rw [if_pos (show nI t = 1 by rw [t1]; rfl)]
      by_cases eL : e - a = 3
      · rw [if_pos (show nI (e - a) = 3 by rw [eL]; rfl)]
        obtain ⟨r, h1, h2⟩ := nl_bar (fu := fu) (fun i i1 i2 => ⟨(hb i (by omega)).1, (hb i (by omega)).2.2⟩) (show a + 3 ≤ 240 by omega) r5 3 fu 0 (by omega) (by omega)
        rcases h2 with ⟨-, h2⟩ | ⟨rfl, -⟩
        · exact absurd ⟨t1, eL, fun x hx => h2 x (Nat.zero_le x) hx⟩ no
        · exact h1
      · rw [if_neg (show ¬ nI (e - a) = (3 : Int32) from fun q => eL ((nIeq (b := 3) (by omega) (by omega)).mp q))]
    · rw [if_neg (show ¬ nI t = (1 : Int32) from fun q => t1 ((nIeq (b := 1) (by omega) (by omega)).mp q))]
theorem nl_wait {fu a : Nat} {B : Nat → Nat} {rd : g_St} (hb : ∀ i, a ≤ i → i < a + 4 → gr rd 1 i = nI (B i) ∧ B i ≤ 255) (ha : a + 4 ≤ 240) (r5 : gi rd 5 = nI a) : ∀ (k n i : Nat), k + i = 4 → k < n → ∃ r, f_T_isName_wait_L28 fu n rd (nI i) = some r ∧ ((r = 1 ∧ ∀ x, i ≤ x → x < 4 → B (a + x) = nmb 3 x) ∨ (r = 0 ∧ ∃ x, x < 4 ∧ ¬ B (a + x) = nmb 3 x)) := by
  intro k
  induction k with
  | zero =>
    intro n i hk hn
    obtain ⟨n, rfl⟩ : ∃ x, n = x + 1 := ⟨n - 1, by omega⟩
    refine ⟨1, ?_, Or.inl ⟨rfl, fun x h1 h2 => by omega⟩⟩
    rw [f_T_isName_wait_L28, if_pos (show (4 : Int32) ≤ nI i from nI_le (a := 4) (by omega) (by omega))]
  | succ k ih =>
    intro n i hk hn
    obtain ⟨n, rfl⟩ : ∃ x, n = x + 1 := ⟨n - 1, by omega⟩
    obtain ⟨b1, b2⟩ := hb (a + i) (by omega) (by omega)
    have sc : sch 3 (nI i) = nI (nmb 3 i) ∧ nmb 3 i ≤ 255 := sch_n ⟨3, by omega⟩ ⟨i, by omega⟩
    rw [f_T_isName_wait_L28, if_neg (show ¬ (4 : Int32) ≤ nI i from nI_ge (b := 4) (by omega) (by omega)), r5, nI_add, gd_of (vpn (n := a + i) (N := 240) (by omega) (by omega)), gd_of (vpn (n := i) (N := 4) (by omega) (by omega)), nIc (show a + i ≤ 4096 by omega), b1, sc.1]
    by_cases z : B (a + i) = nmb 3 i
    · rw [if_pos (by rw [z]), lt_lt, nI_1]
      obtain ⟨r, h1, h2⟩ := ih n (i + 1) (by omega) (by omega)
      refine ⟨r, h1, ?_⟩
      rcases h2 with ⟨h2, h3⟩ | h2
      · refine Or.inl ⟨h2, fun x i1 i2 => ?_⟩
        by_cases q : x = i
        · rw [q]; exact z
        · exact h3 x (by omega) i2
      · exact Or.inr h2
    · rw [if_neg (fun q => z ((nIeq (by omega) (by have := sc.2; omega)).mp q))]
      exact ⟨0, rfl, Or.inr ⟨rfl, i, by omega, z⟩⟩
theorem T_wait {fu N t a e : Nat} {B : Nat → Nat} {rd s : g_St} (hfu : 5000 ≤ fu) (h : TK N B t a e rd s) : f_T_isName_wait fu rd = some (f_M_isWord s 453701) := by
  have c := name_core (L := 4) (j := 3) (W := 453701) h (by omega) (show ∀ i, i < 4 → 97 ≤ nmb 3 i ∧ nmb 3 i ≤ 122 from fun i hi => (show ∀ i : Fin 4, 97 ≤ nmb 3 i.val ∧ nmb 3 i.val ≤ 122 by decide +kernel) ⟨i, hi⟩) (by decide +kernel)
  obtain ⟨⟨hN, r2, s16, hb⟩, ha, he, ht, r4, s17, r5, s18, r3, s19, -⟩ := h
  unfold f_T_isName_wait
  rw [r4, r3, r5, pk_sub ha]
  rcases c with ⟨t1, w, eL, eb⟩ | ⟨w, no⟩
  · rw [w, if_pos (show nI t = 1 by rw [t1]; rfl), if_pos (show nI (e - a) = 4 by rw [eL]; rfl)]
    obtain ⟨r, h1, h2⟩ := nl_wait (fu := fu) (fun i i1 i2 => ⟨(hb i (by omega)).1, (hb i (by omega)).2.2⟩) (show a + 4 ≤ 240 by omega) r5 4 fu 0 (by omega) (by omega)
    rcases h2 with ⟨rfl, -⟩ | ⟨-, x, x1, x2⟩
    · exact h1
    · exact absurd (eb x x1) x2
  · rw [w]
    by_cases t1 : t = 1
    · rw [if_pos (show nI t = 1 by rw [t1]; rfl)]
      by_cases eL : e - a = 4
      · rw [if_pos (show nI (e - a) = 4 by rw [eL]; rfl)]
        obtain ⟨r, h1, h2⟩ := nl_wait (fu := fu) (fun i i1 i2 => ⟨(hb i (by omega)).1, (hb i (by omega)).2.2⟩) (show a + 4 ≤ 240 by omega) r5 4 fu 0 (by omega) (by omega)
        rcases h2 with ⟨-, h2⟩ | ⟨rfl, -⟩
        · exact absurd ⟨t1, eL, fun x hx => h2 x (Nat.zero_le x) hx⟩ no
        · exact h1
      · rw [if_neg (show ¬ nI (e - a) = (4 : Int32) from fun q => eL ((nIeq (b := 4) (by omega) (by omega)).mp q))]
    · rw [if_neg (show ¬ nI t = (1 : Int32) from fun q => t1 ((nIeq (b := 1) (by omega) (by omega)).mp q))]
theorem nl_league {fu a : Nat} {B : Nat → Nat} {rd : g_St} (hb : ∀ i, a ≤ i → i < a + 6 → gr rd 1 i = nI (B i) ∧ B i ≤ 255) (ha : a + 6 ≤ 240) (r5 : gi rd 5 = nI a) : ∀ (k n i : Nat), k + i = 6 → k < n → ∃ r, f_T_isName_league_L28 fu n rd (nI i) = some r ∧ ((r = 1 ∧ ∀ x, i ≤ x → x < 6 → B (a + x) = nmb 4 x) ∨ (r = 0 ∧ ∃ x, x < 6 ∧ ¬ B (a + x) = nmb 4 x)) := by
  intro k
  induction k with
  | zero =>
    intro n i hk hn
    obtain ⟨n, rfl⟩ : ∃ x, n = x + 1 := ⟨n - 1, by omega⟩
    refine ⟨1, ?_, Or.inl ⟨rfl, fun x h1 h2 => by omega⟩⟩
    rw [f_T_isName_league_L28, if_pos (show (6 : Int32) ≤ nI i from nI_le (a := 6) (by omega) (by omega))]
  | succ k ih =>
    intro n i hk hn
    obtain ⟨n, rfl⟩ : ∃ x, n = x + 1 := ⟨n - 1, by omega⟩
    obtain ⟨b1, b2⟩ := hb (a + i) (by omega) (by omega)
    have sc : sch 4 (nI i) = nI (nmb 4 i) ∧ nmb 4 i ≤ 255 := sch_n ⟨4, by omega⟩ ⟨i, by omega⟩
    rw [f_T_isName_league_L28, if_neg (show ¬ (6 : Int32) ≤ nI i from nI_ge (b := 6) (by omega) (by omega)), r5, nI_add, gd_of (vpn (n := a + i) (N := 240) (by omega) (by omega)), gd_of (vpn (n := i) (N := 6) (by omega) (by omega)), nIc (show a + i ≤ 4096 by omega), b1, sc.1]
    by_cases z : B (a + i) = nmb 4 i
    · rw [if_pos (by rw [z]), lt_lt, nI_1]
      obtain ⟨r, h1, h2⟩ := ih n (i + 1) (by omega) (by omega)
      refine ⟨r, h1, ?_⟩
      rcases h2 with ⟨h2, h3⟩ | h2
      · refine Or.inl ⟨h2, fun x i1 i2 => ?_⟩
        by_cases q : x = i
        · rw [q]; exact z
        · exact h3 x (by omega) i2
      · exact Or.inr h2
    · rw [if_neg (fun q => z ((nIeq (by omega) (by have := sc.2; omega)).mp q))]
      exact ⟨0, rfl, Or.inr ⟨rfl, i, by omega, z⟩⟩
theorem T_league {fu N t a e : Nat} {B : Nat → Nat} {rd s : g_St} (hfu : 5000 ≤ fu) (h : TK N B t a e rd s) : f_T_isName_league fu rd = some (f_M_isWord s 174869447) := by
  have c := name_core (L := 6) (j := 4) (W := 174869447) h (by omega) (show ∀ i, i < 6 → 97 ≤ nmb 4 i ∧ nmb 4 i ≤ 122 from fun i hi => (show ∀ i : Fin 6, 97 ≤ nmb 4 i.val ∧ nmb 4 i.val ≤ 122 by decide +kernel) ⟨i, hi⟩) (by decide +kernel)
  obtain ⟨⟨hN, r2, s16, hb⟩, ha, he, ht, r4, s17, r5, s18, r3, s19, -⟩ := h
  unfold f_T_isName_league
  rw [r4, r3, r5, pk_sub ha]
  rcases c with ⟨t1, w, eL, eb⟩ | ⟨w, no⟩
  · rw [w, if_pos (show nI t = 1 by rw [t1]; rfl), if_pos (show nI (e - a) = 6 by rw [eL]; rfl)]
    obtain ⟨r, h1, h2⟩ := nl_league (fu := fu) (fun i i1 i2 => ⟨(hb i (by omega)).1, (hb i (by omega)).2.2⟩) (show a + 6 ≤ 240 by omega) r5 6 fu 0 (by omega) (by omega)
    rcases h2 with ⟨rfl, -⟩ | ⟨-, x, x1, x2⟩
    · exact h1
    · exact absurd (eb x x1) x2
  · rw [w]
    by_cases t1 : t = 1
    · rw [if_pos (show nI t = 1 by rw [t1]; rfl)]
      by_cases eL : e - a = 6
      · rw [if_pos (show nI (e - a) = 6 by rw [eL]; rfl)]
        obtain ⟨r, h1, h2⟩ := nl_league (fu := fu) (fun i i1 i2 => ⟨(hb i (by omega)).1, (hb i (by omega)).2.2⟩) (show a + 6 ≤ 240 by omega) r5 6 fu 0 (by omega) (by omega)
        rcases h2 with ⟨-, h2⟩ | ⟨rfl, -⟩
        · exact absurd ⟨t1, eL, fun x hx => h2 x (Nat.zero_le x) hx⟩ no
        · exact h1
      · rw [if_neg (show ¬ nI (e - a) = (6 : Int32) from fun q => eL ((nIeq (b := 6) (by omega) (by omega)).mp q))]
    · rw [if_neg (show ¬ nI t = (1 : Int32) from fun q => t1 ((nIeq (b := 1) (by omega) (by omega)).mp q))]
theorem nl_told {fu a : Nat} {B : Nat → Nat} {rd : g_St} (hb : ∀ i, a ≤ i → i < a + 4 → gr rd 1 i = nI (B i) ∧ B i ≤ 255) (ha : a + 4 ≤ 240) (r5 : gi rd 5 = nI a) : ∀ (k n i : Nat), k + i = 4 → k < n → ∃ r, f_T_isName_told_L28 fu n rd (nI i) = some r ∧ ((r = 1 ∧ ∀ x, i ≤ x → x < 4 → B (a + x) = nmb 5 x) ∨ (r = 0 ∧ ∃ x, x < 4 ∧ ¬ B (a + x) = nmb 5 x)) := by
  intro k
  induction k with
  | zero =>
    intro n i hk hn
    obtain ⟨n, rfl⟩ : ∃ x, n = x + 1 := ⟨n - 1, by omega⟩
    refine ⟨1, ?_, Or.inl ⟨rfl, fun x h1 h2 => by omega⟩⟩
    rw [f_T_isName_told_L28, if_pos (show (4 : Int32) ≤ nI i from nI_le (a := 4) (by omega) (by omega))]
  | succ k ih =>
    intro n i hk hn
    obtain ⟨n, rfl⟩ : ∃ x, n = x + 1 := ⟨n - 1, by omega⟩
    obtain ⟨b1, b2⟩ := hb (a + i) (by omega) (by omega)
    have sc : sch 5 (nI i) = nI (nmb 5 i) ∧ nmb 5 i ≤ 255 := sch_n ⟨5, by omega⟩ ⟨i, by omega⟩
    rw [f_T_isName_told_L28, if_neg (show ¬ (4 : Int32) ≤ nI i from nI_ge (b := 4) (by omega) (by omega)), r5, nI_add, gd_of (vpn (n := a + i) (N := 240) (by omega) (by omega)), gd_of (vpn (n := i) (N := 4) (by omega) (by omega)), nIc (show a + i ≤ 4096 by omega), b1, sc.1]
    by_cases z : B (a + i) = nmb 5 i
    · rw [if_pos (by rw [z]), lt_lt, nI_1]
      obtain ⟨r, h1, h2⟩ := ih n (i + 1) (by omega) (by omega)
      refine ⟨r, h1, ?_⟩
      rcases h2 with ⟨h2, h3⟩ | h2
      · refine Or.inl ⟨h2, fun x i1 i2 => ?_⟩
        by_cases q : x = i
        · rw [q]; exact z
        · exact h3 x (by omega) i2
      · exact Or.inr h2
    · rw [if_neg (fun q => z ((nIeq (by omega) (by have := sc.2; omega)).mp q))]
      exact ⟨0, rfl, Or.inr ⟨rfl, i, by omega, z⟩⟩
theorem T_told {fu N t a e : Nat} {B : Nat → Nat} {rd s : g_St} (hfu : 5000 ≤ fu) (h : TK N B t a e rd s) : f_T_isName_told fu rd = some (f_M_isWord s 404923) := by
  have c := name_core (L := 4) (j := 5) (W := 404923) h (by omega) (show ∀ i, i < 4 → 97 ≤ nmb 5 i ∧ nmb 5 i ≤ 122 from fun i hi => (show ∀ i : Fin 4, 97 ≤ nmb 5 i.val ∧ nmb 5 i.val ≤ 122 by decide +kernel) ⟨i, hi⟩) (by decide +kernel)
  obtain ⟨⟨hN, r2, s16, hb⟩, ha, he, ht, r4, s17, r5, s18, r3, s19, -⟩ := h
  unfold f_T_isName_told
  rw [r4, r3, r5, pk_sub ha]
  rcases c with ⟨t1, w, eL, eb⟩ | ⟨w, no⟩
  · rw [w, if_pos (show nI t = 1 by rw [t1]; rfl), if_pos (show nI (e - a) = 4 by rw [eL]; rfl)]
    obtain ⟨r, h1, h2⟩ := nl_told (fu := fu) (fun i i1 i2 => ⟨(hb i (by omega)).1, (hb i (by omega)).2.2⟩) (show a + 4 ≤ 240 by omega) r5 4 fu 0 (by omega) (by omega)
    rcases h2 with ⟨rfl, -⟩ | ⟨-, x, x1, x2⟩
    · exact h1
    · exact absurd (eb x x1) x2
  · rw [w]
    by_cases t1 : t = 1
    · rw [if_pos (show nI t = 1 by rw [t1]; rfl)]
      by_cases eL : e - a = 4
      · rw [if_pos (show nI (e - a) = 4 by rw [eL]; rfl)]
        obtain ⟨r, h1, h2⟩ := nl_told (fu := fu) (fun i i1 i2 => ⟨(hb i (by omega)).1, (hb i (by omega)).2.2⟩) (show a + 4 ≤ 240 by omega) r5 4 fu 0 (by omega) (by omega)
        rcases h2 with ⟨-, h2⟩ | ⟨rfl, -⟩
        · exact absurd ⟨t1, eL, fun x hx => h2 x (Nat.zero_le x) hx⟩ no
        · exact h1
      · rw [if_neg (show ¬ nI (e - a) = (4 : Int32) from fun q => eL ((nIeq (b := 4) (by omega) (by omega)).mp q))]
    · rw [if_neg (show ¬ nI t = (1 : Int32) from fun q => t1 ((nIeq (b := 1) (by omega) (by omega)).mp q))]
theorem nl_age {fu a : Nat} {B : Nat → Nat} {rd : g_St} (hb : ∀ i, a ≤ i → i < a + 3 → gr rd 1 i = nI (B i) ∧ B i ≤ 255) (ha : a + 3 ≤ 240) (r5 : gi rd 5 = nI a) : ∀ (k n i : Nat), k + i = 3 → k < n → ∃ r, f_T_isName_age_L28 fu n rd (nI i) = some r ∧ ((r = 1 ∧ ∀ x, i ≤ x → x < 3 → B (a + x) = nmb 6 x) ∨ (r = 0 ∧ ∃ x, x < 3 ∧ ¬ B (a + x) = nmb 6 x)) := by
  intro k
  induction k with
  | zero =>
    intro n i hk hn
    obtain ⟨n, rfl⟩ : ∃ x, n = x + 1 := ⟨n - 1, by omega⟩
    refine ⟨1, ?_, Or.inl ⟨rfl, fun x h1 h2 => by omega⟩⟩
    rw [f_T_isName_age_L28, if_pos (show (3 : Int32) ≤ nI i from nI_le (a := 3) (by omega) (by omega))]
  | succ k ih =>
    intro n i hk hn
    obtain ⟨n, rfl⟩ : ∃ x, n = x + 1 := ⟨n - 1, by omega⟩
    obtain ⟨b1, b2⟩ := hb (a + i) (by omega) (by omega)
    have sc : sch 6 (nI i) = nI (nmb 6 i) ∧ nmb 6 i ≤ 255 := sch_n ⟨6, by omega⟩ ⟨i, by omega⟩
    rw [f_T_isName_age_L28, if_neg (show ¬ (3 : Int32) ≤ nI i from nI_ge (b := 3) (by omega) (by omega)), r5, nI_add, gd_of (vpn (n := a + i) (N := 240) (by omega) (by omega)), gd_of (vpn (n := i) (N := 3) (by omega) (by omega)), nIc (show a + i ≤ 4096 by omega), b1, sc.1]
    by_cases z : B (a + i) = nmb 6 i
    · rw [if_pos (by rw [z]), lt_lt, nI_1]
      obtain ⟨r, h1, h2⟩ := ih n (i + 1) (by omega) (by omega)
      refine ⟨r, h1, ?_⟩
      rcases h2 with ⟨h2, h3⟩ | h2
      · refine Or.inl ⟨h2, fun x i1 i2 => ?_⟩
        by_cases q : x = i
        · rw [q]; exact z
        · exact h3 x (by omega) i2
      · exact Or.inr h2
    · rw [if_neg (fun q => z ((nIeq (by omega) (by have := sc.2; omega)).mp q))]
      exact ⟨0, rfl, Or.inr ⟨rfl, i, by omega, z⟩⟩
theorem T_age {fu N t a e : Nat} {B : Nat → Nat} {rd s : g_St} (hfu : 5000 ≤ fu) (h : TK N B t a e rd s) : f_T_isName_age fu rd = some (f_M_isWord s 923) := by
  have c := name_core (L := 3) (j := 6) (W := 923) h (by omega) (show ∀ i, i < 3 → 97 ≤ nmb 6 i ∧ nmb 6 i ≤ 122 from fun i hi => (show ∀ i : Fin 3, 97 ≤ nmb 6 i.val ∧ nmb 6 i.val ≤ 122 by decide +kernel) ⟨i, hi⟩) (by decide +kernel)
  obtain ⟨⟨hN, r2, s16, hb⟩, ha, he, ht, r4, s17, r5, s18, r3, s19, -⟩ := h
  unfold f_T_isName_age
  rw [r4, r3, r5, pk_sub ha]
  rcases c with ⟨t1, w, eL, eb⟩ | ⟨w, no⟩
  · rw [w, if_pos (show nI t = 1 by rw [t1]; rfl), if_pos (show nI (e - a) = 3 by rw [eL]; rfl)]
    obtain ⟨r, h1, h2⟩ := nl_age (fu := fu) (fun i i1 i2 => ⟨(hb i (by omega)).1, (hb i (by omega)).2.2⟩) (show a + 3 ≤ 240 by omega) r5 3 fu 0 (by omega) (by omega)
    rcases h2 with ⟨rfl, -⟩ | ⟨-, x, x1, x2⟩
    · exact h1
    · exact absurd (eb x x1) x2
  · rw [w]
    by_cases t1 : t = 1
    · rw [if_pos (show nI t = 1 by rw [t1]; rfl)]
      by_cases eL : e - a = 3
      · rw [if_pos (show nI (e - a) = 3 by rw [eL]; rfl)]
        obtain ⟨r, h1, h2⟩ := nl_age (fu := fu) (fun i i1 i2 => ⟨(hb i (by omega)).1, (hb i (by omega)).2.2⟩) (show a + 3 ≤ 240 by omega) r5 3 fu 0 (by omega) (by omega)
        rcases h2 with ⟨-, h2⟩ | ⟨rfl, -⟩
        · exact absurd ⟨t1, eL, fun x hx => h2 x (Nat.zero_le x) hx⟩ no
        · exact h1
      · rw [if_neg (show ¬ nI (e - a) = (3 : Int32) from fun q => eL ((nIeq (b := 3) (by omega) (by omega)).mp q))]
    · rw [if_neg (show ¬ nI t = (1 : Int32) from fun q => t1 ((nIeq (b := 1) (by omega) (by omega)).mp q))]
theorem nl_noes {fu a : Nat} {B : Nat → Nat} {rd : g_St} (hb : ∀ i, a ≤ i → i < a + 4 → gr rd 1 i = nI (B i) ∧ B i ≤ 255) (ha : a + 4 ≤ 240) (r5 : gi rd 5 = nI a) : ∀ (k n i : Nat), k + i = 4 → k < n → ∃ r, f_T_isName_noes_L28 fu n rd (nI i) = some r ∧ ((r = 1 ∧ ∀ x, i ≤ x → x < 4 → B (a + x) = nmb 7 x) ∨ (r = 0 ∧ ∃ x, x < 4 ∧ ¬ B (a + x) = nmb 7 x)) := by
  intro k
  induction k with
  | zero =>
    intro n i hk hn
    obtain ⟨n, rfl⟩ : ∃ x, n = x + 1 := ⟨n - 1, by omega⟩
    refine ⟨1, ?_, Or.inl ⟨rfl, fun x h1 h2 => by omega⟩⟩
    rw [f_T_isName_noes_L28, if_pos (show (4 : Int32) ≤ nI i from nI_le (a := 4) (by omega) (by omega))]
  | succ k ih =>
    intro n i hk hn
    obtain ⟨n, rfl⟩ : ∃ x, n = x + 1 := ⟨n - 1, by omega⟩
    obtain ⟨b1, b2⟩ := hb (a + i) (by omega) (by omega)
    have sc : sch 7 (nI i) = nI (nmb 7 i) ∧ nmb 7 i ≤ 255 := sch_n ⟨7, by omega⟩ ⟨i, by omega⟩
    rw [f_T_isName_noes_L28, if_neg (show ¬ (4 : Int32) ≤ nI i from nI_ge (b := 4) (by omega) (by omega)), r5, nI_add, gd_of (vpn (n := a + i) (N := 240) (by omega) (by omega)), gd_of (vpn (n := i) (N := 4) (by omega) (by omega)), nIc (show a + i ≤ 4096 by omega), b1, sc.1]
    by_cases z : B (a + i) = nmb 7 i
    · rw [if_pos (by rw [z]), lt_lt, nI_1]
      obtain ⟨r, h1, h2⟩ := ih n (i + 1) (by omega) (by omega)
      refine ⟨r, h1, ?_⟩
      rcases h2 with ⟨h2, h3⟩ | h2
      · refine Or.inl ⟨h2, fun x i1 i2 => ?_⟩
        by_cases q : x = i
        · rw [q]; exact z
        · exact h3 x (by omega) i2
      · exact Or.inr h2
    · rw [if_neg (fun q => z ((nIeq (by omega) (by have := sc.2; omega)).mp q))]
      exact ⟨0, rfl, Or.inr ⟨rfl, i, by omega, z⟩⟩
theorem T_noes {fu N t a e : Nat} {B : Nat → Nat} {rd s : g_St} (hfu : 5000 ≤ fu) (h : TK N B t a e rd s) : f_T_isName_noes fu rd = some (f_M_isWord s 286651) := by
  have c := name_core (L := 4) (j := 7) (W := 286651) h (by omega) (show ∀ i, i < 4 → 97 ≤ nmb 7 i ∧ nmb 7 i ≤ 122 from fun i hi => (show ∀ i : Fin 4, 97 ≤ nmb 7 i.val ∧ nmb 7 i.val ≤ 122 by decide +kernel) ⟨i, hi⟩) (by decide +kernel)
  obtain ⟨⟨hN, r2, s16, hb⟩, ha, he, ht, r4, s17, r5, s18, r3, s19, -⟩ := h
  unfold f_T_isName_noes
  rw [r4, r3, r5, pk_sub ha]
  rcases c with ⟨t1, w, eL, eb⟩ | ⟨w, no⟩
  · rw [w, if_pos (show nI t = 1 by rw [t1]; rfl), if_pos (show nI (e - a) = 4 by rw [eL]; rfl)]
    obtain ⟨r, h1, h2⟩ := nl_noes (fu := fu) (fun i i1 i2 => ⟨(hb i (by omega)).1, (hb i (by omega)).2.2⟩) (show a + 4 ≤ 240 by omega) r5 4 fu 0 (by omega) (by omega)
    rcases h2 with ⟨rfl, -⟩ | ⟨-, x, x1, x2⟩
    · exact h1
    · exact absurd (eb x x1) x2
  · rw [w]
    by_cases t1 : t = 1
    · rw [if_pos (show nI t = 1 by rw [t1]; rfl)]
      by_cases eL : e - a = 4
      · rw [if_pos (show nI (e - a) = 4 by rw [eL]; rfl)]
        obtain ⟨r, h1, h2⟩ := nl_noes (fu := fu) (fun i i1 i2 => ⟨(hb i (by omega)).1, (hb i (by omega)).2.2⟩) (show a + 4 ≤ 240 by omega) r5 4 fu 0 (by omega) (by omega)
        rcases h2 with ⟨-, h2⟩ | ⟨rfl, -⟩
        · exact absurd ⟨t1, eL, fun x hx => h2 x (Nat.zero_le x) hx⟩ no
        · exact h1
      · rw [if_neg (show ¬ nI (e - a) = (4 : Int32) from fun q => eL ((nIeq (b := 4) (by omega) (by omega)).mp q))]
    · rw [if_neg (show ¬ nI t = (1 : Int32) from fun q => t1 ((nIeq (b := 1) (by omega) (by omega)).mp q))]
theorem nl_proposal {fu a : Nat} {B : Nat → Nat} {rd : g_St} (hb : ∀ i, a ≤ i → i < a + 8 → gr rd 1 i = nI (B i) ∧ B i ≤ 255) (ha : a + 8 ≤ 240) (r5 : gi rd 5 = nI a) : ∀ (k n i : Nat), k + i = 8 → k < n → ∃ r, f_T_isName_proposal_L28 fu n rd (nI i) = some r ∧ ((r = 1 ∧ ∀ x, i ≤ x → x < 8 → B (a + x) = nmb 8 x) ∨ (r = 0 ∧ ∃ x, x < 8 ∧ ¬ B (a + x) = nmb 8 x)) := by
  intro k
  induction k with
  | zero =>
    intro n i hk hn
    obtain ⟨n, rfl⟩ : ∃ x, n = x + 1 := ⟨n - 1, by omega⟩
    refine ⟨1, ?_, Or.inl ⟨rfl, fun x h1 h2 => by omega⟩⟩
    rw [f_T_isName_proposal_L28, if_pos (show (8 : Int32) ≤ nI i from nI_le (a := 8) (by omega) (by omega))]
  | succ k ih =>
    intro n i hk hn
    obtain ⟨n, rfl⟩ : ∃ x, n = x + 1 := ⟨n - 1, by omega⟩
    obtain ⟨b1, b2⟩ := hb (a + i) (by omega) (by omega)
    have sc : sch 8 (nI i) = nI (nmb 8 i) ∧ nmb 8 i ≤ 255 := sch_n ⟨8, by omega⟩ ⟨i, by omega⟩
    rw [f_T_isName_proposal_L28, if_neg (show ¬ (8 : Int32) ≤ nI i from nI_ge (b := 8) (by omega) (by omega)), r5, nI_add, gd_of (vpn (n := a + i) (N := 240) (by omega) (by omega)), gd_of (vpn (n := i) (N := 8) (by omega) (by omega)), nIc (show a + i ≤ 4096 by omega), b1, sc.1]
    by_cases z : B (a + i) = nmb 8 i
    · rw [if_pos (by rw [z]), lt_lt, nI_1]
      obtain ⟨r, h1, h2⟩ := ih n (i + 1) (by omega) (by omega)
      refine ⟨r, h1, ?_⟩
      rcases h2 with ⟨h2, h3⟩ | h2
      · refine Or.inl ⟨h2, fun x i1 i2 => ?_⟩
        by_cases q : x = i
        · rw [q]; exact z
        · exact h3 x (by omega) i2
      · exact Or.inr h2
    · rw [if_neg (fun q => z ((nIeq (by omega) (by have := sc.2; omega)).mp q))]
      exact ⟨0, rfl, Or.inr ⟨rfl, i, by omega, z⟩⟩
theorem T_proposal {fu N t a e : Nat} {B : Nat → Nat} {rd s : g_St} (hfu : 5000 ≤ fu) (h : TK N B t a e rd s) : f_T_isName_proposal fu rd = some (f_M_isWord s 174563265846) := by
  have c := name_core (L := 8) (j := 8) (W := 174563265846) h (by omega) (show ∀ i, i < 8 → 97 ≤ nmb 8 i ∧ nmb 8 i ≤ 122 from fun i hi => (show ∀ i : Fin 8, 97 ≤ nmb 8 i.val ∧ nmb 8 i.val ≤ 122 by decide +kernel) ⟨i, hi⟩) (by decide +kernel)
  obtain ⟨⟨hN, r2, s16, hb⟩, ha, he, ht, r4, s17, r5, s18, r3, s19, -⟩ := h
  unfold f_T_isName_proposal
  rw [r4, r3, r5, pk_sub ha]
  rcases c with ⟨t1, w, eL, eb⟩ | ⟨w, no⟩
  · rw [w, if_pos (show nI t = 1 by rw [t1]; rfl), if_pos (show nI (e - a) = 8 by rw [eL]; rfl)]
    obtain ⟨r, h1, h2⟩ := nl_proposal (fu := fu) (fun i i1 i2 => ⟨(hb i (by omega)).1, (hb i (by omega)).2.2⟩) (show a + 8 ≤ 240 by omega) r5 8 fu 0 (by omega) (by omega)
    rcases h2 with ⟨rfl, -⟩ | ⟨-, x, x1, x2⟩
    · exact h1
    · exact absurd (eb x x1) x2
  · rw [w]
    by_cases t1 : t = 1
    · rw [if_pos (show nI t = 1 by rw [t1]; rfl)]
      by_cases eL : e - a = 8
      · rw [if_pos (show nI (e - a) = 8 by rw [eL]; rfl)]
        obtain ⟨r, h1, h2⟩ := nl_proposal (fu := fu) (fun i i1 i2 => ⟨(hb i (by omega)).1, (hb i (by omega)).2.2⟩) (show a + 8 ≤ 240 by omega) r5 8 fu 0 (by omega) (by omega)
        rcases h2 with ⟨-, h2⟩ | ⟨rfl, -⟩
        · exact absurd ⟨t1, eL, fun x hx => h2 x (Nat.zero_le x) hx⟩ no
        · exact h1
      · rw [if_neg (show ¬ nI (e - a) = (8 : Int32) from fun q => eL ((nIeq (b := 8) (by omega) (by omega)).mp q))]
    · rw [if_neg (show ¬ nI t = (1 : Int32) from fun q => t1 ((nIeq (b := 1) (by omega) (by omega)).mp q))]
theorem nl_worth {fu a : Nat} {B : Nat → Nat} {rd : g_St} (hb : ∀ i, a ≤ i → i < a + 5 → gr rd 1 i = nI (B i) ∧ B i ≤ 255) (ha : a + 5 ≤ 240) (r5 : gi rd 5 = nI a) : ∀ (k n i : Nat), k + i = 5 → k < n → ∃ r, f_T_isName_worth_L28 fu n rd (nI i) = some r ∧ ((r = 1 ∧ ∀ x, i ≤ x → x < 5 → B (a + x) = nmb 9 x) ∨ (r = 0 ∧ ∃ x, x < 5 ∧ ¬ B (a + x) = nmb 9 x)) := by
  intro k
  induction k with
  | zero =>
    intro n i hk hn
    obtain ⟨n, rfl⟩ : ∃ x, n = x + 1 := ⟨n - 1, by omega⟩
    refine ⟨1, ?_, Or.inl ⟨rfl, fun x h1 h2 => by omega⟩⟩
    rw [f_T_isName_worth_L28, if_pos (show (5 : Int32) ≤ nI i from nI_le (a := 5) (by omega) (by omega))]
  | succ k ih =>
    intro n i hk hn
    obtain ⟨n, rfl⟩ : ∃ x, n = x + 1 := ⟨n - 1, by omega⟩
    obtain ⟨b1, b2⟩ := hb (a + i) (by omega) (by omega)
    have sc : sch 9 (nI i) = nI (nmb 9 i) ∧ nmb 9 i ≤ 255 := sch_n ⟨9, by omega⟩ ⟨i, by omega⟩
    rw [f_T_isName_worth_L28, if_neg (show ¬ (5 : Int32) ≤ nI i from nI_ge (b := 5) (by omega) (by omega)), r5, nI_add, gd_of (vpn (n := a + i) (N := 240) (by omega) (by omega)), gd_of (vpn (n := i) (N := 5) (by omega) (by omega)), nIc (show a + i ≤ 4096 by omega), b1, sc.1]
    by_cases z : B (a + i) = nmb 9 i
    · rw [if_pos (by rw [z]), lt_lt, nI_1]
      obtain ⟨r, h1, h2⟩ := ih n (i + 1) (by omega) (by omega)
      refine ⟨r, h1, ?_⟩
      rcases h2 with ⟨h2, h3⟩ | h2
      · refine Or.inl ⟨h2, fun x i1 i2 => ?_⟩
        by_cases q : x = i
        · rw [q]; exact z
        · exact h3 x (by omega) i2
      · exact Or.inr h2
    · rw [if_neg (fun q => z ((nIeq (by omega) (by have := sc.2; omega)).mp q))]
      exact ⟨0, rfl, Or.inr ⟨rfl, i, by omega, z⟩⟩
theorem T_worth {fu N t a e : Nat} {B : Nat → Nat} {rd s : g_St} (hfu : 5000 ≤ fu) (h : TK N B t a e rd s) : f_T_isName_worth fu rd = some (f_M_isWord s 12532058) := by
  have c := name_core (L := 5) (j := 9) (W := 12532058) h (by omega) (show ∀ i, i < 5 → 97 ≤ nmb 9 i ∧ nmb 9 i ≤ 122 from fun i hi => (show ∀ i : Fin 5, 97 ≤ nmb 9 i.val ∧ nmb 9 i.val ≤ 122 by decide +kernel) ⟨i, hi⟩) (by decide +kernel)
  obtain ⟨⟨hN, r2, s16, hb⟩, ha, he, ht, r4, s17, r5, s18, r3, s19, -⟩ := h
  unfold f_T_isName_worth
  rw [r4, r3, r5, pk_sub ha]
  rcases c with ⟨t1, w, eL, eb⟩ | ⟨w, no⟩
  · rw [w, if_pos (show nI t = 1 by rw [t1]; rfl), if_pos (show nI (e - a) = 5 by rw [eL]; rfl)]
    obtain ⟨r, h1, h2⟩ := nl_worth (fu := fu) (fun i i1 i2 => ⟨(hb i (by omega)).1, (hb i (by omega)).2.2⟩) (show a + 5 ≤ 240 by omega) r5 5 fu 0 (by omega) (by omega)
    rcases h2 with ⟨rfl, -⟩ | ⟨-, x, x1, x2⟩
    · exact h1
    · exact absurd (eb x x1) x2
  · rw [w]
    by_cases t1 : t = 1
    · rw [if_pos (show nI t = 1 by rw [t1]; rfl)]
      by_cases eL : e - a = 5
      · rw [if_pos (show nI (e - a) = 5 by rw [eL]; rfl)]
        obtain ⟨r, h1, h2⟩ := nl_worth (fu := fu) (fun i i1 i2 => ⟨(hb i (by omega)).1, (hb i (by omega)).2.2⟩) (show a + 5 ≤ 240 by omega) r5 5 fu 0 (by omega) (by omega)
        rcases h2 with ⟨-, h2⟩ | ⟨rfl, -⟩
        · exact absurd ⟨t1, eL, fun x hx => h2 x (Nat.zero_le x) hx⟩ no
        · exact h1
      · rw [if_neg (show ¬ nI (e - a) = (5 : Int32) from fun q => eL ((nIeq (b := 5) (by omega) (by omega)).mp q))]
    · rw [if_neg (show ¬ nI t = (1 : Int32) from fun q => t1 ((nIeq (b := 1) (by omega) (by omega)).mp q))]
theorem nl_need {fu a : Nat} {B : Nat → Nat} {rd : g_St} (hb : ∀ i, a ≤ i → i < a + 4 → gr rd 1 i = nI (B i) ∧ B i ≤ 255) (ha : a + 4 ≤ 240) (r5 : gi rd 5 = nI a) : ∀ (k n i : Nat), k + i = 4 → k < n → ∃ r, f_T_isName_need_L28 fu n rd (nI i) = some r ∧ ((r = 1 ∧ ∀ x, i ≤ x → x < 4 → B (a + x) = nmb 10 x) ∨ (r = 0 ∧ ∃ x, x < 4 ∧ ¬ B (a + x) = nmb 10 x)) := by
  intro k
  induction k with
  | zero =>
    intro n i hk hn
    obtain ⟨n, rfl⟩ : ∃ x, n = x + 1 := ⟨n - 1, by omega⟩
    refine ⟨1, ?_, Or.inl ⟨rfl, fun x h1 h2 => by omega⟩⟩
    rw [f_T_isName_need_L28, if_pos (show (4 : Int32) ≤ nI i from nI_le (a := 4) (by omega) (by omega))]
  | succ k ih =>
    intro n i hk hn
    obtain ⟨n, rfl⟩ : ∃ x, n = x + 1 := ⟨n - 1, by omega⟩
    obtain ⟨b1, b2⟩ := hb (a + i) (by omega) (by omega)
    have sc : sch 10 (nI i) = nI (nmb 10 i) ∧ nmb 10 i ≤ 255 := sch_n ⟨10, by omega⟩ ⟨i, by omega⟩
    rw [f_T_isName_need_L28, if_neg (show ¬ (4 : Int32) ≤ nI i from nI_ge (b := 4) (by omega) (by omega)), r5, nI_add, gd_of (vpn (n := a + i) (N := 240) (by omega) (by omega)), gd_of (vpn (n := i) (N := 4) (by omega) (by omega)), nIc (show a + i ≤ 4096 by omega), b1, sc.1]
    by_cases z : B (a + i) = nmb 10 i
    · rw [if_pos (by rw [z]), lt_lt, nI_1]
      obtain ⟨r, h1, h2⟩ := ih n (i + 1) (by omega) (by omega)
      refine ⟨r, h1, ?_⟩
      rcases h2 with ⟨h2, h3⟩ | h2
      · refine Or.inl ⟨h2, fun x i1 i2 => ?_⟩
        by_cases q : x = i
        · rw [q]; exact z
        · exact h3 x (by omega) i2
      · exact Or.inr h2
    · rw [if_neg (fun q => z ((nIeq (by omega) (by have := sc.2; omega)).mp q))]
      exact ⟨0, rfl, Or.inr ⟨rfl, i, by omega, z⟩⟩
theorem T_need {fu N t a e : Nat} {B : Nat → Nat} {rd s : g_St} (hfu : 5000 ≤ fu) (h : TK N B t a e rd s) : f_T_isName_need fu rd = some (f_M_isWord s 279346) := by
  have c := name_core (L := 4) (j := 10) (W := 279346) h (by omega) (show ∀ i, i < 4 → 97 ≤ nmb 10 i ∧ nmb 10 i ≤ 122 from fun i hi => (show ∀ i : Fin 4, 97 ≤ nmb 10 i.val ∧ nmb 10 i.val ≤ 122 by decide +kernel) ⟨i, hi⟩) (by decide +kernel)
  obtain ⟨⟨hN, r2, s16, hb⟩, ha, he, ht, r4, s17, r5, s18, r3, s19, -⟩ := h
  unfold f_T_isName_need
  rw [r4, r3, r5, pk_sub ha]
  rcases c with ⟨t1, w, eL, eb⟩ | ⟨w, no⟩
  · rw [w, if_pos (show nI t = 1 by rw [t1]; rfl), if_pos (show nI (e - a) = 4 by rw [eL]; rfl)]
    obtain ⟨r, h1, h2⟩ := nl_need (fu := fu) (fun i i1 i2 => ⟨(hb i (by omega)).1, (hb i (by omega)).2.2⟩) (show a + 4 ≤ 240 by omega) r5 4 fu 0 (by omega) (by omega)
    rcases h2 with ⟨rfl, -⟩ | ⟨-, x, x1, x2⟩
    · exact h1
    · exact absurd (eb x x1) x2
  · rw [w]
    by_cases t1 : t = 1
    · rw [if_pos (show nI t = 1 by rw [t1]; rfl)]
      by_cases eL : e - a = 4
      · rw [if_pos (show nI (e - a) = 4 by rw [eL]; rfl)]
        obtain ⟨r, h1, h2⟩ := nl_need (fu := fu) (fun i i1 i2 => ⟨(hb i (by omega)).1, (hb i (by omega)).2.2⟩) (show a + 4 ≤ 240 by omega) r5 4 fu 0 (by omega) (by omega)
        rcases h2 with ⟨-, h2⟩ | ⟨rfl, -⟩
        · exact absurd ⟨t1, eL, fun x hx => h2 x (Nat.zero_le x) hx⟩ no
        · exact h1
      · rw [if_neg (show ¬ nI (e - a) = (4 : Int32) from fun q => eL ((nIeq (b := 4) (by omega) (by omega)).mp q))]
    · rw [if_neg (show ¬ nI t = (1 : Int32) from fun q => t1 ((nIeq (b := 1) (by omega) (by omega)).mp q))]
theorem nl_grow {fu a : Nat} {B : Nat → Nat} {rd : g_St} (hb : ∀ i, a ≤ i → i < a + 4 → gr rd 1 i = nI (B i) ∧ B i ≤ 255) (ha : a + 4 ≤ 240) (r5 : gi rd 5 = nI a) : ∀ (k n i : Nat), k + i = 4 → k < n → ∃ r, f_T_isName_grow_L28 fu n rd (nI i) = some r ∧ ((r = 1 ∧ ∀ x, i ≤ x → x < 4 → B (a + x) = nmb 11 x) ∨ (r = 0 ∧ ∃ x, x < 4 ∧ ¬ B (a + x) = nmb 11 x)) := by
  intro k
  induction k with
  | zero =>
    intro n i hk hn
    obtain ⟨n, rfl⟩ : ∃ x, n = x + 1 := ⟨n - 1, by omega⟩
    refine ⟨1, ?_, Or.inl ⟨rfl, fun x h1 h2 => by omega⟩⟩
    rw [f_T_isName_grow_L28, if_pos (show (4 : Int32) ≤ nI i from nI_le (a := 4) (by omega) (by omega))]
  | succ k ih =>
    intro n i hk hn
    obtain ⟨n, rfl⟩ : ∃ x, n = x + 1 := ⟨n - 1, by omega⟩
    obtain ⟨b1, b2⟩ := hb (a + i) (by omega) (by omega)
    have sc : sch 11 (nI i) = nI (nmb 11 i) ∧ nmb 11 i ≤ 255 := sch_n ⟨11, by omega⟩ ⟨i, by omega⟩
    rw [f_T_isName_grow_L28, if_neg (show ¬ (4 : Int32) ≤ nI i from nI_ge (b := 4) (by omega) (by omega)), r5, nI_add, gd_of (vpn (n := a + i) (N := 240) (by omega) (by omega)), gd_of (vpn (n := i) (N := 4) (by omega) (by omega)), nIc (show a + i ≤ 4096 by omega), b1, sc.1]
    by_cases z : B (a + i) = nmb 11 i
    · rw [if_pos (by rw [z]), lt_lt, nI_1]
      obtain ⟨r, h1, h2⟩ := ih n (i + 1) (by omega) (by omega)
      refine ⟨r, h1, ?_⟩
      rcases h2 with ⟨h2, h3⟩ | h2
      · refine Or.inl ⟨h2, fun x i1 i2 => ?_⟩
        by_cases q : x = i
        · rw [q]; exact z
        · exact h3 x (by omega) i2
      · exact Or.inr h2
    · rw [if_neg (fun q => z ((nIeq (by omega) (by have := sc.2; omega)).mp q))]
      exact ⟨0, rfl, Or.inr ⟨rfl, i, by omega, z⟩⟩
theorem T_grow {fu N t a e : Nat} {B : Nat → Nat} {rd s : g_St} (hfu : 5000 ≤ fu) (h : TK N B t a e rd s) : f_T_isName_grow fu rd = some (f_M_isWord s 151331) := by
  have c := name_core (L := 4) (j := 11) (W := 151331) h (by omega) (show ∀ i, i < 4 → 97 ≤ nmb 11 i ∧ nmb 11 i ≤ 122 from fun i hi => (show ∀ i : Fin 4, 97 ≤ nmb 11 i.val ∧ nmb 11 i.val ≤ 122 by decide +kernel) ⟨i, hi⟩) (by decide +kernel)
  obtain ⟨⟨hN, r2, s16, hb⟩, ha, he, ht, r4, s17, r5, s18, r3, s19, -⟩ := h
  unfold f_T_isName_grow
  rw [r4, r3, r5, pk_sub ha]
  rcases c with ⟨t1, w, eL, eb⟩ | ⟨w, no⟩
  · rw [w, if_pos (show nI t = 1 by rw [t1]; rfl), if_pos (show nI (e - a) = 4 by rw [eL]; rfl)]
    obtain ⟨r, h1, h2⟩ := nl_grow (fu := fu) (fun i i1 i2 => ⟨(hb i (by omega)).1, (hb i (by omega)).2.2⟩) (show a + 4 ≤ 240 by omega) r5 4 fu 0 (by omega) (by omega)
    rcases h2 with ⟨rfl, -⟩ | ⟨-, x, x1, x2⟩
    · exact h1
    · exact absurd (eb x x1) x2
  · rw [w]
    by_cases t1 : t = 1
    · rw [if_pos (show nI t = 1 by rw [t1]; rfl)]
      by_cases eL : e - a = 4
      · rw [if_pos (show nI (e - a) = 4 by rw [eL]; rfl)]
        obtain ⟨r, h1, h2⟩ := nl_grow (fu := fu) (fun i i1 i2 => ⟨(hb i (by omega)).1, (hb i (by omega)).2.2⟩) (show a + 4 ≤ 240 by omega) r5 4 fu 0 (by omega) (by omega)
        rcases h2 with ⟨-, h2⟩ | ⟨rfl, -⟩
        · exact absurd ⟨t1, eL, fun x hx => h2 x (Nat.zero_le x) hx⟩ no
        · exact h1
      · rw [if_neg (show ¬ nI (e - a) = (4 : Int32) from fun q => eL ((nIeq (b := 4) (by omega) (by omega)).mp q))]
    · rw [if_neg (show ¬ nI t = (1 : Int32) from fun q => t1 ((nIeq (b := 1) (by omega) (by omega)).mp q))]
theorem nl_turn {fu a : Nat} {B : Nat → Nat} {rd : g_St} (hb : ∀ i, a ≤ i → i < a + 4 → gr rd 1 i = nI (B i) ∧ B i ≤ 255) (ha : a + 4 ≤ 240) (r5 : gi rd 5 = nI a) : ∀ (k n i : Nat), k + i = 4 → k < n → ∃ r, f_T_isName_turn_L28 fu n rd (nI i) = some r ∧ ((r = 1 ∧ ∀ x, i ≤ x → x < 4 → B (a + x) = nmb 12 x) ∨ (r = 0 ∧ ∃ x, x < 4 ∧ ¬ B (a + x) = nmb 12 x)) := by
  intro k
  induction k with
  | zero =>
    intro n i hk hn
    obtain ⟨n, rfl⟩ : ∃ x, n = x + 1 := ⟨n - 1, by omega⟩
    refine ⟨1, ?_, Or.inl ⟨rfl, fun x h1 h2 => by omega⟩⟩
    rw [f_T_isName_turn_L28, if_pos (show (4 : Int32) ≤ nI i from nI_le (a := 4) (by omega) (by omega))]
  | succ k ih =>
    intro n i hk hn
    obtain ⟨n, rfl⟩ : ∃ x, n = x + 1 := ⟨n - 1, by omega⟩
    obtain ⟨b1, b2⟩ := hb (a + i) (by omega) (by omega)
    have sc : sch 12 (nI i) = nI (nmb 12 i) ∧ nmb 12 i ≤ 255 := sch_n ⟨12, by omega⟩ ⟨i, by omega⟩
    rw [f_T_isName_turn_L28, if_neg (show ¬ (4 : Int32) ≤ nI i from nI_ge (b := 4) (by omega) (by omega)), r5, nI_add, gd_of (vpn (n := a + i) (N := 240) (by omega) (by omega)), gd_of (vpn (n := i) (N := 4) (by omega) (by omega)), nIc (show a + i ≤ 4096 by omega), b1, sc.1]
    by_cases z : B (a + i) = nmb 12 i
    · rw [if_pos (by rw [z]), lt_lt, nI_1]
      obtain ⟨r, h1, h2⟩ := ih n (i + 1) (by omega) (by omega)
      refine ⟨r, h1, ?_⟩
      rcases h2 with ⟨h2, h3⟩ | h2
      · refine Or.inl ⟨h2, fun x i1 i2 => ?_⟩
        by_cases q : x = i
        · rw [q]; exact z
        · exact h3 x (by omega) i2
      · exact Or.inr h2
    · rw [if_neg (fun q => z ((nIeq (by omega) (by have := sc.2; omega)).mp q))]
      exact ⟨0, rfl, Or.inr ⟨rfl, i, by omega, z⟩⟩
theorem T_turn {fu N t a e : Nat} {B : Nat → Nat} {rd s : g_St} (hfu : 5000 ≤ fu) (h : TK N B t a e rd s) : f_T_isName_turn fu rd = some (f_M_isWord s 409469) := by
  have c := name_core (L := 4) (j := 12) (W := 409469) h (by omega) (show ∀ i, i < 4 → 97 ≤ nmb 12 i ∧ nmb 12 i ≤ 122 from fun i hi => (show ∀ i : Fin 4, 97 ≤ nmb 12 i.val ∧ nmb 12 i.val ≤ 122 by decide +kernel) ⟨i, hi⟩) (by decide +kernel)
  obtain ⟨⟨hN, r2, s16, hb⟩, ha, he, ht, r4, s17, r5, s18, r3, s19, -⟩ := h
  unfold f_T_isName_turn
  rw [r4, r3, r5, pk_sub ha]
  rcases c with ⟨t1, w, eL, eb⟩ | ⟨w, no⟩
  · rw [w, if_pos (show nI t = 1 by rw [t1]; rfl), if_pos (show nI (e - a) = 4 by rw [eL]; rfl)]
    obtain ⟨r, h1, h2⟩ := nl_turn (fu := fu) (fun i i1 i2 => ⟨(hb i (by omega)).1, (hb i (by omega)).2.2⟩) (show a + 4 ≤ 240 by omega) r5 4 fu 0 (by omega) (by omega)
    rcases h2 with ⟨rfl, -⟩ | ⟨-, x, x1, x2⟩
    · exact h1
    · exact absurd (eb x x1) x2
  · rw [w]
    by_cases t1 : t = 1
    · rw [if_pos (show nI t = 1 by rw [t1]; rfl)]
      by_cases eL : e - a = 4
      · rw [if_pos (show nI (e - a) = 4 by rw [eL]; rfl)]
        obtain ⟨r, h1, h2⟩ := nl_turn (fu := fu) (fun i i1 i2 => ⟨(hb i (by omega)).1, (hb i (by omega)).2.2⟩) (show a + 4 ≤ 240 by omega) r5 4 fu 0 (by omega) (by omega)
        rcases h2 with ⟨-, h2⟩ | ⟨rfl, -⟩
        · exact absurd ⟨t1, eL, fun x hx => h2 x (Nat.zero_le x) hx⟩ no
        · exact h1
      · rw [if_neg (show ¬ nI (e - a) = (4 : Int32) from fun q => eL ((nIeq (b := 4) (by omega) (by omega)).mp q))]
    · rw [if_neg (show ¬ nI t = (1 : Int32) from fun q => t1 ((nIeq (b := 1) (by omega) (by omega)).mp q))]
