/-! The text: what both want next. -/
/-- all but the token, and whether it is good -/
def OY (s t : g_St) : Prop := (∀ i, i ≠ 17 → i ≠ 18 → i ≠ 19 → i ≠ 21 → i ≠ 22 → gi t i = gi s i) ∧ gr t = gr s ∧ gt t = gt s
theorem OY.rf {s : g_St} : OY s s := ⟨fun _ _ _ _ _ _ => rfl, rfl, rfl⟩
theorem OY.trans {s t u : g_St} (a : OY s t) (b : OY t u) : OY s u := ⟨fun i h1 h2 h3 h4 h5 => (b.1 i h1 h2 h3 h4 h5).trans (a.1 i h1 h2 h3 h4 h5), b.2.1.trans a.2.1, b.2.2.trans a.2.2⟩
theorem OG.oy {s t : g_St} (a : OG s t) : OY s t := ⟨fun i h1 h2 h3 h4 _ => a.1 i h1 h2 h3 h4, a.2⟩
theorem OY.bad {s t : g_St} (a : OY s t) (x : Int32) : OY s (si t 22 x) := ⟨fun i h1 h2 h3 h4 h5 => (if_neg h5).trans (a.1 i h1 h2 h3 h4 h5), a.2⟩
/-- both are one step on -/
def NX (N : Nat) (B : Nat → Nat) (a0 : Nat) (rd s0 s : g_St) : Prop := ∃ t a e, TK N B t a e rd s ∧ a0 < a ∧ OY s0 s ∧ gi s 22 = 1
/-- both found a fault, at the same place -/
def FX (rd s0 s : g_St) : Prop := gi rd 5 = gi s 18 ∧ gi s 22 = 0 ∧ OY s0 s
theorem FX.bad {rd s0 s : g_St} (h : FX rd s0 s) : FX rd s0 (si s 22 0) := ⟨h.1, rfl, h.2.2.bad 0⟩
theorem TK.fx {N t a e : Nat} {B : Nat → Nat} {rd s0 s : g_St} (h : TK N B t a e rd s) (o : OY s0 s) : FX rd s0 (si s 22 0) := ⟨h.2.2.2.2.2.2.1.trans h.2.2.2.2.2.2.2.1.symm, rfl, o.bad 0⟩
theorem NX.base {N a0 a1 : Nat} {B : Nat → Nat} {rd s0 s1 s : g_St} (h : NX N B a1 rd s1 s) (o : OY s0 s1) (k : a0 ≤ a1) : NX N B a0 rd s0 s := by
  obtain ⟨t, a, e, h1, h2, h3, h4⟩ := h
  exact ⟨t, a, e, h1, by omega, o.trans h3, h4⟩
theorem B_adv {fu N t a e : Nat} {B : Nat → Nat} {rd s : g_St} (hfu : 5000 ≤ fu) (h : TK N B t a e rd s) (ht : ¬ t = 0) (g : gi s 22 = 1) : ∃ rd' s', f_T_advance fu rd = some rd' ∧ f_M_advance fu s = some s' ∧ NX N B a rd' s s' := by
  obtain ⟨hB, ha, he, -, -, -, -, -, r3, s19, -, -, hp⟩ := h
  obtain ⟨t', a', e', rd', s', h1, h2, h3, h4, h5⟩ := T_adv hfu hB r3 s19 he
  have := hp ht
  exact ⟨rd', s', h1, h2, t', a', e', h3, by omega, h5.oy, (h5.1 22 (by omega) (by omega) (by omega) (by omega)).trans g⟩
theorem numF {fu : Nat} {s : g_St} (g : gi s 22 = 0) (x y : Int32) : f_M_wantNumber fu s x y = some (gi s 21, si s 22 0) := by
  unfold f_M_wantNumber f_M_wantNumber_L35
  rw [lt_lt, if_pos g, lt_lt, if_pos (show gi (si s 22 0) 22 = 0 from rfl)]
theorem wordF {fu : Nat} {s : g_St} (g : gi s 22 = 0) (w : Int64) : f_M_wantWord fu s w = some (si s 22 0) := by
  unfold f_M_wantWord f_M_wantWord_L20
  rw [if_pos g, lt_lt, if_pos (show gi (si s 22 0) 22 = 0 from rfl)]
theorem mayF {fu : Nat} {s : g_St} (g : gi s 22 = 0) (w : Int64) (x y : Int32) : f_M_mayNumber fu s w x y = some (y, s) := by
  unfold f_M_mayNumber
  rw [if_pos g]
theorem endF {fu : Nat} {s : g_St} (g : gi s 22 = 0) : f_M_wantEnd fu s = some (si s 22 0) := by
  unfold f_M_wantEnd f_M_wantEnd_L21
  rw [if_pos g, lt_lt, if_pos (show gi (si s 22 0) 22 = 0 from rfl)]
theorem g10 {s : g_St} (g : gi s 22 = 1) : ¬ gi s 22 = 0 := by rw [g]; decide
theorem B_num {fu N t a e : Nat} {B : Nat → Nat} {rd s : g_St} (hfu : 5000 ≤ fu) (h : TK N B t a e rd s) (g : gi s 22 = 1) (lo hi : Int32) : (f_T_isNumber rd lo hi = 0 ∧ f_M_wantNumber fu s lo hi = some (gi s 21, si s 22 0)) ∨ (f_T_isNumber rd lo hi = 1 ∧ f_S_in (gi s 21) lo hi = 1 ∧ gi rd 6 = gi s 21 ∧ ∃ rd' s', f_T_advance fu rd = some rd' ∧ f_M_wantNumber fu s lo hi = some (gi s 21, s') ∧ NX N B a rd' s s') := by
  have h' := h
  obtain ⟨hB, ha, he, ht, r4, s17, -, -, -, -, -, h6, -⟩ := h'
  unfold f_T_isNumber f_M_wantNumber f_M_wantNumber_L35
  rw [lt_lt, if_neg (g10 g), r4, s17, within_in]
  by_cases t2 : t = 2
  · have e6 := h6 (by omega)
    rw [if_pos (show nI t = 2 by rw [t2]; rfl), if_pos (show nI t = 2 by rw [t2]; rfl), e6]
    rcases in_cases (gi s 21) lo hi with ⟨i1, -⟩ | ⟨i1, -⟩
    · right
      obtain ⟨rd', s', k1, k2, k3⟩ := B_adv hfu h (by omega) g
      rw [i1, if_neg ne10, if_neg ne10, lt_lt, si_id g, if_neg (g10 g), bd1_eq _ k2]
      exact ⟨rfl, rfl, rfl, rd', s', k1, rfl, k3⟩
    · left
      rw [i1, if_pos rfl, if_pos rfl, lt_lt, if_pos (show gi (si s 22 0) 22 = 0 from rfl)]
      exact ⟨rfl, rfl⟩
  · left
    have n2 : ¬ nI t = (2 : Int32) := fun q => t2 ((nIeq (b := 2) (by omega) (by omega)).mp q)
    rw [if_neg n2, if_neg n2, lt_lt, if_pos (show gi (si s 22 0) 22 = 0 from rfl)]
    exact ⟨rfl, rfl⟩
theorem word_t {N t a e : Nat} {B : Nat → Nat} {rd s : g_St} {w : Int64} (h : TK N B t a e rd s) (k : ¬ f_M_isWord s w = 0) : ¬ t = 0 := fun z => by
  have s17 := h.2.2.2.2.2.1
  apply k
  unfold f_M_isWord
  rw [s17, z, if_neg (show ¬ nI 0 = (1 : Int32) by decide)]
theorem B_word {fu N t a e : Nat} {B : Nat → Nat} {rd s : g_St} (hfu : 5000 ≤ fu) (h : TK N B t a e rd s) (g : gi s 22 = 1) (w : Int64) : (f_M_isWord s w = 0 ∧ f_M_wantWord fu s w = some (si s 22 0)) ∨ (¬ f_M_isWord s w = 0 ∧ ∃ rd' s', f_T_advance fu rd = some rd' ∧ f_M_wantWord fu s w = some s' ∧ NX N B a rd' s s') := by
  unfold f_M_wantWord f_M_wantWord_L20
  rw [if_neg (g10 g)]
  by_cases k : f_M_isWord s w = 0
  · left
    rw [if_pos k, lt_lt, if_pos (show gi (si s 22 0) 22 = 0 from rfl)]
    exact ⟨k, rfl⟩
  · right
    obtain ⟨rd', s', k1, k2, k3⟩ := B_adv hfu h (word_t h k) g
    rw [if_neg k, lt_lt, si_id g, if_neg (g10 g), bd1_eq _ k2]
    exact ⟨k, rd', s', k1, rfl, k3⟩
theorem mark_eq {N t a e : Nat} {B : Nat → Nat} {rd s : g_St} (h : TK N B t a e rd s) (x : Int32) : f_T_isByte rd x = f_M_isMark s x ∧ (f_T_isByte rd x = 0 ∨ f_T_isByte rd x = 1) ∧ (¬ f_T_isByte rd x = 0 → ¬ t = 0) := by
  obtain ⟨hB, ha, he, ht, r4, s17, -, -, -, -, -, h6, -⟩ := h
  unfold f_T_isByte f_M_isMark
  rw [r4, s17]
  by_cases t3 : t = 3
  · rw [if_pos (show nI t = 3 by rw [t3]; rfl), if_pos (show nI t = 3 by rw [t3]; rfl), h6 (by omega)]
    refine ⟨rfl, ?_, fun _ => by omega⟩
    split
    · exact Or.inr rfl
    · exact Or.inl rfl
  · have n3 : ¬ nI t = (3 : Int32) := fun q => t3 ((nIeq (b := 3) (by omega) (by omega)).mp q)
    rw [if_neg n3, if_neg n3]
    exact ⟨rfl, Or.inl rfl, fun q => absurd rfl q⟩
theorem B_end {fu N t a e : Nat} {B : Nat → Nat} {rd s : g_St} (hfu : 5000 ≤ fu) (h : TK N B t a e rd s) (g : gi s 22 = 1) : (f_T_readEnd fu rd = some (0, rd) ∧ f_M_wantEnd fu s = some (si s 22 0)) ∨ (∃ rd' s', f_T_readEnd fu rd = some (1, rd') ∧ f_M_wantEnd fu s = some s' ∧ NX N B a rd' s s') := by
  obtain ⟨m1, m2, m3⟩ := mark_eq h 59
  unfold f_T_readEnd f_M_wantEnd f_M_wantEnd_L21
  rw [if_neg (g10 g), ← m1]
  by_cases k : f_T_isByte rd 59 = 0
  · left
    rw [if_pos k, if_pos k, lt_lt, if_pos (show gi (si s 22 0) 22 = 0 from rfl)]
    exact ⟨rfl, rfl⟩
  · right
    obtain ⟨rd', s', k1, k2, k3⟩ := B_adv hfu h (m3 k) g
    rw [if_neg k, if_neg k, lt_lt, si_id g, if_neg (g10 g), bd1_eq _ k1, bd1_eq _ k2]
    exact ⟨rd', s', rfl, rfl, k3⟩
/-- a number that may stand there behind a name -/
theorem B_may {fu N t a e : Nat} {B : Nat → Nat} {rd s : g_St} (hfu : 5000 ≤ fu) (h : TK N B t a e rd s) (g : gi s 22 = 1) (w : Int64) (most dflt : Int32) : (f_M_isWord s w = 0 ∧ f_M_mayNumber fu s w most dflt = some (dflt, s)) ∨ (¬ f_M_isWord s w = 0 ∧ ∃ rd1, f_T_advance fu rd = some rd1 ∧ ((f_T_isNumber rd1 0 most = 0 ∧ ∃ x s', f_M_mayNumber fu s w most dflt = some (x, s') ∧ FX rd1 s s') ∨ (¬ f_T_isNumber rd1 0 most = 0 ∧ f_S_in (gi rd1 6) 0 most = 1 ∧ ∃ rd2 s', f_T_advance fu rd1 = some rd2 ∧ f_M_mayNumber fu s w most dflt = some (gi rd1 6, s') ∧ NX N B a rd2 s s'))) := by
  unfold f_M_mayNumber
  rw [if_neg (g10 g)]
  by_cases k : f_M_isWord s w = 0
  · rw [if_pos k]; exact Or.inl ⟨k, rfl⟩
  · right
    obtain ⟨rd1, s1, k1, k2, t1, a1, e1, hT, ha, ho, g1⟩ := B_adv hfu h (word_t h k) g
    rw [if_neg k, bd1_eq _ k2]
    refine ⟨k, rd1, k1, ?_⟩
    rcases B_num hfu hT g1 0 most with ⟨n1, n2⟩ | ⟨n1, n2, n3, rd2, s2, n4, n5, n6⟩
    · left
      rw [bd2_eq _ n2]
      exact ⟨n1, _, _, rfl, hT.fx ho⟩
    · right
      rw [bd2_eq _ n5, n3]
      exact ⟨by rw [n1]; decide, n2, rd2, s2, n4, rfl, n6.base ho (by omega)⟩
