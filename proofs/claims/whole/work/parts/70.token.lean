/-! The text: a token. -/
theorem si_si (s : g_St) (k : Nat) (x y : Int32) : si (si s k x) k y = si s k y := by
  unfold si
  refine congrArg (·, s.2) (funext fun j => ?_)
  show (if j = k then y else if j = k then x else s.1 j) = if j = k then y else s.1 j
  by_cases z : j = k
  · rw [if_pos z, if_pos z]
  · rw [if_neg z, if_neg z, if_neg z]
theorem si_id {s : g_St} {k : Nat} {x : Int32} (h : gi s k = x) : si s k x = s := by
  unfold si
  have e : (fun j => if j = k then x else s.1 j) = s.1 := funext fun j => by
    by_cases z : j = k
    · rw [if_pos z, z]; exact h.symm
    · rw [if_neg z]
  rw [e]
/-- a word as a number to the base 27 -/
def wcd (f : Nat → Nat) : Nat → Nat
  | 0 => 0
  | n + 1 => 27 * wcd f n + f n
theorem wcd_lt {f : Nat → Nat} : ∀ n, (∀ i, i < n → f i ≤ 26) → wcd f n < 27 ^ n := by
  intro n
  induction n with
  | zero => intro _; exact Nat.one_pos
  | succ n ih =>
    intro h
    have a := ih (fun i hi => h i (by omega))
    have b := h n (by omega)
    show 27 * wcd f n + f n < 27 ^ (n + 1)
    rw [Nat.pow_succ]
    omega
theorem wcd_inj {f g : Nat → Nat} : ∀ n m, (∀ i, i < n → 1 ≤ f i ∧ f i ≤ 26) → (∀ i, i < m → 1 ≤ g i ∧ g i ≤ 26) → wcd f n = wcd g m → n = m ∧ ∀ i, i < n → f i = g i := by
  intro n
  induction n with
  | zero =>
    intro m hf hg h
    rcases m with - | m
    · exact ⟨rfl, fun i hi => by omega⟩
    · have h' : 0 = 27 * wcd g m + g m := h
      have := (hg m (by omega)).1
      omega
  | succ n ih =>
    intro m hf hg h
    rcases m with - | m
    · have h' : 27 * wcd f n + f n = 0 := h
      have := (hf n (by omega)).1
      omega
    · have h' : 27 * wcd f n + f n = 27 * wcd g m + g m := h
      have a := hf n (by omega)
      have b := hg m (by omega)
      obtain ⟨e, k⟩ := ih m (fun i hi => hf i (by omega)) (fun i hi => hg i (by omega)) (by omega)
      subst e
      refine ⟨rfl, fun i hi => ?_⟩
      by_cases z : i = n
      · rw [z]; omega
      · exact k i (by omega)
theorem wcd_cong {f g : Nat → Nat} : ∀ n, (∀ i, i < n → f i = g i) → wcd f n = wcd g n := by
  intro n
  induction n with
  | zero => intro _; rfl
  | succ n ih =>
    intro h
    show 27 * wcd f n + f n = 27 * wcd g n + g n
    rw [ih (fun i hi => h i (by omega)), h n (by omega)]
/-- the bytes that both read -/
def BYT (N : Nat) (B : Nat → Nat) (rd s : g_St) : Prop := N ≤ 240 ∧ gi rd 2 = nI N ∧ gi s 16 = nI N ∧ ∀ i, i < N → gr rd 1 i = nI (B i) ∧ gr s 15 i = nI (B i) ∧ B i ≤ 255
/-- the word so far -/
def WC (B : Nat → Nat) (a e : Nat) (w : Int64) : Prop := (e - a ≤ 8 ∧ w = lN (wcd (fun i => B (a + i) - 96) (e - a))) ∨ (8 < e - a ∧ w = -1)
def LET (B : Nat → Nat) (a e : Nat) : Prop := ∀ i, a ≤ i → i < e → 97 ≤ B i ∧ B i ≤ 122
def TK (N : Nat) (B : Nat → Nat) (t a e : Nat) (rd s : g_St) : Prop := BYT N B rd s ∧ a ≤ e ∧ e ≤ N ∧ t ≤ 3 ∧ gi rd 4 = nI t ∧ gi s 17 = nI t ∧ gi rd 5 = nI a ∧ gi s 18 = nI a ∧ gi rd 3 = nI e ∧ gi s 19 = nI e ∧ (t = 1 → WC B a e (gj s 20) ∧ LET B a e) ∧ (2 ≤ t → gi rd 6 = gi s 21) ∧ (¬ t = 0 → a < e)
/-- all but what a step in the text changes -/
def OG (s t : g_St) : Prop := (∀ i, i ≠ 17 → i ≠ 18 → i ≠ 19 → i ≠ 21 → gi t i = gi s i) ∧ gr t = gr s ∧ gt t = gt s
theorem OG.trans {s t u : g_St} (a : OG s t) (b : OG t u) : OG s u := ⟨fun i h1 h2 h3 h4 => (b.1 i h1 h2 h3 h4).trans (a.1 i h1 h2 h3 h4), b.2.1.trans a.2.1, b.2.2.trans a.2.2⟩
theorem M_byte {N k : Nat} {B : Nat → Nat} {rd s : g_St} (h : BYT N B rd s) (hk : k ≤ 240) : f_M_byteAt s (nI k) = some (if k < N then nI (B k) else -1) := by
  obtain ⟨hN, -, s16, hb⟩ := h
  unfold f_M_byteAt
  rw [s16]
  by_cases z : k < N
  · rw [if_neg (nI_ge z (by omega)), if_pos z, gd_of (vpn (n := k) (N := 240) (by omega) (by omega)), nIc (show k ≤ 4096 by omega), (hb k z).2.1]
  · rw [if_pos (nI_le (by omega) (by omega)), if_neg z]
theorem BYT.m {N : Nat} {B : Nat → Nat} {rd s t : g_St} (h : BYT N B rd s) (e16 : gi t 16 = gi s 16) (e15 : gr t 15 = gr s 15) : BYT N B rd t := by
  obtain ⟨hN, h1, h2, h3⟩ := h
  exact ⟨hN, h1, e16.trans h2, fun i hi => by rw [e15]; exact h3 i hi⟩
theorem BYT.c {N : Nat} {B : Nat → Nat} {rd s rt : g_St} (h : BYT N B rd s) (e2 : gi rt 2 = gi rd 2) (e1 : gr rt 1 = gr rd 1) : BYT N B rt s := by
  obtain ⟨hN, h1, h2, h3⟩ := h
  exact ⟨hN, e2.trans h1, h2, fun i hi => by rw [e1]; exact h3 i hi⟩
theorem b32 {b : Nat} (hb : b ≤ 255) : nI b = (32 : Int32) ↔ b = 32 := nIeq (b := 32) (by omega) (by omega)
theorem inb {b x y : Nat} (hb : b ≤ 255) (hx : x ≤ 4096) (hy : y ≤ 4096) : f_S_in (nI b) (nI x) (nI y) = if x ≤ b ∧ b ≤ y then 1 else 0 := by
  rcases in_cases (nI b) (nI x) (nI y) with ⟨h, c, d⟩ | ⟨h, c⟩
  · rw [h, if_pos]
    have c' := mt (nI_lt (a := b) (b := x) · (by omega)) c
    have d' := mt (nI_lt (a := y) (b := b) · (by omega)) d
    omega
  · rw [h, if_neg]
    rcases c with c | c
    · have := (nIlt (by omega) (by omega)).mp c
      omega
    · have := (nIlt (by omega) (by omega)).mp c
      omega
theorem letb {b : Nat} (hb : b ≤ 255) : f_S_in (nI b) 97 122 = if 97 ≤ b ∧ b ≤ 122 then 1 else 0 := inb (x := 97) (y := 122) hb (by omega) (by omega)
theorem digb {b : Nat} (hb : b ≤ 255) : f_S_in (nI b) 48 57 = if 48 ≤ b ∧ b ≤ 57 then 1 else 0 := inb (x := 48) (y := 57) hb (by omega) (by omega)
/-- blanks -/
theorem W_skip {fu N : Nat} {B : Nat → Nat} : ∀ (k n m e : Nat) (rd s : g_St), k + e = N → k < n → k < m → BYT N B rd s → gi rd 3 = nI e → gi s 18 = nI e → ∃ a, e ≤ a ∧ a ≤ N ∧ (a < N → ¬ B a = 32) ∧ f_T_advance_L0 fu n rd = f_T_advance_L38 fu (si rd 3 (nI a)) ∧ f_M_advance_L8 fu m s = f_M_advance_L8 fu 1 (si s 18 (nI a)) := by
  intro k
  induction k with
  | zero =>
    intro n m e rd s hk hn hm hB r3 s18
    obtain ⟨n, rfl⟩ : ∃ x, n = x + 1 := ⟨n - 1, by omega⟩
    obtain ⟨m, rfl⟩ : ∃ x, m = x + 1 := ⟨m - 1, by omega⟩
    have hN := hB.1
    refine ⟨e, Nat.le_refl e, by omega, fun h => by omega, ?_, ?_⟩
    · rw [f_T_advance_L0, hB.2.1, r3, if_pos (nI_le (by omega) (by omega)), si_id r3]
    · rw [si_id s18]
      have b := M_byte hB (show e ≤ 240 by omega)
      rw [if_neg (by omega)] at b
      rw [f_M_advance_L8, f_M_advance_L8, s18, bd1_eq _ b, bd1_eq _ b, if_neg (show ¬ (-1 : Int32) = 32 by decide), if_neg (show ¬ (-1 : Int32) = 32 by decide)]
  | succ k ih =>
    intro n m e rd s hk hn hm hB r3 s18
    obtain ⟨n, rfl⟩ : ∃ x, n = x + 1 := ⟨n - 1, by omega⟩
    obtain ⟨m, rfl⟩ : ∃ x, m = x + 1 := ⟨m - 1, by omega⟩
    have hN := hB.1
    obtain ⟨b1, b2, b3⟩ := hB.2.2.2 e (by omega)
    have b := M_byte hB (show e ≤ 240 by omega)
    rw [if_pos (by omega)] at b
    by_cases z : B e = 32
    · obtain ⟨a, h1, h2, h3, h4, h5⟩ := ih n m (e + 1) (si rd 3 (nI (e + 1))) (si s 18 (nI (e + 1))) (by omega) (by omega) (by omega) hB rfl rfl
      refine ⟨a, by omega, h2, h3, ?_, ?_⟩
      · rw [f_T_advance_L0, hB.2.1, r3, if_neg (nI_ge (by omega) (by omega)), gd_of (vpn (n := e) (N := 240) (by omega) (by omega)), nIc (show e ≤ 4096 by omega), b1, if_pos ((b32 b3).mpr z), lt_lt, lt_lt, nI_1, h4, si_si]
      · rw [f_M_advance_L8, s18, bd1_eq _ b, if_pos ((b32 b3).mpr z), lt_lt, lt_lt, nI_1, h5, si_si]
    · refine ⟨e, Nat.le_refl e, by omega, fun _ => z, ?_, ?_⟩
      · rw [f_T_advance_L0, hB.2.1, r3, if_neg (nI_ge (by omega) (by omega)), gd_of (vpn (n := e) (N := 240) (by omega) (by omega)), nIc (show e ≤ 4096 by omega), b1, if_neg (mt (b32 b3).mp z), si_id r3]
      · rw [si_id s18, f_M_advance_L8, f_M_advance_L8, s18, bd1_eq _ b, bd1_eq _ b, if_neg (mt (b32 b3).mp z), if_neg (mt (b32 b3).mp z)]
/-- letters -/
theorem W_letters {fu N a : Nat} {B : Nat → Nat} (hfu : 5000 ≤ fu) : ∀ (k n m e : Nat) (rd s : g_St), k + e = N → k < n → k < m → a ≤ e → BYT N B rd s → gi rd 3 = nI e → gi s 19 = nI e → gi s 18 = nI a → gi s 17 = 1 → WC B a e (gj s 20) → LET B a e → ∃ e' s', e ≤ e' ∧ e' ≤ N ∧ f_T_advance_L89 fu n rd = some (si rd 3 (nI e')) ∧ f_M_advance_L126 fu m s = some s' ∧ gi s' 19 = nI e' ∧ (∀ i, i ≠ 19 → gi s' i = gi s i) ∧ gr s' = gr s ∧ gt s' = gt s ∧ WC B a e' (gj s' 20) ∧ LET B a e' ∧ (e < N → 97 ≤ B e → B e ≤ 122 → e < e') := by
  intro k
  induction k with
  | zero =>
    intro n m e rd s hk hn hm ha hB r3 s19 s18 s17 hW hL
    obtain ⟨n, rfl⟩ : ∃ x, n = x + 1 := ⟨n - 1, by omega⟩
    obtain ⟨m, rfl⟩ : ∃ x, m = x + 1 := ⟨m - 1, by omega⟩
    have hN := hB.1
    have b := M_byte hB (show e ≤ 240 by omega)
    rw [if_neg (by omega)] at b
    refine ⟨e, s, Nat.le_refl e, by omega, ?_, ?_, s19, fun _ _ => rfl, rfl, rfl, hW, hL, fun h => by omega⟩
    · rw [f_T_advance_L89, hB.2.1, r3, if_pos (nI_le (by omega) (by omega)), si_id r3]
    · rw [f_M_advance_L126, s17, if_pos rfl, s19, bd1_eq _ b, if_pos (show f_S_isLetter (-1) = 0 by decide)]
      obtain ⟨fu, rfl⟩ : ∃ x, fu = x + 1 := ⟨fu - 1, by omega⟩
      rw [f_M_advance_L207, s17, if_neg (show ¬ (1 : Int32) = 2 by decide)]
  | succ k ih =>
    intro n m e rd s hk hn hm ha hB r3 s19 s18 s17 hW hL
    obtain ⟨n, rfl⟩ : ∃ x, n = x + 1 := ⟨n - 1, by omega⟩
    obtain ⟨m, rfl⟩ : ∃ x, m = x + 1 := ⟨m - 1, by omega⟩
    have hN := hB.1
    obtain ⟨b1, b2, b3⟩ := hB.2.2.2 e (by omega)
    have b := M_byte hB (show e ≤ 240 by omega)
    rw [if_pos (by omega)] at b
    by_cases z : 97 ≤ B e ∧ B e ≤ 122
    · -- the reference's word, one letter more
      have lm : ∃ w, f_M_advance_L126 fu (m + 1) s = f_M_advance_L126 fu m (si (sj s 20 w) 19 (nI (e + 1))) ∧ WC B a (e + 1) w := by
        rw [f_M_advance_L126, s17, if_pos rfl, s19, bd1_eq _ b, show f_S_isLetter (nI (B e)) = 1 from (letb b3).trans (if_pos z), if_neg ne10, s18, pk_sub ha]
        by_cases y : 8 ≤ e - a
        · refine ⟨-1, ?_, Or.inr ⟨by omega, rfl⟩⟩
          rw [if_pos (show (8 : Int32) ≤ nI (e - a) from nI_le (a := 8) y (by omega)), lt_lt, gi_sj, s19, nI_1, lt_lt, lt_lt]
        · rcases hW with ⟨w1, w2⟩ | ⟨w1, -⟩
          · have wl := wcd_lt (f := fun i => B (a + i) - 96) (e - a) (fun i hi => by have := (hL (a + i) (by omega) (by omega)).2; show B (a + i) - 96 ≤ 26; omega)
            have w8 : 27 ^ (e - a) ≤ 27 ^ 7 := Nat.pow_le_pow_right (by omega) (by omega)
            refine ⟨lN (27 * wcd (fun i => B (a + i) - 96) (e - a) + (B e - 96)), ?_, Or.inl ⟨by omega, ?_⟩⟩
            · rw [if_neg (show ¬ (8 : Int32) ≤ nI (e - a) from nI_ge (b := 8) (by omega) (by omega)), bd1_eq _ b, w2, nI_l (by omega)]
              have ew : (27 : Int64) * lN (wcd (fun i => B (a + i) - 96) (e - a)) + lN (B e) - 96 = lN (27 * wcd (fun i => B (a + i) - 96) (e - a) + (B e - 96)) := by
                have m1 : (27 : Int64) * lN (wcd (fun i => B (a + i) - 96) (e - a)) = lN (27 * wcd (fun i => B (a + i) - 96) (e - a)) := (Int64.ofNat_mul 27 _).symm
                rw [m1, show lN (B e) = lN (B e - 96) + 96 from by rw [show (96 : Int64) = lN 96 from rfl, lN_add]; exact congrArg lN (by omega), ← Int64.add_assoc, Int64.add_sub_cancel, lN_add]
              rw [ew]
              simp only [lt_lt]
              rw [gi_sj, s19, nI_1]
            · rw [show e + 1 - a = e - a + 1 by omega]
              show lN (27 * wcd (fun i => B (a + i) - 96) (e - a) + (B e - 96)) = lN (27 * wcd (fun i => B (a + i) - 96) (e - a) + (B (a + (e - a)) - 96))
              rw [show a + (e - a) = e by omega]
          · omega
      obtain ⟨w, lm1, lm2⟩ := lm
      have hL' : LET B a (e + 1) := fun i h1 h2 => by
        by_cases q : i = e
        · rw [q]; exact z
        · exact hL i h1 (by omega)
      obtain ⟨e', s', h1, h2, h3, h4, h5, h6, h7, h8, h9, h10, -⟩ := ih n m (e + 1) (si rd 3 (nI (e + 1))) (si (sj s 20 w) 19 (nI (e + 1))) (by omega) (by omega) (by omega) (by omega) hB rfl rfl s18 s17 lm2 hL'
      refine ⟨e', s', by omega, h2, ?_, lm1.trans h4, h5, fun i hi => (h6 i hi).trans (by rw [gi_si, if_neg hi, gi_sj]), h7, h8, h9, h10, fun _ _ _ => by omega⟩
      rw [f_T_advance_L89, hB.2.1, r3, if_neg (nI_ge (by omega) (by omega)), gd_of (vpn (n := e) (N := 240) (by omega) (by omega)), nIc (show e ≤ 4096 by omega), b1, within_in, letb b3, if_pos z, if_neg ne10, lt_lt, lt_lt, nI_1, h3, si_si]
    · refine ⟨e, s, Nat.le_refl e, by omega, ?_, ?_, s19, fun _ _ => rfl, rfl, rfl, hW, hL, fun _ h1 h2 => absurd ⟨h1, h2⟩ z⟩
      · rw [f_T_advance_L89, hB.2.1, r3, if_neg (nI_ge (by omega) (by omega)), gd_of (vpn (n := e) (N := 240) (by omega) (by omega)), nIc (show e ≤ 4096 by omega), b1, within_in, letb b3, if_neg z, if_pos rfl, si_id r3]
      · rw [f_M_advance_L126, s17, if_pos rfl, s19, bd1_eq _ b, show f_S_isLetter (nI (B e)) = 0 from (letb b3).trans (if_neg z), if_pos rfl]
        obtain ⟨fu, rfl⟩ : ∃ x, fu = x + 1 := ⟨fu - 1, by omega⟩
        rw [f_M_advance_L207, s17, if_neg (show ¬ (1 : Int32) = 2 by decide)]
/-- digits -/
theorem W_digits {fu N a : Nat} {B : Nat → Nat} : ∀ (k n m e : Nat) (rd s : g_St), k + e = N → k < n → k < m → a ≤ e → BYT N B rd s → gi rd 3 = nI e → gi rd 5 = nI a → gi s 19 = nI e → gi s 18 = nI a → gi s 17 = 2 → (e - a ≤ 3 → gi rd 6 = gi s 21) → (3 < e - a → gi s 21 = -1) → ∃ e' rd' s', e ≤ e' ∧ e' ≤ N ∧ f_T_takeNumber_L5 fu n rd = some rd' ∧ f_M_advance_L207 fu m s = some s' ∧ gi rd' 3 = nI e' ∧ gi rd' 6 = gi s' 21 ∧ (∀ i, i ≠ 3 → i ≠ 6 → gi rd' i = gi rd i) ∧ gr rd' = gr rd ∧ gi s' 19 = nI e' ∧ (∀ i, i ≠ 19 → i ≠ 21 → gi s' i = gi s i) ∧ gr s' = gr s ∧ gt s' = gt s ∧ (e < N → 48 ≤ B e → B e ≤ 57 → e < e') := by
  have stop : ∀ (e : Nat) (rd s : g_St), a ≤ e → e ≤ N → N ≤ 240 → gi rd 3 = nI e → gi rd 5 = nI a → (e - a ≤ 3 → gi rd 6 = gi s 21) → (3 < e - a → gi s 21 = -1) → ∃ rd', f_T_takeNumber_L94 fu rd = some rd' ∧ gi rd' 3 = nI e ∧ gi rd' 6 = gi s 21 ∧ (∀ i, i ≠ 3 → i ≠ 6 → gi rd' i = gi rd i) ∧ gr rd' = gr rd := fun e rd s ha he hN r3 r5 h1 h2 => by
    unfold f_T_takeNumber_L94
    rw [r3, r5, pk_sub ha]
    by_cases z : e - a ≤ 3
    · rw [if_pos (show nI (e - a) ≤ 3 from nI_le (b := 3) z (by omega))]
      exact ⟨rd, rfl, r3, h1 z, fun _ _ _ => rfl, rfl⟩
    · rw [if_neg (show ¬ nI (e - a) ≤ 3 from nI_ge (a := 3) (by omega) (by omega)), lt_lt]
      exact ⟨_, rfl, r3, (h2 (by omega)).symm, fun i _ h6 => if_neg h6, rfl⟩
  intro k
  induction k with
  | zero =>
    intro n m e rd s hk hn hm ha hB r3 r5 s19 s18 s17 h1 h2
    obtain ⟨n, rfl⟩ : ∃ x, n = x + 1 := ⟨n - 1, by omega⟩
    obtain ⟨m, rfl⟩ : ∃ x, m = x + 1 := ⟨m - 1, by omega⟩
    have hN := hB.1
    have b := M_byte hB (show e ≤ 240 by omega)
    rw [if_neg (by omega)] at b
    obtain ⟨rd', f1, f2, f3, f4, f5⟩ := stop e rd s ha (by omega) hN r3 r5 h1 h2
    refine ⟨e, rd', s, Nat.le_refl e, by omega, ?_, ?_, f2, f3, f4, f5, s19, fun _ _ _ => rfl, rfl, rfl, fun h => by omega⟩
    · rw [f_T_takeNumber_L5, hB.2.1, r3, if_pos (nI_le (by omega) (by omega))]; exact f1
    · rw [f_M_advance_L207, s17, if_pos rfl, s19, bd1_eq _ b, if_pos (show f_S_isDigit (-1) = 0 by decide)]
  | succ k ih =>
    intro n m e rd s hk hn hm ha hB r3 r5 s19 s18 s17 h1 h2
    obtain ⟨n, rfl⟩ : ∃ x, n = x + 1 := ⟨n - 1, by omega⟩
    obtain ⟨m, rfl⟩ : ∃ x, m = x + 1 := ⟨m - 1, by omega⟩
    have hN := hB.1
    obtain ⟨b1, b2, b3⟩ := hB.2.2.2 e (by omega)
    have b := M_byte hB (show e ≤ 240 by omega)
    rw [if_pos (by omega)] at b
    by_cases z : 48 ≤ B e ∧ B e ≤ 57
    · have l48 : ¬ nI (B e) < (48 : Int32) := nI_nlt (b := 48) z.1 (by omega)
      have g57 : ¬ (57 : Int32) < nI (B e) := nI_nlt (a := 57) z.2 (by omega)
      rw [f_T_takeNumber_L5, hB.2.1, r3, if_neg (nI_ge (by omega) (by omega)), gd_of (vpn (n := e) (N := 240) (by omega) (by omega)), nIc (show e ≤ 4096 by omega), b1, if_neg l48, gd_of (vpn (n := e) (N := 240) (by omega) (by omega)), if_neg g57, r5, f_M_advance_L207, s17, if_pos rfl, s19, bd1_eq _ b, show f_S_isDigit (nI (B e)) = 1 from (digb b3).trans (if_pos z), if_neg ne10, s18, pk_sub ha]
      by_cases y : 3 ≤ e - a
      · rw [if_pos (show (3 : Int32) ≤ nI (e - a) from nI_le (a := 3) y (by omega)), if_pos (show (3 : Int32) ≤ nI (e - a) from nI_le (a := 3) y (by omega))]
        simp only [lt_lt]
        rw [gi_si, if_neg (show ¬ 19 = 21 by omega), s19, nI_1]
        obtain ⟨e', rd', s', g1, g2, g3, g4, g5, g6, g7, g8, g9, g10, g11, g12, -⟩ := ih n m (e + 1) (si rd 3 (nI (e + 1))) (si (si s 21 (-1)) 19 (nI (e + 1))) (by omega) (by omega) (by omega) (by omega) hB rfl r5 rfl s18 s17 (fun h => by omega) (fun _ => rfl)
        exact ⟨e', rd', s', by omega, g2, g3, g4, g5, g6, fun i i1 i2 => (g7 i i1 i2).trans (if_neg i1), g8, g9, fun i i1 i2 => (g10 i i1 i2).trans (by rw [gi_si, if_neg i1, gi_si, if_neg i2]), g11, g12, fun _ _ _ => by omega⟩
      · rw [if_neg (show ¬ (3 : Int32) ≤ nI (e - a) from nI_ge (b := 3) (by omega) (by omega)), if_neg (show ¬ (3 : Int32) ≤ nI (e - a) from nI_ge (b := 3) (by omega) (by omega)), gd_of (vpn (n := e) (N := 240) (by omega) (by omega)), bd1_eq _ b]
        simp only [lt_lt]
        rw [gi_si, if_neg (show ¬ 3 = 6 by omega), gi_si, if_neg (show ¬ 19 = 21 by omega), r3, s19, nI_1, h1 (by omega), Int32.mul_comm (gi s 21) 10]
        obtain ⟨e', rd', s', g1, g2, g3, g4, g5, g6, g7, g8, g9, g10, g11, g12, -⟩ := ih n m (e + 1) (si (si rd 6 (10 * gi s 21 + nI (B e) - 48)) 3 (nI (e + 1))) (si (si s 21 (10 * gi s 21 + nI (B e) - 48)) 19 (nI (e + 1))) (by omega) (by omega) (by omega) (by omega) hB rfl r5 rfl s18 s17 (fun h => rfl) (fun _ => by omega)
        exact ⟨e', rd', s', by omega, g2, g3, g4, g5, g6, fun i i1 i2 => (g7 i i1 i2).trans (by rw [gi_si, if_neg i1, gi_si, if_neg i2]), g8, g9, fun i i1 i2 => (g10 i i1 i2).trans (by rw [gi_si, if_neg i1, gi_si, if_neg i2]), g11, g12, fun _ _ _ => by omega⟩
    · obtain ⟨rd', f1, f2, f3, f4, f5⟩ := stop e rd s ha (by omega) hN r3 r5 h1 h2
      refine ⟨e, rd', s, Nat.le_refl e, by omega, ?_, ?_, f2, f3, f4, f5, s19, fun _ _ _ => rfl, rfl, rfl, fun _ q1 q2 => absurd ⟨q1, q2⟩ z⟩
      · rw [f_T_takeNumber_L5, hB.2.1, r3, if_neg (nI_ge (by omega) (by omega)), gd_of (vpn (n := e) (N := 240) (by omega) (by omega)), nIc (show e ≤ 4096 by omega), b1]
        by_cases y : B e < 48
        · rw [if_pos (show nI (B e) < (48 : Int32) from nI_lt (b := 48) y (by omega))]; exact f1
        · rw [if_neg (show ¬ nI (B e) < (48 : Int32) from nI_nlt (b := 48) (by omega) (by omega)), gd_of (vpn (n := e) (N := 240) (by omega) (by omega)), if_pos (show (57 : Int32) < nI (B e) from nI_lt (a := 57) (by omega) (by omega))]; exact f1
      · rw [f_M_advance_L207, s17, if_pos rfl, s19, bd1_eq _ b, show f_S_isDigit (nI (B e)) = 0 from (digb b3).trans (if_neg z), if_pos rfl]
