/-! The text: the next token. -/
/-- the reference's state as a token begins -/
def sT (s : g_St) (a : Nat) (t v : Int32) : g_St := si (sj (si (si (si s 18 (nI a)) 19 (nI a)) 17 t) 20 0) 21 v
theorem sT_gi {s : g_St} {a : Nat} {t v : Int32} {i : Nat} (h1 : i ≠ 17) (h2 : i ≠ 18) (h3 : i ≠ 19) (h4 : i ≠ 21) : gi (sT s a t v) i = gi s i := by
  unfold sT
  rw [gi_si, if_neg h4, gi_sj, gi_si, if_neg h1, gi_si, if_neg h3, gi_si, if_neg h2]
theorem L207_0 {fu : Nat} (hfu : 5000 ≤ fu) {s : g_St} (h : ¬ gi s 17 = 2) : f_M_advance_L207 fu fu s = some s := by
  obtain ⟨m, rfl⟩ : ∃ x, fu = x + 1 := ⟨fu - 1, by omega⟩
  rw [f_M_advance_L207, if_neg h]
theorem L126_0 {fu : Nat} (hfu : 5000 ≤ fu) {s : g_St} (h : ¬ gi s 17 = 1) : f_M_advance_L126 fu fu s = f_M_advance_L207 fu fu s := by
  obtain ⟨m, rfl⟩ : ∃ x, fu = x + 1 := ⟨fu - 1, by omega⟩
  rw [f_M_advance_L126, if_neg h]
theorem OG_sT {s u : g_St} {a : Nat} {t v : Int32} (h : (∀ i, i ≠ 19 → i ≠ 21 → gi u i = gi (sT s a t v) i) ∧ gr u = gr s ∧ gt u = gt s) : OG s u := ⟨fun i h1 h2 h3 h4 => (h.1 i h3 h4).trans (sT_gi h1 h2 h3 h4), h.2.1, h.2.2⟩
theorem T_adv {fu N e : Nat} {B : Nat → Nat} {rd s : g_St} (hfu : 5000 ≤ fu) (hB : BYT N B rd s) (r3 : gi rd 3 = nI e) (s19 : gi s 19 = nI e) (he : e ≤ N) : ∃ t a e' rd' s', f_T_advance fu rd = some rd' ∧ f_M_advance fu s = some s' ∧ TK N B t a e' rd' s' ∧ e ≤ a ∧ OG s s' := by
  have hN := hB.1
  obtain ⟨a, ha1, ha2, ha3, f1, f2⟩ := W_skip (fu := fu) (N - e) (fu + 1) fu e rd (si s 18 (nI e)) (by omega) (by omega) (by omega) (hB.m rfl rfl) r3 rfl
  have g1 : f_T_advance fu rd = f_T_advance_L38 fu (si rd 3 (nI a)) := by
    rw [← f1, f_T_advance_L0]; rfl
  have g2 : f_M_advance fu s = f_M_advance_L8 fu 1 (si s 18 (nI a)) := by
    unfold f_M_advance
    rw [lt_lt, lt_lt, s19, f2, si_si]
  have hB1 : BYT N B (si rd 3 (nI a)) (si s 18 (nI a)) := (hB.m rfl rfl).c rfl rfl
  have hB2 : BYT N B (si rd 3 (nI a)) (si (si s 18 (nI a)) 19 (nI a)) := hB1.m rfl rfl
  have ca : (nI a).toNatClampNeg = a := nIc (by omega)
  have by1 := M_byte hB1 (show a ≤ 240 by omega)
  have by2 := M_byte hB2 (show a ≤ 240 by omega)
  have q18 : gi (si s 18 (nI a)) 18 = nI a := rfl
  have q18' : gi (si (si s 18 (nI a)) 19 (nI a)) 18 = nI a := rfl
  rw [g1, g2]
  by_cases hz : a < N
  · obtain ⟨b1, b2, b3⟩ := hB.2.2.2 a hz
    have b1' : gr (si (si rd 3 (nI a)) 5 (nI a)) 1 a = nI (B a) := b1
    rw [if_pos hz] at by1 by2
    have m1 : f_M_advance_L8 fu 1 (si s 18 (nI a)) = (if (f_S_isLetter (nI (B a))) = 0 then (if (f_S_isDigit (nI (B a))) = 0 then (f_M_advance_L83 fu (si (si s 18 (nI a)) 19 (nI a)) (nI (B a)) (3 : Int32)) else (f_M_advance_L83 fu (si (si s 18 (nI a)) 19 (nI a)) (nI (B a)) (2 : Int32))) else (f_M_advance_L83 fu (si (si s 18 (nI a)) 19 (nI a)) (nI (B a)) (1 : Int32))) := by
      rw [f_M_advance_L8, q18, bd1_eq _ by1, if_neg (mt (b32 b3).mp (ha3 hz)), lt_lt, lt_lt, q18', bd1_eq _ by2, if_pos (nI_pos' (n := B a) (by omega))]
    have c1 : f_T_advance_L38 fu (si rd 3 (nI a)) = (if (f_S_within (nI (B a)) (97 : Int32) (122 : Int32)) = 0 then (if (f_S_within (nI (B a)) (48 : Int32) (57 : Int32)) = 0 then some (si (si (si (si (si rd 3 (nI a)) 5 (nI a)) 4 3) 6 (nI (B a))) 3 (nI (a + 1))) else (bd1 (f_T_takeNumber fu (si (si (si rd 3 (nI a)) 5 (nI a)) 4 2)) fun s17 => some s17)) else (f_T_advance_L89 fu fu (si (si (si rd 3 (nI a)) 5 (nI a)) 4 1))) := by
      unfold f_T_advance_L38
      have k2 : gi (si (si rd 3 (nI a)) 5 (nI a)) 2 = nI N := hB.2.1
      have k3 : gi (si (si rd 3 (nI a)) 5 (nI a)) 3 = nI a := rfl
      have k3' : gi (si rd 3 (nI a)) 3 = nI a := rfl
      have k3'' : gi (si (si (si rd 3 (nI a)) 5 (nI a)) 4 3) 3 = nI a := rfl
      have b1'' : gr (si (si (si rd 3 (nI a)) 5 (nI a)) 4 3) 1 a = nI (B a) := b1
      have k3s : gi (si (si (si (si rd 3 (nI a)) 5 (nI a)) 4 3) 6 (nI (B a))) 3 = nI a := rfl
      rw [lt_lt, k3', lt_lt, k3, k2, if_pos (nI_lt hz (by omega)), gd_of (vpn (n := a) (N := 240) (by omega) (by omega)), ca, b1', gd_of (vpn (n := a) (N := 240) (by omega) (by omega)), lt_lt, lt_lt, lt_lt, k3'', gd_of (vpn (n := a) (N := 240) (by omega) (by omega)), ca, b1'', lt_lt, lt_lt, k3s, lt_lt, lt_lt, nI_1]
    rw [m1, c1, within_in, within_in, show f_S_isLetter (nI (B a)) = f_S_in (nI (B a)) 97 122 from rfl, show f_S_isDigit (nI (B a)) = f_S_in (nI (B a)) 48 57 from rfl, letb b3, digb b3]
    by_cases zl : 97 ≤ B a ∧ B a ≤ 122
    · rw [if_pos zl, if_neg ne10, if_neg ne10]
      have m2 : f_M_advance_L83 fu (si (si s 18 (nI a)) 19 (nI a)) (nI (B a)) 1 = f_M_advance_L126 fu fu (sT s a 1 (nI (B a))) := by
        unfold f_M_advance_L83 f_M_advance_L105
        simp only [lt_lt]
        rw [if_neg (show ¬ gi (sj (si (si (si s 18 (nI a)) 19 (nI a)) 17 1) 20 0) 17 = 2 from by rw [gi_sj, gi_si, if_pos rfl]; decide), if_neg (show ¬ gi (si (sj (si (si (si s 18 (nI a)) 19 (nI a)) 17 1) 20 0) 21 (nI (B a))) 17 = 3 from by rw [gi_si, if_neg (by omega), gi_sj, gi_si, if_pos rfl]; decide)]; rfl
      obtain ⟨e', s', h1, h2, h3, h4, h5, h6, h7, h8, h9, h10, h11⟩ := W_letters hfu (N - a) fu fu a (si (si (si rd 3 (nI a)) 5 (nI a)) 4 1) (sT s a 1 (nI (B a))) (by omega) (by omega) (by omega) (Nat.le_refl a) ((hB.m (t := sT s a 1 (nI (B a))) (sT_gi (by omega) (by omega) (by omega) (by omega)) rfl).c rfl rfl) rfl rfl rfl rfl (Or.inl ⟨by omega, by rw [Nat.sub_self]; rfl⟩) (fun i i1 i2 => by omega)
      have h12 := h11 hz zl.1 zl.2
      refine ⟨1, a, e', _, s', h3, m2.trans h4, ⟨(hB.m (t := s') ((h6 16 (by omega)).trans (sT_gi (by omega) (by omega) (by omega) (by omega))) (congrFun h7 15)).c rfl rfl, h1, h2, by omega, rfl, (h6 17 (by omega)).trans rfl, rfl, (h6 18 (by omega)).trans rfl, rfl, h5, fun _ => ⟨h9, h10⟩, fun h => by omega, fun _ => h12⟩, ha1, OG_sT ⟨fun i i1 i2 => h6 i i1, h7, h8⟩⟩
    · rw [if_neg zl, if_pos rfl, if_pos rfl]
      by_cases zd : 48 ≤ B a ∧ B a ≤ 57
      · rw [if_pos zd, if_neg ne10, if_neg ne10]
        have m2 : f_M_advance_L83 fu (si (si s 18 (nI a)) 19 (nI a)) (nI (B a)) 2 = f_M_advance_L207 fu fu (sT s a 2 0) := by
          unfold f_M_advance_L83 f_M_advance_L105
          simp only [lt_lt]
          rw [if_pos (show gi (sj (si (si (si s 18 (nI a)) 19 (nI a)) 17 2) 20 0) 17 = 2 from rfl), if_neg (show ¬ gi (si (sj (si (si (si s 18 (nI a)) 19 (nI a)) 17 2) 20 0) 21 0) 17 = 3 from by rw [gi_si, if_neg (by omega), gi_sj, gi_si, if_pos rfl]; decide)]
          exact L126_0 hfu (show ¬ gi (sT s a 2 0) 17 = 1 from by unfold sT; rw [gi_si, if_neg (by omega), gi_sj, gi_si, if_pos rfl]; decide)
        obtain ⟨e', rd', s', h1, h2, h3, h4, h5, h6, h7, h8, h9, h10, h11, h12, h13⟩ := W_digits (fu := fu) (N - a) fu fu a (si (si (si (si rd 3 (nI a)) 5 (nI a)) 4 2) 6 0) (sT s a 2 0) (by omega) (by omega) (by omega) (Nat.le_refl a) ((hB.m (t := sT s a 2 0) (sT_gi (by omega) (by omega) (by omega) (by omega)) rfl).c rfl rfl) rfl rfl rfl rfl rfl (fun _ => rfl) (fun h => by omega)
        have h14 := h13 hz zd.1 zd.2
        have h3' : f_T_takeNumber fu (si (si (si rd 3 (nI a)) 5 (nI a)) 4 2) = some rd' := h3
        rw [bd1_eq _ h3']
        refine ⟨2, a, e', rd', s', rfl, m2.trans h4, ⟨(hB.m (t := s') ((h10 16 (by omega) (by omega)).trans (sT_gi (by omega) (by omega) (by omega) (by omega))) (congrFun h11 15)).c (h7 2 (by omega) (by omega)) (congrFun h8 1), h1, h2, by omega, (h7 4 (by omega) (by omega)).trans rfl, (h10 17 (by omega) (by omega)).trans rfl, (h7 5 (by omega) (by omega)).trans rfl, (h10 18 (by omega) (by omega)).trans rfl, h5, h9, fun h => by omega, fun _ => h6, fun _ => h14⟩, ha1, OG_sT ⟨fun i i1 i2 => h10 i i1 i2, h11, h12⟩⟩
      · rw [if_neg zd, if_pos rfl, if_pos rfl]
        have m2 : f_M_advance_L83 fu (si (si s 18 (nI a)) 19 (nI a)) (nI (B a)) 3 = some (si (sT s a 3 (nI (B a))) 19 (nI (a + 1))) := by
          unfold f_M_advance_L83 f_M_advance_L105
          simp only [lt_lt]
          rw [if_neg (show ¬ gi (sj (si (si (si s 18 (nI a)) 19 (nI a)) 17 3) 20 0) 17 = 2 from by rw [gi_sj, gi_si, if_pos rfl]; decide), if_pos (show gi (si (sj (si (si (si s 18 (nI a)) 19 (nI a)) 17 3) 20 0) 21 (nI (B a))) 17 = 3 from rfl), show gi (si (sj (si (si (si s 18 (nI a)) 19 (nI a)) 17 3) 20 0) 21 (nI (B a))) 19 = nI a from rfl, nI_1]
          have k17 : gi (si (sT s a 3 (nI (B a))) 19 (nI (a + 1))) 17 = 3 := rfl
          exact (L126_0 hfu (show ¬ gi (si (sT s a 3 (nI (B a))) 19 (nI (a + 1))) 17 = 1 from by rw [k17]; decide)).trans (L207_0 hfu (by rw [k17]; decide))
        refine ⟨3, a, a + 1, _, _, rfl, m2, ⟨(hB.m (t := si (sT s a 3 (nI (B a))) 19 (nI (a + 1))) ((gi_si _ _ _ _).trans ((if_neg (by omega)).trans (sT_gi (by omega) (by omega) (by omega) (by omega)))) rfl).c rfl rfl, by omega, by omega, by omega, rfl, rfl, rfl, rfl, rfl, rfl, fun h => by omega, fun _ => rfl, fun _ => by omega⟩, ha1, OG_sT ⟨fun i i1 i2 => by rw [gi_si, if_neg i1], rfl, rfl⟩⟩
  · have haN : a = N := by omega
    rw [if_neg hz] at by1 by2
    have c1 : f_T_advance_L38 fu (si rd 3 (nI a)) = some (si (si (si rd 3 (nI a)) 5 (nI a)) 4 0) := by
      unfold f_T_advance_L38
      have k2 : gi (si (si rd 3 (nI a)) 5 (nI a)) 2 = nI N := hB.2.1
      have k3 : gi (si (si rd 3 (nI a)) 5 (nI a)) 3 = nI a := rfl
      have k3' : gi (si rd 3 (nI a)) 3 = nI a := rfl
      rw [lt_lt, k3', lt_lt, k3, k2, if_neg (nI_nlt (by omega) (by omega)), lt_lt]
    have m1 : f_M_advance_L8 fu 1 (si s 18 (nI a)) = some (sT s a 0 (-1)) := by
      rw [f_M_advance_L8, q18, bd1_eq _ by1, if_neg (show ¬ (-1 : Int32) = 32 by decide), lt_lt, lt_lt, q18', bd1_eq _ by2, if_neg (show ¬ (0 : Int32) ≤ -1 by decide)]
      unfold f_M_advance_L83 f_M_advance_L105
      simp only [lt_lt]
      rw [if_neg (show ¬ gi (sj (si (si (si s 18 (nI a)) 19 (nI a)) 17 0) 20 0) 17 = 2 from by rw [gi_sj, gi_si, if_pos rfl]; decide), if_neg (show ¬ gi (si (sj (si (si (si s 18 (nI a)) 19 (nI a)) 17 0) 20 0) 21 (-1)) 17 = 3 from by rw [gi_si, if_neg (by omega), gi_sj, gi_si, if_pos rfl]; decide)]
      have k17 : gi (sT s a 0 (-1)) 17 = 0 := rfl
      exact (L126_0 hfu (show ¬ gi (sT s a 0 (-1)) 17 = 1 from by rw [k17]; decide)).trans (L207_0 hfu (by rw [k17]; decide))
    rw [c1, m1]
    refine ⟨0, a, a, _, _, rfl, rfl, ⟨(hB.m (t := sT s a 0 (-1)) (sT_gi (by omega) (by omega) (by omega) (by omega)) rfl).c rfl rfl, Nat.le_refl a, by omega, by omega, rfl, rfl, rfl, rfl, rfl, rfl, fun h => by omega, fun h => by omega, fun h => absurd rfl h⟩, ha1, OG_sT ⟨fun i _ _ => rfl, rfl, rfl⟩⟩
