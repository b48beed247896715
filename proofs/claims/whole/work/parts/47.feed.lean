/-! The tape is fed. -/
theorem fb_s : ∀ k : Fin 8, ((((8 : Int32) * nI k.val).toInt64 &&& 63).toBitVec.smod 64).toNat = 8 * k.val := by decide +kernel
theorem fb_u : ∀ k : Fin 8, (((((8 : Int32) * nI k.val).toInt64.toUInt64 &&& Int64.toUInt64 63)).toBitVec % 64).toNat = 8 * k.val := by decide +kernel
theorem fb_m : ∀ i : Fin 32, (255 : Int32).toBitVec.getLsbD i.val = decide (i.val < 8) ∧ (255 : Int64).toBitVec.getLsbD i.val = decide (i.val < 8) := by decide +kernel
theorem fb (x : Int64) (k : Nat) (hk : k < 8) : ((g_ushrL x ((8 : Int32) * nI k)).toInt32) &&& 255 = ((g_shrL x ((8 : Int32) * nI k)) &&& 255).toInt32 := by
  apply Int32.toBitVec_inj.mp
  apply BitVec.eq_of_getLsbD_eq
  intro i hi
  have m1 : (255 : Int32).toBitVec.getLsbD i = decide (i < 8) := (fb_m ⟨i, hi⟩).1
  have m2 : (255 : Int64).toBitVec.getLsbD i = decide (i < 8) := (fb_m ⟨i, hi⟩).2
  have hu : (g_ushrL x ((8 : Int32) * nI k)).toBitVec = x.toBitVec >>> (8 * k) := by
    have e := fb_u ⟨k, hk⟩
    show x.toUInt64.toBitVec >>> (((((8 : Int32) * nI k).toInt64.toUInt64 &&& Int64.toUInt64 63)).toBitVec % 64) = _
    rw [BitVec.ushiftRight_eq', show (((((8 : Int32) * nI k).toInt64.toUInt64 &&& Int64.toUInt64 63)).toBitVec % 64).toNat = 8 * k from e]
    rfl
  have hs : (g_shrL x ((8 : Int32) * nI k)).toBitVec = x.toBitVec.sshiftRight (8 * k) := by
    have e := fb_s ⟨k, hk⟩
    show x.toBitVec.sshiftRight' ((((8 : Int32) * nI k).toInt64 &&& 63).toBitVec.smod 64) = _
    rw [BitVec.sshiftRight', show ((((8 : Int32) * nI k).toInt64 &&& 63).toBitVec.smod 64).toNat = 8 * k from e]
  rw [Int32.toBitVec_and, BitVec.getLsbD_and, m1, Int64.toBitVec_toInt32, Int64.toBitVec_toInt32, hu, Int64.toBitVec_and, hs]
  rw [BitVec.getLsbD_signExtend, BitVec.getLsbD_signExtend, if_pos (show i < 64 by omega), if_pos (show i < 64 by omega), BitVec.getLsbD_and, m2, BitVec.getLsbD_ushiftRight, BitVec.getLsbD_sshiftRight]
  by_cases h8 : i < 8
  · rw [if_pos (show 8 * k + i < 64 by omega), decide_eq_true h8, decide_eq_true hi, decide_eq_false (show ¬ 64 ≤ i by omega)]
    cases x.toBitVec.getLsbD (8 * k + i) <;> rfl
  · rw [decide_eq_false h8, Bool.and_false, Bool.and_false, Bool.and_false]
/-- the tape that both keep -/
def TP (N : Nat) (w tp s : g_St) : Prop := N ≤ 240 ∧ gi w 6 = nI N ∧ gi s 16 = nI N ∧ ∀ i, i < N → gr tp 0 i = gr s 15 i
/-- all but the tape -/
def OT (s t : g_St) : Prop := (∀ i, i ≠ 16 → gi t i = gi s i) ∧ (∀ i, i ≠ 15 → gr t i = gr s i) ∧ gt t = gt s
theorem W_feed_L {fu N M : Nat} {w : g_St} (x : Int64) (hM : M ≤ 8) (hNM : N + M ≤ 240) (w6 : gi w 6 = nI N) : ∀ (k n j : Nat) (tp s : g_St), k + j = M → k < n → gi s 16 = nI (N + j) → (∀ i, i < N + j → gr tp 0 i = gr s 15 i) → ∃ tp' s', f_O_feed_L30 fu n w tp x (nI M) (nI j) = some (nI (N + M), si w 6 (nI (N + M)), tp') ∧ f_M_feed_L30 fu n s x (nI M) (nI j) = some (nI (N + M), s') ∧ gi s' 16 = nI (N + M) ∧ (∀ i, i < N + M → gr tp' 0 i = gr s' 15 i) ∧ OT s s' := by
  intro k
  induction k with
  | zero =>
    intro n j tp s hk hn h1 h2
    obtain ⟨m, rfl⟩ : ∃ m, n = m + 1 := ⟨n - 1, by omega⟩
    have ej : j = M := by omega
    rw [ej] at h1 h2
    refine ⟨tp, s, ?_, ?_, h1, h2, fun _ _ => rfl, fun _ _ => rfl, rfl⟩
    · rw [f_O_feed_L30, if_pos (nI_le (by omega) (by omega)), lt_lt, lt_lt, w6, nI_add, gi_si, if_pos rfl]
    · rw [f_M_feed_L30, if_pos (nI_le (by omega) (by omega)), h1]
  | succ k ih =>
    intro n j tp s hk hn h1 h2
    obtain ⟨m, rfl⟩ : ∃ m, n = m + 1 := ⟨n - 1, by omega⟩
    have c1 : (nI (N + j)).toNatClampNeg = N + j := nIc (by omega)
    obtain ⟨tp', s', e1, e2, e3, e4, e5, e6, e7⟩ := ih m (j + 1) (sr tp 0 (nI (N + j)) (((g_shrL x ((8 : Int32) * nI j)) &&& 255).toInt32)) (si (sr s 15 (nI (N + j)) (((g_shrL x ((8 : Int32) * nI j)) &&& 255).toInt32)) 16 (nI (N + (j + 1)))) (by omega) (by omega) rfl (fun i hi => by
      show upd (gr tp 0) (nI (N + j)).toNatClampNeg _ i = upd (gr s 15) (nI (N + j)).toNatClampNeg _ i
      rw [c1, upd_at, upd_at]
      by_cases z : i = N + j
      · rw [if_pos z, if_pos z]
      · rw [if_neg z, if_neg z]; exact h2 i (by omega))
    refine ⟨tp', s', ?_, ?_, e3, e4, fun i hi => (e5 i hi).trans (if_neg hi), fun i hi => (e6 i hi).trans (if_neg hi), e7⟩
    · rw [f_O_feed_L30, if_neg (nI_ge (by omega) (by omega)), w6, nI_add, lt_lt, gd_of (vpn (n := N + j) (N := 240) (by omega) (by omega)), lt_lt, lt_lt, fb x j (by omega), nI_1]
      exact e1
    · rw [f_M_feed_L30, if_neg (nI_ge (by omega) (by omega)), h1, lt_lt, gd_of (vpn (n := N + j) (N := 240) (by omega) (by omega)), lt_lt, lt_lt, lt_lt, lt_lt, gi_sr, h1, nI_1, nI_1]
      exact e2
theorem t_feed {fu N : Nat} (hfu : 5000 ≤ fu) {w tp s : g_St} (h : TP N w tp s) (x1 : Int64) (x3 : Int32) : ∃ r w' tp' s' N', f_O_feed fu w tp x1 x3 = some (r, w', tp') ∧ f_M_feed fu s x1 x3 = some (r, s') ∧ TP N' w' tp' s' ∧ OT s s' ∧ (∀ i, i ≠ 6 → gi w' i = gi w i) ∧ gr w' = gr w := by
  have h' := h
  obtain ⟨hN, w6, s16, hb⟩ := h'
  unfold f_O_feed f_M_feed
  rw [within_in, w6, s16]
  rcases in_ab x3 1 8 (by omega) (by omega) with ⟨e, M, hM1, hM, rfl⟩ | e
  · have e' : f_S_in (nI M) 1 8 = 1 := e
    rw [e', if_neg ne10, if_neg ne10, nI_add]
    by_cases z : N + M ≤ 240
    · have z' : nI (N + M) ≤ 240 := (nIle (b := 240) (by omega) (by omega)).mpr z
      rw [if_pos z', if_pos z']
      obtain ⟨tp', s', f1, f2, f3, f4, f5⟩ := W_feed_L (fu := fu) (N := N) (M := M) x1 hM z w6 M fu 0 tp s (by omega) (by omega) s16 hb
      exact ⟨_, _, tp', s', N + M, f1, f2, ⟨z, rfl, f3, f4⟩, f5, fun i hi => if_neg hi, rfl⟩
    · have z' : ¬ nI (N + M) ≤ 240 := fun q => z ((nIle (b := 240) (by omega) (by omega)).mp q)
      rw [if_neg z', if_neg z']
      exact ⟨_, w, tp, s, N, rfl, rfl, h, ⟨fun _ _ => rfl, fun _ _ => rfl, rfl⟩, fun _ _ => rfl, rfl⟩
  · have e' : f_S_in x3 1 8 = 0 := e
    rw [e', if_pos rfl, if_pos rfl]
    exact ⟨_, w, tp, s, N, rfl, rfl, h, ⟨fun _ _ => rfl, fun _ _ => rfl, rfl⟩, fun _ _ => rfl, rfl⟩
