/-! The tape is fed. -/
theorem fb_s : ∀ k : Fin 8, ((((8 : Int32) * nI k.val).toInt64 &&& 63).toBitVec.smod 64).toNat = 8 * k.val := by decide +kernel
theorem fb_u : ∀ k : Fin 8, (((((8 : Int32) * nI k.val).toInt64.toUInt64 &&& Int64.toUInt64 63)).toBitVec % 64).toNat = 8 * k.val := by decide +kernel
theorem fb_m : ∀ i : Fin 32, (255 : Int32).toBitVec.getLsbD i.val = decide (i.val < 8) ∧ (255 : Int64).toBitVec.getLsbD i.val = decide (i.val < 8) := by decide +kernel
theorem fb (x : Int64) (k : Nat) (hk : k < 8) : ((g_ushrL x ((8 : Int32) * nI k)).toInt32) &&& 255 = ((g_shrL x ((8 : Int32) * nI k)) &&& 255).toInt32 := by
  apply Int32.toBitVec_inj.mp
  apply BitVec.eq_of_getLsbD_eq
  intro i hi
  have m1 : (255 : Int32).toBitVec.getLsbD i = decide (i < 8) := (fb_m ⟨i, hi⟩).1
  have m2 : (255 : Int64).toBitVec.getLsbD i = decide (i < 8) := (fb_m ⟨i, hi⟩).2
  have hu : (g_ushrL x ((8 : Int32) * nI k)).toBitVec = x.toBitVec >>> (8 * k) := by
    have e := fb_u ⟨k, hk⟩
    show x.toUInt64.toBitVec >>> (((((8 : Int32) * nI k).toInt64.toUInt64 &&& Int64.toUInt64 63)).toBitVec % 64) = _
    rw [BitVec.ushiftRight_eq', show (((((8 : Int32) * nI k).toInt64.toUInt64 &&& Int64.toUInt64 63)).toBitVec % 64).toNat = 8 * k from e]
    rfl
  have hs : (g_shrL x ((8 : Int32) * nI k)).toBitVec = x.toBitVec.sshiftRight (8 * k) := by
    have e := fb_s ⟨k, hk⟩
    show x.toBitVec.sshiftRight' ((((8 : Int32) * nI k).toInt64 &&& 63).toBitVec.smod 64) = _
    rw [BitVec.sshiftRight', show ((((8 : Int32) * nI k).toInt64 &&& 63).toBitVec.smod 64).toNat = 8 * k from e]
  rw [Int32.toBitVec_and, BitVec.getLsbD_and, m1, Int64.toBitVec_toInt32, Int64.toBitVec_toInt32, hu, Int64.toBitVec_and, hs]
  rw [BitVec.getLsbD_signExtend, BitVec.getLsbD_signExtend, if_pos (show i < 64 by omega), if_pos (show i < 64 by omega), BitVec.getLsbD_and, m2, BitVec.getLsbD_ushiftRight, BitVec.getLsbD_sshiftRight]
  by_cases h8 : i < 8
  · rw [if_pos (show 8 * k + i < 64 by omega), decide_eq_true h8, decide_eq_true hi, decide_eq_false (show ¬ 64 ≤ i by omega)]
    cases x.toBitVec.getLsbD (8 * k + i) <;> rfl
  · rw [decide_eq_false h8, Bool.and_false, Bool.and_false, Bool.and_false]
