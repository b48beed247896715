set_option maxHeartbeats 4000000 in
set_option maxRecDepth 100000 in
theorem c_S_next (l : Launch) (G : g_G) (OK : EOk G.2.2) (x0 : Int32) (r : Int32) (h : f_S_next x0 = r) : HI l G yX12_next (Cond.code yX12_next cX12_next 1 (some .int) :: gT) { frames := 0, cells := 0, slots := 0, locals := 0 } .int [.int x0] [] r [] := by
  refine HI.mk (lv := [(0, .int x0)]) OK (by decide) (Nat.le_of_ble_eq_true rfl) rfl ?_
  intro p e s0 m args below meth c ls XX hr I hl
  have hx := XX.x
  have hb := XX.b
  unfold f_S_next at h
  refine lv_iload_n hx hb dX12_next_0 rfl (lv_at hl 0 rfl) ?_
  refine lv_ldcw (v := 1103515245) hx hb XX.o (XX.t _ wd_1333) dX12_next_1 ?_
  refine lv_imul hx hb dX12_next_4 ?_
  refine lv_sipush (v := 12345) hx hb dX12_next_5 (by decide) ?_
  refine lv_iadd hx hb dX12_next_8 ?_
  subst h
  exact e_i rfl XX hr I rfl dX12_next_9
theorem kV_X12_281 : KV RX12 281 RX12 yX12_weightsInAll cX12_weightsInAll 3 (some .int) 0 := KV.mk wd_1326 wd_1328 wd_1634 wd_13 wd_1329 (by decide +kernel)
theorem kS_X12_284 : KS RX12 284 yX12_next cX12_next 1 (some .int) 1 := KS.mk wd_1330 wd_1331 wd_13 wd_1332 (by decide +kernel)
theorem kV_X12_287 : KV RX12 287 RX12 yX12_lotOf cX12_lotOf 5 (some .int) 2 := KV.mk wd_1334 wd_1336 wd_1635 wd_13 wd_1337 (by decide +kernel)
set_option maxHeartbeats 4000000 in
set_option maxRecDepth 100000 in
theorem c_M_lot (l : Launch) (G : g_G) (OK : EOk G.2.2) (ad : Nat → Nat) (fu : Nat) (sa : g_St) (r : Int32) (ts : g_St) (h : f_M_lot fu sa = some (r, ts)) : HI l G yX12_lot (Cond.code yX12_lot cX12_lot 3 (some .int) :: gT) { frames := 7, cells := 0, slots := 0, locals := 174 } .int [.ref (ad 0)] (wM G ad sa) r (wM G ad ts) := by
  refine HI.mk (lv := [(0, .ref (ad 0))]) OK (by decide) (Nat.le_of_ble_eq_true rfl) rfl ?_
  intro p e s0 m args below meth c ls XX hr I hl
  have hx := XX.x
  have hb := XX.b
  unfold f_M_lot at h
  refine lv_aload_n hx hb dX12_lot_0 rfl (lv_at hl 0 rfl) ?_
  obtain ⟨r1, q2, h⟩ := bd1_some h
  refine wcall_i (rest := []) XX I hl.1 (c_M_weightsInAll l G OK ad fu sa r1 q2) kV_X12_281 (Rc.mk XX I (q0 := 0) (ci := 12) wM_o rfl) rfl rfl (Nat.le_of_ble_eq_true rfl) ⟨rfl, rfl, Nat.le_of_ble_eq_true rfl, Nat.le_of_ble_eq_true rfl⟩ ⟨Nat.zero_le _, Nat.zero_le _⟩ dX12_lot_1 (fun H locs hz3 I => ?_)
  refine lv_istore_n (lv' := [(1, .int r1), (0, .ref (ad 0))]) hx hb dX12_lot_4 rfl hl (by decide) rfl (fun ls hl => ?_)
  refine lv_iload_n hx hb dX12_lot_5 rfl (lv_at hl 0 rfl) ?_
  refine lv_if_ne (tgt := 12) hx hb dX12_lot_6 (by decide) (fun c1 => ?_) (fun c1 => ?_)
  · replace h := if_f h c1
    refine lv_aload_n hx hb dX12_lot_12 rfl (lv_at hl 1 rfl) ?_
    refine gM_row XX I dX12_lot_13 ?_
    refine lv_bipush (v := 6) hx hb dX12_lot_16 (by decide) ?_
    refine r_iald XX I 10 (aM_row) (by unfold vp_in; decide) dX12_lot_18 ?_
    refine lv_sipush (v := 999) hx hb dX12_lot_19 (by decide) ?_
    refine lv_icmp_ne (tgt := 28) hx hb dX12_lot_22 (by decide) (fun c1 => ?_) (fun c1 => ?_)
    · replace h := if_f h c1
      refine lv_aload_n hx hb dX12_lot_28 rfl (lv_at hl 1 rfl) ?_
      refine lv_aload_n hx hb dX12_lot_29 rfl (lv_at hl 1 rfl) ?_
      refine gM_z XX I dX12_lot_30 ?_
      refine scall_i (rest := [.ref (ad 0)]) XX I hl.1 (c_S_next l G OK (gi sa 14) _ rfl) kS_X12_284 rfl rfl (Nat.le_of_ble_eq_true rfl) ⟨rfl, rfl, Nat.le_of_ble_eq_true rfl, Nat.le_of_ble_eq_true rfl⟩ ⟨Nat.zero_le _, Nat.zero_le _⟩ dX12_lot_33 (fun H locs hz4 I => ?_)
      refine lv_topi (fun y5 ey5 => ?_)
      replace h := lt_e h ey5
      refine pM_z XX I dX12_lot_36 (fun H locs I => ?_)
      obtain ⟨s6, es6⟩ : ∃ z, z = si sa 14 y5 := ⟨_, rfl⟩
      replace h := lt_e h es6
      replace I : Iv G (va_A (wM G ad sa) s0.heap.size) s0 H locs (wM G ad s6) := by rw [es6]; exact I
      refine lv_aload_n hx hb dX12_lot_39 rfl (lv_at hl 1 rfl) ?_
      refine lv_aload_n hx hb dX12_lot_40 rfl (lv_at hl 1 rfl) ?_
      refine gM_z XX I dX12_lot_41 ?_
      refine lv_iload_n hx hb dX12_lot_44 rfl (lv_at hl 0 rfl) ?_
      obtain ⟨r7, q8, h⟩ := bd1_some h
      refine wcall_i (rest := []) XX I hl.1 (c_M_lotOf l G OK ad fu s6 (gi s6 14) r1 r7 q8) kV_X12_287 (Rc.mk XX I (q0 := 0) (ci := 12) wM_o rfl) rfl rfl (Nat.le_of_ble_eq_true rfl) ⟨rfl, rfl, Nat.le_of_ble_eq_true rfl, Nat.le_of_ble_eq_true rfl⟩ ⟨Nat.zero_le _, Nat.zero_le _⟩ dX12_lot_45 (fun H locs hz9 I => ?_)
      refine lv_istore_n (lv' := [(2, .int r7), (1, .int r1), (0, .ref (ad 0))]) hx hb dX12_lot_48 rfl hl (by decide) rfl (fun ls hl => ?_)
      refine lv_aload_n hx hb dX12_lot_49 rfl (lv_at hl 2 rfl) ?_
      refine lv_iload_n hx hb dX12_lot_50 rfl (lv_at hl 0 rfl) ?_
      obtain ⟨r10, s11, q12, h⟩ := bd2_some h
      refine wcall_i (rest := []) XX I hl.1 (c_M_comesNow l G OK ad fu s6 r7 r10 s11 q12) kV_X12_277 (Rc.mk XX I (q0 := 0) (ci := 12) wM_o rfl) rfl rfl (Nat.le_of_ble_eq_true rfl) ⟨rfl, rfl, Nat.le_of_ble_eq_true rfl, Nat.le_of_ble_eq_true rfl⟩ ⟨Nat.zero_le _, Nat.zero_le _⟩ dX12_lot_51 (fun H locs hz13 I => ?_)
      refine lv_pop hx hb dX12_lot_54 rfl ?_
      refine lv_iload_n hx hb dX12_lot_55 rfl (lv_at hl 0 rfl) ?_
      obtain ⟨rfl, rfl⟩ := some2 h
      exact e_i rfl XX hr I rfl dX12_lot_56
    · replace h := if_t h c1
      refine lv_bipush (v := (-4)) hx hb dX12_lot_25 (by decide) ?_
      obtain ⟨rfl, rfl⟩ := some2 h
      exact e_i rfl XX hr I rfl dX12_lot_27
  · replace h := if_t h c1
    refine lv_bipush (v := (-3)) hx hb dX12_lot_9 (by decide) ?_
    obtain ⟨rfl, rfl⟩ := some2 h
    exact e_i rfl XX hr I rfl dX12_lot_11
set_option maxHeartbeats 4000000 in
set_option maxRecDepth 100000 in
theorem c_M_had (l : Launch) (G : g_G) (OK : EOk G.2.2) (ad : Nat → Nat) (sa : g_St) (x1 : Int32) (r : Int32) (h : f_M_had sa x1 = some r) : HI l G yX12_had (Cond.code yX12_had cX12_had 2 (some .int) :: gT) { frames := 2, cells := 0, slots := 0, locals := 43 } .int [.ref (ad 0), .int x1] (wM G ad sa) r (wM G ad sa) := by
  refine HI.mk (lv := [(0, .ref (ad 0)), (1, .int x1)]) OK (by decide) (Nat.le_of_ble_eq_true rfl) rfl ?_
  intro p e s0 m args below meth c ls XX hr I hl
  have hx := XX.x
  have hb := XX.b
  unfold f_M_had at h
  refine lv_aload_n hx hb dX12_had_0 rfl (lv_at hl 0 rfl) ?_
  refine lv_iload_n hx hb dX12_had_1 rfl (lv_at hl 1 rfl) ?_
  refine wcall_i (rest := []) XX I hl.1 (c_M_isPerson l G OK ad sa x1 _ rfl) kV_X12_238 (Rc.mk XX I (q0 := 0) (ci := 12) wM_o rfl) rfl rfl (Nat.le_of_ble_eq_true rfl) ⟨rfl, rfl, Nat.le_of_ble_eq_true rfl, Nat.le_of_ble_eq_true rfl⟩ ⟨Nat.zero_le _, Nat.zero_le _⟩ dX12_had_2 (fun H locs hz1 I => ?_)
  refine lv_if_eq (tgt := 21) hx hb dX12_had_5 (by decide) (fun c1 => ?_) (fun c1 => ?_)
  · replace h := if_t h c1
    refine lv_iconst (v := (-1)) hx hb dX12_had_21 (by decide) ?_
    obtain rfl := some1 h
    exact e_i rfl XX hr I rfl dX12_had_22
  · replace h := if_f h c1
    refine lv_aload_n hx hb dX12_had_8 rfl (lv_at hl 0 rfl) ?_
    refine gM_had XX I dX12_had_9 ?_
    refine lv_iload_n hx hb dX12_had_12 rfl (lv_at hl 1 rfl) ?_
    obtain ⟨g2, h⟩ := gd_some h
    refine r_iald XX I 4 (aM_had) g2 dX12_had_13 ?_
    refine lv_ldcw (v := 100000) hx hb XX.o (XX.t _ wd_1342) dX12_had_14 ?_
    refine lv_iadd hx hb dX12_had_17 ?_
    refine lv_goto (tgt := 22) hx hb dX12_had_18 (by decide) ?_
    obtain rfl := some1 h
    exact e_i rfl XX hr I rfl dX12_had_22
set_option maxHeartbeats 4000000 in
set_option maxRecDepth 100000 in
theorem c_M_seed (l : Launch) (G : g_G) (OK : EOk G.2.2) (ad : Nat → Nat) (sa : g_St) (x1 : Int32) (r : Int32) (ts : g_St) (h : f_M_seed sa x1 = (r, ts)) : HI l G yX12_seed (Cond.code yX12_seed cX12_seed 3 (some .int) :: gT) { frames := 0, cells := 0, slots := 0, locals := 0 } .int [.ref (ad 0), .int x1] (wM G ad sa) r (wM G ad ts) := by
  refine HI.mk (lv := [(0, .ref (ad 0)), (1, .int x1)]) OK (by decide) (Nat.le_of_ble_eq_true rfl) rfl ?_
  intro p e s0 m args below meth c ls XX hr I hl
  have hx := XX.x
  have hb := XX.b
  unfold f_M_seed at h
  refine lv_aload_n hx hb dX12_seed_0 rfl (lv_at hl 0 rfl) ?_
  refine gM_z XX I dX12_seed_1 ?_
  refine lv_topi (fun y1 ey1 => ?_)
  replace h := lt_e h ey1
  refine lv_istore_n (lv' := [(2, .int y1), (0, .ref (ad 0)), (1, .int x1)]) hx hb dX12_seed_4 rfl hl (by decide) rfl (fun ls hl => ?_)
  refine lv_aload_n hx hb dX12_seed_5 rfl (lv_at hl 1 rfl) ?_
  refine lv_iload_n hx hb dX12_seed_6 rfl (lv_at hl 2 rfl) ?_
  refine pM_z XX I dX12_seed_7 (fun H locs I => ?_)
  obtain ⟨s2, es2⟩ : ∃ z, z = si sa 14 x1 := ⟨_, rfl⟩
  replace h := lt_e h es2
  replace I : Iv G (va_A (wM G ad sa) s0.heap.size) s0 H locs (wM G ad s2) := by rw [es2]; exact I
  refine lv_iload_n hx hb dX12_seed_10 rfl (lv_at hl 0 rfl) ?_
  obtain ⟨rfl, rfl⟩ := pair2 h
  exact e_i rfl XX hr I rfl dX12_seed_11
set_option maxHeartbeats 4000000 in
set_option maxRecDepth 100000 in
theorem c_M_lowest (l : Launch) (G : g_G) (OK : EOk G.2.2) (ad : Nat → Nat) (fu : Nat) (sa : g_St) (x1 : Int64) (x3 : Int64) (ts : g_St) (h : f_M_lowest fu sa x1 x3 = some ts) : HV l G yX12_lowest (Cond.code yX12_lowest cX12_lowest 11 none :: gT) { frames := 0, cells := 0, slots := 0, locals := 0 } [.ref (ad 0), .long x1, .long x3] (wM G ad sa) (wM G ad ts) := by
  refine HV.mk (lv := [(0, .ref (ad 0)), (1, .long x1), (3, .long x3)]) OK (by decide) (Nat.le_of_ble_eq_true rfl) rfl ?_
  intro p e s0 m args below meth c ls XX hr I hl
  have hx := XX.x
  have hb := XX.b
  have C17 : ∀ n : Nat, ∀ (s : g_St) (v1 : Int64) (v3 : Int64) (v5 : Int64) (v7 : Int64), f_M_lowest_L17 fu n s v1 v3 v5 v7 = some ts → ∀ (H : Heap) (locs : List Loc), Iv G (va_A (wM G ad sa) s0.heap.size) s0 H locs (wM G ad s) → ∀ ls, lv_has ls 11 [(0, .ref (ad 0)), (1, .long v1), (3, .long v3), (5, .long v5), (7, .long v7)] → W p l e { frames := 0, cells := 0, slots := 0, locals := 0 } s0 m args below meth c H locs 0 0 (QV G below (wM G ad sa) (wM G ad ts) args s0) (F0 m 17 ls []) := by
    intro n
    induction n with
    | zero => intro s v1 v3 v5 v7 h; exact absurd h (fun q => by cases q)
    | succ n ih =>
      intro s v1 v3 v5 v7 h H locs I ls hl
      rw [f_M_lowest_L17] at h
      refine lv_lload hx hb dX12_lowest_17 (lv_at hl 4 rfl) ?_
      refine lv_lconst (v := 0) hx hb dX12_lowest_19 (by decide) ?_
      refine W.lcmp hx hb dX12_lowest_20 ?_
      refine lv_if_eq (tgt := 42) hx hb dX12_lowest_21 (by decide) (fun c1 => ?_) (fun c1 => ?_)
      · replace h := if_t h c1
        refine lv_aload_n hx hb dX12_lowest_42 rfl (lv_at hl 0 rfl) ?_
        refine lv_lload_n hx hb dX12_lowest_43 rfl (lv_at hl 1 rfl) ?_
        refine lv_lload hx hb dX12_lowest_44 (lv_at hl 3 rfl) ?_
        obtain ⟨g2, h⟩ := gd_some h
        refine lv_ldiv hx hb dX12_lowest_46 g2 ?_
        refine lv_topl (fun y3 ey3 => ?_)
        replace h := lt_e h ey3
        refine pM_above XX I dX12_lowest_47 (fun H locs I => ?_)
        obtain ⟨s4, es4⟩ : ∃ z, z = sj s 32 y3 := ⟨_, rfl⟩
        replace h := lt_e h es4
        replace I : Iv G (va_A (wM G ad sa) s0.heap.size) s0 H locs (wM G ad s4) := by rw [es4]; exact I
        refine lv_aload_n hx hb dX12_lowest_50 rfl (lv_at hl 0 rfl) ?_
        refine lv_lload_n hx hb dX12_lowest_51 rfl (lv_at hl 2 rfl) ?_
        refine lv_lload hx hb dX12_lowest_52 (lv_at hl 3 rfl) ?_
        obtain ⟨g5, h⟩ := gd_some h
        refine lv_ldiv hx hb dX12_lowest_54 g5 ?_
        refine lv_topl (fun y6 ey6 => ?_)
        replace h := lt_e h ey6
        refine pM_below XX I dX12_lowest_55 (fun H locs I => ?_)
        obtain ⟨s7, es7⟩ : ∃ z, z = sj s4 33 y6 := ⟨_, rfl⟩
        replace h := lt_e h es7
        replace I : Iv G (va_A (wM G ad sa) s0.heap.size) s0 H locs (wM G ad s7) := by rw [es7]; exact I
        obtain rfl := some1 h
        exact e_v XX hr I dX12_lowest_58
      · replace h := if_f h c1
        refine lv_lload hx hb dX12_lowest_24 (lv_at hl 3 rfl) ?_
        refine lv_lload hx hb dX12_lowest_26 (lv_at hl 4 rfl) ?_
        obtain ⟨g8, h⟩ := gd_some h
        refine lv_lrem hx hb dX12_lowest_28 g8 ?_
        refine lv_topl (fun y9 ey9 => ?_)
        replace h := lt_e h ey9
        refine lv_lstore (lv' := [(9, .long y9), (0, .ref (ad 0)), (1, .long v1), (3, .long v3), (5, .long v5), (7, .long v7)]) hx hb dX12_lowest_29 hl (by decide) rfl (fun ls hl => ?_)
        refine lv_lload hx hb dX12_lowest_31 (lv_at hl 5 rfl) ?_
        refine lv_lstore (lv' := [(5, .long v7), (9, .long y9), (0, .ref (ad 0)), (1, .long v1), (3, .long v3), (7, .long v7)]) hx hb dX12_lowest_33 hl (by decide) rfl (fun ls hl => ?_)
        refine lv_lload hx hb dX12_lowest_35 (lv_at hl 1 rfl) ?_
        refine lv_lstore (lv' := [(7, .long y9), (5, .long v7), (9, .long y9), (0, .ref (ad 0)), (1, .long v1), (3, .long v3)]) hx hb dX12_lowest_37 hl (by decide) rfl (fun ls hl => ?_)
        refine lv_goto (tgt := 17) hx hb dX12_lowest_39 (by decide) ?_
        exact ih _ _ _ _ _ h _ _ I ls (lv_sub hl [3, 4, 5, 1, 0] rfl)
  unfold f_M_lowest at h
  refine lv_lload_n hx hb dX12_lowest_0 rfl (lv_at hl 1 rfl) ?_
  refine lv_lconst (v := 0) hx hb dX12_lowest_1 (by decide) ?_
  refine W.lcmp hx hb dX12_lowest_2 ?_
  refine lv_if_ge (tgt := 11) hx hb dX12_lowest_3 (by decide) (fun c1 => ?_) (fun c1 => ?_)
  · replace h := if_t h c1
    refine lv_lload_n hx hb dX12_lowest_11 rfl (lv_at hl 1 rfl) ?_
    refine lv_lstore (lv' := [(5, .long x1), (0, .ref (ad 0)), (1, .long x1), (3, .long x3)]) hx hb dX12_lowest_12 hl (by decide) rfl (fun ls hl => ?_)
    refine lv_lload_n hx hb dX12_lowest_14 rfl (lv_at hl 3 rfl) ?_
    refine lv_lstore (lv' := [(7, .long x3), (5, .long x1), (0, .ref (ad 0)), (1, .long x1), (3, .long x3)]) hx hb dX12_lowest_15 hl (by decide) rfl (fun ls hl => ?_)
    exact C17 fu _ _ _ _ _ h _ _ I ls (lv_sub hl [2, 3, 4, 1, 0] rfl)
  · replace h := if_f h c1
    refine lv_lload_n hx hb dX12_lowest_6 rfl (lv_at hl 1 rfl) ?_
    refine lv_lneg hx hb dX12_lowest_7 ?_
    refine lv_goto (tgt := 12) hx hb dX12_lowest_8 (by decide) ?_
    refine lv_topl (fun y1 ey1 => ?_)
    replace h := lt_e h ey1
    refine lv_lstore (lv' := [(5, .long y1), (0, .ref (ad 0)), (1, .long x1), (3, .long x3)]) hx hb dX12_lowest_12 hl (by decide) rfl (fun ls hl => ?_)
    refine lv_lload_n hx hb dX12_lowest_14 rfl (lv_at hl 3 rfl) ?_
    refine lv_lstore (lv' := [(7, .long x3), (5, .long y1), (0, .ref (ad 0)), (1, .long x1), (3, .long x3)]) hx hb dX12_lowest_15 hl (by decide) rfl (fun ls hl => ?_)
    exact C17 fu _ _ _ _ _ h _ _ I ls (lv_sub hl [2, 3, 4, 1, 0] rfl)
set_option maxHeartbeats 4000000 in
set_option maxRecDepth 100000 in
theorem c_S_power (l : Launch) (G : g_G) (OK : EOk G.2.2) (fu : Nat) (x0 : Int64) (x2 : Int32) (r : Int64) (h : f_S_power fu x0 x2 = some r) : HL l G yX12_power (Cond.code yX12_power cX12_power 6 (some .long) :: gT) { frames := 0, cells := 0, slots := 0, locals := 0 } [.long x0, .int x2] [] r [] := by
  refine HL.mk (lv := [(0, .long x0), (2, .int x2)]) OK (by decide) (Nat.le_of_ble_eq_true rfl) rfl ?_
  intro p e s0 m args below meth c ls XX hr I hl
  have hx := XX.x
  have hb := XX.b
  have C5 : ∀ n : Nat, ∀ (v0 : Int64) (v2 : Int32) (v3 : Int64) (v5 : Int32), f_S_power_L5 fu n v0 v2 v3 v5 = some r → ∀ (H : Heap) (locs : List Loc), Iv G (va_A [] s0.heap.size) s0 H locs [] → ∀ ls, lv_has ls 6 [(0, .long v0), (2, .int v2), (3, .long v3), (5, .int v5)] → W p l e { frames := 0, cells := 0, slots := 0, locals := 0 } s0 m args below meth c H locs 0 0 (QL G below r [] [] args s0) (F0 m 5 ls []) := by
    intro n
    induction n with
    | zero => intro v0 v2 v3 v5 h; exact absurd h (fun q => by cases q)
    | succ n ih =>
      intro v0 v2 v3 v5 h H locs I ls hl
      rw [f_S_power_L5] at h
      refine lv_iload hx hb dX12_power_5 (lv_at hl 3 rfl) ?_
      refine lv_iload_n hx hb dX12_power_7 rfl (lv_at hl 1 rfl) ?_
      refine lv_icmp_ge (tgt := 21) hx hb dX12_power_8 (by decide) (fun c1 => ?_) (fun c1 => ?_)
      · replace h := if_t h c1
        refine lv_lload_n hx hb dX12_power_21 rfl (lv_at hl 2 rfl) ?_
        obtain rfl := some1 h
        exact e_l XX hr I rfl dX12_power_22
      · replace h := if_f h c1
        refine lv_lload_n hx hb dX12_power_11 rfl (lv_at hl 2 rfl) ?_
        refine lv_lload_n hx hb dX12_power_12 rfl (lv_at hl 0 rfl) ?_
        refine lv_lmul hx hb dX12_power_13 ?_
        refine lv_topl (fun y1 ey1 => ?_)
        replace h := lt_e h ey1
        refine lv_lstore_n (lv' := [(3, .long y1), (0, .long v0), (2, .int v2), (5, .int v5)]) hx hb dX12_power_14 rfl hl (by decide) rfl (fun ls hl => ?_)
        obtain ⟨y2, ey2⟩ : ∃ z : Int32, z = v5 + (1 : Int32) := ⟨_, rfl⟩
        replace h := lt_e h ey2
        refine lv_iinc (v := y2) (lv' := [(5, .int y2), (3, .long y1), (0, .long v0), (2, .int v2)]) hx hb dX12_power_15 hl (k := 3) rfl (by rw [ey2]; rfl) (by decide) rfl (fun ls hl => ?_)
        refine lv_goto (tgt := 5) hx hb dX12_power_18 (by decide) ?_
        exact ih _ _ _ _ h _ _ I ls (lv_sub hl [2, 3, 1, 0] rfl)
  unfold f_S_power at h
  refine lv_lconst (v := 1) hx hb dX12_power_0 (by decide) ?_
  refine lv_lstore_n (lv' := [(3, .long (1 : Int64)), (0, .long x0), (2, .int x2)]) hx hb dX12_power_1 rfl hl (by decide) rfl (fun ls hl => ?_)
  refine lv_iconst (v := 0) hx hb dX12_power_2 (by decide) ?_
  refine lv_istore (lv' := [(5, .int (0 : Int32)), (3, .long (1 : Int64)), (0, .long x0), (2, .int x2)]) hx hb dX12_power_3 hl (by decide) rfl (fun ls hl => ?_)
  exact C5 fu _ _ _ _ h _ _ I ls (lv_sub hl [2, 3, 1, 0] rfl)
set_option maxHeartbeats 4000000 in
set_option maxRecDepth 100000 in
theorem c_M_spoiledIn (l : Launch) (G : g_G) (OK : EOk G.2.2) (ad : Nat → Nat) (fu : Nat) (sa : g_St) (x1 : Int32) (r : Int32) (h : f_M_spoiledIn fu sa x1 = some r) : HI l G yX12_spoiledIn (Cond.code yX12_spoiledIn cX12_spoiledIn 4 (some .int) :: gT) { frames := 1, cells := 0, slots := 0, locals := 22 } .int [.ref (ad 0), .int x1] (wM G ad sa) r (wM G ad sa) := by
  refine HI.mk (lv := [(0, .ref (ad 0)), (1, .int x1)]) OK (by decide) (Nat.le_of_ble_eq_true rfl) rfl ?_
  intro p e s0 m args below meth c ls XX hr I hl
  have hx := XX.x
  have hb := XX.b
  have C4 : ∀ n : Nat, ∀ (v1 : Int32) (v2 : Int32) (v3 : Int32), f_M_spoiledIn_L4 fu n sa v1 v2 v3 = some r → ∀ (H : Heap) (locs : List Loc), Iv G (va_A (wM G ad sa) s0.heap.size) s0 H locs (wM G ad sa) → ∀ ls, lv_has ls 4 [(0, .ref (ad 0)), (1, .int v1), (2, .int v2), (3, .int v3)] → W p l e { frames := 1, cells := 0, slots := 0, locals := 22 } s0 m args below meth c H locs 0 0 (QI G below .int r (wM G ad sa) (wM G ad sa) args s0) (F0 m 4 ls []) := by
    intro n
    induction n with
    | zero => intro v1 v2 v3 h; exact absurd h (fun q => by cases q)
    | succ n ih =>
      intro v1 v2 v3 h H locs I ls hl
      rw [f_M_spoiledIn_L4] at h
      refine lv_iload_n hx hb dX12_spoiledIn_4 rfl (lv_at hl 3 rfl) ?_
      refine lv_aload_n hx hb dX12_spoiledIn_5 rfl (lv_at hl 0 rfl) ?_
      refine gM_people XX I dX12_spoiledIn_6 ?_
      refine lv_icmp_ge (tgt := 35) hx hb dX12_spoiledIn_9 (by decide) (fun c1 => ?_) (fun c1 => ?_)
      · replace h := if_t h c1
        refine lv_aload_n hx hb dX12_spoiledIn_35 rfl (lv_at hl 0 rfl) ?_
        refine gM_people XX I dX12_spoiledIn_36 ?_
        refine lv_if_le (tgt := 56) hx hb dX12_spoiledIn_39 (by decide) (fun c1 => ?_) (fun c1 => ?_)
        · replace h := if_t h c1
          refine lv_iconst (v := 0) hx hb dX12_spoiledIn_56 (by decide) ?_
          obtain rfl := some1 h
          exact e_i rfl XX hr I rfl dX12_spoiledIn_57
        · replace h := if_f h c1
          refine lv_iload_n hx hb dX12_spoiledIn_42 rfl (lv_at hl 2 rfl) ?_
          refine lv_aload_n hx hb dX12_spoiledIn_43 rfl (lv_at hl 0 rfl) ?_
          refine gM_people XX I dX12_spoiledIn_44 ?_
          refine lv_iconst (v := 1) hx hb dX12_spoiledIn_47 (by decide) ?_
          refine lv_isub hx hb dX12_spoiledIn_48 ?_
          refine lv_icmp_ne (tgt := 56) hx hb dX12_spoiledIn_49 (by decide) (fun c1 => ?_) (fun c1 => ?_)
          · replace h := if_f h c1
            refine lv_iconst (v := 0) hx hb dX12_spoiledIn_56 (by decide) ?_
            obtain rfl := some1 h
            exact e_i rfl XX hr I rfl dX12_spoiledIn_57
          · replace h := if_t h c1
            refine lv_iconst (v := 1) hx hb dX12_spoiledIn_52 (by decide) ?_
            refine lv_goto (tgt := 57) hx hb dX12_spoiledIn_53 (by decide) ?_
            obtain rfl := some1 h
            exact e_i rfl XX hr I rfl dX12_spoiledIn_57
      · replace h := if_f h c1
        refine lv_iload_n hx hb dX12_spoiledIn_12 rfl (lv_at hl 2 rfl) ?_
        refine lv_aload_n hx hb dX12_spoiledIn_13 rfl (lv_at hl 0 rfl) ?_
        refine lv_iload_n hx hb dX12_spoiledIn_14 rfl (lv_at hl 1 rfl) ?_
        refine lv_iload_n hx hb dX12_spoiledIn_15 rfl (lv_at hl 3 rfl) ?_
        obtain ⟨r1, q2, h⟩ := bd1_some h
        refine wcall_i (rest := [.int v2]) XX I hl.1 (c_M_worthTo l G OK ad sa v1 v3 r1 q2) kV_X12_244 (Rc.mk XX I (q0 := 0) (ci := 12) wM_o rfl) rfl rfl (Nat.le_of_ble_eq_true rfl) ⟨rfl, rfl, Nat.le_of_ble_eq_true rfl, Nat.le_of_ble_eq_true rfl⟩ ⟨Nat.zero_le _, Nat.zero_le _⟩ dX12_spoiledIn_16 (fun H locs hz3 I => ?_)
        refine lv_if_le (tgt := 26) hx hb dX12_spoiledIn_19 (by decide) (fun c1 => ?_) (fun c1 => ?_)
        · replace h := if_t h c1
          refine lv_iconst (v := 0) hx hb dX12_spoiledIn_26 (by decide) ?_
          refine lv_iadd hx hb dX12_spoiledIn_27 ?_
          refine lv_topi (fun y4 ey4 => ?_)
          replace h := lt_e h ey4
          refine lv_istore_n (lv' := [(2, .int y4), (0, .ref (ad 0)), (1, .int v1), (3, .int v3)]) hx hb dX12_spoiledIn_28 rfl hl (by decide) rfl (fun ls hl => ?_)
          obtain ⟨y5, ey5⟩ : ∃ z : Int32, z = v3 + (1 : Int32) := ⟨_, rfl⟩
          replace h := lt_e h ey5
          refine lv_iinc (v := y5) (lv' := [(3, .int y5), (2, .int y4), (0, .ref (ad 0)), (1, .int v1)]) hx hb dX12_spoiledIn_29 hl (k := 3) rfl (by rw [ey5]; rfl) (by decide) rfl (fun ls hl => ?_)
          refine lv_goto (tgt := 4) hx hb dX12_spoiledIn_32 (by decide) ?_
          exact ih _ _ _ h _ _ I ls (lv_sub hl [2, 3, 1, 0] rfl)
        · replace h := if_f h c1
          refine lv_iconst (v := 1) hx hb dX12_spoiledIn_22 (by decide) ?_
          refine lv_goto (tgt := 27) hx hb dX12_spoiledIn_23 (by decide) ?_
          refine lv_iadd hx hb dX12_spoiledIn_27 ?_
          refine lv_topi (fun y6 ey6 => ?_)
          replace h := lt_e h ey6
          refine lv_istore_n (lv' := [(2, .int y6), (0, .ref (ad 0)), (1, .int v1), (3, .int v3)]) hx hb dX12_spoiledIn_28 rfl hl (by decide) rfl (fun ls hl => ?_)
          obtain ⟨y7, ey7⟩ : ∃ z : Int32, z = v3 + (1 : Int32) := ⟨_, rfl⟩
          replace h := lt_e h ey7
          refine lv_iinc (v := y7) (lv' := [(3, .int y7), (2, .int y6), (0, .ref (ad 0)), (1, .int v1)]) hx hb dX12_spoiledIn_29 hl (k := 3) rfl (by rw [ey7]; rfl) (by decide) rfl (fun ls hl => ?_)
          refine lv_goto (tgt := 4) hx hb dX12_spoiledIn_32 (by decide) ?_
          exact ih _ _ _ h _ _ I ls (lv_sub hl [2, 3, 1, 0] rfl)
  unfold f_M_spoiledIn at h
  refine lv_iconst (v := 0) hx hb dX12_spoiledIn_0 (by decide) ?_
  refine lv_istore_n (lv' := [(2, .int (0 : Int32)), (0, .ref (ad 0)), (1, .int x1)]) hx hb dX12_spoiledIn_1 rfl hl (by decide) rfl (fun ls hl => ?_)
  refine lv_iconst (v := 0) hx hb dX12_spoiledIn_2 (by decide) ?_
  refine lv_istore_n (lv' := [(3, .int (0 : Int32)), (2, .int (0 : Int32)), (0, .ref (ad 0)), (1, .int x1)]) hx hb dX12_spoiledIn_3 rfl hl (by decide) rfl (fun ls hl => ?_)
  exact C4 fu _ _ _ h _ _ I ls (lv_sub hl [2, 3, 1, 0] rfl)
theorem kV_X12_297 : KV RX12 297 RX12 yX12_spoiledIn cX12_spoiledIn 4 (some .int) 1 := KV.mk wd_1366 wd_1368 wd_1639 wd_13 wd_1369 (by decide +kernel)
set_option maxHeartbeats 4000000 in
set_option maxRecDepth 100000 in
theorem c_M_brings (l : Launch) (G : g_G) (OK : EOk G.2.2) (ad : Nat → Nat) (fu : Nat) (sa : g_St) (x1 : Int32) (x2 : Int32) (x3 : Int32) (r : Int32) (h : f_M_brings fu sa x1 x2 x3 = some r) : HI l G yX12_brings (Cond.code yX12_brings cX12_brings 6 (some .int) :: gT) { frames := 2, cells := 0, slots := 0, locals := 45 } .int [.ref (ad 0), .int x1, .int x2, .int x3] (wM G ad sa) r (wM G ad sa) := by
  refine HI.mk (lv := [(0, .ref (ad 0)), (1, .int x1), (2, .int x2), (3, .int x3)]) OK (by decide) (Nat.le_of_ble_eq_true rfl) rfl ?_
  intro p e s0 m args below meth c ls XX hr I hl
  have hx := XX.x
  have hb := XX.b
  have C52 : ∀ (k26 : g_St → Int32 → Int32 → Int32 → Int32 → Int32 → Option (Int32)), (∀ (v1 : Int32) (v2 : Int32) (v3 : Int32) (v4 : Int32) (v5 : Int32), k26 sa v1 v2 v3 v4 v5 = some r → ∀ (H : Heap) (locs : List Loc), Iv G (va_A (wM G ad sa) s0.heap.size) s0 H locs (wM G ad sa) → ∀ ls, lv_has ls 6 [(0, .ref (ad 0)), (1, .int v1), (2, .int v2), (3, .int v3), (4, .int v4), (5, .int v5)] → W p l e { frames := 2, cells := 0, slots := 0, locals := 45 } s0 m args below meth c H locs 0 0 (QI G below .int r (wM G ad sa) (wM G ad sa) args s0) (F0 m 26 ls [])) → ∀ (v1 : Int32) (v2 : Int32) (v3 : Int32) (v5 : Int32) (z0 : Int32), f_M_brings_L52 fu k26 sa v1 v2 v3 v5 z0 = some r → ∀ (H : Heap) (locs : List Loc), Iv G (va_A (wM G ad sa) s0.heap.size) s0 H locs (wM G ad sa) → ∀ ls, lv_has ls 6 [(0, .ref (ad 0)), (1, .int v1), (2, .int v2), (3, .int v3), (5, .int v5)] → W p l e { frames := 2, cells := 0, slots := 0, locals := 45 } s0 m args below meth c H locs 0 0 (QI G below .int r (wM G ad sa) (wM G ad sa) args s0) (F0 m 52 ls [.int z0]) := by
    intro k26 hk26
    intro v1 v2 v3 v5 z0 h H locs I ls hl
    unfold f_M_brings_L52 at h
    refine lv_aload_n hx hb dX12_brings_52 rfl (lv_at hl 0 rfl) ?_
    refine lv_iload_n hx hb dX12_brings_53 rfl (lv_at hl 1 rfl) ?_
    refine lv_iload hx hb dX12_brings_54 (lv_at hl 4 rfl) ?_
    obtain ⟨r6, q7, h⟩ := bd1_some h
    refine wcall_i (rest := [.int z0]) XX I hl.1 (c_M_worthTo l G OK ad sa v1 v5 r6 q7) kV_X12_244 (Rc.mk XX I (q0 := 0) (ci := 12) wM_o rfl) rfl rfl (Nat.le_of_ble_eq_true rfl) ⟨rfl, rfl, Nat.le_of_ble_eq_true rfl, Nat.le_of_ble_eq_true rfl⟩ ⟨Nat.zero_le _, Nat.zero_le _⟩ dX12_brings_56 (fun H locs hz8 I => ?_)
    refine lv_goto (tgt := 63) hx hb dX12_brings_59 (by decide) ?_
    refine lv_iadd hx hb dX12_brings_63 ?_
    refine lv_topi (fun y9 ey9 => ?_)
    replace h := lt_e h ey9
    refine lv_istore (lv' := [(4, .int y9), (0, .ref (ad 0)), (1, .int v1), (2, .int v2), (3, .int v3), (5, .int v5)]) hx hb dX12_brings_64 hl (by decide) rfl (fun ls hl => ?_)
    obtain ⟨y10, ey10⟩ : ∃ z : Int32, z = v5 + (1 : Int32) := ⟨_, rfl⟩
    replace h := lt_e h ey10
    refine lv_iinc (v := y10) (lv' := [(5, .int y10), (4, .int y9), (0, .ref (ad 0)), (1, .int v1), (2, .int v2), (3, .int v3)]) hx hb dX12_brings_66 hl (k := 5) rfl (by rw [ey10]; rfl) (by decide) rfl (fun ls hl => ?_)
    refine lv_goto (tgt := 26) hx hb dX12_brings_69 (by decide) ?_
    exact hk26 _ _ _ _ _ h _ _ I ls (lv_sub hl [2, 3, 4, 5, 1, 0] rfl)
  have C26 : ∀ n : Nat, ∀ (v1 : Int32) (v2 : Int32) (v3 : Int32) (v4 : Int32) (v5 : Int32), f_M_brings_L26 fu n sa v1 v2 v3 v4 v5 = some r → ∀ (H : Heap) (locs : List Loc), Iv G (va_A (wM G ad sa) s0.heap.size) s0 H locs (wM G ad sa) → ∀ ls, lv_has ls 6 [(0, .ref (ad 0)), (1, .int v1), (2, .int v2), (3, .int v3), (4, .int v4), (5, .int v5)] → W p l e { frames := 2, cells := 0, slots := 0, locals := 45 } s0 m args below meth c H locs 0 0 (QI G below .int r (wM G ad sa) (wM G ad sa) args s0) (F0 m 26 ls []) := by
    intro n
    induction n with
    | zero => intro v1 v2 v3 v4 v5 h; exact absurd h (fun q => by cases q)
    | succ n ih =>
      intro v1 v2 v3 v4 v5 h H locs I ls hl
      rw [f_M_brings_L26] at h
      refine lv_iload hx hb dX12_brings_26 (lv_at hl 5 rfl) ?_
      refine lv_aload_n hx hb dX12_brings_28 rfl (lv_at hl 0 rfl) ?_
      refine gM_people XX I dX12_brings_29 ?_
      refine lv_icmp_ge (tgt := 72) hx hb dX12_brings_32 (by decide) (fun c1 => ?_) (fun c1 => ?_)
      · replace h := if_t h c1
        refine lv_iload hx hb dX12_brings_72 (lv_at hl 4 rfl) ?_
        obtain rfl := some1 h
        exact e_i rfl XX hr I rfl dX12_brings_74
      · replace h := if_f h c1
        refine lv_iload_n hx hb dX12_brings_35 rfl (lv_at hl 2 rfl) ?_
        refine lv_if_ne (tgt := 72) hx hb dX12_brings_36 (by decide) (fun c1 => ?_) (fun c1 => ?_)
        · replace h := if_f h c1
          refine lv_iload hx hb dX12_brings_72 (lv_at hl 4 rfl) ?_
          obtain rfl := some1 h
          exact e_i rfl XX hr I rfl dX12_brings_74
        · replace h := if_t h c1
          refine lv_iload hx hb dX12_brings_39 (lv_at hl 4 rfl) ?_
          refine lv_iload_n hx hb dX12_brings_41 rfl (lv_at hl 3 rfl) ?_
          refine lv_iconst (v := (-1)) hx hb dX12_brings_42 (by decide) ?_
          refine lv_icmp_eq (tgt := 52) hx hb dX12_brings_43 (by decide) (fun c1 => ?_) (fun c1 => ?_)
          · replace h := if_t h c1
            exact C52 (f_M_brings_L26 fu n) ih _ _ _ _ _ h _ _ I ls (lv_sub hl [0, 1, 2, 3, 5] rfl)
          · replace h := if_f h c1
            refine lv_iload_n hx hb dX12_brings_46 rfl (lv_at hl 3 rfl) ?_
            refine lv_iload hx hb dX12_brings_47 (lv_at hl 5 rfl) ?_
            refine lv_icmp_ne (tgt := 62) hx hb dX12_brings_49 (by decide) (fun c1 => ?_) (fun c1 => ?_)
            · replace h := if_f h c1
              refine lv_iconst (v := 0) hx hb dX12_brings_62 (by decide) ?_
              refine lv_iadd hx hb dX12_brings_63 ?_
              refine lv_topi (fun y4 ey4 => ?_)
              replace h := lt_e h ey4
              refine lv_istore (lv' := [(4, .int y4), (0, .ref (ad 0)), (1, .int v1), (2, .int v2), (3, .int v3), (5, .int v5)]) hx hb dX12_brings_64 hl (by decide) rfl (fun ls hl => ?_)
              obtain ⟨y5, ey5⟩ : ∃ z : Int32, z = v5 + (1 : Int32) := ⟨_, rfl⟩
              replace h := lt_e h ey5
              refine lv_iinc (v := y5) (lv' := [(5, .int y5), (4, .int y4), (0, .ref (ad 0)), (1, .int v1), (2, .int v2), (3, .int v3)]) hx hb dX12_brings_66 hl (k := 5) rfl (by rw [ey5]; rfl) (by decide) rfl (fun ls hl => ?_)
              refine lv_goto (tgt := 26) hx hb dX12_brings_69 (by decide) ?_
              exact ih _ _ _ _ _ h _ _ I ls (lv_sub hl [2, 3, 4, 5, 1, 0] rfl)
            · replace h := if_t h c1
              exact C52 (f_M_brings_L26 fu n) ih _ _ _ _ _ h _ _ I ls (lv_sub hl [0, 1, 2, 3, 5] rfl)
  unfold f_M_brings at h
  refine lv_iload_n hx hb dX12_brings_0 rfl (lv_at hl 3 rfl) ?_
  refine lv_bipush (v := (-2)) hx hb dX12_brings_1 (by decide) ?_
  refine lv_icmp_ne (tgt := 20) hx hb dX12_brings_3 (by decide) (fun c1 => ?_) (fun c1 => ?_)
  · replace h := if_f h c1
    refine lv_iconst (v := 0) hx hb dX12_brings_20 (by decide) ?_
    refine lv_istore (lv' := [(4, .int (0 : Int32)), (0, .ref (ad 0)), (1, .int x1), (2, .int x2), (3, .int x3)]) hx hb dX12_brings_21 hl (by decide) rfl (fun ls hl => ?_)
    refine lv_iconst (v := 0) hx hb dX12_brings_23 (by decide) ?_
    refine lv_istore (lv' := [(5, .int (0 : Int32)), (4, .int (0 : Int32)), (0, .ref (ad 0)), (1, .int x1), (2, .int x2), (3, .int x3)]) hx hb dX12_brings_24 hl (by decide) rfl (fun ls hl => ?_)
    exact C26 fu _ _ _ _ _ h _ _ I ls (lv_sub hl [2, 3, 4, 5, 1, 0] rfl)
  · replace h := if_t h c1
    refine lv_iload_n hx hb dX12_brings_6 rfl (lv_at hl 2 rfl) ?_
    refine lv_if_eq (tgt := 18) hx hb dX12_brings_7 (by decide) (fun c1 => ?_) (fun c1 => ?_)
    · replace h := if_t h c1
      refine lv_iconst (v := 0) hx hb dX12_brings_18 (by decide) ?_
      obtain rfl := some1 h
      exact e_i rfl XX hr I rfl dX12_brings_19
    · replace h := if_f h c1
      refine lv_aload_n hx hb dX12_brings_10 rfl (lv_at hl 0 rfl) ?_
      refine lv_iload_n hx hb dX12_brings_11 rfl (lv_at hl 1 rfl) ?_
      obtain ⟨r1, q2, h⟩ := bd1_some h
      refine wcall_i (rest := []) XX I hl.1 (c_M_spoiledIn l G OK ad fu sa x1 r1 q2) kV_X12_297 (Rc.mk XX I (q0 := 0) (ci := 12) wM_o rfl) rfl rfl (Nat.le_of_ble_eq_true rfl) ⟨rfl, rfl, Nat.le_of_ble_eq_true rfl, Nat.le_of_ble_eq_true rfl⟩ ⟨Nat.zero_le _, Nat.zero_le _⟩ dX12_brings_12 (fun H locs hz3 I => ?_)
      refine lv_goto (tgt := 19) hx hb dX12_brings_15 (by decide) ?_
      obtain rfl := some1 h
      exact e_i rfl XX hr I rfl dX12_brings_19
theorem kV_X12_300 : KV RX12 300 RX12 yX12_brings cX12_brings 6 (some .int) 3 := KV.mk wd_1362 wd_1364 wd_1638 wd_13 wd_1365 (by decide +kernel)
set_option maxHeartbeats 4000000 in
set_option maxRecDepth 100000 in
theorem c_M_valueOf (l : Launch) (G : g_G) (OK : EOk G.2.2) (ad : Nat → Nat) (fu : Nat) (sa : g_St) (x1 : Int32) (x2 : Int32) (r : Int64) (ts : g_St) (h : f_M_valueOf fu sa x1 x2 = some (r, ts)) : HL l G yX12_valueOf (Cond.code yX12_valueOf cX12_valueOf 14 (some .long) :: gT) { frames := 6, cells := 0, slots := 0, locals := 151 } [.ref (ad 0), .int x1, .int x2] (wM G ad sa) r (wM G ad ts) := by
  refine HL.mk (lv := [(0, .ref (ad 0)), (1, .int x1), (2, .int x2)]) OK (by decide) (Nat.le_of_ble_eq_true rfl) rfl ?_
  intro p e s0 m args below meth c ls XX hr I hl
  have hx := XX.x
  have hb := XX.b
  have C98 : ∀ (k30 : g_St → Int32 → Int32 → Int32 → Int64 → Int32 → Option (Int64 × g_St)), (∀ (s : g_St) (v1 : Int32) (v2 : Int32) (v3 : Int32) (v4 : Int64) (v6 : Int32), k30 s v1 v2 v3 v4 v6 = some (r, ts) → ∀ (H : Heap) (locs : List Loc), Iv G (va_A (wM G ad sa) s0.heap.size) s0 H locs (wM G ad s) → ∀ ls, lv_has ls 14 [(0, .ref (ad 0)), (1, .int v1), (2, .int v2), (3, .int v3), (4, .long v4), (6, .int v6)] → W p l e { frames := 6, cells := 0, slots := 0, locals := 151 } s0 m args below meth c H locs 0 0 (QL G below r (wM G ad sa) (wM G ad ts) args s0) (F0 m 30 ls [])) → ∀ (k49 : g_St → Int32 → Int32 → Int32 → Int64 → Int32 → Int32 → Int64 → Int32 → Int32 → Option (Int64 × g_St)), (∀ (s : g_St) (v1 : Int32) (v2 : Int32) (v3 : Int32) (v4 : Int64) (v6 : Int32) (v7 : Int32) (v8 : Int64) (v10 : Int32) (v11 : Int32), k49 s v1 v2 v3 v4 v6 v7 v8 v10 v11 = some (r, ts) → ∀ (H : Heap) (locs : List Loc), Iv G (va_A (wM G ad sa) s0.heap.size) s0 H locs (wM G ad s) → ∀ ls, lv_has ls 14 [(0, .ref (ad 0)), (1, .int v1), (2, .int v2), (3, .int v3), (4, .long v4), (6, .int v6), (7, .int v7), (8, .long v8), (10, .int v10), (11, .int v11)] → W p l e { frames := 6, cells := 0, slots := 0, locals := 151 } s0 m args below meth c H locs 0 0 (QL G below r (wM G ad sa) (wM G ad ts) args s0) (F0 m 49 ls [])) → ∀ (s : g_St) (v1 : Int32) (v2 : Int32) (v3 : Int32) (v4 : Int64) (v6 : Int32) (v7 : Int32) (v8 : Int64) (v10 : Int32) (v11 : Int32) (v12 : Int32) (z0 : Int32), f_M_valueOf_L98 fu k30 k49 s v1 v2 v3 v4 v6 v7 v8 v10 v11 v12 z0 = some (r, ts) → ∀ (H : Heap) (locs : List Loc), Iv G (va_A (wM G ad sa) s0.heap.size) s0 H locs (wM G ad s) → ∀ ls, lv_has ls 14 [(0, .ref (ad 0)), (1, .int v1), (2, .int v2), (3, .int v3), (4, .long v4), (6, .int v6), (7, .int v7), (8, .long v8), (10, .int v10), (11, .int v11), (12, .int v12)] → W p l e { frames := 6, cells := 0, slots := 0, locals := 151 } s0 m args below meth c H locs 0 0 (QL G below r (wM G ad sa) (wM G ad ts) args s0) (F0 m 98 ls [.int z0, .ref (ad 0)]) := by
    intro k30 hk30 k49 hk49
    intro s v1 v2 v3 v4 v6 v7 v8 v10 v11 v12 z0 h H locs I ls hl
    unfold f_M_valueOf_L98 at h
    refine lv_bipush (v := 7) hx hb dX12_valueOf_98 (by decide) ?_
    refine lv_iload hx hb dX12_valueOf_100 (lv_at hl 10 rfl) ?_
    obtain ⟨r11, s12, q13, h⟩ := bd2_some h
    refine wcall_i (rest := []) XX I hl.1 (c_M_goes l G OK ad fu s z0 (7 : Int32) v12 r11 s12 q13) kV_X12_274 (Rc.mk XX I (q0 := 0) (ci := 12) wM_o rfl) rfl rfl (Nat.le_of_ble_eq_true rfl) ⟨rfl, rfl, Nat.le_of_ble_eq_true rfl, Nat.le_of_ble_eq_true rfl⟩ ⟨Nat.zero_le _, Nat.zero_le _⟩ dX12_valueOf_102 (fun H locs hz14 I => ?_)
    refine lv_istore (lv' := [(13, .int r11), (0, .ref (ad 0)), (1, .int v1), (2, .int v2), (3, .int v3), (4, .long v4), (6, .int v6), (7, .int v7), (8, .long v8), (10, .int v10), (11, .int v11), (12, .int v12)]) hx hb dX12_valueOf_105 hl (by decide) rfl (fun ls hl => ?_)
    refine lv_iload hx hb dX12_valueOf_107 (lv_at hl 9 rfl) ?_
    refine lv_aload_n hx hb dX12_valueOf_109 rfl (lv_at hl 1 rfl) ?_
    refine lv_iload hx hb dX12_valueOf_110 (lv_at hl 11 rfl) ?_
    refine lv_iload hx hb dX12_valueOf_112 (lv_at hl 0 rfl) ?_
    refine lv_iload_n hx hb dX12_valueOf_114 rfl (lv_at hl 2 rfl) ?_
    obtain ⟨r15, q16, h⟩ := bd1_some h
    refine wcall_i (rest := [.int v10]) XX I hl.1 (c_M_brings l G OK ad fu s12 v12 r11 v1 r15 q16) kV_X12_300 (Rc.mk XX I (q0 := 0) (ci := 12) wM_o rfl) rfl rfl (Nat.le_of_ble_eq_true rfl) ⟨rfl, rfl, Nat.le_of_ble_eq_true rfl, Nat.le_of_ble_eq_true rfl⟩ ⟨Nat.zero_le _, Nat.zero_le _⟩ dX12_valueOf_115 (fun H locs hz17 I => ?_)
    refine lv_iadd hx hb dX12_valueOf_118 ?_
    refine lv_topi (fun y18 ey18 => ?_)
    replace h := lt_e h ey18
    refine lv_istore (lv' := [(10, .int y18), (13, .int r11), (0, .ref (ad 0)), (1, .int v1), (2, .int v2), (3, .int v3), (4, .long v4), (6, .int v6), (7, .int v7), (8, .long v8), (11, .int v11), (12, .int v12)]) hx hb dX12_valueOf_119 hl (by decide) rfl (fun ls hl => ?_)
    obtain ⟨y19, ey19⟩ : ∃ z : Int32, z = v11 + (1 : Int32) := ⟨_, rfl⟩
    replace h := lt_e h ey19
    refine lv_iinc (v := y19) (lv' := [(11, .int y19), (10, .int y18), (13, .int r11), (0, .ref (ad 0)), (1, .int v1), (2, .int v2), (3, .int v3), (4, .long v4), (6, .int v6), (7, .int v7), (8, .long v8), (12, .int v12)]) hx hb dX12_valueOf_121 hl (k := 10) rfl (by rw [ey19]; rfl) (by decide) rfl (fun ls hl => ?_)
    refine lv_goto (tgt := 49) hx hb dX12_valueOf_124 (by decide) ?_
    exact hk49 _ _ _ _ _ _ _ _ _ _ h _ _ I ls (lv_sub hl [3, 4, 5, 6, 7, 8, 9, 10, 1, 0] rfl)
  have C49 : ∀ (k30 : g_St → Int32 → Int32 → Int32 → Int64 → Int32 → Option (Int64 × g_St)), (∀ (s : g_St) (v1 : Int32) (v2 : Int32) (v3 : Int32) (v4 : Int64) (v6 : Int32), k30 s v1 v2 v3 v4 v6 = some (r, ts) → ∀ (H : Heap) (locs : List Loc), Iv G (va_A (wM G ad sa) s0.heap.size) s0 H locs (wM G ad s) → ∀ ls, lv_has ls 14 [(0, .ref (ad 0)), (1, .int v1), (2, .int v2), (3, .int v3), (4, .long v4), (6, .int v6)] → W p l e { frames := 6, cells := 0, slots := 0, locals := 151 } s0 m args below meth c H locs 0 0 (QL G below r (wM G ad sa) (wM G ad ts) args s0) (F0 m 30 ls [])) → ∀ n : Nat, ∀ (s : g_St) (v1 : Int32) (v2 : Int32) (v3 : Int32) (v4 : Int64) (v6 : Int32) (v7 : Int32) (v8 : Int64) (v10 : Int32) (v11 : Int32), f_M_valueOf_L49 fu k30 n s v1 v2 v3 v4 v6 v7 v8 v10 v11 = some (r, ts) → ∀ (H : Heap) (locs : List Loc), Iv G (va_A (wM G ad sa) s0.heap.size) s0 H locs (wM G ad s) → ∀ ls, lv_has ls 14 [(0, .ref (ad 0)), (1, .int v1), (2, .int v2), (3, .int v3), (4, .long v4), (6, .int v6), (7, .int v7), (8, .long v8), (10, .int v10), (11, .int v11)] → W p l e { frames := 6, cells := 0, slots := 0, locals := 151 } s0 m args below meth c H locs 0 0 (QL G below r (wM G ad sa) (wM G ad ts) args s0) (F0 m 49 ls []) := by
    intro k30 hk30 n
    induction n with
    | zero => intro s v1 v2 v3 v4 v6 v7 v8 v10 v11 h; exact absurd h (fun q => by cases q)
    | succ n ih =>
      intro s v1 v2 v3 v4 v6 v7 v8 v10 v11 h H locs I ls hl
      rw [f_M_valueOf_L49] at h
      refine lv_iload hx hb dX12_valueOf_49 (lv_at hl 9 rfl) ?_
      refine lv_iload_n hx hb dX12_valueOf_51 rfl (lv_at hl 2 rfl) ?_
      refine lv_icmp_ge (tgt := 127) hx hb dX12_valueOf_52 (by decide) (fun c1 => ?_) (fun c1 => ?_)
      · replace h := if_t h c1
        refine lv_lload hx hb dX12_valueOf_127 (lv_at hl 4 rfl) ?_
        refine lv_lload hx hb dX12_valueOf_129 (lv_at hl 7 rfl) ?_
        refine lv_iload hx hb dX12_valueOf_131 (lv_at hl 8 rfl) ?_
        refine lv_i2l hx hb dX12_valueOf_133 rfl ?_
        refine lv_lmul hx hb dX12_valueOf_134 ?_
        refine lv_ladd hx hb dX12_valueOf_135 ?_
        refine lv_topl (fun y3 ey3 => ?_)
        replace h := lt_e h ey3
        refine lv_lstore (lv' := [(4, .long y3), (0, .ref (ad 0)), (1, .int v1), (2, .int v2), (3, .int v3), (6, .int v6), (7, .int v7), (8, .long v8), (10, .int v10), (11, .int v11)]) hx hb dX12_valueOf_136 hl (by decide) rfl (fun ls hl => ?_)
        obtain ⟨y4, ey4⟩ : ∃ z : Int32, z = v6 + (1 : Int32) := ⟨_, rfl⟩
        replace h := lt_e h ey4
        refine lv_iinc (v := y4) (lv' := [(6, .int y4), (4, .long y3), (0, .ref (ad 0)), (1, .int v1), (2, .int v2), (3, .int v3), (7, .int v7), (8, .long v8), (10, .int v10), (11, .int v11)]) hx hb dX12_valueOf_138 hl (k := 5) rfl (by rw [ey4]; rfl) (by decide) rfl (fun ls hl => ?_)
        refine lv_goto (tgt := 30) hx hb dX12_valueOf_141 (by decide) ?_
        exact hk30 _ _ _ _ _ _ h _ _ I ls (lv_sub hl [2, 3, 4, 5, 1, 0] rfl)
      · replace h := if_f h c1
        refine lv_iload hx hb dX12_valueOf_55 (lv_at hl 6 rfl) ?_
        refine lv_aload_n hx hb dX12_valueOf_57 rfl (lv_at hl 0 rfl) ?_
        refine gM_proposals XX I dX12_valueOf_58 ?_
        obtain ⟨g5, h⟩ := gd_some h
        refine lv_irem hx hb dX12_valueOf_61 g5 ?_
        refine lv_topi (fun y6 ey6 => ?_)
        replace h := lt_e h ey6
        refine lv_istore (lv' := [(12, .int y6), (0, .ref (ad 0)), (1, .int v1), (2, .int v2), (3, .int v3), (4, .long v4), (6, .int v6), (7, .int v7), (8, .long v8), (10, .int v10), (11, .int v11)]) hx hb dX12_valueOf_62 hl (by decide) rfl (fun ls hl => ?_)
        refine lv_iload hx hb dX12_valueOf_64 (lv_at hl 7 rfl) ?_
        refine lv_aload_n hx hb dX12_valueOf_66 rfl (lv_at hl 1 rfl) ?_
        refine gM_proposals XX I dX12_valueOf_67 ?_
        obtain ⟨g7, h⟩ := gd_some h
        refine lv_idiv hx hb dX12_valueOf_70 g7 ?_
        refine lv_topi (fun y8 ey8 => ?_)
        replace h := lt_e h ey8
        refine lv_istore (lv' := [(7, .int y8), (12, .int y6), (0, .ref (ad 0)), (1, .int v1), (2, .int v2), (3, .int v3), (4, .long v4), (6, .int v6), (8, .long v8), (10, .int v10), (11, .int v11)]) hx hb dX12_valueOf_71 hl (by decide) rfl (fun ls hl => ?_)
        refine lv_lload hx hb dX12_valueOf_73 (lv_at hl 8 rfl) ?_
        refine lv_aload_n hx hb dX12_valueOf_75 rfl (lv_at hl 2 rfl) ?_
        refine gM_weight XX I dX12_valueOf_76 ?_
        refine lv_iload hx hb dX12_valueOf_79 (lv_at hl 1 rfl) ?_
        obtain ⟨g9, h⟩ := gd_some h
        refine r_iald XX I 5 (aM_weight) g9 dX12_valueOf_81 ?_
        refine lv_i2l hx hb dX12_valueOf_82 rfl ?_
        refine lv_lmul hx hb dX12_valueOf_83 ?_
        refine lv_topl (fun y10 ey10 => ?_)
        replace h := lt_e h ey10
        refine lv_lstore (lv' := [(8, .long y10), (7, .int y8), (12, .int y6), (0, .ref (ad 0)), (1, .int v1), (2, .int v2), (3, .int v3), (4, .long v4), (6, .int v6), (10, .int v10), (11, .int v11)]) hx hb dX12_valueOf_84 hl (by decide) rfl (fun ls hl => ?_)
        refine lv_aload_n hx hb dX12_valueOf_86 rfl (lv_at hl 3 rfl) ?_
        refine lv_iload hx hb dX12_valueOf_87 (lv_at hl 10 rfl) ?_
        refine lv_if_ne (tgt := 96) hx hb dX12_valueOf_89 (by decide) (fun c1 => ?_) (fun c1 => ?_)
        · replace h := if_f h c1
          refine lv_bipush (v := 7) hx hb dX12_valueOf_96 (by decide) ?_
          exact C98 k30 hk30 (f_M_valueOf_L49 fu k30 n) ih _ _ _ _ _ _ _ _ _ _ _ _ h _ _ I ls (lv_sub hl [3, 4, 5, 6, 7, 8, 1, 0, 9, 10, 2] rfl)
        · replace h := if_t h c1
          refine lv_iconst (v := 0) hx hb dX12_valueOf_92 (by decide) ?_
          refine lv_goto (tgt := 98) hx hb dX12_valueOf_93 (by decide) ?_
          exact C98 k30 hk30 (f_M_valueOf_L49 fu k30 n) ih _ _ _ _ _ _ _ _ _ _ _ _ h _ _ I ls (lv_sub hl [3, 4, 5, 6, 7, 8, 1, 0, 9, 10, 2] rfl)
  have C30 : ∀ n : Nat, ∀ (s : g_St) (v1 : Int32) (v2 : Int32) (v3 : Int32) (v4 : Int64) (v6 : Int32), f_M_valueOf_L30 fu n s v1 v2 v3 v4 v6 = some (r, ts) → ∀ (H : Heap) (locs : List Loc), Iv G (va_A (wM G ad sa) s0.heap.size) s0 H locs (wM G ad s) → ∀ ls, lv_has ls 14 [(0, .ref (ad 0)), (1, .int v1), (2, .int v2), (3, .int v3), (4, .long v4), (6, .int v6)] → W p l e { frames := 6, cells := 0, slots := 0, locals := 151 } s0 m args below meth c H locs 0 0 (QL G below r (wM G ad sa) (wM G ad ts) args s0) (F0 m 30 ls []) := by
    intro n
    induction n with
    | zero => intro s v1 v2 v3 v4 v6 h; exact absurd h (fun q => by cases q)
    | succ n ih =>
      intro s v1 v2 v3 v4 v6 h H locs I ls hl
      rw [f_M_valueOf_L30] at h
      refine lv_iload hx hb dX12_valueOf_30 (lv_at hl 5 rfl) ?_
      refine lv_iload_n hx hb dX12_valueOf_32 rfl (lv_at hl 3 rfl) ?_
      refine lv_icmp_ge (tgt := 144) hx hb dX12_valueOf_33 (by decide) (fun c1 => ?_) (fun c1 => ?_)
      · replace h := if_t h c1
        refine lv_lload hx hb dX12_valueOf_144 (lv_at hl 4 rfl) ?_
        obtain ⟨rfl, rfl⟩ := some2 h
        exact e_l XX hr I rfl dX12_valueOf_146
      · replace h := if_f h c1
        refine lv_iload hx hb dX12_valueOf_36 (lv_at hl 5 rfl) ?_
        refine lv_istore (lv' := [(7, .int v6), (0, .ref (ad 0)), (1, .int v1), (2, .int v2), (3, .int v3), (4, .long v4), (6, .int v6)]) hx hb dX12_valueOf_38 hl (by decide) rfl (fun ls hl => ?_)
        refine lv_lconst (v := 1) hx hb dX12_valueOf_40 (by decide) ?_
        refine lv_lstore (lv' := [(8, .long (1 : Int64)), (7, .int v6), (0, .ref (ad 0)), (1, .int v1), (2, .int v2), (3, .int v3), (4, .long v4), (6, .int v6)]) hx hb dX12_valueOf_41 hl (by decide) rfl (fun ls hl => ?_)
        refine lv_iconst (v := 0) hx hb dX12_valueOf_43 (by decide) ?_
        refine lv_istore (lv' := [(10, .int (0 : Int32)), (8, .long (1 : Int64)), (7, .int v6), (0, .ref (ad 0)), (1, .int v1), (2, .int v2), (3, .int v3), (4, .long v4), (6, .int v6)]) hx hb dX12_valueOf_44 hl (by decide) rfl (fun ls hl => ?_)
        refine lv_iconst (v := 0) hx hb dX12_valueOf_46 (by decide) ?_
        refine lv_istore (lv' := [(11, .int (0 : Int32)), (10, .int (0 : Int32)), (8, .long (1 : Int64)), (7, .int v6), (0, .ref (ad 0)), (1, .int v1), (2, .int v2), (3, .int v3), (4, .long v4), (6, .int v6)]) hx hb dX12_valueOf_47 hl (by decide) rfl (fun ls hl => ?_)
        exact C49 (f_M_valueOf_L30 fu n) ih fu _ _ _ _ _ _ _ _ _ _ h _ _ I ls (lv_sub hl [4, 5, 6, 7, 8, 9, 3, 2, 1, 0] rfl)
  have C5 : ∀ n : Nat, ∀ (s : g_St) (v1 : Int32) (v2 : Int32) (v3 : Int32) (v4 : Int32), f_M_valueOf_L5 fu n s v1 v2 v3 v4 = some (r, ts) → ∀ (H : Heap) (locs : List Loc), Iv G (va_A (wM G ad sa) s0.heap.size) s0 H locs (wM G ad s) → ∀ ls, lv_has ls 14 [(0, .ref (ad 0)), (1, .int v1), (2, .int v2), (3, .int v3), (4, .int v4)] → W p l e { frames := 6, cells := 0, slots := 0, locals := 151 } s0 m args below meth c H locs 0 0 (QL G below r (wM G ad sa) (wM G ad ts) args s0) (F0 m 5 ls []) := by
    intro n
    induction n with
    | zero => intro s v1 v2 v3 v4 h; exact absurd h (fun q => by cases q)
    | succ n ih =>
      intro s v1 v2 v3 v4 h H locs I ls hl
      rw [f_M_valueOf_L5] at h
      refine lv_iload hx hb dX12_valueOf_5 (lv_at hl 4 rfl) ?_
      refine lv_iload_n hx hb dX12_valueOf_7 rfl (lv_at hl 2 rfl) ?_
      refine lv_icmp_ge (tgt := 24) hx hb dX12_valueOf_8 (by decide) (fun c1 => ?_) (fun c1 => ?_)
      · replace h := if_t h c1
        refine lv_lconst (v := 0) hx hb dX12_valueOf_24 (by decide) ?_
        refine lv_lstore (lv' := [(4, .long (0 : Int64)), (0, .ref (ad 0)), (1, .int v1), (2, .int v2), (3, .int v3)]) hx hb dX12_valueOf_25 hl (by decide) rfl (fun ls hl => ?_)
        refine lv_iconst (v := 0) hx hb dX12_valueOf_27 (by decide) ?_
        refine lv_istore (lv' := [(6, .int (0 : Int32)), (4, .long (0 : Int64)), (0, .ref (ad 0)), (1, .int v1), (2, .int v2), (3, .int v3)]) hx hb dX12_valueOf_28 hl (by decide) rfl (fun ls hl => ?_)
        exact C30 fu _ _ _ _ _ _ h _ _ I ls (lv_sub hl [2, 3, 4, 5, 1, 0] rfl)
      · replace h := if_f h c1
        refine lv_iload_n hx hb dX12_valueOf_11 rfl (lv_at hl 3 rfl) ?_
        refine lv_aload_n hx hb dX12_valueOf_12 rfl (lv_at hl 0 rfl) ?_
        refine gM_proposals XX I dX12_valueOf_13 ?_
        refine lv_imul hx hb dX12_valueOf_16 ?_
        refine lv_topi (fun y1 ey1 => ?_)
        replace h := lt_e h ey1
        refine lv_istore_n (lv' := [(3, .int y1), (0, .ref (ad 0)), (1, .int v1), (2, .int v2), (4, .int v4)]) hx hb dX12_valueOf_17 rfl hl (by decide) rfl (fun ls hl => ?_)
        obtain ⟨y2, ey2⟩ : ∃ z : Int32, z = v4 + (1 : Int32) := ⟨_, rfl⟩
        replace h := lt_e h ey2
        refine lv_iinc (v := y2) (lv' := [(4, .int y2), (3, .int y1), (0, .ref (ad 0)), (1, .int v1), (2, .int v2)]) hx hb dX12_valueOf_18 hl (k := 4) rfl (by rw [ey2]; rfl) (by decide) rfl (fun ls hl => ?_)
        refine lv_goto (tgt := 5) hx hb dX12_valueOf_21 (by decide) ?_
        exact ih _ _ _ _ _ h _ _ I ls (lv_sub hl [2, 3, 4, 1, 0] rfl)
  unfold f_M_valueOf at h
  refine lv_iconst (v := 1) hx hb dX12_valueOf_0 (by decide) ?_
  refine lv_istore_n (lv' := [(3, .int (1 : Int32)), (0, .ref (ad 0)), (1, .int x1), (2, .int x2)]) hx hb dX12_valueOf_1 rfl hl (by decide) rfl (fun ls hl => ?_)
  refine lv_iconst (v := 0) hx hb dX12_valueOf_2 (by decide) ?_
  refine lv_istore (lv' := [(4, .int (0 : Int32)), (3, .int (1 : Int32)), (0, .ref (ad 0)), (1, .int x1), (2, .int x2)]) hx hb dX12_valueOf_3 hl (by decide) rfl (fun ls hl => ?_)
  exact C5 fu _ _ _ _ _ h _ _ I ls (lv_sub hl [2, 3, 4, 1, 0] rfl)
theorem kV_X12_304 : KV RX12 304 RX12 yX12_valueOf cX12_valueOf 14 (some .long) 2 := KV.mk wd_1358 wd_1360 wd_1637 wd_13 wd_1361 (by decide +kernel)
theorem kS_X12_308 : KS RX12 308 yX12_power cX12_power 6 (some .long) 2 := KS.mk wd_1370 wd_1371 wd_13 wd_1372 (by decide +kernel)
theorem kV_X12_312 : KV RX12 312 RX12 yX12_lowest cX12_lowest 11 none 2 := KV.mk wd_1373 wd_1375 wd_1640 wd_13 wd_1376 (by decide +kernel)
set_option maxHeartbeats 4000000 in
set_option maxRecDepth 100000 in
theorem c_M_valueSide (l : Launch) (G : g_G) (OK : EOk G.2.2) (ad : Nat → Nat) (fu : Nat) (sa : g_St) (x1 : Int32) (x2 : Int32) (x3 : Int32) (r : Int64) (ts : g_St) (h : f_M_valueSide fu sa x1 x2 x3 = some (r, ts)) : HL l G yX12_valueSide (Cond.code yX12_valueSide cX12_valueSide 5 (some .long) :: gT) { frames := 7, cells := 0, slots := 0, locals := 184 } [.ref (ad 0), .int x1, .int x2, .int x3] (wM G ad sa) r (wM G ad ts) := by
  refine HL.mk (lv := [(0, .ref (ad 0)), (1, .int x1), (2, .int x2), (3, .int x3)]) OK (by decide) (Nat.le_of_ble_eq_true rfl) rfl ?_
  intro p e s0 m args below meth c ls XX hr I hl
  have hx := XX.x
  have hb := XX.b
  unfold f_M_valueSide at h
  refine lv_aload_n hx hb dX12_valueSide_0 rfl (lv_at hl 0 rfl) ?_
  obtain ⟨r1, q2, h⟩ := bd1_some h
  refine wcall_i (rest := []) XX I hl.1 (c_M_weightsInAll l G OK ad fu sa r1 q2) kV_X12_281 (Rc.mk XX I (q0 := 0) (ci := 12) wM_o rfl) rfl rfl (Nat.le_of_ble_eq_true rfl) ⟨rfl, rfl, Nat.le_of_ble_eq_true rfl, Nat.le_of_ble_eq_true rfl⟩ ⟨Nat.zero_le _, Nat.zero_le _⟩ dX12_valueSide_1 (fun H locs hz3 I => ?_)
  refine lv_istore (lv' := [(4, .int r1), (0, .ref (ad 0)), (1, .int x1), (2, .int x2), (3, .int x3)]) hx hb dX12_valueSide_4 hl (by decide) rfl (fun ls hl => ?_)
  refine lv_iload hx hb dX12_valueSide_6 (lv_at hl 0 rfl) ?_
  refine lv_if_ne (tgt := 21) hx hb dX12_valueSide_8 (by decide) (fun c1 => ?_) (fun c1 => ?_)
  · replace h := if_f h c1
    refine lv_aload_n hx hb dX12_valueSide_21 rfl (lv_at hl 1 rfl) ?_
    refine lv_aload_n hx hb dX12_valueSide_22 rfl (lv_at hl 1 rfl) ?_
    refine lv_iload_n hx hb dX12_valueSide_23 rfl (lv_at hl 2 rfl) ?_
    refine lv_iload_n hx hb dX12_valueSide_24 rfl (lv_at hl 3 rfl) ?_
    obtain ⟨r4, s5, q6, h⟩ := bd2_some h
    refine wcall_l (rest := [.ref (ad 0)]) XX I hl.1 (c_M_valueOf l G OK ad fu sa x1 x2 r4 s5 q6) kV_X12_304 (Rc.mk XX I (q0 := 0) (ci := 12) wM_o rfl) rfl rfl (Nat.le_of_ble_eq_true rfl) ⟨rfl, rfl, Nat.le_of_ble_eq_true rfl, Nat.le_of_ble_eq_true rfl⟩ ⟨Nat.zero_le _, Nat.zero_le _⟩ dX12_valueSide_25 (fun H locs I => ?_)
    refine lv_iload hx hb dX12_valueSide_28 (lv_at hl 0 rfl) ?_
    refine lv_i2l hx hb dX12_valueSide_30 rfl ?_
    refine lv_iload_n hx hb dX12_valueSide_31 rfl (lv_at hl 3 rfl) ?_
    obtain ⟨r8, q9, h⟩ := bd1_some h
    refine scall_l (rest := [.long r4, .ref (ad 0)]) XX I hl.1 (c_S_power l G OK fu (r1.toInt64) x2 r8 q9) kS_X12_308 rfl rfl (Nat.le_of_ble_eq_true rfl) ⟨rfl, rfl, Nat.le_of_ble_eq_true rfl, Nat.le_of_ble_eq_true rfl⟩ ⟨Nat.zero_le _, Nat.zero_le _⟩ dX12_valueSide_32 (fun H locs I => ?_)
    obtain ⟨s11, q12, h⟩ := bd1_some h
    refine wcall_v (rest := []) XX I hl.1 (c_M_lowest l G OK ad fu s5 r4 r8 s11 q12) kV_X12_312 (Rc.mk XX I (q0 := 0) (ci := 12) wM_o rfl) rfl rfl (Nat.le_of_ble_eq_true rfl) ⟨rfl, rfl, Nat.le_of_ble_eq_true rfl, Nat.le_of_ble_eq_true rfl⟩ ⟨Nat.zero_le _, Nat.zero_le _⟩ dX12_valueSide_35 (fun H locs I => ?_)
    refine lv_iload_n hx hb dX12_valueSide_38 rfl (lv_at hl 4 rfl) ?_
    refine lv_if_ne (tgt := 49) hx hb dX12_valueSide_39 (by decide) (fun c1 => ?_) (fun c1 => ?_)
    · replace h := if_f h c1
      refine lv_aload_n hx hb dX12_valueSide_49 rfl (lv_at hl 1 rfl) ?_
      refine gM_below XX I dX12_valueSide_50 ?_
      obtain ⟨rfl, rfl⟩ := some2 h
      exact e_l XX hr I rfl dX12_valueSide_53
    · replace h := if_t h c1
      refine lv_aload_n hx hb dX12_valueSide_42 rfl (lv_at hl 1 rfl) ?_
      refine gM_above XX I dX12_valueSide_43 ?_
      refine lv_goto (tgt := 53) hx hb dX12_valueSide_46 (by decide) ?_
      obtain ⟨rfl, rfl⟩ := some2 h
      exact e_l XX hr I rfl dX12_valueSide_53
  · replace h := if_t h c1
    refine lv_iload_n hx hb dX12_valueSide_11 rfl (lv_at hl 4 rfl) ?_
    refine lv_if_ne (tgt := 19) hx hb dX12_valueSide_12 (by decide) (fun c1 => ?_) (fun c1 => ?_)
    · replace h := if_f h c1
      refine lv_lconst (v := 1) hx hb dX12_valueSide_19 (by decide) ?_
      obtain ⟨rfl, rfl⟩ := some2 h
      exact e_l XX hr I rfl dX12_valueSide_20
    · replace h := if_t h c1
      refine lv_lconst (v := 0) hx hb dX12_valueSide_15 (by decide) ?_
      refine lv_goto (tgt := 20) hx hb dX12_valueSide_16 (by decide) ?_
      obtain ⟨rfl, rfl⟩ := some2 h
      exact e_l XX hr I rfl dX12_valueSide_20
theorem kS_X12_316 : KS RX12 316 yX12_isSide cX12_isSide 1 (some .boolean) 1 := KS.mk wd_1351 wd_1352 wd_13 wd_1353 (by decide +kernel)
theorem kV_X12_319 : KV RX12 319 RX12 yX12_valueSide cX12_valueSide 5 (some .long) 3 := KV.mk wd_1354 wd_1356 wd_1636 wd_13 wd_1357 (by decide +kernel)
set_option maxHeartbeats 4000000 in
set_option maxRecDepth 100000 in
theorem c_M_value (l : Launch) (G : g_G) (OK : EOk G.2.2) (ad : Nat → Nat) (fu : Nat) (sa : g_St) (x1 : Int32) (x2 : Int32) (x3 : Int32) (r : Int64) (ts : g_St) (h : f_M_value fu sa x1 x2 x3 = some (r, ts)) : HL l G yX12_value (Cond.code yX12_value cX12_value 4 (some .long) :: gT) { frames := 8, cells := 0, slots := 0, locals := 208 } [.ref (ad 0), .int x1, .int x2, .int x3] (wM G ad sa) r (wM G ad ts) := by
  refine HL.mk (lv := [(0, .ref (ad 0)), (1, .int x1), (2, .int x2), (3, .int x3)]) OK (by decide) (Nat.le_of_ble_eq_true rfl) rfl ?_
  intro p e s0 m args below meth c ls XX hr I hl
  have hx := XX.x
  have hb := XX.b
  unfold f_M_value at h
  refine lv_aload_n hx hb dX12_value_0 rfl (lv_at hl 0 rfl) ?_
  refine lv_iload_n hx hb dX12_value_1 rfl (lv_at hl 1 rfl) ?_
  refine wcall_i (rest := []) XX I hl.1 (c_M_isPerson l G OK ad sa x1 _ rfl) kV_X12_238 (Rc.mk XX I (q0 := 0) (ci := 12) wM_o rfl) rfl rfl (Nat.le_of_ble_eq_true rfl) ⟨rfl, rfl, Nat.le_of_ble_eq_true rfl, Nat.le_of_ble_eq_true rfl⟩ ⟨Nat.zero_le _, Nat.zero_le _⟩ dX12_value_2 (fun H locs hz1 I => ?_)
  refine lv_if_eq (tgt := 34) hx hb dX12_value_5 (by decide) (fun c1 => ?_) (fun c1 => ?_)
  · replace h := if_t h c1
    refine lv_ldc2 (v := (-1000000000000)) hx hb XX.o (XX.t _ wd_1377) dX12_value_34 ?_
    obtain ⟨rfl, rfl⟩ := some2 h
    exact e_l XX hr I rfl dX12_value_37
  · replace h := if_f h c1
    refine lv_iload_n hx hb dX12_value_8 rfl (lv_at hl 2 rfl) ?_
    refine lv_iconst (v := 0) hx hb dX12_value_9 (by decide) ?_
    refine lv_iconst (v := 3) hx hb dX12_value_10 (by decide) ?_
    refine scall_i (rest := []) XX I hl.1 (c_S_in l G OK x2 (0 : Int32) (3 : Int32) _ rfl) kS_X12_99 rfl rfl (Nat.le_of_ble_eq_true rfl) ⟨rfl, rfl, Nat.le_of_ble_eq_true rfl, Nat.le_of_ble_eq_true rfl⟩ ⟨Nat.zero_le _, Nat.zero_le _⟩ dX12_value_11 (fun H locs hz2 I => ?_)
    refine lv_if_eq (tgt := 34) hx hb dX12_value_14 (by decide) (fun c1 => ?_) (fun c1 => ?_)
    · replace h := if_t h c1
      refine lv_ldc2 (v := (-1000000000000)) hx hb XX.o (XX.t _ wd_1377) dX12_value_34 ?_
      obtain ⟨rfl, rfl⟩ := some2 h
      exact e_l XX hr I rfl dX12_value_37
    · replace h := if_f h c1
      refine lv_iload_n hx hb dX12_value_17 rfl (lv_at hl 3 rfl) ?_
      refine scall_i (rest := []) XX I hl.1 (c_S_isSide l G OK x3 _ rfl) kS_X12_316 rfl rfl (Nat.le_of_ble_eq_true rfl) ⟨rfl, rfl, Nat.le_of_ble_eq_true rfl, Nat.le_of_ble_eq_true rfl⟩ ⟨Nat.zero_le _, Nat.zero_le _⟩ dX12_value_18 (fun H locs hz3 I => ?_)
      refine lv_if_eq (tgt := 34) hx hb dX12_value_21 (by decide) (fun c1 => ?_) (fun c1 => ?_)
      · replace h := if_t h c1
        refine lv_ldc2 (v := (-1000000000000)) hx hb XX.o (XX.t _ wd_1377) dX12_value_34 ?_
        obtain ⟨rfl, rfl⟩ := some2 h
        exact e_l XX hr I rfl dX12_value_37
      · replace h := if_f h c1
        refine lv_aload_n hx hb dX12_value_24 rfl (lv_at hl 0 rfl) ?_
        refine lv_iload_n hx hb dX12_value_25 rfl (lv_at hl 1 rfl) ?_
        refine lv_iload_n hx hb dX12_value_26 rfl (lv_at hl 2 rfl) ?_
        refine lv_iload_n hx hb dX12_value_27 rfl (lv_at hl 3 rfl) ?_
        obtain ⟨r4, s5, q6, h⟩ := bd2_some h
        refine wcall_l (rest := []) XX I hl.1 (c_M_valueSide l G OK ad fu sa x1 x2 x3 r4 s5 q6) kV_X12_319 (Rc.mk XX I (q0 := 0) (ci := 12) wM_o rfl) rfl rfl (Nat.le_of_ble_eq_true rfl) ⟨rfl, rfl, Nat.le_of_ble_eq_true rfl, Nat.le_of_ble_eq_true rfl⟩ ⟨Nat.zero_le _, Nat.zero_le _⟩ dX12_value_28 (fun H locs I => ?_)
        refine lv_goto (tgt := 37) hx hb dX12_value_31 (by decide) ?_
        obtain ⟨rfl, rfl⟩ := some2 h
        exact e_l XX hr I rfl dX12_value_37
set_option maxHeartbeats 4000000 in
set_option maxRecDepth 100000 in
theorem c_M_spoilt (l : Launch) (G : g_G) (OK : EOk G.2.2) (ad : Nat → Nat) (fu : Nat) (sa : g_St) (x1 : Int32) (x2 : Int32) (r : Int64) (ts : g_St) (h : f_M_spoilt fu sa x1 x2 = some (r, ts)) : HL l G yX12_spoilt (Cond.code yX12_spoilt cX12_spoilt 3 (some .long) :: gT) { frames := 8, cells := 0, slots := 0, locals := 208 } [.ref (ad 0), .int x1, .int x2] (wM G ad sa) r (wM G ad ts) := by
  refine HL.mk (lv := [(0, .ref (ad 0)), (1, .int x1), (2, .int x2)]) OK (by decide) (Nat.le_of_ble_eq_true rfl) rfl ?_
  intro p e s0 m args below meth c ls XX hr I hl
  have hx := XX.x
  have hb := XX.b
  unfold f_M_spoilt at h
  refine lv_iload_n hx hb dX12_spoilt_0 rfl (lv_at hl 1 rfl) ?_
  refine lv_iconst (v := 0) hx hb dX12_spoilt_1 (by decide) ?_
  refine lv_iconst (v := 3) hx hb dX12_spoilt_2 (by decide) ?_
  refine scall_i (rest := []) XX I hl.1 (c_S_in l G OK x1 (0 : Int32) (3 : Int32) _ rfl) kS_X12_99 rfl rfl (Nat.le_of_ble_eq_true rfl) ⟨rfl, rfl, Nat.le_of_ble_eq_true rfl, Nat.le_of_ble_eq_true rfl⟩ ⟨Nat.zero_le _, Nat.zero_le _⟩ dX12_spoilt_3 (fun H locs hz1 I => ?_)
  refine lv_if_eq (tgt := 27) hx hb dX12_spoilt_6 (by decide) (fun c1 => ?_) (fun c1 => ?_)
  · replace h := if_t h c1
    refine lv_ldc2 (v := (-1)) hx hb XX.o (XX.t _ wd_1151) dX12_spoilt_27 ?_
    obtain ⟨rfl, rfl⟩ := some2 h
    exact e_l XX hr I rfl dX12_spoilt_30
  · replace h := if_f h c1
    refine lv_iload_n hx hb dX12_spoilt_9 rfl (lv_at hl 2 rfl) ?_
    refine scall_i (rest := []) XX I hl.1 (c_S_isSide l G OK x2 _ rfl) kS_X12_316 rfl rfl (Nat.le_of_ble_eq_true rfl) ⟨rfl, rfl, Nat.le_of_ble_eq_true rfl, Nat.le_of_ble_eq_true rfl⟩ ⟨Nat.zero_le _, Nat.zero_le _⟩ dX12_spoilt_10 (fun H locs hz2 I => ?_)
    refine lv_if_eq (tgt := 27) hx hb dX12_spoilt_13 (by decide) (fun c1 => ?_) (fun c1 => ?_)
    · replace h := if_t h c1
      refine lv_ldc2 (v := (-1)) hx hb XX.o (XX.t _ wd_1151) dX12_spoilt_27 ?_
      obtain ⟨rfl, rfl⟩ := some2 h
      exact e_l XX hr I rfl dX12_spoilt_30
    · replace h := if_f h c1
      refine lv_aload_n hx hb dX12_spoilt_16 rfl (lv_at hl 0 rfl) ?_
      refine lv_bipush (v := (-2)) hx hb dX12_spoilt_17 (by decide) ?_
      refine lv_iload_n hx hb dX12_spoilt_19 rfl (lv_at hl 1 rfl) ?_
      refine lv_iload_n hx hb dX12_spoilt_20 rfl (lv_at hl 2 rfl) ?_
      obtain ⟨r3, s4, q5, h⟩ := bd2_some h
      refine wcall_l (rest := []) XX I hl.1 (c_M_valueSide l G OK ad fu sa ((-2) : Int32) x1 x2 r3 s4 q5) kV_X12_319 (Rc.mk XX I (q0 := 0) (ci := 12) wM_o rfl) rfl rfl (Nat.le_of_ble_eq_true rfl) ⟨rfl, rfl, Nat.le_of_ble_eq_true rfl, Nat.le_of_ble_eq_true rfl⟩ ⟨Nat.zero_le _, Nat.zero_le _⟩ dX12_spoilt_21 (fun H locs I => ?_)
      refine lv_goto (tgt := 30) hx hb dX12_spoilt_24 (by decide) ?_
      obtain ⟨rfl, rfl⟩ := some2 h
      exact e_l XX hr I rfl dX12_spoilt_30
set_option maxHeartbeats 4000000 in
set_option maxRecDepth 100000 in
theorem c_M_hasNow (l : Launch) (G : g_G) (OK : EOk G.2.2) (ad : Nat → Nat) (fu : Nat) (sa : g_St) (x1 : Int32) (x2 : Int32) (x3 : Int32) (x4 : Int32) (r : Int64) (ts : g_St) (h : f_M_hasNow fu sa x1 x2 x3 x4 = some (r, ts)) : HL l G yX12_hasNow (Cond.code yX12_hasNow cX12_hasNow 6 (some .long) :: gT) { frames := 6, cells := 0, slots := 0, locals := 151 } [.ref (ad 0), .int x1, .int x2, .int x3, .int x4] (wM G ad sa) r (wM G ad ts) := by
  refine HL.mk (lv := [(0, .ref (ad 0)), (1, .int x1), (2, .int x2), (3, .int x3), (4, .int x4)]) OK (by decide) (Nat.le_of_ble_eq_true rfl) rfl ?_
  intro p e s0 m args below meth c ls XX hr I hl
  have hx := XX.x
  have hb := XX.b
  unfold f_M_hasNow at h
  refine lv_aload_n hx hb dX12_hasNow_0 rfl (lv_at hl 0 rfl) ?_
  refine lv_iload_n hx hb dX12_hasNow_1 rfl (lv_at hl 1 rfl) ?_
  refine pM_self XX I dX12_hasNow_2 (fun H locs I => ?_)
  obtain ⟨s1, es1⟩ : ∃ z, z = si sa 29 x1 := ⟨_, rfl⟩
  replace h := lt_e h es1
  replace I : Iv G (va_A (wM G ad sa) s0.heap.size) s0 H locs (wM G ad s1) := by rw [es1]; exact I
  refine lv_aload_n hx hb dX12_hasNow_5 rfl (lv_at hl 0 rfl) ?_
  refine lv_iload hx hb dX12_hasNow_6 (lv_at hl 4 rfl) ?_
  refine pM_selfSays XX I dX12_hasNow_8 (fun H locs I => ?_)
  obtain ⟨s2, es2⟩ : ∃ z, z = si s1 30 x4 := ⟨_, rfl⟩
  replace h := lt_e h es2
  replace I : Iv G (va_A (wM G ad sa) s0.heap.size) s0 H locs (wM G ad s2) := by rw [es2]; exact I
  refine lv_aload_n hx hb dX12_hasNow_11 rfl (lv_at hl 0 rfl) ?_
  refine lv_iload_n hx hb dX12_hasNow_12 rfl (lv_at hl 2 rfl) ?_
  refine lv_iload_n hx hb dX12_hasNow_13 rfl (lv_at hl 2 rfl) ?_
  refine lv_bipush (v := 7) hx hb dX12_hasNow_14 (by decide) ?_
  refine lv_iadd hx hb dX12_hasNow_16 ?_
  refine lv_iload_n hx hb dX12_hasNow_17 rfl (lv_at hl 3 rfl) ?_
  obtain ⟨r3, s4, q5, h⟩ := bd2_some h
  refine wcall_i (rest := []) XX I hl.1 (c_M_goes l G OK ad fu s2 x2 (x2 + (7 : Int32)) x3 r3 s4 q5) kV_X12_274 (Rc.mk XX I (q0 := 0) (ci := 12) wM_o rfl) rfl rfl (Nat.le_of_ble_eq_true rfl) ⟨rfl, rfl, Nat.le_of_ble_eq_true rfl, Nat.le_of_ble_eq_true rfl⟩ ⟨Nat.zero_le _, Nat.zero_le _⟩ dX12_hasNow_18 (fun H locs hz6 I => ?_)
  refine lv_istore (lv' := [(5, .int r3), (0, .ref (ad 0)), (1, .int x1), (2, .int x2), (3, .int x3), (4, .int x4)]) hx hb dX12_hasNow_21 hl (by decide) rfl (fun ls hl => ?_)
  refine lv_aload_n hx hb dX12_hasNow_23 rfl (lv_at hl 1 rfl) ?_
  refine lv_iconst (v := (-1)) hx hb dX12_hasNow_24 (by decide) ?_
  refine pM_self XX I dX12_hasNow_25 (fun H locs I => ?_)
  obtain ⟨s7, es7⟩ : ∃ z, z = si s4 29 ((-1) : Int32) := ⟨_, rfl⟩
  replace h := lt_e h es7
  replace I : Iv G (va_A (wM G ad sa) s0.heap.size) s0 H locs (wM G ad s7) := by rw [es7]; exact I
  refine lv_iload hx hb dX12_hasNow_28 (lv_at hl 0 rfl) ?_
  refine lv_if_eq (tgt := 37) hx hb dX12_hasNow_30 (by decide) (fun c1 => ?_) (fun c1 => ?_)
  · replace h := if_t h c1
    refine lv_aload_n hx hb dX12_hasNow_37 rfl (lv_at hl 1 rfl) ?_
    refine lv_iload_n hx hb dX12_hasNow_38 rfl (lv_at hl 4 rfl) ?_
    refine lv_iload_n hx hb dX12_hasNow_39 rfl (lv_at hl 2 rfl) ?_
    obtain ⟨r8, q9, h⟩ := bd1_some h
    refine wcall_i (rest := []) XX I hl.1 (c_M_worthTo l G OK ad s7 x3 x1 r8 q9) kV_X12_244 (Rc.mk XX I (q0 := 0) (ci := 12) wM_o rfl) rfl rfl (Nat.le_of_ble_eq_true rfl) ⟨rfl, rfl, Nat.le_of_ble_eq_true rfl, Nat.le_of_ble_eq_true rfl⟩ ⟨Nat.zero_le _, Nat.zero_le _⟩ dX12_hasNow_40 (fun H locs hz10 I => ?_)
    refine lv_i2l hx hb dX12_hasNow_43 rfl ?_
    obtain ⟨rfl, rfl⟩ := some2 h
    exact e_l XX hr I rfl dX12_hasNow_44
  · replace h := if_f h c1
    refine lv_lconst (v := 0) hx hb dX12_hasNow_33 (by decide) ?_
    refine lv_goto (tgt := 44) hx hb dX12_hasNow_34 (by decide) ?_
    obtain ⟨rfl, rfl⟩ := some2 h
    exact e_l XX hr I rfl dX12_hasNow_44
theorem kV_X12_325 : KV RX12 325 RX12 yX12_hasNow cX12_hasNow 6 (some .long) 4 := KV.mk wd_1394 wd_1396 wd_1643 wd_13 wd_1397 (by decide +kernel)
set_option maxHeartbeats 4000000 in
set_option maxRecDepth 100000 in
theorem c_M_bestOne (l : Launch) (G : g_G) (OK : EOk G.2.2) (ad : Nat → Nat) (fu : Nat) (sa : g_St) (x1 : Int32) (x2 : Int32) (r : Int64) (ts : g_St) (h : f_M_bestOne fu sa x1 x2 = some (r, ts)) : HL l G yX12_bestOne (Cond.code yX12_bestOne cX12_bestOne 10 (some .long) :: gT) { frames := 7, cells := 0, slots := 0, locals := 176 } [.ref (ad 0), .int x1, .int x2] (wM G ad sa) r (wM G ad ts) := by
  refine HL.mk (lv := [(0, .ref (ad 0)), (1, .int x1), (2, .int x2)]) OK (by decide) (Nat.le_of_ble_eq_true rfl) rfl ?_
  intro p e s0 m args below meth c ls XX hr I hl
  have hx := XX.x
  have hb := XX.b
  have C5 : ∀ n : Nat, ∀ (s : g_St) (v1 : Int32) (v2 : Int32) (v3 : Int64) (v5 : Int32), f_M_bestOne_L5 fu n s v1 v2 v3 v5 = some (r, ts) → ∀ (H : Heap) (locs : List Loc), Iv G (va_A (wM G ad sa) s0.heap.size) s0 H locs (wM G ad s) → ∀ ls, lv_has ls 10 [(0, .ref (ad 0)), (1, .int v1), (2, .int v2), (3, .long v3), (5, .int v5)] → W p l e { frames := 7, cells := 0, slots := 0, locals := 176 } s0 m args below meth c H locs 0 0 (QL G below r (wM G ad sa) (wM G ad ts) args s0) (F0 m 5 ls []) := by
    intro n
    induction n with
    | zero => intro s v1 v2 v3 v5 h; exact absurd h (fun q => by cases q)
    | succ n ih =>
      intro s v1 v2 v3 v5 h H locs I ls hl
      rw [f_M_bestOne_L5] at h
      refine lv_iload hx hb dX12_bestOne_5 (lv_at hl 4 rfl) ?_
      refine lv_aload_n hx hb dX12_bestOne_7 rfl (lv_at hl 0 rfl) ?_
      refine gM_proposals XX I dX12_bestOne_8 ?_
      refine lv_icmp_ge (tgt := 69) hx hb dX12_bestOne_11 (by decide) (fun c1 => ?_) (fun c1 => ?_)
      · replace h := if_t h c1
        refine lv_lload_n hx hb dX12_bestOne_69 rfl (lv_at hl 3 rfl) ?_
        obtain ⟨rfl, rfl⟩ := some2 h
        exact e_l XX hr I rfl dX12_bestOne_70
      · replace h := if_f h c1
        refine lv_aload_n hx hb dX12_bestOne_14 rfl (lv_at hl 0 rfl) ?_
        refine lv_iload_n hx hb dX12_bestOne_15 rfl (lv_at hl 1 rfl) ?_
        refine lv_iload_n hx hb dX12_bestOne_16 rfl (lv_at hl 2 rfl) ?_
        refine lv_iload hx hb dX12_bestOne_17 (lv_at hl 4 rfl) ?_
        refine lv_iconst (v := 1) hx hb dX12_bestOne_19 (by decide) ?_
        obtain ⟨r1, s2, q3, h⟩ := bd2_some h
        refine wcall_l (rest := []) XX I hl.1 (c_M_hasNow l G OK ad fu s v1 v2 v5 (1 : Int32) r1 s2 q3) kV_X12_325 (Rc.mk XX I (q0 := 0) (ci := 12) wM_o rfl) rfl rfl (Nat.le_of_ble_eq_true rfl) ⟨rfl, rfl, Nat.le_of_ble_eq_true rfl, Nat.le_of_ble_eq_true rfl⟩ ⟨Nat.zero_le _, Nat.zero_le _⟩ dX12_bestOne_20 (fun H locs I => ?_)
        refine lv_lstore (lv' := [(6, .long r1), (0, .ref (ad 0)), (1, .int v1), (2, .int v2), (3, .long v3), (5, .int v5)]) hx hb dX12_bestOne_23 hl (by decide) rfl (fun ls hl => ?_)
        refine lv_aload_n hx hb dX12_bestOne_25 rfl (lv_at hl 1 rfl) ?_
        refine lv_iload_n hx hb dX12_bestOne_26 rfl (lv_at hl 2 rfl) ?_
        refine lv_iload_n hx hb dX12_bestOne_27 rfl (lv_at hl 3 rfl) ?_
        refine lv_iload hx hb dX12_bestOne_28 (lv_at hl 5 rfl) ?_
        refine lv_iconst (v := 0) hx hb dX12_bestOne_30 (by decide) ?_
        obtain ⟨r5, s6, q7, h⟩ := bd2_some h
        refine wcall_l (rest := []) XX I hl.1 (c_M_hasNow l G OK ad fu s2 v1 v2 v5 (0 : Int32) r5 s6 q7) kV_X12_325 (Rc.mk XX I (q0 := 0) (ci := 12) wM_o rfl) rfl rfl (Nat.le_of_ble_eq_true rfl) ⟨rfl, rfl, Nat.le_of_ble_eq_true rfl, Nat.le_of_ble_eq_true rfl⟩ ⟨Nat.zero_le _, Nat.zero_le _⟩ dX12_bestOne_31 (fun H locs I => ?_)
        refine lv_lstore (lv' := [(8, .long r5), (6, .long r1), (0, .ref (ad 0)), (1, .int v1), (2, .int v2), (3, .long v3), (5, .int v5)]) hx hb dX12_bestOne_34 hl (by decide) rfl (fun ls hl => ?_)
        refine lv_lload_n hx hb dX12_bestOne_36 rfl (lv_at hl 5 rfl) ?_
        refine lv_aload_n hx hb dX12_bestOne_37 rfl (lv_at hl 2 rfl) ?_
        refine gM_weight XX I dX12_bestOne_38 ?_
        refine lv_iload hx hb dX12_bestOne_41 (lv_at hl 6 rfl) ?_
        obtain ⟨g9, h⟩ := gd_some h
        refine r_iald XX I 5 (aM_weight) g9 dX12_bestOne_43 ?_
        refine lv_i2l hx hb dX12_bestOne_44 rfl ?_
        refine lv_lload hx hb dX12_bestOne_45 (lv_at hl 1 rfl) ?_
        refine lv_lload hx hb dX12_bestOne_47 (lv_at hl 0 rfl) ?_
        refine W.lcmp hx hb dX12_bestOne_49 ?_
        refine lv_if_le (tgt := 58) hx hb dX12_bestOne_50 (by decide) (fun c1 => ?_) (fun c1 => ?_)
        · replace h := if_t h c1
          refine lv_lload hx hb dX12_bestOne_58 (lv_at hl 0 rfl) ?_
          refine lv_lmul hx hb dX12_bestOne_60 ?_
          refine lv_ladd hx hb dX12_bestOne_61 ?_
          refine lv_topl (fun y10 ey10 => ?_)
          replace h := lt_e h ey10
          refine lv_lstore_n (lv' := [(3, .long y10), (8, .long r5), (6, .long r1), (0, .ref (ad 0)), (1, .int v1), (2, .int v2), (5, .int v5)]) hx hb dX12_bestOne_62 rfl hl (by decide) rfl (fun ls hl => ?_)
          obtain ⟨y11, ey11⟩ : ∃ z : Int32, z = v5 + (1 : Int32) := ⟨_, rfl⟩
          replace h := lt_e h ey11
          refine lv_iinc (v := y11) (lv' := [(5, .int y11), (3, .long y10), (8, .long r5), (6, .long r1), (0, .ref (ad 0)), (1, .int v1), (2, .int v2)]) hx hb dX12_bestOne_63 hl (k := 6) rfl (by rw [ey11]; rfl) (by decide) rfl (fun ls hl => ?_)
          refine lv_goto (tgt := 5) hx hb dX12_bestOne_66 (by decide) ?_
          exact ih _ _ _ _ _ h _ _ I ls (lv_sub hl [4, 5, 6, 1, 0] rfl)
        · replace h := if_f h c1
          refine lv_lload hx hb dX12_bestOne_53 (lv_at hl 1 rfl) ?_
          refine lv_goto (tgt := 60) hx hb dX12_bestOne_55 (by decide) ?_
          refine lv_lmul hx hb dX12_bestOne_60 ?_
          refine lv_ladd hx hb dX12_bestOne_61 ?_
          refine lv_topl (fun y12 ey12 => ?_)
          replace h := lt_e h ey12
          refine lv_lstore_n (lv' := [(3, .long y12), (8, .long r5), (6, .long r1), (0, .ref (ad 0)), (1, .int v1), (2, .int v2), (5, .int v5)]) hx hb dX12_bestOne_62 rfl hl (by decide) rfl (fun ls hl => ?_)
          obtain ⟨y13, ey13⟩ : ∃ z : Int32, z = v5 + (1 : Int32) := ⟨_, rfl⟩
          replace h := lt_e h ey13
          refine lv_iinc (v := y13) (lv' := [(5, .int y13), (3, .long y12), (8, .long r5), (6, .long r1), (0, .ref (ad 0)), (1, .int v1), (2, .int v2)]) hx hb dX12_bestOne_63 hl (k := 6) rfl (by rw [ey13]; rfl) (by decide) rfl (fun ls hl => ?_)
          refine lv_goto (tgt := 5) hx hb dX12_bestOne_66 (by decide) ?_
          exact ih _ _ _ _ _ h _ _ I ls (lv_sub hl [4, 5, 6, 1, 0] rfl)
  unfold f_M_bestOne at h
  refine lv_lconst (v := 0) hx hb dX12_bestOne_0 (by decide) ?_
  refine lv_lstore_n (lv' := [(3, .long (0 : Int64)), (0, .ref (ad 0)), (1, .int x1), (2, .int x2)]) hx hb dX12_bestOne_1 rfl hl (by decide) rfl (fun ls hl => ?_)
  refine lv_iconst (v := 0) hx hb dX12_bestOne_2 (by decide) ?_
  refine lv_istore (lv' := [(5, .int (0 : Int32)), (3, .long (0 : Int64)), (0, .ref (ad 0)), (1, .int x1), (2, .int x2)]) hx hb dX12_bestOne_3 hl (by decide) rfl (fun ls hl => ?_)
  exact C5 fu _ _ _ _ _ h _ _ I ls (lv_sub hl [2, 3, 4, 1, 0] rfl)
theorem kV_X12_329 : KV RX12 329 RX12 yX12_bestOne cX12_bestOne 10 (some .long) 2 := KV.mk wd_1390 wd_1392 wd_1642 wd_13 wd_1393 (by decide +kernel)
set_option maxHeartbeats 4000000 in
set_option maxRecDepth 100000 in
theorem c_M_bestTwo (l : Launch) (G : g_G) (OK : EOk G.2.2) (ad : Nat → Nat) (fu : Nat) (sa : g_St) (x1 : Int32) (x2 : Int32) (x3 : Int32) (r : Int64) (ts : g_St) (h : f_M_bestTwo fu sa x1 x2 x3 = some (r, ts)) : HL l G yX12_bestTwo (Cond.code yX12_bestTwo cX12_bestTwo 11 (some .long) :: gT) { frames := 8, cells := 0, slots := 0, locals := 205 } [.ref (ad 0), .int x1, .int x2, .int x3] (wM G ad sa) r (wM G ad ts) := by
  refine HL.mk (lv := [(0, .ref (ad 0)), (1, .int x1), (2, .int x2), (3, .int x3)]) OK (by decide) (Nat.le_of_ble_eq_true rfl) rfl ?_
  intro p e s0 m args below meth c ls XX hr I hl
  have hx := XX.x
  have hb := XX.b
  have C6 : ∀ n : Nat, ∀ (s : g_St) (v1 : Int32) (v2 : Int32) (v3 : Int32) (v4 : Int64) (v6 : Int32), f_M_bestTwo_L6 fu n s v1 v2 v3 v4 v6 = some (r, ts) → ∀ (H : Heap) (locs : List Loc), Iv G (va_A (wM G ad sa) s0.heap.size) s0 H locs (wM G ad s) → ∀ ls, lv_has ls 11 [(0, .ref (ad 0)), (1, .int v1), (2, .int v2), (3, .int v3), (4, .long v4), (6, .int v6)] → W p l e { frames := 8, cells := 0, slots := 0, locals := 205 } s0 m args below meth c H locs 0 0 (QL G below r (wM G ad sa) (wM G ad ts) args s0) (F0 m 6 ls []) := by
    intro n
    induction n with
    | zero => intro s v1 v2 v3 v4 v6 h; exact absurd h (fun q => by cases q)
    | succ n ih =>
      intro s v1 v2 v3 v4 v6 h H locs I ls hl
      rw [f_M_bestTwo_L6] at h
      refine lv_iload hx hb dX12_bestTwo_6 (lv_at hl 5 rfl) ?_
      refine lv_aload_n hx hb dX12_bestTwo_8 rfl (lv_at hl 0 rfl) ?_
      refine gM_proposals XX I dX12_bestTwo_9 ?_
      refine lv_icmp_ge (tgt := 106) hx hb dX12_bestTwo_12 (by decide) (fun c1 => ?_) (fun c1 => ?_)
      · replace h := if_t h c1
        refine lv_lload hx hb dX12_bestTwo_106 (lv_at hl 4 rfl) ?_
        obtain ⟨rfl, rfl⟩ := some2 h
        exact e_l XX hr I rfl dX12_bestTwo_108
      · replace h := if_f h c1
        refine lv_aload_n hx hb dX12_bestTwo_15 rfl (lv_at hl 0 rfl) ?_
        refine lv_iload_n hx hb dX12_bestTwo_16 rfl (lv_at hl 1 rfl) ?_
        refine lv_iload_n hx hb dX12_bestTwo_17 rfl (lv_at hl 2 rfl) ?_
        refine lv_iload hx hb dX12_bestTwo_18 (lv_at hl 5 rfl) ?_
        refine lv_iconst (v := 1) hx hb dX12_bestTwo_20 (by decide) ?_
        obtain ⟨r1, s2, q3, h⟩ := bd2_some h
        refine wcall_l (rest := []) XX I hl.1 (c_M_hasNow l G OK ad fu s v1 v2 v6 (1 : Int32) r1 s2 q3) kV_X12_325 (Rc.mk XX I (q0 := 0) (ci := 12) wM_o rfl) rfl rfl (Nat.le_of_ble_eq_true rfl) ⟨rfl, rfl, Nat.le_of_ble_eq_true rfl, Nat.le_of_ble_eq_true rfl⟩ ⟨Nat.zero_le _, Nat.zero_le _⟩ dX12_bestTwo_21 (fun H locs I => ?_)
        refine lv_iload_n hx hb dX12_bestTwo_24 rfl (lv_at hl 3 rfl) ?_
        refine lv_i2l hx hb dX12_bestTwo_25 rfl ?_
        refine lv_lmul hx hb dX12_bestTwo_26 ?_
        refine lv_topl (fun y5 ey5 => ?_)
        replace h := lt_e h ey5
        refine lv_lstore (lv' := [(7, .long y5), (0, .ref (ad 0)), (1, .int v1), (2, .int v2), (3, .int v3), (4, .long v4), (6, .int v6)]) hx hb dX12_bestTwo_27 hl (by decide) rfl (fun ls hl => ?_)
        refine lv_lload hx hb dX12_bestTwo_29 (lv_at hl 0 rfl) ?_
        refine lv_aload_n hx hb dX12_bestTwo_31 rfl (lv_at hl 1 rfl) ?_
        refine lv_iload_n hx hb dX12_bestTwo_32 rfl (lv_at hl 2 rfl) ?_
        refine lv_iload_n hx hb dX12_bestTwo_33 rfl (lv_at hl 3 rfl) ?_
        refine lv_bipush (v := 7) hx hb dX12_bestTwo_34 (by decide) ?_
        refine lv_iadd hx hb dX12_bestTwo_36 ?_
        obtain ⟨r6, s7, q8, h⟩ := bd2_some h
        refine wcall_l (rest := [.long y5]) XX I hl.1 (c_M_bestOne l G OK ad fu s2 v1 (v2 + (7 : Int32)) r6 s7 q8) kV_X12_329 (Rc.mk XX I (q0 := 0) (ci := 12) wM_o rfl) rfl rfl (Nat.le_of_ble_eq_true rfl) ⟨rfl, rfl, Nat.le_of_ble_eq_true rfl, Nat.le_of_ble_eq_true rfl⟩ ⟨Nat.zero_le _, Nat.zero_le _⟩ dX12_bestTwo_37 (fun H locs I => ?_)
        refine lv_ladd hx hb dX12_bestTwo_40 ?_
        refine lv_topl (fun y10 ey10 => ?_)
        replace h := lt_e h ey10
        refine lv_lstore (lv' := [(7, .long y10), (0, .ref (ad 0)), (1, .int v1), (2, .int v2), (3, .int v3), (4, .long v4), (6, .int v6)]) hx hb dX12_bestTwo_41 hl (by decide) rfl (fun ls hl => ?_)
        refine lv_aload_n hx hb dX12_bestTwo_43 rfl (lv_at hl 1 rfl) ?_
        refine lv_iload_n hx hb dX12_bestTwo_44 rfl (lv_at hl 2 rfl) ?_
        refine lv_iload_n hx hb dX12_bestTwo_45 rfl (lv_at hl 3 rfl) ?_
        refine lv_iload hx hb dX12_bestTwo_46 (lv_at hl 6 rfl) ?_
        refine lv_iconst (v := 0) hx hb dX12_bestTwo_48 (by decide) ?_
        obtain ⟨r11, s12, q13, h⟩ := bd2_some h
        refine wcall_l (rest := []) XX I hl.1 (c_M_hasNow l G OK ad fu s7 v1 v2 v6 (0 : Int32) r11 s12 q13) kV_X12_325 (Rc.mk XX I (q0 := 0) (ci := 12) wM_o rfl) rfl rfl (Nat.le_of_ble_eq_true rfl) ⟨rfl, rfl, Nat.le_of_ble_eq_true rfl, Nat.le_of_ble_eq_true rfl⟩ ⟨Nat.zero_le _, Nat.zero_le _⟩ dX12_bestTwo_49 (fun H locs I => ?_)
        refine lv_iload_n hx hb dX12_bestTwo_52 rfl (lv_at hl 4 rfl) ?_
        refine lv_i2l hx hb dX12_bestTwo_53 rfl ?_
        refine lv_lmul hx hb dX12_bestTwo_54 ?_
        refine lv_topl (fun y15 ey15 => ?_)
        replace h := lt_e h ey15
        refine lv_lstore (lv' := [(9, .long y15), (7, .long y10), (0, .ref (ad 0)), (1, .int v1), (2, .int v2), (3, .int v3), (4, .long v4), (6, .int v6)]) hx hb dX12_bestTwo_55 hl (by decide) rfl (fun ls hl => ?_)
        refine lv_lload hx hb dX12_bestTwo_57 (lv_at hl 0 rfl) ?_
        refine lv_aload_n hx hb dX12_bestTwo_59 rfl (lv_at hl 2 rfl) ?_
        refine lv_iload_n hx hb dX12_bestTwo_60 rfl (lv_at hl 3 rfl) ?_
        refine lv_iload_n hx hb dX12_bestTwo_61 rfl (lv_at hl 4 rfl) ?_
        refine lv_bipush (v := 7) hx hb dX12_bestTwo_62 (by decide) ?_
        refine lv_iadd hx hb dX12_bestTwo_64 ?_
        obtain ⟨r16, s17, q18, h⟩ := bd2_some h
        refine wcall_l (rest := [.long y15]) XX I hl.1 (c_M_bestOne l G OK ad fu s12 v1 (v2 + (7 : Int32)) r16 s17 q18) kV_X12_329 (Rc.mk XX I (q0 := 0) (ci := 12) wM_o rfl) rfl rfl (Nat.le_of_ble_eq_true rfl) ⟨rfl, rfl, Nat.le_of_ble_eq_true rfl, Nat.le_of_ble_eq_true rfl⟩ ⟨Nat.zero_le _, Nat.zero_le _⟩ dX12_bestTwo_65 (fun H locs I => ?_)
        refine lv_ladd hx hb dX12_bestTwo_68 ?_
        refine lv_topl (fun y20 ey20 => ?_)
        replace h := lt_e h ey20
        refine lv_lstore (lv' := [(9, .long y20), (7, .long y10), (0, .ref (ad 0)), (1, .int v1), (2, .int v2), (3, .int v3), (4, .long v4), (6, .int v6)]) hx hb dX12_bestTwo_69 hl (by decide) rfl (fun ls hl => ?_)
        refine lv_lload hx hb dX12_bestTwo_71 (lv_at hl 6 rfl) ?_
        refine lv_aload_n hx hb dX12_bestTwo_73 rfl (lv_at hl 2 rfl) ?_
        refine gM_weight XX I dX12_bestTwo_74 ?_
        refine lv_iload hx hb dX12_bestTwo_77 (lv_at hl 7 rfl) ?_
        obtain ⟨g21, h⟩ := gd_some h
        refine r_iald XX I 5 (aM_weight) g21 dX12_bestTwo_79 ?_
        refine lv_i2l hx hb dX12_bestTwo_80 rfl ?_
        refine lv_lload hx hb dX12_bestTwo_81 (lv_at hl 1 rfl) ?_
        refine lv_lload hx hb dX12_bestTwo_83 (lv_at hl 0 rfl) ?_
        refine W.lcmp hx hb dX12_bestTwo_85 ?_
        refine lv_if_le (tgt := 94) hx hb dX12_bestTwo_86 (by decide) (fun c1 => ?_) (fun c1 => ?_)
        · replace h := if_t h c1
          refine lv_lload hx hb dX12_bestTwo_94 (lv_at hl 0 rfl) ?_
          refine lv_lmul hx hb dX12_bestTwo_96 ?_
          refine lv_ladd hx hb dX12_bestTwo_97 ?_
          refine lv_topl (fun y22 ey22 => ?_)
          replace h := lt_e h ey22
          refine lv_lstore (lv' := [(4, .long y22), (9, .long y20), (7, .long y10), (0, .ref (ad 0)), (1, .int v1), (2, .int v2), (3, .int v3), (6, .int v6)]) hx hb dX12_bestTwo_98 hl (by decide) rfl (fun ls hl => ?_)
          obtain ⟨y23, ey23⟩ : ∃ z : Int32, z = v6 + (1 : Int32) := ⟨_, rfl⟩
          replace h := lt_e h ey23
          refine lv_iinc (v := y23) (lv' := [(6, .int y23), (4, .long y22), (9, .long y20), (7, .long y10), (0, .ref (ad 0)), (1, .int v1), (2, .int v2), (3, .int v3)]) hx hb dX12_bestTwo_100 hl (k := 7) rfl (by rw [ey23]; rfl) (by decide) rfl (fun ls hl => ?_)
          refine lv_goto (tgt := 6) hx hb dX12_bestTwo_103 (by decide) ?_
          exact ih _ _ _ _ _ _ h _ _ I ls (lv_sub hl [4, 5, 6, 7, 1, 0] rfl)
        · replace h := if_f h c1
          refine lv_lload hx hb dX12_bestTwo_89 (lv_at hl 1 rfl) ?_
          refine lv_goto (tgt := 96) hx hb dX12_bestTwo_91 (by decide) ?_
          refine lv_lmul hx hb dX12_bestTwo_96 ?_
          refine lv_ladd hx hb dX12_bestTwo_97 ?_
          refine lv_topl (fun y24 ey24 => ?_)
          replace h := lt_e h ey24
          refine lv_lstore (lv' := [(4, .long y24), (9, .long y20), (7, .long y10), (0, .ref (ad 0)), (1, .int v1), (2, .int v2), (3, .int v3), (6, .int v6)]) hx hb dX12_bestTwo_98 hl (by decide) rfl (fun ls hl => ?_)
          obtain ⟨y25, ey25⟩ : ∃ z : Int32, z = v6 + (1 : Int32) := ⟨_, rfl⟩
          replace h := lt_e h ey25
          refine lv_iinc (v := y25) (lv' := [(6, .int y25), (4, .long y24), (9, .long y20), (7, .long y10), (0, .ref (ad 0)), (1, .int v1), (2, .int v2), (3, .int v3)]) hx hb dX12_bestTwo_100 hl (k := 7) rfl (by rw [ey25]; rfl) (by decide) rfl (fun ls hl => ?_)
          refine lv_goto (tgt := 6) hx hb dX12_bestTwo_103 (by decide) ?_
          exact ih _ _ _ _ _ _ h _ _ I ls (lv_sub hl [4, 5, 6, 7, 1, 0] rfl)
  unfold f_M_bestTwo at h
  refine lv_lconst (v := 0) hx hb dX12_bestTwo_0 (by decide) ?_
  refine lv_lstore (lv' := [(4, .long (0 : Int64)), (0, .ref (ad 0)), (1, .int x1), (2, .int x2), (3, .int x3)]) hx hb dX12_bestTwo_1 hl (by decide) rfl (fun ls hl => ?_)
  refine lv_iconst (v := 0) hx hb dX12_bestTwo_3 (by decide) ?_
  refine lv_istore (lv' := [(6, .int (0 : Int32)), (4, .long (0 : Int64)), (0, .ref (ad 0)), (1, .int x1), (2, .int x2), (3, .int x3)]) hx hb dX12_bestTwo_4 hl (by decide) rfl (fun ls hl => ?_)
  exact C6 fu _ _ _ _ _ _ h _ _ I ls (lv_sub hl [2, 3, 4, 5, 1, 0] rfl)
theorem kV_X12_332 : KV RX12 332 RX12 yX12_bestTwo cX12_bestTwo 11 (some .long) 3 := KV.mk wd_1398 wd_1400 wd_1644 wd_13 wd_1401 (by decide +kernel)
set_option maxHeartbeats 4000000 in
set_option maxRecDepth 100000 in
theorem c_M_bestThree (l : Launch) (G : g_G) (OK : EOk G.2.2) (ad : Nat → Nat) (fu : Nat) (sa : g_St) (x1 : Int32) (x2 : Int32) (x3 : Int32) (r : Int64) (ts : g_St) (h : f_M_bestThree fu sa x1 x2 x3 = some (r, ts)) : HL l G yX12_bestThree (Cond.code yX12_bestThree cX12_bestThree 11 (some .long) :: gT) { frames := 9, cells := 0, slots := 0, locals := 235 } [.ref (ad 0), .int x1, .int x2, .int x3] (wM G ad sa) r (wM G ad ts) := by
  refine HL.mk (lv := [(0, .ref (ad 0)), (1, .int x1), (2, .int x2), (3, .int x3)]) OK (by decide) (Nat.le_of_ble_eq_true rfl) rfl ?_
  intro p e s0 m args below meth c ls XX hr I hl
  have hx := XX.x
  have hb := XX.b
  have C6 : ∀ n : Nat, ∀ (s : g_St) (v1 : Int32) (v2 : Int32) (v3 : Int32) (v4 : Int64) (v6 : Int32), f_M_bestThree_L6 fu n s v1 v2 v3 v4 v6 = some (r, ts) → ∀ (H : Heap) (locs : List Loc), Iv G (va_A (wM G ad sa) s0.heap.size) s0 H locs (wM G ad s) → ∀ ls, lv_has ls 11 [(0, .ref (ad 0)), (1, .int v1), (2, .int v2), (3, .int v3), (4, .long v4), (6, .int v6)] → W p l e { frames := 9, cells := 0, slots := 0, locals := 235 } s0 m args below meth c H locs 0 0 (QL G below r (wM G ad sa) (wM G ad ts) args s0) (F0 m 6 ls []) := by
    intro n
    induction n with
    | zero => intro s v1 v2 v3 v4 v6 h; exact absurd h (fun q => by cases q)
    | succ n ih =>
      intro s v1 v2 v3 v4 v6 h H locs I ls hl
      rw [f_M_bestThree_L6] at h
      refine lv_iload hx hb dX12_bestThree_6 (lv_at hl 5 rfl) ?_
      refine lv_aload_n hx hb dX12_bestThree_8 rfl (lv_at hl 0 rfl) ?_
      refine gM_proposals XX I dX12_bestThree_9 ?_
      refine lv_icmp_ge (tgt := 114) hx hb dX12_bestThree_12 (by decide) (fun c1 => ?_) (fun c1 => ?_)
      · replace h := if_t h c1
        refine lv_lload hx hb dX12_bestThree_114 (lv_at hl 4 rfl) ?_
        obtain ⟨rfl, rfl⟩ := some2 h
        exact e_l XX hr I rfl dX12_bestThree_116
      · replace h := if_f h c1
        refine lv_aload_n hx hb dX12_bestThree_15 rfl (lv_at hl 0 rfl) ?_
        refine lv_iload_n hx hb dX12_bestThree_16 rfl (lv_at hl 1 rfl) ?_
        refine lv_iload_n hx hb dX12_bestThree_17 rfl (lv_at hl 2 rfl) ?_
        refine lv_iload hx hb dX12_bestThree_18 (lv_at hl 5 rfl) ?_
        refine lv_iconst (v := 1) hx hb dX12_bestThree_20 (by decide) ?_
        obtain ⟨r1, s2, q3, h⟩ := bd2_some h
        refine wcall_l (rest := []) XX I hl.1 (c_M_hasNow l G OK ad fu s v1 v2 v6 (1 : Int32) r1 s2 q3) kV_X12_325 (Rc.mk XX I (q0 := 0) (ci := 12) wM_o rfl) rfl rfl (Nat.le_of_ble_eq_true rfl) ⟨rfl, rfl, Nat.le_of_ble_eq_true rfl, Nat.le_of_ble_eq_true rfl⟩ ⟨Nat.zero_le _, Nat.zero_le _⟩ dX12_bestThree_21 (fun H locs I => ?_)
        refine lv_iload_n hx hb dX12_bestThree_24 rfl (lv_at hl 3 rfl) ?_
        refine lv_i2l hx hb dX12_bestThree_25 rfl ?_
        refine lv_lmul hx hb dX12_bestThree_26 ?_
        refine lv_iload_n hx hb dX12_bestThree_27 rfl (lv_at hl 3 rfl) ?_
        refine lv_i2l hx hb dX12_bestThree_28 rfl ?_
        refine lv_lmul hx hb dX12_bestThree_29 ?_
        refine lv_topl (fun y5 ey5 => ?_)
        replace h := lt_e h ey5
        refine lv_lstore (lv' := [(7, .long y5), (0, .ref (ad 0)), (1, .int v1), (2, .int v2), (3, .int v3), (4, .long v4), (6, .int v6)]) hx hb dX12_bestThree_30 hl (by decide) rfl (fun ls hl => ?_)
        refine lv_lload hx hb dX12_bestThree_32 (lv_at hl 0 rfl) ?_
        refine lv_aload_n hx hb dX12_bestThree_34 rfl (lv_at hl 1 rfl) ?_
        refine lv_iload_n hx hb dX12_bestThree_35 rfl (lv_at hl 2 rfl) ?_
        refine lv_iload_n hx hb dX12_bestThree_36 rfl (lv_at hl 3 rfl) ?_
        refine lv_bipush (v := 7) hx hb dX12_bestThree_37 (by decide) ?_
        refine lv_iadd hx hb dX12_bestThree_39 ?_
        refine lv_iload_n hx hb dX12_bestThree_40 rfl (lv_at hl 4 rfl) ?_
        obtain ⟨r6, s7, q8, h⟩ := bd2_some h
        refine wcall_l (rest := [.long y5]) XX I hl.1 (c_M_bestTwo l G OK ad fu s2 v1 (v2 + (7 : Int32)) v3 r6 s7 q8) kV_X12_332 (Rc.mk XX I (q0 := 0) (ci := 12) wM_o rfl) rfl rfl (Nat.le_of_ble_eq_true rfl) ⟨rfl, rfl, Nat.le_of_ble_eq_true rfl, Nat.le_of_ble_eq_true rfl⟩ ⟨Nat.zero_le _, Nat.zero_le _⟩ dX12_bestThree_41 (fun H locs I => ?_)
        refine lv_ladd hx hb dX12_bestThree_44 ?_
        refine lv_topl (fun y10 ey10 => ?_)
        replace h := lt_e h ey10
        refine lv_lstore (lv' := [(7, .long y10), (0, .ref (ad 0)), (1, .int v1), (2, .int v2), (3, .int v3), (4, .long v4), (6, .int v6)]) hx hb dX12_bestThree_45 hl (by decide) rfl (fun ls hl => ?_)
        refine lv_aload_n hx hb dX12_bestThree_47 rfl (lv_at hl 1 rfl) ?_
        refine lv_iload_n hx hb dX12_bestThree_48 rfl (lv_at hl 2 rfl) ?_
        refine lv_iload_n hx hb dX12_bestThree_49 rfl (lv_at hl 3 rfl) ?_
        refine lv_iload hx hb dX12_bestThree_50 (lv_at hl 6 rfl) ?_
        refine lv_iconst (v := 0) hx hb dX12_bestThree_52 (by decide) ?_
        obtain ⟨r11, s12, q13, h⟩ := bd2_some h
        refine wcall_l (rest := []) XX I hl.1 (c_M_hasNow l G OK ad fu s7 v1 v2 v6 (0 : Int32) r11 s12 q13) kV_X12_325 (Rc.mk XX I (q0 := 0) (ci := 12) wM_o rfl) rfl rfl (Nat.le_of_ble_eq_true rfl) ⟨rfl, rfl, Nat.le_of_ble_eq_true rfl, Nat.le_of_ble_eq_true rfl⟩ ⟨Nat.zero_le _, Nat.zero_le _⟩ dX12_bestThree_53 (fun H locs I => ?_)
        refine lv_iload_n hx hb dX12_bestThree_56 rfl (lv_at hl 4 rfl) ?_
        refine lv_i2l hx hb dX12_bestThree_57 rfl ?_
        refine lv_lmul hx hb dX12_bestThree_58 ?_
        refine lv_iload_n hx hb dX12_bestThree_59 rfl (lv_at hl 4 rfl) ?_
        refine lv_i2l hx hb dX12_bestThree_60 rfl ?_
        refine lv_lmul hx hb dX12_bestThree_61 ?_
        refine lv_topl (fun y15 ey15 => ?_)
        replace h := lt_e h ey15
        refine lv_lstore (lv' := [(9, .long y15), (7, .long y10), (0, .ref (ad 0)), (1, .int v1), (2, .int v2), (3, .int v3), (4, .long v4), (6, .int v6)]) hx hb dX12_bestThree_62 hl (by decide) rfl (fun ls hl => ?_)
        refine lv_lload hx hb dX12_bestThree_64 (lv_at hl 0 rfl) ?_
        refine lv_aload_n hx hb dX12_bestThree_66 rfl (lv_at hl 2 rfl) ?_
        refine lv_iload_n hx hb dX12_bestThree_67 rfl (lv_at hl 3 rfl) ?_
        refine lv_iload_n hx hb dX12_bestThree_68 rfl (lv_at hl 4 rfl) ?_
        refine lv_bipush (v := 7) hx hb dX12_bestThree_69 (by decide) ?_
        refine lv_iadd hx hb dX12_bestThree_71 ?_
        refine lv_iload_n hx hb dX12_bestThree_72 rfl (lv_at hl 5 rfl) ?_
        obtain ⟨r16, s17, q18, h⟩ := bd2_some h
        refine wcall_l (rest := [.long y15]) XX I hl.1 (c_M_bestTwo l G OK ad fu s12 v1 (v2 + (7 : Int32)) v3 r16 s17 q18) kV_X12_332 (Rc.mk XX I (q0 := 0) (ci := 12) wM_o rfl) rfl rfl (Nat.le_of_ble_eq_true rfl) ⟨rfl, rfl, Nat.le_of_ble_eq_true rfl, Nat.le_of_ble_eq_true rfl⟩ ⟨Nat.zero_le _, Nat.zero_le _⟩ dX12_bestThree_73 (fun H locs I => ?_)
        refine lv_ladd hx hb dX12_bestThree_76 ?_
        refine lv_topl (fun y20 ey20 => ?_)
        replace h := lt_e h ey20
        refine lv_lstore (lv' := [(9, .long y20), (7, .long y10), (0, .ref (ad 0)), (1, .int v1), (2, .int v2), (3, .int v3), (4, .long v4), (6, .int v6)]) hx hb dX12_bestThree_77 hl (by decide) rfl (fun ls hl => ?_)
        refine lv_lload hx hb dX12_bestThree_79 (lv_at hl 6 rfl) ?_
        refine lv_aload_n hx hb dX12_bestThree_81 rfl (lv_at hl 2 rfl) ?_
        refine gM_weight XX I dX12_bestThree_82 ?_
        refine lv_iload hx hb dX12_bestThree_85 (lv_at hl 7 rfl) ?_
        obtain ⟨g21, h⟩ := gd_some h
        refine r_iald XX I 5 (aM_weight) g21 dX12_bestThree_87 ?_
        refine lv_i2l hx hb dX12_bestThree_88 rfl ?_
        refine lv_lload hx hb dX12_bestThree_89 (lv_at hl 1 rfl) ?_
        refine lv_lload hx hb dX12_bestThree_91 (lv_at hl 0 rfl) ?_
        refine W.lcmp hx hb dX12_bestThree_93 ?_
        refine lv_if_le (tgt := 102) hx hb dX12_bestThree_94 (by decide) (fun c1 => ?_) (fun c1 => ?_)
        · replace h := if_t h c1
          refine lv_lload hx hb dX12_bestThree_102 (lv_at hl 0 rfl) ?_
          refine lv_lmul hx hb dX12_bestThree_104 ?_
          refine lv_ladd hx hb dX12_bestThree_105 ?_
          refine lv_topl (fun y22 ey22 => ?_)
          replace h := lt_e h ey22
          refine lv_lstore (lv' := [(4, .long y22), (9, .long y20), (7, .long y10), (0, .ref (ad 0)), (1, .int v1), (2, .int v2), (3, .int v3), (6, .int v6)]) hx hb dX12_bestThree_106 hl (by decide) rfl (fun ls hl => ?_)
          obtain ⟨y23, ey23⟩ : ∃ z : Int32, z = v6 + (1 : Int32) := ⟨_, rfl⟩
          replace h := lt_e h ey23
          refine lv_iinc (v := y23) (lv' := [(6, .int y23), (4, .long y22), (9, .long y20), (7, .long y10), (0, .ref (ad 0)), (1, .int v1), (2, .int v2), (3, .int v3)]) hx hb dX12_bestThree_108 hl (k := 7) rfl (by rw [ey23]; rfl) (by decide) rfl (fun ls hl => ?_)
          refine lv_goto (tgt := 6) hx hb dX12_bestThree_111 (by decide) ?_
          exact ih _ _ _ _ _ _ h _ _ I ls (lv_sub hl [4, 5, 6, 7, 1, 0] rfl)
        · replace h := if_f h c1
          refine lv_lload hx hb dX12_bestThree_97 (lv_at hl 1 rfl) ?_
          refine lv_goto (tgt := 104) hx hb dX12_bestThree_99 (by decide) ?_
          refine lv_lmul hx hb dX12_bestThree_104 ?_
          refine lv_ladd hx hb dX12_bestThree_105 ?_
          refine lv_topl (fun y24 ey24 => ?_)
          replace h := lt_e h ey24
          refine lv_lstore (lv' := [(4, .long y24), (9, .long y20), (7, .long y10), (0, .ref (ad 0)), (1, .int v1), (2, .int v2), (3, .int v3), (6, .int v6)]) hx hb dX12_bestThree_106 hl (by decide) rfl (fun ls hl => ?_)
          obtain ⟨y25, ey25⟩ : ∃ z : Int32, z = v6 + (1 : Int32) := ⟨_, rfl⟩
          replace h := lt_e h ey25
          refine lv_iinc (v := y25) (lv' := [(6, .int y25), (4, .long y24), (9, .long y20), (7, .long y10), (0, .ref (ad 0)), (1, .int v1), (2, .int v2), (3, .int v3)]) hx hb dX12_bestThree_108 hl (k := 7) rfl (by rw [ey25]; rfl) (by decide) rfl (fun ls hl => ?_)
          refine lv_goto (tgt := 6) hx hb dX12_bestThree_111 (by decide) ?_
          exact ih _ _ _ _ _ _ h _ _ I ls (lv_sub hl [4, 5, 6, 7, 1, 0] rfl)
  unfold f_M_bestThree at h
  refine lv_lconst (v := 0) hx hb dX12_bestThree_0 (by decide) ?_
  refine lv_lstore (lv' := [(4, .long (0 : Int64)), (0, .ref (ad 0)), (1, .int x1), (2, .int x2), (3, .int x3)]) hx hb dX12_bestThree_1 hl (by decide) rfl (fun ls hl => ?_)
  refine lv_iconst (v := 0) hx hb dX12_bestThree_3 (by decide) ?_
  refine lv_istore (lv' := [(6, .int (0 : Int32)), (4, .long (0 : Int64)), (0, .ref (ad 0)), (1, .int x1), (2, .int x2), (3, .int x3)]) hx hb dX12_bestThree_4 hl (by decide) rfl (fun ls hl => ?_)
  exact C6 fu _ _ _ _ _ _ h _ _ I ls (lv_sub hl [2, 3, 4, 5, 1, 0] rfl)
theorem kV_X12_335 : KV RX12 335 RX12 yX12_bestThree cX12_bestThree 11 (some .long) 3 := KV.mk wd_1402 wd_1404 wd_1645 wd_13 wd_1405 (by decide +kernel)
set_option maxHeartbeats 4000000 in
set_option maxRecDepth 100000 in
theorem c_M_bestBy (l : Launch) (G : g_G) (OK : EOk G.2.2) (ad : Nat → Nat) (fu : Nat) (sa : g_St) (x1 : Int32) (x2 : Int32) (x3 : Int32) (x4 : Int32) (r : Int64) (ts : g_St) (h : f_M_bestBy fu sa x1 x2 x3 x4 = some (r, ts)) : HL l G yX12_bestBy (Cond.code yX12_bestBy cX12_bestBy 5 (some .long) :: gT) { frames := 10, cells := 0, slots := 0, locals := 265 } [.ref (ad 0), .int x1, .int x2, .int x3, .int x4] (wM G ad sa) r (wM G ad ts) := by
  refine HL.mk (lv := [(0, .ref (ad 0)), (1, .int x1), (2, .int x2), (3, .int x3), (4, .int x4)]) OK (by decide) (Nat.le_of_ble_eq_true rfl) rfl ?_
  intro p e s0 m args below meth c ls XX hr I hl
  have hx := XX.x
  have hb := XX.b
  unfold f_M_bestBy at h
  refine lv_iload_n hx hb dX12_bestBy_0 rfl (lv_at hl 3 rfl) ?_
  refine lv_if_eq (tgt := 9) hx hb dX12_bestBy_1 (by decide) (fun c1 => ?_) (fun c1 => ?_)
  · replace h := if_t h c1
    refine lv_lconst (v := 0) hx hb dX12_bestBy_9 (by decide) ?_
    refine lv_goto (tgt := 51) hx hb dX12_bestBy_10 (by decide) ?_
    obtain ⟨rfl, rfl⟩ := some2 h
    exact e_l XX hr I rfl dX12_bestBy_51
  · replace h := if_f h c1
    refine lv_iload hx hb dX12_bestBy_4 (lv_at hl 4 rfl) ?_
    refine lv_if_ne (tgt := 13) hx hb dX12_bestBy_6 (by decide) (fun c1 => ?_) (fun c1 => ?_)
    · replace h := if_f h c1
      refine lv_iload_n hx hb dX12_bestBy_13 rfl (lv_at hl 3 rfl) ?_
      refine lv_iconst (v := 1) hx hb dX12_bestBy_14 (by decide) ?_
      refine lv_icmp_ne (tgt := 27) hx hb dX12_bestBy_15 (by decide) (fun c1 => ?_) (fun c1 => ?_)
      · replace h := if_f h c1
        refine lv_iload_n hx hb dX12_bestBy_27 rfl (lv_at hl 3 rfl) ?_
        refine lv_iconst (v := 2) hx hb dX12_bestBy_28 (by decide) ?_
        refine lv_icmp_ne (tgt := 43) hx hb dX12_bestBy_29 (by decide) (fun c1 => ?_) (fun c1 => ?_)
        · replace h := if_f h c1
          refine lv_aload_n hx hb dX12_bestBy_43 rfl (lv_at hl 0 rfl) ?_
          refine lv_iload_n hx hb dX12_bestBy_44 rfl (lv_at hl 1 rfl) ?_
          refine lv_iload_n hx hb dX12_bestBy_45 rfl (lv_at hl 2 rfl) ?_
          refine lv_iload hx hb dX12_bestBy_46 (lv_at hl 4 rfl) ?_
          obtain ⟨r1, s2, q3, h⟩ := bd2_some h
          refine wcall_l (rest := []) XX I hl.1 (c_M_bestThree l G OK ad fu sa x1 x2 x4 r1 s2 q3) kV_X12_335 (Rc.mk XX I (q0 := 0) (ci := 12) wM_o rfl) rfl rfl (Nat.le_of_ble_eq_true rfl) ⟨rfl, rfl, Nat.le_of_ble_eq_true rfl, Nat.le_of_ble_eq_true rfl⟩ ⟨Nat.zero_le _, Nat.zero_le _⟩ dX12_bestBy_48 (fun H locs I => ?_)
          obtain ⟨rfl, rfl⟩ := some2 h
          exact e_l XX hr I rfl dX12_bestBy_51
        · replace h := if_t h c1
          refine lv_aload_n hx hb dX12_bestBy_32 rfl (lv_at hl 0 rfl) ?_
          refine lv_iload_n hx hb dX12_bestBy_33 rfl (lv_at hl 1 rfl) ?_
          refine lv_iload_n hx hb dX12_bestBy_34 rfl (lv_at hl 2 rfl) ?_
          refine lv_iload hx hb dX12_bestBy_35 (lv_at hl 4 rfl) ?_
          obtain ⟨r5, s6, q7, h⟩ := bd2_some h
          refine wcall_l (rest := []) XX I hl.1 (c_M_bestTwo l G OK ad fu sa x1 x2 x4 r5 s6 q7) kV_X12_332 (Rc.mk XX I (q0 := 0) (ci := 12) wM_o rfl) rfl rfl (Nat.le_of_ble_eq_true rfl) ⟨rfl, rfl, Nat.le_of_ble_eq_true rfl, Nat.le_of_ble_eq_true rfl⟩ ⟨Nat.zero_le _, Nat.zero_le _⟩ dX12_bestBy_37 (fun H locs I => ?_)
          refine lv_goto (tgt := 51) hx hb dX12_bestBy_40 (by decide) ?_
          obtain ⟨rfl, rfl⟩ := some2 h
          exact e_l XX hr I rfl dX12_bestBy_51
      · replace h := if_t h c1
        refine lv_aload_n hx hb dX12_bestBy_18 rfl (lv_at hl 0 rfl) ?_
        refine lv_iload_n hx hb dX12_bestBy_19 rfl (lv_at hl 1 rfl) ?_
        refine lv_iload_n hx hb dX12_bestBy_20 rfl (lv_at hl 2 rfl) ?_
        obtain ⟨r9, s10, q11, h⟩ := bd2_some h
        refine wcall_l (rest := []) XX I hl.1 (c_M_bestOne l G OK ad fu sa x1 x2 r9 s10 q11) kV_X12_329 (Rc.mk XX I (q0 := 0) (ci := 12) wM_o rfl) rfl rfl (Nat.le_of_ble_eq_true rfl) ⟨rfl, rfl, Nat.le_of_ble_eq_true rfl, Nat.le_of_ble_eq_true rfl⟩ ⟨Nat.zero_le _, Nat.zero_le _⟩ dX12_bestBy_21 (fun H locs I => ?_)
        refine lv_goto (tgt := 51) hx hb dX12_bestBy_24 (by decide) ?_
        obtain ⟨rfl, rfl⟩ := some2 h
        exact e_l XX hr I rfl dX12_bestBy_51
    · replace h := if_t h c1
      refine lv_lconst (v := 0) hx hb dX12_bestBy_9 (by decide) ?_
      refine lv_goto (tgt := 51) hx hb dX12_bestBy_10 (by decide) ?_
      obtain ⟨rfl, rfl⟩ := some2 h
      exact e_l XX hr I rfl dX12_bestBy_51
theorem kV_X12_338 : KV RX12 338 RX12 yX12_bestBy cX12_bestBy 5 (some .long) 4 := KV.mk wd_1386 wd_1388 wd_1641 wd_13 wd_1389 (by decide +kernel)
set_option maxHeartbeats 4000000 in
set_option maxRecDepth 100000 in
theorem c_M_best (l : Launch) (G : g_G) (OK : EOk G.2.2) (ad : Nat → Nat) (fu : Nat) (sa : g_St) (x1 : Int32) (x2 : Int32) (x3 : Int32) (r : Int64) (ts : g_St) (h : f_M_best fu sa x1 x2 x3 = some (r, ts)) : HL l G yX12_best (Cond.code yX12_best cX12_best 5 (some .long) :: gT) { frames := 11, cells := 0, slots := 0, locals := 289 } [.ref (ad 0), .int x1, .int x2, .int x3] (wM G ad sa) r (wM G ad ts) := by
  refine HL.mk (lv := [(0, .ref (ad 0)), (1, .int x1), (2, .int x2), (3, .int x3)]) OK (by decide) (Nat.le_of_ble_eq_true rfl) rfl ?_
  intro p e s0 m args below meth c ls XX hr I hl
  have hx := XX.x
  have hb := XX.b
  unfold f_M_best at h
  refine lv_aload_n hx hb dX12_best_0 rfl (lv_at hl 0 rfl) ?_
  refine lv_iload_n hx hb dX12_best_1 rfl (lv_at hl 1 rfl) ?_
  refine wcall_i (rest := []) XX I hl.1 (c_M_isPerson l G OK ad sa x1 _ rfl) kV_X12_238 (Rc.mk XX I (q0 := 0) (ci := 12) wM_o rfl) rfl rfl (Nat.le_of_ble_eq_true rfl) ⟨rfl, rfl, Nat.le_of_ble_eq_true rfl, Nat.le_of_ble_eq_true rfl⟩ ⟨Nat.zero_le _, Nat.zero_le _⟩ dX12_best_2 (fun H locs hz1 I => ?_)
  refine lv_if_eq (tgt := 24) hx hb dX12_best_5 (by decide) (fun c1 => ?_) (fun c1 => ?_)
  · replace h := if_t h c1
    refine lv_ldc2 (v := (-1000000000000)) hx hb XX.o (XX.t _ wd_1377) dX12_best_24 ?_
    obtain ⟨rfl, rfl⟩ := some2 h
    exact e_l XX hr I rfl dX12_best_27
  · replace h := if_f h c1
    refine lv_iload_n hx hb dX12_best_8 rfl (lv_at hl 2 rfl) ?_
    refine lv_iconst (v := 0) hx hb dX12_best_9 (by decide) ?_
    refine lv_iconst (v := 3) hx hb dX12_best_10 (by decide) ?_
    refine scall_i (rest := []) XX I hl.1 (c_S_in l G OK x2 (0 : Int32) (3 : Int32) _ rfl) kS_X12_99 rfl rfl (Nat.le_of_ble_eq_true rfl) ⟨rfl, rfl, Nat.le_of_ble_eq_true rfl, Nat.le_of_ble_eq_true rfl⟩ ⟨Nat.zero_le _, Nat.zero_le _⟩ dX12_best_11 (fun H locs hz2 I => ?_)
    refine lv_if_eq (tgt := 24) hx hb dX12_best_14 (by decide) (fun c1 => ?_) (fun c1 => ?_)
    · replace h := if_t h c1
      refine lv_ldc2 (v := (-1000000000000)) hx hb XX.o (XX.t _ wd_1377) dX12_best_24 ?_
      obtain ⟨rfl, rfl⟩ := some2 h
      exact e_l XX hr I rfl dX12_best_27
    · replace h := if_f h c1
      refine lv_iload_n hx hb dX12_best_17 rfl (lv_at hl 3 rfl) ?_
      refine scall_i (rest := []) XX I hl.1 (c_S_isSide l G OK x3 _ rfl) kS_X12_316 rfl rfl (Nat.le_of_ble_eq_true rfl) ⟨rfl, rfl, Nat.le_of_ble_eq_true rfl, Nat.le_of_ble_eq_true rfl⟩ ⟨Nat.zero_le _, Nat.zero_le _⟩ dX12_best_18 (fun H locs hz3 I => ?_)
      refine lv_if_ne (tgt := 28) hx hb dX12_best_21 (by decide) (fun c1 => ?_) (fun c1 => ?_)
      · replace h := if_f h c1
        refine lv_aload_n hx hb dX12_best_28 rfl (lv_at hl 0 rfl) ?_
        obtain ⟨r4, q5, h⟩ := bd1_some h
        refine wcall_i (rest := []) XX I hl.1 (c_M_weightsInAll l G OK ad fu sa r4 q5) kV_X12_281 (Rc.mk XX I (q0 := 0) (ci := 12) wM_o rfl) rfl rfl (Nat.le_of_ble_eq_true rfl) ⟨rfl, rfl, Nat.le_of_ble_eq_true rfl, Nat.le_of_ble_eq_true rfl⟩ ⟨Nat.zero_le _, Nat.zero_le _⟩ dX12_best_29 (fun H locs hz6 I => ?_)
        refine lv_istore (lv' := [(4, .int r4), (0, .ref (ad 0)), (1, .int x1), (2, .int x2), (3, .int x3)]) hx hb dX12_best_32 hl (by decide) rfl (fun ls hl => ?_)
        refine lv_iload hx hb dX12_best_34 (lv_at hl 0 rfl) ?_
        refine lv_if_ne (tgt := 49) hx hb dX12_best_36 (by decide) (fun c1 => ?_) (fun c1 => ?_)
        · replace h := if_f h c1
          refine lv_aload_n hx hb dX12_best_49 rfl (lv_at hl 1 rfl) ?_
          refine lv_aload_n hx hb dX12_best_50 rfl (lv_at hl 1 rfl) ?_
          refine lv_iload_n hx hb dX12_best_51 rfl (lv_at hl 2 rfl) ?_
          refine lv_iconst (v := 0) hx hb dX12_best_52 (by decide) ?_
          refine lv_iload_n hx hb dX12_best_53 rfl (lv_at hl 3 rfl) ?_
          refine lv_iload hx hb dX12_best_54 (lv_at hl 0 rfl) ?_
          obtain ⟨r7, s8, q9, h⟩ := bd2_some h
          refine wcall_l (rest := [.ref (ad 0)]) XX I hl.1 (c_M_bestBy l G OK ad fu sa x1 (0 : Int32) x2 r4 r7 s8 q9) kV_X12_338 (Rc.mk XX I (q0 := 0) (ci := 12) wM_o rfl) rfl rfl (Nat.le_of_ble_eq_true rfl) ⟨rfl, rfl, Nat.le_of_ble_eq_true rfl, Nat.le_of_ble_eq_true rfl⟩ ⟨Nat.zero_le _, Nat.zero_le _⟩ dX12_best_56 (fun H locs I => ?_)
          refine lv_iload hx hb dX12_best_59 (lv_at hl 0 rfl) ?_
          refine lv_i2l hx hb dX12_best_61 rfl ?_
          refine lv_iload_n hx hb dX12_best_62 rfl (lv_at hl 3 rfl) ?_
          obtain ⟨r11, q12, h⟩ := bd1_some h
          refine scall_l (rest := [.long r7, .ref (ad 0)]) XX I hl.1 (c_S_power l G OK fu (r4.toInt64) x2 r11 q12) kS_X12_308 rfl rfl (Nat.le_of_ble_eq_true rfl) ⟨rfl, rfl, Nat.le_of_ble_eq_true rfl, Nat.le_of_ble_eq_true rfl⟩ ⟨Nat.zero_le _, Nat.zero_le _⟩ dX12_best_63 (fun H locs I => ?_)
          obtain ⟨s14, q15, h⟩ := bd1_some h
          refine wcall_v (rest := []) XX I hl.1 (c_M_lowest l G OK ad fu s8 r7 r11 s14 q15) kV_X12_312 (Rc.mk XX I (q0 := 0) (ci := 12) wM_o rfl) rfl rfl (Nat.le_of_ble_eq_true rfl) ⟨rfl, rfl, Nat.le_of_ble_eq_true rfl, Nat.le_of_ble_eq_true rfl⟩ ⟨Nat.zero_le _, Nat.zero_le _⟩ dX12_best_66 (fun H locs I => ?_)
          refine lv_iload_n hx hb dX12_best_69 rfl (lv_at hl 4 rfl) ?_
          refine lv_if_ne (tgt := 80) hx hb dX12_best_70 (by decide) (fun c1 => ?_) (fun c1 => ?_)
          · replace h := if_f h c1
            refine lv_aload_n hx hb dX12_best_80 rfl (lv_at hl 1 rfl) ?_
            refine gM_below XX I dX12_best_81 ?_
            obtain ⟨rfl, rfl⟩ := some2 h
            exact e_l XX hr I rfl dX12_best_84
          · replace h := if_t h c1
            refine lv_aload_n hx hb dX12_best_73 rfl (lv_at hl 1 rfl) ?_
            refine gM_above XX I dX12_best_74 ?_
            refine lv_goto (tgt := 84) hx hb dX12_best_77 (by decide) ?_
            obtain ⟨rfl, rfl⟩ := some2 h
            exact e_l XX hr I rfl dX12_best_84
        · replace h := if_t h c1
          refine lv_iload_n hx hb dX12_best_39 rfl (lv_at hl 4 rfl) ?_
          refine lv_if_ne (tgt := 47) hx hb dX12_best_40 (by decide) (fun c1 => ?_) (fun c1 => ?_)
          · replace h := if_f h c1
            refine lv_lconst (v := 1) hx hb dX12_best_47 (by decide) ?_
            obtain ⟨rfl, rfl⟩ := some2 h
            exact e_l XX hr I rfl dX12_best_48
          · replace h := if_t h c1
            refine lv_lconst (v := 0) hx hb dX12_best_43 (by decide) ?_
            refine lv_goto (tgt := 48) hx hb dX12_best_44 (by decide) ?_
            obtain ⟨rfl, rfl⟩ := some2 h
            exact e_l XX hr I rfl dX12_best_48
      · replace h := if_t h c1
        refine lv_ldc2 (v := (-1000000000000)) hx hb XX.o (XX.t _ wd_1377) dX12_best_24 ?_
        obtain ⟨rfl, rfl⟩ := some2 h
        exact e_l XX hr I rfl dX12_best_27
set_option maxHeartbeats 4000000 in
set_option maxRecDepth 100000 in
theorem c_M_should (l : Launch) (G : g_G) (OK : EOk G.2.2) (ad : Nat → Nat) (fu : Nat) (sa : g_St) (x1 : Int32) (x2 : Int32) (x3 : Int32) (r : Int32) (ts : g_St) (h : f_M_should fu sa x1 x2 x3 = some (r, ts)) : HI l G yX12_should (Cond.code yX12_should cX12_should 11 (some .int) :: gT) { frames := 11, cells := 0, slots := 0, locals := 289 } .int [.ref (ad 0), .int x1, .int x2, .int x3] (wM G ad sa) r (wM G ad ts) := by
  refine HI.mk (lv := [(0, .ref (ad 0)), (1, .int x1), (2, .int x2), (3, .int x3)]) OK (by decide) (Nat.le_of_ble_eq_true rfl) rfl ?_
  intro p e s0 m args below meth c ls XX hr I hl
  have hx := XX.x
  have hb := XX.b
  have C61 : ∀ (s : g_St) (v1 : Int32) (v2 : Int32) (v3 : Int32) (v4 : Int32) (z0 : Int64), f_M_should_L61 fu s v1 v2 v3 v4 z0 = some (r, ts) → ∀ (H : Heap) (locs : List Loc), Iv G (va_A (wM G ad sa) s0.heap.size) s0 H locs (wM G ad s) → ∀ ls, lv_has ls 11 [(0, .ref (ad 0)), (1, .int v1), (2, .int v2), (3, .int v3), (4, .int v4)] → W p l e { frames := 11, cells := 0, slots := 0, locals := 289 } s0 m args below meth c H locs 0 0 (QI G below .int r (wM G ad sa) (wM G ad ts) args s0) (F0 m 61 ls [.long z0]) := by
    skip
    intro s v1 v2 v3 v4 z0 h H locs I ls hl
    unfold f_M_should_L61 at h
    refine lv_lstore (lv' := [(5, .long z0), (0, .ref (ad 0)), (1, .int v1), (2, .int v2), (3, .int v3), (4, .int v4)]) hx hb dX12_should_61 hl (by decide) rfl (fun ls hl => ?_)
    refine lv_aload_n hx hb dX12_should_63 rfl (lv_at hl 1 rfl) ?_
    refine lv_iload_n hx hb dX12_should_64 rfl (lv_at hl 2 rfl) ?_
    refine lv_iconst (v := 0) hx hb dX12_should_65 (by decide) ?_
    refine lv_iload_n hx hb dX12_should_66 rfl (lv_at hl 3 rfl) ?_
    refine lv_iconst (v := 1) hx hb dX12_should_67 (by decide) ?_
    obtain ⟨r11, s12, q13, h⟩ := bd2_some h
    refine wcall_l (rest := []) XX I hl.1 (c_M_hasNow l G OK ad fu s v1 (0 : Int32) v2 (1 : Int32) r11 s12 q13) kV_X12_325 (Rc.mk XX I (q0 := 0) (ci := 12) wM_o rfl) rfl rfl (Nat.le_of_ble_eq_true rfl) ⟨rfl, rfl, Nat.le_of_ble_eq_true rfl, Nat.le_of_ble_eq_true rfl⟩ ⟨Nat.zero_le _, Nat.zero_le _⟩ dX12_should_68 (fun H locs I => ?_)
    refine lv_lload hx hb dX12_should_71 (lv_at hl 0 rfl) ?_
    refine lv_lmul hx hb dX12_should_73 ?_
    refine lv_topl (fun y15 ey15 => ?_)
    replace h := lt_e h ey15
    refine lv_lstore (lv' := [(7, .long y15), (5, .long z0), (0, .ref (ad 0)), (1, .int v1), (2, .int v2), (3, .int v3), (4, .int v4)]) hx hb dX12_should_74 hl (by decide) rfl (fun ls hl => ?_)
    refine lv_lload hx hb dX12_should_76 (lv_at hl 0 rfl) ?_
    refine lv_aload_n hx hb dX12_should_78 rfl (lv_at hl 2 rfl) ?_
    refine lv_iload_n hx hb dX12_should_79 rfl (lv_at hl 3 rfl) ?_
    refine lv_bipush (v := 7) hx hb dX12_should_80 (by decide) ?_
    refine lv_iload_n hx hb dX12_should_82 rfl (lv_at hl 5 rfl) ?_
    refine lv_iload hx hb dX12_should_83 (lv_at hl 6 rfl) ?_
    obtain ⟨r16, s17, q18, h⟩ := bd2_some h
    refine wcall_l (rest := [.long y15]) XX I hl.1 (c_M_bestBy l G OK ad fu s12 v1 (7 : Int32) v3 v4 r16 s17 q18) kV_X12_338 (Rc.mk XX I (q0 := 0) (ci := 12) wM_o rfl) rfl rfl (Nat.le_of_ble_eq_true rfl) ⟨rfl, rfl, Nat.le_of_ble_eq_true rfl, Nat.le_of_ble_eq_true rfl⟩ ⟨Nat.zero_le _, Nat.zero_le _⟩ dX12_should_85 (fun H locs I => ?_)
    refine lv_ladd hx hb dX12_should_88 ?_
    refine lv_topl (fun y20 ey20 => ?_)
    replace h := lt_e h ey20
    refine lv_lstore (lv' := [(7, .long y20), (5, .long z0), (0, .ref (ad 0)), (1, .int v1), (2, .int v2), (3, .int v3), (4, .int v4)]) hx hb dX12_should_89 hl (by decide) rfl (fun ls hl => ?_)
    refine lv_aload_n hx hb dX12_should_91 rfl (lv_at hl 2 rfl) ?_
    refine lv_iload_n hx hb dX12_should_92 rfl (lv_at hl 3 rfl) ?_
    refine lv_iconst (v := 0) hx hb dX12_should_93 (by decide) ?_
    refine lv_iload_n hx hb dX12_should_94 rfl (lv_at hl 4 rfl) ?_
    refine lv_iconst (v := 0) hx hb dX12_should_95 (by decide) ?_
    obtain ⟨r21, s22, q23, h⟩ := bd2_some h
    refine wcall_l (rest := []) XX I hl.1 (c_M_hasNow l G OK ad fu s17 v1 (0 : Int32) v2 (0 : Int32) r21 s22 q23) kV_X12_325 (Rc.mk XX I (q0 := 0) (ci := 12) wM_o rfl) rfl rfl (Nat.le_of_ble_eq_true rfl) ⟨rfl, rfl, Nat.le_of_ble_eq_true rfl, Nat.le_of_ble_eq_true rfl⟩ ⟨Nat.zero_le _, Nat.zero_le _⟩ dX12_should_96 (fun H locs I => ?_)
    refine lv_lload hx hb dX12_should_99 (lv_at hl 1 rfl) ?_
    refine lv_lmul hx hb dX12_should_101 ?_
    refine lv_topl (fun y25 ey25 => ?_)
    replace h := lt_e h ey25
    refine lv_lstore (lv' := [(9, .long y25), (7, .long y20), (5, .long z0), (0, .ref (ad 0)), (1, .int v1), (2, .int v2), (3, .int v3), (4, .int v4)]) hx hb dX12_should_102 hl (by decide) rfl (fun ls hl => ?_)
    refine lv_lload hx hb dX12_should_104 (lv_at hl 0 rfl) ?_
    refine lv_aload_n hx hb dX12_should_106 rfl (lv_at hl 3 rfl) ?_
    refine lv_iload_n hx hb dX12_should_107 rfl (lv_at hl 4 rfl) ?_
    refine lv_bipush (v := 7) hx hb dX12_should_108 (by decide) ?_
    refine lv_iload_n hx hb dX12_should_110 rfl (lv_at hl 6 rfl) ?_
    refine lv_iload hx hb dX12_should_111 (lv_at hl 7 rfl) ?_
    obtain ⟨r26, s27, q28, h⟩ := bd2_some h
    refine wcall_l (rest := [.long y25]) XX I hl.1 (c_M_bestBy l G OK ad fu s22 v1 (7 : Int32) v3 v4 r26 s27 q28) kV_X12_338 (Rc.mk XX I (q0 := 0) (ci := 12) wM_o rfl) rfl rfl (Nat.le_of_ble_eq_true rfl) ⟨rfl, rfl, Nat.le_of_ble_eq_true rfl, Nat.le_of_ble_eq_true rfl⟩ ⟨Nat.zero_le _, Nat.zero_le _⟩ dX12_should_113 (fun H locs I => ?_)
    refine lv_ladd hx hb dX12_should_116 ?_
    refine lv_topl (fun y30 ey30 => ?_)
    replace h := lt_e h ey30
    refine lv_lstore (lv' := [(9, .long y30), (7, .long y20), (5, .long z0), (0, .ref (ad 0)), (1, .int v1), (2, .int v2), (3, .int v3), (4, .int v4)]) hx hb dX12_should_117 hl (by decide) rfl (fun ls hl => ?_)
    refine lv_lload hx hb dX12_should_119 (lv_at hl 1 rfl) ?_
    refine lv_lload hx hb dX12_should_121 (lv_at hl 0 rfl) ?_
    refine W.lcmp hx hb dX12_should_123 ?_
    refine lv_if_le (tgt := 131) hx hb dX12_should_124 (by decide) (fun c1 => ?_) (fun c1 => ?_)
    · replace h := if_t h c1
      refine lv_iconst (v := 0) hx hb dX12_should_131 (by decide) ?_
      obtain ⟨rfl, rfl⟩ := some2 h
      exact e_i rfl XX hr I rfl dX12_should_132
    · replace h := if_f h c1
      refine lv_iconst (v := 1) hx hb dX12_should_127 (by decide) ?_
      refine lv_goto (tgt := 132) hx hb dX12_should_128 (by decide) ?_
      obtain ⟨rfl, rfl⟩ := some2 h
      exact e_i rfl XX hr I rfl dX12_should_132
  unfold f_M_should at h
  refine lv_aload_n hx hb dX12_should_0 rfl (lv_at hl 0 rfl) ?_
  refine lv_iload_n hx hb dX12_should_1 rfl (lv_at hl 1 rfl) ?_
  refine wcall_i (rest := []) XX I hl.1 (c_M_isPerson l G OK ad sa x1 _ rfl) kV_X12_238 (Rc.mk XX I (q0 := 0) (ci := 12) wM_o rfl) rfl rfl (Nat.le_of_ble_eq_true rfl) ⟨rfl, rfl, Nat.le_of_ble_eq_true rfl, Nat.le_of_ble_eq_true rfl⟩ ⟨Nat.zero_le _, Nat.zero_le _⟩ dX12_should_2 (fun H locs hz1 I => ?_)
  refine lv_if_eq (tgt := 25) hx hb dX12_should_5 (by decide) (fun c1 => ?_) (fun c1 => ?_)
  · replace h := if_t h c1
    refine lv_iconst (v := (-1)) hx hb dX12_should_25 (by decide) ?_
    obtain ⟨rfl, rfl⟩ := some2 h
    exact e_i rfl XX hr I rfl dX12_should_26
  · replace h := if_f h c1
    refine lv_aload_n hx hb dX12_should_8 rfl (lv_at hl 0 rfl) ?_
    refine lv_iload_n hx hb dX12_should_9 rfl (lv_at hl 2 rfl) ?_
    refine wcall_i (rest := []) XX I hl.1 (c_M_isProposal l G OK ad sa x2 _ rfl) kV_X12_241 (Rc.mk XX I (q0 := 0) (ci := 12) wM_o rfl) rfl rfl (Nat.le_of_ble_eq_true rfl) ⟨rfl, rfl, Nat.le_of_ble_eq_true rfl, Nat.le_of_ble_eq_true rfl⟩ ⟨Nat.zero_le _, Nat.zero_le _⟩ dX12_should_10 (fun H locs hz2 I => ?_)
    refine lv_if_eq (tgt := 25) hx hb dX12_should_13 (by decide) (fun c1 => ?_) (fun c1 => ?_)
    · replace h := if_t h c1
      refine lv_iconst (v := (-1)) hx hb dX12_should_25 (by decide) ?_
      obtain ⟨rfl, rfl⟩ := some2 h
      exact e_i rfl XX hr I rfl dX12_should_26
    · replace h := if_f h c1
      refine lv_iload_n hx hb dX12_should_16 rfl (lv_at hl 3 rfl) ?_
      refine lv_iconst (v := 0) hx hb dX12_should_17 (by decide) ?_
      refine lv_iconst (v := 2) hx hb dX12_should_18 (by decide) ?_
      refine scall_i (rest := []) XX I hl.1 (c_S_in l G OK x3 (0 : Int32) (2 : Int32) _ rfl) kS_X12_99 rfl rfl (Nat.le_of_ble_eq_true rfl) ⟨rfl, rfl, Nat.le_of_ble_eq_true rfl, Nat.le_of_ble_eq_true rfl⟩ ⟨Nat.zero_le _, Nat.zero_le _⟩ dX12_should_19 (fun H locs hz3 I => ?_)
      refine lv_if_ne (tgt := 27) hx hb dX12_should_22 (by decide) (fun c1 => ?_) (fun c1 => ?_)
      · replace h := if_f h c1
        refine lv_aload_n hx hb dX12_should_27 rfl (lv_at hl 0 rfl) ?_
        refine gM_row XX I dX12_should_28 ?_
        refine lv_iload_n hx hb dX12_should_31 rfl (lv_at hl 1 rfl) ?_
        obtain ⟨g4, h⟩ := gd_some h
        refine r_iald XX I 10 (aM_row) g4 dX12_should_32 ?_
        refine lv_if_ne (tgt := 39) hx hb dX12_should_33 (by decide) (fun c1 => ?_) (fun c1 => ?_)
        · replace h := if_f h c1
          refine lv_aload_n hx hb dX12_should_39 rfl (lv_at hl 0 rfl) ?_
          obtain ⟨r5, q6, h⟩ := bd1_some h
          refine wcall_i (rest := []) XX I hl.1 (c_M_weightsInAll l G OK ad fu sa r5 q6) kV_X12_281 (Rc.mk XX I (q0 := 0) (ci := 12) wM_o rfl) rfl rfl (Nat.le_of_ble_eq_true rfl) ⟨rfl, rfl, Nat.le_of_ble_eq_true rfl, Nat.le_of_ble_eq_true rfl⟩ ⟨Nat.zero_le _, Nat.zero_le _⟩ dX12_should_40 (fun H locs hz7 I => ?_)
          refine lv_istore (lv' := [(4, .int r5), (0, .ref (ad 0)), (1, .int x1), (2, .int x2), (3, .int x3)]) hx hb dX12_should_43 hl (by decide) rfl (fun ls hl => ?_)
          refine lv_iload hx hb dX12_should_45 (lv_at hl 0 rfl) ?_
          refine lv_if_ne (tgt := 54) hx hb dX12_should_47 (by decide) (fun c1 => ?_) (fun c1 => ?_)
          · replace h := if_f h c1
            refine lv_iload hx hb dX12_should_54 (lv_at hl 0 rfl) ?_
            refine lv_i2l hx hb dX12_should_56 rfl ?_
            refine lv_iload_n hx hb dX12_should_57 rfl (lv_at hl 4 rfl) ?_
            obtain ⟨r8, q9, h⟩ := bd1_some h
            refine scall_l (rest := []) XX I hl.1 (c_S_power l G OK fu (r5.toInt64) x3 r8 q9) kS_X12_308 rfl rfl (Nat.le_of_ble_eq_true rfl) ⟨rfl, rfl, Nat.le_of_ble_eq_true rfl, Nat.le_of_ble_eq_true rfl⟩ ⟨Nat.zero_le _, Nat.zero_le _⟩ dX12_should_58 (fun H locs I => ?_)
            exact C61 _ _ _ _ _ _ h _ _ I ls (lv_sub hl [1, 2, 3, 4, 0] rfl)
          · replace h := if_t h c1
            refine lv_lconst (v := 1) hx hb dX12_should_50 (by decide) ?_
            refine lv_goto (tgt := 61) hx hb dX12_should_51 (by decide) ?_
            exact C61 _ _ _ _ _ _ h _ _ I ls (lv_sub hl [1, 2, 3, 4, 0] rfl)
        · replace h := if_t h c1
          refine lv_bipush (v := (-3)) hx hb dX12_should_36 (by decide) ?_
          obtain ⟨rfl, rfl⟩ := some2 h
          exact e_i rfl XX hr I rfl dX12_should_38
      · replace h := if_t h c1
        refine lv_iconst (v := (-1)) hx hb dX12_should_25 (by decide) ?_
        obtain ⟨rfl, rfl⟩ := some2 h
        exact e_i rfl XX hr I rfl dX12_should_26
set_option maxHeartbeats 4000000 in
set_option maxRecDepth 100000 in
theorem c_M_barOf (l : Launch) (G : g_G) (OK : EOk G.2.2) (ad : Nat → Nat) (fu : Nat) (sa : g_St) (x1 : Int32) (x2 : Int32) (r : Int32) (ts : g_St) (h : f_M_barOf fu sa x1 x2 = some (r, ts)) : HI l G yX12_barOf (Cond.code yX12_barOf cX12_barOf 11 (some .int) :: gT) { frames := 7, cells := 0, slots := 0, locals := 184 } .int [.ref (ad 0), .int x1, .int x2] (wM G ad sa) r (wM G ad ts) := by
  refine HI.mk (lv := [(0, .ref (ad 0)), (1, .int x1), (2, .int x2)]) OK (by decide) (Nat.le_of_ble_eq_true rfl) rfl ?_
  intro p e s0 m args below meth c ls XX hr I hl
  have hx := XX.x
  have hb := XX.b
  have C82 : ∀ (k50 : g_St → Int32 → Int32 → Int32 → Int32 → Int32 → Int64 → Int32 → Option (Int32 × g_St)), (∀ (s : g_St) (v1 : Int32) (v2 : Int32) (v3 : Int32) (v4 : Int32) (v5 : Int32) (v6 : Int64) (v8 : Int32), k50 s v1 v2 v3 v4 v5 v6 v8 = some (r, ts) → ∀ (H : Heap) (locs : List Loc), Iv G (va_A (wM G ad sa) s0.heap.size) s0 H locs (wM G ad s) → ∀ ls, lv_has ls 11 [(0, .ref (ad 0)), (1, .int v1), (2, .int v2), (3, .int v3), (4, .int v4), (5, .int v5), (6, .long v6), (8, .int v8)] → W p l e { frames := 7, cells := 0, slots := 0, locals := 184 } s0 m args below meth c H locs 0 0 (QI G below .int r (wM G ad sa) (wM G ad ts) args s0) (F0 m 50 ls [])) → ∀ (s : g_St) (v1 : Int32) (v2 : Int32) (v3 : Int32) (v4 : Int32) (v5 : Int32) (v6 : Int64) (v8 : Int32) (z0 : Int64), f_M_barOf_L82 fu k50 s v1 v2 v3 v4 v5 v6 v8 z0 = some (r, ts) → ∀ (H : Heap) (locs : List Loc), Iv G (va_A (wM G ad sa) s0.heap.size) s0 H locs (wM G ad s) → ∀ ls, lv_has ls 11 [(0, .ref (ad 0)), (1, .int v1), (2, .int v2), (3, .int v3), (4, .int v4), (5, .int v5), (6, .long v6), (8, .int v8)] → W p l e { frames := 7, cells := 0, slots := 0, locals := 184 } s0 m args below meth c H locs 0 0 (QI G below .int r (wM G ad sa) (wM G ad ts) args s0) (F0 m 82 ls [.long z0]) := by
    intro k50 hk50
    intro s v1 v2 v3 v4 v5 v6 v8 z0 h H locs I ls hl
    unfold f_M_barOf_L82 at h
    refine lv_lstore (lv' := [(9, .long z0), (0, .ref (ad 0)), (1, .int v1), (2, .int v2), (3, .int v3), (4, .int v4), (5, .int v5), (6, .long v6), (8, .int v8)]) hx hb dX12_barOf_82 hl (by decide) rfl (fun ls hl => ?_)
    refine lv_iload hx hb dX12_barOf_84 (lv_at hl 8 rfl) ?_
    refine lv_if_eq (tgt := 97) hx hb dX12_barOf_86 (by decide) (fun c1 => ?_) (fun c1 => ?_)
    · replace h := if_t h c1
      refine lv_lload hx hb dX12_barOf_97 (lv_at hl 0 rfl) ?_
      refine lv_lstore (lv' := [(6, .long z0), (9, .long z0), (0, .ref (ad 0)), (1, .int v1), (2, .int v2), (3, .int v3), (4, .int v4), (5, .int v5), (8, .int v8)]) hx hb dX12_barOf_99 hl (by decide) rfl (fun ls hl => ?_)
      refine lv_iload hx hb dX12_barOf_101 (lv_at hl 8 rfl) ?_
      refine lv_istore (lv' := [(5, .int v8), (6, .long z0), (9, .long z0), (0, .ref (ad 0)), (1, .int v1), (2, .int v2), (3, .int v3), (4, .int v4), (8, .int v8)]) hx hb dX12_barOf_103 hl (by decide) rfl (fun ls hl => ?_)
      obtain ⟨y22, ey22⟩ : ∃ z : Int32, z = v8 + (1 : Int32) := ⟨_, rfl⟩
      replace h := lt_e h ey22
      refine lv_iinc (v := y22) (lv' := [(8, .int y22), (5, .int v8), (6, .long z0), (9, .long z0), (0, .ref (ad 0)), (1, .int v1), (2, .int v2), (3, .int v3), (4, .int v4)]) hx hb dX12_barOf_105 hl (k := 8) rfl (by rw [ey22]; rfl) (by decide) rfl (fun ls hl => ?_)
      refine lv_goto (tgt := 50) hx hb dX12_barOf_108 (by decide) ?_
      exact hk50 _ _ _ _ _ _ _ _ h _ _ I ls (lv_sub hl [4, 5, 6, 7, 8, 1, 2, 0] rfl)
    · replace h := if_f h c1
      refine lv_lload hx hb dX12_barOf_89 (lv_at hl 0 rfl) ?_
      refine lv_lload hx hb dX12_barOf_91 (lv_at hl 7 rfl) ?_
      refine W.lcmp hx hb dX12_barOf_93 ?_
      refine lv_if_le (tgt := 105) hx hb dX12_barOf_94 (by decide) (fun c1 => ?_) (fun c1 => ?_)
      · replace h := if_t h c1
        obtain ⟨y23, ey23⟩ : ∃ z : Int32, z = v8 + (1 : Int32) := ⟨_, rfl⟩
        replace h := lt_e h ey23
        refine lv_iinc (v := y23) (lv' := [(8, .int y23), (9, .long z0), (0, .ref (ad 0)), (1, .int v1), (2, .int v2), (3, .int v3), (4, .int v4), (5, .int v5), (6, .long v6)]) hx hb dX12_barOf_105 hl (k := 8) rfl (by rw [ey23]; rfl) (by decide) rfl (fun ls hl => ?_)
        refine lv_goto (tgt := 50) hx hb dX12_barOf_108 (by decide) ?_
        exact hk50 _ _ _ _ _ _ _ _ h _ _ I ls (lv_sub hl [2, 3, 4, 5, 6, 7, 8, 0] rfl)
      · replace h := if_f h c1
        refine lv_lload hx hb dX12_barOf_97 (lv_at hl 0 rfl) ?_
        refine lv_lstore (lv' := [(6, .long z0), (9, .long z0), (0, .ref (ad 0)), (1, .int v1), (2, .int v2), (3, .int v3), (4, .int v4), (5, .int v5), (8, .int v8)]) hx hb dX12_barOf_99 hl (by decide) rfl (fun ls hl => ?_)
        refine lv_iload hx hb dX12_barOf_101 (lv_at hl 8 rfl) ?_
        refine lv_istore (lv' := [(5, .int v8), (6, .long z0), (9, .long z0), (0, .ref (ad 0)), (1, .int v1), (2, .int v2), (3, .int v3), (4, .int v4), (8, .int v8)]) hx hb dX12_barOf_103 hl (by decide) rfl (fun ls hl => ?_)
        obtain ⟨y24, ey24⟩ : ∃ z : Int32, z = v8 + (1 : Int32) := ⟨_, rfl⟩
        replace h := lt_e h ey24
        refine lv_iinc (v := y24) (lv' := [(8, .int y24), (5, .int v8), (6, .long z0), (9, .long z0), (0, .ref (ad 0)), (1, .int v1), (2, .int v2), (3, .int v3), (4, .int v4)]) hx hb dX12_barOf_105 hl (k := 8) rfl (by rw [ey24]; rfl) (by decide) rfl (fun ls hl => ?_)
        refine lv_goto (tgt := 50) hx hb dX12_barOf_108 (by decide) ?_
        exact hk50 _ _ _ _ _ _ _ _ h _ _ I ls (lv_sub hl [4, 5, 6, 7, 8, 1, 2, 0] rfl)
  have C50 : ∀ n : Nat, ∀ (s : g_St) (v1 : Int32) (v2 : Int32) (v3 : Int32) (v4 : Int32) (v5 : Int32) (v6 : Int64) (v8 : Int32), f_M_barOf_L50 fu n s v1 v2 v3 v4 v5 v6 v8 = some (r, ts) → ∀ (H : Heap) (locs : List Loc), Iv G (va_A (wM G ad sa) s0.heap.size) s0 H locs (wM G ad s) → ∀ ls, lv_has ls 11 [(0, .ref (ad 0)), (1, .int v1), (2, .int v2), (3, .int v3), (4, .int v4), (5, .int v5), (6, .long v6), (8, .int v8)] → W p l e { frames := 7, cells := 0, slots := 0, locals := 184 } s0 m args below meth c H locs 0 0 (QI G below .int r (wM G ad sa) (wM G ad ts) args s0) (F0 m 50 ls []) := by
    intro n
    induction n with
    | zero => intro s v1 v2 v3 v4 v5 v6 v8 h; exact absurd h (fun q => by cases q)
    | succ n ih =>
      intro s v1 v2 v3 v4 v5 v6 v8 h H locs I ls hl
      rw [f_M_barOf_L50] at h
      refine lv_iload hx hb dX12_barOf_50 (lv_at hl 7 rfl) ?_
      refine lv_bipush (v := 10) hx hb dX12_barOf_52 (by decide) ?_
      refine lv_icmp_ge (tgt := 111) hx hb dX12_barOf_54 (by decide) (fun c1 => ?_) (fun c1 => ?_)
      · replace h := if_t h c1
        refine lv_aload_n hx hb dX12_barOf_111 rfl (lv_at hl 0 rfl) ?_
        refine gM_kindOf XX I dX12_barOf_112 ?_
        refine lv_iload_n hx hb dX12_barOf_115 rfl (lv_at hl 1 rfl) ?_
        refine lv_iload_n hx hb dX12_barOf_116 rfl (lv_at hl 3 rfl) ?_
        obtain ⟨g9, h⟩ := gd_some h
        refine r_iast XX I 1 (aM_kindOf) (sM_kindOf) g9 dX12_barOf_117 (fun H locs I => ?_)
        obtain ⟨s10, es10⟩ : ∃ z, z = sr s 1 v1 v3 := ⟨_, rfl⟩
        replace h := lt_e h es10
        replace I : Iv G (va_A (wM G ad sa) s0.heap.size) s0 H locs (wM G ad s10) := by rw [es10]; exact I
        refine lv_aload_n hx hb dX12_barOf_118 rfl (lv_at hl 0 rfl) ?_
        refine gM_aOf XX I dX12_barOf_119 ?_
        refine lv_iload_n hx hb dX12_barOf_122 rfl (lv_at hl 1 rfl) ?_
        refine lv_iload hx hb dX12_barOf_123 (lv_at hl 4 rfl) ?_
        obtain ⟨g11, h⟩ := gd_some h
        refine r_iast XX I 2 (aM_aOf) (sM_aOf) g11 dX12_barOf_125 (fun H locs I => ?_)
        obtain ⟨s12, es12⟩ : ∃ z, z = sr s10 2 v1 v4 := ⟨_, rfl⟩
        replace h := lt_e h es12
        replace I : Iv G (va_A (wM G ad sa) s0.heap.size) s0 H locs (wM G ad s12) := by rw [es12]; exact I
        refine lv_iload hx hb dX12_barOf_126 (lv_at hl 5 rfl) ?_
        obtain ⟨rfl, rfl⟩ := some2 h
        exact e_i rfl XX hr I rfl dX12_barOf_128
      · replace h := if_f h c1
        refine lv_aload_n hx hb dX12_barOf_57 rfl (lv_at hl 0 rfl) ?_
        refine gM_aOf XX I dX12_barOf_58 ?_
        refine lv_iload_n hx hb dX12_barOf_61 rfl (lv_at hl 1 rfl) ?_
        refine lv_iload hx hb dX12_barOf_62 (lv_at hl 7 rfl) ?_
        obtain ⟨g13, h⟩ := gd_some h
        refine r_iast XX I 2 (aM_aOf) (sM_aOf) g13 dX12_barOf_64 (fun H locs I => ?_)
        obtain ⟨s14, es14⟩ : ∃ z, z = sr s 2 v1 v8 := ⟨_, rfl⟩
        replace h := lt_e h es14
        replace I : Iv G (va_A (wM G ad sa) s0.heap.size) s0 H locs (wM G ad s14) := by rw [es14]; exact I
        refine lv_aload_n hx hb dX12_barOf_65 rfl (lv_at hl 0 rfl) ?_
        obtain ⟨r15, q16, h⟩ := bd1_some h
        refine wcall_i (rest := []) XX I hl.1 (c_M_weightsInAll l G OK ad fu s14 r15 q16) kV_X12_281 (Rc.mk XX I (q0 := 0) (ci := 12) wM_o rfl) rfl rfl (Nat.le_of_ble_eq_true rfl) ⟨rfl, rfl, Nat.le_of_ble_eq_true rfl, Nat.le_of_ble_eq_true rfl⟩ ⟨Nat.zero_le _, Nat.zero_le _⟩ dX12_barOf_66 (fun H locs hz17 I => ?_)
        refine lv_if_ne (tgt := 76) hx hb dX12_barOf_69 (by decide) (fun c1 => ?_) (fun c1 => ?_)
        · replace h := if_f h c1
          refine lv_aload_n hx hb dX12_barOf_76 rfl (lv_at hl 0 rfl) ?_
          refine lv_iload_n hx hb dX12_barOf_77 rfl (lv_at hl 1 rfl) ?_
          refine lv_iload_n hx hb dX12_barOf_78 rfl (lv_at hl 2 rfl) ?_
          obtain ⟨r18, s19, q20, h⟩ := bd2_some h
          refine wcall_l (rest := []) XX I hl.1 (c_M_valueOf l G OK ad fu s14 v1 v2 r18 s19 q20) kV_X12_304 (Rc.mk XX I (q0 := 0) (ci := 12) wM_o rfl) rfl rfl (Nat.le_of_ble_eq_true rfl) ⟨rfl, rfl, Nat.le_of_ble_eq_true rfl, Nat.le_of_ble_eq_true rfl⟩ ⟨Nat.zero_le _, Nat.zero_le _⟩ dX12_barOf_79 (fun H locs I => ?_)
          exact C82 (f_M_barOf_L50 fu n) ih _ _ _ _ _ _ _ _ _ h _ _ I ls (lv_sub hl [0, 1, 2, 3, 4, 5, 6, 7] rfl)
        · replace h := if_t h c1
          refine lv_lconst (v := 0) hx hb dX12_barOf_72 (by decide) ?_
          refine lv_goto (tgt := 82) hx hb dX12_barOf_73 (by decide) ?_
          exact C82 (f_M_barOf_L50 fu n) ih _ _ _ _ _ _ _ _ _ h _ _ I ls (lv_sub hl [0, 1, 2, 3, 4, 5, 6, 7] rfl)
  unfold f_M_barOf at h
  refine lv_aload_n hx hb dX12_barOf_0 rfl (lv_at hl 0 rfl) ?_
  refine lv_iload_n hx hb dX12_barOf_1 rfl (lv_at hl 1 rfl) ?_
  refine wcall_i (rest := []) XX I hl.1 (c_M_isPerson l G OK ad sa x1 _ rfl) kV_X12_238 (Rc.mk XX I (q0 := 0) (ci := 12) wM_o rfl) rfl rfl (Nat.le_of_ble_eq_true rfl) ⟨rfl, rfl, Nat.le_of_ble_eq_true rfl, Nat.le_of_ble_eq_true rfl⟩ ⟨Nat.zero_le _, Nat.zero_le _⟩ dX12_barOf_2 (fun H locs hz1 I => ?_)
  refine lv_if_eq (tgt := 17) hx hb dX12_barOf_5 (by decide) (fun c1 => ?_) (fun c1 => ?_)
  · replace h := if_t h c1
    refine lv_iconst (v := (-1)) hx hb dX12_barOf_17 (by decide) ?_
    obtain ⟨rfl, rfl⟩ := some2 h
    exact e_i rfl XX hr I rfl dX12_barOf_18
  · replace h := if_f h c1
    refine lv_iload_n hx hb dX12_barOf_8 rfl (lv_at hl 2 rfl) ?_
    refine lv_iconst (v := 1) hx hb dX12_barOf_9 (by decide) ?_
    refine lv_iconst (v := 2) hx hb dX12_barOf_10 (by decide) ?_
    refine scall_i (rest := []) XX I hl.1 (c_S_in l G OK x2 (1 : Int32) (2 : Int32) _ rfl) kS_X12_99 rfl rfl (Nat.le_of_ble_eq_true rfl) ⟨rfl, rfl, Nat.le_of_ble_eq_true rfl, Nat.le_of_ble_eq_true rfl⟩ ⟨Nat.zero_le _, Nat.zero_le _⟩ dX12_barOf_11 (fun H locs hz2 I => ?_)
    refine lv_if_ne (tgt := 19) hx hb dX12_barOf_14 (by decide) (fun c1 => ?_) (fun c1 => ?_)
    · replace h := if_f h c1
      refine lv_aload_n hx hb dX12_barOf_19 rfl (lv_at hl 0 rfl) ?_
      refine gM_kindOf XX I dX12_barOf_20 ?_
      refine lv_iload_n hx hb dX12_barOf_23 rfl (lv_at hl 1 rfl) ?_
      obtain ⟨g3, h⟩ := gd_some h
      refine r_iald XX I 1 (aM_kindOf) g3 dX12_barOf_24 ?_
      refine lv_topi (fun y4 ey4 => ?_)
      replace h := lt_e h ey4
      refine lv_istore_n (lv' := [(3, .int y4), (0, .ref (ad 0)), (1, .int x1), (2, .int x2)]) hx hb dX12_barOf_25 rfl hl (by decide) rfl (fun ls hl => ?_)
      refine lv_aload_n hx hb dX12_barOf_26 rfl (lv_at hl 1 rfl) ?_
      refine gM_aOf XX I dX12_barOf_27 ?_
      refine lv_iload_n hx hb dX12_barOf_30 rfl (lv_at hl 2 rfl) ?_
      obtain ⟨g5, h⟩ := gd_some h
      refine r_iald XX I 2 (aM_aOf) g5 dX12_barOf_31 ?_
      refine lv_topi (fun y6 ey6 => ?_)
      replace h := lt_e h ey6
      refine lv_istore (lv' := [(4, .int y6), (3, .int y4), (0, .ref (ad 0)), (1, .int x1), (2, .int x2)]) hx hb dX12_barOf_32 hl (by decide) rfl (fun ls hl => ?_)
      refine lv_aload_n hx hb dX12_barOf_34 rfl (lv_at hl 2 rfl) ?_
      refine gM_kindOf XX I dX12_barOf_35 ?_
      refine lv_iload_n hx hb dX12_barOf_38 rfl (lv_at hl 3 rfl) ?_
      refine lv_iconst (v := 2) hx hb dX12_barOf_39 (by decide) ?_
      obtain ⟨g7, h⟩ := gd_some h
      refine r_iast XX I 1 (aM_kindOf) (sM_kindOf) g7 dX12_barOf_40 (fun H locs I => ?_)
      obtain ⟨s8, es8⟩ : ∃ z, z = sr sa 1 x1 (2 : Int32) := ⟨_, rfl⟩
      replace h := lt_e h es8
      replace I : Iv G (va_A (wM G ad sa) s0.heap.size) s0 H locs (wM G ad s8) := by rw [es8]; exact I
      refine lv_iconst (v := 0) hx hb dX12_barOf_41 (by decide) ?_
      refine lv_istore (lv' := [(5, .int (0 : Int32)), (4, .int y6), (3, .int y4), (0, .ref (ad 0)), (1, .int x1), (2, .int x2)]) hx hb dX12_barOf_42 hl (by decide) rfl (fun ls hl => ?_)
      refine lv_lconst (v := 0) hx hb dX12_barOf_44 (by decide) ?_
      refine lv_lstore (lv' := [(6, .long (0 : Int64)), (5, .int (0 : Int32)), (4, .int y6), (3, .int y4), (0, .ref (ad 0)), (1, .int x1), (2, .int x2)]) hx hb dX12_barOf_45 hl (by decide) rfl (fun ls hl => ?_)
      refine lv_iconst (v := 0) hx hb dX12_barOf_47 (by decide) ?_
      refine lv_istore (lv' := [(8, .int (0 : Int32)), (6, .long (0 : Int64)), (5, .int (0 : Int32)), (4, .int y6), (3, .int y4), (0, .ref (ad 0)), (1, .int x1), (2, .int x2)]) hx hb dX12_barOf_48 hl (by decide) rfl (fun ls hl => ?_)
      exact C50 fu _ _ _ _ _ _ _ _ h _ _ I ls (lv_sub hl [5, 6, 7, 4, 3, 2, 1, 0] rfl)
    · replace h := if_t h c1
      refine lv_iconst (v := (-1)) hx hb dX12_barOf_17 (by decide) ?_
      obtain ⟨rfl, rfl⟩ := some2 h
      exact e_i rfl XX hr I rfl dX12_barOf_18
set_option maxHeartbeats 4000000 in
set_option maxRecDepth 100000 in
theorem c_M_passes (l : Launch) (G : g_G) (OK : EOk G.2.2) (ad : Nat → Nat) (fu : Nat) (sa : g_St) (x1 : Int32) (x2 : Int32) (x3 : Int32) (r : Int32) (ts : g_St) (h : f_M_passes fu sa x1 x2 x3 = some (r, ts)) : HI l G yX12_passes (Cond.code yX12_passes cX12_passes 8 (some .boolean) :: gT) { frames := 6, cells := 0, slots := 0, locals := 151 } .boolean [.ref (ad 0), .int x1, .int x2, .int x3] (wM G ad sa) r (wM G ad ts) := by
  refine HI.mk (lv := [(0, .ref (ad 0)), (1, .int x1), (2, .int x2), (3, .int x3)]) OK (by decide) (Nat.le_of_ble_eq_true rfl) rfl ?_
  intro p e s0 m args below meth c ls XX hr I hl
  have hx := XX.x
  have hb := XX.b
  have C36 : ∀ n : Nat, ∀ (s : g_St) (v1 : Int32) (v2 : Int32) (v4 : Int32) (v5 : Int32) (v6 : Int32) (v7 : Int32), f_M_passes_L36 fu n s v1 v2 v4 v5 v6 v7 = some (r, ts) → ∀ (H : Heap) (locs : List Loc), Iv G (va_A (wM G ad sa) s0.heap.size) s0 H locs (wM G ad s) → ∀ ls, lv_has ls 8 [(0, .ref (ad 0)), (1, .int v1), (2, .int v2), (4, .int v4), (5, .int v5), (6, .int v6), (7, .int v7)] → W p l e { frames := 6, cells := 0, slots := 0, locals := 151 } s0 m args below meth c H locs 0 0 (QI G below .boolean r (wM G ad sa) (wM G ad ts) args s0) (F0 m 36 ls []) := by
    intro n
    induction n with
    | zero => intro s v1 v2 v4 v5 v6 v7 h; exact absurd h (fun q => by cases q)
    | succ n ih =>
      intro s v1 v2 v4 v5 v6 v7 h H locs I ls hl
      rw [f_M_passes_L36] at h
      refine lv_iload hx hb dX12_passes_36 (lv_at hl 6 rfl) ?_
      refine lv_iload_n hx hb dX12_passes_38 rfl (lv_at hl 2 rfl) ?_
      refine lv_icmp_ge (tgt := 92) hx hb dX12_passes_39 (by decide) (fun c1 => ?_) (fun c1 => ?_)
      · replace h := if_t h c1
        refine lv_aload_n hx hb dX12_passes_92 rfl (lv_at hl 0 rfl) ?_
        refine lv_iload hx hb dX12_passes_93 (lv_at hl 5 rfl) ?_
        refine lv_bipush (v := 7) hx hb dX12_passes_95 (by decide) ?_
        refine lv_iload_n hx hb dX12_passes_97 rfl (lv_at hl 1 rfl) ?_
        obtain ⟨r3, s4, q5, h⟩ := bd2_some h
        refine wcall_i (rest := []) XX I hl.1 (c_M_goes l G OK ad fu s v6 (7 : Int32) v1 r3 s4 q5) kV_X12_274 (Rc.mk XX I (q0 := 0) (ci := 12) wM_o rfl) rfl rfl (Nat.le_of_ble_eq_true rfl) ⟨rfl, rfl, Nat.le_of_ble_eq_true rfl, Nat.le_of_ble_eq_true rfl⟩ ⟨Nat.zero_le _, Nat.zero_le _⟩ dX12_passes_98 (fun H locs hz6 I => ?_)
        refine lv_if_ne (tgt := 108) hx hb dX12_passes_101 (by decide) (fun c1 => ?_) (fun c1 => ?_)
        · replace h := if_f h c1
          refine lv_iconst (v := 0) hx hb dX12_passes_108 (by decide) ?_
          obtain ⟨rfl, rfl⟩ := some2 h
          exact e_z XX hr I rfl rfl dX12_passes_109
        · replace h := if_t h c1
          refine lv_iconst (v := 1) hx hb dX12_passes_104 (by decide) ?_
          refine lv_goto (tgt := 109) hx hb dX12_passes_105 (by decide) ?_
          obtain ⟨rfl, rfl⟩ := some2 h
          exact e_z XX hr I rfl rfl dX12_passes_109
      · replace h := if_f h c1
        refine lv_aload_n hx hb dX12_passes_42 rfl (lv_at hl 0 rfl) ?_
        refine lv_iload hx hb dX12_passes_43 (lv_at hl 5 rfl) ?_
        refine lv_bipush (v := 7) hx hb dX12_passes_45 (by decide) ?_
        refine lv_iload hx hb dX12_passes_47 (lv_at hl 4 rfl) ?_
        refine lv_iload hx hb dX12_passes_49 (lv_at hl 3 rfl) ?_
        obtain ⟨g7, h⟩ := gd_some h
        refine lv_idiv hx hb dX12_passes_51 g7 ?_
        obtain ⟨r8, s9, q10, h⟩ := bd2_some h
        refine wcall_i (rest := []) XX I hl.1 (c_M_goes l G OK ad fu s v6 (7 : Int32) (v5 / v4) r8 s9 q10) kV_X12_274 (Rc.mk XX I (q0 := 0) (ci := 12) wM_o rfl) rfl rfl (Nat.le_of_ble_eq_true rfl) ⟨rfl, rfl, Nat.le_of_ble_eq_true rfl, Nat.le_of_ble_eq_true rfl⟩ ⟨Nat.zero_le _, Nat.zero_le _⟩ dX12_passes_52 (fun H locs hz11 I => ?_)
        refine lv_pop hx hb dX12_passes_55 rfl ?_
        refine lv_bipush (v := 7) hx hb dX12_passes_56 (by decide) ?_
        refine lv_istore (lv' := [(6, .int (7 : Int32)), (0, .ref (ad 0)), (1, .int v1), (2, .int v2), (4, .int v4), (5, .int v5), (7, .int v7)]) hx hb dX12_passes_58 hl (by decide) rfl (fun ls hl => ?_)
        refine lv_iload hx hb dX12_passes_60 (lv_at hl 5 rfl) ?_
        refine lv_iload hx hb dX12_passes_62 (lv_at hl 4 rfl) ?_
        obtain ⟨g12, h⟩ := gd_some h
        refine lv_irem hx hb dX12_passes_64 g12 ?_
        refine lv_topi (fun y13 ey13 => ?_)
        replace h := lt_e h ey13
        refine lv_istore (lv' := [(5, .int y13), (6, .int (7 : Int32)), (0, .ref (ad 0)), (1, .int v1), (2, .int v2), (4, .int v4), (7, .int v7)]) hx hb dX12_passes_65 hl (by decide) rfl (fun ls hl => ?_)
        refine lv_iload hx hb dX12_passes_67 (lv_at hl 5 rfl) ?_
        refine lv_iconst (v := 1) hx hb dX12_passes_69 (by decide) ?_
        refine lv_icmp_le (tgt := 83) hx hb dX12_passes_70 (by decide) (fun c1 => ?_) (fun c1 => ?_)
        · replace h := if_t h c1
          refine lv_iconst (v := 1) hx hb dX12_passes_83 (by decide) ?_
          refine lv_istore (lv' := [(4, .int (1 : Int32)), (5, .int y13), (6, .int (7 : Int32)), (0, .ref (ad 0)), (1, .int v1), (2, .int v2), (7, .int v7)]) hx hb dX12_passes_84 hl (by decide) rfl (fun ls hl => ?_)
          obtain ⟨y14, ey14⟩ : ∃ z : Int32, z = v7 + (1 : Int32) := ⟨_, rfl⟩
          replace h := lt_e h ey14
          refine lv_iinc (v := y14) (lv' := [(7, .int y14), (4, .int (1 : Int32)), (5, .int y13), (6, .int (7 : Int32)), (0, .ref (ad 0)), (1, .int v1), (2, .int v2)]) hx hb dX12_passes_86 hl (k := 6) rfl (by rw [ey14]; rfl) (by decide) rfl (fun ls hl => ?_)
          refine lv_goto (tgt := 36) hx hb dX12_passes_89 (by decide) ?_
          exact ih _ _ _ _ _ _ _ h _ _ I ls (lv_sub hl [4, 5, 6, 1, 2, 3, 0] rfl)
        · replace h := if_f h c1
          refine lv_iload hx hb dX12_passes_73 (lv_at hl 5 rfl) ?_
          refine lv_aload_n hx hb dX12_passes_75 rfl (lv_at hl 2 rfl) ?_
          refine gM_proposals XX I dX12_passes_76 ?_
          obtain ⟨g15, h⟩ := gd_some h
          refine lv_idiv hx hb dX12_passes_79 g15 ?_
          refine lv_goto (tgt := 84) hx hb dX12_passes_80 (by decide) ?_
          refine lv_topi (fun y16 ey16 => ?_)
          replace h := lt_e h ey16
          refine lv_istore (lv' := [(4, .int y16), (5, .int y13), (6, .int (7 : Int32)), (0, .ref (ad 0)), (1, .int v1), (2, .int v2), (7, .int v7)]) hx hb dX12_passes_84 hl (by decide) rfl (fun ls hl => ?_)
          obtain ⟨y17, ey17⟩ : ∃ z : Int32, z = v7 + (1 : Int32) := ⟨_, rfl⟩
          replace h := lt_e h ey17
          refine lv_iinc (v := y17) (lv' := [(7, .int y17), (4, .int y16), (5, .int y13), (6, .int (7 : Int32)), (0, .ref (ad 0)), (1, .int v1), (2, .int v2)]) hx hb dX12_passes_86 hl (k := 6) rfl (by rw [ey17]; rfl) (by decide) rfl (fun ls hl => ?_)
          refine lv_goto (tgt := 36) hx hb dX12_passes_89 (by decide) ?_
          exact ih _ _ _ _ _ _ _ h _ _ I ls (lv_sub hl [4, 5, 6, 1, 2, 3, 0] rfl)
  have C6 : ∀ n : Nat, ∀ (s : g_St) (v1 : Int32) (v2 : Int32) (v3 : Int32) (v4 : Int32) (v5 : Int32), f_M_passes_L6 fu n s v1 v2 v3 v4 v5 = some (r, ts) → ∀ (H : Heap) (locs : List Loc), Iv G (va_A (wM G ad sa) s0.heap.size) s0 H locs (wM G ad s) → ∀ ls, lv_has ls 8 [(0, .ref (ad 0)), (1, .int v1), (2, .int v2), (3, .int v3), (4, .int v4), (5, .int v5)] → W p l e { frames := 6, cells := 0, slots := 0, locals := 151 } s0 m args below meth c H locs 0 0 (QI G below .boolean r (wM G ad sa) (wM G ad ts) args s0) (F0 m 6 ls []) := by
    intro n
    induction n with
    | zero => intro s v1 v2 v3 v4 v5 h; exact absurd h (fun q => by cases q)
    | succ n ih =>
      intro s v1 v2 v3 v4 v5 h H locs I ls hl
      rw [f_M_passes_L6] at h
      refine lv_iload hx hb dX12_passes_6 (lv_at hl 5 rfl) ?_
      refine lv_iload_n hx hb dX12_passes_8 rfl (lv_at hl 2 rfl) ?_
      refine lv_icmp_ge (tgt := 27) hx hb dX12_passes_9 (by decide) (fun c1 => ?_) (fun c1 => ?_)
      · replace h := if_t h c1
        refine lv_iload_n hx hb dX12_passes_27 rfl (lv_at hl 3 rfl) ?_
        refine lv_istore (lv' := [(5, .int v3), (0, .ref (ad 0)), (1, .int v1), (2, .int v2), (3, .int v3), (4, .int v4)]) hx hb dX12_passes_28 hl (by decide) rfl (fun ls hl => ?_)
        refine lv_iconst (v := 0) hx hb dX12_passes_30 (by decide) ?_
        refine lv_istore (lv' := [(6, .int (0 : Int32)), (5, .int v3), (0, .ref (ad 0)), (1, .int v1), (2, .int v2), (3, .int v3), (4, .int v4)]) hx hb dX12_passes_31 hl (by decide) rfl (fun ls hl => ?_)
        refine lv_iconst (v := 0) hx hb dX12_passes_33 (by decide) ?_
        refine lv_istore (lv' := [(7, .int (0 : Int32)), (6, .int (0 : Int32)), (5, .int v3), (0, .ref (ad 0)), (1, .int v1), (2, .int v2), (3, .int v3), (4, .int v4)]) hx hb dX12_passes_34 hl (by decide) rfl (fun ls hl => ?_)
        exact C36 fu _ _ _ _ _ _ _ h _ _ I ls (lv_sub hl [3, 4, 5, 7, 2, 1, 0] rfl)
      · replace h := if_f h c1
        refine lv_iload hx hb dX12_passes_12 (lv_at hl 4 rfl) ?_
        refine lv_aload_n hx hb dX12_passes_14 rfl (lv_at hl 0 rfl) ?_
        refine gM_proposals XX I dX12_passes_15 ?_
        refine lv_imul hx hb dX12_passes_18 ?_
        refine lv_topi (fun y1 ey1 => ?_)
        replace h := lt_e h ey1
        refine lv_istore (lv' := [(4, .int y1), (0, .ref (ad 0)), (1, .int v1), (2, .int v2), (3, .int v3), (5, .int v5)]) hx hb dX12_passes_19 hl (by decide) rfl (fun ls hl => ?_)
        obtain ⟨y2, ey2⟩ : ∃ z : Int32, z = v5 + (1 : Int32) := ⟨_, rfl⟩
        replace h := lt_e h ey2
        refine lv_iinc (v := y2) (lv' := [(5, .int y2), (4, .int y1), (0, .ref (ad 0)), (1, .int v1), (2, .int v2), (3, .int v3)]) hx hb dX12_passes_21 hl (k := 5) rfl (by rw [ey2]; rfl) (by decide) rfl (fun ls hl => ?_)
        refine lv_goto (tgt := 6) hx hb dX12_passes_24 (by decide) ?_
        exact ih _ _ _ _ _ _ h _ _ I ls (lv_sub hl [2, 3, 4, 5, 1, 0] rfl)
  unfold f_M_passes at h
  refine lv_iconst (v := 1) hx hb dX12_passes_0 (by decide) ?_
  refine lv_istore (lv' := [(4, .int (1 : Int32)), (0, .ref (ad 0)), (1, .int x1), (2, .int x2), (3, .int x3)]) hx hb dX12_passes_1 hl (by decide) rfl (fun ls hl => ?_)
  refine lv_iconst (v := 1) hx hb dX12_passes_3 (by decide) ?_
  refine lv_istore (lv' := [(5, .int (1 : Int32)), (4, .int (1 : Int32)), (0, .ref (ad 0)), (1, .int x1), (2, .int x2), (3, .int x3)]) hx hb dX12_passes_4 hl (by decide) rfl (fun ls hl => ?_)
  exact C6 fu _ _ _ _ _ _ h _ _ I ls (lv_sub hl [2, 3, 4, 5, 1, 0] rfl)
set_option maxHeartbeats 4000000 in
set_option maxRecDepth 100000 in
theorem c_M_digitsOf (l : Launch) (G : g_G) (OK : EOk G.2.2) (ad : Nat → Nat) (fu : Nat) (sa : g_St) (x1 : Int32) (x2 : Int32) (r : Int32) (h : f_M_digitsOf fu sa x1 x2 = some r) : HI l G yX12_digitsOf (Cond.code yX12_digitsOf cX12_digitsOf 6 (some .int) :: gT) { frames := 0, cells := 0, slots := 0, locals := 0 } .int [.ref (ad 0), .int x1, .int x2] (wM G ad sa) r (wM G ad sa) := by
  refine HI.mk (lv := [(0, .ref (ad 0)), (1, .int x1), (2, .int x2)]) OK (by decide) (Nat.le_of_ble_eq_true rfl) rfl ?_
  intro p e s0 m args below meth c ls XX hr I hl
  have hx := XX.x
  have hb := XX.b
  have C10 : ∀ n : Nat, ∀ (v3 : Int32) (v4 : Int32) (v5 : Int32), f_M_digitsOf_L10 fu n sa v3 v4 v5 = some r → ∀ (H : Heap) (locs : List Loc), Iv G (va_A (wM G ad sa) s0.heap.size) s0 H locs (wM G ad sa) → ∀ ls, lv_has ls 6 [(0, .ref (ad 0)), (3, .int v3), (4, .int v4), (5, .int v5)] → W p l e { frames := 0, cells := 0, slots := 0, locals := 0 } s0 m args below meth c H locs 0 0 (QI G below .int r (wM G ad sa) (wM G ad sa) args s0) (F0 m 10 ls []) := by
    intro n
    induction n with
    | zero => intro v3 v4 v5 h; exact absurd h (fun q => by cases q)
    | succ n ih =>
      intro v3 v4 v5 h H locs I ls hl
      rw [f_M_digitsOf_L10] at h
      refine lv_iload hx hb dX12_digitsOf_10 (lv_at hl 3 rfl) ?_
      refine lv_if_lt (tgt := 45) hx hb dX12_digitsOf_12 (by decide) (fun c1 => ?_) (fun c1 => ?_)
      · replace h := if_t h c1
        refine lv_iload_n hx hb dX12_digitsOf_45 rfl (lv_at hl 1 rfl) ?_
        obtain rfl := some1 h
        exact e_i rfl XX hr I rfl dX12_digitsOf_46
      · replace h := if_f h c1
        refine lv_iload_n hx hb dX12_digitsOf_15 rfl (lv_at hl 1 rfl) ?_
        refine lv_iload hx hb dX12_digitsOf_16 (lv_at hl 2 rfl) ?_
        refine lv_aload_n hx hb dX12_digitsOf_18 rfl (lv_at hl 0 rfl) ?_
        refine gM_proposals XX I dX12_digitsOf_19 ?_
        obtain ⟨g2, h⟩ := gd_some h
        refine lv_irem hx hb dX12_digitsOf_22 g2 ?_
        refine lv_iconst (v := 3) hx hb dX12_digitsOf_23 (by decide) ?_
        refine lv_iload hx hb dX12_digitsOf_24 (lv_at hl 3 rfl) ?_
        refine lv_imul hx hb dX12_digitsOf_26 ?_
        refine lv_ishl hx hb dX12_digitsOf_27 ?_
        refine lv_ior hx hb dX12_digitsOf_28 ?_
        refine lv_topi (fun y3 ey3 => ?_)
        replace h := lt_e h ey3
        refine lv_istore_n (lv' := [(3, .int y3), (0, .ref (ad 0)), (4, .int v4), (5, .int v5)]) hx hb dX12_digitsOf_29 rfl hl (by decide) rfl (fun ls hl => ?_)
        refine lv_iload hx hb dX12_digitsOf_30 (lv_at hl 2 rfl) ?_
        refine lv_aload_n hx hb dX12_digitsOf_32 rfl (lv_at hl 1 rfl) ?_
        refine gM_proposals XX I dX12_digitsOf_33 ?_
        obtain ⟨g4, h⟩ := gd_some h
        refine lv_idiv hx hb dX12_digitsOf_36 g4 ?_
        refine lv_topi (fun y5 ey5 => ?_)
        replace h := lt_e h ey5
        refine lv_istore (lv' := [(4, .int y5), (3, .int y3), (0, .ref (ad 0)), (5, .int v5)]) hx hb dX12_digitsOf_37 hl (by decide) rfl (fun ls hl => ?_)
        obtain ⟨y6, ey6⟩ : ∃ z : Int32, z = v5 + ((-1) : Int32) := ⟨_, rfl⟩
        replace h := lt_e h ey6
        refine lv_iinc (v := y6) (lv' := [(5, .int y6), (4, .int y5), (3, .int y3), (0, .ref (ad 0))]) hx hb dX12_digitsOf_39 hl (k := 3) rfl (by rw [ey6]; rfl) (by decide) rfl (fun ls hl => ?_)
        refine lv_goto (tgt := 10) hx hb dX12_digitsOf_42 (by decide) ?_
        exact ih _ _ _ h _ _ I ls (lv_sub hl [3, 2, 1, 0] rfl)
  unfold f_M_digitsOf at h
  refine lv_iconst (v := 0) hx hb dX12_digitsOf_0 (by decide) ?_
  refine lv_istore_n (lv' := [(3, .int (0 : Int32)), (0, .ref (ad 0)), (1, .int x1), (2, .int x2)]) hx hb dX12_digitsOf_1 rfl hl (by decide) rfl (fun ls hl => ?_)
  refine lv_iload_n hx hb dX12_digitsOf_2 rfl (lv_at hl 3 rfl) ?_
  refine lv_istore (lv' := [(4, .int x2), (3, .int (0 : Int32)), (0, .ref (ad 0)), (1, .int x1), (2, .int x2)]) hx hb dX12_digitsOf_3 hl (by decide) rfl (fun ls hl => ?_)
  refine lv_iload_n hx hb dX12_digitsOf_5 rfl (lv_at hl 3 rfl) ?_
  refine lv_iconst (v := 1) hx hb dX12_digitsOf_6 (by decide) ?_
  refine lv_isub hx hb dX12_digitsOf_7 ?_
  refine lv_topi (fun y1 ey1 => ?_)
  replace h := lt_e h ey1
  refine lv_istore (lv' := [(5, .int y1), (4, .int x2), (3, .int (0 : Int32)), (0, .ref (ad 0)), (1, .int x1), (2, .int x2)]) hx hb dX12_digitsOf_8 hl (by decide) rfl (fun ls hl => ?_)
  exact C10 fu _ _ _ h _ _ I ls (lv_sub hl [3, 2, 1, 0] rfl)
theorem kV_X12_341 : KV RX12 341 RX12 yX12_passes cX12_passes 8 (some .boolean) 3 := KV.mk wd_1418 wd_1420 wd_1646 wd_13 wd_1421 (by decide +kernel)
theorem kV_X12_344 : KV RX12 344 RX12 yX12_digitsOf cX12_digitsOf 6 (some .int) 2 := KV.mk wd_1422 wd_1424 wd_1647 wd_13 wd_1425 (by decide +kernel)
set_option maxHeartbeats 4000000 in
set_option maxRecDepth 100000 in
theorem c_M_lets (l : Launch) (G : g_G) (OK : EOk G.2.2) (ad : Nat → Nat) (fu : Nat) (sa : g_St) (x1 : Int32) (x2 : Int32) (r : Int32) (ts : g_St) (h : f_M_lets fu sa x1 x2 = some (r, ts)) : HI l G yX12_lets (Cond.code yX12_lets cX12_lets 6 (some .int) :: gT) { frames := 7, cells := 0, slots := 0, locals := 178 } .int [.ref (ad 0), .int x1, .int x2] (wM G ad sa) r (wM G ad ts) := by
  refine HI.mk (lv := [(0, .ref (ad 0)), (1, .int x1), (2, .int x2)]) OK (by decide) (Nat.le_of_ble_eq_true rfl) rfl ?_
  intro p e s0 m args below meth c ls XX hr I hl
  have hx := XX.x
  have hb := XX.b
  have C31 : ∀ (k22 : g_St → Int32 → Int32 → Int32 → Int32 → Option (Int32 × g_St)), (∀ (s : g_St) (v1 : Int32) (v2 : Int32) (v3 : Int32) (v4 : Int32), k22 s v1 v2 v3 v4 = some (r, ts) → ∀ (H : Heap) (locs : List Loc), Iv G (va_A (wM G ad sa) s0.heap.size) s0 H locs (wM G ad s) → ∀ ls, lv_has ls 6 [(0, .ref (ad 0)), (1, .int v1), (2, .int v2), (3, .int v3), (4, .int v4)] → W p l e { frames := 7, cells := 0, slots := 0, locals := 178 } s0 m args below meth c H locs 0 0 (QI G below .int r (wM G ad sa) (wM G ad ts) args s0) (F0 m 22 ls [])) → ∀ n : Nat, ∀ (s : g_St) (v1 : Int32) (v2 : Int32) (v3 : Int32) (v4 : Int32) (v5 : Int32), f_M_lets_L31 fu k22 n s v1 v2 v3 v4 v5 = some (r, ts) → ∀ (H : Heap) (locs : List Loc), Iv G (va_A (wM G ad sa) s0.heap.size) s0 H locs (wM G ad s) → ∀ ls, lv_has ls 6 [(0, .ref (ad 0)), (1, .int v1), (2, .int v2), (3, .int v3), (4, .int v4), (5, .int v5)] → W p l e { frames := 7, cells := 0, slots := 0, locals := 178 } s0 m args below meth c H locs 0 0 (QI G below .int r (wM G ad sa) (wM G ad ts) args s0) (F0 m 31 ls []) := by
    intro k22 hk22 n
    induction n with
    | zero => intro s v1 v2 v3 v4 v5 h; exact absurd h (fun q => by cases q)
    | succ n ih =>
      intro s v1 v2 v3 v4 v5 h H locs I ls hl
      rw [f_M_lets_L31] at h
      refine lv_iload hx hb dX12_lets_31 (lv_at hl 5 rfl) ?_
      refine lv_iload_n hx hb dX12_lets_33 rfl (lv_at hl 3 rfl) ?_
      refine lv_icmp_ge (tgt := 73) hx hb dX12_lets_34 (by decide) (fun c1 => ?_) (fun c1 => ?_)
      · replace h := if_t h c1
        refine lv_iload_n hx hb dX12_lets_73 rfl (lv_at hl 3 rfl) ?_
        refine lv_aload_n hx hb dX12_lets_74 rfl (lv_at hl 0 rfl) ?_
        refine gM_proposals XX I dX12_lets_75 ?_
        refine lv_imul hx hb dX12_lets_78 ?_
        refine lv_topi (fun y3 ey3 => ?_)
        replace h := lt_e h ey3
        refine lv_istore_n (lv' := [(3, .int y3), (0, .ref (ad 0)), (1, .int v1), (2, .int v2), (4, .int v4), (5, .int v5)]) hx hb dX12_lets_79 rfl hl (by decide) rfl (fun ls hl => ?_)
        obtain ⟨y4, ey4⟩ : ∃ z : Int32, z = v4 + (1 : Int32) := ⟨_, rfl⟩
        replace h := lt_e h ey4
        refine lv_iinc (v := y4) (lv' := [(4, .int y4), (3, .int y3), (0, .ref (ad 0)), (1, .int v1), (2, .int v2), (5, .int v5)]) hx hb dX12_lets_80 hl (k := 4) rfl (by rw [ey4]; rfl) (by decide) rfl (fun ls hl => ?_)
        refine lv_goto (tgt := 22) hx hb dX12_lets_83 (by decide) ?_
        exact hk22 _ _ _ _ _ h _ _ I ls (lv_sub hl [2, 3, 4, 1, 0] rfl)
      · replace h := if_f h c1
        refine lv_aload_n hx hb dX12_lets_37 rfl (lv_at hl 0 rfl) ?_
        refine lv_iload_n hx hb dX12_lets_38 rfl (lv_at hl 1 rfl) ?_
        refine lv_iload hx hb dX12_lets_39 (lv_at hl 4 rfl) ?_
        refine lv_iload hx hb dX12_lets_41 (lv_at hl 5 rfl) ?_
        obtain ⟨r5, s6, q7, h⟩ := bd2_some h
        refine wcall_i (rest := []) XX I hl.1 (c_M_passes l G OK ad fu s v1 v4 v5 r5 s6 q7) kV_X12_341 (Rc.mk XX I (q0 := 0) (ci := 12) wM_o rfl) rfl rfl (Nat.le_of_ble_eq_true rfl) ⟨rfl, rfl, Nat.le_of_ble_eq_true rfl, Nat.le_of_ble_eq_true rfl⟩ ⟨Nat.zero_le _, Nat.zero_le _⟩ dX12_lets_43 (fun H locs hz8 I => ?_)
        refine lv_if_eq (tgt := 67) hx hb dX12_lets_46 (by decide) (fun c1 => ?_) (fun c1 => ?_)
        · replace h := if_t h c1
          obtain ⟨y9, ey9⟩ : ∃ z : Int32, z = v5 + (1 : Int32) := ⟨_, rfl⟩
          replace h := lt_e h ey9
          refine lv_iinc (v := y9) (lv' := [(5, .int y9), (0, .ref (ad 0)), (1, .int v1), (2, .int v2), (3, .int v3), (4, .int v4)]) hx hb dX12_lets_67 hl (k := 5) rfl (by rw [ey9]; rfl) (by decide) rfl (fun ls hl => ?_)
          refine lv_goto (tgt := 31) hx hb dX12_lets_70 (by decide) ?_
          exact ih _ _ _ _ _ _ h _ _ I ls (lv_sub hl [1, 2, 3, 4, 5, 0] rfl)
        · replace h := if_f h c1
          refine lv_iload_n hx hb dX12_lets_49 rfl (lv_at hl 2 rfl) ?_
          refine lv_if_ne (tgt := 58) hx hb dX12_lets_50 (by decide) (fun c1 => ?_) (fun c1 => ?_)
          · replace h := if_f h c1
            refine lv_aload_n hx hb dX12_lets_58 rfl (lv_at hl 0 rfl) ?_
            refine lv_iload hx hb dX12_lets_59 (lv_at hl 4 rfl) ?_
            refine lv_iload hx hb dX12_lets_61 (lv_at hl 5 rfl) ?_
            obtain ⟨r10, q11, h⟩ := bd1_some h
            refine wcall_i (rest := []) XX I hl.1 (c_M_digitsOf l G OK ad fu s6 v4 v5 r10 q11) kV_X12_344 (Rc.mk XX I (q0 := 0) (ci := 12) wM_o rfl) rfl rfl (Nat.le_of_ble_eq_true rfl) ⟨rfl, rfl, Nat.le_of_ble_eq_true rfl, Nat.le_of_ble_eq_true rfl⟩ ⟨Nat.zero_le _, Nat.zero_le _⟩ dX12_lets_63 (fun H locs hz12 I => ?_)
            obtain ⟨rfl, rfl⟩ := some2 h
            exact e_i rfl XX hr I rfl dX12_lets_66
          · replace h := if_t h c1
            refine lv_iload hx hb dX12_lets_53 (lv_at hl 4 rfl) ?_
            refine lv_goto (tgt := 66) hx hb dX12_lets_55 (by decide) ?_
            obtain ⟨rfl, rfl⟩ := some2 h
            exact e_i rfl XX hr I rfl dX12_lets_66
  have C22 : ∀ n : Nat, ∀ (s : g_St) (v1 : Int32) (v2 : Int32) (v3 : Int32) (v4 : Int32), f_M_lets_L22 fu n s v1 v2 v3 v4 = some (r, ts) → ∀ (H : Heap) (locs : List Loc), Iv G (va_A (wM G ad sa) s0.heap.size) s0 H locs (wM G ad s) → ∀ ls, lv_has ls 6 [(0, .ref (ad 0)), (1, .int v1), (2, .int v2), (3, .int v3), (4, .int v4)] → W p l e { frames := 7, cells := 0, slots := 0, locals := 178 } s0 m args below meth c H locs 0 0 (QI G below .int r (wM G ad sa) (wM G ad ts) args s0) (F0 m 22 ls []) := by
    intro n
    induction n with
    | zero => intro s v1 v2 v3 v4 h; exact absurd h (fun q => by cases q)
    | succ n ih =>
      intro s v1 v2 v3 v4 h H locs I ls hl
      rw [f_M_lets_L22] at h
      refine lv_iload hx hb dX12_lets_22 (lv_at hl 4 rfl) ?_
      refine lv_iconst (v := 4) hx hb dX12_lets_24 (by decide) ?_
      refine lv_icmp_ge (tgt := 86) hx hb dX12_lets_25 (by decide) (fun c1 => ?_) (fun c1 => ?_)
      · replace h := if_t h c1
        refine lv_bipush (v := (-3)) hx hb dX12_lets_86 (by decide) ?_
        obtain ⟨rfl, rfl⟩ := some2 h
        exact e_i rfl XX hr I rfl dX12_lets_88
      · replace h := if_f h c1
        refine lv_iconst (v := 0) hx hb dX12_lets_28 (by decide) ?_
        refine lv_istore (lv' := [(5, .int (0 : Int32)), (0, .ref (ad 0)), (1, .int v1), (2, .int v2), (3, .int v3), (4, .int v4)]) hx hb dX12_lets_29 hl (by decide) rfl (fun ls hl => ?_)
        exact C31 (f_M_lets_L22 fu n) ih fu _ _ _ _ _ _ h _ _ I ls (lv_sub hl [1, 2, 3, 4, 5, 0] rfl)
  unfold f_M_lets at h
  refine lv_aload_n hx hb dX12_lets_0 rfl (lv_at hl 0 rfl) ?_
  refine lv_iload_n hx hb dX12_lets_1 rfl (lv_at hl 1 rfl) ?_
  refine wcall_i (rest := []) XX I hl.1 (c_M_isProposal l G OK ad sa x1 _ rfl) kV_X12_241 (Rc.mk XX I (q0 := 0) (ci := 12) wM_o rfl) rfl rfl (Nat.le_of_ble_eq_true rfl) ⟨rfl, rfl, Nat.le_of_ble_eq_true rfl, Nat.le_of_ble_eq_true rfl⟩ ⟨Nat.zero_le _, Nat.zero_le _⟩ dX12_lets_2 (fun H locs hz1 I => ?_)
  refine lv_if_eq (tgt := 15) hx hb dX12_lets_5 (by decide) (fun c1 => ?_) (fun c1 => ?_)
  · replace h := if_t h c1
    refine lv_iconst (v := (-1)) hx hb dX12_lets_15 (by decide) ?_
    obtain ⟨rfl, rfl⟩ := some2 h
    exact e_i rfl XX hr I rfl dX12_lets_16
  · replace h := if_f h c1
    refine lv_iload_n hx hb dX12_lets_8 rfl (lv_at hl 2 rfl) ?_
    refine scall_i (rest := []) XX I hl.1 (c_S_isSide l G OK x2 _ rfl) kS_X12_316 rfl rfl (Nat.le_of_ble_eq_true rfl) ⟨rfl, rfl, Nat.le_of_ble_eq_true rfl, Nat.le_of_ble_eq_true rfl⟩ ⟨Nat.zero_le _, Nat.zero_le _⟩ dX12_lets_9 (fun H locs hz2 I => ?_)
    refine lv_if_ne (tgt := 17) hx hb dX12_lets_12 (by decide) (fun c1 => ?_) (fun c1 => ?_)
    · replace h := if_f h c1
      refine lv_iconst (v := 1) hx hb dX12_lets_17 (by decide) ?_
      refine lv_istore_n (lv' := [(3, .int (1 : Int32)), (0, .ref (ad 0)), (1, .int x1), (2, .int x2)]) hx hb dX12_lets_18 rfl hl (by decide) rfl (fun ls hl => ?_)
      refine lv_iconst (v := 0) hx hb dX12_lets_19 (by decide) ?_
      refine lv_istore (lv' := [(4, .int (0 : Int32)), (3, .int (1 : Int32)), (0, .ref (ad 0)), (1, .int x1), (2, .int x2)]) hx hb dX12_lets_20 hl (by decide) rfl (fun ls hl => ?_)
      exact C22 fu _ _ _ _ _ h _ _ I ls (lv_sub hl [2, 3, 4, 1, 0] rfl)
    · replace h := if_t h c1
      refine lv_iconst (v := (-1)) hx hb dX12_lets_15 (by decide) ?_
      obtain ⟨rfl, rfl⟩ := some2 h
      exact e_i rfl XX hr I rfl dX12_lets_16
