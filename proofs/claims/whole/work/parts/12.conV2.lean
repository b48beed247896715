theorem kV_X9_94 : KV RX9 94 RX9 yX9_oldestOf cX9_oldestOf 4 (some .int) 1 := KV.mk wd_599 wd_601 wd_1597 wd_2 wd_602 (by decide +kernel)
set_option maxHeartbeats 4000000 in
set_option maxRecDepth 100000 in
theorem c_V_sayersOf (l : Launch) (G : g_G) (OK : EOk G.2.2) (ad : Nat → Nat) (fu : Nat) (va : g_St) (x1 : Int32) (r : Int32) (h : f_V_sayersOf fu va x1 = some r) : HI l G yX9_sayersOf (Cond.code yX9_sayersOf cX9_sayersOf 6 (some .int) :: gT) { frames := 2, cells := 0, slots := 0, locals := 44 } .int [.ref (ad 0), .int x1] (bV G ad va) r (bV G ad va) := by
  refine HI.mk (lv := [(0, .ref (ad 0)), (1, .int x1)]) OK (by decide) (Nat.le_of_ble_eq_true rfl) rfl ?_
  intro p e s0 m args below meth c ls XX hr I hl
  have hx := XX.x
  have hb := XX.b
  have C18 : ∀ n : Nat, ∀ (v2 : Int32) (v3 : Int32) (v4 : Int32), f_V_sayersOf_L18 fu n va v2 v3 v4 = some r → ∀ (H : Heap) (locs : List Loc), Iv G (va_A (bV G ad va) s0.heap.size) s0 H locs (bV G ad va) → ∀ ls, lv_has ls 6 [(0, .ref (ad 0)), (2, .int v2), (3, .int v3), (4, .int v4)] → W p l e { frames := 2, cells := 0, slots := 0, locals := 44 } s0 m args below meth c H locs 0 0 (QI G below .int r (bV G ad va) (bV G ad va) args s0) (F0 m 18 ls []) := by
    intro n
    induction n with
    | zero => intro v2 v3 v4 h; exact absurd h (fun q => by cases q)
    | succ n ih =>
      intro v2 v3 v4 h H locs I ls hl
      rw [f_V_sayersOf_L18] at h
      refine lv_iload hx hb dX9_sayersOf_18 (lv_at hl 3 rfl) ?_
      refine lv_aload_n hx hb dX9_sayersOf_20 rfl (lv_at hl 0 rfl) ?_
      refine gV_X9_o0_law XX I dX9_sayersOf_21 ?_
      refine lv_iconst (v := 0) hx hb dX9_sayersOf_24 (by decide) ?_
      refine r_iald XX I 8 (aV_law0) (by unfold vp_in; decide) dX9_sayersOf_25 ?_
      refine lv_icmp_ge (tgt := 60) hx hb dX9_sayersOf_26 (by decide) (fun c1 => ?_) (fun c1 => ?_)
      · replace h := if_t h c1
        refine lv_iload_n hx hb dX9_sayersOf_60 rfl (lv_at hl 2 rfl) ?_
        obtain rfl := some1 h
        exact e_i rfl XX hr I rfl dX9_sayersOf_61
      · replace h := if_f h c1
        refine lv_iload_n hx hb dX9_sayersOf_29 rfl (lv_at hl 1 rfl) ?_
        refine lv_if_eq (tgt := 60) hx hb dX9_sayersOf_30 (by decide) (fun c1 => ?_) (fun c1 => ?_)
        · replace h := if_t h c1
          refine lv_iload_n hx hb dX9_sayersOf_60 rfl (lv_at hl 2 rfl) ?_
          obtain rfl := some1 h
          exact e_i rfl XX hr I rfl dX9_sayersOf_61
        · replace h := if_f h c1
          refine lv_iconst (v := 1) hx hb dX9_sayersOf_33 (by decide) ?_
          refine lv_aload_n hx hb dX9_sayersOf_34 rfl (lv_at hl 0 rfl) ?_
          refine lv_iload_n hx hb dX9_sayersOf_35 rfl (lv_at hl 1 rfl) ?_
          obtain ⟨r1, q2, h⟩ := bd1_some h
          refine wcall_i (rest := [.int (1 : Int32)]) XX I hl.1 (c_V_oldestOf l G OK ad fu va v2 r1 q2) kV_X9_94 (Rc.mk XX I (q0 := 0) (ci := 9) rfl rfl) rfl rfl (Nat.le_of_ble_eq_true rfl) ⟨rfl, rfl, Nat.le_of_ble_eq_true rfl, Nat.le_of_ble_eq_true rfl⟩ ⟨Nat.zero_le _, Nat.zero_le _⟩ dX9_sayersOf_36 (fun H locs hz3 I => ?_)
          refine lv_ishl hx hb dX9_sayersOf_39 ?_
          refine lv_topi (fun y4 ey4 => ?_)
          replace h := lt_e h ey4
          refine lv_istore (lv' := [(5, .int y4), (0, .ref (ad 0)), (2, .int v2), (3, .int v3), (4, .int v4)]) hx hb dX9_sayersOf_40 hl (by decide) rfl (fun ls hl => ?_)
          refine lv_iload_n hx hb dX9_sayersOf_42 rfl (lv_at hl 3 rfl) ?_
          refine lv_iload hx hb dX9_sayersOf_43 (lv_at hl 0 rfl) ?_
          refine lv_ior hx hb dX9_sayersOf_45 ?_
          refine lv_topi (fun y5 ey5 => ?_)
          replace h := lt_e h ey5
          refine lv_istore_n (lv' := [(3, .int y5), (5, .int y4), (0, .ref (ad 0)), (2, .int v2), (4, .int v4)]) hx hb dX9_sayersOf_46 rfl hl (by decide) rfl (fun ls hl => ?_)
          refine lv_iload_n hx hb dX9_sayersOf_47 rfl (lv_at hl 3 rfl) ?_
          refine lv_iload hx hb dX9_sayersOf_48 (lv_at hl 1 rfl) ?_
          refine lv_iconst (v := (-1)) hx hb dX9_sayersOf_50 (by decide) ?_
          refine lv_ixor hx hb dX9_sayersOf_51 ?_
          refine lv_iand hx hb dX9_sayersOf_52 ?_
          refine lv_topi (fun y6 ey6 => ?_)
          replace h := lt_e h ey6
          refine lv_istore_n (lv' := [(2, .int y6), (3, .int y5), (5, .int y4), (0, .ref (ad 0)), (4, .int v4)]) hx hb dX9_sayersOf_53 rfl hl (by decide) rfl (fun ls hl => ?_)
          obtain ⟨y7, ey7⟩ : ∃ z : Int32, z = v4 + (1 : Int32) := ⟨_, rfl⟩
          replace h := lt_e h ey7
          refine lv_iinc (v := y7) (lv' := [(4, .int y7), (2, .int y6), (3, .int y5), (5, .int y4), (0, .ref (ad 0))]) hx hb dX9_sayersOf_54 hl (k := 4) rfl (by rw [ey7]; rfl) (by decide) rfl (fun ls hl => ?_)
          refine lv_goto (tgt := 18) hx hb dX9_sayersOf_57 (by decide) ?_
          exact ih _ _ _ h _ _ I ls (lv_sub hl [4, 1, 2, 0] rfl)
  unfold f_V_sayersOf at h
  refine lv_aload_n hx hb dX9_sayersOf_0 rfl (lv_at hl 0 rfl) ?_
  refine gV_X9_o0_law XX I dX9_sayersOf_1 ?_
  refine lv_iconst (v := 1) hx hb dX9_sayersOf_4 (by decide) ?_
  refine r_iald XX I 8 (aV_law0) (by unfold vp_in; decide) dX9_sayersOf_5 ?_
  refine lv_if_ne (tgt := 11) hx hb dX9_sayersOf_6 (by decide) (fun c1 => ?_) (fun c1 => ?_)
  · replace h := if_f h c1
    refine lv_iload_n hx hb dX9_sayersOf_11 rfl (lv_at hl 1 rfl) ?_
    refine lv_istore_n (lv' := [(2, .int x1), (0, .ref (ad 0)), (1, .int x1)]) hx hb dX9_sayersOf_12 rfl hl (by decide) rfl (fun ls hl => ?_)
    refine lv_iconst (v := 0) hx hb dX9_sayersOf_13 (by decide) ?_
    refine lv_istore_n (lv' := [(3, .int (0 : Int32)), (2, .int x1), (0, .ref (ad 0)), (1, .int x1)]) hx hb dX9_sayersOf_14 rfl hl (by decide) rfl (fun ls hl => ?_)
    refine lv_iconst (v := 0) hx hb dX9_sayersOf_15 (by decide) ?_
    refine lv_istore (lv' := [(4, .int (0 : Int32)), (3, .int (0 : Int32)), (2, .int x1), (0, .ref (ad 0)), (1, .int x1)]) hx hb dX9_sayersOf_16 hl (by decide) rfl (fun ls hl => ?_)
    exact C18 fu _ _ _ h _ _ I ls (lv_sub hl [3, 2, 1, 0] rfl)
  · replace h := if_t h c1
    refine lv_iload_n hx hb dX9_sayersOf_9 rfl (lv_at hl 1 rfl) ?_
    obtain rfl := some1 h
    exact e_i rfl XX hr I rfl dX9_sayersOf_10
theorem kV_X9_87 : KV RX9 87 RX9 yX9_whoWould cX9_whoWould 8 (some .int) 3 := KV.mk wd_594 wd_560 wd_561 wd_2 wd_562 (by decide +kernel)
theorem kV_X9_91 : KV RX9 91 RX9 yX9_sayersOf cX9_sayersOf 6 (some .int) 1 := KV.mk wd_595 wd_596 wd_597 wd_2 wd_598 (by decide +kernel)
set_option maxHeartbeats 4000000 in
set_option maxRecDepth 100000 in
theorem c_V_whoSays (l : Launch) (G : g_G) (OK : EOk G.2.2) (ad : Nat → Nat) (fu : Nat) (va : g_St) (x1 : Int32) (x2 : Int32) (x3 : Int32) (r : Int32) (h : f_V_whoSays fu va x1 x2 x3 = some r) : HI l G yX9_whoSays (Cond.code yX9_whoSays cX9_whoSays 4 (some .int) :: gT) { frames := 3, cells := 0, slots := 0, locals := 76 } .int [.ref (ad 0), .int x1, .int x2, .int x3] (bV G ad va) r (bV G ad va) := by
  refine HI.mk (lv := [(0, .ref (ad 0)), (1, .int x1), (2, .int x2), (3, .int x3)]) OK (by decide) (Nat.le_of_ble_eq_true rfl) rfl ?_
  intro p e s0 m args below meth c ls XX hr I hl
  have hx := XX.x
  have hb := XX.b
  unfold f_V_whoSays at h
  refine lv_aload_n hx hb dX9_whoSays_0 rfl (lv_at hl 0 rfl) ?_
  refine lv_aload_n hx hb dX9_whoSays_1 rfl (lv_at hl 0 rfl) ?_
  refine lv_iload_n hx hb dX9_whoSays_2 rfl (lv_at hl 1 rfl) ?_
  refine lv_iload_n hx hb dX9_whoSays_3 rfl (lv_at hl 2 rfl) ?_
  refine lv_iload_n hx hb dX9_whoSays_4 rfl (lv_at hl 3 rfl) ?_
  obtain ⟨r1, q2, h⟩ := bd1_some h
  refine wcall_i (rest := [.ref (ad 0)]) XX I hl.1 (c_V_whoWould l G OK ad fu va x1 x2 x3 r1 q2) kV_X9_87 (Rc.mk XX I (q0 := 0) (ci := 9) rfl rfl) rfl rfl (Nat.le_of_ble_eq_true rfl) ⟨rfl, rfl, Nat.le_of_ble_eq_true rfl, Nat.le_of_ble_eq_true rfl⟩ ⟨Nat.zero_le _, Nat.zero_le _⟩ dX9_whoSays_5 (fun H locs hz3 I => ?_)
  obtain ⟨r4, q5, h⟩ := bd1_some h
  refine wcall_i (rest := []) XX I hl.1 (c_V_sayersOf l G OK ad fu va r1 r4 q5) kV_X9_91 (Rc.mk XX I (q0 := 0) (ci := 9) rfl rfl) rfl rfl (Nat.le_of_ble_eq_true rfl) ⟨rfl, rfl, Nat.le_of_ble_eq_true rfl, Nat.le_of_ble_eq_true rfl⟩ ⟨Nat.zero_le _, Nat.zero_le _⟩ dX9_whoSays_8 (fun H locs hz6 I => ?_)
  obtain rfl := some1 h
  exact e_i rfl XX hr I rfl dX9_whoSays_11
theorem kS_X9_102 : KS RX9 102 yJ6_bitCount_0f7a4 cJ6_bitCount_0f7a4 1 (some .int) 1 := KS.mk wd_618 wd_619 wd_20 wd_620 (by decide +kernel)
set_option maxHeartbeats 4000000 in
set_option maxRecDepth 100000 in
theorem c_V_isFall (l : Launch) (G : g_G) (OK : EOk G.2.2) (ad : Nat → Nat) (va : g_St) (x1 : Int32) (r : Int32) (h : f_V_isFall va x1 = r) : HI l G yX9_isFall (Cond.code yX9_isFall cX9_isFall 2 (some .boolean) :: gT) { frames := 1, cells := 0, slots := 0, locals := 20 } .boolean [.ref (ad 0), .int x1] (bV G ad va) r (bV G ad va) := by
  refine HI.mk (lv := [(0, .ref (ad 0)), (1, .int x1)]) OK (by decide) (Nat.le_of_ble_eq_true rfl) rfl ?_
  intro p e s0 m args below meth c ls XX hr I hl
  have hx := XX.x
  have hb := XX.b
  unfold f_V_isFall at h
  refine lv_iload_n hx hb dX9_isFall_0 rfl (lv_at hl 1 rfl) ?_
  refine scall_i (rest := []) XX I hl.1 (c_S_bitCount l G OK x1 _ rfl) kS_X9_102 rfl rfl (Nat.le_of_ble_eq_true rfl) ⟨rfl, rfl, Nat.le_of_ble_eq_true rfl, Nat.le_of_ble_eq_true rfl⟩ ⟨Nat.zero_le _, Nat.zero_le _⟩ dX9_isFall_1 (fun H locs hz1 I => ?_)
  refine lv_aload_n hx hb dX9_isFall_4 rfl (lv_at hl 0 rfl) ?_
  refine gV_X9_o0_law XX I dX9_isFall_5 ?_
  refine lv_iconst (v := 0) hx hb dX9_isFall_8 (by decide) ?_
  refine r_iald XX I 8 (aV_law0) (by unfold vp_in; decide) dX9_isFall_9 ?_
  refine lv_icmp_lt (tgt := 17) hx hb dX9_isFall_10 (by decide) (fun c1 => ?_) (fun c1 => ?_)
  · replace h := if_t h c1
    refine lv_iconst (v := 0) hx hb dX9_isFall_17 (by decide) ?_
    subst h
    exact e_z XX hr I rfl rfl dX9_isFall_18
  · replace h := if_f h c1
    refine lv_iconst (v := 1) hx hb dX9_isFall_13 (by decide) ?_
    refine lv_goto (tgt := 18) hx hb dX9_isFall_14 (by decide) ?_
    subst h
    exact e_z XX hr I rfl rfl dX9_isFall_18
set_option maxHeartbeats 4000000 in
set_option maxRecDepth 100000 in
theorem c_V_noesAfter (l : Launch) (G : g_G) (OK : EOk G.2.2) (ad : Nat → Nat) (fu : Nat) (va : g_St) (x1 : Int32) (x2 : Int32) (x3 : Int32) (r : Int32) (h : f_V_noesAfter fu va x1 x2 x3 = some r) : HI l G yX9_noesAfter (Cond.code yX9_noesAfter cX9_noesAfter 8 (some .int) :: gT) { frames := 1, cells := 0, slots := 0, locals := 21 } .int [.ref (ad 0), .int x1, .int x2, .int x3] (bV G ad va) r (bV G ad va) := by
  refine HI.mk (lv := [(0, .ref (ad 0)), (1, .int x1), (2, .int x2), (3, .int x3)]) OK (by decide) (Nat.le_of_ble_eq_true rfl) rfl ?_
  intro p e s0 m args below meth c ls XX hr I hl
  have hx := XX.x
  have hb := XX.b
  have C67 : ∀ (k33 : g_St → Int32 → Int32 → Int32 → Int32 → Option (Int32)), (∀ (v1 : Int32) (v4 : Int32) (v5 : Int32) (v6 : Int32), k33 va v1 v4 v5 v6 = some r → ∀ (H : Heap) (locs : List Loc), Iv G (va_A (bV G ad va) s0.heap.size) s0 H locs (bV G ad va) → ∀ ls, lv_has ls 8 [(0, .ref (ad 0)), (1, .int v1), (4, .int v4), (5, .int v5), (6, .int v6)] → W p l e { frames := 1, cells := 0, slots := 0, locals := 21 } s0 m args below meth c H locs 0 0 (QI G below .int r (bV G ad va) (bV G ad va) args s0) (F0 m 33 ls [])) → ∀ (v1 : Int32) (v4 : Int32) (v5 : Int32) (v6 : Int32) (v7 : Int32), f_V_noesAfter_L67 fu k33 va v1 v4 v5 v6 v7 = some r → ∀ (H : Heap) (locs : List Loc), Iv G (va_A (bV G ad va) s0.heap.size) s0 H locs (bV G ad va) → ∀ ls, lv_has ls 8 [(0, .ref (ad 0)), (1, .int v1), (4, .int v4), (5, .int v5), (6, .int v6), (7, .int v7)] → W p l e { frames := 1, cells := 0, slots := 0, locals := 21 } s0 m args below meth c H locs 0 0 (QI G below .int r (bV G ad va) (bV G ad va) args s0) (F0 m 67 ls []) := by
    intro k33 hk33
    intro v1 v4 v5 v6 v7 h H locs I ls hl
    unfold f_V_noesAfter_L67 at h
    refine lv_iload hx hb dX9_noesAfter_67 (lv_at hl 2 rfl) ?_
    refine lv_if_eq (tgt := 89) hx hb dX9_noesAfter_69 (by decide) (fun c1 => ?_) (fun c1 => ?_)
    · replace h := if_t h c1
      obtain ⟨y4, ey4⟩ : ∃ z : Int32, z = v6 + (1 : Int32) := ⟨_, rfl⟩
      replace h := lt_e h ey4
      refine lv_iinc (v := y4) (lv' := [(6, .int y4), (0, .ref (ad 0)), (1, .int v1), (4, .int v4), (5, .int v5), (7, .int v7)]) hx hb dX9_noesAfter_89 hl (k := 4) rfl (by rw [ey4]; rfl) (by decide) rfl (fun ls hl => ?_)
      refine lv_goto (tgt := 33) hx hb dX9_noesAfter_92 (by decide) ?_
      exact hk33 _ _ _ _ h _ _ I ls (lv_sub hl [1, 2, 3, 4, 0] rfl)
    · replace h := if_f h c1
      refine lv_iload hx hb dX9_noesAfter_72 (lv_at hl 3 rfl) ?_
      refine lv_iload hx hb dX9_noesAfter_74 (lv_at hl 4 rfl) ?_
      refine scall_i (rest := []) XX I hl.1 (c_S_noesIn l G OK v5 v6 _ rfl) kS_X9_76 rfl rfl (Nat.le_of_ble_eq_true rfl) ⟨rfl, rfl, Nat.le_of_ble_eq_true rfl, Nat.le_of_ble_eq_true rfl⟩ ⟨Nat.zero_le _, Nat.zero_le _⟩ dX9_noesAfter_76 (fun H locs hz5 I => ?_)
      refine lv_if_ne (tgt := 89) hx hb dX9_noesAfter_79 (by decide) (fun c1 => ?_) (fun c1 => ?_)
      · replace h := if_f h c1
        obtain ⟨y6, ey6⟩ : ∃ z : Int32, z = v6 + (1 : Int32) := ⟨_, rfl⟩
        replace h := lt_e h ey6
        refine lv_iinc (v := y6) (lv' := [(6, .int y6), (0, .ref (ad 0)), (1, .int v1), (4, .int v4), (5, .int v5), (7, .int v7)]) hx hb dX9_noesAfter_89 hl (k := 4) rfl (by rw [ey6]; rfl) (by decide) rfl (fun ls hl => ?_)
        refine lv_goto (tgt := 33) hx hb dX9_noesAfter_92 (by decide) ?_
        exact hk33 _ _ _ _ h _ _ I ls (lv_sub hl [1, 2, 3, 4, 0] rfl)
      · replace h := if_t h c1
        refine lv_iload hx hb dX9_noesAfter_82 (lv_at hl 3 rfl) ?_
        refine lv_iload hx hb dX9_noesAfter_84 (lv_at hl 5 rfl) ?_
        refine lv_iadd hx hb dX9_noesAfter_86 ?_
        refine lv_topi (fun y7 ey7 => ?_)
        replace h := lt_e h ey7
        refine lv_istore (lv' := [(5, .int y7), (0, .ref (ad 0)), (1, .int v1), (4, .int v4), (6, .int v6), (7, .int v7)]) hx hb dX9_noesAfter_87 hl (by decide) rfl (fun ls hl => ?_)
        obtain ⟨y8, ey8⟩ : ∃ z : Int32, z = v6 + (1 : Int32) := ⟨_, rfl⟩
        replace h := lt_e h ey8
        refine lv_iinc (v := y8) (lv' := [(6, .int y8), (5, .int y7), (0, .ref (ad 0)), (1, .int v1), (4, .int v4), (7, .int v7)]) hx hb dX9_noesAfter_89 hl (k := 4) rfl (by rw [ey8]; rfl) (by decide) rfl (fun ls hl => ?_)
        refine lv_goto (tgt := 33) hx hb dX9_noesAfter_92 (by decide) ?_
        exact hk33 _ _ _ _ h _ _ I ls (lv_sub hl [2, 3, 4, 1, 0] rfl)
  have C33 : ∀ n : Nat, ∀ (v1 : Int32) (v4 : Int32) (v5 : Int32) (v6 : Int32), f_V_noesAfter_L33 fu n va v1 v4 v5 v6 = some r → ∀ (H : Heap) (locs : List Loc), Iv G (va_A (bV G ad va) s0.heap.size) s0 H locs (bV G ad va) → ∀ ls, lv_has ls 8 [(0, .ref (ad 0)), (1, .int v1), (4, .int v4), (5, .int v5), (6, .int v6)] → W p l e { frames := 1, cells := 0, slots := 0, locals := 21 } s0 m args below meth c H locs 0 0 (QI G below .int r (bV G ad va) (bV G ad va) args s0) (F0 m 33 ls []) := by
    intro n
    induction n with
    | zero => intro v1 v4 v5 v6 h; exact absurd h (fun q => by cases q)
    | succ n ih =>
      intro v1 v4 v5 v6 h H locs I ls hl
      rw [f_V_noesAfter_L33] at h
      refine lv_iload hx hb dX9_noesAfter_33 (lv_at hl 4 rfl) ?_
      refine lv_aload_n hx hb dX9_noesAfter_35 rfl (lv_at hl 0 rfl) ?_
      refine gV_X9_o0_people XX I dX9_noesAfter_36 ?_
      refine lv_icmp_ge (tgt := 95) hx hb dX9_noesAfter_39 (by decide) (fun c1 => ?_) (fun c1 => ?_)
      · replace h := if_t h c1
        refine lv_iload hx hb dX9_noesAfter_95 (lv_at hl 3 rfl) ?_
        obtain rfl := some1 h
        exact e_i rfl XX hr I rfl dX9_noesAfter_97
      · replace h := if_f h c1
        refine lv_iconst (v := 1) hx hb dX9_noesAfter_42 (by decide) ?_
        refine lv_iconst (v := 4) hx hb dX9_noesAfter_43 (by decide) ?_
        refine lv_iload hx hb dX9_noesAfter_44 (lv_at hl 4 rfl) ?_
        refine lv_imul hx hb dX9_noesAfter_46 ?_
        refine lv_ishl hx hb dX9_noesAfter_47 ?_
        refine lv_topi (fun y2 ey2 => ?_)
        replace h := lt_e h ey2
        refine lv_istore (lv' := [(7, .int y2), (0, .ref (ad 0)), (1, .int v1), (4, .int v4), (5, .int v5), (6, .int v6)]) hx hb dX9_noesAfter_48 hl (by decide) rfl (fun ls hl => ?_)
        refine lv_iload_n hx hb dX9_noesAfter_50 rfl (lv_at hl 2 rfl) ?_
        refine lv_iload hx hb dX9_noesAfter_51 (lv_at hl 5 rfl) ?_
        refine lv_iushr hx hb dX9_noesAfter_53 rfl ?_
        refine lv_iconst (v := 1) hx hb dX9_noesAfter_54 (by decide) ?_
        refine lv_iand hx hb dX9_noesAfter_55 ?_
        refine lv_iconst (v := 1) hx hb dX9_noesAfter_56 (by decide) ?_
        refine lv_icmp_ne (tgt := 67) hx hb dX9_noesAfter_57 (by decide) (fun c1 => ?_) (fun c1 => ?_)
        · replace h := if_f h c1
          exact C67 (f_V_noesAfter_L33 fu n) ih _ _ _ _ _ h _ _ I ls (lv_sub hl [1, 2, 3, 4, 5, 0] rfl)
        · replace h := if_t h c1
          refine lv_iload hx hb dX9_noesAfter_60 (lv_at hl 4 rfl) ?_
          refine lv_iload hx hb dX9_noesAfter_62 (lv_at hl 0 rfl) ?_
          refine lv_isub hx hb dX9_noesAfter_64 ?_
          refine lv_topi (fun y3 ey3 => ?_)
          replace h := lt_e h ey3
          refine lv_istore (lv' := [(5, .int y3), (7, .int y2), (0, .ref (ad 0)), (1, .int v1), (4, .int v4), (6, .int v6)]) hx hb dX9_noesAfter_65 hl (by decide) rfl (fun ls hl => ?_)
          exact C67 (f_V_noesAfter_L33 fu n) ih _ _ _ _ _ h _ _ I ls (lv_sub hl [2, 3, 4, 0, 5, 1] rfl)
  unfold f_V_noesAfter at h
  refine lv_aload_n hx hb dX9_noesAfter_0 rfl (lv_at hl 0 rfl) ?_
  refine gV_X9_o0_law XX I dX9_noesAfter_1 ?_
  refine lv_iconst (v := 2) hx hb dX9_noesAfter_4 (by decide) ?_
  refine r_iald XX I 8 (aV_law0) (by unfold vp_in; decide) dX9_noesAfter_5 ?_
  refine lv_if_le (tgt := 24) hx hb dX9_noesAfter_6 (by decide) (fun c1 => ?_) (fun c1 => ?_)
  · replace h := if_t h c1
    refine lv_iconst (v := 0) hx hb dX9_noesAfter_24 (by decide) ?_
    refine lv_istore (lv' := [(4, .int (0 : Int32)), (0, .ref (ad 0)), (1, .int x1), (2, .int x2), (3, .int x3)]) hx hb dX9_noesAfter_25 hl (by decide) rfl (fun ls hl => ?_)
    refine lv_iload_n hx hb dX9_noesAfter_27 rfl (lv_at hl 4 rfl) ?_
    refine lv_istore (lv' := [(5, .int x3), (4, .int (0 : Int32)), (0, .ref (ad 0)), (1, .int x1), (2, .int x2), (3, .int x3)]) hx hb dX9_noesAfter_28 hl (by decide) rfl (fun ls hl => ?_)
    refine lv_iconst (v := 0) hx hb dX9_noesAfter_30 (by decide) ?_
    refine lv_istore (lv' := [(6, .int (0 : Int32)), (5, .int x3), (4, .int (0 : Int32)), (0, .ref (ad 0)), (1, .int x1), (2, .int x2), (3, .int x3)]) hx hb dX9_noesAfter_31 hl (by decide) rfl (fun ls hl => ?_)
    exact C33 fu _ _ _ _ h _ _ I ls (lv_sub hl [3, 4, 2, 1, 0] rfl)
  · replace h := if_f h c1
    refine lv_iload_n hx hb dX9_noesAfter_9 rfl (lv_at hl 2 rfl) ?_
    refine lv_aload_n hx hb dX9_noesAfter_10 rfl (lv_at hl 0 rfl) ?_
    refine gV_X9_o0_law XX I dX9_noesAfter_11 ?_
    refine lv_iconst (v := 2) hx hb dX9_noesAfter_14 (by decide) ?_
    refine r_iald XX I 8 (aV_law0) (by unfold vp_in; decide) dX9_noesAfter_15 ?_
    obtain ⟨g1, h⟩ := gd_some h
    refine lv_irem hx hb dX9_noesAfter_16 g1 ?_
    refine lv_if_ne (tgt := 24) hx hb dX9_noesAfter_17 (by decide) (fun c1 => ?_) (fun c1 => ?_)
    · replace h := if_f h c1
      refine lv_iconst (v := 0) hx hb dX9_noesAfter_24 (by decide) ?_
      refine lv_istore (lv' := [(4, .int (0 : Int32)), (0, .ref (ad 0)), (1, .int x1), (2, .int x2), (3, .int x3)]) hx hb dX9_noesAfter_25 hl (by decide) rfl (fun ls hl => ?_)
      refine lv_iload_n hx hb dX9_noesAfter_27 rfl (lv_at hl 4 rfl) ?_
      refine lv_istore (lv' := [(5, .int x3), (4, .int (0 : Int32)), (0, .ref (ad 0)), (1, .int x1), (2, .int x2), (3, .int x3)]) hx hb dX9_noesAfter_28 hl (by decide) rfl (fun ls hl => ?_)
      refine lv_iconst (v := 0) hx hb dX9_noesAfter_30 (by decide) ?_
      refine lv_istore (lv' := [(6, .int (0 : Int32)), (5, .int x3), (4, .int (0 : Int32)), (0, .ref (ad 0)), (1, .int x1), (2, .int x2), (3, .int x3)]) hx hb dX9_noesAfter_31 hl (by decide) rfl (fun ls hl => ?_)
      exact C33 fu _ _ _ _ h _ _ I ls (lv_sub hl [3, 4, 2, 1, 0] rfl)
    · replace h := if_t h c1
      refine lv_iconst (v := 1) hx hb dX9_noesAfter_20 (by decide) ?_
      refine lv_goto (tgt := 25) hx hb dX9_noesAfter_21 (by decide) ?_
      refine lv_istore (lv' := [(4, .int (1 : Int32)), (0, .ref (ad 0)), (1, .int x1), (2, .int x2), (3, .int x3)]) hx hb dX9_noesAfter_25 hl (by decide) rfl (fun ls hl => ?_)
      refine lv_iload_n hx hb dX9_noesAfter_27 rfl (lv_at hl 4 rfl) ?_
      refine lv_istore (lv' := [(5, .int x3), (4, .int (1 : Int32)), (0, .ref (ad 0)), (1, .int x1), (2, .int x2), (3, .int x3)]) hx hb dX9_noesAfter_28 hl (by decide) rfl (fun ls hl => ?_)
      refine lv_iconst (v := 0) hx hb dX9_noesAfter_30 (by decide) ?_
      refine lv_istore (lv' := [(6, .int (0 : Int32)), (5, .int x3), (4, .int (1 : Int32)), (0, .ref (ad 0)), (1, .int x1), (2, .int x2), (3, .int x3)]) hx hb dX9_noesAfter_31 hl (by decide) rfl (fun ls hl => ?_)
      exact C33 fu _ _ _ _ h _ _ I ls (lv_sub hl [3, 4, 2, 1, 0] rfl)
theorem kV_X9_107 : KV RX9 107 RX9 yX9_packedNoes cX9_packedNoes 3 (some .int) 0 := KV.mk wd_612 wd_556 wd_557 wd_2 wd_558 (by decide +kernel)
theorem kV_X9_110 : KV RX9 110 RX9 yX9_whoSays cX9_whoSays 4 (some .int) 3 := KV.mk wd_613 wd_591 wd_592 wd_2 wd_593 (by decide +kernel)
theorem kV_X9_113 : KV RX9 113 RX9 yX9_isFall cX9_isFall 2 (some .boolean) 1 := KV.mk wd_614 wd_615 wd_616 wd_2 wd_617 (by decide +kernel)
theorem kV_X9_117 : KV RX9 117 RX9 yX9_noesAfter cX9_noesAfter 8 (some .int) 3 := KV.mk wd_624 wd_625 wd_626 wd_2 wd_627 (by decide +kernel)
theorem gV_X9_o0_passed {p : Program} {l : Launch} {e : Env} {R : Room} {s0 : State} {m : MethodId} {args : Array Value} {below : List Frame} {meth : Method} {c : Code} {H : Heap} {locs : List Loc} {cells slots : Nat} {Q : State → Prop} {cc : ByteArray} {nL pc : Nat} {ls : Array Slot} {rest : List Value} {G : g_G} {A : Nat → Prop} {ad : Nat → Nat} {v : g_St} (XX : Cx G A p s0 m meth c cc nL RX9 args) (I : Iv G A s0 H locs (bV G ad v)) (hdg : decode cc pc = .ok (.getfield 51, 3)) (kk : W p l e R s0 m args below meth c H locs cells slots Q (F0 m (pc + 3) ls (.int (gi v 12) :: rest))) : W p l e R s0 m args below meth c H locs cells slots Q (F0 m pc ls (.ref (ad 0) :: rest)) := r_get kfX9 XX I 0 rfl 12 (Nat.le_of_ble_eq_true rfl) wd_72 rfl hdg kk
theorem gV_X9_o0_fell {p : Program} {l : Launch} {e : Env} {R : Room} {s0 : State} {m : MethodId} {args : Array Value} {below : List Frame} {meth : Method} {c : Code} {H : Heap} {locs : List Loc} {cells slots : Nat} {Q : State → Prop} {cc : ByteArray} {nL pc : Nat} {ls : Array Slot} {rest : List Value} {G : g_G} {A : Nat → Prop} {ad : Nat → Nat} {v : g_St} (XX : Cx G A p s0 m meth c cc nL RX9 args) (I : Iv G A s0 H locs (bV G ad v)) (hdg : decode cc pc = .ok (.getfield 48, 3)) (kk : W p l e R s0 m args below meth c H locs cells slots Q (F0 m (pc + 3) ls (.int (gi v 11) :: rest))) : W p l e R s0 m args below meth c H locs cells slots Q (F0 m pc ls (.ref (ad 0) :: rest)) := r_get kfX9 XX I 0 rfl 11 (Nat.le_of_ble_eq_true rfl) wd_70 rfl hdg kk
set_option maxHeartbeats 4000000 in
set_option maxRecDepth 100000 in
theorem c_V_passYear (l : Launch) (G : g_G) (OK : EOk G.2.2) (ad : Nat → Nat) (fu : Nat) (va : g_St) (x1 : Int32) (r : Int32) (tv : g_St) (h : f_V_passYear fu va x1 = some (r, tv)) : HI l G yX9_passYear (Cond.code yX9_passYear cX9_passYear 7 (some .boolean) :: gT) { frames := 4, cells := 0, slots := 0, locals := 99 } .boolean [.ref (ad 0), .int x1] (bV G ad va) r (bV G ad tv) := by
  refine HI.mk (lv := [(0, .ref (ad 0)), (1, .int x1)]) OK (by decide) (Nat.le_of_ble_eq_true rfl) rfl ?_
  intro p e s0 m args below meth c ls XX hr I hl
  have hx := XX.x
  have hb := XX.b
  have C123 : ∀ (v : g_St) (v4 : Int32), f_V_passYear_L123 fu v v4 = some (r, tv) → ∀ (H : Heap) (locs : List Loc), Iv G (va_A (bV G ad va) s0.heap.size) s0 H locs (bV G ad v) → ∀ ls, lv_has ls 7 [(0, .ref (ad 0)), (4, .int v4)] → narrow .boolean (.int v4) = .int v4 → W p l e { frames := 4, cells := 0, slots := 0, locals := 99 } s0 m args below meth c H locs 0 0 (QI G below .boolean r (bV G ad va) (bV G ad tv) args s0) (F0 m 123 ls []) := by
    skip
    intro v v4 h H locs I ls hl hv4
    unfold f_V_passYear_L123 at h
    refine lv_aload_n hx hb dX9_passYear_123 rfl (lv_at hl 0 rfl) ?_
    refine gV_X9_o0_law XX I dX9_passYear_124 ?_
    refine lv_iconst (v := 3) hx hb dX9_passYear_127 (by decide) ?_
    refine lv_dup2_11 hx hb dX9_passYear_128 rfl rfl ?_
    refine r_iald XX I 8 (aV_law0) (by unfold vp_in; decide) dX9_passYear_129 ?_
    refine lv_iconst (v := 1) hx hb dX9_passYear_130 (by decide) ?_
    refine lv_iadd hx hb dX9_passYear_131 ?_
    refine lv_topi (fun y28 ey28 => ?_)
    replace h := lt_e h ey28
    refine r_iast XX I 8 (aV_law0) (sV_law0) (by unfold vp_in; decide) dX9_passYear_132 (fun H locs I => ?_)
    obtain ⟨s29, es29⟩ : ∃ z, z = sr v 9 (3 : Int32) y28 := ⟨_, rfl⟩
    replace h := lt_e h es29
    replace I : Iv G (va_A (bV G ad va) s0.heap.size) s0 H locs (bV G ad s29) := by rw [es29]; exact I
    refine lv_iload hx hb dX9_passYear_133 (lv_at hl 1 rfl) ?_
    obtain ⟨rfl, rfl⟩ := some2 h
    exact e_z XX hr I hv4 rfl dX9_passYear_135
  have C42 : ∀ n : Nat, ∀ (v : g_St) (v1 : Int32) (v4 : Int32) (v5 : Int32) (v6 : Int32), f_V_passYear_L42 fu n v v1 v4 v5 v6 = some (r, tv) → ∀ (H : Heap) (locs : List Loc), Iv G (va_A (bV G ad va) s0.heap.size) s0 H locs (bV G ad v) → ∀ ls, lv_has ls 7 [(0, .ref (ad 0)), (1, .int v1), (4, .int v4), (5, .int v5), (6, .int v6)] → narrow .boolean (.int v4) = .int v4 → W p l e { frames := 4, cells := 0, slots := 0, locals := 99 } s0 m args below meth c H locs 0 0 (QI G below .boolean r (bV G ad va) (bV G ad tv) args s0) (F0 m 42 ls []) := by
    intro n
    induction n with
    | zero => intro v v1 v4 v5 v6 h; exact absurd h (fun q => by cases q)
    | succ n ih =>
      intro v v1 v4 v5 v6 h H locs I ls hl hv4
      rw [f_V_passYear_L42] at h
      refine lv_iload hx hb dX9_passYear_42 (lv_at hl 4 rfl) ?_
      refine lv_aload_n hx hb dX9_passYear_44 rfl (lv_at hl 0 rfl) ?_
      refine gV_X9_o0_people XX I dX9_passYear_45 ?_
      refine lv_icmp_ge (tgt := 95) hx hb dX9_passYear_48 (by decide) (fun c1 => ?_) (fun c1 => ?_)
      · replace h := if_t h c1
        refine lv_iload hx hb dX9_passYear_95 (lv_at hl 2 rfl) ?_
        refine lv_if_eq (tgt := 113) hx hb dX9_passYear_97 (by decide) (fun c1 => ?_) (fun c1 => ?_)
        · replace h := if_t h c1
          refine lv_aload_n hx hb dX9_passYear_113 rfl (lv_at hl 0 rfl) ?_
          refine lv_dup hx hb dX9_passYear_114 rfl ?_
          refine gV_X9_o0_passed XX I dX9_passYear_115 ?_
          refine lv_iconst (v := 1) hx hb dX9_passYear_118 (by decide) ?_
          refine lv_iadd hx hb dX9_passYear_119 ?_
          refine lv_topi (fun y12 ey12 => ?_)
          replace h := lt_e h ey12
          refine pV_X9_o0_passed XX I dX9_passYear_120 (fun H locs I => ?_)
          obtain ⟨s13, es13⟩ : ∃ z, z = si v 12 y12 := ⟨_, rfl⟩
          replace h := lt_e h es13
          replace I : Iv G (va_A (bV G ad va) s0.heap.size) s0 H locs (bV G ad s13) := by rw [es13]; exact I
          exact C123 _ _ h _ _ I ls (lv_sub hl [0, 2] rfl) (hv4)
        · replace h := if_f h c1
          refine lv_aload_n hx hb dX9_passYear_100 rfl (lv_at hl 0 rfl) ?_
          refine lv_dup hx hb dX9_passYear_101 rfl ?_
          refine gV_X9_o0_fell XX I dX9_passYear_102 ?_
          refine lv_iconst (v := 1) hx hb dX9_passYear_105 (by decide) ?_
          refine lv_iadd hx hb dX9_passYear_106 ?_
          refine lv_topi (fun y14 ey14 => ?_)
          replace h := lt_e h ey14
          refine pV_X9_o0_fell XX I dX9_passYear_107 (fun H locs I => ?_)
          obtain ⟨s15, es15⟩ : ∃ z, z = si v 11 y14 := ⟨_, rfl⟩
          replace h := lt_e h es15
          replace I : Iv G (va_A (bV G ad va) s0.heap.size) s0 H locs (bV G ad s15) := by rw [es15]; exact I
          refine lv_goto (tgt := 123) hx hb dX9_passYear_110 (by decide) ?_
          exact C123 _ _ h _ _ I ls (lv_sub hl [0, 2] rfl) (hv4)
      · replace h := if_f h c1
        refine lv_aload_n hx hb dX9_passYear_51 rfl (lv_at hl 0 rfl) ?_
        refine gV_X9_o0_noes XX I dX9_passYear_52 ?_
        refine lv_iload hx hb dX9_passYear_55 (lv_at hl 4 rfl) ?_
        refine lv_iload hx hb dX9_passYear_57 (lv_at hl 3 rfl) ?_
        refine lv_iload hx hb dX9_passYear_59 (lv_at hl 4 rfl) ?_
        refine scall_i (rest := [.int v6, .ref (ad 5)]) XX I hl.1 (c_S_noesIn l G OK v5 v6 _ rfl) kS_X9_76 rfl rfl (Nat.le_of_ble_eq_true rfl) ⟨rfl, rfl, Nat.le_of_ble_eq_true rfl, Nat.le_of_ble_eq_true rfl⟩ ⟨Nat.zero_le _, Nat.zero_le _⟩ dX9_passYear_61 (fun H locs hz16 I => ?_)
        refine lv_topi (fun y17 ey17 => ?_)
        replace h := lt_e h ey17
        obtain ⟨g18, h⟩ := gd_some h
        refine r_iast XX I 4 (aV_noes0) (sV_noes0) g18 dX9_passYear_64 (fun H locs I => ?_)
        obtain ⟨s19, es19⟩ : ∃ z, z = sr v 4 v6 y17 := ⟨_, rfl⟩
        replace h := lt_e h es19
        replace I : Iv G (va_A (bV G ad va) s0.heap.size) s0 H locs (bV G ad s19) := by rw [es19]; exact I
        refine lv_iload hx hb dX9_passYear_65 (lv_at hl 2 rfl) ?_
        refine lv_if_ne (tgt := 89) hx hb dX9_passYear_67 (by decide) (fun c1 => ?_) (fun c1 => ?_)
        · replace h := if_f h c1
          obtain ⟨y20, ey20⟩ : ∃ z : Int32, z = v6 + (1 : Int32) := ⟨_, rfl⟩
          replace h := lt_e h ey20
          refine lv_iinc (v := y20) (lv' := [(6, .int y20), (0, .ref (ad 0)), (1, .int v1), (4, .int v4), (5, .int v5)]) hx hb dX9_passYear_89 hl (k := 4) rfl (by rw [ey20]; rfl) (by decide) rfl (fun ls hl => ?_)
          refine lv_goto (tgt := 42) hx hb dX9_passYear_92 (by decide) ?_
          exact ih _ _ _ _ _ h _ _ I ls (lv_sub hl [1, 2, 3, 4, 0] rfl) (hv4)
        · replace h := if_t h c1
          refine lv_aload_n hx hb dX9_passYear_70 rfl (lv_at hl 0 rfl) ?_
          refine gV_X9_o0_had XX I dX9_passYear_71 ?_
          refine lv_iload hx hb dX9_passYear_74 (lv_at hl 4 rfl) ?_
          refine lv_dup2_11 hx hb dX9_passYear_76 rfl rfl ?_
          obtain ⟨g21, h⟩ := gd_some h
          refine r_iald XX I 5 (aV_had0) g21 dX9_passYear_77 ?_
          refine lv_aload_n hx hb dX9_passYear_78 rfl (lv_at hl 0 rfl) ?_
          refine gV_X9_o0_worth XX I dX9_passYear_79 ?_
          refine lv_iload_n hx hb dX9_passYear_82 rfl (lv_at hl 1 rfl) ?_
          obtain ⟨g22, h⟩ := gd_some h
          refine r_aaldI XX I 7 rfl (v := .ref (ad (20 + v1.toNatClampNeg))) rfl g22 dX9_passYear_83 ?_
          refine lv_iload hx hb dX9_passYear_84 (lv_at hl 4 rfl) ?_
          obtain ⟨g23, h⟩ := gd_some h
          refine r_iald XX I (9 + v1.toNatClampNeg) (aV_row0 (vin_lt g22)) g23 dX9_passYear_86 ?_
          refine lv_iadd hx hb dX9_passYear_87 ?_
          refine lv_topi (fun y24 ey24 => ?_)
          replace h := lt_e h ey24
          obtain ⟨g25, h⟩ := gd_some h
          refine r_iast XX I 5 (aV_had0) (sV_had0) g25 dX9_passYear_88 (fun H locs I => ?_)
          obtain ⟨s26, es26⟩ : ∃ z, z = sr s19 5 v6 y24 := ⟨_, rfl⟩
          replace h := lt_e h es26
          replace I : Iv G (va_A (bV G ad va) s0.heap.size) s0 H locs (bV G ad s26) := by rw [es26]; exact I
          obtain ⟨y27, ey27⟩ : ∃ z : Int32, z = v6 + (1 : Int32) := ⟨_, rfl⟩
          replace h := lt_e h ey27
          refine lv_iinc (v := y27) (lv' := [(6, .int y27), (0, .ref (ad 0)), (1, .int v1), (4, .int v4), (5, .int v5)]) hx hb dX9_passYear_89 hl (k := 4) rfl (by rw [ey27]; rfl) (by decide) rfl (fun ls hl => ?_)
          refine lv_goto (tgt := 42) hx hb dX9_passYear_92 (by decide) ?_
          exact ih _ _ _ _ _ h _ _ I ls (lv_sub hl [1, 2, 3, 4, 0] rfl) (hv4)
  unfold f_V_passYear at h
  refine lv_aload_n hx hb dX9_passYear_0 rfl (lv_at hl 0 rfl) ?_
  obtain ⟨r1, q2, h⟩ := bd1_some h
  refine wcall_i (rest := []) XX I hl.1 (c_V_packedNoes l G OK ad fu va r1 q2) kV_X9_107 (Rc.mk XX I (q0 := 0) (ci := 9) rfl rfl) rfl rfl (Nat.le_of_ble_eq_true rfl) ⟨rfl, rfl, Nat.le_of_ble_eq_true rfl, Nat.le_of_ble_eq_true rfl⟩ ⟨Nat.zero_le _, Nat.zero_le _⟩ dX9_passYear_1 (fun H locs hz3 I => ?_)
  refine lv_istore_n (lv' := [(2, .int r1), (0, .ref (ad 0)), (1, .int x1)]) hx hb dX9_passYear_4 rfl hl (by decide) rfl (fun ls hl => ?_)
  refine lv_aload_n hx hb dX9_passYear_5 rfl (lv_at hl 1 rfl) ?_
  refine lv_iload_n hx hb dX9_passYear_6 rfl (lv_at hl 2 rfl) ?_
  refine lv_aload_n hx hb dX9_passYear_7 rfl (lv_at hl 1 rfl) ?_
  refine gV_X9_o0_law XX I dX9_passYear_8 ?_
  refine lv_iconst (v := 3) hx hb dX9_passYear_11 (by decide) ?_
  refine r_iald XX I 8 (aV_law0) (by unfold vp_in; decide) dX9_passYear_12 ?_
  refine lv_iload_n hx hb dX9_passYear_13 rfl (lv_at hl 0 rfl) ?_
  obtain ⟨r4, q5, h⟩ := bd1_some h
  refine wcall_i (rest := []) XX I hl.1 (c_V_whoSays l G OK ad fu va x1 (gr va 9 (3 : Int32).toNatClampNeg) r1 r4 q5) kV_X9_110 (Rc.mk XX I (q0 := 0) (ci := 9) rfl rfl) rfl rfl (Nat.le_of_ble_eq_true rfl) ⟨rfl, rfl, Nat.le_of_ble_eq_true rfl, Nat.le_of_ble_eq_true rfl⟩ ⟨Nat.zero_le _, Nat.zero_le _⟩ dX9_passYear_14 (fun H locs hz6 I => ?_)
  refine lv_istore_n (lv' := [(3, .int r4), (2, .int r1), (0, .ref (ad 0)), (1, .int x1)]) hx hb dX9_passYear_17 rfl hl (by decide) rfl (fun ls hl => ?_)
  refine lv_aload_n hx hb dX9_passYear_18 rfl (lv_at hl 2 rfl) ?_
  refine lv_iload_n hx hb dX9_passYear_19 rfl (lv_at hl 0 rfl) ?_
  refine wcall_i (rest := []) XX I hl.1 (c_V_isFall l G OK ad va r4 _ rfl) kV_X9_113 (Rc.mk XX I (q0 := 0) (ci := 9) rfl rfl) rfl rfl (Nat.le_of_ble_eq_true rfl) ⟨rfl, rfl, Nat.le_of_ble_eq_true rfl, Nat.le_of_ble_eq_true rfl⟩ ⟨Nat.zero_le _, Nat.zero_le _⟩ dX9_passYear_20 (fun H locs hz7 I => ?_)
  refine lv_topi (fun y8 ey8 => ?_)
  replace h := lt_e h ey8
  have hz_y8 : narrow .boolean (.int y8) = .int y8 := by rw [ey8]; exact hz7
  refine lv_istore (lv' := [(4, .int y8), (3, .int r4), (2, .int r1), (0, .ref (ad 0)), (1, .int x1)]) hx hb dX9_passYear_23 hl (by decide) rfl (fun ls hl => ?_)
  refine lv_aload_n hx hb dX9_passYear_25 rfl (lv_at hl 3 rfl) ?_
  refine lv_iload_n hx hb dX9_passYear_26 rfl (lv_at hl 1 rfl) ?_
  refine lv_aload_n hx hb dX9_passYear_27 rfl (lv_at hl 3 rfl) ?_
  refine gV_X9_o0_law XX I dX9_passYear_28 ?_
  refine lv_iconst (v := 3) hx hb dX9_passYear_31 (by decide) ?_
  refine r_iald XX I 8 (aV_law0) (by unfold vp_in; decide) dX9_passYear_32 ?_
  refine lv_iload_n hx hb dX9_passYear_33 rfl (lv_at hl 2 rfl) ?_
  obtain ⟨r9, q10, h⟩ := bd1_some h
  refine wcall_i (rest := []) XX I hl.1 (c_V_noesAfter l G OK ad fu va r4 (gr va 9 (3 : Int32).toNatClampNeg) r1 r9 q10) kV_X9_117 (Rc.mk XX I (q0 := 0) (ci := 9) rfl rfl) rfl rfl (Nat.le_of_ble_eq_true rfl) ⟨rfl, rfl, Nat.le_of_ble_eq_true rfl, Nat.le_of_ble_eq_true rfl⟩ ⟨Nat.zero_le _, Nat.zero_le _⟩ dX9_passYear_34 (fun H locs hz11 I => ?_)
  refine lv_istore (lv' := [(5, .int r9), (4, .int y8), (3, .int r4), (2, .int r1), (0, .ref (ad 0)), (1, .int x1)]) hx hb dX9_passYear_37 hl (by decide) rfl (fun ls hl => ?_)
  refine lv_iconst (v := 0) hx hb dX9_passYear_39 (by decide) ?_
  refine lv_istore (lv' := [(6, .int (0 : Int32)), (5, .int r9), (4, .int y8), (3, .int r4), (2, .int r1), (0, .ref (ad 0)), (1, .int x1)]) hx hb dX9_passYear_40 hl (by decide) rfl (fun ls hl => ?_)
  exact C42 fu _ _ _ _ _ h _ _ I ls (lv_sub hl [5, 6, 2, 1, 0] rfl) (hz_y8)
