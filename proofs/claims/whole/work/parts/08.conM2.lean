theorem kV_X12_238 : KV RX12 238 RX12 yX12_isPerson cX12_isPerson 2 (some .boolean) 1 := KV.mk wd_1224 wd_1226 wd_1624 wd_13 wd_1227 (by decide +kernel)
set_option maxHeartbeats 4000000 in
set_option maxRecDepth 100000 in
theorem c_M_personOf (l : Launch) (G : g_G) (OK : EOk G.2.2) (ad : Nat → Nat) (sa : g_St) (x1 : Int32) (x2 : Int32) (r : Int32) (h : f_M_personOf sa x1 x2 = some r) : HI l G yX12_personOf (Cond.code yX12_personOf cX12_personOf 3 (some .int) :: gT) { frames := 2, cells := 0, slots := 0, locals := 43 } .int [.ref (ad 0), .int x1, .int x2] (wM G ad sa) r (wM G ad sa) := by
  refine HI.mk (lv := [(0, .ref (ad 0)), (1, .int x1), (2, .int x2)]) OK (by decide) (Nat.le_of_ble_eq_true rfl) rfl ?_
  intro p e s0 m args below meth c ls XX hr I hl
  have hx := XX.x
  have hb := XX.b
  unfold f_M_personOf at h
  refine lv_aload_n hx hb dX12_personOf_0 rfl (lv_at hl 0 rfl) ?_
  refine lv_iload_n hx hb dX12_personOf_1 rfl (lv_at hl 1 rfl) ?_
  refine wcall_i (rest := []) XX I hl.1 (c_M_isPerson l G OK ad sa x1 _ rfl) kV_X12_238 (Rc.mk XX I (q0 := 0) (ci := 12) wM_o rfl) rfl rfl (Nat.le_of_ble_eq_true rfl) ⟨rfl, rfl, Nat.le_of_ble_eq_true rfl, Nat.le_of_ble_eq_true rfl⟩ ⟨Nat.zero_le _, Nat.zero_le _⟩ dX12_personOf_2 (fun H locs hz1 I => ?_)
  refine lv_if_ne (tgt := 10) hx hb dX12_personOf_5 (by decide) (fun c1 => ?_) (fun c1 => ?_)
  · replace h := if_f h c1
    refine lv_iload_n hx hb dX12_personOf_10 rfl (lv_at hl 2 rfl) ?_
    refine lv_if_ne (tgt := 23) hx hb dX12_personOf_11 (by decide) (fun c1 => ?_) (fun c1 => ?_)
    · replace h := if_f h c1
      refine lv_iload_n hx hb dX12_personOf_23 rfl (lv_at hl 2 rfl) ?_
      refine lv_iconst (v := 1) hx hb dX12_personOf_24 (by decide) ?_
      refine lv_icmp_ne (tgt := 37) hx hb dX12_personOf_25 (by decide) (fun c1 => ?_) (fun c1 => ?_)
      · replace h := if_f h c1
        refine lv_iload_n hx hb dX12_personOf_37 rfl (lv_at hl 2 rfl) ?_
        refine lv_iconst (v := 2) hx hb dX12_personOf_38 (by decide) ?_
        refine lv_icmp_ne (tgt := 51) hx hb dX12_personOf_39 (by decide) (fun c1 => ?_) (fun c1 => ?_)
        · replace h := if_f h c1
          refine lv_iload_n hx hb dX12_personOf_51 rfl (lv_at hl 2 rfl) ?_
          refine lv_iconst (v := 3) hx hb dX12_personOf_52 (by decide) ?_
          refine lv_icmp_ne (tgt := 65) hx hb dX12_personOf_53 (by decide) (fun c1 => ?_) (fun c1 => ?_)
          · replace h := if_f h c1
            refine lv_iconst (v := (-1)) hx hb dX12_personOf_65 (by decide) ?_
            obtain rfl := some1 h
            exact e_i rfl XX hr I rfl dX12_personOf_66
          · replace h := if_t h c1
            refine lv_aload_n hx hb dX12_personOf_56 rfl (lv_at hl 0 rfl) ?_
            refine gM_row XX I dX12_personOf_57 ?_
            refine lv_iload_n hx hb dX12_personOf_60 rfl (lv_at hl 1 rfl) ?_
            obtain ⟨g2, h⟩ := gd_some h
            refine r_iald XX I 10 (aM_row) g2 dX12_personOf_61 ?_
            refine lv_goto (tgt := 66) hx hb dX12_personOf_62 (by decide) ?_
            obtain rfl := some1 h
            exact e_i rfl XX hr I rfl dX12_personOf_66
        · replace h := if_t h c1
          refine lv_aload_n hx hb dX12_personOf_42 rfl (lv_at hl 0 rfl) ?_
          refine gM_age XX I dX12_personOf_43 ?_
          refine lv_iload_n hx hb dX12_personOf_46 rfl (lv_at hl 1 rfl) ?_
          obtain ⟨g3, h⟩ := gd_some h
          refine r_iald XX I 3 (aM_age) g3 dX12_personOf_47 ?_
          refine lv_goto (tgt := 66) hx hb dX12_personOf_48 (by decide) ?_
          obtain rfl := some1 h
          exact e_i rfl XX hr I rfl dX12_personOf_66
      · replace h := if_t h c1
        refine lv_aload_n hx hb dX12_personOf_28 rfl (lv_at hl 0 rfl) ?_
        refine gM_aOf XX I dX12_personOf_29 ?_
        refine lv_iload_n hx hb dX12_personOf_32 rfl (lv_at hl 1 rfl) ?_
        obtain ⟨g4, h⟩ := gd_some h
        refine r_iald XX I 2 (aM_aOf) g4 dX12_personOf_33 ?_
        refine lv_goto (tgt := 66) hx hb dX12_personOf_34 (by decide) ?_
        obtain rfl := some1 h
        exact e_i rfl XX hr I rfl dX12_personOf_66
    · replace h := if_t h c1
      refine lv_aload_n hx hb dX12_personOf_14 rfl (lv_at hl 0 rfl) ?_
      refine gM_kindOf XX I dX12_personOf_15 ?_
      refine lv_iload_n hx hb dX12_personOf_18 rfl (lv_at hl 1 rfl) ?_
      obtain ⟨g5, h⟩ := gd_some h
      refine r_iald XX I 1 (aM_kindOf) g5 dX12_personOf_19 ?_
      refine lv_goto (tgt := 66) hx hb dX12_personOf_20 (by decide) ?_
      obtain rfl := some1 h
      exact e_i rfl XX hr I rfl dX12_personOf_66
  · replace h := if_t h c1
    refine lv_iconst (v := (-1)) hx hb dX12_personOf_8 (by decide) ?_
    obtain rfl := some1 h
    exact e_i rfl XX hr I rfl dX12_personOf_9
set_option maxHeartbeats 4000000 in
set_option maxRecDepth 100000 in
theorem c_M_leave (l : Launch) (G : g_G) (OK : EOk G.2.2) (ad : Nat → Nat) (fu : Nat) (sa : g_St) (x1 : Int32) (r : Int32) (ts : g_St) (h : f_M_leave fu sa x1 = some (r, ts)) : HI l G yX12_leave (Cond.code yX12_leave cX12_leave 4 (some .int) :: gT) { frames := 2, cells := 0, slots := 0, locals := 43 } .int [.ref (ad 0), .int x1] (wM G ad sa) r (wM G ad ts) := by
  refine HI.mk (lv := [(0, .ref (ad 0)), (1, .int x1)]) OK (by decide) (Nat.le_of_ble_eq_true rfl) rfl ?_
  intro p e s0 m args below meth c ls XX hr I hl
  have hx := XX.x
  have hb := XX.b
  have C102 : ∀ (k22 : g_St → Int32 → Option (Int32 × g_St)), (∀ (s : g_St) (v2 : Int32), k22 s v2 = some (r, ts) → ∀ (H : Heap) (locs : List Loc), Iv G (va_A (wM G ad sa) s0.heap.size) s0 H locs (wM G ad s) → ∀ ls, lv_has ls 4 [(0, .ref (ad 0)), (2, .int v2)] → W p l e { frames := 2, cells := 0, slots := 0, locals := 43 } s0 m args below meth c H locs 0 0 (QI G below .int r (wM G ad sa) (wM G ad ts) args s0) (F0 m 22 ls [])) → ∀ n : Nat, ∀ (s : g_St) (v2 : Int32) (v3 : Int32), f_M_leave_L102 fu k22 n s v2 v3 = some (r, ts) → ∀ (H : Heap) (locs : List Loc), Iv G (va_A (wM G ad sa) s0.heap.size) s0 H locs (wM G ad s) → ∀ ls, lv_has ls 4 [(0, .ref (ad 0)), (2, .int v2), (3, .int v3)] → W p l e { frames := 2, cells := 0, slots := 0, locals := 43 } s0 m args below meth c H locs 0 0 (QI G below .int r (wM G ad sa) (wM G ad ts) args s0) (F0 m 102 ls []) := by
    intro k22 hk22 n
    induction n with
    | zero => intro s v2 v3 h; exact absurd h (fun q => by cases q)
    | succ n ih =>
      intro s v2 v3 h H locs I ls hl
      rw [f_M_leave_L102] at h
      refine lv_iload_n hx hb dX12_leave_102 rfl (lv_at hl 2 rfl) ?_
      refine lv_bipush (v := 8) hx hb dX12_leave_103 (by decide) ?_
      refine lv_icmp_ge (tgt := 138) hx hb dX12_leave_105 (by decide) (fun c1 => ?_) (fun c1 => ?_)
      · replace h := if_t h c1
        obtain ⟨y24, ey24⟩ : ∃ z : Int32, z = v2 + (1 : Int32) := ⟨_, rfl⟩
        replace h := lt_e h ey24
        refine lv_iinc (v := y24) (lv' := [(2, .int y24), (0, .ref (ad 0)), (3, .int v3)]) hx hb dX12_leave_138 hl (k := 1) rfl (by rw [ey24]; rfl) (by decide) rfl (fun ls hl => ?_)
        refine lv_goto (tgt := 22) hx hb dX12_leave_141 (by decide) ?_
        exact hk22 _ _ h _ _ I ls (lv_sub hl [1, 0] rfl)
      · replace h := if_f h c1
        refine lv_aload_n hx hb dX12_leave_108 rfl (lv_at hl 0 rfl) ?_
        refine gM_worth XX I dX12_leave_109 ?_
        refine lv_bipush (v := 6) hx hb dX12_leave_112 (by decide) ?_
        refine lv_iload_n hx hb dX12_leave_114 rfl (lv_at hl 2 rfl) ?_
        refine lv_imul hx hb dX12_leave_115 ?_
        refine lv_iload_n hx hb dX12_leave_116 rfl (lv_at hl 1 rfl) ?_
        refine lv_iadd hx hb dX12_leave_117 ?_
        refine lv_aload_n hx hb dX12_leave_118 rfl (lv_at hl 0 rfl) ?_
        refine gM_worth XX I dX12_leave_119 ?_
        refine lv_bipush (v := 6) hx hb dX12_leave_122 (by decide) ?_
        refine lv_iload_n hx hb dX12_leave_124 rfl (lv_at hl 2 rfl) ?_
        refine lv_imul hx hb dX12_leave_125 ?_
        refine lv_iload_n hx hb dX12_leave_126 rfl (lv_at hl 1 rfl) ?_
        refine lv_iadd hx hb dX12_leave_127 ?_
        refine lv_iconst (v := 1) hx hb dX12_leave_128 (by decide) ?_
        refine lv_iadd hx hb dX12_leave_129 ?_
        obtain ⟨g25, h⟩ := gd_some h
        refine r_iald XX I 6 (aM_worth) g25 dX12_leave_130 ?_
        refine lv_topi (fun y26 ey26 => ?_)
        replace h := lt_e h ey26
        obtain ⟨g27, h⟩ := gd_some h
        refine r_iast XX I 6 (aM_worth) (sM_worth) g27 dX12_leave_131 (fun H locs I => ?_)
        obtain ⟨s28, es28⟩ : ∃ z, z = sr s 7 (((6 : Int32) * v3) + v2) y26 := ⟨_, rfl⟩
        replace h := lt_e h es28
        replace I : Iv G (va_A (wM G ad sa) s0.heap.size) s0 H locs (wM G ad s28) := by rw [es28]; exact I
        obtain ⟨y29, ey29⟩ : ∃ z : Int32, z = v3 + (1 : Int32) := ⟨_, rfl⟩
        replace h := lt_e h ey29
        refine lv_iinc (v := y29) (lv' := [(3, .int y29), (0, .ref (ad 0)), (2, .int v2)]) hx hb dX12_leave_132 hl (k := 2) rfl (by rw [ey29]; rfl) (by decide) rfl (fun ls hl => ?_)
        refine lv_goto (tgt := 102) hx hb dX12_leave_135 (by decide) ?_
        exact ih _ _ _ h _ _ I ls (lv_sub hl [1, 2, 0] rfl)
  have C22 : ∀ n : Nat, ∀ (s : g_St) (v2 : Int32), f_M_leave_L22 fu n s v2 = some (r, ts) → ∀ (H : Heap) (locs : List Loc), Iv G (va_A (wM G ad sa) s0.heap.size) s0 H locs (wM G ad s) → ∀ ls, lv_has ls 4 [(0, .ref (ad 0)), (2, .int v2)] → W p l e { frames := 2, cells := 0, slots := 0, locals := 43 } s0 m args below meth c H locs 0 0 (QI G below .int r (wM G ad sa) (wM G ad ts) args s0) (F0 m 22 ls []) := by
    intro n
    induction n with
    | zero => intro s v2 h; exact absurd h (fun q => by cases q)
    | succ n ih =>
      intro s v2 h H locs I ls hl
      rw [f_M_leave_L22] at h
      refine lv_iload_n hx hb dX12_leave_22 rfl (lv_at hl 1 rfl) ?_
      refine lv_aload_n hx hb dX12_leave_23 rfl (lv_at hl 0 rfl) ?_
      refine gM_people XX I dX12_leave_24 ?_
      refine lv_icmp_ge (tgt := 144) hx hb dX12_leave_27 (by decide) (fun c1 => ?_) (fun c1 => ?_)
      · replace h := if_t h c1
        refine lv_aload_n hx hb dX12_leave_144 rfl (lv_at hl 0 rfl) ?_
        refine gM_people XX I dX12_leave_145 ?_
        obtain ⟨rfl, rfl⟩ := some2 h
        exact e_i rfl XX hr I rfl dX12_leave_148
      · replace h := if_f h c1
        refine lv_aload_n hx hb dX12_leave_30 rfl (lv_at hl 0 rfl) ?_
        refine gM_kindOf XX I dX12_leave_31 ?_
        refine lv_iload_n hx hb dX12_leave_34 rfl (lv_at hl 1 rfl) ?_
        refine lv_aload_n hx hb dX12_leave_35 rfl (lv_at hl 0 rfl) ?_
        refine gM_kindOf XX I dX12_leave_36 ?_
        refine lv_iload_n hx hb dX12_leave_39 rfl (lv_at hl 1 rfl) ?_
        refine lv_iconst (v := 1) hx hb dX12_leave_40 (by decide) ?_
        refine lv_iadd hx hb dX12_leave_41 ?_
        obtain ⟨g4, h⟩ := gd_some h
        refine r_iald XX I 1 (aM_kindOf) g4 dX12_leave_42 ?_
        refine lv_topi (fun y5 ey5 => ?_)
        replace h := lt_e h ey5
        obtain ⟨g6, h⟩ := gd_some h
        refine r_iast XX I 1 (aM_kindOf) (sM_kindOf) g6 dX12_leave_43 (fun H locs I => ?_)
        obtain ⟨s7, es7⟩ : ∃ z, z = sr s 1 v2 y5 := ⟨_, rfl⟩
        replace h := lt_e h es7
        replace I : Iv G (va_A (wM G ad sa) s0.heap.size) s0 H locs (wM G ad s7) := by rw [es7]; exact I
        refine lv_aload_n hx hb dX12_leave_44 rfl (lv_at hl 0 rfl) ?_
        refine gM_aOf XX I dX12_leave_45 ?_
        refine lv_iload_n hx hb dX12_leave_48 rfl (lv_at hl 1 rfl) ?_
        refine lv_aload_n hx hb dX12_leave_49 rfl (lv_at hl 0 rfl) ?_
        refine gM_aOf XX I dX12_leave_50 ?_
        refine lv_iload_n hx hb dX12_leave_53 rfl (lv_at hl 1 rfl) ?_
        refine lv_iconst (v := 1) hx hb dX12_leave_54 (by decide) ?_
        refine lv_iadd hx hb dX12_leave_55 ?_
        obtain ⟨g8, h⟩ := gd_some h
        refine r_iald XX I 2 (aM_aOf) g8 dX12_leave_56 ?_
        refine lv_topi (fun y9 ey9 => ?_)
        replace h := lt_e h ey9
        obtain ⟨g10, h⟩ := gd_some h
        refine r_iast XX I 2 (aM_aOf) (sM_aOf) g10 dX12_leave_57 (fun H locs I => ?_)
        obtain ⟨s11, es11⟩ : ∃ z, z = sr s7 2 v2 y9 := ⟨_, rfl⟩
        replace h := lt_e h es11
        replace I : Iv G (va_A (wM G ad sa) s0.heap.size) s0 H locs (wM G ad s11) := by rw [es11]; exact I
        refine lv_aload_n hx hb dX12_leave_58 rfl (lv_at hl 0 rfl) ?_
        refine gM_age XX I dX12_leave_59 ?_
        refine lv_iload_n hx hb dX12_leave_62 rfl (lv_at hl 1 rfl) ?_
        refine lv_aload_n hx hb dX12_leave_63 rfl (lv_at hl 0 rfl) ?_
        refine gM_age XX I dX12_leave_64 ?_
        refine lv_iload_n hx hb dX12_leave_67 rfl (lv_at hl 1 rfl) ?_
        refine lv_iconst (v := 1) hx hb dX12_leave_68 (by decide) ?_
        refine lv_iadd hx hb dX12_leave_69 ?_
        obtain ⟨g12, h⟩ := gd_some h
        refine r_iald XX I 3 (aM_age) g12 dX12_leave_70 ?_
        refine lv_topi (fun y13 ey13 => ?_)
        replace h := lt_e h ey13
        obtain ⟨g14, h⟩ := gd_some h
        refine r_iast XX I 3 (aM_age) (sM_age) g14 dX12_leave_71 (fun H locs I => ?_)
        obtain ⟨s15, es15⟩ : ∃ z, z = sr s11 3 v2 y13 := ⟨_, rfl⟩
        replace h := lt_e h es15
        replace I : Iv G (va_A (wM G ad sa) s0.heap.size) s0 H locs (wM G ad s15) := by rw [es15]; exact I
        refine lv_aload_n hx hb dX12_leave_72 rfl (lv_at hl 0 rfl) ?_
        refine gM_row XX I dX12_leave_73 ?_
        refine lv_iload_n hx hb dX12_leave_76 rfl (lv_at hl 1 rfl) ?_
        refine lv_aload_n hx hb dX12_leave_77 rfl (lv_at hl 0 rfl) ?_
        refine gM_row XX I dX12_leave_78 ?_
        refine lv_iload_n hx hb dX12_leave_81 rfl (lv_at hl 1 rfl) ?_
        refine lv_iconst (v := 1) hx hb dX12_leave_82 (by decide) ?_
        refine lv_iadd hx hb dX12_leave_83 ?_
        obtain ⟨g16, h⟩ := gd_some h
        refine r_iald XX I 10 (aM_row) g16 dX12_leave_84 ?_
        refine lv_topi (fun y17 ey17 => ?_)
        replace h := lt_e h ey17
        obtain ⟨g18, h⟩ := gd_some h
        refine r_iast XX I 10 (aM_row) (sM_row) g18 dX12_leave_85 (fun H locs I => ?_)
        obtain ⟨s19, es19⟩ : ∃ z, z = sr s15 11 v2 y17 := ⟨_, rfl⟩
        replace h := lt_e h es19
        replace I : Iv G (va_A (wM G ad sa) s0.heap.size) s0 H locs (wM G ad s19) := by rw [es19]; exact I
        refine lv_aload_n hx hb dX12_leave_86 rfl (lv_at hl 0 rfl) ?_
        refine gM_had XX I dX12_leave_87 ?_
        refine lv_iload_n hx hb dX12_leave_90 rfl (lv_at hl 1 rfl) ?_
        refine lv_aload_n hx hb dX12_leave_91 rfl (lv_at hl 0 rfl) ?_
        refine gM_had XX I dX12_leave_92 ?_
        refine lv_iload_n hx hb dX12_leave_95 rfl (lv_at hl 1 rfl) ?_
        refine lv_iconst (v := 1) hx hb dX12_leave_96 (by decide) ?_
        refine lv_iadd hx hb dX12_leave_97 ?_
        obtain ⟨g20, h⟩ := gd_some h
        refine r_iald XX I 4 (aM_had) g20 dX12_leave_98 ?_
        refine lv_topi (fun y21 ey21 => ?_)
        replace h := lt_e h ey21
        obtain ⟨g22, h⟩ := gd_some h
        refine r_iast XX I 4 (aM_had) (sM_had) g22 dX12_leave_99 (fun H locs I => ?_)
        obtain ⟨s23, es23⟩ : ∃ z, z = sr s19 4 v2 y21 := ⟨_, rfl⟩
        replace h := lt_e h es23
        replace I : Iv G (va_A (wM G ad sa) s0.heap.size) s0 H locs (wM G ad s23) := by rw [es23]; exact I
        refine lv_iconst (v := 0) hx hb dX12_leave_100 (by decide) ?_
        refine lv_istore_n (lv' := [(3, .int (0 : Int32)), (0, .ref (ad 0)), (2, .int v2)]) hx hb dX12_leave_101 rfl hl (by decide) rfl (fun ls hl => ?_)
        exact C102 (f_M_leave_L22 fu n) ih fu _ _ _ h _ _ I ls (lv_sub hl [1, 2, 0] rfl)
  unfold f_M_leave at h
  refine lv_aload_n hx hb dX12_leave_0 rfl (lv_at hl 0 rfl) ?_
  refine lv_iload_n hx hb dX12_leave_1 rfl (lv_at hl 1 rfl) ?_
  refine wcall_i (rest := []) XX I hl.1 (c_M_isPerson l G OK ad sa x1 _ rfl) kV_X12_238 (Rc.mk XX I (q0 := 0) (ci := 12) wM_o rfl) rfl rfl (Nat.le_of_ble_eq_true rfl) ⟨rfl, rfl, Nat.le_of_ble_eq_true rfl, Nat.le_of_ble_eq_true rfl⟩ ⟨Nat.zero_le _, Nat.zero_le _⟩ dX12_leave_2 (fun H locs hz1 I => ?_)
  refine lv_if_ne (tgt := 10) hx hb dX12_leave_5 (by decide) (fun c1 => ?_) (fun c1 => ?_)
  · replace h := if_f h c1
    refine lv_aload_n hx hb dX12_leave_10 rfl (lv_at hl 0 rfl) ?_
    refine lv_dup hx hb dX12_leave_11 rfl ?_
    refine gM_people XX I dX12_leave_12 ?_
    refine lv_iconst (v := 1) hx hb dX12_leave_15 (by decide) ?_
    refine lv_isub hx hb dX12_leave_16 ?_
    refine lv_topi (fun y2 ey2 => ?_)
    replace h := lt_e h ey2
    refine pM_people XX I dX12_leave_17 (fun H locs I => ?_)
    obtain ⟨s3, es3⟩ : ∃ z, z = si sa 0 y2 := ⟨_, rfl⟩
    replace h := lt_e h es3
    replace I : Iv G (va_A (wM G ad sa) s0.heap.size) s0 H locs (wM G ad s3) := by rw [es3]; exact I
    refine lv_iload_n hx hb dX12_leave_20 rfl (lv_at hl 1 rfl) ?_
    refine lv_istore_n (lv' := [(2, .int x1), (0, .ref (ad 0)), (1, .int x1)]) hx hb dX12_leave_21 rfl hl (by decide) rfl (fun ls hl => ?_)
    exact C22 fu _ _ h _ _ I ls (lv_sub hl [1, 0] rfl)
  · replace h := if_t h c1
    refine lv_iconst (v := (-1)) hx hb dX12_leave_8 (by decide) ?_
    obtain ⟨rfl, rfl⟩ := some2 h
    exact e_i rfl XX hr I rfl dX12_leave_9
set_option maxHeartbeats 4000000 in
set_option maxRecDepth 100000 in
theorem c_M_mind (l : Launch) (G : g_G) (OK : EOk G.2.2) (ad : Nat → Nat) (sa : g_St) (x1 : Int32) (x2 : Int32) (x3 : Int32) (r : Int32) (ts : g_St) (h : f_M_mind sa x1 x2 x3 = some (r, ts)) : HI l G yX12_mind (Cond.code yX12_mind cX12_mind 5 (some .int) :: gT) { frames := 2, cells := 0, slots := 0, locals := 43 } .int [.ref (ad 0), .int x1, .int x2, .int x3] (wM G ad sa) r (wM G ad ts) := by
  refine HI.mk (lv := [(0, .ref (ad 0)), (1, .int x1), (2, .int x2), (3, .int x3)]) OK (by decide) (Nat.le_of_ble_eq_true rfl) rfl ?_
  intro p e s0 m args below meth c ls XX hr I hl
  have hx := XX.x
  have hb := XX.b
  unfold f_M_mind at h
  refine lv_aload_n hx hb dX12_mind_0 rfl (lv_at hl 0 rfl) ?_
  refine lv_iload_n hx hb dX12_mind_1 rfl (lv_at hl 1 rfl) ?_
  refine wcall_i (rest := []) XX I hl.1 (c_M_isPerson l G OK ad sa x1 _ rfl) kV_X12_238 (Rc.mk XX I (q0 := 0) (ci := 12) wM_o rfl) rfl rfl (Nat.le_of_ble_eq_true rfl) ⟨rfl, rfl, Nat.le_of_ble_eq_true rfl, Nat.le_of_ble_eq_true rfl⟩ ⟨Nat.zero_le _, Nat.zero_le _⟩ dX12_mind_2 (fun H locs hz1 I => ?_)
  refine lv_if_eq (tgt := 16) hx hb dX12_mind_5 (by decide) (fun c1 => ?_) (fun c1 => ?_)
  · replace h := if_t h c1
    refine lv_iconst (v := (-1)) hx hb dX12_mind_16 (by decide) ?_
    obtain ⟨rfl, rfl⟩ := some2 h
    exact e_i rfl XX hr I rfl dX12_mind_17
  · replace h := if_f h c1
    refine lv_iload_n hx hb dX12_mind_8 rfl (lv_at hl 2 rfl) ?_
    refine lv_iload_n hx hb dX12_mind_9 rfl (lv_at hl 3 rfl) ?_
    refine scall_i (rest := []) XX I hl.1 (c_S_isMind l G OK x2 x3 _ rfl) kS_X12_234 rfl rfl (Nat.le_of_ble_eq_true rfl) ⟨rfl, rfl, Nat.le_of_ble_eq_true rfl, Nat.le_of_ble_eq_true rfl⟩ ⟨Nat.zero_le _, Nat.zero_le _⟩ dX12_mind_10 (fun H locs hz2 I => ?_)
    refine lv_if_ne (tgt := 18) hx hb dX12_mind_13 (by decide) (fun c1 => ?_) (fun c1 => ?_)
    · replace h := if_f h c1
      refine lv_aload_n hx hb dX12_mind_18 rfl (lv_at hl 0 rfl) ?_
      refine gM_kindOf XX I dX12_mind_19 ?_
      refine lv_iload_n hx hb dX12_mind_22 rfl (lv_at hl 1 rfl) ?_
      obtain ⟨g3, h⟩ := gd_some h
      refine r_iald XX I 1 (aM_kindOf) g3 dX12_mind_23 ?_
      refine lv_topi (fun y4 ey4 => ?_)
      replace h := lt_e h ey4
      refine lv_istore (lv' := [(4, .int y4), (0, .ref (ad 0)), (1, .int x1), (2, .int x2), (3, .int x3)]) hx hb dX12_mind_24 hl (by decide) rfl (fun ls hl => ?_)
      refine lv_aload_n hx hb dX12_mind_26 rfl (lv_at hl 1 rfl) ?_
      refine gM_kindOf XX I dX12_mind_27 ?_
      refine lv_iload_n hx hb dX12_mind_30 rfl (lv_at hl 2 rfl) ?_
      refine lv_iload_n hx hb dX12_mind_31 rfl (lv_at hl 3 rfl) ?_
      obtain ⟨g5, h⟩ := gd_some h
      refine r_iast XX I 1 (aM_kindOf) (sM_kindOf) g5 dX12_mind_32 (fun H locs I => ?_)
      obtain ⟨s6, es6⟩ : ∃ z, z = sr sa 1 x1 x2 := ⟨_, rfl⟩
      replace h := lt_e h es6
      replace I : Iv G (va_A (wM G ad sa) s0.heap.size) s0 H locs (wM G ad s6) := by rw [es6]; exact I
      refine lv_aload_n hx hb dX12_mind_33 rfl (lv_at hl 1 rfl) ?_
      refine gM_aOf XX I dX12_mind_34 ?_
      refine lv_iload_n hx hb dX12_mind_37 rfl (lv_at hl 2 rfl) ?_
      refine lv_iload_n hx hb dX12_mind_38 rfl (lv_at hl 4 rfl) ?_
      obtain ⟨g7, h⟩ := gd_some h
      refine r_iast XX I 2 (aM_aOf) (sM_aOf) g7 dX12_mind_39 (fun H locs I => ?_)
      obtain ⟨s8, es8⟩ : ∃ z, z = sr s6 2 x1 x3 := ⟨_, rfl⟩
      replace h := lt_e h es8
      replace I : Iv G (va_A (wM G ad sa) s0.heap.size) s0 H locs (wM G ad s8) := by rw [es8]; exact I
      refine lv_iload hx hb dX12_mind_40 (lv_at hl 0 rfl) ?_
      obtain ⟨rfl, rfl⟩ := some2 h
      exact e_i rfl XX hr I rfl dX12_mind_42
    · replace h := if_t h c1
      refine lv_iconst (v := (-1)) hx hb dX12_mind_16 (by decide) ?_
      obtain ⟨rfl, rfl⟩ := some2 h
      exact e_i rfl XX hr I rfl dX12_mind_17
set_option maxHeartbeats 4000000 in
set_option maxRecDepth 100000 in
theorem c_M_give (l : Launch) (G : g_G) (OK : EOk G.2.2) (ad : Nat → Nat) (sa : g_St) (x1 : Int32) (x2 : Int32) (r : Int32) (ts : g_St) (h : f_M_give sa x1 x2 = some (r, ts)) : HI l G yX12_give (Cond.code yX12_give cX12_give 3 (some .int) :: gT) { frames := 2, cells := 0, slots := 0, locals := 43 } .int [.ref (ad 0), .int x1, .int x2] (wM G ad sa) r (wM G ad ts) := by
  refine HI.mk (lv := [(0, .ref (ad 0)), (1, .int x1), (2, .int x2)]) OK (by decide) (Nat.le_of_ble_eq_true rfl) rfl ?_
  intro p e s0 m args below meth c ls XX hr I hl
  have hx := XX.x
  have hb := XX.b
  unfold f_M_give at h
  refine lv_aload_n hx hb dX12_give_0 rfl (lv_at hl 0 rfl) ?_
  refine lv_iload_n hx hb dX12_give_1 rfl (lv_at hl 1 rfl) ?_
  refine wcall_i (rest := []) XX I hl.1 (c_M_isPerson l G OK ad sa x1 _ rfl) kV_X12_238 (Rc.mk XX I (q0 := 0) (ci := 12) wM_o rfl) rfl rfl (Nat.le_of_ble_eq_true rfl) ⟨rfl, rfl, Nat.le_of_ble_eq_true rfl, Nat.le_of_ble_eq_true rfl⟩ ⟨Nat.zero_le _, Nat.zero_le _⟩ dX12_give_2 (fun H locs hz1 I => ?_)
  refine lv_if_eq (tgt := 21) hx hb dX12_give_5 (by decide) (fun c1 => ?_) (fun c1 => ?_)
  · replace h := if_t h c1
    refine lv_iconst (v := (-1)) hx hb dX12_give_21 (by decide) ?_
    obtain ⟨rfl, rfl⟩ := some2 h
    exact e_i rfl XX hr I rfl dX12_give_22
  · replace h := if_f h c1
    refine lv_aload_n hx hb dX12_give_8 rfl (lv_at hl 0 rfl) ?_
    refine lv_iload_n hx hb dX12_give_9 rfl (lv_at hl 2 rfl) ?_
    refine wcall_i (rest := []) XX I hl.1 (c_M_isPerson l G OK ad sa x2 _ rfl) kV_X12_238 (Rc.mk XX I (q0 := 0) (ci := 12) wM_o rfl) rfl rfl (Nat.le_of_ble_eq_true rfl) ⟨rfl, rfl, Nat.le_of_ble_eq_true rfl, Nat.le_of_ble_eq_true rfl⟩ ⟨Nat.zero_le _, Nat.zero_le _⟩ dX12_give_10 (fun H locs hz2 I => ?_)
    refine lv_if_eq (tgt := 21) hx hb dX12_give_13 (by decide) (fun c1 => ?_) (fun c1 => ?_)
    · replace h := if_t h c1
      refine lv_iconst (v := (-1)) hx hb dX12_give_21 (by decide) ?_
      obtain ⟨rfl, rfl⟩ := some2 h
      exact e_i rfl XX hr I rfl dX12_give_22
    · replace h := if_f h c1
      refine lv_iload_n hx hb dX12_give_16 rfl (lv_at hl 1 rfl) ?_
      refine lv_iload_n hx hb dX12_give_17 rfl (lv_at hl 2 rfl) ?_
      refine lv_icmp_ne (tgt := 23) hx hb dX12_give_18 (by decide) (fun c1 => ?_) (fun c1 => ?_)
      · replace h := if_f h c1
        refine lv_aload_n hx hb dX12_give_23 rfl (lv_at hl 0 rfl) ?_
        refine gM_row XX I dX12_give_24 ?_
        refine lv_iload_n hx hb dX12_give_27 rfl (lv_at hl 1 rfl) ?_
        obtain ⟨g3, h⟩ := gd_some h
        refine r_iald XX I 10 (aM_row) g3 dX12_give_28 ?_
        refine lv_if_ne (tgt := 35) hx hb dX12_give_29 (by decide) (fun c1 => ?_) (fun c1 => ?_)
        · replace h := if_f h c1
          refine lv_aload_n hx hb dX12_give_35 rfl (lv_at hl 0 rfl) ?_
          refine gM_row XX I dX12_give_36 ?_
          refine lv_iload_n hx hb dX12_give_39 rfl (lv_at hl 2 rfl) ?_
          obtain ⟨g4, h⟩ := gd_some h
          refine r_iald XX I 10 (aM_row) g4 dX12_give_40 ?_
          refine lv_bipush (v := 9) hx hb dX12_give_41 (by decide) ?_
          refine lv_icmp_ne (tgt := 49) hx hb dX12_give_43 (by decide) (fun c1 => ?_) (fun c1 => ?_)
          · replace h := if_f h c1
            refine lv_aload_n hx hb dX12_give_49 rfl (lv_at hl 0 rfl) ?_
            refine gM_row XX I dX12_give_50 ?_
            refine lv_iload_n hx hb dX12_give_53 rfl (lv_at hl 1 rfl) ?_
            refine lv_dup2_11 hx hb dX12_give_54 rfl rfl ?_
            obtain ⟨g5, h⟩ := gd_some h
            refine r_iald XX I 10 (aM_row) g5 dX12_give_55 ?_
            refine lv_iconst (v := 1) hx hb dX12_give_56 (by decide) ?_
            refine lv_isub hx hb dX12_give_57 ?_
            refine lv_topi (fun y6 ey6 => ?_)
            replace h := lt_e h ey6
            obtain ⟨g7, h⟩ := gd_some h
            refine r_iast XX I 10 (aM_row) (sM_row) g7 dX12_give_58 (fun H locs I => ?_)
            obtain ⟨s8, es8⟩ : ∃ z, z = sr sa 11 x1 y6 := ⟨_, rfl⟩
            replace h := lt_e h es8
            replace I : Iv G (va_A (wM G ad sa) s0.heap.size) s0 H locs (wM G ad s8) := by rw [es8]; exact I
            refine lv_aload_n hx hb dX12_give_59 rfl (lv_at hl 0 rfl) ?_
            refine gM_row XX I dX12_give_60 ?_
            refine lv_iload_n hx hb dX12_give_63 rfl (lv_at hl 2 rfl) ?_
            refine lv_dup2_11 hx hb dX12_give_64 rfl rfl ?_
            obtain ⟨g9, h⟩ := gd_some h
            refine r_iald XX I 10 (aM_row) g9 dX12_give_65 ?_
            refine lv_iconst (v := 1) hx hb dX12_give_66 (by decide) ?_
            refine lv_iadd hx hb dX12_give_67 ?_
            refine lv_topi (fun y10 ey10 => ?_)
            replace h := lt_e h ey10
            obtain ⟨g11, h⟩ := gd_some h
            refine r_iast XX I 10 (aM_row) (sM_row) g11 dX12_give_68 (fun H locs I => ?_)
            obtain ⟨s12, es12⟩ : ∃ z, z = sr s8 11 x2 y10 := ⟨_, rfl⟩
            replace h := lt_e h es12
            replace I : Iv G (va_A (wM G ad sa) s0.heap.size) s0 H locs (wM G ad s12) := by rw [es12]; exact I
            refine lv_aload_n hx hb dX12_give_69 rfl (lv_at hl 0 rfl) ?_
            refine gM_row XX I dX12_give_70 ?_
            refine lv_iload_n hx hb dX12_give_73 rfl (lv_at hl 2 rfl) ?_
            obtain ⟨g13, h⟩ := gd_some h
            refine r_iald XX I 10 (aM_row) g13 dX12_give_74 ?_
            obtain ⟨rfl, rfl⟩ := some2 h
            exact e_i rfl XX hr I rfl dX12_give_75
          · replace h := if_t h c1
            refine lv_bipush (v := (-2)) hx hb dX12_give_46 (by decide) ?_
            obtain ⟨rfl, rfl⟩ := some2 h
            exact e_i rfl XX hr I rfl dX12_give_48
        · replace h := if_t h c1
          refine lv_bipush (v := (-3)) hx hb dX12_give_32 (by decide) ?_
          obtain ⟨rfl, rfl⟩ := some2 h
          exact e_i rfl XX hr I rfl dX12_give_34
      · replace h := if_t h c1
        refine lv_iconst (v := (-1)) hx hb dX12_give_21 (by decide) ?_
        obtain ⟨rfl, rfl⟩ := some2 h
        exact e_i rfl XX hr I rfl dX12_give_22
set_option maxHeartbeats 4000000 in
set_option maxRecDepth 100000 in
theorem c_M_noes (l : Launch) (G : g_G) (OK : EOk G.2.2) (ad : Nat → Nat) (sa : g_St) (x1 : Int32) (x2 : Int32) (r : Int32) (ts : g_St) (h : f_M_noes sa x1 x2 = some (r, ts)) : HI l G yX12_noes (Cond.code yX12_noes cX12_noes 4 (some .int) :: gT) { frames := 2, cells := 0, slots := 0, locals := 43 } .int [.ref (ad 0), .int x1, .int x2] (wM G ad sa) r (wM G ad ts) := by
  refine HI.mk (lv := [(0, .ref (ad 0)), (1, .int x1), (2, .int x2)]) OK (by decide) (Nat.le_of_ble_eq_true rfl) rfl ?_
  intro p e s0 m args below meth c ls XX hr I hl
  have hx := XX.x
  have hb := XX.b
  unfold f_M_noes at h
  refine lv_aload_n hx hb dX12_noes_0 rfl (lv_at hl 0 rfl) ?_
  refine lv_iload_n hx hb dX12_noes_1 rfl (lv_at hl 1 rfl) ?_
  refine wcall_i (rest := []) XX I hl.1 (c_M_isPerson l G OK ad sa x1 _ rfl) kV_X12_238 (Rc.mk XX I (q0 := 0) (ci := 12) wM_o rfl) rfl rfl (Nat.le_of_ble_eq_true rfl) ⟨rfl, rfl, Nat.le_of_ble_eq_true rfl, Nat.le_of_ble_eq_true rfl⟩ ⟨Nat.zero_le _, Nat.zero_le _⟩ dX12_noes_2 (fun H locs hz1 I => ?_)
  refine lv_if_eq (tgt := 18) hx hb dX12_noes_5 (by decide) (fun c1 => ?_) (fun c1 => ?_)
  · replace h := if_t h c1
    refine lv_iconst (v := (-1)) hx hb dX12_noes_18 (by decide) ?_
    obtain ⟨rfl, rfl⟩ := some2 h
    exact e_i rfl XX hr I rfl dX12_noes_19
  · replace h := if_f h c1
    refine lv_iload_n hx hb dX12_noes_8 rfl (lv_at hl 2 rfl) ?_
    refine lv_iconst (v := 0) hx hb dX12_noes_9 (by decide) ?_
    refine lv_bipush (v := 9) hx hb dX12_noes_10 (by decide) ?_
    refine scall_i (rest := []) XX I hl.1 (c_S_in l G OK x2 (0 : Int32) (9 : Int32) _ rfl) kS_X12_99 rfl rfl (Nat.le_of_ble_eq_true rfl) ⟨rfl, rfl, Nat.le_of_ble_eq_true rfl, Nat.le_of_ble_eq_true rfl⟩ ⟨Nat.zero_le _, Nat.zero_le _⟩ dX12_noes_12 (fun H locs hz2 I => ?_)
    refine lv_if_ne (tgt := 20) hx hb dX12_noes_15 (by decide) (fun c1 => ?_) (fun c1 => ?_)
    · replace h := if_f h c1
      refine lv_aload_n hx hb dX12_noes_20 rfl (lv_at hl 0 rfl) ?_
      refine gM_row XX I dX12_noes_21 ?_
      refine lv_iload_n hx hb dX12_noes_24 rfl (lv_at hl 1 rfl) ?_
      obtain ⟨g3, h⟩ := gd_some h
      refine r_iald XX I 10 (aM_row) g3 dX12_noes_25 ?_
      refine lv_topi (fun y4 ey4 => ?_)
      replace h := lt_e h ey4
      refine lv_istore_n (lv' := [(3, .int y4), (0, .ref (ad 0)), (1, .int x1), (2, .int x2)]) hx hb dX12_noes_26 rfl hl (by decide) rfl (fun ls hl => ?_)
      refine lv_aload_n hx hb dX12_noes_27 rfl (lv_at hl 1 rfl) ?_
      refine gM_row XX I dX12_noes_28 ?_
      refine lv_iload_n hx hb dX12_noes_31 rfl (lv_at hl 2 rfl) ?_
      refine lv_iload_n hx hb dX12_noes_32 rfl (lv_at hl 3 rfl) ?_
      obtain ⟨g5, h⟩ := gd_some h
      refine r_iast XX I 10 (aM_row) (sM_row) g5 dX12_noes_33 (fun H locs I => ?_)
      obtain ⟨s6, es6⟩ : ∃ z, z = sr sa 11 x1 x2 := ⟨_, rfl⟩
      replace h := lt_e h es6
      replace I : Iv G (va_A (wM G ad sa) s0.heap.size) s0 H locs (wM G ad s6) := by rw [es6]; exact I
      refine lv_iload_n hx hb dX12_noes_34 rfl (lv_at hl 0 rfl) ?_
      obtain ⟨rfl, rfl⟩ := some2 h
      exact e_i rfl XX hr I rfl dX12_noes_35
    · replace h := if_t h c1
      refine lv_iconst (v := (-1)) hx hb dX12_noes_18 (by decide) ?_
      obtain ⟨rfl, rfl⟩ := some2 h
      exact e_i rfl XX hr I rfl dX12_noes_19
set_option maxHeartbeats 4000000 in
set_option maxRecDepth 100000 in
theorem c_M_proposal (l : Launch) (G : g_G) (OK : EOk G.2.2) (ad : Nat → Nat) (fu : Nat) (sa : g_St) (x1 : Int32) (r : Int32) (ts : g_St) (h : f_M_proposal fu sa x1 = some (r, ts)) : HI l G yX12_proposal (Cond.code yX12_proposal cX12_proposal 3 (some .int) :: gT) { frames := 1, cells := 0, slots := 0, locals := 22 } .int [.ref (ad 0), .int x1] (wM G ad sa) r (wM G ad ts) := by
  refine HI.mk (lv := [(0, .ref (ad 0)), (1, .int x1)]) OK (by decide) (Nat.le_of_ble_eq_true rfl) rfl ?_
  intro p e s0 m args below meth c ls XX hr I hl
  have hx := XX.x
  have hb := XX.b
  have C36 : ∀ n : Nat, ∀ (s : g_St) (v2 : Int32), f_M_proposal_L36 fu n s v2 = some (r, ts) → ∀ (H : Heap) (locs : List Loc), Iv G (va_A (wM G ad sa) s0.heap.size) s0 H locs (wM G ad s) → ∀ ls, lv_has ls 3 [(0, .ref (ad 0)), (2, .int v2)] → W p l e { frames := 1, cells := 0, slots := 0, locals := 22 } s0 m args below meth c H locs 0 0 (QI G below .int r (wM G ad sa) (wM G ad ts) args s0) (F0 m 36 ls []) := by
    intro n
    induction n with
    | zero => intro s v2 h; exact absurd h (fun q => by cases q)
    | succ n ih =>
      intro s v2 h H locs I ls hl
      rw [f_M_proposal_L36] at h
      refine lv_iload_n hx hb dX12_proposal_36 rfl (lv_at hl 1 rfl) ?_
      refine lv_bipush (v := 6) hx hb dX12_proposal_37 (by decide) ?_
      refine lv_icmp_ge (tgt := 63) hx hb dX12_proposal_39 (by decide) (fun c1 => ?_) (fun c1 => ?_)
      · replace h := if_t h c1
        refine lv_aload_n hx hb dX12_proposal_63 rfl (lv_at hl 0 rfl) ?_
        refine lv_dup hx hb dX12_proposal_64 rfl ?_
        refine gM_proposals XX I dX12_proposal_65 ?_
        refine lv_iconst (v := 1) hx hb dX12_proposal_68 (by decide) ?_
        refine lv_iadd hx hb dX12_proposal_69 ?_
        refine lv_topi (fun y4 ey4 => ?_)
        replace h := lt_e h ey4
        refine pM_proposals XX I dX12_proposal_70 (fun H locs I => ?_)
        obtain ⟨s5, es5⟩ : ∃ z, z = si s 5 y4 := ⟨_, rfl⟩
        replace h := lt_e h es5
        replace I : Iv G (va_A (wM G ad sa) s0.heap.size) s0 H locs (wM G ad s5) := by rw [es5]; exact I
        refine lv_aload_n hx hb dX12_proposal_73 rfl (lv_at hl 0 rfl) ?_
        refine gM_proposals XX I dX12_proposal_74 ?_
        refine lv_iconst (v := 1) hx hb dX12_proposal_77 (by decide) ?_
        refine lv_isub hx hb dX12_proposal_78 ?_
        obtain ⟨rfl, rfl⟩ := some2 h
        exact e_i rfl XX hr I rfl dX12_proposal_79
      · replace h := if_f h c1
        refine lv_aload_n hx hb dX12_proposal_42 rfl (lv_at hl 0 rfl) ?_
        refine gM_worth XX I dX12_proposal_43 ?_
        refine lv_bipush (v := 6) hx hb dX12_proposal_46 (by decide) ?_
        refine lv_aload_n hx hb dX12_proposal_48 rfl (lv_at hl 0 rfl) ?_
        refine gM_proposals XX I dX12_proposal_49 ?_
        refine lv_imul hx hb dX12_proposal_52 ?_
        refine lv_iload_n hx hb dX12_proposal_53 rfl (lv_at hl 1 rfl) ?_
        refine lv_iadd hx hb dX12_proposal_54 ?_
        refine lv_iconst (v := 0) hx hb dX12_proposal_55 (by decide) ?_
        obtain ⟨g6, h⟩ := gd_some h
        refine r_iast XX I 6 (aM_worth) (sM_worth) g6 dX12_proposal_56 (fun H locs I => ?_)
        obtain ⟨s7, es7⟩ : ∃ z, z = sr s 7 (((6 : Int32) * (gi s 5)) + v2) (0 : Int32) := ⟨_, rfl⟩
        replace h := lt_e h es7
        replace I : Iv G (va_A (wM G ad sa) s0.heap.size) s0 H locs (wM G ad s7) := by rw [es7]; exact I
        obtain ⟨y8, ey8⟩ : ∃ z : Int32, z = v2 + (1 : Int32) := ⟨_, rfl⟩
        replace h := lt_e h ey8
        refine lv_iinc (v := y8) (lv' := [(2, .int y8), (0, .ref (ad 0))]) hx hb dX12_proposal_57 hl (k := 1) rfl (by rw [ey8]; rfl) (by decide) rfl (fun ls hl => ?_)
        refine lv_goto (tgt := 36) hx hb dX12_proposal_60 (by decide) ?_
        exact ih _ _ h _ _ I ls (lv_sub hl [1, 0] rfl)
  unfold f_M_proposal at h
  refine lv_iload_n hx hb dX12_proposal_0 rfl (lv_at hl 1 rfl) ?_
  refine lv_iconst (v := 0) hx hb dX12_proposal_1 (by decide) ?_
  refine lv_bipush (v := 9) hx hb dX12_proposal_2 (by decide) ?_
  refine scall_i (rest := []) XX I hl.1 (c_S_in l G OK x1 (0 : Int32) (9 : Int32) _ rfl) kS_X12_99 rfl rfl (Nat.le_of_ble_eq_true rfl) ⟨rfl, rfl, Nat.le_of_ble_eq_true rfl, Nat.le_of_ble_eq_true rfl⟩ ⟨Nat.zero_le _, Nat.zero_le _⟩ dX12_proposal_4 (fun H locs hz1 I => ?_)
  refine lv_if_ne (tgt := 12) hx hb dX12_proposal_7 (by decide) (fun c1 => ?_) (fun c1 => ?_)
  · replace h := if_f h c1
    refine lv_aload_n hx hb dX12_proposal_12 rfl (lv_at hl 0 rfl) ?_
    refine gM_proposals XX I dX12_proposal_13 ?_
    refine lv_bipush (v := 8) hx hb dX12_proposal_16 (by decide) ?_
    refine lv_icmp_ne (tgt := 24) hx hb dX12_proposal_18 (by decide) (fun c1 => ?_) (fun c1 => ?_)
    · replace h := if_f h c1
      refine lv_aload_n hx hb dX12_proposal_24 rfl (lv_at hl 0 rfl) ?_
      refine gM_weight XX I dX12_proposal_25 ?_
      refine lv_aload_n hx hb dX12_proposal_28 rfl (lv_at hl 0 rfl) ?_
      refine gM_proposals XX I dX12_proposal_29 ?_
      refine lv_iload_n hx hb dX12_proposal_32 rfl (lv_at hl 1 rfl) ?_
      obtain ⟨g2, h⟩ := gd_some h
      refine r_iast XX I 5 (aM_weight) (sM_weight) g2 dX12_proposal_33 (fun H locs I => ?_)
      obtain ⟨s3, es3⟩ : ∃ z, z = sr sa 6 (gi sa 5) x1 := ⟨_, rfl⟩
      replace h := lt_e h es3
      replace I : Iv G (va_A (wM G ad sa) s0.heap.size) s0 H locs (wM G ad s3) := by rw [es3]; exact I
      refine lv_iconst (v := 0) hx hb dX12_proposal_34 (by decide) ?_
      refine lv_istore_n (lv' := [(2, .int (0 : Int32)), (0, .ref (ad 0)), (1, .int x1)]) hx hb dX12_proposal_35 rfl hl (by decide) rfl (fun ls hl => ?_)
      exact C36 fu _ _ h _ _ I ls (lv_sub hl [1, 0] rfl)
    · replace h := if_t h c1
      refine lv_bipush (v := (-2)) hx hb dX12_proposal_21 (by decide) ?_
      obtain ⟨rfl, rfl⟩ := some2 h
      exact e_i rfl XX hr I rfl dX12_proposal_23
  · replace h := if_t h c1
    refine lv_iconst (v := (-1)) hx hb dX12_proposal_10 (by decide) ?_
    obtain ⟨rfl, rfl⟩ := some2 h
    exact e_i rfl XX hr I rfl dX12_proposal_11
theorem kV_X12_241 : KV RX12 241 RX12 yX12_isProposal cX12_isProposal 2 (some .boolean) 1 := KV.mk wd_1252 wd_1254 wd_1625 wd_13 wd_1255 (by decide +kernel)
set_option maxHeartbeats 4000000 in
set_option maxRecDepth 100000 in
theorem c_M_weigh (l : Launch) (G : g_G) (OK : EOk G.2.2) (ad : Nat → Nat) (sa : g_St) (x1 : Int32) (x2 : Int32) (r : Int32) (ts : g_St) (h : f_M_weigh sa x1 x2 = some (r, ts)) : HI l G yX12_weigh (Cond.code yX12_weigh cX12_weigh 4 (some .int) :: gT) { frames := 2, cells := 0, slots := 0, locals := 43 } .int [.ref (ad 0), .int x1, .int x2] (wM G ad sa) r (wM G ad ts) := by
  refine HI.mk (lv := [(0, .ref (ad 0)), (1, .int x1), (2, .int x2)]) OK (by decide) (Nat.le_of_ble_eq_true rfl) rfl ?_
  intro p e s0 m args below meth c ls XX hr I hl
  have hx := XX.x
  have hb := XX.b
  unfold f_M_weigh at h
  refine lv_aload_n hx hb dX12_weigh_0 rfl (lv_at hl 0 rfl) ?_
  refine lv_iload_n hx hb dX12_weigh_1 rfl (lv_at hl 1 rfl) ?_
  refine wcall_i (rest := []) XX I hl.1 (c_M_isProposal l G OK ad sa x1 _ rfl) kV_X12_241 (Rc.mk XX I (q0 := 0) (ci := 12) wM_o rfl) rfl rfl (Nat.le_of_ble_eq_true rfl) ⟨rfl, rfl, Nat.le_of_ble_eq_true rfl, Nat.le_of_ble_eq_true rfl⟩ ⟨Nat.zero_le _, Nat.zero_le _⟩ dX12_weigh_2 (fun H locs hz1 I => ?_)
  refine lv_if_eq (tgt := 18) hx hb dX12_weigh_5 (by decide) (fun c1 => ?_) (fun c1 => ?_)
  · replace h := if_t h c1
    refine lv_iconst (v := (-1)) hx hb dX12_weigh_18 (by decide) ?_
    obtain ⟨rfl, rfl⟩ := some2 h
    exact e_i rfl XX hr I rfl dX12_weigh_19
  · replace h := if_f h c1
    refine lv_iload_n hx hb dX12_weigh_8 rfl (lv_at hl 2 rfl) ?_
    refine lv_iconst (v := 0) hx hb dX12_weigh_9 (by decide) ?_
    refine lv_bipush (v := 9) hx hb dX12_weigh_10 (by decide) ?_
    refine scall_i (rest := []) XX I hl.1 (c_S_in l G OK x2 (0 : Int32) (9 : Int32) _ rfl) kS_X12_99 rfl rfl (Nat.le_of_ble_eq_true rfl) ⟨rfl, rfl, Nat.le_of_ble_eq_true rfl, Nat.le_of_ble_eq_true rfl⟩ ⟨Nat.zero_le _, Nat.zero_le _⟩ dX12_weigh_12 (fun H locs hz2 I => ?_)
    refine lv_if_ne (tgt := 20) hx hb dX12_weigh_15 (by decide) (fun c1 => ?_) (fun c1 => ?_)
    · replace h := if_f h c1
      refine lv_aload_n hx hb dX12_weigh_20 rfl (lv_at hl 0 rfl) ?_
      refine gM_weight XX I dX12_weigh_21 ?_
      refine lv_iload_n hx hb dX12_weigh_24 rfl (lv_at hl 1 rfl) ?_
      obtain ⟨g3, h⟩ := gd_some h
      refine r_iald XX I 5 (aM_weight) g3 dX12_weigh_25 ?_
      refine lv_topi (fun y4 ey4 => ?_)
      replace h := lt_e h ey4
      refine lv_istore_n (lv' := [(3, .int y4), (0, .ref (ad 0)), (1, .int x1), (2, .int x2)]) hx hb dX12_weigh_26 rfl hl (by decide) rfl (fun ls hl => ?_)
      refine lv_aload_n hx hb dX12_weigh_27 rfl (lv_at hl 1 rfl) ?_
      refine gM_weight XX I dX12_weigh_28 ?_
      refine lv_iload_n hx hb dX12_weigh_31 rfl (lv_at hl 2 rfl) ?_
      refine lv_iload_n hx hb dX12_weigh_32 rfl (lv_at hl 3 rfl) ?_
      obtain ⟨g5, h⟩ := gd_some h
      refine r_iast XX I 5 (aM_weight) (sM_weight) g5 dX12_weigh_33 (fun H locs I => ?_)
      obtain ⟨s6, es6⟩ : ∃ z, z = sr sa 6 x1 x2 := ⟨_, rfl⟩
      replace h := lt_e h es6
      replace I : Iv G (va_A (wM G ad sa) s0.heap.size) s0 H locs (wM G ad s6) := by rw [es6]; exact I
      refine lv_iload_n hx hb dX12_weigh_34 rfl (lv_at hl 0 rfl) ?_
      obtain ⟨rfl, rfl⟩ := some2 h
      exact e_i rfl XX hr I rfl dX12_weigh_35
    · replace h := if_t h c1
      refine lv_iconst (v := (-1)) hx hb dX12_weigh_18 (by decide) ?_
      obtain ⟨rfl, rfl⟩ := some2 h
      exact e_i rfl XX hr I rfl dX12_weigh_19
theorem kV_X12_244 : KV RX12 244 RX12 yX12_worthTo cX12_worthTo 3 (some .int) 2 := KV.mk wd_1260 wd_1262 wd_1626 wd_13 wd_1263 (by decide +kernel)
set_option maxHeartbeats 4000000 in
set_option maxRecDepth 100000 in
theorem c_M_worth (l : Launch) (G : g_G) (OK : EOk G.2.2) (ad : Nat → Nat) (sa : g_St) (x1 : Int32) (x2 : Int32) (x3 : Int32) (r : Int32) (ts : g_St) (h : f_M_worth sa x1 x2 x3 = some (r, ts)) : HI l G yX12_worth (Cond.code yX12_worth cX12_worth 5 (some .int) :: gT) { frames := 2, cells := 0, slots := 0, locals := 43 } .int [.ref (ad 0), .int x1, .int x2, .int x3] (wM G ad sa) r (wM G ad ts) := by
  refine HI.mk (lv := [(0, .ref (ad 0)), (1, .int x1), (2, .int x2), (3, .int x3)]) OK (by decide) (Nat.le_of_ble_eq_true rfl) rfl ?_
  intro p e s0 m args below meth c ls XX hr I hl
  have hx := XX.x
  have hb := XX.b
  unfold f_M_worth at h
  refine lv_aload_n hx hb dX12_worth_0 rfl (lv_at hl 0 rfl) ?_
  refine lv_iload_n hx hb dX12_worth_1 rfl (lv_at hl 1 rfl) ?_
  refine wcall_i (rest := []) XX I hl.1 (c_M_isProposal l G OK ad sa x1 _ rfl) kV_X12_241 (Rc.mk XX I (q0 := 0) (ci := 12) wM_o rfl) rfl rfl (Nat.le_of_ble_eq_true rfl) ⟨rfl, rfl, Nat.le_of_ble_eq_true rfl, Nat.le_of_ble_eq_true rfl⟩ ⟨Nat.zero_le _, Nat.zero_le _⟩ dX12_worth_2 (fun H locs hz1 I => ?_)
  refine lv_if_eq (tgt := 27) hx hb dX12_worth_5 (by decide) (fun c1 => ?_) (fun c1 => ?_)
  · replace h := if_t h c1
    refine lv_iconst (v := (-1)) hx hb dX12_worth_27 (by decide) ?_
    obtain ⟨rfl, rfl⟩ := some2 h
    exact e_i rfl XX hr I rfl dX12_worth_28
  · replace h := if_f h c1
    refine lv_aload_n hx hb dX12_worth_8 rfl (lv_at hl 0 rfl) ?_
    refine lv_iload_n hx hb dX12_worth_9 rfl (lv_at hl 2 rfl) ?_
    refine wcall_i (rest := []) XX I hl.1 (c_M_isPerson l G OK ad sa x2 _ rfl) kV_X12_238 (Rc.mk XX I (q0 := 0) (ci := 12) wM_o rfl) rfl rfl (Nat.le_of_ble_eq_true rfl) ⟨rfl, rfl, Nat.le_of_ble_eq_true rfl, Nat.le_of_ble_eq_true rfl⟩ ⟨Nat.zero_le _, Nat.zero_le _⟩ dX12_worth_10 (fun H locs hz2 I => ?_)
    refine lv_if_eq (tgt := 27) hx hb dX12_worth_13 (by decide) (fun c1 => ?_) (fun c1 => ?_)
    · replace h := if_t h c1
      refine lv_iconst (v := (-1)) hx hb dX12_worth_27 (by decide) ?_
      obtain ⟨rfl, rfl⟩ := some2 h
      exact e_i rfl XX hr I rfl dX12_worth_28
    · replace h := if_f h c1
      refine lv_iload_n hx hb dX12_worth_16 rfl (lv_at hl 3 rfl) ?_
      refine lv_bipush (v := (-9)) hx hb dX12_worth_17 (by decide) ?_
      refine lv_bipush (v := 9) hx hb dX12_worth_19 (by decide) ?_
      refine scall_i (rest := []) XX I hl.1 (c_S_in l G OK x3 ((-9) : Int32) (9 : Int32) _ rfl) kS_X12_99 rfl rfl (Nat.le_of_ble_eq_true rfl) ⟨rfl, rfl, Nat.le_of_ble_eq_true rfl, Nat.le_of_ble_eq_true rfl⟩ ⟨Nat.zero_le _, Nat.zero_le _⟩ dX12_worth_21 (fun H locs hz3 I => ?_)
      refine lv_if_ne (tgt := 29) hx hb dX12_worth_24 (by decide) (fun c1 => ?_) (fun c1 => ?_)
      · replace h := if_f h c1
        refine lv_aload_n hx hb dX12_worth_29 rfl (lv_at hl 0 rfl) ?_
        refine lv_iload_n hx hb dX12_worth_30 rfl (lv_at hl 1 rfl) ?_
        refine lv_iload_n hx hb dX12_worth_31 rfl (lv_at hl 2 rfl) ?_
        obtain ⟨r4, q5, h⟩ := bd1_some h
        refine wcall_i (rest := []) XX I hl.1 (c_M_worthTo l G OK ad sa x1 x2 r4 q5) kV_X12_244 (Rc.mk XX I (q0 := 0) (ci := 12) wM_o rfl) rfl rfl (Nat.le_of_ble_eq_true rfl) ⟨rfl, rfl, Nat.le_of_ble_eq_true rfl, Nat.le_of_ble_eq_true rfl⟩ ⟨Nat.zero_le _, Nat.zero_le _⟩ dX12_worth_32 (fun H locs hz6 I => ?_)
        refine lv_istore (lv' := [(4, .int r4), (0, .ref (ad 0)), (1, .int x1), (2, .int x2), (3, .int x3)]) hx hb dX12_worth_35 hl (by decide) rfl (fun ls hl => ?_)
        refine lv_aload_n hx hb dX12_worth_37 rfl (lv_at hl 1 rfl) ?_
        refine gM_worth XX I dX12_worth_38 ?_
        refine lv_bipush (v := 6) hx hb dX12_worth_41 (by decide) ?_
        refine lv_iload_n hx hb dX12_worth_43 rfl (lv_at hl 2 rfl) ?_
        refine lv_imul hx hb dX12_worth_44 ?_
        refine lv_iload_n hx hb dX12_worth_45 rfl (lv_at hl 3 rfl) ?_
        refine lv_iadd hx hb dX12_worth_46 ?_
        refine lv_iload_n hx hb dX12_worth_47 rfl (lv_at hl 4 rfl) ?_
        obtain ⟨g7, h⟩ := gd_some h
        refine r_iast XX I 6 (aM_worth) (sM_worth) g7 dX12_worth_48 (fun H locs I => ?_)
        obtain ⟨s8, es8⟩ : ∃ z, z = sr sa 7 (((6 : Int32) * x1) + x2) x3 := ⟨_, rfl⟩
        replace h := lt_e h es8
        replace I : Iv G (va_A (wM G ad sa) s0.heap.size) s0 H locs (wM G ad s8) := by rw [es8]; exact I
        refine lv_iload hx hb dX12_worth_49 (lv_at hl 0 rfl) ?_
        refine lv_bipush (v := 10) hx hb dX12_worth_51 (by decide) ?_
        refine lv_iadd hx hb dX12_worth_53 ?_
        obtain ⟨rfl, rfl⟩ := some2 h
        exact e_i rfl XX hr I rfl dX12_worth_54
      · replace h := if_t h c1
        refine lv_iconst (v := (-1)) hx hb dX12_worth_27 (by decide) ?_
        obtain ⟨rfl, rfl⟩ := some2 h
        exact e_i rfl XX hr I rfl dX12_worth_28
set_option maxHeartbeats 4000000 in
set_option maxRecDepth 100000 in
theorem c_M_proposalOf (l : Launch) (G : g_G) (OK : EOk G.2.2) (ad : Nat → Nat) (sa : g_St) (x1 : Int32) (x2 : Int32) (r : Int32) (h : f_M_proposalOf sa x1 x2 = some r) : HI l G yX12_proposalOf (Cond.code yX12_proposalOf cX12_proposalOf 3 (some .int) :: gT) { frames := 2, cells := 0, slots := 0, locals := 43 } .int [.ref (ad 0), .int x1, .int x2] (wM G ad sa) r (wM G ad sa) := by
  refine HI.mk (lv := [(0, .ref (ad 0)), (1, .int x1), (2, .int x2)]) OK (by decide) (Nat.le_of_ble_eq_true rfl) rfl ?_
  intro p e s0 m args below meth c ls XX hr I hl
  have hx := XX.x
  have hb := XX.b
  have C23 : ∀ (v1 : Int32) (v2 : Int32), f_M_proposalOf_L23 sa v1 v2 = some r → ∀ (H : Heap) (locs : List Loc), Iv G (va_A (wM G ad sa) s0.heap.size) s0 H locs (wM G ad sa) → ∀ ls, lv_has ls 3 [(0, .ref (ad 0)), (1, .int v1), (2, .int v2)] → W p l e { frames := 2, cells := 0, slots := 0, locals := 43 } s0 m args below meth c H locs 0 0 (QI G below .int r (wM G ad sa) (wM G ad sa) args s0) (F0 m 23 ls []) := by
    skip
    intro v1 v2 h H locs I ls hl
    unfold f_M_proposalOf_L23 at h
    refine lv_iload_n hx hb dX12_proposalOf_23 rfl (lv_at hl 2 rfl) ?_
    refine lv_iconst (v := (-1)) hx hb dX12_proposalOf_24 (by decide) ?_
    refine lv_icmp_ne (tgt := 37) hx hb dX12_proposalOf_25 (by decide) (fun c1 => ?_) (fun c1 => ?_)
    · replace h := if_f h c1
      refine lv_aload_n hx hb dX12_proposalOf_37 rfl (lv_at hl 0 rfl) ?_
      refine lv_iload_n hx hb dX12_proposalOf_38 rfl (lv_at hl 1 rfl) ?_
      refine lv_iload_n hx hb dX12_proposalOf_39 rfl (lv_at hl 2 rfl) ?_
      obtain ⟨r3, q4, h⟩ := bd1_some h
      refine wcall_i (rest := []) XX I hl.1 (c_M_worthTo l G OK ad sa v1 v2 r3 q4) kV_X12_244 (Rc.mk XX I (q0 := 0) (ci := 12) wM_o rfl) rfl rfl (Nat.le_of_ble_eq_true rfl) ⟨rfl, rfl, Nat.le_of_ble_eq_true rfl, Nat.le_of_ble_eq_true rfl⟩ ⟨Nat.zero_le _, Nat.zero_le _⟩ dX12_proposalOf_40 (fun H locs hz5 I => ?_)
      refine lv_bipush (v := 10) hx hb dX12_proposalOf_43 (by decide) ?_
      refine lv_iadd hx hb dX12_proposalOf_45 ?_
      obtain rfl := some1 h
      exact e_i rfl XX hr I rfl dX12_proposalOf_46
    · replace h := if_t h c1
      refine lv_aload_n hx hb dX12_proposalOf_28 rfl (lv_at hl 0 rfl) ?_
      refine gM_weight XX I dX12_proposalOf_29 ?_
      refine lv_iload_n hx hb dX12_proposalOf_32 rfl (lv_at hl 1 rfl) ?_
      obtain ⟨g6, h⟩ := gd_some h
      refine r_iald XX I 5 (aM_weight) g6 dX12_proposalOf_33 ?_
      refine lv_goto (tgt := 46) hx hb dX12_proposalOf_34 (by decide) ?_
      obtain rfl := some1 h
      exact e_i rfl XX hr I rfl dX12_proposalOf_46
  unfold f_M_proposalOf at h
  refine lv_aload_n hx hb dX12_proposalOf_0 rfl (lv_at hl 0 rfl) ?_
  refine lv_iload_n hx hb dX12_proposalOf_1 rfl (lv_at hl 1 rfl) ?_
  refine wcall_i (rest := []) XX I hl.1 (c_M_isProposal l G OK ad sa x1 _ rfl) kV_X12_241 (Rc.mk XX I (q0 := 0) (ci := 12) wM_o rfl) rfl rfl (Nat.le_of_ble_eq_true rfl) ⟨rfl, rfl, Nat.le_of_ble_eq_true rfl, Nat.le_of_ble_eq_true rfl⟩ ⟨Nat.zero_le _, Nat.zero_le _⟩ dX12_proposalOf_2 (fun H locs hz1 I => ?_)
  refine lv_if_eq (tgt := 21) hx hb dX12_proposalOf_5 (by decide) (fun c1 => ?_) (fun c1 => ?_)
  · replace h := if_t h c1
    refine lv_iconst (v := (-1)) hx hb dX12_proposalOf_21 (by decide) ?_
    obtain rfl := some1 h
    exact e_i rfl XX hr I rfl dX12_proposalOf_22
  · replace h := if_f h c1
    refine lv_iload_n hx hb dX12_proposalOf_8 rfl (lv_at hl 2 rfl) ?_
    refine lv_iconst (v := (-1)) hx hb dX12_proposalOf_9 (by decide) ?_
    refine lv_icmp_eq (tgt := 23) hx hb dX12_proposalOf_10 (by decide) (fun c1 => ?_) (fun c1 => ?_)
    · replace h := if_t h c1
      exact C23 _ _ h _ _ I ls (lv_sub hl [0, 1, 2] rfl)
    · replace h := if_f h c1
      refine lv_aload_n hx hb dX12_proposalOf_13 rfl (lv_at hl 0 rfl) ?_
      refine lv_iload_n hx hb dX12_proposalOf_14 rfl (lv_at hl 2 rfl) ?_
      refine wcall_i (rest := []) XX I hl.1 (c_M_isPerson l G OK ad sa x2 _ rfl) kV_X12_238 (Rc.mk XX I (q0 := 0) (ci := 12) wM_o rfl) rfl rfl (Nat.le_of_ble_eq_true rfl) ⟨rfl, rfl, Nat.le_of_ble_eq_true rfl, Nat.le_of_ble_eq_true rfl⟩ ⟨Nat.zero_le _, Nat.zero_le _⟩ dX12_proposalOf_15 (fun H locs hz2 I => ?_)
      refine lv_if_ne (tgt := 23) hx hb dX12_proposalOf_18 (by decide) (fun c1 => ?_) (fun c1 => ?_)
      · replace h := if_f h c1
        exact C23 _ _ h _ _ I ls (lv_sub hl [0, 1, 2] rfl)
      · replace h := if_t h c1
        refine lv_iconst (v := (-1)) hx hb dX12_proposalOf_21 (by decide) ?_
        obtain rfl := some1 h
        exact e_i rfl XX hr I rfl dX12_proposalOf_22
set_option maxHeartbeats 4000000 in
set_option maxRecDepth 100000 in
theorem c_S_isLaw (l : Launch) (G : g_G) (OK : EOk G.2.2) (x0 : Int32) (r : Int32) (h : f_S_isLaw x0 = r) : HI l G yX12_isLaw (Cond.code yX12_isLaw cX12_isLaw 1 (some .boolean) :: gT) { frames := 1, cells := 0, slots := 0, locals := 22 } .boolean [.int x0] [] r [] := by
  refine HI.mk (lv := [(0, .int x0)]) OK (by decide) (Nat.le_of_ble_eq_true rfl) rfl ?_
  intro p e s0 m args below meth c ls XX hr I hl
  have hx := XX.x
  have hb := XX.b
  unfold f_S_isLaw at h
  refine lv_iload_n hx hb dX12_isLaw_0 rfl (lv_at hl 0 rfl) ?_
  refine lv_iconst (v := 0) hx hb dX12_isLaw_1 (by decide) ?_
  refine lv_iconst (v := 2) hx hb dX12_isLaw_2 (by decide) ?_
  refine scall_i (rest := []) XX I hl.1 (c_S_in l G OK x0 (0 : Int32) (2 : Int32) _ rfl) kS_X12_99 rfl rfl (Nat.le_of_ble_eq_true rfl) ⟨rfl, rfl, Nat.le_of_ble_eq_true rfl, Nat.le_of_ble_eq_true rfl⟩ ⟨Nat.zero_le _, Nat.zero_le _⟩ dX12_isLaw_3 (fun H locs hz1 I => ?_)
  subst h
  exact e_z XX hr I hz1 rfl dX12_isLaw_6
theorem kS_X12_247 : KS RX12 247 yX12_isLaw cX12_isLaw 1 (some .boolean) 1 := KS.mk wd_1272 wd_1273 wd_13 wd_1274 (by decide +kernel)
set_option maxHeartbeats 4000000 in
set_option maxRecDepth 100000 in
theorem c_M_set (l : Launch) (G : g_G) (OK : EOk G.2.2) (ad : Nat → Nat) (sa : g_St) (x1 : Int32) (x2 : Int32) (r : Int32) (ts : g_St) (h : f_M_set sa x1 x2 = some (r, ts)) : HI l G yX12_set (Cond.code yX12_set cX12_set 5 (some .int) :: gT) { frames := 2, cells := 0, slots := 0, locals := 42 } .int [.ref (ad 0), .int x1, .int x2] (wM G ad sa) r (wM G ad ts) := by
  refine HI.mk (lv := [(0, .ref (ad 0)), (1, .int x1), (2, .int x2)]) OK (by decide) (Nat.le_of_ble_eq_true rfl) rfl ?_
  intro p e s0 m args below meth c ls XX hr I hl
  have hx := XX.x
  have hb := XX.b
  have C12 : ∀ (s : g_St) (v1 : Int32) (v2 : Int32) (z0 : Int32), f_M_set_L12 s v1 v2 z0 = some (r, ts) → ∀ (H : Heap) (locs : List Loc), Iv G (va_A (wM G ad sa) s0.heap.size) s0 H locs (wM G ad s) → ∀ ls, lv_has ls 5 [(0, .ref (ad 0)), (1, .int v1), (2, .int v2)] → W p l e { frames := 2, cells := 0, slots := 0, locals := 42 } s0 m args below meth c H locs 0 0 (QI G below .int r (wM G ad sa) (wM G ad ts) args s0) (F0 m 12 ls [.int z0]) := by
    skip
    intro s v1 v2 z0 h H locs I ls hl
    unfold f_M_set_L12 at h
    refine lv_istore_n (lv' := [(3, .int z0), (0, .ref (ad 0)), (1, .int v1), (2, .int v2)]) hx hb dX12_set_12 rfl hl (by decide) rfl (fun ls hl => ?_)
    refine lv_iload_n hx hb dX12_set_13 rfl (lv_at hl 2 rfl) ?_
    refine scall_i (rest := []) XX I hl.1 (c_S_isLaw l G OK v1 _ rfl) kS_X12_247 rfl rfl (Nat.le_of_ble_eq_true rfl) ⟨rfl, rfl, Nat.le_of_ble_eq_true rfl, Nat.le_of_ble_eq_true rfl⟩ ⟨Nat.zero_le _, Nat.zero_le _⟩ dX12_set_14 (fun H locs hz2 I => ?_)
    refine lv_if_eq (tgt := 39) hx hb dX12_set_17 (by decide) (fun c1 => ?_) (fun c1 => ?_)
    · replace h := if_t h c1
      refine lv_iconst (v := (-1)) hx hb dX12_set_39 (by decide) ?_
      obtain ⟨rfl, rfl⟩ := some2 h
      exact e_i rfl XX hr I rfl dX12_set_40
    · replace h := if_f h c1
      refine lv_iload_n hx hb dX12_set_20 rfl (lv_at hl 3 rfl) ?_
      refine lv_aload_n hx hb dX12_set_21 rfl (lv_at hl 1 rfl) ?_
      refine gM_leastOf XX I dX12_set_22 ?_
      refine lv_iload_n hx hb dX12_set_25 rfl (lv_at hl 0 rfl) ?_
      obtain ⟨g3, h⟩ := gd_some h
      refine r_iald XX I 8 (aM_leastOf) g3 dX12_set_26 ?_
      refine lv_aload_n hx hb dX12_set_27 rfl (lv_at hl 1 rfl) ?_
      refine gM_mostOf XX I dX12_set_28 ?_
      refine lv_iload_n hx hb dX12_set_31 rfl (lv_at hl 0 rfl) ?_
      obtain ⟨g4, h⟩ := gd_some h
      refine r_iald XX I 9 (aM_mostOf) g4 dX12_set_32 ?_
      refine scall_i (rest := []) XX I hl.1 (c_S_in l G OK v2 (gr s 9 z0.toNatClampNeg) (gr s 10 z0.toNatClampNeg) _ rfl) kS_X12_99 rfl rfl (Nat.le_of_ble_eq_true rfl) ⟨rfl, rfl, Nat.le_of_ble_eq_true rfl, Nat.le_of_ble_eq_true rfl⟩ ⟨Nat.zero_le _, Nat.zero_le _⟩ dX12_set_33 (fun H locs hz5 I => ?_)
      refine lv_if_ne (tgt := 41) hx hb dX12_set_36 (by decide) (fun c1 => ?_) (fun c1 => ?_)
      · replace h := if_f h c1
        refine lv_aload_n hx hb dX12_set_41 rfl (lv_at hl 1 rfl) ?_
        refine gM_laws XX I dX12_set_42 ?_
        refine lv_iload_n hx hb dX12_set_45 rfl (lv_at hl 2 rfl) ?_
        obtain ⟨g6, h⟩ := gd_some h
        refine r_iald XX I 7 (aM_laws) g6 dX12_set_46 ?_
        refine lv_topi (fun y7 ey7 => ?_)
        replace h := lt_e h ey7
        refine lv_istore (lv' := [(4, .int y7), (3, .int z0), (0, .ref (ad 0)), (1, .int v1), (2, .int v2)]) hx hb dX12_set_47 hl (by decide) rfl (fun ls hl => ?_)
        refine lv_aload_n hx hb dX12_set_49 rfl (lv_at hl 2 rfl) ?_
        refine gM_laws XX I dX12_set_50 ?_
        refine lv_iload_n hx hb dX12_set_53 rfl (lv_at hl 3 rfl) ?_
        refine lv_iload_n hx hb dX12_set_54 rfl (lv_at hl 4 rfl) ?_
        obtain ⟨g8, h⟩ := gd_some h
        refine r_iast XX I 7 (aM_laws) (sM_laws) g8 dX12_set_55 (fun H locs I => ?_)
        obtain ⟨s9, es9⟩ : ∃ z, z = sr s 8 v1 v2 := ⟨_, rfl⟩
        replace h := lt_e h es9
        replace I : Iv G (va_A (wM G ad sa) s0.heap.size) s0 H locs (wM G ad s9) := by rw [es9]; exact I
        refine lv_iload hx hb dX12_set_56 (lv_at hl 0 rfl) ?_
        obtain ⟨rfl, rfl⟩ := some2 h
        exact e_i rfl XX hr I rfl dX12_set_58
      · replace h := if_t h c1
        refine lv_iconst (v := (-1)) hx hb dX12_set_39 (by decide) ?_
        obtain ⟨rfl, rfl⟩ := some2 h
        exact e_i rfl XX hr I rfl dX12_set_40
  unfold f_M_set at h
  refine lv_iload_n hx hb dX12_set_0 rfl (lv_at hl 1 rfl) ?_
  refine scall_i (rest := []) XX I hl.1 (c_S_isLaw l G OK x1 _ rfl) kS_X12_247 rfl rfl (Nat.le_of_ble_eq_true rfl) ⟨rfl, rfl, Nat.le_of_ble_eq_true rfl, Nat.le_of_ble_eq_true rfl⟩ ⟨Nat.zero_le _, Nat.zero_le _⟩ dX12_set_1 (fun H locs hz1 I => ?_)
  refine lv_if_eq (tgt := 11) hx hb dX12_set_4 (by decide) (fun c1 => ?_) (fun c1 => ?_)
  · replace h := if_t h c1
    refine lv_iconst (v := 0) hx hb dX12_set_11 (by decide) ?_
    exact C12 _ _ _ _ h _ _ I ls (lv_sub hl [0, 1, 2] rfl)
  · replace h := if_f h c1
    refine lv_iload_n hx hb dX12_set_7 rfl (lv_at hl 1 rfl) ?_
    refine lv_goto (tgt := 12) hx hb dX12_set_8 (by decide) ?_
    exact C12 _ _ _ _ h _ _ I ls (lv_sub hl [0, 1, 2] rfl)
set_option maxHeartbeats 4000000 in
set_option maxRecDepth 100000 in
theorem c_M_law (l : Launch) (G : g_G) (OK : EOk G.2.2) (ad : Nat → Nat) (sa : g_St) (x1 : Int32) (r : Int32) (h : f_M_law sa x1 = some r) : HI l G yX12_law (Cond.code yX12_law cX12_law 2 (some .int) :: gT) { frames := 2, cells := 0, slots := 0, locals := 42 } .int [.ref (ad 0), .int x1] (wM G ad sa) r (wM G ad sa) := by
  refine HI.mk (lv := [(0, .ref (ad 0)), (1, .int x1)]) OK (by decide) (Nat.le_of_ble_eq_true rfl) rfl ?_
  intro p e s0 m args below meth c ls XX hr I hl
  have hx := XX.x
  have hb := XX.b
  unfold f_M_law at h
  refine lv_iload_n hx hb dX12_law_0 rfl (lv_at hl 1 rfl) ?_
  refine scall_i (rest := []) XX I hl.1 (c_S_isLaw l G OK x1 _ rfl) kS_X12_247 rfl rfl (Nat.le_of_ble_eq_true rfl) ⟨rfl, rfl, Nat.le_of_ble_eq_true rfl, Nat.le_of_ble_eq_true rfl⟩ ⟨Nat.zero_le _, Nat.zero_le _⟩ dX12_law_1 (fun H locs hz1 I => ?_)
  refine lv_if_eq (tgt := 16) hx hb dX12_law_4 (by decide) (fun c1 => ?_) (fun c1 => ?_)
  · replace h := if_t h c1
    refine lv_iload_n hx hb dX12_law_16 rfl (lv_at hl 1 rfl) ?_
    refine lv_iconst (v := 3) hx hb dX12_law_17 (by decide) ?_
    refine lv_icmp_ne (tgt := 31) hx hb dX12_law_18 (by decide) (fun c1 => ?_) (fun c1 => ?_)
    · replace h := if_f h c1
      refine lv_iconst (v := (-1)) hx hb dX12_law_31 (by decide) ?_
      obtain rfl := some1 h
      exact e_i rfl XX hr I rfl dX12_law_32
    · replace h := if_t h c1
      refine lv_aload_n hx hb dX12_law_21 rfl (lv_at hl 0 rfl) ?_
      refine gM_row XX I dX12_law_22 ?_
      refine lv_bipush (v := 6) hx hb dX12_law_25 (by decide) ?_
      refine r_iald XX I 10 (aM_row) (by unfold vp_in; decide) dX12_law_27 ?_
      refine lv_goto (tgt := 32) hx hb dX12_law_28 (by decide) ?_
      obtain rfl := some1 h
      exact e_i rfl XX hr I rfl dX12_law_32
  · replace h := if_f h c1
    refine lv_aload_n hx hb dX12_law_7 rfl (lv_at hl 0 rfl) ?_
    refine gM_laws XX I dX12_law_8 ?_
    refine lv_iload_n hx hb dX12_law_11 rfl (lv_at hl 1 rfl) ?_
    obtain ⟨g2, h⟩ := gd_some h
    refine r_iald XX I 7 (aM_laws) g2 dX12_law_12 ?_
    refine lv_goto (tgt := 32) hx hb dX12_law_13 (by decide) ?_
    obtain rfl := some1 h
    exact e_i rfl XX hr I rfl dX12_law_32
set_option maxHeartbeats 4000000 in
set_option maxRecDepth 100000 in
theorem c_M_isLow (l : Launch) (G : g_G) (OK : EOk G.2.2) (ad : Nat → Nat) (fu : Nat) (sa : g_St) (x1 : Int32) (x2 : Int32) (x3 : Int32) (r : Int32) (h : f_M_isLow fu sa x1 x2 x3 = some r) : HI l G yX12_isLow (Cond.code yX12_isLow cX12_isLow 6 (some .boolean) :: gT) { frames := 1, cells := 0, slots := 0, locals := 22 } .boolean [.ref (ad 0), .int x1, .int x2, .int x3] (wM G ad sa) r (wM G ad sa) := by
  refine HI.mk (lv := [(0, .ref (ad 0)), (1, .int x1), (2, .int x2), (3, .int x3)]) OK (by decide) (Nat.le_of_ble_eq_true rfl) rfl ?_
  intro p e s0 m args below meth c ls XX hr I hl
  have hx := XX.x
  have hb := XX.b
  have C11 : ∀ n : Nat, ∀ (v1 : Int32) (v2 : Int32) (v3 : Int32) (v4 : Int32) (v5 : Int32), f_M_isLow_L11 fu n sa v1 v2 v3 v4 v5 = some r → ∀ (H : Heap) (locs : List Loc), Iv G (va_A (wM G ad sa) s0.heap.size) s0 H locs (wM G ad sa) → ∀ ls, lv_has ls 6 [(0, .ref (ad 0)), (1, .int v1), (2, .int v2), (3, .int v3), (4, .int v4), (5, .int v5)] → W p l e { frames := 1, cells := 0, slots := 0, locals := 22 } s0 m args below meth c H locs 0 0 (QI G below .boolean r (wM G ad sa) (wM G ad sa) args s0) (F0 m 11 ls []) := by
    intro n
    induction n with
    | zero => intro v1 v2 v3 v4 v5 h; exact absurd h (fun q => by cases q)
    | succ n ih =>
      intro v1 v2 v3 v4 v5 h H locs I ls hl
      rw [f_M_isLow_L11] at h
      refine lv_iload hx hb dX12_isLow_11 (lv_at hl 5 rfl) ?_
      refine lv_aload_n hx hb dX12_isLow_13 rfl (lv_at hl 0 rfl) ?_
      refine gM_people XX I dX12_isLow_14 ?_
      refine lv_icmp_ge (tgt := 58) hx hb dX12_isLow_17 (by decide) (fun c1 => ?_) (fun c1 => ?_)
      · replace h := if_t h c1
        refine lv_iconst (v := 1) hx hb dX12_isLow_58 (by decide) ?_
        obtain rfl := some1 h
        exact e_z XX hr I rfl rfl dX12_isLow_59
      · replace h := if_f h c1
        refine lv_iload hx hb dX12_isLow_20 (lv_at hl 5 rfl) ?_
        refine lv_iload_n hx hb dX12_isLow_22 rfl (lv_at hl 3 rfl) ?_
        refine lv_icmp_eq (tgt := 52) hx hb dX12_isLow_23 (by decide) (fun c1 => ?_) (fun c1 => ?_)
        · replace h := if_t h c1
          obtain ⟨y4, ey4⟩ : ∃ z : Int32, z = v5 + (1 : Int32) := ⟨_, rfl⟩
          replace h := lt_e h ey4
          refine lv_iinc (v := y4) (lv' := [(5, .int y4), (0, .ref (ad 0)), (1, .int v1), (2, .int v2), (3, .int v3), (4, .int v4)]) hx hb dX12_isLow_52 hl (k := 5) rfl (by rw [ey4]; rfl) (by decide) rfl (fun ls hl => ?_)
          refine lv_goto (tgt := 11) hx hb dX12_isLow_55 (by decide) ?_
          exact ih _ _ _ _ _ h _ _ I ls (lv_sub hl [1, 2, 3, 4, 5, 0] rfl)
        · replace h := if_f h c1
          refine lv_aload_n hx hb dX12_isLow_26 rfl (lv_at hl 0 rfl) ?_
          refine gM_row XX I dX12_isLow_27 ?_
          refine lv_iload_n hx hb dX12_isLow_30 rfl (lv_at hl 1 rfl) ?_
          refine lv_iload hx hb dX12_isLow_31 (lv_at hl 5 rfl) ?_
          refine lv_iadd hx hb dX12_isLow_33 ?_
          obtain ⟨g5, h⟩ := gd_some h
          refine r_iald XX I 10 (aM_row) g5 dX12_isLow_34 ?_
          refine lv_if_le (tgt := 52) hx hb dX12_isLow_35 (by decide) (fun c1 => ?_) (fun c1 => ?_)
          · replace h := if_t h c1
            obtain ⟨y6, ey6⟩ : ∃ z : Int32, z = v5 + (1 : Int32) := ⟨_, rfl⟩
            replace h := lt_e h ey6
            refine lv_iinc (v := y6) (lv' := [(5, .int y6), (0, .ref (ad 0)), (1, .int v1), (2, .int v2), (3, .int v3), (4, .int v4)]) hx hb dX12_isLow_52 hl (k := 5) rfl (by rw [ey6]; rfl) (by decide) rfl (fun ls hl => ?_)
            refine lv_goto (tgt := 11) hx hb dX12_isLow_55 (by decide) ?_
            exact ih _ _ _ _ _ h _ _ I ls (lv_sub hl [1, 2, 3, 4, 5, 0] rfl)
          · replace h := if_f h c1
            refine lv_aload_n hx hb dX12_isLow_38 rfl (lv_at hl 0 rfl) ?_
            refine lv_iload_n hx hb dX12_isLow_39 rfl (lv_at hl 2 rfl) ?_
            refine lv_iload hx hb dX12_isLow_40 (lv_at hl 5 rfl) ?_
            obtain ⟨r7, q8, h⟩ := bd1_some h
            refine wcall_i (rest := []) XX I hl.1 (c_M_worthTo l G OK ad sa v2 v5 r7 q8) kV_X12_244 (Rc.mk XX I (q0 := 0) (ci := 12) wM_o rfl) rfl rfl (Nat.le_of_ble_eq_true rfl) ⟨rfl, rfl, Nat.le_of_ble_eq_true rfl, Nat.le_of_ble_eq_true rfl⟩ ⟨Nat.zero_le _, Nat.zero_le _⟩ dX12_isLow_42 (fun H locs hz9 I => ?_)
            refine lv_iload hx hb dX12_isLow_45 (lv_at hl 4 rfl) ?_
            refine lv_icmp_ge (tgt := 52) hx hb dX12_isLow_47 (by decide) (fun c1 => ?_) (fun c1 => ?_)
            · replace h := if_t h c1
              obtain ⟨y10, ey10⟩ : ∃ z : Int32, z = v5 + (1 : Int32) := ⟨_, rfl⟩
              replace h := lt_e h ey10
              refine lv_iinc (v := y10) (lv' := [(5, .int y10), (0, .ref (ad 0)), (1, .int v1), (2, .int v2), (3, .int v3), (4, .int v4)]) hx hb dX12_isLow_52 hl (k := 5) rfl (by rw [ey10]; rfl) (by decide) rfl (fun ls hl => ?_)
              refine lv_goto (tgt := 11) hx hb dX12_isLow_55 (by decide) ?_
              exact ih _ _ _ _ _ h _ _ I ls (lv_sub hl [1, 2, 3, 4, 5, 0] rfl)
            · replace h := if_f h c1
              refine lv_iconst (v := 0) hx hb dX12_isLow_50 (by decide) ?_
              obtain rfl := some1 h
              exact e_z XX hr I rfl rfl dX12_isLow_51
  unfold f_M_isLow at h
  refine lv_aload_n hx hb dX12_isLow_0 rfl (lv_at hl 0 rfl) ?_
  refine lv_iload_n hx hb dX12_isLow_1 rfl (lv_at hl 2 rfl) ?_
  refine lv_iload_n hx hb dX12_isLow_2 rfl (lv_at hl 3 rfl) ?_
  obtain ⟨r1, q2, h⟩ := bd1_some h
  refine wcall_i (rest := []) XX I hl.1 (c_M_worthTo l G OK ad sa x2 x3 r1 q2) kV_X12_244 (Rc.mk XX I (q0 := 0) (ci := 12) wM_o rfl) rfl rfl (Nat.le_of_ble_eq_true rfl) ⟨rfl, rfl, Nat.le_of_ble_eq_true rfl, Nat.le_of_ble_eq_true rfl⟩ ⟨Nat.zero_le _, Nat.zero_le _⟩ dX12_isLow_3 (fun H locs hz3 I => ?_)
  refine lv_istore (lv' := [(4, .int r1), (0, .ref (ad 0)), (1, .int x1), (2, .int x2), (3, .int x3)]) hx hb dX12_isLow_6 hl (by decide) rfl (fun ls hl => ?_)
  refine lv_iconst (v := 0) hx hb dX12_isLow_8 (by decide) ?_
  refine lv_istore (lv' := [(5, .int (0 : Int32)), (4, .int r1), (0, .ref (ad 0)), (1, .int x1), (2, .int x2), (3, .int x3)]) hx hb dX12_isLow_9 hl (by decide) rfl (fun ls hl => ?_)
  exact C11 fu _ _ _ _ _ h _ _ I ls (lv_sub hl [2, 3, 4, 5, 1, 0] rfl)
set_option maxHeartbeats 4000000 in
set_option maxRecDepth 100000 in
theorem c_M_isCalled (l : Launch) (G : g_G) (OK : EOk G.2.2) (ad : Nat → Nat) (fu : Nat) (sa : g_St) (x1 : Int32) (x2 : Int32) (r : Int32) (h : f_M_isCalled fu sa x1 x2 = some r) : HI l G yX12_isCalled (Cond.code yX12_isCalled cX12_isCalled 7 (some .boolean) :: gT) { frames := 0, cells := 0, slots := 0, locals := 0 } .boolean [.ref (ad 0), .int x1, .int x2] (wM G ad sa) r (wM G ad sa) := by
  refine HI.mk (lv := [(0, .ref (ad 0)), (1, .int x1), (2, .int x2)]) OK (by decide) (Nat.le_of_ble_eq_true rfl) rfl ?_
  intro p e s0 m args below meth c ls XX hr I hl
  have hx := XX.x
  have hb := XX.b
  have C65 : ∀ (k8 : g_St → Int32 → Int32 → Int32 → Int32 → Int32 → Option (Int32)), (∀ (v1 : Int32) (v2 : Int32) (v3 : Int32) (v4 : Int32) (v5 : Int32), k8 sa v1 v2 v3 v4 v5 = some r → ∀ (H : Heap) (locs : List Loc), Iv G (va_A (wM G ad sa) s0.heap.size) s0 H locs (wM G ad sa) → ∀ ls, lv_has ls 7 [(0, .ref (ad 0)), (1, .int v1), (2, .int v2), (3, .int v3), (4, .int v4), (5, .int v5)] → W p l e { frames := 0, cells := 0, slots := 0, locals := 0 } s0 m args below meth c H locs 0 0 (QI G below .boolean r (wM G ad sa) (wM G ad sa) args s0) (F0 m 8 ls [])) → ∀ (v1 : Int32) (v2 : Int32) (v3 : Int32) (v5 : Int32) (v6 : Int32) (z0 : Int32) (z1 : Int32), f_M_isCalled_L65 fu k8 sa v1 v2 v3 v5 v6 z0 z1 = some r → ∀ (H : Heap) (locs : List Loc), Iv G (va_A (wM G ad sa) s0.heap.size) s0 H locs (wM G ad sa) → ∀ ls, lv_has ls 7 [(0, .ref (ad 0)), (1, .int v1), (2, .int v2), (3, .int v3), (5, .int v5), (6, .int v6)] → narrow .boolean (.int z0) = .int z0 → W p l e { frames := 0, cells := 0, slots := 0, locals := 0 } s0 m args below meth c H locs 0 0 (QI G below .boolean r (wM G ad sa) (wM G ad sa) args s0) (F0 m 65 ls [.int z0, .int z1]) := by
    intro k8 hk8
    intro v1 v2 v3 v5 v6 z0 z1 h H locs I ls hl hz0
    unfold f_M_isCalled_L65 at h
    refine lv_iadd hx hb dX12_isCalled_65 ?_
    refine lv_topi (fun y5 ey5 => ?_)
    replace h := lt_e h ey5
    refine lv_istore (lv' := [(4, .int y5), (0, .ref (ad 0)), (1, .int v1), (2, .int v2), (3, .int v3), (5, .int v5), (6, .int v6)]) hx hb dX12_isCalled_66 hl (by decide) rfl (fun ls hl => ?_)
    refine lv_iload_n hx hb dX12_isCalled_68 rfl (lv_at hl 4 rfl) ?_
    refine lv_iload hx hb dX12_isCalled_69 (lv_at hl 6 rfl) ?_
    refine lv_if_eq (tgt := 78) hx hb dX12_isCalled_71 (by decide) (fun c1 => ?_) (fun c1 => ?_)
    · replace h := if_t h c1
      refine lv_iconst (v := 0) hx hb dX12_isCalled_78 (by decide) ?_
      refine lv_iadd hx hb dX12_isCalled_79 ?_
      refine lv_topi (fun y6 ey6 => ?_)
      replace h := lt_e h ey6
      refine lv_istore_n (lv' := [(3, .int y6), (4, .int y5), (0, .ref (ad 0)), (1, .int v1), (2, .int v2), (5, .int v5), (6, .int v6)]) hx hb dX12_isCalled_80 rfl hl (by decide) rfl (fun ls hl => ?_)
      obtain ⟨y7, ey7⟩ : ∃ z : Int32, z = v5 + (1 : Int32) := ⟨_, rfl⟩
      replace h := lt_e h ey7
      refine lv_iinc (v := y7) (lv' := [(5, .int y7), (3, .int y6), (4, .int y5), (0, .ref (ad 0)), (1, .int v1), (2, .int v2), (6, .int v6)]) hx hb dX12_isCalled_81 hl (k := 5) rfl (by rw [ey7]; rfl) (by decide) rfl (fun ls hl => ?_)
      refine lv_goto (tgt := 8) hx hb dX12_isCalled_84 (by decide) ?_
      exact hk8 _ _ _ _ _ h _ _ I ls (lv_sub hl [3, 4, 5, 1, 2, 0] rfl)
    · replace h := if_f h c1
      refine lv_iconst (v := 1) hx hb dX12_isCalled_74 (by decide) ?_
      refine lv_goto (tgt := 79) hx hb dX12_isCalled_75 (by decide) ?_
      refine lv_iadd hx hb dX12_isCalled_79 ?_
      refine lv_topi (fun y8 ey8 => ?_)
      replace h := lt_e h ey8
      refine lv_istore_n (lv' := [(3, .int y8), (4, .int y5), (0, .ref (ad 0)), (1, .int v1), (2, .int v2), (5, .int v5), (6, .int v6)]) hx hb dX12_isCalled_80 rfl hl (by decide) rfl (fun ls hl => ?_)
      obtain ⟨y9, ey9⟩ : ∃ z : Int32, z = v5 + (1 : Int32) := ⟨_, rfl⟩
      replace h := lt_e h ey9
      refine lv_iinc (v := y9) (lv' := [(5, .int y9), (3, .int y8), (4, .int y5), (0, .ref (ad 0)), (1, .int v1), (2, .int v2), (6, .int v6)]) hx hb dX12_isCalled_81 hl (k := 5) rfl (by rw [ey9]; rfl) (by decide) rfl (fun ls hl => ?_)
      refine lv_goto (tgt := 8) hx hb dX12_isCalled_84 (by decide) ?_
      exact hk8 _ _ _ _ _ h _ _ I ls (lv_sub hl [3, 4, 5, 1, 2, 0] rfl)
  have C45 : ∀ (k8 : g_St → Int32 → Int32 → Int32 → Int32 → Int32 → Option (Int32)), (∀ (v1 : Int32) (v2 : Int32) (v3 : Int32) (v4 : Int32) (v5 : Int32), k8 sa v1 v2 v3 v4 v5 = some r → ∀ (H : Heap) (locs : List Loc), Iv G (va_A (wM G ad sa) s0.heap.size) s0 H locs (wM G ad sa) → ∀ ls, lv_has ls 7 [(0, .ref (ad 0)), (1, .int v1), (2, .int v2), (3, .int v3), (4, .int v4), (5, .int v5)] → W p l e { frames := 0, cells := 0, slots := 0, locals := 0 } s0 m args below meth c H locs 0 0 (QI G below .boolean r (wM G ad sa) (wM G ad sa) args s0) (F0 m 8 ls [])) → ∀ (v1 : Int32) (v2 : Int32) (v3 : Int32) (v4 : Int32) (v5 : Int32) (z0 : Int32), f_M_isCalled_L45 fu k8 sa v1 v2 v3 v4 v5 z0 = some r → ∀ (H : Heap) (locs : List Loc), Iv G (va_A (wM G ad sa) s0.heap.size) s0 H locs (wM G ad sa) → ∀ ls, lv_has ls 7 [(0, .ref (ad 0)), (1, .int v1), (2, .int v2), (3, .int v3), (4, .int v4), (5, .int v5)] → narrow .boolean (.int z0) = .int z0 → W p l e { frames := 0, cells := 0, slots := 0, locals := 0 } s0 m args below meth c H locs 0 0 (QI G below .boolean r (wM G ad sa) (wM G ad sa) args s0) (F0 m 45 ls [.int z0]) := by
    intro k8 hk8
    intro v1 v2 v3 v4 v5 z0 h H locs I ls hl hz0
    unfold f_M_isCalled_L45 at h
    refine lv_istore (lv' := [(6, .int z0), (0, .ref (ad 0)), (1, .int v1), (2, .int v2), (3, .int v3), (4, .int v4), (5, .int v5)]) hx hb dX12_isCalled_45 hl (by decide) rfl (fun ls hl => ?_)
    refine lv_iload hx hb dX12_isCalled_47 (lv_at hl 5 rfl) ?_
    refine lv_iload hx hb dX12_isCalled_49 (lv_at hl 0 rfl) ?_
    refine lv_if_eq (tgt := 64) hx hb dX12_isCalled_51 (by decide) (fun c1 => ?_) (fun c1 => ?_)
    · replace h := if_t h c1
      refine lv_iconst (v := 0) hx hb dX12_isCalled_64 (by decide) ?_
      exact C65 k8 hk8 _ _ _ _ _ _ _ h _ _ I ls (lv_sub hl [1, 2, 3, 4, 6, 0] rfl) (rfl)
    · replace h := if_f h c1
      refine lv_iload hx hb dX12_isCalled_54 (lv_at hl 6 rfl) ?_
      refine lv_iload_n hx hb dX12_isCalled_56 rfl (lv_at hl 3 rfl) ?_
      refine lv_icmp_ge (tgt := 64) hx hb dX12_isCalled_57 (by decide) (fun c1 => ?_) (fun c1 => ?_)
      · replace h := if_t h c1
        refine lv_iconst (v := 0) hx hb dX12_isCalled_64 (by decide) ?_
        exact C65 k8 hk8 _ _ _ _ _ _ _ h _ _ I ls (lv_sub hl [1, 2, 3, 4, 6, 0] rfl) (rfl)
      · replace h := if_f h c1
        refine lv_iconst (v := 1) hx hb dX12_isCalled_60 (by decide) ?_
        refine lv_goto (tgt := 65) hx hb dX12_isCalled_61 (by decide) ?_
        exact C65 k8 hk8 _ _ _ _ _ _ _ h _ _ I ls (lv_sub hl [1, 2, 3, 4, 6, 0] rfl) (rfl)
  have C8 : ∀ n : Nat, ∀ (v1 : Int32) (v2 : Int32) (v3 : Int32) (v4 : Int32) (v5 : Int32), f_M_isCalled_L8 fu n sa v1 v2 v3 v4 v5 = some r → ∀ (H : Heap) (locs : List Loc), Iv G (va_A (wM G ad sa) s0.heap.size) s0 H locs (wM G ad sa) → ∀ ls, lv_has ls 7 [(0, .ref (ad 0)), (1, .int v1), (2, .int v2), (3, .int v3), (4, .int v4), (5, .int v5)] → W p l e { frames := 0, cells := 0, slots := 0, locals := 0 } s0 m args below meth c H locs 0 0 (QI G below .boolean r (wM G ad sa) (wM G ad sa) args s0) (F0 m 8 ls []) := by
    intro n
    induction n with
    | zero => intro v1 v2 v3 v4 v5 h; exact absurd h (fun q => by cases q)
    | succ n ih =>
      intro v1 v2 v3 v4 v5 h H locs I ls hl
      rw [f_M_isCalled_L8] at h
      refine lv_iload hx hb dX12_isCalled_8 (lv_at hl 5 rfl) ?_
      refine lv_aload_n hx hb dX12_isCalled_10 rfl (lv_at hl 0 rfl) ?_
      refine gM_people XX I dX12_isCalled_11 ?_
      refine lv_icmp_ge (tgt := 87) hx hb dX12_isCalled_14 (by decide) (fun c1 => ?_) (fun c1 => ?_)
      · replace h := if_t h c1
        refine lv_aload_n hx hb dX12_isCalled_87 rfl (lv_at hl 0 rfl) ?_
        refine gM_row XX I dX12_isCalled_88 ?_
        refine lv_iload_n hx hb dX12_isCalled_91 rfl (lv_at hl 1 rfl) ?_
        refine lv_bipush (v := 6) hx hb dX12_isCalled_92 (by decide) ?_
        refine lv_iadd hx hb dX12_isCalled_94 ?_
        obtain ⟨g1, h⟩ := gd_some h
        refine r_iald XX I 10 (aM_row) g1 dX12_isCalled_95 ?_
        refine lv_iload_n hx hb dX12_isCalled_96 rfl (lv_at hl 3 rfl) ?_
        obtain ⟨g2, h⟩ := gd_some h
        refine lv_irem hx hb dX12_isCalled_97 g2 ?_
        refine lv_iload hx hb dX12_isCalled_98 (lv_at hl 4 rfl) ?_
        refine lv_icmp_ne (tgt := 107) hx hb dX12_isCalled_100 (by decide) (fun c1 => ?_) (fun c1 => ?_)
        · replace h := if_f h c1
          refine lv_iconst (v := 0) hx hb dX12_isCalled_107 (by decide) ?_
          obtain rfl := some1 h
          exact e_z XX hr I rfl rfl dX12_isCalled_108
        · replace h := if_t h c1
          refine lv_iconst (v := 1) hx hb dX12_isCalled_103 (by decide) ?_
          refine lv_goto (tgt := 108) hx hb dX12_isCalled_104 (by decide) ?_
          obtain rfl := some1 h
          exact e_z XX hr I rfl rfl dX12_isCalled_108
      · replace h := if_f h c1
        refine lv_aload_n hx hb dX12_isCalled_17 rfl (lv_at hl 0 rfl) ?_
        refine gM_kindOf XX I dX12_isCalled_18 ?_
        refine lv_iload hx hb dX12_isCalled_21 (lv_at hl 5 rfl) ?_
        obtain ⟨g3, h⟩ := gd_some h
        refine r_iald XX I 1 (aM_kindOf) g3 dX12_isCalled_23 ?_
        refine lv_iconst (v := 4) hx hb dX12_isCalled_24 (by decide) ?_
        refine lv_icmp_ne (tgt := 44) hx hb dX12_isCalled_25 (by decide) (fun c1 => ?_) (fun c1 => ?_)
        · replace h := if_f h c1
          refine lv_iconst (v := 0) hx hb dX12_isCalled_44 (by decide) ?_
          exact C45 (f_M_isCalled_L8 fu n) ih _ _ _ _ _ _ h _ _ I ls (lv_sub hl [0, 1, 2, 3, 4, 5] rfl) (rfl)
        · replace h := if_t h c1
          refine lv_aload_n hx hb dX12_isCalled_28 rfl (lv_at hl 0 rfl) ?_
          refine gM_row XX I dX12_isCalled_29 ?_
          refine lv_iload_n hx hb dX12_isCalled_32 rfl (lv_at hl 1 rfl) ?_
          refine lv_iload hx hb dX12_isCalled_33 (lv_at hl 5 rfl) ?_
          refine lv_iadd hx hb dX12_isCalled_35 ?_
          obtain ⟨g4, h⟩ := gd_some h
          refine r_iald XX I 10 (aM_row) g4 dX12_isCalled_36 ?_
          refine lv_if_le (tgt := 44) hx hb dX12_isCalled_37 (by decide) (fun c1 => ?_) (fun c1 => ?_)
          · replace h := if_t h c1
            refine lv_iconst (v := 0) hx hb dX12_isCalled_44 (by decide) ?_
            exact C45 (f_M_isCalled_L8 fu n) ih _ _ _ _ _ _ h _ _ I ls (lv_sub hl [0, 1, 2, 3, 4, 5] rfl) (rfl)
          · replace h := if_f h c1
            refine lv_iconst (v := 1) hx hb dX12_isCalled_40 (by decide) ?_
            refine lv_goto (tgt := 45) hx hb dX12_isCalled_41 (by decide) ?_
            exact C45 (f_M_isCalled_L8 fu n) ih _ _ _ _ _ _ h _ _ I ls (lv_sub hl [0, 1, 2, 3, 4, 5] rfl) (rfl)
  unfold f_M_isCalled at h
  refine lv_iconst (v := 0) hx hb dX12_isCalled_0 (by decide) ?_
  refine lv_istore_n (lv' := [(3, .int (0 : Int32)), (0, .ref (ad 0)), (1, .int x1), (2, .int x2)]) hx hb dX12_isCalled_1 rfl hl (by decide) rfl (fun ls hl => ?_)
  refine lv_iconst (v := 0) hx hb dX12_isCalled_2 (by decide) ?_
  refine lv_istore (lv' := [(4, .int (0 : Int32)), (3, .int (0 : Int32)), (0, .ref (ad 0)), (1, .int x1), (2, .int x2)]) hx hb dX12_isCalled_3 hl (by decide) rfl (fun ls hl => ?_)
  refine lv_iconst (v := 0) hx hb dX12_isCalled_5 (by decide) ?_
  refine lv_istore (lv' := [(5, .int (0 : Int32)), (4, .int (0 : Int32)), (3, .int (0 : Int32)), (0, .ref (ad 0)), (1, .int x1), (2, .int x2)]) hx hb dX12_isCalled_6 hl (by decide) rfl (fun ls hl => ?_)
  exact C8 fu _ _ _ _ _ h _ _ I ls (lv_sub hl [3, 4, 5, 2, 1, 0] rfl)
theorem kV_X12_250 : KV RX12 250 RX12 yX12_isLow cX12_isLow 6 (some .boolean) 3 := KV.mk wd_1291 wd_1293 wd_1629 wd_13 wd_1294 (by decide +kernel)
theorem kV_X12_253 : KV RX12 253 RX12 yX12_isCalled cX12_isCalled 7 (some .boolean) 2 := KV.mk wd_1295 wd_1297 wd_1630 wd_13 wd_1298 (by decide +kernel)
set_option maxHeartbeats 4000000 in
set_option maxRecDepth 100000 in
theorem c_M_wouldBy (l : Launch) (G : g_G) (OK : EOk G.2.2) (ad : Nat → Nat) (fu : Nat) (sa : g_St) (x1 : Int32) (x2 : Int32) (x3 : Int32) (r : Int32) (h : f_M_wouldBy fu sa x1 x2 x3 = some r) : HI l G yX12_wouldBy (Cond.code yX12_wouldBy cX12_wouldBy 5 (some .boolean) :: gT) { frames := 2, cells := 0, slots := 0, locals := 47 } .boolean [.ref (ad 0), .int x1, .int x2, .int x3] (wM G ad sa) r (wM G ad sa) := by
  refine HI.mk (lv := [(0, .ref (ad 0)), (1, .int x1), (2, .int x2), (3, .int x3)]) OK (by decide) (Nat.le_of_ble_eq_true rfl) rfl ?_
  intro p e s0 m args below meth c ls XX hr I hl
  have hx := XX.x
  have hb := XX.b
  unfold f_M_wouldBy at h
  refine lv_aload_n hx hb dX12_wouldBy_0 rfl (lv_at hl 0 rfl) ?_
  refine gM_row XX I dX12_wouldBy_1 ?_
  refine lv_iload_n hx hb dX12_wouldBy_4 rfl (lv_at hl 1 rfl) ?_
  refine lv_iload_n hx hb dX12_wouldBy_5 rfl (lv_at hl 3 rfl) ?_
  refine lv_iadd hx hb dX12_wouldBy_6 ?_
  obtain ⟨g1, h⟩ := gd_some h
  refine r_iald XX I 10 (aM_row) g1 dX12_wouldBy_7 ?_
  refine lv_if_ne (tgt := 13) hx hb dX12_wouldBy_8 (by decide) (fun c1 => ?_) (fun c1 => ?_)
  · replace h := if_f h c1
    refine lv_aload_n hx hb dX12_wouldBy_13 rfl (lv_at hl 0 rfl) ?_
    refine lv_iload_n hx hb dX12_wouldBy_14 rfl (lv_at hl 2 rfl) ?_
    refine lv_iload_n hx hb dX12_wouldBy_15 rfl (lv_at hl 3 rfl) ?_
    obtain ⟨r2, q3, h⟩ := bd1_some h
    refine wcall_i (rest := []) XX I hl.1 (c_M_worthTo l G OK ad sa x2 x3 r2 q3) kV_X12_244 (Rc.mk XX I (q0 := 0) (ci := 12) wM_o rfl) rfl rfl (Nat.le_of_ble_eq_true rfl) ⟨rfl, rfl, Nat.le_of_ble_eq_true rfl, Nat.le_of_ble_eq_true rfl⟩ ⟨Nat.zero_le _, Nat.zero_le _⟩ dX12_wouldBy_16 (fun H locs hz4 I => ?_)
    refine lv_istore (lv' := [(4, .int r2), (0, .ref (ad 0)), (1, .int x1), (2, .int x2), (3, .int x3)]) hx hb dX12_wouldBy_19 hl (by decide) rfl (fun ls hl => ?_)
    refine lv_aload_n hx hb dX12_wouldBy_21 rfl (lv_at hl 1 rfl) ?_
    refine gM_kindOf XX I dX12_wouldBy_22 ?_
    refine lv_iload_n hx hb dX12_wouldBy_25 rfl (lv_at hl 4 rfl) ?_
    obtain ⟨g5, h⟩ := gd_some h
    refine r_iald XX I 1 (aM_kindOf) g5 dX12_wouldBy_26 ?_
    refine lv_topi (fun y6 ey6 => ?_)
    replace h := lt_e h ey6
    by_cases q1 : y6 = (1 : Int32)
    · replace h := if_t h q1
      refine lv_tableIn (tgt := 60) (off := 33) hx hb dX12_wouldBy_27 (by rw [q1]; decide) (by rw [q1]; decide) (by rw [q1]; rfl) (by decide) ?_
      refine lv_iload hx hb dX12_wouldBy_60 (lv_at hl 0 rfl) ?_
      refine lv_if_ge (tgt := 69) hx hb dX12_wouldBy_62 (by decide) (fun c1 => ?_) (fun c1 => ?_)
      · replace h := if_t h c1
        refine lv_iconst (v := 0) hx hb dX12_wouldBy_69 (by decide) ?_
        obtain rfl := some1 h
        exact e_z XX hr I rfl rfl dX12_wouldBy_70
      · replace h := if_f h c1
        refine lv_iconst (v := 1) hx hb dX12_wouldBy_65 (by decide) ?_
        refine lv_goto (tgt := 70) hx hb dX12_wouldBy_66 (by decide) ?_
        obtain rfl := some1 h
        exact e_z XX hr I rfl rfl dX12_wouldBy_70
    replace h := if_f h q1
    by_cases q2 : y6 = (2 : Int32)
    · replace h := if_t h q2
      refine lv_tableIn (tgt := 71) (off := 44) hx hb dX12_wouldBy_27 (by rw [q2]; decide) (by rw [q2]; decide) (by rw [q2]; rfl) (by decide) ?_
      refine lv_iload hx hb dX12_wouldBy_71 (lv_at hl 0 rfl) ?_
      refine lv_aload_n hx hb dX12_wouldBy_73 rfl (lv_at hl 1 rfl) ?_
      refine gM_aOf XX I dX12_wouldBy_74 ?_
      refine lv_iload_n hx hb dX12_wouldBy_77 rfl (lv_at hl 4 rfl) ?_
      obtain ⟨g7, h⟩ := gd_some h
      refine r_iald XX I 2 (aM_aOf) g7 dX12_wouldBy_78 ?_
      refine lv_ineg hx hb dX12_wouldBy_79 ?_
      refine lv_icmp_ge (tgt := 87) hx hb dX12_wouldBy_80 (by decide) (fun c1 => ?_) (fun c1 => ?_)
      · replace h := if_t h c1
        refine lv_iconst (v := 0) hx hb dX12_wouldBy_87 (by decide) ?_
        obtain rfl := some1 h
        exact e_z XX hr I rfl rfl dX12_wouldBy_88
      · replace h := if_f h c1
        refine lv_iconst (v := 1) hx hb dX12_wouldBy_83 (by decide) ?_
        refine lv_goto (tgt := 88) hx hb dX12_wouldBy_84 (by decide) ?_
        obtain rfl := some1 h
        exact e_z XX hr I rfl rfl dX12_wouldBy_88
    replace h := if_f h q2
    by_cases q3 : y6 = (3 : Int32)
    · replace h := if_t h q3
      refine lv_tableIn (tgt := 89) (off := 62) hx hb dX12_wouldBy_27 (by rw [q3]; decide) (by rw [q3]; decide) (by rw [q3]; rfl) (by decide) ?_
      refine lv_iload hx hb dX12_wouldBy_89 (lv_at hl 0 rfl) ?_
      refine lv_aload_n hx hb dX12_wouldBy_91 rfl (lv_at hl 1 rfl) ?_
      refine gM_aOf XX I dX12_wouldBy_92 ?_
      refine lv_iload_n hx hb dX12_wouldBy_95 rfl (lv_at hl 4 rfl) ?_
      obtain ⟨g8, h⟩ := gd_some h
      refine r_iald XX I 2 (aM_aOf) g8 dX12_wouldBy_96 ?_
      refine lv_ineg hx hb dX12_wouldBy_97 ?_
      refine lv_icmp_ge (tgt := 115) hx hb dX12_wouldBy_98 (by decide) (fun c1 => ?_) (fun c1 => ?_)
      · replace h := if_t h c1
        refine lv_iconst (v := 0) hx hb dX12_wouldBy_115 (by decide) ?_
        obtain rfl := some1 h
        exact e_z XX hr I rfl rfl dX12_wouldBy_116
      · replace h := if_f h c1
        refine lv_aload_n hx hb dX12_wouldBy_101 rfl (lv_at hl 1 rfl) ?_
        refine lv_iload_n hx hb dX12_wouldBy_102 rfl (lv_at hl 2 rfl) ?_
        refine lv_iload_n hx hb dX12_wouldBy_103 rfl (lv_at hl 3 rfl) ?_
        refine lv_iload_n hx hb dX12_wouldBy_104 rfl (lv_at hl 4 rfl) ?_
        obtain ⟨r9, q10, h⟩ := bd1_some h
        refine wcall_i (rest := []) XX I hl.1 (c_M_isLow l G OK ad fu sa x1 x2 x3 r9 q10) kV_X12_250 (Rc.mk XX I (q0 := 0) (ci := 12) wM_o rfl) rfl rfl (Nat.le_of_ble_eq_true rfl) ⟨rfl, rfl, Nat.le_of_ble_eq_true rfl, Nat.le_of_ble_eq_true rfl⟩ ⟨Nat.zero_le _, Nat.zero_le _⟩ dX12_wouldBy_105 (fun H locs hz11 I => ?_)
        refine lv_if_eq (tgt := 115) hx hb dX12_wouldBy_108 (by decide) (fun c1 => ?_) (fun c1 => ?_)
        · replace h := if_t h c1
          refine lv_iconst (v := 0) hx hb dX12_wouldBy_115 (by decide) ?_
          obtain rfl := some1 h
          exact e_z XX hr I rfl rfl dX12_wouldBy_116
        · replace h := if_f h c1
          refine lv_iconst (v := 1) hx hb dX12_wouldBy_111 (by decide) ?_
          refine lv_goto (tgt := 116) hx hb dX12_wouldBy_112 (by decide) ?_
          obtain rfl := some1 h
          exact e_z XX hr I rfl rfl dX12_wouldBy_116
    replace h := if_f h q3
    by_cases q4 : y6 = (4 : Int32)
    · replace h := if_t h q4
      refine lv_tableIn (tgt := 117) (off := 90) hx hb dX12_wouldBy_27 (by rw [q4]; decide) (by rw [q4]; decide) (by rw [q4]; rfl) (by decide) ?_
      refine lv_iload hx hb dX12_wouldBy_117 (lv_at hl 0 rfl) ?_
      refine lv_if_ge (tgt := 135) hx hb dX12_wouldBy_119 (by decide) (fun c1 => ?_) (fun c1 => ?_)
      · replace h := if_t h c1
        refine lv_iconst (v := 0) hx hb dX12_wouldBy_135 (by decide) ?_
        obtain rfl := some1 h
        exact e_z XX hr I rfl rfl dX12_wouldBy_136
      · replace h := if_f h c1
        refine lv_aload_n hx hb dX12_wouldBy_122 rfl (lv_at hl 1 rfl) ?_
        refine lv_iload_n hx hb dX12_wouldBy_123 rfl (lv_at hl 2 rfl) ?_
        refine lv_iload_n hx hb dX12_wouldBy_124 rfl (lv_at hl 4 rfl) ?_
        obtain ⟨r12, q13, h⟩ := bd1_some h
        refine wcall_i (rest := []) XX I hl.1 (c_M_isCalled l G OK ad fu sa x1 x3 r12 q13) kV_X12_253 (Rc.mk XX I (q0 := 0) (ci := 12) wM_o rfl) rfl rfl (Nat.le_of_ble_eq_true rfl) ⟨rfl, rfl, Nat.le_of_ble_eq_true rfl, Nat.le_of_ble_eq_true rfl⟩ ⟨Nat.zero_le _, Nat.zero_le _⟩ dX12_wouldBy_125 (fun H locs hz14 I => ?_)
        refine lv_if_eq (tgt := 135) hx hb dX12_wouldBy_128 (by decide) (fun c1 => ?_) (fun c1 => ?_)
        · replace h := if_t h c1
          refine lv_iconst (v := 0) hx hb dX12_wouldBy_135 (by decide) ?_
          obtain rfl := some1 h
          exact e_z XX hr I rfl rfl dX12_wouldBy_136
        · replace h := if_f h c1
          refine lv_iconst (v := 1) hx hb dX12_wouldBy_131 (by decide) ?_
          refine lv_goto (tgt := 136) hx hb dX12_wouldBy_132 (by decide) ?_
          obtain rfl := some1 h
          exact e_z XX hr I rfl rfl dX12_wouldBy_136
    replace h := if_f h q4
    by_cases q5 : y6 = (5 : Int32)
    · replace h := if_t h q5
      refine lv_tableIn (tgt := 137) (off := 110) hx hb dX12_wouldBy_27 (by rw [q5]; decide) (by rw [q5]; decide) (by rw [q5]; rfl) (by decide) ?_
      refine lv_aload_n hx hb dX12_wouldBy_137 rfl (lv_at hl 1 rfl) ?_
      refine gM_aOf XX I dX12_wouldBy_138 ?_
      refine lv_iload_n hx hb dX12_wouldBy_141 rfl (lv_at hl 4 rfl) ?_
      obtain ⟨g15, h⟩ := gd_some h
      refine r_iald XX I 2 (aM_aOf) g15 dX12_wouldBy_142 ?_
      refine lv_iload_n hx hb dX12_wouldBy_143 rfl (lv_at hl 3 rfl) ?_
      refine lv_ishr hx hb dX12_wouldBy_144 ?_
      refine lv_iconst (v := 1) hx hb dX12_wouldBy_145 (by decide) ?_
      refine lv_iand hx hb dX12_wouldBy_146 ?_
      refine lv_iconst (v := 1) hx hb dX12_wouldBy_147 (by decide) ?_
      refine lv_icmp_ne (tgt := 155) hx hb dX12_wouldBy_148 (by decide) (fun c1 => ?_) (fun c1 => ?_)
      · replace h := if_f h c1
        refine lv_iconst (v := 0) hx hb dX12_wouldBy_155 (by decide) ?_
        obtain rfl := some1 h
        exact e_z XX hr I rfl rfl dX12_wouldBy_156
      · replace h := if_t h c1
        refine lv_iconst (v := 1) hx hb dX12_wouldBy_151 (by decide) ?_
        refine lv_goto (tgt := 156) hx hb dX12_wouldBy_152 (by decide) ?_
        obtain rfl := some1 h
        exact e_z XX hr I rfl rfl dX12_wouldBy_156
    replace h := if_f h q5
    refine lv_tableOut (tgt := 157) hx hb dX12_wouldBy_27 (tab_out (lo := 1) (hi := 5) (fun k k1 k2 => by rcases (show k = 1 ∨ k = 2 ∨ k = 3 ∨ k = 4 ∨ k = 5 by omega) with rfl | rfl | rfl | rfl | rfl <;> assumption)) (by decide) ?_
    refine lv_iconst (v := 0) hx hb dX12_wouldBy_157 (by decide) ?_
    obtain rfl := some1 h
    exact e_z XX hr I rfl rfl dX12_wouldBy_158
  · replace h := if_t h c1
    refine lv_iconst (v := 0) hx hb dX12_wouldBy_11 (by decide) ?_
    obtain rfl := some1 h
    exact e_z XX hr I rfl rfl dX12_wouldBy_12
theorem kV_X12_259 : KV RX12 259 RX12 yX12_wouldBy cX12_wouldBy 5 (some .boolean) 3 := KV.mk wd_1287 wd_1289 wd_1628 wd_13 wd_1290 (by decide +kernel)
set_option maxHeartbeats 4000000 in
set_option maxRecDepth 100000 in
theorem c_M_wouldSet (l : Launch) (G : g_G) (OK : EOk G.2.2) (ad : Nat → Nat) (fu : Nat) (sa : g_St) (x1 : Int32) (x2 : Int32) (r : Int32) (h : f_M_wouldSet fu sa x1 x2 = some r) : HI l G yX12_wouldSet (Cond.code yX12_wouldSet cX12_wouldSet 6 (some .int) :: gT) { frames := 3, cells := 0, slots := 0, locals := 71 } .int [.ref (ad 0), .int x1, .int x2] (wM G ad sa) r (wM G ad sa) := by
  refine HI.mk (lv := [(0, .ref (ad 0)), (1, .int x1), (2, .int x2)]) OK (by decide) (Nat.le_of_ble_eq_true rfl) rfl ?_
  intro p e s0 m args below meth c ls XX hr I hl
  have hx := XX.x
  have hb := XX.b
  have C59 : ∀ (k5 : g_St → Int32 → Int32 → Int32 → Int32 → Option (Int32)), (∀ (v1 : Int32) (v2 : Int32) (v3 : Int32) (v4 : Int32), k5 sa v1 v2 v3 v4 = some r → ∀ (H : Heap) (locs : List Loc), Iv G (va_A (wM G ad sa) s0.heap.size) s0 H locs (wM G ad sa) → ∀ ls, lv_has ls 6 [(0, .ref (ad 0)), (1, .int v1), (2, .int v2), (3, .int v3), (4, .int v4)] → W p l e { frames := 3, cells := 0, slots := 0, locals := 71 } s0 m args below meth c H locs 0 0 (QI G below .int r (wM G ad sa) (wM G ad sa) args s0) (F0 m 5 ls [])) → ∀ (v1 : Int32) (v2 : Int32) (v3 : Int32) (v4 : Int32) (z0 : Int32), f_M_wouldSet_L59 fu k5 sa v1 v2 v3 v4 z0 = some r → ∀ (H : Heap) (locs : List Loc), Iv G (va_A (wM G ad sa) s0.heap.size) s0 H locs (wM G ad sa) → ∀ ls, lv_has ls 6 [(0, .ref (ad 0)), (1, .int v1), (2, .int v2), (3, .int v3), (4, .int v4)] → narrow .boolean (.int z0) = .int z0 → W p l e { frames := 3, cells := 0, slots := 0, locals := 71 } s0 m args below meth c H locs 0 0 (QI G below .int r (wM G ad sa) (wM G ad sa) args s0) (F0 m 59 ls [.int z0]) := by
    intro k5 hk5
    intro v1 v2 v3 v4 z0 h H locs I ls hl hz0
    unfold f_M_wouldSet_L59 at h
    refine lv_istore (lv' := [(5, .int z0), (0, .ref (ad 0)), (1, .int v1), (2, .int v2), (3, .int v3), (4, .int v4)]) hx hb dX12_wouldSet_59 hl (by decide) rfl (fun ls hl => ?_)
    refine lv_iload_n hx hb dX12_wouldSet_61 rfl (lv_at hl 4 rfl) ?_
    refine lv_iload hx hb dX12_wouldSet_62 (lv_at hl 0 rfl) ?_
    refine lv_if_eq (tgt := 74) hx hb dX12_wouldSet_64 (by decide) (fun c1 => ?_) (fun c1 => ?_)
    · replace h := if_t h c1
      refine lv_iconst (v := 0) hx hb dX12_wouldSet_74 (by decide) ?_
      refine lv_ior hx hb dX12_wouldSet_75 ?_
      refine lv_topi (fun y5 ey5 => ?_)
      replace h := lt_e h ey5
      refine lv_istore_n (lv' := [(3, .int y5), (5, .int z0), (0, .ref (ad 0)), (1, .int v1), (2, .int v2), (4, .int v4)]) hx hb dX12_wouldSet_76 rfl hl (by decide) rfl (fun ls hl => ?_)
      obtain ⟨y6, ey6⟩ : ∃ z : Int32, z = v4 + (1 : Int32) := ⟨_, rfl⟩
      replace h := lt_e h ey6
      refine lv_iinc (v := y6) (lv' := [(4, .int y6), (3, .int y5), (5, .int z0), (0, .ref (ad 0)), (1, .int v1), (2, .int v2)]) hx hb dX12_wouldSet_77 hl (k := 5) rfl (by rw [ey6]; rfl) (by decide) rfl (fun ls hl => ?_)
      refine lv_goto (tgt := 5) hx hb dX12_wouldSet_80 (by decide) ?_
      exact hk5 _ _ _ _ h _ _ I ls (lv_sub hl [3, 4, 5, 1, 0] rfl)
    · replace h := if_f h c1
      refine lv_iconst (v := 1) hx hb dX12_wouldSet_67 (by decide) ?_
      refine lv_iload hx hb dX12_wouldSet_68 (lv_at hl 5 rfl) ?_
      refine lv_ishl hx hb dX12_wouldSet_70 ?_
      refine lv_goto (tgt := 75) hx hb dX12_wouldSet_71 (by decide) ?_
      refine lv_ior hx hb dX12_wouldSet_75 ?_
      refine lv_topi (fun y7 ey7 => ?_)
      replace h := lt_e h ey7
      refine lv_istore_n (lv' := [(3, .int y7), (5, .int z0), (0, .ref (ad 0)), (1, .int v1), (2, .int v2), (4, .int v4)]) hx hb dX12_wouldSet_76 rfl hl (by decide) rfl (fun ls hl => ?_)
      obtain ⟨y8, ey8⟩ : ∃ z : Int32, z = v4 + (1 : Int32) := ⟨_, rfl⟩
      replace h := lt_e h ey8
      refine lv_iinc (v := y8) (lv' := [(4, .int y8), (3, .int y7), (5, .int z0), (0, .ref (ad 0)), (1, .int v1), (2, .int v2)]) hx hb dX12_wouldSet_77 hl (k := 5) rfl (by rw [ey8]; rfl) (by decide) rfl (fun ls hl => ?_)
      refine lv_goto (tgt := 5) hx hb dX12_wouldSet_80 (by decide) ?_
      exact hk5 _ _ _ _ h _ _ I ls (lv_sub hl [3, 4, 5, 1, 0] rfl)
  have C5 : ∀ n : Nat, ∀ (v1 : Int32) (v2 : Int32) (v3 : Int32) (v4 : Int32), f_M_wouldSet_L5 fu n sa v1 v2 v3 v4 = some r → ∀ (H : Heap) (locs : List Loc), Iv G (va_A (wM G ad sa) s0.heap.size) s0 H locs (wM G ad sa) → ∀ ls, lv_has ls 6 [(0, .ref (ad 0)), (1, .int v1), (2, .int v2), (3, .int v3), (4, .int v4)] → W p l e { frames := 3, cells := 0, slots := 0, locals := 71 } s0 m args below meth c H locs 0 0 (QI G below .int r (wM G ad sa) (wM G ad sa) args s0) (F0 m 5 ls []) := by
    intro n
    induction n with
    | zero => intro v1 v2 v3 v4 h; exact absurd h (fun q => by cases q)
    | succ n ih =>
      intro v1 v2 v3 v4 h H locs I ls hl
      rw [f_M_wouldSet_L5] at h
      refine lv_iload hx hb dX12_wouldSet_5 (lv_at hl 4 rfl) ?_
      refine lv_aload_n hx hb dX12_wouldSet_7 rfl (lv_at hl 0 rfl) ?_
      refine gM_people XX I dX12_wouldSet_8 ?_
      refine lv_icmp_ge (tgt := 83) hx hb dX12_wouldSet_11 (by decide) (fun c1 => ?_) (fun c1 => ?_)
      · replace h := if_t h c1
        refine lv_iload_n hx hb dX12_wouldSet_83 rfl (lv_at hl 3 rfl) ?_
        obtain rfl := some1 h
        exact e_i rfl XX hr I rfl dX12_wouldSet_84
      · replace h := if_f h c1
        refine lv_iload hx hb dX12_wouldSet_14 (lv_at hl 4 rfl) ?_
        refine lv_aload_n hx hb dX12_wouldSet_16 rfl (lv_at hl 0 rfl) ?_
        refine gM_self XX I dX12_wouldSet_17 ?_
        refine lv_icmp_ne (tgt := 51) hx hb dX12_wouldSet_20 (by decide) (fun c1 => ?_) (fun c1 => ?_)
        · replace h := if_f h c1
          refine lv_aload_n hx hb dX12_wouldSet_51 rfl (lv_at hl 0 rfl) ?_
          refine lv_iload_n hx hb dX12_wouldSet_52 rfl (lv_at hl 1 rfl) ?_
          refine lv_iload_n hx hb dX12_wouldSet_53 rfl (lv_at hl 2 rfl) ?_
          refine lv_iload hx hb dX12_wouldSet_54 (lv_at hl 4 rfl) ?_
          obtain ⟨r1, q2, h⟩ := bd1_some h
          refine wcall_i (rest := []) XX I hl.1 (c_M_wouldBy l G OK ad fu sa v1 v2 v4 r1 q2) kV_X12_259 (Rc.mk XX I (q0 := 0) (ci := 12) wM_o rfl) rfl rfl (Nat.le_of_ble_eq_true rfl) ⟨rfl, rfl, Nat.le_of_ble_eq_true rfl, Nat.le_of_ble_eq_true rfl⟩ ⟨Nat.zero_le _, Nat.zero_le _⟩ dX12_wouldSet_56 (fun H locs hz3 I => ?_)
          exact C59 (f_M_wouldSet_L5 fu n) ih _ _ _ _ _ h _ _ I ls (lv_sub hl [0, 1, 2, 3, 4] rfl) (hz3)
        · replace h := if_t h c1
          refine lv_aload_n hx hb dX12_wouldSet_23 rfl (lv_at hl 0 rfl) ?_
          refine gM_selfSays XX I dX12_wouldSet_24 ?_
          refine lv_iconst (v := 1) hx hb dX12_wouldSet_27 (by decide) ?_
          refine lv_icmp_ne (tgt := 47) hx hb dX12_wouldSet_28 (by decide) (fun c1 => ?_) (fun c1 => ?_)
          · replace h := if_f h c1
            refine lv_iconst (v := 0) hx hb dX12_wouldSet_47 (by decide) ?_
            refine lv_goto (tgt := 59) hx hb dX12_wouldSet_48 (by decide) ?_
            exact C59 (f_M_wouldSet_L5 fu n) ih _ _ _ _ _ h _ _ I ls (lv_sub hl [0, 1, 2, 3, 4] rfl) (rfl)
          · replace h := if_t h c1
            refine lv_aload_n hx hb dX12_wouldSet_31 rfl (lv_at hl 0 rfl) ?_
            refine gM_row XX I dX12_wouldSet_32 ?_
            refine lv_iload_n hx hb dX12_wouldSet_35 rfl (lv_at hl 1 rfl) ?_
            refine lv_iload hx hb dX12_wouldSet_36 (lv_at hl 4 rfl) ?_
            refine lv_iadd hx hb dX12_wouldSet_38 ?_
            obtain ⟨g4, h⟩ := gd_some h
            refine r_iald XX I 10 (aM_row) g4 dX12_wouldSet_39 ?_
            refine lv_if_le (tgt := 47) hx hb dX12_wouldSet_40 (by decide) (fun c1 => ?_) (fun c1 => ?_)
            · replace h := if_t h c1
              refine lv_iconst (v := 0) hx hb dX12_wouldSet_47 (by decide) ?_
              refine lv_goto (tgt := 59) hx hb dX12_wouldSet_48 (by decide) ?_
              exact C59 (f_M_wouldSet_L5 fu n) ih _ _ _ _ _ h _ _ I ls (lv_sub hl [0, 1, 2, 3, 4] rfl) (rfl)
            · replace h := if_f h c1
              refine lv_iconst (v := 1) hx hb dX12_wouldSet_43 (by decide) ?_
              refine lv_goto (tgt := 59) hx hb dX12_wouldSet_44 (by decide) ?_
              exact C59 (f_M_wouldSet_L5 fu n) ih _ _ _ _ _ h _ _ I ls (lv_sub hl [0, 1, 2, 3, 4] rfl) (rfl)
  unfold f_M_wouldSet at h
  refine lv_iconst (v := 0) hx hb dX12_wouldSet_0 (by decide) ?_
  refine lv_istore_n (lv' := [(3, .int (0 : Int32)), (0, .ref (ad 0)), (1, .int x1), (2, .int x2)]) hx hb dX12_wouldSet_1 rfl hl (by decide) rfl (fun ls hl => ?_)
  refine lv_iconst (v := 0) hx hb dX12_wouldSet_2 (by decide) ?_
  refine lv_istore (lv' := [(4, .int (0 : Int32)), (3, .int (0 : Int32)), (0, .ref (ad 0)), (1, .int x1), (2, .int x2)]) hx hb dX12_wouldSet_3 hl (by decide) rfl (fun ls hl => ?_)
  exact C5 fu _ _ _ _ h _ _ I ls (lv_sub hl [2, 3, 4, 1, 0] rfl)
theorem kV_X12_262 : KV RX12 262 RX12 yX12_wouldSet cX12_wouldSet 6 (some .int) 2 := KV.mk wd_1283 wd_1285 wd_1627 wd_13 wd_1286 (by decide +kernel)
set_option maxHeartbeats 4000000 in
set_option maxRecDepth 100000 in
theorem c_M_saySet (l : Launch) (G : g_G) (OK : EOk G.2.2) (ad : Nat → Nat) (fu : Nat) (sa : g_St) (x1 : Int32) (x2 : Int32) (r : Int32) (h : f_M_saySet fu sa x1 x2 = some r) : HI l G yX12_saySet (Cond.code yX12_saySet cX12_saySet 9 (some .int) :: gT) { frames := 4, cells := 0, slots := 0, locals := 96 } .int [.ref (ad 0), .int x1, .int x2] (wM G ad sa) r (wM G ad sa) := by
  refine HI.mk (lv := [(0, .ref (ad 0)), (1, .int x1), (2, .int x2)]) OK (by decide) (Nat.le_of_ble_eq_true rfl) rfl ?_
  intro p e s0 m args below meth c ls XX hr I hl
  have hx := XX.x
  have hb := XX.b
  have C100 : ∀ (k24 : g_St → Int32 → Int32 → Int32 → Option (Int32)), (∀ (v3 : Int32) (v4 : Int32) (v5 : Int32), k24 sa v3 v4 v5 = some r → ∀ (H : Heap) (locs : List Loc), Iv G (va_A (wM G ad sa) s0.heap.size) s0 H locs (wM G ad sa) → ∀ ls, lv_has ls 9 [(0, .ref (ad 0)), (3, .int v3), (4, .int v4), (5, .int v5)] → W p l e { frames := 4, cells := 0, slots := 0, locals := 96 } s0 m args below meth c H locs 0 0 (QI G below .int r (wM G ad sa) (wM G ad sa) args s0) (F0 m 24 ls [])) → ∀ (k45 : g_St → Int32 → Int32 → Int32 → Int32 → Int32 → Option (Int32)), (∀ (v3 : Int32) (v4 : Int32) (v5 : Int32) (v6 : Int32) (v7 : Int32), k45 sa v3 v4 v5 v6 v7 = some r → ∀ (H : Heap) (locs : List Loc), Iv G (va_A (wM G ad sa) s0.heap.size) s0 H locs (wM G ad sa) → ∀ ls, lv_has ls 9 [(0, .ref (ad 0)), (3, .int v3), (4, .int v4), (5, .int v5), (6, .int v6), (7, .int v7)] → W p l e { frames := 4, cells := 0, slots := 0, locals := 96 } s0 m args below meth c H locs 0 0 (QI G below .int r (wM G ad sa) (wM G ad sa) args s0) (F0 m 45 ls [])) → ∀ (v3 : Int32) (v4 : Int32) (v5 : Int32) (v6 : Int32) (v7 : Int32) (z0 : Int32), f_M_saySet_L100 fu k24 k45 sa v3 v4 v5 v6 v7 z0 = some r → ∀ (H : Heap) (locs : List Loc), Iv G (va_A (wM G ad sa) s0.heap.size) s0 H locs (wM G ad sa) → ∀ ls, lv_has ls 9 [(0, .ref (ad 0)), (3, .int v3), (4, .int v4), (5, .int v5), (6, .int v6), (7, .int v7)] → narrow .boolean (.int z0) = .int z0 → W p l e { frames := 4, cells := 0, slots := 0, locals := 96 } s0 m args below meth c H locs 0 0 (QI G below .int r (wM G ad sa) (wM G ad sa) args s0) (F0 m 100 ls [.int z0]) := by
    intro k24 hk24 k45 hk45
    intro v3 v4 v5 v6 v7 z0 h H locs I ls hl hz0
    unfold f_M_saySet_L100 at h
    refine lv_istore (lv' := [(8, .int z0), (0, .ref (ad 0)), (3, .int v3), (4, .int v4), (5, .int v5), (6, .int v6), (7, .int v7)]) hx hb dX12_saySet_100 hl (by decide) rfl (fun ls hl => ?_)
    refine lv_iload hx hb dX12_saySet_102 (lv_at hl 0 rfl) ?_
    refine lv_if_eq (tgt := 112) hx hb dX12_saySet_104 (by decide) (fun c1 => ?_) (fun c1 => ?_)
    · replace h := if_t h c1
      refine lv_iload hx hb dX12_saySet_112 (lv_at hl 5 rfl) ?_
      refine lv_istore (lv' := [(6, .int v6), (8, .int z0), (0, .ref (ad 0)), (3, .int v3), (4, .int v4), (5, .int v5), (7, .int v7)]) hx hb dX12_saySet_114 hl (by decide) rfl (fun ls hl => ?_)
      obtain ⟨y9, ey9⟩ : ∃ z : Int32, z = v7 + (1 : Int32) := ⟨_, rfl⟩
      replace h := lt_e h ey9
      refine lv_iinc (v := y9) (lv' := [(7, .int y9), (6, .int v6), (8, .int z0), (0, .ref (ad 0)), (3, .int v3), (4, .int v4), (5, .int v5)]) hx hb dX12_saySet_116 hl (k := 6) rfl (by rw [ey9]; rfl) (by decide) rfl (fun ls hl => ?_)
      refine lv_goto (tgt := 45) hx hb dX12_saySet_119 (by decide) ?_
      exact hk45 _ _ _ _ _ h _ _ I ls (lv_sub hl [3, 4, 5, 6, 1, 0] rfl)
    · replace h := if_f h c1
      refine lv_iload hx hb dX12_saySet_107 (lv_at hl 6 rfl) ?_
      refine lv_goto (tgt := 114) hx hb dX12_saySet_109 (by decide) ?_
      refine lv_istore (lv' := [(6, .int v7), (8, .int z0), (0, .ref (ad 0)), (3, .int v3), (4, .int v4), (5, .int v5), (7, .int v7)]) hx hb dX12_saySet_114 hl (by decide) rfl (fun ls hl => ?_)
      obtain ⟨y10, ey10⟩ : ∃ z : Int32, z = v7 + (1 : Int32) := ⟨_, rfl⟩
      replace h := lt_e h ey10
      refine lv_iinc (v := y10) (lv' := [(7, .int y10), (6, .int v7), (8, .int z0), (0, .ref (ad 0)), (3, .int v3), (4, .int v4), (5, .int v5)]) hx hb dX12_saySet_116 hl (k := 6) rfl (by rw [ey10]; rfl) (by decide) rfl (fun ls hl => ?_)
      refine lv_goto (tgt := 45) hx hb dX12_saySet_119 (by decide) ?_
      exact hk45 _ _ _ _ _ h _ _ I ls (lv_sub hl [3, 4, 5, 6, 1, 0] rfl)
  have C45 : ∀ (k24 : g_St → Int32 → Int32 → Int32 → Option (Int32)), (∀ (v3 : Int32) (v4 : Int32) (v5 : Int32), k24 sa v3 v4 v5 = some r → ∀ (H : Heap) (locs : List Loc), Iv G (va_A (wM G ad sa) s0.heap.size) s0 H locs (wM G ad sa) → ∀ ls, lv_has ls 9 [(0, .ref (ad 0)), (3, .int v3), (4, .int v4), (5, .int v5)] → W p l e { frames := 4, cells := 0, slots := 0, locals := 96 } s0 m args below meth c H locs 0 0 (QI G below .int r (wM G ad sa) (wM G ad sa) args s0) (F0 m 24 ls [])) → ∀ n : Nat, ∀ (v3 : Int32) (v4 : Int32) (v5 : Int32) (v6 : Int32) (v7 : Int32), f_M_saySet_L45 fu k24 n sa v3 v4 v5 v6 v7 = some r → ∀ (H : Heap) (locs : List Loc), Iv G (va_A (wM G ad sa) s0.heap.size) s0 H locs (wM G ad sa) → ∀ ls, lv_has ls 9 [(0, .ref (ad 0)), (3, .int v3), (4, .int v4), (5, .int v5), (6, .int v6), (7, .int v7)] → W p l e { frames := 4, cells := 0, slots := 0, locals := 96 } s0 m args below meth c H locs 0 0 (QI G below .int r (wM G ad sa) (wM G ad sa) args s0) (F0 m 45 ls []) := by
    intro k24 hk24 n
    induction n with
    | zero => intro v3 v4 v5 v6 v7 h; exact absurd h (fun q => by cases q)
    | succ n ih =>
      intro v3 v4 v5 v6 v7 h H locs I ls hl
      rw [f_M_saySet_L45] at h
      refine lv_iload hx hb dX12_saySet_45 (lv_at hl 5 rfl) ?_
      refine lv_aload_n hx hb dX12_saySet_47 rfl (lv_at hl 0 rfl) ?_
      refine gM_people XX I dX12_saySet_48 ?_
      refine lv_icmp_ge (tgt := 122) hx hb dX12_saySet_51 (by decide) (fun c1 => ?_) (fun c1 => ?_)
      · replace h := if_t h c1
        refine lv_iload hx hb dX12_saySet_122 (lv_at hl 2 rfl) ?_
        refine lv_iconst (v := 1) hx hb dX12_saySet_124 (by decide) ?_
        refine lv_iload hx hb dX12_saySet_125 (lv_at hl 4 rfl) ?_
        refine lv_ishl hx hb dX12_saySet_127 ?_
        refine lv_ior hx hb dX12_saySet_128 ?_
        refine lv_topi (fun y4 ey4 => ?_)
        replace h := lt_e h ey4
        refine lv_istore (lv' := [(4, .int y4), (0, .ref (ad 0)), (3, .int v3), (5, .int v5), (6, .int v6), (7, .int v7)]) hx hb dX12_saySet_129 hl (by decide) rfl (fun ls hl => ?_)
        refine lv_iload_n hx hb dX12_saySet_131 rfl (lv_at hl 2 rfl) ?_
        refine lv_iconst (v := 1) hx hb dX12_saySet_132 (by decide) ?_
        refine lv_iload hx hb dX12_saySet_133 (lv_at hl 4 rfl) ?_
        refine lv_ishl hx hb dX12_saySet_135 ?_
        refine lv_iconst (v := (-1)) hx hb dX12_saySet_136 (by decide) ?_
        refine lv_ixor hx hb dX12_saySet_137 ?_
        refine lv_iand hx hb dX12_saySet_138 ?_
        refine lv_topi (fun y5 ey5 => ?_)
        replace h := lt_e h ey5
        refine lv_istore_n (lv' := [(3, .int y5), (4, .int y4), (0, .ref (ad 0)), (5, .int v5), (6, .int v6), (7, .int v7)]) hx hb dX12_saySet_139 rfl hl (by decide) rfl (fun ls hl => ?_)
        obtain ⟨y6, ey6⟩ : ∃ z : Int32, z = v5 + (1 : Int32) := ⟨_, rfl⟩
        replace h := lt_e h ey6
        refine lv_iinc (v := y6) (lv' := [(5, .int y6), (3, .int y5), (4, .int y4), (0, .ref (ad 0)), (6, .int v6), (7, .int v7)]) hx hb dX12_saySet_140 hl (k := 3) rfl (by rw [ey6]; rfl) (by decide) rfl (fun ls hl => ?_)
        refine lv_goto (tgt := 24) hx hb dX12_saySet_143 (by decide) ?_
        exact hk24 _ _ _ h _ _ I ls (lv_sub hl [3, 1, 2, 0] rfl)
      · replace h := if_f h c1
        refine lv_iload_n hx hb dX12_saySet_54 rfl (lv_at hl 1 rfl) ?_
        refine lv_iload hx hb dX12_saySet_55 (lv_at hl 5 rfl) ?_
        refine lv_ishr hx hb dX12_saySet_57 ?_
        refine lv_iconst (v := 1) hx hb dX12_saySet_58 (by decide) ?_
        refine lv_iand hx hb dX12_saySet_59 ?_
        refine lv_iconst (v := 1) hx hb dX12_saySet_60 (by decide) ?_
        refine lv_icmp_ne (tgt := 99) hx hb dX12_saySet_61 (by decide) (fun c1 => ?_) (fun c1 => ?_)
        · replace h := if_f h c1
          refine lv_iconst (v := 0) hx hb dX12_saySet_99 (by decide) ?_
          exact C100 k24 hk24 (f_M_saySet_L45 fu k24 n) ih _ _ _ _ _ _ h _ _ I ls (lv_sub hl [0, 1, 2, 3, 4, 5] rfl) (rfl)
        · replace h := if_t h c1
          refine lv_iload hx hb dX12_saySet_64 (lv_at hl 4 rfl) ?_
          refine lv_if_lt (tgt := 95) hx hb dX12_saySet_66 (by decide) (fun c1 => ?_) (fun c1 => ?_)
          · replace h := if_t h c1
            refine lv_iconst (v := 1) hx hb dX12_saySet_95 (by decide) ?_
            refine lv_goto (tgt := 100) hx hb dX12_saySet_96 (by decide) ?_
            exact C100 k24 hk24 (f_M_saySet_L45 fu k24 n) ih _ _ _ _ _ _ h _ _ I ls (lv_sub hl [0, 1, 2, 3, 4, 5] rfl) (rfl)
          · replace h := if_f h c1
            refine lv_aload_n hx hb dX12_saySet_69 rfl (lv_at hl 0 rfl) ?_
            refine gM_age XX I dX12_saySet_70 ?_
            refine lv_iload hx hb dX12_saySet_73 (lv_at hl 5 rfl) ?_
            obtain ⟨g7, h⟩ := gd_some h
            refine r_iald XX I 3 (aM_age) g7 dX12_saySet_75 ?_
            refine lv_aload_n hx hb dX12_saySet_76 rfl (lv_at hl 0 rfl) ?_
            refine gM_age XX I dX12_saySet_77 ?_
            refine lv_iload hx hb dX12_saySet_80 (lv_at hl 4 rfl) ?_
            refine lv_if_ge (tgt := 89) hx hb dX12_saySet_82 (by decide) (fun c1 => ?_) (fun c1 => ?_)
            · replace h := if_t h c1
              refine lv_iload hx hb dX12_saySet_89 (lv_at hl 4 rfl) ?_
              obtain ⟨g8, h⟩ := gd_some h
              refine r_iald XX I 3 (aM_age) g8 dX12_saySet_91 ?_
              refine lv_icmp_le (tgt := 99) hx hb dX12_saySet_92 (by decide) (fun c1 => ?_) (fun c1 => ?_)
              · replace h := if_t h c1
                refine lv_iconst (v := 0) hx hb dX12_saySet_99 (by decide) ?_
                exact C100 k24 hk24 (f_M_saySet_L45 fu k24 n) ih _ _ _ _ _ _ h _ _ I ls (lv_sub hl [0, 1, 2, 3, 4, 5] rfl) (rfl)
              · replace h := if_f h c1
                refine lv_iconst (v := 1) hx hb dX12_saySet_95 (by decide) ?_
                refine lv_goto (tgt := 100) hx hb dX12_saySet_96 (by decide) ?_
                exact C100 k24 hk24 (f_M_saySet_L45 fu k24 n) ih _ _ _ _ _ _ h _ _ I ls (lv_sub hl [0, 1, 2, 3, 4, 5] rfl) (rfl)
            · replace h := if_f h c1
              refine lv_iconst (v := 0) hx hb dX12_saySet_85 (by decide) ?_
              refine lv_goto (tgt := 91) hx hb dX12_saySet_86 (by decide) ?_
              refine r_iald XX I 3 (aM_age) (by unfold vp_in; decide) dX12_saySet_91 ?_
              refine lv_icmp_le (tgt := 99) hx hb dX12_saySet_92 (by decide) (fun c1 => ?_) (fun c1 => ?_)
              · replace h := if_t h c1
                refine lv_iconst (v := 0) hx hb dX12_saySet_99 (by decide) ?_
                exact C100 k24 hk24 (f_M_saySet_L45 fu k24 n) ih _ _ _ _ _ _ h _ _ I ls (lv_sub hl [0, 1, 2, 3, 4, 5] rfl) (rfl)
              · replace h := if_f h c1
                refine lv_iconst (v := 1) hx hb dX12_saySet_95 (by decide) ?_
                refine lv_goto (tgt := 100) hx hb dX12_saySet_96 (by decide) ?_
                exact C100 k24 hk24 (f_M_saySet_L45 fu k24 n) ih _ _ _ _ _ _ h _ _ I ls (lv_sub hl [0, 1, 2, 3, 4, 5] rfl) (rfl)
  have C24 : ∀ n : Nat, ∀ (v3 : Int32) (v4 : Int32) (v5 : Int32), f_M_saySet_L24 fu n sa v3 v4 v5 = some r → ∀ (H : Heap) (locs : List Loc), Iv G (va_A (wM G ad sa) s0.heap.size) s0 H locs (wM G ad sa) → ∀ ls, lv_has ls 9 [(0, .ref (ad 0)), (3, .int v3), (4, .int v4), (5, .int v5)] → W p l e { frames := 4, cells := 0, slots := 0, locals := 96 } s0 m args below meth c H locs 0 0 (QI G below .int r (wM G ad sa) (wM G ad sa) args s0) (F0 m 24 ls []) := by
    intro n
    induction n with
    | zero => intro v3 v4 v5 h; exact absurd h (fun q => by cases q)
    | succ n ih =>
      intro v3 v4 v5 h H locs I ls hl
      rw [f_M_saySet_L24] at h
      refine lv_iload hx hb dX12_saySet_24 (lv_at hl 3 rfl) ?_
      refine lv_aload_n hx hb dX12_saySet_26 rfl (lv_at hl 0 rfl) ?_
      refine gM_laws XX I dX12_saySet_27 ?_
      refine lv_iconst (v := 0) hx hb dX12_saySet_30 (by decide) ?_
      refine r_iald XX I 7 (aM_laws) (by unfold vp_in; decide) dX12_saySet_31 ?_
      refine lv_icmp_ge (tgt := 146) hx hb dX12_saySet_32 (by decide) (fun c1 => ?_) (fun c1 => ?_)
      · replace h := if_t h c1
        refine lv_iload hx hb dX12_saySet_146 (lv_at hl 2 rfl) ?_
        obtain rfl := some1 h
        exact e_i rfl XX hr I rfl dX12_saySet_148
      · replace h := if_f h c1
        refine lv_iload_n hx hb dX12_saySet_35 rfl (lv_at hl 1 rfl) ?_
        refine lv_if_eq (tgt := 146) hx hb dX12_saySet_36 (by decide) (fun c1 => ?_) (fun c1 => ?_)
        · replace h := if_t h c1
          refine lv_iload hx hb dX12_saySet_146 (lv_at hl 2 rfl) ?_
          obtain rfl := some1 h
          exact e_i rfl XX hr I rfl dX12_saySet_148
        · replace h := if_f h c1
          refine lv_iconst (v := (-1)) hx hb dX12_saySet_39 (by decide) ?_
          refine lv_istore (lv' := [(6, .int ((-1) : Int32)), (0, .ref (ad 0)), (3, .int v3), (4, .int v4), (5, .int v5)]) hx hb dX12_saySet_40 hl (by decide) rfl (fun ls hl => ?_)
          refine lv_iconst (v := 0) hx hb dX12_saySet_42 (by decide) ?_
          refine lv_istore (lv' := [(7, .int (0 : Int32)), (6, .int ((-1) : Int32)), (0, .ref (ad 0)), (3, .int v3), (4, .int v4), (5, .int v5)]) hx hb dX12_saySet_43 hl (by decide) rfl (fun ls hl => ?_)
          exact C45 (f_M_saySet_L24 fu n) ih fu _ _ _ _ _ h _ _ I ls (lv_sub hl [2, 3, 4, 5, 1, 0] rfl)
  unfold f_M_saySet at h
  refine lv_aload_n hx hb dX12_saySet_0 rfl (lv_at hl 0 rfl) ?_
  refine lv_iload_n hx hb dX12_saySet_1 rfl (lv_at hl 1 rfl) ?_
  refine lv_iload_n hx hb dX12_saySet_2 rfl (lv_at hl 2 rfl) ?_
  obtain ⟨r1, q2, h⟩ := bd1_some h
  refine wcall_i (rest := []) XX I hl.1 (c_M_wouldSet l G OK ad fu sa x1 x2 r1 q2) kV_X12_262 (Rc.mk XX I (q0 := 0) (ci := 12) wM_o rfl) rfl rfl (Nat.le_of_ble_eq_true rfl) ⟨rfl, rfl, Nat.le_of_ble_eq_true rfl, Nat.le_of_ble_eq_true rfl⟩ ⟨Nat.zero_le _, Nat.zero_le _⟩ dX12_saySet_3 (fun H locs hz3 I => ?_)
  refine lv_istore_n (lv' := [(3, .int r1), (0, .ref (ad 0)), (1, .int x1), (2, .int x2)]) hx hb dX12_saySet_6 rfl hl (by decide) rfl (fun ls hl => ?_)
  refine lv_aload_n hx hb dX12_saySet_7 rfl (lv_at hl 1 rfl) ?_
  refine gM_laws XX I dX12_saySet_8 ?_
  refine lv_iconst (v := 1) hx hb dX12_saySet_11 (by decide) ?_
  refine r_iald XX I 7 (aM_laws) (by unfold vp_in; decide) dX12_saySet_12 ?_
  refine lv_if_ne (tgt := 18) hx hb dX12_saySet_13 (by decide) (fun c1 => ?_) (fun c1 => ?_)
  · replace h := if_f h c1
    refine lv_iconst (v := 0) hx hb dX12_saySet_18 (by decide) ?_
    refine lv_istore (lv' := [(4, .int (0 : Int32)), (3, .int r1), (0, .ref (ad 0)), (1, .int x1), (2, .int x2)]) hx hb dX12_saySet_19 hl (by decide) rfl (fun ls hl => ?_)
    refine lv_iconst (v := 0) hx hb dX12_saySet_21 (by decide) ?_
    refine lv_istore (lv' := [(5, .int (0 : Int32)), (4, .int (0 : Int32)), (3, .int r1), (0, .ref (ad 0)), (1, .int x1), (2, .int x2)]) hx hb dX12_saySet_22 hl (by decide) rfl (fun ls hl => ?_)
    exact C24 fu _ _ _ h _ _ I ls (lv_sub hl [3, 2, 1, 0] rfl)
  · replace h := if_t h c1
    refine lv_iload_n hx hb dX12_saySet_16 rfl (lv_at hl 0 rfl) ?_
    obtain rfl := some1 h
    exact e_i rfl XX hr I rfl dX12_saySet_17
set_option maxHeartbeats 4000000 in
set_option maxRecDepth 100000 in
theorem c_S_ones (l : Launch) (G : g_G) (OK : EOk G.2.2) (fu : Nat) (x0 : Int32) (r : Int32) (h : f_S_ones fu x0 = some r) : HI l G yX12_ones (Cond.code yX12_ones cX12_ones 3 (some .int) :: gT) { frames := 0, cells := 0, slots := 0, locals := 0 } .int [.int x0] [] r [] := by
  refine HI.mk (lv := [(0, .int x0)]) OK (by decide) (Nat.le_of_ble_eq_true rfl) rfl ?_
  intro p e s0 m args below meth c ls XX hr I hl
  have hx := XX.x
  have hb := XX.b
  have C4 : ∀ n : Nat, ∀ (v1 : Int32) (v2 : Int32), f_S_ones_L4 fu n v1 v2 = some r → ∀ (H : Heap) (locs : List Loc), Iv G (va_A [] s0.heap.size) s0 H locs [] → ∀ ls, lv_has ls 3 [(1, .int v1), (2, .int v2)] → W p l e { frames := 0, cells := 0, slots := 0, locals := 0 } s0 m args below meth c H locs 0 0 (QI G below .int r [] [] args s0) (F0 m 4 ls []) := by
    intro n
    induction n with
    | zero => intro v1 v2 h; exact absurd h (fun q => by cases q)
    | succ n ih =>
      intro v1 v2 h H locs I ls hl
      rw [f_S_ones_L4] at h
      refine lv_iload_n hx hb dX12_ones_4 rfl (lv_at hl 1 rfl) ?_
      refine lv_if_eq (tgt := 20) hx hb dX12_ones_5 (by decide) (fun c1 => ?_) (fun c1 => ?_)
      · replace h := if_t h c1
        refine lv_iload_n hx hb dX12_ones_20 rfl (lv_at hl 0 rfl) ?_
        obtain rfl := some1 h
        exact e_i rfl XX hr I rfl dX12_ones_21
      · replace h := if_f h c1
        obtain ⟨y1, ey1⟩ : ∃ z : Int32, z = v1 + (1 : Int32) := ⟨_, rfl⟩
        replace h := lt_e h ey1
        refine lv_iinc (v := y1) (lv' := [(1, .int y1), (2, .int v2)]) hx hb dX12_ones_8 hl (k := 0) rfl (by rw [ey1]; rfl) (by decide) rfl (fun ls hl => ?_)
        refine lv_iload_n hx hb dX12_ones_11 rfl (lv_at hl 1 rfl) ?_
        refine lv_iload_n hx hb dX12_ones_12 rfl (lv_at hl 1 rfl) ?_
        refine lv_iconst (v := 1) hx hb dX12_ones_13 (by decide) ?_
        refine lv_isub hx hb dX12_ones_14 ?_
        refine lv_iand hx hb dX12_ones_15 ?_
        refine lv_topi (fun y2 ey2 => ?_)
        replace h := lt_e h ey2
        refine lv_istore_n (lv' := [(2, .int y2), (1, .int y1)]) hx hb dX12_ones_16 rfl hl (by decide) rfl (fun ls hl => ?_)
        refine lv_goto (tgt := 4) hx hb dX12_ones_17 (by decide) ?_
        exact ih _ _ h _ _ I ls (lv_sub hl [1, 0] rfl)
  unfold f_S_ones at h
  refine lv_iconst (v := 0) hx hb dX12_ones_0 (by decide) ?_
  refine lv_istore_n (lv' := [(1, .int (0 : Int32)), (0, .int x0)]) hx hb dX12_ones_1 rfl hl (by decide) rfl (fun ls hl => ?_)
  refine lv_iload_n hx hb dX12_ones_2 rfl (lv_at hl 1 rfl) ?_
  refine lv_istore_n (lv' := [(2, .int x0), (1, .int (0 : Int32)), (0, .int x0)]) hx hb dX12_ones_3 rfl hl (by decide) rfl (fun ls hl => ?_)
  exact C4 fu _ _ h _ _ I ls (lv_sub hl [1, 0] rfl)
theorem kV_X12_265 : KV RX12 265 RX12 yX12_saySet cX12_saySet 9 (some .int) 2 := KV.mk wd_1303 wd_1305 wd_1631 wd_13 wd_1306 (by decide +kernel)
theorem kS_X12_271 : KS RX12 271 yX12_ones cX12_ones 3 (some .int) 1 := KS.mk wd_1319 wd_1320 wd_13 wd_1321 (by decide +kernel)
set_option maxHeartbeats 4000000 in
set_option maxRecDepth 100000 in
theorem c_M_goes (l : Launch) (G : g_G) (OK : EOk G.2.2) (ad : Nat → Nat) (fu : Nat) (sa : g_St) (x1 : Int32) (x2 : Int32) (x3 : Int32) (r : Int32) (ts : g_St) (h : f_M_goes fu sa x1 x2 x3 = some (r, ts)) : HI l G yX12_goes (Cond.code yX12_goes cX12_goes 8 (some .boolean) :: gT) { frames := 5, cells := 0, slots := 0, locals := 124 } .boolean [.ref (ad 0), .int x1, .int x2, .int x3] (wM G ad sa) r (wM G ad ts) := by
  refine HI.mk (lv := [(0, .ref (ad 0)), (1, .int x1), (2, .int x2), (3, .int x3)]) OK (by decide) (Nat.le_of_ble_eq_true rfl) rfl ?_
  intro p e s0 m args below meth c ls XX hr I hl
  have hx := XX.x
  have hb := XX.b
  have C93 : ∀ (k24 : g_St → Int32 → Int32 → Int32 → Int32 → Option (Int32 × g_St)), (∀ (s : g_St) (v1 : Int32) (v2 : Int32) (v4 : Int32) (v5 : Int32), k24 s v1 v2 v4 v5 = some (r, ts) → ∀ (H : Heap) (locs : List Loc), Iv G (va_A (wM G ad sa) s0.heap.size) s0 H locs (wM G ad s) → ∀ ls, lv_has ls 8 [(0, .ref (ad 0)), (1, .int v1), (2, .int v2), (4, .int v4), (5, .int v5)] → W p l e { frames := 5, cells := 0, slots := 0, locals := 124 } s0 m args below meth c H locs 0 0 (QI G below .boolean r (wM G ad sa) (wM G ad ts) args s0) (F0 m 24 ls [])) → ∀ (s : g_St) (v1 : Int32) (v2 : Int32) (v4 : Int32) (v5 : Int32) (v6 : Int32) (z0 : Int32), f_M_goes_L93 fu k24 s v1 v2 v4 v5 v6 z0 = some (r, ts) → ∀ (H : Heap) (locs : List Loc), Iv G (va_A (wM G ad sa) s0.heap.size) s0 H locs (wM G ad s) → ∀ ls, lv_has ls 8 [(0, .ref (ad 0)), (1, .int v1), (2, .int v2), (4, .int v4), (5, .int v5), (6, .int v6)] → narrow .boolean (.int z0) = .int z0 → W p l e { frames := 5, cells := 0, slots := 0, locals := 124 } s0 m args below meth c H locs 0 0 (QI G below .boolean r (wM G ad sa) (wM G ad ts) args s0) (F0 m 93 ls [.int z0]) := by
    intro k24 hk24
    intro s v1 v2 v4 v5 v6 z0 h H locs I ls hl hz0
    unfold f_M_goes_L93 at h
    refine lv_istore (lv' := [(7, .int z0), (0, .ref (ad 0)), (1, .int v1), (2, .int v2), (4, .int v4), (5, .int v5), (6, .int v6)]) hx hb dX12_goes_93 hl (by decide) rfl (fun ls hl => ?_)
    refine lv_aload_n hx hb dX12_goes_95 rfl (lv_at hl 1 rfl) ?_
    refine gM_row XX I dX12_goes_96 ?_
    refine lv_iload_n hx hb dX12_goes_99 rfl (lv_at hl 3 rfl) ?_
    refine lv_iload hx hb dX12_goes_100 (lv_at hl 5 rfl) ?_
    refine lv_iadd hx hb dX12_goes_102 ?_
    refine lv_iload hx hb dX12_goes_103 (lv_at hl 0 rfl) ?_
    refine lv_if_eq (tgt := 117) hx hb dX12_goes_105 (by decide) (fun c1 => ?_) (fun c1 => ?_)
    · replace h := if_t h c1
      refine lv_iload hx hb dX12_goes_117 (lv_at hl 6 rfl) ?_
      obtain ⟨g16, h⟩ := gd_some h
      refine r_iast XX I 10 (aM_row) (sM_row) g16 dX12_goes_119 (fun H locs I => ?_)
      obtain ⟨s17, es17⟩ : ∃ z, z = sr s 11 (v2 + v5) v6 := ⟨_, rfl⟩
      replace h := lt_e h es17
      replace I : Iv G (va_A (wM G ad sa) s0.heap.size) s0 H locs (wM G ad s17) := by rw [es17]; exact I
      obtain ⟨y18, ey18⟩ : ∃ z : Int32, z = v5 + (1 : Int32) := ⟨_, rfl⟩
      replace h := lt_e h ey18
      refine lv_iinc (v := y18) (lv' := [(5, .int y18), (7, .int z0), (0, .ref (ad 0)), (1, .int v1), (2, .int v2), (4, .int v4), (6, .int v6)]) hx hb dX12_goes_120 hl (k := 5) rfl (by rw [ey18]; rfl) (by decide) rfl (fun ls hl => ?_)
      refine lv_goto (tgt := 24) hx hb dX12_goes_123 (by decide) ?_
      exact hk24 _ _ _ _ _ h _ _ I ls (lv_sub hl [2, 3, 4, 5, 0] rfl)
    · replace h := if_f h c1
      refine lv_iload hx hb dX12_goes_108 (lv_at hl 6 rfl) ?_
      refine lv_if_ne (tgt := 117) hx hb dX12_goes_110 (by decide) (fun c1 => ?_) (fun c1 => ?_)
      · replace h := if_f h c1
        refine lv_iload hx hb dX12_goes_117 (lv_at hl 6 rfl) ?_
        obtain ⟨g19, h⟩ := gd_some h
        refine r_iast XX I 10 (aM_row) (sM_row) g19 dX12_goes_119 (fun H locs I => ?_)
        obtain ⟨s20, es20⟩ : ∃ z, z = sr s 11 (v2 + v5) v6 := ⟨_, rfl⟩
        replace h := lt_e h es20
        replace I : Iv G (va_A (wM G ad sa) s0.heap.size) s0 H locs (wM G ad s20) := by rw [es20]; exact I
        obtain ⟨y21, ey21⟩ : ∃ z : Int32, z = v5 + (1 : Int32) := ⟨_, rfl⟩
        replace h := lt_e h ey21
        refine lv_iinc (v := y21) (lv' := [(5, .int y21), (7, .int z0), (0, .ref (ad 0)), (1, .int v1), (2, .int v2), (4, .int v4), (6, .int v6)]) hx hb dX12_goes_120 hl (k := 5) rfl (by rw [ey21]; rfl) (by decide) rfl (fun ls hl => ?_)
        refine lv_goto (tgt := 24) hx hb dX12_goes_123 (by decide) ?_
        exact hk24 _ _ _ _ _ h _ _ I ls (lv_sub hl [2, 3, 4, 5, 0] rfl)
      · replace h := if_t h c1
        refine lv_iconst (v := 1) hx hb dX12_goes_113 (by decide) ?_
        refine lv_goto (tgt := 119) hx hb dX12_goes_114 (by decide) ?_
        obtain ⟨g22, h⟩ := gd_some h
        refine r_iast XX I 10 (aM_row) (sM_row) g22 dX12_goes_119 (fun H locs I => ?_)
        obtain ⟨s23, es23⟩ : ∃ z, z = sr s 11 (v2 + v5) (1 : Int32) := ⟨_, rfl⟩
        replace h := lt_e h es23
        replace I : Iv G (va_A (wM G ad sa) s0.heap.size) s0 H locs (wM G ad s23) := by rw [es23]; exact I
        obtain ⟨y24, ey24⟩ : ∃ z : Int32, z = v5 + (1 : Int32) := ⟨_, rfl⟩
        replace h := lt_e h ey24
        refine lv_iinc (v := y24) (lv' := [(5, .int y24), (7, .int z0), (0, .ref (ad 0)), (1, .int v1), (2, .int v2), (4, .int v4), (6, .int v6)]) hx hb dX12_goes_120 hl (k := 5) rfl (by rw [ey24]; rfl) (by decide) rfl (fun ls hl => ?_)
        refine lv_goto (tgt := 24) hx hb dX12_goes_123 (by decide) ?_
        exact hk24 _ _ _ _ _ h _ _ I ls (lv_sub hl [2, 3, 4, 5, 0] rfl)
  have C24 : ∀ n : Nat, ∀ (s : g_St) (v1 : Int32) (v2 : Int32) (v4 : Int32) (v5 : Int32), f_M_goes_L24 fu n s v1 v2 v4 v5 = some (r, ts) → ∀ (H : Heap) (locs : List Loc), Iv G (va_A (wM G ad sa) s0.heap.size) s0 H locs (wM G ad s) → ∀ ls, lv_has ls 8 [(0, .ref (ad 0)), (1, .int v1), (2, .int v2), (4, .int v4), (5, .int v5)] → W p l e { frames := 5, cells := 0, slots := 0, locals := 124 } s0 m args below meth c H locs 0 0 (QI G below .boolean r (wM G ad sa) (wM G ad ts) args s0) (F0 m 24 ls []) := by
    intro n
    induction n with
    | zero => intro s v1 v2 v4 v5 h; exact absurd h (fun q => by cases q)
    | succ n ih =>
      intro s v1 v2 v4 v5 h H locs I ls hl
      rw [f_M_goes_L24] at h
      refine lv_iload hx hb dX12_goes_24 (lv_at hl 4 rfl) ?_
      refine lv_aload_n hx hb dX12_goes_26 rfl (lv_at hl 0 rfl) ?_
      refine gM_people XX I dX12_goes_27 ?_
      refine lv_icmp_ge (tgt := 126) hx hb dX12_goes_30 (by decide) (fun c1 => ?_) (fun c1 => ?_)
      · replace h := if_t h c1
        refine lv_aload_n hx hb dX12_goes_126 rfl (lv_at hl 0 rfl) ?_
        refine gM_row XX I dX12_goes_127 ?_
        refine lv_iload_n hx hb dX12_goes_130 rfl (lv_at hl 2 rfl) ?_
        refine lv_bipush (v := 6) hx hb dX12_goes_131 (by decide) ?_
        refine lv_iadd hx hb dX12_goes_133 ?_
        refine lv_iload hx hb dX12_goes_134 (lv_at hl 3 rfl) ?_
        refine lv_iconst (v := 1) hx hb dX12_goes_136 (by decide) ?_
        refine lv_iadd hx hb dX12_goes_137 ?_
        refine lv_topi (fun y7 ey7 => ?_)
        replace h := lt_e h ey7
        obtain ⟨g8, h⟩ := gd_some h
        refine r_iast XX I 10 (aM_row) (sM_row) g8 dX12_goes_138 (fun H locs I => ?_)
        obtain ⟨s9, es9⟩ : ∃ z, z = sr s 11 (v2 + (6 : Int32)) y7 := ⟨_, rfl⟩
        replace h := lt_e h es9
        replace I : Iv G (va_A (wM G ad sa) s0.heap.size) s0 H locs (wM G ad s9) := by rw [es9]; exact I
        refine lv_aload_n hx hb dX12_goes_139 rfl (lv_at hl 0 rfl) ?_
        refine gM_said XX I dX12_goes_140 ?_
        obtain ⟨r10, q11, h⟩ := bd1_some h
        refine scall_i (rest := []) XX I hl.1 (c_S_ones l G OK fu (gi s9 31) r10 q11) kS_X12_271 rfl rfl (Nat.le_of_ble_eq_true rfl) ⟨rfl, rfl, Nat.le_of_ble_eq_true rfl, Nat.le_of_ble_eq_true rfl⟩ ⟨Nat.zero_le _, Nat.zero_le _⟩ dX12_goes_143 (fun H locs hz12 I => ?_)
        refine lv_aload_n hx hb dX12_goes_146 rfl (lv_at hl 0 rfl) ?_
        refine gM_laws XX I dX12_goes_147 ?_
        refine lv_iconst (v := 0) hx hb dX12_goes_150 (by decide) ?_
        refine r_iald XX I 7 (aM_laws) (by unfold vp_in; decide) dX12_goes_151 ?_
        refine lv_icmp_lt (tgt := 159) hx hb dX12_goes_152 (by decide) (fun c1 => ?_) (fun c1 => ?_)
        · replace h := if_t h c1
          refine lv_iconst (v := 0) hx hb dX12_goes_159 (by decide) ?_
          obtain ⟨rfl, rfl⟩ := some2 h
          exact e_z XX hr I rfl rfl dX12_goes_160
        · replace h := if_f h c1
          refine lv_iconst (v := 1) hx hb dX12_goes_155 (by decide) ?_
          refine lv_goto (tgt := 160) hx hb dX12_goes_156 (by decide) ?_
          obtain ⟨rfl, rfl⟩ := some2 h
          exact e_z XX hr I rfl rfl dX12_goes_160
      · replace h := if_f h c1
        refine lv_aload_n hx hb dX12_goes_33 rfl (lv_at hl 0 rfl) ?_
        refine gM_row XX I dX12_goes_34 ?_
        refine lv_iload_n hx hb dX12_goes_37 rfl (lv_at hl 1 rfl) ?_
        refine lv_iload hx hb dX12_goes_38 (lv_at hl 4 rfl) ?_
        refine lv_iadd hx hb dX12_goes_40 ?_
        obtain ⟨g13, h⟩ := gd_some h
        refine r_iald XX I 10 (aM_row) g13 dX12_goes_41 ?_
        refine lv_aload_n hx hb dX12_goes_42 rfl (lv_at hl 0 rfl) ?_
        refine gM_said XX I dX12_goes_43 ?_
        refine lv_iload hx hb dX12_goes_46 (lv_at hl 4 rfl) ?_
        refine lv_ishr hx hb dX12_goes_48 ?_
        refine lv_iconst (v := 1) hx hb dX12_goes_49 (by decide) ?_
        refine lv_iand hx hb dX12_goes_50 ?_
        refine lv_isub hx hb dX12_goes_51 ?_
        refine lv_topi (fun y14 ey14 => ?_)
        replace h := lt_e h ey14
        refine lv_istore (lv' := [(6, .int y14), (0, .ref (ad 0)), (1, .int v1), (2, .int v2), (4, .int v4), (5, .int v5)]) hx hb dX12_goes_52 hl (by decide) rfl (fun ls hl => ?_)
        refine lv_aload_n hx hb dX12_goes_54 rfl (lv_at hl 1 rfl) ?_
        refine gM_laws XX I dX12_goes_55 ?_
        refine lv_iconst (v := 2) hx hb dX12_goes_58 (by decide) ?_
        refine r_iald XX I 7 (aM_laws) (by unfold vp_in; decide) dX12_goes_59 ?_
        refine lv_if_le (tgt := 92) hx hb dX12_goes_60 (by decide) (fun c1 => ?_) (fun c1 => ?_)
        · replace h := if_t h c1
          refine lv_iconst (v := 0) hx hb dX12_goes_92 (by decide) ?_
          exact C93 (f_M_goes_L24 fu n) ih _ _ _ _ _ _ _ h _ _ I ls (lv_sub hl [1, 2, 3, 4, 5, 0] rfl) (rfl)
        · replace h := if_f h c1
          refine lv_iload hx hb dX12_goes_63 (lv_at hl 4 rfl) ?_
          refine lv_aload_n hx hb dX12_goes_65 rfl (lv_at hl 1 rfl) ?_
          refine gM_laws XX I dX12_goes_66 ?_
          refine lv_iconst (v := 2) hx hb dX12_goes_69 (by decide) ?_
          refine r_iald XX I 7 (aM_laws) (by unfold vp_in; decide) dX12_goes_70 ?_
          refine lv_if_le (tgt := 83) hx hb dX12_goes_71 (by decide) (fun c1 => ?_) (fun c1 => ?_)
          · replace h := if_t h c1
            refine lv_iconst (v := 1) hx hb dX12_goes_83 (by decide) ?_
            refine lv_irem hx hb dX12_goes_84 (by decide) ?_
            refine lv_if_ne (tgt := 92) hx hb dX12_goes_85 (by decide) (fun c1 => ?_) (fun c1 => ?_)
            · replace h := if_f h c1
              refine lv_iconst (v := 0) hx hb dX12_goes_92 (by decide) ?_
              exact C93 (f_M_goes_L24 fu n) ih _ _ _ _ _ _ _ h _ _ I ls (lv_sub hl [1, 2, 3, 4, 5, 0] rfl) (rfl)
            · replace h := if_t h c1
              refine lv_iconst (v := 1) hx hb dX12_goes_88 (by decide) ?_
              refine lv_goto (tgt := 93) hx hb dX12_goes_89 (by decide) ?_
              exact C93 (f_M_goes_L24 fu n) ih _ _ _ _ _ _ _ h _ _ I ls (lv_sub hl [1, 2, 3, 4, 5, 0] rfl) (rfl)
          · replace h := if_f h c1
            refine lv_aload_n hx hb dX12_goes_74 rfl (lv_at hl 1 rfl) ?_
            refine gM_laws XX I dX12_goes_75 ?_
            refine lv_iconst (v := 2) hx hb dX12_goes_78 (by decide) ?_
            refine r_iald XX I 7 (aM_laws) (by unfold vp_in; decide) dX12_goes_79 ?_
            refine lv_goto (tgt := 84) hx hb dX12_goes_80 (by decide) ?_
            obtain ⟨g15, h⟩ := gd_some h
            refine lv_irem hx hb dX12_goes_84 g15 ?_
            refine lv_if_ne (tgt := 92) hx hb dX12_goes_85 (by decide) (fun c1 => ?_) (fun c1 => ?_)
            · replace h := if_f h c1
              refine lv_iconst (v := 0) hx hb dX12_goes_92 (by decide) ?_
              exact C93 (f_M_goes_L24 fu n) ih _ _ _ _ _ _ _ h _ _ I ls (lv_sub hl [1, 2, 3, 4, 5, 0] rfl) (rfl)
            · replace h := if_t h c1
              refine lv_iconst (v := 1) hx hb dX12_goes_88 (by decide) ?_
              refine lv_goto (tgt := 93) hx hb dX12_goes_89 (by decide) ?_
              exact C93 (f_M_goes_L24 fu n) ih _ _ _ _ _ _ _ h _ _ I ls (lv_sub hl [1, 2, 3, 4, 5, 0] rfl) (rfl)
  unfold f_M_goes at h
  refine lv_aload_n hx hb dX12_goes_0 rfl (lv_at hl 0 rfl) ?_
  refine lv_aload_n hx hb dX12_goes_1 rfl (lv_at hl 0 rfl) ?_
  refine lv_iload_n hx hb dX12_goes_2 rfl (lv_at hl 1 rfl) ?_
  refine lv_iload_n hx hb dX12_goes_3 rfl (lv_at hl 3 rfl) ?_
  obtain ⟨r1, q2, h⟩ := bd1_some h
  refine wcall_i (rest := [.ref (ad 0)]) XX I hl.1 (c_M_saySet l G OK ad fu sa x1 x3 r1 q2) kV_X12_265 (Rc.mk XX I (q0 := 0) (ci := 12) wM_o rfl) rfl rfl (Nat.le_of_ble_eq_true rfl) ⟨rfl, rfl, Nat.le_of_ble_eq_true rfl, Nat.le_of_ble_eq_true rfl⟩ ⟨Nat.zero_le _, Nat.zero_le _⟩ dX12_goes_4 (fun H locs hz3 I => ?_)
  refine pM_said XX I dX12_goes_7 (fun H locs I => ?_)
  obtain ⟨s4, es4⟩ : ∃ z, z = si sa 31 r1 := ⟨_, rfl⟩
  replace h := lt_e h es4
  replace I : Iv G (va_A (wM G ad sa) s0.heap.size) s0 H locs (wM G ad s4) := by rw [es4]; exact I
  refine lv_aload_n hx hb dX12_goes_10 rfl (lv_at hl 0 rfl) ?_
  refine gM_row XX I dX12_goes_11 ?_
  refine lv_iload_n hx hb dX12_goes_14 rfl (lv_at hl 1 rfl) ?_
  refine lv_bipush (v := 6) hx hb dX12_goes_15 (by decide) ?_
  refine lv_iadd hx hb dX12_goes_17 ?_
  obtain ⟨g5, h⟩ := gd_some h
  refine r_iald XX I 10 (aM_row) g5 dX12_goes_18 ?_
  refine lv_topi (fun y6 ey6 => ?_)
  replace h := lt_e h ey6
  refine lv_istore (lv' := [(4, .int y6), (0, .ref (ad 0)), (1, .int x1), (2, .int x2), (3, .int x3)]) hx hb dX12_goes_19 hl (by decide) rfl (fun ls hl => ?_)
  refine lv_iconst (v := 0) hx hb dX12_goes_21 (by decide) ?_
  refine lv_istore (lv' := [(5, .int (0 : Int32)), (4, .int y6), (0, .ref (ad 0)), (1, .int x1), (2, .int x2), (3, .int x3)]) hx hb dX12_goes_22 hl (by decide) rfl (fun ls hl => ?_)
  exact C24 fu _ _ _ _ _ h _ _ I ls (lv_sub hl [2, 3, 4, 1, 0] rfl)
set_option maxHeartbeats 4000000 in
set_option maxRecDepth 100000 in
theorem c_M_would (l : Launch) (G : g_G) (OK : EOk G.2.2) (ad : Nat → Nat) (fu : Nat) (sa : g_St) (x1 : Int32) (r : Int32) (h : f_M_would fu sa x1 = some r) : HI l G yX12_would (Cond.code yX12_would cX12_would 2 (some .int) :: gT) { frames := 4, cells := 0, slots := 0, locals := 96 } .int [.ref (ad 0), .int x1] (wM G ad sa) r (wM G ad sa) := by
  refine HI.mk (lv := [(0, .ref (ad 0)), (1, .int x1)]) OK (by decide) (Nat.le_of_ble_eq_true rfl) rfl ?_
  intro p e s0 m args below meth c ls XX hr I hl
  have hx := XX.x
  have hb := XX.b
  unfold f_M_would at h
  refine lv_aload_n hx hb dX12_would_0 rfl (lv_at hl 0 rfl) ?_
  refine lv_iload_n hx hb dX12_would_1 rfl (lv_at hl 1 rfl) ?_
  refine wcall_i (rest := []) XX I hl.1 (c_M_isProposal l G OK ad sa x1 _ rfl) kV_X12_241 (Rc.mk XX I (q0 := 0) (ci := 12) wM_o rfl) rfl rfl (Nat.le_of_ble_eq_true rfl) ⟨rfl, rfl, Nat.le_of_ble_eq_true rfl, Nat.le_of_ble_eq_true rfl⟩ ⟨Nat.zero_le _, Nat.zero_le _⟩ dX12_would_2 (fun H locs hz1 I => ?_)
  refine lv_if_eq (tgt := 17) hx hb dX12_would_5 (by decide) (fun c1 => ?_) (fun c1 => ?_)
  · replace h := if_t h c1
    refine lv_iconst (v := (-1)) hx hb dX12_would_17 (by decide) ?_
    obtain rfl := some1 h
    exact e_i rfl XX hr I rfl dX12_would_18
  · replace h := if_f h c1
    refine lv_aload_n hx hb dX12_would_8 rfl (lv_at hl 0 rfl) ?_
    refine lv_iconst (v := 0) hx hb dX12_would_9 (by decide) ?_
    refine lv_iload_n hx hb dX12_would_10 rfl (lv_at hl 1 rfl) ?_
    obtain ⟨r2, q3, h⟩ := bd1_some h
    refine wcall_i (rest := []) XX I hl.1 (c_M_wouldSet l G OK ad fu sa (0 : Int32) x1 r2 q3) kV_X12_262 (Rc.mk XX I (q0 := 0) (ci := 12) wM_o rfl) rfl rfl (Nat.le_of_ble_eq_true rfl) ⟨rfl, rfl, Nat.le_of_ble_eq_true rfl, Nat.le_of_ble_eq_true rfl⟩ ⟨Nat.zero_le _, Nat.zero_le _⟩ dX12_would_11 (fun H locs hz4 I => ?_)
    refine lv_goto (tgt := 18) hx hb dX12_would_14 (by decide) ?_
    obtain rfl := some1 h
    exact e_i rfl XX hr I rfl dX12_would_18
set_option maxHeartbeats 4000000 in
set_option maxRecDepth 100000 in
theorem c_M_says (l : Launch) (G : g_G) (OK : EOk G.2.2) (ad : Nat → Nat) (fu : Nat) (sa : g_St) (x1 : Int32) (r : Int32) (h : f_M_says fu sa x1 = some r) : HI l G yX12_says (Cond.code yX12_says cX12_says 2 (some .int) :: gT) { frames := 5, cells := 0, slots := 0, locals := 124 } .int [.ref (ad 0), .int x1] (wM G ad sa) r (wM G ad sa) := by
  refine HI.mk (lv := [(0, .ref (ad 0)), (1, .int x1)]) OK (by decide) (Nat.le_of_ble_eq_true rfl) rfl ?_
  intro p e s0 m args below meth c ls XX hr I hl
  have hx := XX.x
  have hb := XX.b
  unfold f_M_says at h
  refine lv_aload_n hx hb dX12_says_0 rfl (lv_at hl 0 rfl) ?_
  refine lv_iload_n hx hb dX12_says_1 rfl (lv_at hl 1 rfl) ?_
  refine wcall_i (rest := []) XX I hl.1 (c_M_isProposal l G OK ad sa x1 _ rfl) kV_X12_241 (Rc.mk XX I (q0 := 0) (ci := 12) wM_o rfl) rfl rfl (Nat.le_of_ble_eq_true rfl) ⟨rfl, rfl, Nat.le_of_ble_eq_true rfl, Nat.le_of_ble_eq_true rfl⟩ ⟨Nat.zero_le _, Nat.zero_le _⟩ dX12_says_2 (fun H locs hz1 I => ?_)
  refine lv_if_eq (tgt := 17) hx hb dX12_says_5 (by decide) (fun c1 => ?_) (fun c1 => ?_)
  · replace h := if_t h c1
    refine lv_iconst (v := (-1)) hx hb dX12_says_17 (by decide) ?_
    obtain rfl := some1 h
    exact e_i rfl XX hr I rfl dX12_says_18
  · replace h := if_f h c1
    refine lv_aload_n hx hb dX12_says_8 rfl (lv_at hl 0 rfl) ?_
    refine lv_iconst (v := 0) hx hb dX12_says_9 (by decide) ?_
    refine lv_iload_n hx hb dX12_says_10 rfl (lv_at hl 1 rfl) ?_
    obtain ⟨r2, q3, h⟩ := bd1_some h
    refine wcall_i (rest := []) XX I hl.1 (c_M_saySet l G OK ad fu sa (0 : Int32) x1 r2 q3) kV_X12_265 (Rc.mk XX I (q0 := 0) (ci := 12) wM_o rfl) rfl rfl (Nat.le_of_ble_eq_true rfl) ⟨rfl, rfl, Nat.le_of_ble_eq_true rfl, Nat.le_of_ble_eq_true rfl⟩ ⟨Nat.zero_le _, Nat.zero_le _⟩ dX12_says_11 (fun H locs hz4 I => ?_)
    refine lv_goto (tgt := 18) hx hb dX12_says_14 (by decide) ?_
    obtain rfl := some1 h
    exact e_i rfl XX hr I rfl dX12_says_18
theorem kV_X12_274 : KV RX12 274 RX12 yX12_goes cX12_goes 8 (some .boolean) 3 := KV.mk wd_1315 wd_1317 wd_1633 wd_13 wd_1318 (by decide +kernel)
set_option maxHeartbeats 4000000 in
set_option maxRecDepth 100000 in
theorem c_M_comesNow (l : Launch) (G : g_G) (OK : EOk G.2.2) (ad : Nat → Nat) (fu : Nat) (sa : g_St) (x1 : Int32) (r : Int32) (ts : g_St) (h : f_M_comesNow fu sa x1 = some (r, ts)) : HI l G yX12_comesNow (Cond.code yX12_comesNow cX12_comesNow 4 (some .int) :: gT) { frames := 6, cells := 0, slots := 0, locals := 151 } .int [.ref (ad 0), .int x1] (wM G ad sa) r (wM G ad ts) := by
  refine HI.mk (lv := [(0, .ref (ad 0)), (1, .int x1)]) OK (by decide) (Nat.le_of_ble_eq_true rfl) rfl ?_
  intro p e s0 m args below meth c ls XX hr I hl
  have hx := XX.x
  have hb := XX.b
  have C46 : ∀ n : Nat, ∀ (s : g_St) (v1 : Int32) (v2 : Int32) (v3 : Int32), f_M_comesNow_L46 fu n s v1 v2 v3 = some (r, ts) → ∀ (H : Heap) (locs : List Loc), Iv G (va_A (wM G ad sa) s0.heap.size) s0 H locs (wM G ad s) → ∀ ls, lv_has ls 4 [(0, .ref (ad 0)), (1, .int v1), (2, .int v2), (3, .int v3)] → W p l e { frames := 6, cells := 0, slots := 0, locals := 151 } s0 m args below meth c H locs 0 0 (QI G below .int r (wM G ad sa) (wM G ad ts) args s0) (F0 m 46 ls []) := by
    intro n
    induction n with
    | zero => intro s v1 v2 v3 h; exact absurd h (fun q => by cases q)
    | succ n ih =>
      intro s v1 v2 v3 h H locs I ls hl
      rw [f_M_comesNow_L46] at h
      refine lv_iload_n hx hb dX12_comesNow_46 rfl (lv_at hl 3 rfl) ?_
      refine lv_aload_n hx hb dX12_comesNow_47 rfl (lv_at hl 0 rfl) ?_
      refine gM_people XX I dX12_comesNow_48 ?_
      refine lv_icmp_ge (tgt := 83) hx hb dX12_comesNow_51 (by decide) (fun c1 => ?_) (fun c1 => ?_)
      · replace h := if_t h c1
        refine lv_iload_n hx hb dX12_comesNow_83 rfl (lv_at hl 2 rfl) ?_
        refine lv_if_eq (tgt := 91) hx hb dX12_comesNow_84 (by decide) (fun c1 => ?_) (fun c1 => ?_)
        · replace h := if_t h c1
          refine lv_iconst (v := 0) hx hb dX12_comesNow_91 (by decide) ?_
          obtain ⟨rfl, rfl⟩ := some2 h
          exact e_i rfl XX hr I rfl dX12_comesNow_92
        · replace h := if_f h c1
          refine lv_iconst (v := 1) hx hb dX12_comesNow_87 (by decide) ?_
          refine lv_goto (tgt := 92) hx hb dX12_comesNow_88 (by decide) ?_
          obtain ⟨rfl, rfl⟩ := some2 h
          exact e_i rfl XX hr I rfl dX12_comesNow_92
      · replace h := if_f h c1
        refine lv_aload_n hx hb dX12_comesNow_54 rfl (lv_at hl 0 rfl) ?_
        refine gM_had XX I dX12_comesNow_55 ?_
        refine lv_iload_n hx hb dX12_comesNow_58 rfl (lv_at hl 3 rfl) ?_
        refine lv_dup2_11 hx hb dX12_comesNow_59 rfl rfl ?_
        obtain ⟨g11, h⟩ := gd_some h
        refine r_iald XX I 4 (aM_had) g11 dX12_comesNow_60 ?_
        refine lv_iload_n hx hb dX12_comesNow_61 rfl (lv_at hl 2 rfl) ?_
        refine lv_if_eq (tgt := 69) hx hb dX12_comesNow_62 (by decide) (fun c1 => ?_) (fun c1 => ?_)
        · replace h := if_t h c1
          refine lv_aload_n hx hb dX12_comesNow_69 rfl (lv_at hl 0 rfl) ?_
          refine lv_iload_n hx hb dX12_comesNow_70 rfl (lv_at hl 1 rfl) ?_
          refine lv_iload_n hx hb dX12_comesNow_71 rfl (lv_at hl 3 rfl) ?_
          obtain ⟨r12, q13, h⟩ := bd1_some h
          refine wcall_i (rest := [.int (gr s 4 v3.toNatClampNeg), .int v3, .ref (ad 5)]) XX I hl.1 (c_M_worthTo l G OK ad s v1 v3 r12 q13) kV_X12_244 (Rc.mk XX I (q0 := 0) (ci := 12) wM_o rfl) rfl rfl (Nat.le_of_ble_eq_true rfl) ⟨rfl, rfl, Nat.le_of_ble_eq_true rfl, Nat.le_of_ble_eq_true rfl⟩ ⟨Nat.zero_le _, Nat.zero_le _⟩ dX12_comesNow_72 (fun H locs hz14 I => ?_)
          refine lv_iadd hx hb dX12_comesNow_75 ?_
          refine lv_topi (fun y15 ey15 => ?_)
          replace h := lt_e h ey15
          obtain ⟨g16, h⟩ := gd_some h
          refine r_iast XX I 4 (aM_had) (sM_had) g16 dX12_comesNow_76 (fun H locs I => ?_)
          obtain ⟨s17, es17⟩ : ∃ z, z = sr s 4 v3 y15 := ⟨_, rfl⟩
          replace h := lt_e h es17
          replace I : Iv G (va_A (wM G ad sa) s0.heap.size) s0 H locs (wM G ad s17) := by rw [es17]; exact I
          obtain ⟨y18, ey18⟩ : ∃ z : Int32, z = v3 + (1 : Int32) := ⟨_, rfl⟩
          replace h := lt_e h ey18
          refine lv_iinc (v := y18) (lv' := [(3, .int y18), (0, .ref (ad 0)), (1, .int v1), (2, .int v2)]) hx hb dX12_comesNow_77 hl (k := 3) rfl (by rw [ey18]; rfl) (by decide) rfl (fun ls hl => ?_)
          refine lv_goto (tgt := 46) hx hb dX12_comesNow_80 (by decide) ?_
          exact ih _ _ _ _ h _ _ I ls (lv_sub hl [1, 2, 3, 0] rfl)
        · replace h := if_f h c1
          refine lv_iconst (v := 0) hx hb dX12_comesNow_65 (by decide) ?_
          refine lv_goto (tgt := 75) hx hb dX12_comesNow_66 (by decide) ?_
          refine lv_iadd hx hb dX12_comesNow_75 ?_
          refine lv_topi (fun y19 ey19 => ?_)
          replace h := lt_e h ey19
          obtain ⟨g20, h⟩ := gd_some h
          refine r_iast XX I 4 (aM_had) (sM_had) g20 dX12_comesNow_76 (fun H locs I => ?_)
          obtain ⟨s21, es21⟩ : ∃ z, z = sr s 4 v3 y19 := ⟨_, rfl⟩
          replace h := lt_e h es21
          replace I : Iv G (va_A (wM G ad sa) s0.heap.size) s0 H locs (wM G ad s21) := by rw [es21]; exact I
          obtain ⟨y22, ey22⟩ : ∃ z : Int32, z = v3 + (1 : Int32) := ⟨_, rfl⟩
          replace h := lt_e h ey22
          refine lv_iinc (v := y22) (lv' := [(3, .int y22), (0, .ref (ad 0)), (1, .int v1), (2, .int v2)]) hx hb dX12_comesNow_77 hl (k := 3) rfl (by rw [ey22]; rfl) (by decide) rfl (fun ls hl => ?_)
          refine lv_goto (tgt := 46) hx hb dX12_comesNow_80 (by decide) ?_
          exact ih _ _ _ _ h _ _ I ls (lv_sub hl [1, 2, 3, 0] rfl)
  have C22 : ∀ (s : g_St) (v1 : Int32) (v2 : Int32) (z0 : Int32) (z1 : Int32), f_M_comesNow_L22 fu s v1 v2 z0 z1 = some (r, ts) → ∀ (H : Heap) (locs : List Loc), Iv G (va_A (wM G ad sa) s0.heap.size) s0 H locs (wM G ad s) → ∀ ls, lv_has ls 4 [(0, .ref (ad 0)), (1, .int v1), (2, .int v2)] → narrow .boolean (.int z0) = .int z0 → W p l e { frames := 6, cells := 0, slots := 0, locals := 151 } s0 m args below meth c H locs 0 0 (QI G below .int r (wM G ad sa) (wM G ad ts) args s0) (F0 m 22 ls [.int z0, .int z1, .ref (ad 0)]) := by
    skip
    intro s v1 v2 z0 z1 h H locs I ls hl hz0
    unfold f_M_comesNow_L22 at h
    refine lv_iadd hx hb dX12_comesNow_22 ?_
    refine lv_topi (fun y5 ey5 => ?_)
    replace h := lt_e h ey5
    refine pM_fell XX I dX12_comesNow_23 (fun H locs I => ?_)
    obtain ⟨s6, es6⟩ : ∃ z, z = si s 12 y5 := ⟨_, rfl⟩
    replace h := lt_e h es6
    replace I : Iv G (va_A (wM G ad sa) s0.heap.size) s0 H locs (wM G ad s6) := by rw [es6]; exact I
    refine lv_aload_n hx hb dX12_comesNow_26 rfl (lv_at hl 0 rfl) ?_
    refine lv_dup hx hb dX12_comesNow_27 rfl ?_
    refine gM_passed XX I dX12_comesNow_28 ?_
    refine lv_iload_n hx hb dX12_comesNow_31 rfl (lv_at hl 2 rfl) ?_
    refine lv_if_eq (tgt := 39) hx hb dX12_comesNow_32 (by decide) (fun c1 => ?_) (fun c1 => ?_)
    · replace h := if_t h c1
      refine lv_iconst (v := 1) hx hb dX12_comesNow_39 (by decide) ?_
      refine lv_iadd hx hb dX12_comesNow_40 ?_
      refine lv_topi (fun y7 ey7 => ?_)
      replace h := lt_e h ey7
      refine pM_passed XX I dX12_comesNow_41 (fun H locs I => ?_)
      obtain ⟨s8, es8⟩ : ∃ z, z = si s6 13 y7 := ⟨_, rfl⟩
      replace h := lt_e h es8
      replace I : Iv G (va_A (wM G ad sa) s0.heap.size) s0 H locs (wM G ad s8) := by rw [es8]; exact I
      refine lv_iconst (v := 0) hx hb dX12_comesNow_44 (by decide) ?_
      refine lv_istore_n (lv' := [(3, .int (0 : Int32)), (0, .ref (ad 0)), (1, .int v1), (2, .int v2)]) hx hb dX12_comesNow_45 rfl hl (by decide) rfl (fun ls hl => ?_)
      exact C46 fu _ _ _ _ h _ _ I ls (lv_sub hl [1, 2, 3, 0] rfl)
    · replace h := if_f h c1
      refine lv_iconst (v := 0) hx hb dX12_comesNow_35 (by decide) ?_
      refine lv_goto (tgt := 40) hx hb dX12_comesNow_36 (by decide) ?_
      refine lv_iadd hx hb dX12_comesNow_40 ?_
      refine lv_topi (fun y9 ey9 => ?_)
      replace h := lt_e h ey9
      refine pM_passed XX I dX12_comesNow_41 (fun H locs I => ?_)
      obtain ⟨s10, es10⟩ : ∃ z, z = si s6 13 y9 := ⟨_, rfl⟩
      replace h := lt_e h es10
      replace I : Iv G (va_A (wM G ad sa) s0.heap.size) s0 H locs (wM G ad s10) := by rw [es10]; exact I
      refine lv_iconst (v := 0) hx hb dX12_comesNow_44 (by decide) ?_
      refine lv_istore_n (lv' := [(3, .int (0 : Int32)), (0, .ref (ad 0)), (1, .int v1), (2, .int v2)]) hx hb dX12_comesNow_45 rfl hl (by decide) rfl (fun ls hl => ?_)
      exact C46 fu _ _ _ _ h _ _ I ls (lv_sub hl [1, 2, 3, 0] rfl)
  unfold f_M_comesNow at h
  refine lv_aload_n hx hb dX12_comesNow_0 rfl (lv_at hl 0 rfl) ?_
  refine lv_iconst (v := 0) hx hb dX12_comesNow_1 (by decide) ?_
  refine lv_iconst (v := 0) hx hb dX12_comesNow_2 (by decide) ?_
  refine lv_iload_n hx hb dX12_comesNow_3 rfl (lv_at hl 1 rfl) ?_
  obtain ⟨r1, s2, q3, h⟩ := bd2_some h
  refine wcall_i (rest := []) XX I hl.1 (c_M_goes l G OK ad fu sa (0 : Int32) (0 : Int32) x1 r1 s2 q3) kV_X12_274 (Rc.mk XX I (q0 := 0) (ci := 12) wM_o rfl) rfl rfl (Nat.le_of_ble_eq_true rfl) ⟨rfl, rfl, Nat.le_of_ble_eq_true rfl, Nat.le_of_ble_eq_true rfl⟩ ⟨Nat.zero_le _, Nat.zero_le _⟩ dX12_comesNow_4 (fun H locs hz4 I => ?_)
  refine lv_istore_n (lv' := [(2, .int r1), (0, .ref (ad 0)), (1, .int x1)]) hx hb dX12_comesNow_7 rfl hl (by decide) rfl (fun ls hl => ?_)
  refine lv_aload_n hx hb dX12_comesNow_8 rfl (lv_at hl 1 rfl) ?_
  refine lv_dup hx hb dX12_comesNow_9 rfl ?_
  refine gM_fell XX I dX12_comesNow_10 ?_
  refine lv_iload_n hx hb dX12_comesNow_13 rfl (lv_at hl 0 rfl) ?_
  refine lv_if_eq (tgt := 21) hx hb dX12_comesNow_14 (by decide) (fun c1 => ?_) (fun c1 => ?_)
  · replace h := if_t h c1
    refine lv_iconst (v := 0) hx hb dX12_comesNow_21 (by decide) ?_
    exact C22 _ _ _ _ _ h _ _ I ls (lv_sub hl [1, 2, 0] rfl) (rfl)
  · replace h := if_f h c1
    refine lv_iconst (v := 1) hx hb dX12_comesNow_17 (by decide) ?_
    refine lv_goto (tgt := 22) hx hb dX12_comesNow_18 (by decide) ?_
    exact C22 _ _ _ _ _ h _ _ I ls (lv_sub hl [1, 2, 0] rfl) (rfl)
theorem kV_X12_277 : KV RX12 277 RX12 yX12_comesNow cX12_comesNow 4 (some .int) 1 := KV.mk wd_1311 wd_1313 wd_1632 wd_13 wd_1314 (by decide +kernel)
set_option maxHeartbeats 4000000 in
set_option maxRecDepth 100000 in
theorem c_M_comes (l : Launch) (G : g_G) (OK : EOk G.2.2) (ad : Nat → Nat) (fu : Nat) (sa : g_St) (x1 : Int32) (r : Int32) (ts : g_St) (h : f_M_comes fu sa x1 = some (r, ts)) : HI l G yX12_comes (Cond.code yX12_comes cX12_comes 2 (some .int) :: gT) { frames := 7, cells := 0, slots := 0, locals := 174 } .int [.ref (ad 0), .int x1] (wM G ad sa) r (wM G ad ts) := by
  refine HI.mk (lv := [(0, .ref (ad 0)), (1, .int x1)]) OK (by decide) (Nat.le_of_ble_eq_true rfl) rfl ?_
  intro p e s0 m args below meth c ls XX hr I hl
  have hx := XX.x
  have hb := XX.b
  unfold f_M_comes at h
  refine lv_aload_n hx hb dX12_comes_0 rfl (lv_at hl 0 rfl) ?_
  refine lv_iload_n hx hb dX12_comes_1 rfl (lv_at hl 1 rfl) ?_
  refine wcall_i (rest := []) XX I hl.1 (c_M_isProposal l G OK ad sa x1 _ rfl) kV_X12_241 (Rc.mk XX I (q0 := 0) (ci := 12) wM_o rfl) rfl rfl (Nat.le_of_ble_eq_true rfl) ⟨rfl, rfl, Nat.le_of_ble_eq_true rfl, Nat.le_of_ble_eq_true rfl⟩ ⟨Nat.zero_le _, Nat.zero_le _⟩ dX12_comes_2 (fun H locs hz1 I => ?_)
  refine lv_if_ne (tgt := 10) hx hb dX12_comes_5 (by decide) (fun c1 => ?_) (fun c1 => ?_)
  · replace h := if_f h c1
    refine lv_aload_n hx hb dX12_comes_10 rfl (lv_at hl 0 rfl) ?_
    refine gM_row XX I dX12_comes_11 ?_
    refine lv_bipush (v := 6) hx hb dX12_comes_14 (by decide) ?_
    refine r_iald XX I 10 (aM_row) (by unfold vp_in; decide) dX12_comes_16 ?_
    refine lv_sipush (v := 999) hx hb dX12_comes_17 (by decide) ?_
    refine lv_icmp_ne (tgt := 28) hx hb dX12_comes_20 (by decide) (fun c1 => ?_) (fun c1 => ?_)
    · replace h := if_f h c1
      refine lv_aload_n hx hb dX12_comes_28 rfl (lv_at hl 0 rfl) ?_
      refine lv_iload_n hx hb dX12_comes_29 rfl (lv_at hl 1 rfl) ?_
      obtain ⟨r2, s3, q4, h⟩ := bd2_some h
      refine wcall_i (rest := []) XX I hl.1 (c_M_comesNow l G OK ad fu sa x1 r2 s3 q4) kV_X12_277 (Rc.mk XX I (q0 := 0) (ci := 12) wM_o rfl) rfl rfl (Nat.le_of_ble_eq_true rfl) ⟨rfl, rfl, Nat.le_of_ble_eq_true rfl, Nat.le_of_ble_eq_true rfl⟩ ⟨Nat.zero_le _, Nat.zero_le _⟩ dX12_comes_30 (fun H locs hz5 I => ?_)
      obtain ⟨rfl, rfl⟩ := some2 h
      exact e_i rfl XX hr I rfl dX12_comes_33
    · replace h := if_t h c1
      refine lv_bipush (v := (-4)) hx hb dX12_comes_23 (by decide) ?_
      refine lv_goto (tgt := 33) hx hb dX12_comes_25 (by decide) ?_
      obtain ⟨rfl, rfl⟩ := some2 h
      exact e_i rfl XX hr I rfl dX12_comes_33
  · replace h := if_t h c1
    refine lv_iconst (v := (-1)) hx hb dX12_comes_8 (by decide) ?_
    obtain ⟨rfl, rfl⟩ := some2 h
    exact e_i rfl XX hr I rfl dX12_comes_9
set_option maxHeartbeats 4000000 in
set_option maxRecDepth 100000 in
theorem c_M_weightsInAll (l : Launch) (G : g_G) (OK : EOk G.2.2) (ad : Nat → Nat) (fu : Nat) (sa : g_St) (r : Int32) (h : f_M_weightsInAll fu sa = some r) : HI l G yX12_weightsInAll (Cond.code yX12_weightsInAll cX12_weightsInAll 3 (some .int) :: gT) { frames := 0, cells := 0, slots := 0, locals := 0 } .int [.ref (ad 0)] (wM G ad sa) r (wM G ad sa) := by
  refine HI.mk (lv := [(0, .ref (ad 0))]) OK (by decide) (Nat.le_of_ble_eq_true rfl) rfl ?_
  intro p e s0 m args below meth c ls XX hr I hl
  have hx := XX.x
  have hb := XX.b
  have C4 : ∀ n : Nat, ∀ (v1 : Int32) (v2 : Int32), f_M_weightsInAll_L4 fu n sa v1 v2 = some r → ∀ (H : Heap) (locs : List Loc), Iv G (va_A (wM G ad sa) s0.heap.size) s0 H locs (wM G ad sa) → ∀ ls, lv_has ls 3 [(0, .ref (ad 0)), (1, .int v1), (2, .int v2)] → W p l e { frames := 0, cells := 0, slots := 0, locals := 0 } s0 m args below meth c H locs 0 0 (QI G below .int r (wM G ad sa) (wM G ad sa) args s0) (F0 m 4 ls []) := by
    intro n
    induction n with
    | zero => intro v1 v2 h; exact absurd h (fun q => by cases q)
    | succ n ih =>
      intro v1 v2 h H locs I ls hl
      rw [f_M_weightsInAll_L4] at h
      refine lv_iload_n hx hb dX12_weightsInAll_4 rfl (lv_at hl 2 rfl) ?_
      refine lv_aload_n hx hb dX12_weightsInAll_5 rfl (lv_at hl 0 rfl) ?_
      refine gM_proposals XX I dX12_weightsInAll_6 ?_
      refine lv_icmp_ge (tgt := 27) hx hb dX12_weightsInAll_9 (by decide) (fun c1 => ?_) (fun c1 => ?_)
      · replace h := if_t h c1
        refine lv_iload_n hx hb dX12_weightsInAll_27 rfl (lv_at hl 1 rfl) ?_
        obtain rfl := some1 h
        exact e_i rfl XX hr I rfl dX12_weightsInAll_28
      · replace h := if_f h c1
        refine lv_iload_n hx hb dX12_weightsInAll_12 rfl (lv_at hl 1 rfl) ?_
        refine lv_aload_n hx hb dX12_weightsInAll_13 rfl (lv_at hl 0 rfl) ?_
        refine gM_weight XX I dX12_weightsInAll_14 ?_
        refine lv_iload_n hx hb dX12_weightsInAll_17 rfl (lv_at hl 2 rfl) ?_
        obtain ⟨g1, h⟩ := gd_some h
        refine r_iald XX I 5 (aM_weight) g1 dX12_weightsInAll_18 ?_
        refine lv_iadd hx hb dX12_weightsInAll_19 ?_
        refine lv_topi (fun y2 ey2 => ?_)
        replace h := lt_e h ey2
        refine lv_istore_n (lv' := [(1, .int y2), (0, .ref (ad 0)), (2, .int v2)]) hx hb dX12_weightsInAll_20 rfl hl (by decide) rfl (fun ls hl => ?_)
        obtain ⟨y3, ey3⟩ : ∃ z : Int32, z = v2 + (1 : Int32) := ⟨_, rfl⟩
        replace h := lt_e h ey3
        refine lv_iinc (v := y3) (lv' := [(2, .int y3), (1, .int y2), (0, .ref (ad 0))]) hx hb dX12_weightsInAll_21 hl (k := 2) rfl (by rw [ey3]; rfl) (by decide) rfl (fun ls hl => ?_)
        refine lv_goto (tgt := 4) hx hb dX12_weightsInAll_24 (by decide) ?_
        exact ih _ _ h _ _ I ls (lv_sub hl [2, 1, 0] rfl)
  unfold f_M_weightsInAll at h
  refine lv_iconst (v := 0) hx hb dX12_weightsInAll_0 (by decide) ?_
  refine lv_istore_n (lv' := [(1, .int (0 : Int32)), (0, .ref (ad 0))]) hx hb dX12_weightsInAll_1 rfl hl (by decide) rfl (fun ls hl => ?_)
  refine lv_iconst (v := 0) hx hb dX12_weightsInAll_2 (by decide) ?_
  refine lv_istore_n (lv' := [(2, .int (0 : Int32)), (1, .int (0 : Int32)), (0, .ref (ad 0))]) hx hb dX12_weightsInAll_3 rfl hl (by decide) rfl (fun ls hl => ?_)
  exact C4 fu _ _ h _ _ I ls (lv_sub hl [2, 1, 0] rfl)
set_option maxHeartbeats 4000000 in
set_option maxRecDepth 100000 in
theorem c_M_lotOf (l : Launch) (G : g_G) (OK : EOk G.2.2) (ad : Nat → Nat) (fu : Nat) (sa : g_St) (x1 : Int32) (x2 : Int32) (r : Int32) (h : f_M_lotOf fu sa x1 x2 = some r) : HI l G yX12_lotOf (Cond.code yX12_lotOf cX12_lotOf 5 (some .int) :: gT) { frames := 0, cells := 0, slots := 0, locals := 0 } .int [.ref (ad 0), .int x1, .int x2] (wM G ad sa) r (wM G ad sa) := by
  refine HI.mk (lv := [(0, .ref (ad 0)), (1, .int x1), (2, .int x2)]) OK (by decide) (Nat.le_of_ble_eq_true rfl) rfl ?_
  intro p e s0 m args below meth c ls XX hr I hl
  have hx := XX.x
  have hb := XX.b
  have C10 : ∀ n : Nat, ∀ (v3 : Int32) (v4 : Int32), f_M_lotOf_L10 fu n sa v3 v4 = some r → ∀ (H : Heap) (locs : List Loc), Iv G (va_A (wM G ad sa) s0.heap.size) s0 H locs (wM G ad sa) → ∀ ls, lv_has ls 5 [(0, .ref (ad 0)), (3, .int v3), (4, .int v4)] → W p l e { frames := 0, cells := 0, slots := 0, locals := 0 } s0 m args below meth c H locs 0 0 (QI G below .int r (wM G ad sa) (wM G ad sa) args s0) (F0 m 10 ls []) := by
    intro n
    induction n with
    | zero => intro v3 v4 h; exact absurd h (fun q => by cases q)
    | succ n ih =>
      intro v3 v4 h H locs I ls hl
      rw [f_M_lotOf_L10] at h
      refine lv_iload_n hx hb dX12_lotOf_10 rfl (lv_at hl 1 rfl) ?_
      refine lv_aload_n hx hb dX12_lotOf_11 rfl (lv_at hl 0 rfl) ?_
      refine gM_weight XX I dX12_lotOf_12 ?_
      refine lv_iload hx hb dX12_lotOf_15 (lv_at hl 2 rfl) ?_
      obtain ⟨g3, h⟩ := gd_some h
      refine r_iald XX I 5 (aM_weight) g3 dX12_lotOf_17 ?_
      refine lv_icmp_lt (tgt := 37) hx hb dX12_lotOf_18 (by decide) (fun c1 => ?_) (fun c1 => ?_)
      · replace h := if_t h c1
        refine lv_iload hx hb dX12_lotOf_37 (lv_at hl 2 rfl) ?_
        obtain rfl := some1 h
        exact e_i rfl XX hr I rfl dX12_lotOf_39
      · replace h := if_f h c1
        refine lv_iload_n hx hb dX12_lotOf_21 rfl (lv_at hl 1 rfl) ?_
        refine lv_aload_n hx hb dX12_lotOf_22 rfl (lv_at hl 0 rfl) ?_
        refine gM_weight XX I dX12_lotOf_23 ?_
        refine lv_iload hx hb dX12_lotOf_26 (lv_at hl 2 rfl) ?_
        obtain ⟨g4, h⟩ := gd_some h
        refine r_iald XX I 5 (aM_weight) g4 dX12_lotOf_28 ?_
        refine lv_isub hx hb dX12_lotOf_29 ?_
        refine lv_topi (fun y5 ey5 => ?_)
        replace h := lt_e h ey5
        refine lv_istore_n (lv' := [(3, .int y5), (0, .ref (ad 0)), (4, .int v4)]) hx hb dX12_lotOf_30 rfl hl (by decide) rfl (fun ls hl => ?_)
        obtain ⟨y6, ey6⟩ : ∃ z : Int32, z = v4 + (1 : Int32) := ⟨_, rfl⟩
        replace h := lt_e h ey6
        refine lv_iinc (v := y6) (lv' := [(4, .int y6), (3, .int y5), (0, .ref (ad 0))]) hx hb dX12_lotOf_31 hl (k := 2) rfl (by rw [ey6]; rfl) (by decide) rfl (fun ls hl => ?_)
        refine lv_goto (tgt := 10) hx hb dX12_lotOf_34 (by decide) ?_
        exact ih _ _ h _ _ I ls (lv_sub hl [2, 1, 0] rfl)
  unfold f_M_lotOf at h
  refine lv_iload_n hx hb dX12_lotOf_0 rfl (lv_at hl 1 rfl) ?_
  refine lv_bipush (v := 16) hx hb dX12_lotOf_1 (by decide) ?_
  refine lv_iushr hx hb dX12_lotOf_3 rfl ?_
  refine lv_iload_n hx hb dX12_lotOf_4 rfl (lv_at hl 2 rfl) ?_
  obtain ⟨g1, h⟩ := gd_some h
  refine lv_irem hx hb dX12_lotOf_5 g1 ?_
  refine lv_topi (fun y2 ey2 => ?_)
  replace h := lt_e h ey2
  refine lv_istore_n (lv' := [(3, .int y2), (0, .ref (ad 0)), (1, .int x1), (2, .int x2)]) hx hb dX12_lotOf_6 rfl hl (by decide) rfl (fun ls hl => ?_)
  refine lv_iconst (v := 0) hx hb dX12_lotOf_7 (by decide) ?_
  refine lv_istore (lv' := [(4, .int (0 : Int32)), (3, .int y2), (0, .ref (ad 0)), (1, .int x1), (2, .int x2)]) hx hb dX12_lotOf_8 hl (by decide) rfl (fun ls hl => ?_)
  exact C10 fu _ _ h _ _ I ls (lv_sub hl [2, 1, 0] rfl)
