set_option maxHeartbeats 4000000 in
set_option maxRecDepth 100000 in
theorem c_S_in (l : Launch) (G : g_G) (OK : EOk G.2.2) (x0 : Int32) (x1 : Int32) (x2 : Int32) (r : Int32) (h : f_S_in x0 x1 x2 = r) : HI l G yX12_in (Cond.code yX12_in cX12_in 3 (some .boolean) :: gT) { frames := 0, cells := 0, slots := 0, locals := 0 } .boolean [.int x0, .int x1, .int x2] [] r [] := by
  refine HI.mk (lv := [(0, .int x0), (1, .int x1), (2, .int x2)]) OK (by decide) (Nat.le_of_ble_eq_true rfl) rfl ?_
  intro p e s0 m args below meth c ls XX hr I hl
  have hx := XX.x
  have hb := XX.b
  unfold f_S_in at h
  refine lv_iload_n hx hb dX12_in_0 rfl (lv_at hl 0 rfl) ?_
  refine lv_iload_n hx hb dX12_in_1 rfl (lv_at hl 1 rfl) ?_
  refine lv_icmp_lt (tgt := 14) hx hb dX12_in_2 (by decide) (fun c1 => ?_) (fun c1 => ?_)
  · replace h := if_t h c1
    refine lv_iconst (v := 0) hx hb dX12_in_14 (by decide) ?_
    subst h
    exact e_z XX hr I rfl rfl dX12_in_15
  · replace h := if_f h c1
    refine lv_iload_n hx hb dX12_in_5 rfl (lv_at hl 0 rfl) ?_
    refine lv_iload_n hx hb dX12_in_6 rfl (lv_at hl 2 rfl) ?_
    refine lv_icmp_gt (tgt := 14) hx hb dX12_in_7 (by decide) (fun c1 => ?_) (fun c1 => ?_)
    · replace h := if_t h c1
      refine lv_iconst (v := 0) hx hb dX12_in_14 (by decide) ?_
      subst h
      exact e_z XX hr I rfl rfl dX12_in_15
    · replace h := if_f h c1
      refine lv_iconst (v := 1) hx hb dX12_in_10 (by decide) ?_
      refine lv_goto (tgt := 15) hx hb dX12_in_11 (by decide) ?_
      subst h
      exact e_z XX hr I rfl rfl dX12_in_15
theorem kS_X12_99 : KS RX12 99 yX12_in cX12_in 3 (some .boolean) 3 := KS.mk wd_1127 wd_1128 wd_13 wd_1129 (by decide +kernel)
set_option maxHeartbeats 4000000 in
set_option maxRecDepth 100000 in
theorem c_M_isPerson (l : Launch) (G : g_G) (OK : EOk G.2.2) (ad : Nat → Nat) (sa : g_St) (x1 : Int32) (r : Int32) (h : f_M_isPerson sa x1 = r) : HI l G yX12_isPerson (Cond.code yX12_isPerson cX12_isPerson 2 (some .boolean) :: gT) { frames := 1, cells := 0, slots := 0, locals := 22 } .boolean [.ref (ad 0), .int x1] (wM G ad sa) r (wM G ad sa) := by
  refine HI.mk (lv := [(0, .ref (ad 0)), (1, .int x1)]) OK (by decide) (Nat.le_of_ble_eq_true rfl) rfl ?_
  intro p e s0 m args below meth c ls XX hr I hl
  have hx := XX.x
  have hb := XX.b
  unfold f_M_isPerson at h
  refine lv_iload_n hx hb dX12_isPerson_0 rfl (lv_at hl 1 rfl) ?_
  refine lv_iconst (v := 0) hx hb dX12_isPerson_1 (by decide) ?_
  refine lv_aload_n hx hb dX12_isPerson_2 rfl (lv_at hl 0 rfl) ?_
  refine gM_people XX I dX12_isPerson_3 ?_
  refine lv_iconst (v := 1) hx hb dX12_isPerson_6 (by decide) ?_
  refine lv_isub hx hb dX12_isPerson_7 ?_
  refine scall_i (rest := []) XX I hl.1 (c_S_in l G OK x1 (0 : Int32) ((gi sa 0) - (1 : Int32)) _ rfl) kS_X12_99 rfl rfl (Nat.le_of_ble_eq_true rfl) ⟨rfl, rfl, Nat.le_of_ble_eq_true rfl, Nat.le_of_ble_eq_true rfl⟩ ⟨Nat.zero_le _, Nat.zero_le _⟩ dX12_isPerson_8 (fun H locs hz1 I => ?_)
  subst h
  exact e_z XX hr I hz1 rfl dX12_isPerson_11
set_option maxHeartbeats 4000000 in
set_option maxRecDepth 100000 in
theorem c_M_isProposal (l : Launch) (G : g_G) (OK : EOk G.2.2) (ad : Nat → Nat) (sa : g_St) (x1 : Int32) (r : Int32) (h : f_M_isProposal sa x1 = r) : HI l G yX12_isProposal (Cond.code yX12_isProposal cX12_isProposal 2 (some .boolean) :: gT) { frames := 1, cells := 0, slots := 0, locals := 22 } .boolean [.ref (ad 0), .int x1] (wM G ad sa) r (wM G ad sa) := by
  refine HI.mk (lv := [(0, .ref (ad 0)), (1, .int x1)]) OK (by decide) (Nat.le_of_ble_eq_true rfl) rfl ?_
  intro p e s0 m args below meth c ls XX hr I hl
  have hx := XX.x
  have hb := XX.b
  unfold f_M_isProposal at h
  refine lv_iload_n hx hb dX12_isProposal_0 rfl (lv_at hl 1 rfl) ?_
  refine lv_iconst (v := 0) hx hb dX12_isProposal_1 (by decide) ?_
  refine lv_aload_n hx hb dX12_isProposal_2 rfl (lv_at hl 0 rfl) ?_
  refine gM_proposals XX I dX12_isProposal_3 ?_
  refine lv_iconst (v := 1) hx hb dX12_isProposal_6 (by decide) ?_
  refine lv_isub hx hb dX12_isProposal_7 ?_
  refine scall_i (rest := []) XX I hl.1 (c_S_in l G OK x1 (0 : Int32) ((gi sa 5) - (1 : Int32)) _ rfl) kS_X12_99 rfl rfl (Nat.le_of_ble_eq_true rfl) ⟨rfl, rfl, Nat.le_of_ble_eq_true rfl, Nat.le_of_ble_eq_true rfl⟩ ⟨Nat.zero_le _, Nat.zero_le _⟩ dX12_isProposal_8 (fun H locs hz1 I => ?_)
  subst h
  exact e_z XX hr I hz1 rfl dX12_isProposal_11
set_option maxHeartbeats 4000000 in
set_option maxRecDepth 100000 in
theorem c_S_isSide (l : Launch) (G : g_G) (OK : EOk G.2.2) (x0 : Int32) (r : Int32) (h : f_S_isSide x0 = r) : HI l G yX12_isSide (Cond.code yX12_isSide cX12_isSide 1 (some .boolean) :: gT) { frames := 1, cells := 0, slots := 0, locals := 22 } .boolean [.int x0] [] r [] := by
  refine HI.mk (lv := [(0, .int x0)]) OK (by decide) (Nat.le_of_ble_eq_true rfl) rfl ?_
  intro p e s0 m args below meth c ls XX hr I hl
  have hx := XX.x
  have hb := XX.b
  unfold f_S_isSide at h
  refine lv_iload_n hx hb dX12_isSide_0 rfl (lv_at hl 0 rfl) ?_
  refine lv_iconst (v := 0) hx hb dX12_isSide_1 (by decide) ?_
  refine lv_iconst (v := 1) hx hb dX12_isSide_2 (by decide) ?_
  refine scall_i (rest := []) XX I hl.1 (c_S_in l G OK x0 (0 : Int32) (1 : Int32) _ rfl) kS_X12_99 rfl rfl (Nat.le_of_ble_eq_true rfl) ⟨rfl, rfl, Nat.le_of_ble_eq_true rfl, Nat.le_of_ble_eq_true rfl⟩ ⟨Nat.zero_le _, Nat.zero_le _⟩ dX12_isSide_3 (fun H locs hz1 I => ?_)
  subst h
  exact e_z XX hr I hz1 rfl dX12_isSide_6
set_option maxHeartbeats 4000000 in
set_option maxRecDepth 100000 in
theorem c_M_worthTo (l : Launch) (G : g_G) (OK : EOk G.2.2) (ad : Nat → Nat) (sa : g_St) (x1 : Int32) (x2 : Int32) (r : Int32) (h : f_M_worthTo sa x1 x2 = some r) : HI l G yX12_worthTo (Cond.code yX12_worthTo cX12_worthTo 3 (some .int) :: gT) { frames := 0, cells := 0, slots := 0, locals := 0 } .int [.ref (ad 0), .int x1, .int x2] (wM G ad sa) r (wM G ad sa) := by
  refine HI.mk (lv := [(0, .ref (ad 0)), (1, .int x1), (2, .int x2)]) OK (by decide) (Nat.le_of_ble_eq_true rfl) rfl ?_
  intro p e s0 m args below meth c ls XX hr I hl
  have hx := XX.x
  have hb := XX.b
  unfold f_M_worthTo at h
  refine lv_aload_n hx hb dX12_worthTo_0 rfl (lv_at hl 0 rfl) ?_
  refine gM_worth XX I dX12_worthTo_1 ?_
  refine lv_bipush (v := 6) hx hb dX12_worthTo_4 (by decide) ?_
  refine lv_iload_n hx hb dX12_worthTo_6 rfl (lv_at hl 1 rfl) ?_
  refine lv_imul hx hb dX12_worthTo_7 ?_
  refine lv_iload_n hx hb dX12_worthTo_8 rfl (lv_at hl 2 rfl) ?_
  refine lv_iadd hx hb dX12_worthTo_9 ?_
  obtain ⟨g1, h⟩ := gd_some h
  refine r_iald XX I 6 (aM_worth) g1 dX12_worthTo_10 ?_
  obtain rfl := some1 h
  exact e_i rfl XX hr I rfl dX12_worthTo_11
set_option maxHeartbeats 4000000 in
set_option maxRecDepth 100000 in
theorem c_M_feed (l : Launch) (G : g_G) (OK : EOk G.2.2) (ad : Nat → Nat) (fu : Nat) (sa : g_St) (x1 : Int64) (x3 : Int32) (r : Int32) (ts : g_St) (h : f_M_feed fu sa x1 x3 = some (r, ts)) : HI l G yX12_feed (Cond.code yX12_feed cX12_feed 5 (some .int) :: gT) { frames := 1, cells := 0, slots := 0, locals := 22 } .int [.ref (ad 0), .long x1, .int x3] (wM G ad sa) r (wM G ad ts) := by
  refine HI.mk (lv := [(0, .ref (ad 0)), (1, .long x1), (3, .int x3)]) OK (by decide) (Nat.le_of_ble_eq_true rfl) rfl ?_
  intro p e s0 m args below meth c ls XX hr I hl
  have hx := XX.x
  have hb := XX.b
  have C30 : ∀ n : Nat, ∀ (s : g_St) (v1 : Int64) (v3 : Int32) (v4 : Int32), f_M_feed_L30 fu n s v1 v3 v4 = some (r, ts) → ∀ (H : Heap) (locs : List Loc), Iv G (va_A (wM G ad sa) s0.heap.size) s0 H locs (wM G ad s) → ∀ ls, lv_has ls 5 [(0, .ref (ad 0)), (1, .long v1), (3, .int v3), (4, .int v4)] → W p l e { frames := 1, cells := 0, slots := 0, locals := 22 } s0 m args below meth c H locs 0 0 (QI G below .int r (wM G ad sa) (wM G ad ts) args s0) (F0 m 30 ls []) := by
    intro n
    induction n with
    | zero => intro s v1 v3 v4 h; exact absurd h (fun q => by cases q)
    | succ n ih =>
      intro s v1 v3 v4 h H locs I ls hl
      rw [f_M_feed_L30] at h
      refine lv_iload hx hb dX12_feed_30 (lv_at hl 3 rfl) ?_
      refine lv_iload_n hx hb dX12_feed_32 rfl (lv_at hl 2 rfl) ?_
      refine lv_icmp_ge (tgt := 73) hx hb dX12_feed_33 (by decide) (fun c1 => ?_) (fun c1 => ?_)
      · replace h := if_t h c1
        refine lv_aload_n hx hb dX12_feed_73 rfl (lv_at hl 0 rfl) ?_
        refine gM_tapeMany XX I dX12_feed_74 ?_
        obtain ⟨rfl, rfl⟩ := some2 h
        exact e_i rfl XX hr I rfl dX12_feed_77
      · replace h := if_f h c1
        refine lv_aload_n hx hb dX12_feed_36 rfl (lv_at hl 0 rfl) ?_
        refine gM_tape XX I dX12_feed_37 ?_
        refine lv_aload_n hx hb dX12_feed_40 rfl (lv_at hl 0 rfl) ?_
        refine gM_tapeMany XX I dX12_feed_41 ?_
        refine lv_lload_n hx hb dX12_feed_44 rfl (lv_at hl 1 rfl) ?_
        refine lv_bipush (v := 8) hx hb dX12_feed_45 (by decide) ?_
        refine lv_iload hx hb dX12_feed_47 (lv_at hl 3 rfl) ?_
        refine lv_imul hx hb dX12_feed_49 ?_
        refine lv_lshr hx hb dX12_feed_50 rfl ?_
        refine lv_ldc2 (v := 255) hx hb XX.o (XX.t _ wd_1130) dX12_feed_51 ?_
        refine lv_land hx hb dX12_feed_54 ?_
        refine lv_l2i hx hb dX12_feed_55 rfl ?_
        refine lv_topi (fun y2 ey2 => ?_)
        replace h := lt_e h ey2
        obtain ⟨g3, h⟩ := gd_some h
        refine r_iast XX I 11 (aM_tape) (sM_tape) g3 dX12_feed_56 (fun H locs I => ?_)
        obtain ⟨s4, es4⟩ : ∃ z, z = sr s 15 (gi s 16) y2 := ⟨_, rfl⟩
        replace h := lt_e h es4
        replace I : Iv G (va_A (wM G ad sa) s0.heap.size) s0 H locs (wM G ad s4) := by rw [es4]; exact I
        refine lv_aload_n hx hb dX12_feed_57 rfl (lv_at hl 0 rfl) ?_
        refine lv_dup hx hb dX12_feed_58 rfl ?_
        refine gM_tapeMany XX I dX12_feed_59 ?_
        refine lv_iconst (v := 1) hx hb dX12_feed_62 (by decide) ?_
        refine lv_iadd hx hb dX12_feed_63 ?_
        refine lv_topi (fun y5 ey5 => ?_)
        replace h := lt_e h ey5
        refine pM_tapeMany XX I dX12_feed_64 (fun H locs I => ?_)
        obtain ⟨s6, es6⟩ : ∃ z, z = si s4 16 y5 := ⟨_, rfl⟩
        replace h := lt_e h es6
        replace I : Iv G (va_A (wM G ad sa) s0.heap.size) s0 H locs (wM G ad s6) := by rw [es6]; exact I
        obtain ⟨y7, ey7⟩ : ∃ z : Int32, z = v4 + (1 : Int32) := ⟨_, rfl⟩
        replace h := lt_e h ey7
        refine lv_iinc (v := y7) (lv' := [(4, .int y7), (0, .ref (ad 0)), (1, .long v1), (3, .int v3)]) hx hb dX12_feed_67 hl (k := 3) rfl (by rw [ey7]; rfl) (by decide) rfl (fun ls hl => ?_)
        refine lv_goto (tgt := 30) hx hb dX12_feed_70 (by decide) ?_
        exact ih _ _ _ _ h _ _ I ls (lv_sub hl [1, 2, 3, 0] rfl)
  unfold f_M_feed at h
  refine lv_iload_n hx hb dX12_feed_0 rfl (lv_at hl 2 rfl) ?_
  refine lv_iconst (v := 1) hx hb dX12_feed_1 (by decide) ?_
  refine lv_bipush (v := 8) hx hb dX12_feed_2 (by decide) ?_
  refine scall_i (rest := []) XX I hl.1 (c_S_in l G OK x3 (1 : Int32) (8 : Int32) _ rfl) kS_X12_99 rfl rfl (Nat.le_of_ble_eq_true rfl) ⟨rfl, rfl, Nat.le_of_ble_eq_true rfl, Nat.le_of_ble_eq_true rfl⟩ ⟨Nat.zero_le _, Nat.zero_le _⟩ dX12_feed_4 (fun H locs hz1 I => ?_)
  refine lv_if_ne (tgt := 12) hx hb dX12_feed_7 (by decide) (fun c1 => ?_) (fun c1 => ?_)
  · replace h := if_f h c1
    refine lv_aload_n hx hb dX12_feed_12 rfl (lv_at hl 0 rfl) ?_
    refine gM_tapeMany XX I dX12_feed_13 ?_
    refine lv_iload_n hx hb dX12_feed_16 rfl (lv_at hl 2 rfl) ?_
    refine lv_iadd hx hb dX12_feed_17 ?_
    refine lv_sipush (v := 240) hx hb dX12_feed_18 (by decide) ?_
    refine lv_icmp_le (tgt := 27) hx hb dX12_feed_21 (by decide) (fun c1 => ?_) (fun c1 => ?_)
    · replace h := if_t h c1
      refine lv_iconst (v := 0) hx hb dX12_feed_27 (by decide) ?_
      refine lv_istore (lv' := [(4, .int (0 : Int32)), (0, .ref (ad 0)), (1, .long x1), (3, .int x3)]) hx hb dX12_feed_28 hl (by decide) rfl (fun ls hl => ?_)
      exact C30 fu _ _ _ _ h _ _ I ls (lv_sub hl [1, 2, 3, 0] rfl)
    · replace h := if_f h c1
      refine lv_bipush (v := (-2)) hx hb dX12_feed_24 (by decide) ?_
      obtain ⟨rfl, rfl⟩ := some2 h
      exact e_i rfl XX hr I rfl dX12_feed_26
  · replace h := if_t h c1
    refine lv_iconst (v := (-1)) hx hb dX12_feed_10 (by decide) ?_
    obtain ⟨rfl, rfl⟩ := some2 h
    exact e_i rfl XX hr I rfl dX12_feed_11
set_option maxHeartbeats 4000000 in
set_option maxRecDepth 100000 in
theorem c_M_byteAt (l : Launch) (G : g_G) (OK : EOk G.2.2) (ad : Nat → Nat) (sa : g_St) (x1 : Int32) (r : Int32) (h : f_M_byteAt sa x1 = some r) : HI l G yX12_byteAt (Cond.code yX12_byteAt cX12_byteAt 2 (some .int) :: gT) { frames := 0, cells := 0, slots := 0, locals := 0 } .int [.ref (ad 0), .int x1] (wM G ad sa) r (wM G ad sa) := by
  refine HI.mk (lv := [(0, .ref (ad 0)), (1, .int x1)]) OK (by decide) (Nat.le_of_ble_eq_true rfl) rfl ?_
  intro p e s0 m args below meth c ls XX hr I hl
  have hx := XX.x
  have hb := XX.b
  unfold f_M_byteAt at h
  refine lv_iload_n hx hb dX12_byteAt_0 rfl (lv_at hl 1 rfl) ?_
  refine lv_aload_n hx hb dX12_byteAt_1 rfl (lv_at hl 0 rfl) ?_
  refine gM_tapeMany XX I dX12_byteAt_2 ?_
  refine lv_icmp_ge (tgt := 17) hx hb dX12_byteAt_5 (by decide) (fun c1 => ?_) (fun c1 => ?_)
  · replace h := if_t h c1
    refine lv_iconst (v := (-1)) hx hb dX12_byteAt_17 (by decide) ?_
    obtain rfl := some1 h
    exact e_i rfl XX hr I rfl dX12_byteAt_18
  · replace h := if_f h c1
    refine lv_aload_n hx hb dX12_byteAt_8 rfl (lv_at hl 0 rfl) ?_
    refine gM_tape XX I dX12_byteAt_9 ?_
    refine lv_iload_n hx hb dX12_byteAt_12 rfl (lv_at hl 1 rfl) ?_
    obtain ⟨g1, h⟩ := gd_some h
    refine r_iald XX I 11 (aM_tape) g1 dX12_byteAt_13 ?_
    refine lv_goto (tgt := 18) hx hb dX12_byteAt_14 (by decide) ?_
    obtain rfl := some1 h
    exact e_i rfl XX hr I rfl dX12_byteAt_18
set_option maxHeartbeats 4000000 in
set_option maxRecDepth 100000 in
theorem c_S_isLetter (l : Launch) (G : g_G) (OK : EOk G.2.2) (x0 : Int32) (r : Int32) (h : f_S_isLetter x0 = r) : HI l G yX12_isLetter (Cond.code yX12_isLetter cX12_isLetter 1 (some .boolean) :: gT) { frames := 1, cells := 0, slots := 0, locals := 22 } .boolean [.int x0] [] r [] := by
  refine HI.mk (lv := [(0, .int x0)]) OK (by decide) (Nat.le_of_ble_eq_true rfl) rfl ?_
  intro p e s0 m args below meth c ls XX hr I hl
  have hx := XX.x
  have hb := XX.b
  unfold f_S_isLetter at h
  refine lv_iload_n hx hb dX12_isLetter_0 rfl (lv_at hl 0 rfl) ?_
  refine lv_bipush (v := 97) hx hb dX12_isLetter_1 (by decide) ?_
  refine lv_bipush (v := 122) hx hb dX12_isLetter_3 (by decide) ?_
  refine scall_i (rest := []) XX I hl.1 (c_S_in l G OK x0 (97 : Int32) (122 : Int32) _ rfl) kS_X12_99 rfl rfl (Nat.le_of_ble_eq_true rfl) ⟨rfl, rfl, Nat.le_of_ble_eq_true rfl, Nat.le_of_ble_eq_true rfl⟩ ⟨Nat.zero_le _, Nat.zero_le _⟩ dX12_isLetter_5 (fun H locs hz1 I => ?_)
  subst h
  exact e_z XX hr I hz1 rfl dX12_isLetter_8
set_option maxHeartbeats 4000000 in
set_option maxRecDepth 100000 in
theorem c_S_isDigit (l : Launch) (G : g_G) (OK : EOk G.2.2) (x0 : Int32) (r : Int32) (h : f_S_isDigit x0 = r) : HI l G yX12_isDigit (Cond.code yX12_isDigit cX12_isDigit 1 (some .boolean) :: gT) { frames := 1, cells := 0, slots := 0, locals := 22 } .boolean [.int x0] [] r [] := by
  refine HI.mk (lv := [(0, .int x0)]) OK (by decide) (Nat.le_of_ble_eq_true rfl) rfl ?_
  intro p e s0 m args below meth c ls XX hr I hl
  have hx := XX.x
  have hb := XX.b
  unfold f_S_isDigit at h
  refine lv_iload_n hx hb dX12_isDigit_0 rfl (lv_at hl 0 rfl) ?_
  refine lv_bipush (v := 48) hx hb dX12_isDigit_1 (by decide) ?_
  refine lv_bipush (v := 57) hx hb dX12_isDigit_3 (by decide) ?_
  refine scall_i (rest := []) XX I hl.1 (c_S_in l G OK x0 (48 : Int32) (57 : Int32) _ rfl) kS_X12_99 rfl rfl (Nat.le_of_ble_eq_true rfl) ⟨rfl, rfl, Nat.le_of_ble_eq_true rfl, Nat.le_of_ble_eq_true rfl⟩ ⟨Nat.zero_le _, Nat.zero_le _⟩ dX12_isDigit_5 (fun H locs hz1 I => ?_)
  subst h
  exact e_z XX hr I hz1 rfl dX12_isDigit_8
theorem kV_X12_117 : KV RX12 117 RX12 yX12_byteAt cX12_byteAt 2 (some .int) 1 := KV.mk wd_1139 wd_1141 wd_1611 wd_13 wd_1142 (by decide +kernel)
theorem kS_X12_121 : KS RX12 121 yX12_isLetter cX12_isLetter 1 (some .boolean) 1 := KS.mk wd_1143 wd_1144 wd_13 wd_1145 (by decide +kernel)
theorem kS_X12_125 : KS RX12 125 yX12_isDigit cX12_isDigit 1 (some .boolean) 1 := KS.mk wd_1146 wd_1147 wd_13 wd_1148 (by decide +kernel)
set_option maxHeartbeats 4000000 in
set_option maxRecDepth 100000 in
theorem c_M_advance (l : Launch) (G : g_G) (OK : EOk G.2.2) (ad : Nat → Nat) (fu : Nat) (sa : g_St) (ts : g_St) (h : f_M_advance fu sa = some ts) : HV l G yX12_advance (Cond.code yX12_advance cX12_advance 2 none :: gT) { frames := 2, cells := 0, slots := 0, locals := 42 } [.ref (ad 0)] (wM G ad sa) (wM G ad ts) := by
  refine HV.mk (lv := [(0, .ref (ad 0))]) OK (by decide) (Nat.le_of_ble_eq_true rfl) rfl ?_
  intro p e s0 m args below meth c ls XX hr I hl
  have hx := XX.x
  have hb := XX.b
  have C207 : ∀ n : Nat, ∀ (s : g_St), f_M_advance_L207 fu n s = some ts → ∀ (H : Heap) (locs : List Loc), Iv G (va_A (wM G ad sa) s0.heap.size) s0 H locs (wM G ad s) → ∀ ls, lv_has ls 2 [(0, .ref (ad 0))] → W p l e { frames := 2, cells := 0, slots := 0, locals := 42 } s0 m args below meth c H locs 0 0 (QV G below (wM G ad sa) (wM G ad ts) args s0) (F0 m 207 ls []) := by
    intro n
    induction n with
    | zero => intro s h; exact absurd h (fun q => by cases q)
    | succ n ih =>
      intro s h H locs I ls hl
      rw [f_M_advance_L207] at h
      refine lv_aload_n hx hb dX12_advance_207 rfl (lv_at hl 0 rfl) ?_
      refine gM_sort XX I dX12_advance_208 ?_
      refine lv_iconst (v := 2) hx hb dX12_advance_211 (by decide) ?_
      refine lv_icmp_ne (tgt := 282) hx hb dX12_advance_212 (by decide) (fun c1 => ?_) (fun c1 => ?_)
      · replace h := if_f h c1
        obtain rfl := some1 h
        exact e_v XX hr I dX12_advance_282
      · replace h := if_t h c1
        refine lv_aload_n hx hb dX12_advance_215 rfl (lv_at hl 0 rfl) ?_
        refine lv_aload_n hx hb dX12_advance_216 rfl (lv_at hl 0 rfl) ?_
        refine gM_tokenEnds XX I dX12_advance_217 ?_
        obtain ⟨r34, q35, h⟩ := bd1_some h
        refine wcall_i (rest := []) XX I hl.1 (c_M_byteAt l G OK ad s (gi s 19) r34 q35) kV_X12_117 (Rc.mk XX I (q0 := 0) (ci := 12) wM_o rfl) rfl rfl (Nat.le_of_ble_eq_true rfl) ⟨rfl, rfl, Nat.le_of_ble_eq_true rfl, Nat.le_of_ble_eq_true rfl⟩ ⟨Nat.zero_le _, Nat.zero_le _⟩ dX12_advance_220 (fun H locs hz36 I => ?_)
        refine scall_i (rest := []) XX I hl.1 (c_S_isDigit l G OK r34 _ rfl) kS_X12_125 rfl rfl (Nat.le_of_ble_eq_true rfl) ⟨rfl, rfl, Nat.le_of_ble_eq_true rfl, Nat.le_of_ble_eq_true rfl⟩ ⟨Nat.zero_le _, Nat.zero_le _⟩ dX12_advance_223 (fun H locs hz37 I => ?_)
        refine lv_if_eq (tgt := 282) hx hb dX12_advance_226 (by decide) (fun c1 => ?_) (fun c1 => ?_)
        · replace h := if_t h c1
          obtain rfl := some1 h
          exact e_v XX hr I dX12_advance_282
        · replace h := if_f h c1
          refine lv_aload_n hx hb dX12_advance_229 rfl (lv_at hl 0 rfl) ?_
          refine lv_aload_n hx hb dX12_advance_230 rfl (lv_at hl 0 rfl) ?_
          refine gM_tokenEnds XX I dX12_advance_231 ?_
          refine lv_aload_n hx hb dX12_advance_234 rfl (lv_at hl 0 rfl) ?_
          refine gM_begins XX I dX12_advance_235 ?_
          refine lv_isub hx hb dX12_advance_238 ?_
          refine lv_iconst (v := 3) hx hb dX12_advance_239 (by decide) ?_
          refine lv_icmp_ge (tgt := 265) hx hb dX12_advance_240 (by decide) (fun c1 => ?_) (fun c1 => ?_)
          · replace h := if_t h c1
            refine lv_iconst (v := (-1)) hx hb dX12_advance_265 (by decide) ?_
            refine pM_value XX I dX12_advance_266 (fun H locs I => ?_)
            obtain ⟨s38, es38⟩ : ∃ z, z = si s 21 ((-1) : Int32) := ⟨_, rfl⟩
            replace h := lt_e h es38
            replace I : Iv G (va_A (wM G ad sa) s0.heap.size) s0 H locs (wM G ad s38) := by rw [es38]; exact I
            refine lv_aload_n hx hb dX12_advance_269 rfl (lv_at hl 0 rfl) ?_
            refine lv_dup hx hb dX12_advance_270 rfl ?_
            refine gM_tokenEnds XX I dX12_advance_271 ?_
            refine lv_iconst (v := 1) hx hb dX12_advance_274 (by decide) ?_
            refine lv_iadd hx hb dX12_advance_275 ?_
            refine lv_topi (fun y39 ey39 => ?_)
            replace h := lt_e h ey39
            refine pM_tokenEnds XX I dX12_advance_276 (fun H locs I => ?_)
            obtain ⟨s40, es40⟩ : ∃ z, z = si s38 19 y39 := ⟨_, rfl⟩
            replace h := lt_e h es40
            replace I : Iv G (va_A (wM G ad sa) s0.heap.size) s0 H locs (wM G ad s40) := by rw [es40]; exact I
            refine lv_goto (tgt := 207) hx hb dX12_advance_279 (by decide) ?_
            exact ih _ h _ _ I ls (lv_sub hl [0] rfl)
          · replace h := if_f h c1
            refine lv_bipush (v := 10) hx hb dX12_advance_243 (by decide) ?_
            refine lv_aload_n hx hb dX12_advance_245 rfl (lv_at hl 0 rfl) ?_
            refine gM_value XX I dX12_advance_246 ?_
            refine lv_imul hx hb dX12_advance_249 ?_
            refine lv_aload_n hx hb dX12_advance_250 rfl (lv_at hl 0 rfl) ?_
            refine lv_aload_n hx hb dX12_advance_251 rfl (lv_at hl 0 rfl) ?_
            refine gM_tokenEnds XX I dX12_advance_252 ?_
            obtain ⟨r41, q42, h⟩ := bd1_some h
            refine wcall_i (rest := [.int ((10 : Int32) * (gi s 21)), .ref (ad 0)]) XX I hl.1 (c_M_byteAt l G OK ad s (gi s 19) r41 q42) kV_X12_117 (Rc.mk XX I (q0 := 0) (ci := 12) wM_o rfl) rfl rfl (Nat.le_of_ble_eq_true rfl) ⟨rfl, rfl, Nat.le_of_ble_eq_true rfl, Nat.le_of_ble_eq_true rfl⟩ ⟨Nat.zero_le _, Nat.zero_le _⟩ dX12_advance_255 (fun H locs hz43 I => ?_)
            refine lv_iadd hx hb dX12_advance_258 ?_
            refine lv_bipush (v := 48) hx hb dX12_advance_259 (by decide) ?_
            refine lv_isub hx hb dX12_advance_261 ?_
            refine lv_goto (tgt := 266) hx hb dX12_advance_262 (by decide) ?_
            refine lv_topi (fun y44 ey44 => ?_)
            replace h := lt_e h ey44
            refine pM_value XX I dX12_advance_266 (fun H locs I => ?_)
            obtain ⟨s45, es45⟩ : ∃ z, z = si s 21 y44 := ⟨_, rfl⟩
            replace h := lt_e h es45
            replace I : Iv G (va_A (wM G ad sa) s0.heap.size) s0 H locs (wM G ad s45) := by rw [es45]; exact I
            refine lv_aload_n hx hb dX12_advance_269 rfl (lv_at hl 0 rfl) ?_
            refine lv_dup hx hb dX12_advance_270 rfl ?_
            refine gM_tokenEnds XX I dX12_advance_271 ?_
            refine lv_iconst (v := 1) hx hb dX12_advance_274 (by decide) ?_
            refine lv_iadd hx hb dX12_advance_275 ?_
            refine lv_topi (fun y46 ey46 => ?_)
            replace h := lt_e h ey46
            refine pM_tokenEnds XX I dX12_advance_276 (fun H locs I => ?_)
            obtain ⟨s47, es47⟩ : ∃ z, z = si s45 19 y46 := ⟨_, rfl⟩
            replace h := lt_e h es47
            replace I : Iv G (va_A (wM G ad sa) s0.heap.size) s0 H locs (wM G ad s47) := by rw [es47]; exact I
            refine lv_goto (tgt := 207) hx hb dX12_advance_279 (by decide) ?_
            exact ih _ h _ _ I ls (lv_sub hl [0] rfl)
  have C126 : ∀ n : Nat, ∀ (s : g_St), f_M_advance_L126 fu n s = some ts → ∀ (H : Heap) (locs : List Loc), Iv G (va_A (wM G ad sa) s0.heap.size) s0 H locs (wM G ad s) → ∀ ls, lv_has ls 2 [(0, .ref (ad 0))] → W p l e { frames := 2, cells := 0, slots := 0, locals := 42 } s0 m args below meth c H locs 0 0 (QV G below (wM G ad sa) (wM G ad ts) args s0) (F0 m 126 ls []) := by
    intro n
    induction n with
    | zero => intro s h; exact absurd h (fun q => by cases q)
    | succ n ih =>
      intro s h H locs I ls hl
      rw [f_M_advance_L126] at h
      refine lv_aload_n hx hb dX12_advance_126 rfl (lv_at hl 0 rfl) ?_
      refine gM_sort XX I dX12_advance_127 ?_
      refine lv_iconst (v := 1) hx hb dX12_advance_130 (by decide) ?_
      refine lv_icmp_ne (tgt := 207) hx hb dX12_advance_131 (by decide) (fun c1 => ?_) (fun c1 => ?_)
      · replace h := if_f h c1
        exact C207 fu _ h _ _ I ls (lv_sub hl [0] rfl)
      · replace h := if_t h c1
        refine lv_aload_n hx hb dX12_advance_134 rfl (lv_at hl 0 rfl) ?_
        refine lv_aload_n hx hb dX12_advance_135 rfl (lv_at hl 0 rfl) ?_
        refine gM_tokenEnds XX I dX12_advance_136 ?_
        obtain ⟨r20, q21, h⟩ := bd1_some h
        refine wcall_i (rest := []) XX I hl.1 (c_M_byteAt l G OK ad s (gi s 19) r20 q21) kV_X12_117 (Rc.mk XX I (q0 := 0) (ci := 12) wM_o rfl) rfl rfl (Nat.le_of_ble_eq_true rfl) ⟨rfl, rfl, Nat.le_of_ble_eq_true rfl, Nat.le_of_ble_eq_true rfl⟩ ⟨Nat.zero_le _, Nat.zero_le _⟩ dX12_advance_139 (fun H locs hz22 I => ?_)
        refine scall_i (rest := []) XX I hl.1 (c_S_isLetter l G OK r20 _ rfl) kS_X12_121 rfl rfl (Nat.le_of_ble_eq_true rfl) ⟨rfl, rfl, Nat.le_of_ble_eq_true rfl, Nat.le_of_ble_eq_true rfl⟩ ⟨Nat.zero_le _, Nat.zero_le _⟩ dX12_advance_142 (fun H locs hz23 I => ?_)
        refine lv_if_eq (tgt := 207) hx hb dX12_advance_145 (by decide) (fun c1 => ?_) (fun c1 => ?_)
        · replace h := if_t h c1
          exact C207 fu _ h _ _ I ls (lv_sub hl [0] rfl)
        · replace h := if_f h c1
          refine lv_aload_n hx hb dX12_advance_148 rfl (lv_at hl 0 rfl) ?_
          refine lv_aload_n hx hb dX12_advance_149 rfl (lv_at hl 0 rfl) ?_
          refine gM_tokenEnds XX I dX12_advance_150 ?_
          refine lv_aload_n hx hb dX12_advance_153 rfl (lv_at hl 0 rfl) ?_
          refine gM_begins XX I dX12_advance_154 ?_
          refine lv_isub hx hb dX12_advance_157 ?_
          refine lv_bipush (v := 8) hx hb dX12_advance_158 (by decide) ?_
          refine lv_icmp_ge (tgt := 188) hx hb dX12_advance_160 (by decide) (fun c1 => ?_) (fun c1 => ?_)
          · replace h := if_t h c1
            refine lv_ldc2 (v := (-1)) hx hb XX.o (XX.t _ wd_1151) dX12_advance_188 ?_
            refine pM_word XX I dX12_advance_191 (fun H locs I => ?_)
            obtain ⟨s24, es24⟩ : ∃ z, z = sj s 20 ((-1) : Int64) := ⟨_, rfl⟩
            replace h := lt_e h es24
            replace I : Iv G (va_A (wM G ad sa) s0.heap.size) s0 H locs (wM G ad s24) := by rw [es24]; exact I
            refine lv_aload_n hx hb dX12_advance_194 rfl (lv_at hl 0 rfl) ?_
            refine lv_dup hx hb dX12_advance_195 rfl ?_
            refine gM_tokenEnds XX I dX12_advance_196 ?_
            refine lv_iconst (v := 1) hx hb dX12_advance_199 (by decide) ?_
            refine lv_iadd hx hb dX12_advance_200 ?_
            refine lv_topi (fun y25 ey25 => ?_)
            replace h := lt_e h ey25
            refine pM_tokenEnds XX I dX12_advance_201 (fun H locs I => ?_)
            obtain ⟨s26, es26⟩ : ∃ z, z = si s24 19 y25 := ⟨_, rfl⟩
            replace h := lt_e h es26
            replace I : Iv G (va_A (wM G ad sa) s0.heap.size) s0 H locs (wM G ad s26) := by rw [es26]; exact I
            refine lv_goto (tgt := 126) hx hb dX12_advance_204 (by decide) ?_
            exact ih _ h _ _ I ls (lv_sub hl [0] rfl)
          · replace h := if_f h c1
            refine lv_ldc2 (v := 27) hx hb XX.o (XX.t _ wd_1149) dX12_advance_163 ?_
            refine lv_aload_n hx hb dX12_advance_166 rfl (lv_at hl 0 rfl) ?_
            refine gM_word XX I dX12_advance_167 ?_
            refine lv_lmul hx hb dX12_advance_170 ?_
            refine lv_aload_n hx hb dX12_advance_171 rfl (lv_at hl 0 rfl) ?_
            refine lv_aload_n hx hb dX12_advance_172 rfl (lv_at hl 0 rfl) ?_
            refine gM_tokenEnds XX I dX12_advance_173 ?_
            obtain ⟨r27, q28, h⟩ := bd1_some h
            refine wcall_i (rest := [.long ((27 : Int64) * (gj s 20)), .ref (ad 0)]) XX I hl.1 (c_M_byteAt l G OK ad s (gi s 19) r27 q28) kV_X12_117 (Rc.mk XX I (q0 := 0) (ci := 12) wM_o rfl) rfl rfl (Nat.le_of_ble_eq_true rfl) ⟨rfl, rfl, Nat.le_of_ble_eq_true rfl, Nat.le_of_ble_eq_true rfl⟩ ⟨Nat.zero_le _, Nat.zero_le _⟩ dX12_advance_176 (fun H locs hz29 I => ?_)
            refine lv_i2l hx hb dX12_advance_179 rfl ?_
            refine lv_ladd hx hb dX12_advance_180 ?_
            refine lv_ldc2 (v := 96) hx hb XX.o (XX.t _ wd_1150) dX12_advance_181 ?_
            refine lv_lsub hx hb dX12_advance_184 ?_
            refine lv_goto (tgt := 191) hx hb dX12_advance_185 (by decide) ?_
            refine lv_topl (fun y30 ey30 => ?_)
            replace h := lt_e h ey30
            refine pM_word XX I dX12_advance_191 (fun H locs I => ?_)
            obtain ⟨s31, es31⟩ : ∃ z, z = sj s 20 y30 := ⟨_, rfl⟩
            replace h := lt_e h es31
            replace I : Iv G (va_A (wM G ad sa) s0.heap.size) s0 H locs (wM G ad s31) := by rw [es31]; exact I
            refine lv_aload_n hx hb dX12_advance_194 rfl (lv_at hl 0 rfl) ?_
            refine lv_dup hx hb dX12_advance_195 rfl ?_
            refine gM_tokenEnds XX I dX12_advance_196 ?_
            refine lv_iconst (v := 1) hx hb dX12_advance_199 (by decide) ?_
            refine lv_iadd hx hb dX12_advance_200 ?_
            refine lv_topi (fun y32 ey32 => ?_)
            replace h := lt_e h ey32
            refine pM_tokenEnds XX I dX12_advance_201 (fun H locs I => ?_)
            obtain ⟨s33, es33⟩ : ∃ z, z = si s31 19 y32 := ⟨_, rfl⟩
            replace h := lt_e h es33
            replace I : Iv G (va_A (wM G ad sa) s0.heap.size) s0 H locs (wM G ad s33) := by rw [es33]; exact I
            refine lv_goto (tgt := 126) hx hb dX12_advance_204 (by decide) ?_
            exact ih _ h _ _ I ls (lv_sub hl [0] rfl)
  have C105 : ∀ (s : g_St) (z0 : Int32), f_M_advance_L105 fu s z0 = some ts → ∀ (H : Heap) (locs : List Loc), Iv G (va_A (wM G ad sa) s0.heap.size) s0 H locs (wM G ad s) → ∀ ls, lv_has ls 2 [(0, .ref (ad 0))] → W p l e { frames := 2, cells := 0, slots := 0, locals := 42 } s0 m args below meth c H locs 0 0 (QV G below (wM G ad sa) (wM G ad ts) args s0) (F0 m 105 ls [.int z0, .ref (ad 0)]) := by
    skip
    intro s z0 h H locs I ls hl
    unfold f_M_advance_L105 at h
    refine pM_value XX I dX12_advance_105 (fun H locs I => ?_)
    obtain ⟨s17, es17⟩ : ∃ z, z = si s 21 z0 := ⟨_, rfl⟩
    replace h := lt_e h es17
    replace I : Iv G (va_A (wM G ad sa) s0.heap.size) s0 H locs (wM G ad s17) := by rw [es17]; exact I
    refine lv_aload_n hx hb dX12_advance_108 rfl (lv_at hl 0 rfl) ?_
    refine gM_sort XX I dX12_advance_109 ?_
    refine lv_iconst (v := 3) hx hb dX12_advance_112 (by decide) ?_
    refine lv_icmp_ne (tgt := 126) hx hb dX12_advance_113 (by decide) (fun c1 => ?_) (fun c1 => ?_)
    · replace h := if_f h c1
      exact C126 fu _ h _ _ I ls (lv_sub hl [0] rfl)
    · replace h := if_t h c1
      refine lv_aload_n hx hb dX12_advance_116 rfl (lv_at hl 0 rfl) ?_
      refine lv_dup hx hb dX12_advance_117 rfl ?_
      refine gM_tokenEnds XX I dX12_advance_118 ?_
      refine lv_iconst (v := 1) hx hb dX12_advance_121 (by decide) ?_
      refine lv_iadd hx hb dX12_advance_122 ?_
      refine lv_topi (fun y18 ey18 => ?_)
      replace h := lt_e h ey18
      refine pM_tokenEnds XX I dX12_advance_123 (fun H locs I => ?_)
      obtain ⟨s19, es19⟩ : ∃ z, z = si s17 19 y18 := ⟨_, rfl⟩
      replace h := lt_e h es19
      replace I : Iv G (va_A (wM G ad sa) s0.heap.size) s0 H locs (wM G ad s19) := by rw [es19]; exact I
      exact C126 fu _ h _ _ I ls (lv_sub hl [0] rfl)
  have C83 : ∀ (s : g_St) (v1 : Int32) (z0 : Int32), f_M_advance_L83 fu s v1 z0 = some ts → ∀ (H : Heap) (locs : List Loc), Iv G (va_A (wM G ad sa) s0.heap.size) s0 H locs (wM G ad s) → ∀ ls, lv_has ls 2 [(0, .ref (ad 0)), (1, .int v1)] → W p l e { frames := 2, cells := 0, slots := 0, locals := 42 } s0 m args below meth c H locs 0 0 (QV G below (wM G ad sa) (wM G ad ts) args s0) (F0 m 83 ls [.int z0, .ref (ad 0)]) := by
    skip
    intro s v1 z0 h H locs I ls hl
    unfold f_M_advance_L83 at h
    refine pM_sort XX I dX12_advance_83 (fun H locs I => ?_)
    obtain ⟨s15, es15⟩ : ∃ z, z = si s 17 z0 := ⟨_, rfl⟩
    replace h := lt_e h es15
    replace I : Iv G (va_A (wM G ad sa) s0.heap.size) s0 H locs (wM G ad s15) := by rw [es15]; exact I
    refine lv_aload_n hx hb dX12_advance_86 rfl (lv_at hl 0 rfl) ?_
    refine lv_lconst (v := 0) hx hb dX12_advance_87 (by decide) ?_
    refine pM_word XX I dX12_advance_88 (fun H locs I => ?_)
    obtain ⟨s16, es16⟩ : ∃ z, z = sj s15 20 (0 : Int64) := ⟨_, rfl⟩
    replace h := lt_e h es16
    replace I : Iv G (va_A (wM G ad sa) s0.heap.size) s0 H locs (wM G ad s16) := by rw [es16]; exact I
    refine lv_aload_n hx hb dX12_advance_91 rfl (lv_at hl 0 rfl) ?_
    refine lv_aload_n hx hb dX12_advance_92 rfl (lv_at hl 0 rfl) ?_
    refine gM_sort XX I dX12_advance_93 ?_
    refine lv_iconst (v := 2) hx hb dX12_advance_96 (by decide) ?_
    refine lv_icmp_ne (tgt := 104) hx hb dX12_advance_97 (by decide) (fun c1 => ?_) (fun c1 => ?_)
    · replace h := if_f h c1
      refine lv_iload_n hx hb dX12_advance_104 rfl (lv_at hl 1 rfl) ?_
      exact C105 _ _ h _ _ I ls (lv_sub hl [0] rfl)
    · replace h := if_t h c1
      refine lv_iconst (v := 0) hx hb dX12_advance_100 (by decide) ?_
      refine lv_goto (tgt := 105) hx hb dX12_advance_101 (by decide) ?_
      exact C105 _ _ h _ _ I ls (lv_sub hl [0] rfl)
  have C8 : ∀ n : Nat, ∀ (s : g_St), f_M_advance_L8 fu n s = some ts → ∀ (H : Heap) (locs : List Loc), Iv G (va_A (wM G ad sa) s0.heap.size) s0 H locs (wM G ad s) → ∀ ls, lv_has ls 2 [(0, .ref (ad 0))] → W p l e { frames := 2, cells := 0, slots := 0, locals := 42 } s0 m args below meth c H locs 0 0 (QV G below (wM G ad sa) (wM G ad ts) args s0) (F0 m 8 ls []) := by
    intro n
    induction n with
    | zero => intro s h; exact absurd h (fun q => by cases q)
    | succ n ih =>
      intro s h H locs I ls hl
      rw [f_M_advance_L8] at h
      refine lv_aload_n hx hb dX12_advance_8 rfl (lv_at hl 0 rfl) ?_
      refine lv_aload_n hx hb dX12_advance_9 rfl (lv_at hl 0 rfl) ?_
      refine gM_begins XX I dX12_advance_10 ?_
      obtain ⟨r3, q4, h⟩ := bd1_some h
      refine wcall_i (rest := []) XX I hl.1 (c_M_byteAt l G OK ad s (gi s 18) r3 q4) kV_X12_117 (Rc.mk XX I (q0 := 0) (ci := 12) wM_o rfl) rfl rfl (Nat.le_of_ble_eq_true rfl) ⟨rfl, rfl, Nat.le_of_ble_eq_true rfl, Nat.le_of_ble_eq_true rfl⟩ ⟨Nat.zero_le _, Nat.zero_le _⟩ dX12_advance_13 (fun H locs hz5 I => ?_)
      refine lv_bipush (v := 32) hx hb dX12_advance_16 (by decide) ?_
      refine lv_icmp_ne (tgt := 34) hx hb dX12_advance_18 (by decide) (fun c1 => ?_) (fun c1 => ?_)
      · replace h := if_f h c1
        refine lv_aload_n hx hb dX12_advance_34 rfl (lv_at hl 0 rfl) ?_
        refine lv_aload_n hx hb dX12_advance_35 rfl (lv_at hl 0 rfl) ?_
        refine gM_begins XX I dX12_advance_36 ?_
        refine lv_topi (fun y6 ey6 => ?_)
        replace h := lt_e h ey6
        refine pM_tokenEnds XX I dX12_advance_39 (fun H locs I => ?_)
        obtain ⟨s7, es7⟩ : ∃ z, z = si s 19 y6 := ⟨_, rfl⟩
        replace h := lt_e h es7
        replace I : Iv G (va_A (wM G ad sa) s0.heap.size) s0 H locs (wM G ad s7) := by rw [es7]; exact I
        refine lv_aload_n hx hb dX12_advance_42 rfl (lv_at hl 0 rfl) ?_
        refine lv_aload_n hx hb dX12_advance_43 rfl (lv_at hl 0 rfl) ?_
        refine gM_begins XX I dX12_advance_44 ?_
        obtain ⟨r8, q9, h⟩ := bd1_some h
        refine wcall_i (rest := []) XX I hl.1 (c_M_byteAt l G OK ad s7 (gi s7 18) r8 q9) kV_X12_117 (Rc.mk XX I (q0 := 0) (ci := 12) wM_o rfl) rfl rfl (Nat.le_of_ble_eq_true rfl) ⟨rfl, rfl, Nat.le_of_ble_eq_true rfl, Nat.le_of_ble_eq_true rfl⟩ ⟨Nat.zero_le _, Nat.zero_le _⟩ dX12_advance_47 (fun H locs hz10 I => ?_)
        refine lv_istore_n (lv' := [(1, .int r8), (0, .ref (ad 0))]) hx hb dX12_advance_50 rfl hl (by decide) rfl (fun ls hl => ?_)
        refine lv_aload_n hx hb dX12_advance_51 rfl (lv_at hl 1 rfl) ?_
        refine lv_iload_n hx hb dX12_advance_52 rfl (lv_at hl 0 rfl) ?_
        refine lv_if_ge (tgt := 60) hx hb dX12_advance_53 (by decide) (fun c1 => ?_) (fun c1 => ?_)
        · replace h := if_t h c1
          refine lv_iload_n hx hb dX12_advance_60 rfl (lv_at hl 0 rfl) ?_
          refine scall_i (rest := [.ref (ad 0)]) XX I hl.1 (c_S_isLetter l G OK r8 _ rfl) kS_X12_121 rfl rfl (Nat.le_of_ble_eq_true rfl) ⟨rfl, rfl, Nat.le_of_ble_eq_true rfl, Nat.le_of_ble_eq_true rfl⟩ ⟨Nat.zero_le _, Nat.zero_le _⟩ dX12_advance_61 (fun H locs hz11 I => ?_)
          refine lv_if_eq (tgt := 71) hx hb dX12_advance_64 (by decide) (fun c1 => ?_) (fun c1 => ?_)
          · replace h := if_t h c1
            refine lv_iload_n hx hb dX12_advance_71 rfl (lv_at hl 0 rfl) ?_
            refine scall_i (rest := [.ref (ad 0)]) XX I hl.1 (c_S_isDigit l G OK r8 _ rfl) kS_X12_125 rfl rfl (Nat.le_of_ble_eq_true rfl) ⟨rfl, rfl, Nat.le_of_ble_eq_true rfl, Nat.le_of_ble_eq_true rfl⟩ ⟨Nat.zero_le _, Nat.zero_le _⟩ dX12_advance_72 (fun H locs hz12 I => ?_)
            refine lv_if_eq (tgt := 82) hx hb dX12_advance_75 (by decide) (fun c1 => ?_) (fun c1 => ?_)
            · replace h := if_t h c1
              refine lv_iconst (v := 3) hx hb dX12_advance_82 (by decide) ?_
              exact C83 _ _ _ h _ _ I ls (lv_sub hl [1, 0] rfl)
            · replace h := if_f h c1
              refine lv_iconst (v := 2) hx hb dX12_advance_78 (by decide) ?_
              refine lv_goto (tgt := 83) hx hb dX12_advance_79 (by decide) ?_
              exact C83 _ _ _ h _ _ I ls (lv_sub hl [1, 0] rfl)
          · replace h := if_f h c1
            refine lv_iconst (v := 1) hx hb dX12_advance_67 (by decide) ?_
            refine lv_goto (tgt := 83) hx hb dX12_advance_68 (by decide) ?_
            exact C83 _ _ _ h _ _ I ls (lv_sub hl [1, 0] rfl)
        · replace h := if_f h c1
          refine lv_iconst (v := 0) hx hb dX12_advance_56 (by decide) ?_
          refine lv_goto (tgt := 83) hx hb dX12_advance_57 (by decide) ?_
          exact C83 _ _ _ h _ _ I ls (lv_sub hl [1, 0] rfl)
      · replace h := if_t h c1
        refine lv_aload_n hx hb dX12_advance_21 rfl (lv_at hl 0 rfl) ?_
        refine lv_dup hx hb dX12_advance_22 rfl ?_
        refine gM_begins XX I dX12_advance_23 ?_
        refine lv_iconst (v := 1) hx hb dX12_advance_26 (by decide) ?_
        refine lv_iadd hx hb dX12_advance_27 ?_
        refine lv_topi (fun y13 ey13 => ?_)
        replace h := lt_e h ey13
        refine pM_begins XX I dX12_advance_28 (fun H locs I => ?_)
        obtain ⟨s14, es14⟩ : ∃ z, z = si s 18 y13 := ⟨_, rfl⟩
        replace h := lt_e h es14
        replace I : Iv G (va_A (wM G ad sa) s0.heap.size) s0 H locs (wM G ad s14) := by rw [es14]; exact I
        refine lv_goto (tgt := 8) hx hb dX12_advance_31 (by decide) ?_
        exact ih _ h _ _ I ls (lv_sub hl [0] rfl)
  unfold f_M_advance at h
  refine lv_aload_n hx hb dX12_advance_0 rfl (lv_at hl 0 rfl) ?_
  refine lv_aload_n hx hb dX12_advance_1 rfl (lv_at hl 0 rfl) ?_
  refine gM_tokenEnds XX I dX12_advance_2 ?_
  refine lv_topi (fun y1 ey1 => ?_)
  replace h := lt_e h ey1
  refine pM_begins XX I dX12_advance_5 (fun H locs I => ?_)
  obtain ⟨s2, es2⟩ : ∃ z, z = si sa 18 y1 := ⟨_, rfl⟩
  replace h := lt_e h es2
  replace I : Iv G (va_A (wM G ad sa) s0.heap.size) s0 H locs (wM G ad s2) := by rw [es2]; exact I
  exact C8 fu _ h _ _ I ls (lv_sub hl [0] rfl)
set_option maxHeartbeats 4000000 in
set_option maxRecDepth 100000 in
theorem c_M_isWord (l : Launch) (G : g_G) (OK : EOk G.2.2) (ad : Nat → Nat) (sa : g_St) (x1 : Int64) (r : Int32) (h : f_M_isWord sa x1 = r) : HI l G yX12_isWord (Cond.code yX12_isWord cX12_isWord 3 (some .boolean) :: gT) { frames := 0, cells := 0, slots := 0, locals := 0 } .boolean [.ref (ad 0), .long x1] (wM G ad sa) r (wM G ad sa) := by
  refine HI.mk (lv := [(0, .ref (ad 0)), (1, .long x1)]) OK (by decide) (Nat.le_of_ble_eq_true rfl) rfl ?_
  intro p e s0 m args below meth c ls XX hr I hl
  have hx := XX.x
  have hb := XX.b
  unfold f_M_isWord at h
  refine lv_aload_n hx hb dX12_isWord_0 rfl (lv_at hl 0 rfl) ?_
  refine gM_sort XX I dX12_isWord_1 ?_
  refine lv_iconst (v := 1) hx hb dX12_isWord_4 (by decide) ?_
  refine lv_icmp_ne (tgt := 21) hx hb dX12_isWord_5 (by decide) (fun c1 => ?_) (fun c1 => ?_)
  · replace h := if_f h c1
    refine lv_iconst (v := 0) hx hb dX12_isWord_21 (by decide) ?_
    subst h
    exact e_z XX hr I rfl rfl dX12_isWord_22
  · replace h := if_t h c1
    refine lv_aload_n hx hb dX12_isWord_8 rfl (lv_at hl 0 rfl) ?_
    refine gM_word XX I dX12_isWord_9 ?_
    refine lv_lload_n hx hb dX12_isWord_12 rfl (lv_at hl 1 rfl) ?_
    refine W.lcmp hx hb dX12_isWord_13 ?_
    refine lv_if_ne (tgt := 21) hx hb dX12_isWord_14 (by decide) (fun c1 => ?_) (fun c1 => ?_)
    · replace h := if_f h c1
      refine lv_iconst (v := 0) hx hb dX12_isWord_21 (by decide) ?_
      subst h
      exact e_z XX hr I rfl rfl dX12_isWord_22
    · replace h := if_t h c1
      refine lv_iconst (v := 1) hx hb dX12_isWord_17 (by decide) ?_
      refine lv_goto (tgt := 22) hx hb dX12_isWord_18 (by decide) ?_
      subst h
      exact e_z XX hr I rfl rfl dX12_isWord_22
set_option maxHeartbeats 4000000 in
set_option maxRecDepth 100000 in
theorem c_M_isMark (l : Launch) (G : g_G) (OK : EOk G.2.2) (ad : Nat → Nat) (sa : g_St) (x1 : Int32) (r : Int32) (h : f_M_isMark sa x1 = r) : HI l G yX12_isMark (Cond.code yX12_isMark cX12_isMark 2 (some .boolean) :: gT) { frames := 0, cells := 0, slots := 0, locals := 0 } .boolean [.ref (ad 0), .int x1] (wM G ad sa) r (wM G ad sa) := by
  refine HI.mk (lv := [(0, .ref (ad 0)), (1, .int x1)]) OK (by decide) (Nat.le_of_ble_eq_true rfl) rfl ?_
  intro p e s0 m args below meth c ls XX hr I hl
  have hx := XX.x
  have hb := XX.b
  unfold f_M_isMark at h
  refine lv_aload_n hx hb dX12_isMark_0 rfl (lv_at hl 0 rfl) ?_
  refine gM_sort XX I dX12_isMark_1 ?_
  refine lv_iconst (v := 3) hx hb dX12_isMark_4 (by decide) ?_
  refine lv_icmp_ne (tgt := 20) hx hb dX12_isMark_5 (by decide) (fun c1 => ?_) (fun c1 => ?_)
  · replace h := if_f h c1
    refine lv_iconst (v := 0) hx hb dX12_isMark_20 (by decide) ?_
    subst h
    exact e_z XX hr I rfl rfl dX12_isMark_21
  · replace h := if_t h c1
    refine lv_aload_n hx hb dX12_isMark_8 rfl (lv_at hl 0 rfl) ?_
    refine gM_value XX I dX12_isMark_9 ?_
    refine lv_iload_n hx hb dX12_isMark_12 rfl (lv_at hl 1 rfl) ?_
    refine lv_icmp_ne (tgt := 20) hx hb dX12_isMark_13 (by decide) (fun c1 => ?_) (fun c1 => ?_)
    · replace h := if_f h c1
      refine lv_iconst (v := 0) hx hb dX12_isMark_20 (by decide) ?_
      subst h
      exact e_z XX hr I rfl rfl dX12_isMark_21
    · replace h := if_t h c1
      refine lv_iconst (v := 1) hx hb dX12_isMark_16 (by decide) ?_
      refine lv_goto (tgt := 21) hx hb dX12_isMark_17 (by decide) ?_
      subst h
      exact e_z XX hr I rfl rfl dX12_isMark_21
theorem kV_X12_146 : KV RX12 146 RX12 yX12_isWord cX12_isWord 3 (some .boolean) 1 := KV.mk wd_1161 wd_1163 wd_1614 wd_13 wd_1164 (by decide +kernel)
set_option maxHeartbeats 4000000 in
set_option maxRecDepth 100000 in
theorem c_M_kindHere (l : Launch) (G : g_G) (OK : EOk G.2.2) (ad : Nat → Nat) (sa : g_St) (r : Int32) (h : f_M_kindHere sa = r) : HI l G yX12_kindHere (Cond.code yX12_kindHere cX12_kindHere 1 (some .int) :: gT) { frames := 1, cells := 0, slots := 0, locals := 22 } .int [.ref (ad 0)] (wM G ad sa) r (wM G ad sa) := by
  refine HI.mk (lv := [(0, .ref (ad 0))]) OK (by decide) (Nat.le_of_ble_eq_true rfl) rfl ?_
  intro p e s0 m args below meth c ls XX hr I hl
  have hx := XX.x
  have hb := XX.b
  unfold f_M_kindHere at h
  refine lv_aload_n hx hb dX12_kindHere_0 rfl (lv_at hl 0 rfl) ?_
  refine lv_ldc2 (v := 10135440) hx hb XX.o (XX.t _ wd_1160) dX12_kindHere_1 ?_
  refine wcall_i (rest := []) XX I hl.1 (c_M_isWord l G OK ad sa (10135440 : Int64) _ rfl) kV_X12_146 (Rc.mk XX I (q0 := 0) (ci := 12) wM_o rfl) rfl rfl (Nat.le_of_ble_eq_true rfl) ⟨rfl, rfl, Nat.le_of_ble_eq_true rfl, Nat.le_of_ble_eq_true rfl⟩ ⟨Nat.zero_le _, Nat.zero_le _⟩ dX12_kindHere_4 (fun H locs hz1 I => ?_)
  refine lv_if_eq (tgt := 14) hx hb dX12_kindHere_7 (by decide) (fun c1 => ?_) (fun c1 => ?_)
  · replace h := if_t h c1
    refine lv_aload_n hx hb dX12_kindHere_14 rfl (lv_at hl 0 rfl) ?_
    refine lv_ldc2 (v := 9454493) hx hb XX.o (XX.t _ wd_1165) dX12_kindHere_15 ?_
    refine wcall_i (rest := []) XX I hl.1 (c_M_isWord l G OK ad sa (9454493 : Int64) _ rfl) kV_X12_146 (Rc.mk XX I (q0 := 0) (ci := 12) wM_o rfl) rfl rfl (Nat.le_of_ble_eq_true rfl) ⟨rfl, rfl, Nat.le_of_ble_eq_true rfl, Nat.le_of_ble_eq_true rfl⟩ ⟨Nat.zero_le _, Nat.zero_le _⟩ dX12_kindHere_18 (fun H locs hz2 I => ?_)
    refine lv_if_eq (tgt := 28) hx hb dX12_kindHere_21 (by decide) (fun c1 => ?_) (fun c1 => ?_)
    · replace h := if_t h c1
      refine lv_aload_n hx hb dX12_kindHere_28 rfl (lv_at hl 0 rfl) ?_
      refine lv_ldc2 (v := 1503) hx hb XX.o (XX.t _ wd_1166) dX12_kindHere_29 ?_
      refine wcall_i (rest := []) XX I hl.1 (c_M_isWord l G OK ad sa (1503 : Int64) _ rfl) kV_X12_146 (Rc.mk XX I (q0 := 0) (ci := 12) wM_o rfl) rfl rfl (Nat.le_of_ble_eq_true rfl) ⟨rfl, rfl, Nat.le_of_ble_eq_true rfl, Nat.le_of_ble_eq_true rfl⟩ ⟨Nat.zero_le _, Nat.zero_le _⟩ dX12_kindHere_32 (fun H locs hz3 I => ?_)
      refine lv_if_eq (tgt := 42) hx hb dX12_kindHere_35 (by decide) (fun c1 => ?_) (fun c1 => ?_)
      · replace h := if_t h c1
        refine lv_aload_n hx hb dX12_kindHere_42 rfl (lv_at hl 0 rfl) ?_
        refine lv_ldc2 (v := 453701) hx hb XX.o (XX.t _ wd_1167) dX12_kindHere_43 ?_
        refine wcall_i (rest := []) XX I hl.1 (c_M_isWord l G OK ad sa (453701 : Int64) _ rfl) kV_X12_146 (Rc.mk XX I (q0 := 0) (ci := 12) wM_o rfl) rfl rfl (Nat.le_of_ble_eq_true rfl) ⟨rfl, rfl, Nat.le_of_ble_eq_true rfl, Nat.le_of_ble_eq_true rfl⟩ ⟨Nat.zero_le _, Nat.zero_le _⟩ dX12_kindHere_46 (fun H locs hz4 I => ?_)
        refine lv_if_eq (tgt := 56) hx hb dX12_kindHere_49 (by decide) (fun c1 => ?_) (fun c1 => ?_)
        · replace h := if_t h c1
          refine lv_aload_n hx hb dX12_kindHere_56 rfl (lv_at hl 0 rfl) ?_
          refine lv_ldc2 (v := 174869447) hx hb XX.o (XX.t _ wd_1168) dX12_kindHere_57 ?_
          refine wcall_i (rest := []) XX I hl.1 (c_M_isWord l G OK ad sa (174869447 : Int64) _ rfl) kV_X12_146 (Rc.mk XX I (q0 := 0) (ci := 12) wM_o rfl) rfl rfl (Nat.le_of_ble_eq_true rfl) ⟨rfl, rfl, Nat.le_of_ble_eq_true rfl, Nat.le_of_ble_eq_true rfl⟩ ⟨Nat.zero_le _, Nat.zero_le _⟩ dX12_kindHere_60 (fun H locs hz5 I => ?_)
          refine lv_if_eq (tgt := 70) hx hb dX12_kindHere_63 (by decide) (fun c1 => ?_) (fun c1 => ?_)
          · replace h := if_t h c1
            refine lv_aload_n hx hb dX12_kindHere_70 rfl (lv_at hl 0 rfl) ?_
            refine lv_ldc2 (v := 404923) hx hb XX.o (XX.t _ wd_1169) dX12_kindHere_71 ?_
            refine wcall_i (rest := []) XX I hl.1 (c_M_isWord l G OK ad sa (404923 : Int64) _ rfl) kV_X12_146 (Rc.mk XX I (q0 := 0) (ci := 12) wM_o rfl) rfl rfl (Nat.le_of_ble_eq_true rfl) ⟨rfl, rfl, Nat.le_of_ble_eq_true rfl, Nat.le_of_ble_eq_true rfl⟩ ⟨Nat.zero_le _, Nat.zero_le _⟩ dX12_kindHere_74 (fun H locs hz6 I => ?_)
            refine lv_if_eq (tgt := 84) hx hb dX12_kindHere_77 (by decide) (fun c1 => ?_) (fun c1 => ?_)
            · replace h := if_t h c1
              refine lv_iconst (v := (-1)) hx hb dX12_kindHere_84 (by decide) ?_
              subst h
              exact e_i rfl XX hr I rfl dX12_kindHere_85
            · replace h := if_f h c1
              refine lv_iconst (v := 5) hx hb dX12_kindHere_80 (by decide) ?_
              refine lv_goto (tgt := 85) hx hb dX12_kindHere_81 (by decide) ?_
              subst h
              exact e_i rfl XX hr I rfl dX12_kindHere_85
          · replace h := if_f h c1
            refine lv_iconst (v := 4) hx hb dX12_kindHere_66 (by decide) ?_
            refine lv_goto (tgt := 85) hx hb dX12_kindHere_67 (by decide) ?_
            subst h
            exact e_i rfl XX hr I rfl dX12_kindHere_85
        · replace h := if_f h c1
          refine lv_iconst (v := 3) hx hb dX12_kindHere_52 (by decide) ?_
          refine lv_goto (tgt := 85) hx hb dX12_kindHere_53 (by decide) ?_
          subst h
          exact e_i rfl XX hr I rfl dX12_kindHere_85
      · replace h := if_f h c1
        refine lv_iconst (v := 2) hx hb dX12_kindHere_38 (by decide) ?_
        refine lv_goto (tgt := 85) hx hb dX12_kindHere_39 (by decide) ?_
        subst h
        exact e_i rfl XX hr I rfl dX12_kindHere_85
    · replace h := if_f h c1
      refine lv_iconst (v := 1) hx hb dX12_kindHere_24 (by decide) ?_
      refine lv_goto (tgt := 85) hx hb dX12_kindHere_25 (by decide) ?_
      subst h
      exact e_i rfl XX hr I rfl dX12_kindHere_85
  · replace h := if_f h c1
    refine lv_iconst (v := 0) hx hb dX12_kindHere_10 (by decide) ?_
    refine lv_goto (tgt := 85) hx hb dX12_kindHere_11 (by decide) ?_
    subst h
    exact e_i rfl XX hr I rfl dX12_kindHere_85
theorem kV_X12_164 : KV RX12 164 RX12 yX12_advance cX12_advance 2 none 0 := KV.mk wd_1135 wd_1137 wd_1610 wd_13 wd_1138 (by decide +kernel)
set_option maxHeartbeats 4000000 in
set_option maxRecDepth 100000 in
theorem c_M_wantNumber (l : Launch) (G : g_G) (OK : EOk G.2.2) (ad : Nat → Nat) (fu : Nat) (sa : g_St) (x1 : Int32) (x2 : Int32) (r : Int32) (ts : g_St) (h : f_M_wantNumber fu sa x1 x2 = some (r, ts)) : HI l G yX12_wantNumber (Cond.code yX12_wantNumber cX12_wantNumber 4 (some .int) :: gT) { frames := 3, cells := 0, slots := 0, locals := 63 } .int [.ref (ad 0), .int x1, .int x2] (wM G ad sa) r (wM G ad ts) := by
  refine HI.mk (lv := [(0, .ref (ad 0)), (1, .int x1), (2, .int x2)]) OK (by decide) (Nat.le_of_ble_eq_true rfl) rfl ?_
  intro p e s0 m args below meth c ls XX hr I hl
  have hx := XX.x
  have hb := XX.b
  have C35 : ∀ (s : g_St) (v3 : Int32) (z0 : Int32), f_M_wantNumber_L35 fu s v3 z0 = some (r, ts) → ∀ (H : Heap) (locs : List Loc), Iv G (va_A (wM G ad sa) s0.heap.size) s0 H locs (wM G ad s) → ∀ ls, lv_has ls 4 [(0, .ref (ad 0)), (3, .int v3)] → narrow .boolean (.int z0) = .int z0 → W p l e { frames := 3, cells := 0, slots := 0, locals := 63 } s0 m args below meth c H locs 0 0 (QI G below .int r (wM G ad sa) (wM G ad ts) args s0) (F0 m 35 ls [.int z0, .ref (ad 0)]) := by
    skip
    intro s v3 z0 h H locs I ls hl hz0
    unfold f_M_wantNumber_L35 at h
    refine pM_good XX I (hz0) dX12_wantNumber_35 (fun H locs I => ?_)
    obtain ⟨s3, es3⟩ : ∃ z, z = si s 22 z0 := ⟨_, rfl⟩
    replace h := lt_e h es3
    replace I : Iv G (va_A (wM G ad sa) s0.heap.size) s0 H locs (wM G ad s3) := by rw [es3]; exact I
    refine lv_aload_n hx hb dX12_wantNumber_38 rfl (lv_at hl 0 rfl) ?_
    refine gM_good XX I dX12_wantNumber_39 ?_
    refine lv_if_eq (tgt := 49) hx hb dX12_wantNumber_42 (by decide) (fun c1 => ?_) (fun c1 => ?_)
    · replace h := if_t h c1
      refine lv_iload_n hx hb dX12_wantNumber_49 rfl (lv_at hl 1 rfl) ?_
      obtain ⟨rfl, rfl⟩ := some2 h
      exact e_i rfl XX hr I rfl dX12_wantNumber_50
    · replace h := if_f h c1
      refine lv_aload_n hx hb dX12_wantNumber_45 rfl (lv_at hl 0 rfl) ?_
      obtain ⟨s4, q5, h⟩ := bd1_some h
      refine wcall_v (rest := []) XX I hl.1 (c_M_advance l G OK ad fu s3 s4 q5) kV_X12_164 (Rc.mk XX I (q0 := 0) (ci := 12) wM_o rfl) rfl rfl (Nat.le_of_ble_eq_true rfl) ⟨rfl, rfl, Nat.le_of_ble_eq_true rfl, Nat.le_of_ble_eq_true rfl⟩ ⟨Nat.zero_le _, Nat.zero_le _⟩ dX12_wantNumber_46 (fun H locs I => ?_)
      refine lv_iload_n hx hb dX12_wantNumber_49 rfl (lv_at hl 1 rfl) ?_
      obtain ⟨rfl, rfl⟩ := some2 h
      exact e_i rfl XX hr I rfl dX12_wantNumber_50
  unfold f_M_wantNumber at h
  refine lv_aload_n hx hb dX12_wantNumber_0 rfl (lv_at hl 0 rfl) ?_
  refine gM_value XX I dX12_wantNumber_1 ?_
  refine lv_topi (fun y1 ey1 => ?_)
  replace h := lt_e h ey1
  refine lv_istore_n (lv' := [(3, .int y1), (0, .ref (ad 0)), (1, .int x1), (2, .int x2)]) hx hb dX12_wantNumber_4 rfl hl (by decide) rfl (fun ls hl => ?_)
  refine lv_aload_n hx hb dX12_wantNumber_5 rfl (lv_at hl 1 rfl) ?_
  refine lv_aload_n hx hb dX12_wantNumber_6 rfl (lv_at hl 1 rfl) ?_
  refine gM_good XX I dX12_wantNumber_7 ?_
  refine lv_if_eq (tgt := 34) hx hb dX12_wantNumber_10 (by decide) (fun c1 => ?_) (fun c1 => ?_)
  · replace h := if_t h c1
    refine lv_iconst (v := 0) hx hb dX12_wantNumber_34 (by decide) ?_
    exact C35 _ _ _ h _ _ I ls (lv_sub hl [1, 0] rfl) (rfl)
  · replace h := if_f h c1
    refine lv_aload_n hx hb dX12_wantNumber_13 rfl (lv_at hl 1 rfl) ?_
    refine gM_sort XX I dX12_wantNumber_14 ?_
    refine lv_iconst (v := 2) hx hb dX12_wantNumber_17 (by decide) ?_
    refine lv_icmp_ne (tgt := 34) hx hb dX12_wantNumber_18 (by decide) (fun c1 => ?_) (fun c1 => ?_)
    · replace h := if_f h c1
      refine lv_iconst (v := 0) hx hb dX12_wantNumber_34 (by decide) ?_
      exact C35 _ _ _ h _ _ I ls (lv_sub hl [1, 0] rfl) (rfl)
    · replace h := if_t h c1
      refine lv_iload_n hx hb dX12_wantNumber_21 rfl (lv_at hl 0 rfl) ?_
      refine lv_iload_n hx hb dX12_wantNumber_22 rfl (lv_at hl 2 rfl) ?_
      refine lv_iload_n hx hb dX12_wantNumber_23 rfl (lv_at hl 3 rfl) ?_
      refine scall_i (rest := [.ref (ad 0)]) XX I hl.1 (c_S_in l G OK y1 x1 x2 _ rfl) kS_X12_99 rfl rfl (Nat.le_of_ble_eq_true rfl) ⟨rfl, rfl, Nat.le_of_ble_eq_true rfl, Nat.le_of_ble_eq_true rfl⟩ ⟨Nat.zero_le _, Nat.zero_le _⟩ dX12_wantNumber_24 (fun H locs hz2 I => ?_)
      refine lv_if_eq (tgt := 34) hx hb dX12_wantNumber_27 (by decide) (fun c1 => ?_) (fun c1 => ?_)
      · replace h := if_t h c1
        refine lv_iconst (v := 0) hx hb dX12_wantNumber_34 (by decide) ?_
        exact C35 _ _ _ h _ _ I ls (lv_sub hl [1, 0] rfl) (rfl)
      · replace h := if_f h c1
        refine lv_iconst (v := 1) hx hb dX12_wantNumber_30 (by decide) ?_
        refine lv_goto (tgt := 35) hx hb dX12_wantNumber_31 (by decide) ?_
        exact C35 _ _ _ h _ _ I ls (lv_sub hl [1, 0] rfl) (rfl)
set_option maxHeartbeats 4000000 in
set_option maxRecDepth 100000 in
theorem c_M_wantWord (l : Launch) (G : g_G) (OK : EOk G.2.2) (ad : Nat → Nat) (fu : Nat) (sa : g_St) (x1 : Int64) (ts : g_St) (h : f_M_wantWord fu sa x1 = some ts) : HV l G yX12_wantWord (Cond.code yX12_wantWord cX12_wantWord 3 none :: gT) { frames := 3, cells := 0, slots := 0, locals := 63 } [.ref (ad 0), .long x1] (wM G ad sa) (wM G ad ts) := by
  refine HV.mk (lv := [(0, .ref (ad 0)), (1, .long x1)]) OK (by decide) (Nat.le_of_ble_eq_true rfl) rfl ?_
  intro p e s0 m args below meth c ls XX hr I hl
  have hx := XX.x
  have hb := XX.b
  have C20 : ∀ (s : g_St), f_M_wantWord_L20 fu s = some ts → ∀ (H : Heap) (locs : List Loc), Iv G (va_A (wM G ad sa) s0.heap.size) s0 H locs (wM G ad s) → ∀ ls, lv_has ls 3 [(0, .ref (ad 0))] → W p l e { frames := 3, cells := 0, slots := 0, locals := 63 } s0 m args below meth c H locs 0 0 (QV G below (wM G ad sa) (wM G ad ts) args s0) (F0 m 20 ls [.ref (ad 0)]) := by
    skip
    intro s h H locs I ls hl
    unfold f_M_wantWord_L20 at h
    refine lv_iconst (v := 0) hx hb dX12_wantWord_20 (by decide) ?_
    refine pM_good XX I (rfl) dX12_wantWord_21 (fun H locs I => ?_)
    obtain ⟨s6, es6⟩ : ∃ z, z = si s 22 (0 : Int32) := ⟨_, rfl⟩
    replace h := lt_e h es6
    replace I : Iv G (va_A (wM G ad sa) s0.heap.size) s0 H locs (wM G ad s6) := by rw [es6]; exact I
    refine lv_aload_n hx hb dX12_wantWord_24 rfl (lv_at hl 0 rfl) ?_
    refine gM_good XX I dX12_wantWord_25 ?_
    refine lv_if_eq (tgt := 35) hx hb dX12_wantWord_28 (by decide) (fun c1 => ?_) (fun c1 => ?_)
    · replace h := if_t h c1
      obtain rfl := some1 h
      exact e_v XX hr I dX12_wantWord_35
    · replace h := if_f h c1
      refine lv_aload_n hx hb dX12_wantWord_31 rfl (lv_at hl 0 rfl) ?_
      obtain ⟨s7, q8, h⟩ := bd1_some h
      refine wcall_v (rest := []) XX I hl.1 (c_M_advance l G OK ad fu s6 s7 q8) kV_X12_164 (Rc.mk XX I (q0 := 0) (ci := 12) wM_o rfl) rfl rfl (Nat.le_of_ble_eq_true rfl) ⟨rfl, rfl, Nat.le_of_ble_eq_true rfl, Nat.le_of_ble_eq_true rfl⟩ ⟨Nat.zero_le _, Nat.zero_le _⟩ dX12_wantWord_32 (fun H locs I => ?_)
      obtain rfl := some1 h
      exact e_v XX hr I dX12_wantWord_35
  unfold f_M_wantWord at h
  refine lv_aload_n hx hb dX12_wantWord_0 rfl (lv_at hl 0 rfl) ?_
  refine lv_aload_n hx hb dX12_wantWord_1 rfl (lv_at hl 0 rfl) ?_
  refine gM_good XX I dX12_wantWord_2 ?_
  refine lv_if_eq (tgt := 20) hx hb dX12_wantWord_5 (by decide) (fun c1 => ?_) (fun c1 => ?_)
  · replace h := if_t h c1
    exact C20 _ h _ _ I ls (lv_sub hl [0] rfl)
  · replace h := if_f h c1
    refine lv_aload_n hx hb dX12_wantWord_8 rfl (lv_at hl 0 rfl) ?_
    refine lv_lload_n hx hb dX12_wantWord_9 rfl (lv_at hl 1 rfl) ?_
    refine wcall_i (rest := [.ref (ad 0)]) XX I hl.1 (c_M_isWord l G OK ad sa x1 _ rfl) kV_X12_146 (Rc.mk XX I (q0 := 0) (ci := 12) wM_o rfl) rfl rfl (Nat.le_of_ble_eq_true rfl) ⟨rfl, rfl, Nat.le_of_ble_eq_true rfl, Nat.le_of_ble_eq_true rfl⟩ ⟨Nat.zero_le _, Nat.zero_le _⟩ dX12_wantWord_10 (fun H locs hz1 I => ?_)
    refine lv_if_eq (tgt := 20) hx hb dX12_wantWord_13 (by decide) (fun c1 => ?_) (fun c1 => ?_)
    · replace h := if_t h c1
      exact C20 _ h _ _ I ls (lv_sub hl [0] rfl)
    · replace h := if_f h c1
      refine lv_iconst (v := 1) hx hb dX12_wantWord_16 (by decide) ?_
      refine lv_goto (tgt := 21) hx hb dX12_wantWord_17 (by decide) ?_
      refine pM_good XX I (rfl) dX12_wantWord_21 (fun H locs I => ?_)
      obtain ⟨s2, es2⟩ : ∃ z, z = si sa 22 (1 : Int32) := ⟨_, rfl⟩
      replace h := lt_e h es2
      replace I : Iv G (va_A (wM G ad sa) s0.heap.size) s0 H locs (wM G ad s2) := by rw [es2]; exact I
      refine lv_aload_n hx hb dX12_wantWord_24 rfl (lv_at hl 0 rfl) ?_
      refine gM_good XX I dX12_wantWord_25 ?_
      refine lv_if_eq (tgt := 35) hx hb dX12_wantWord_28 (by decide) (fun c1 => ?_) (fun c1 => ?_)
      · replace h := if_t h c1
        obtain rfl := some1 h
        exact e_v XX hr I dX12_wantWord_35
      · replace h := if_f h c1
        refine lv_aload_n hx hb dX12_wantWord_31 rfl (lv_at hl 0 rfl) ?_
        obtain ⟨s3, q4, h⟩ := bd1_some h
        refine wcall_v (rest := []) XX I hl.1 (c_M_advance l G OK ad fu s2 s3 q4) kV_X12_164 (Rc.mk XX I (q0 := 0) (ci := 12) wM_o rfl) rfl rfl (Nat.le_of_ble_eq_true rfl) ⟨rfl, rfl, Nat.le_of_ble_eq_true rfl, Nat.le_of_ble_eq_true rfl⟩ ⟨Nat.zero_le _, Nat.zero_le _⟩ dX12_wantWord_32 (fun H locs I => ?_)
        obtain rfl := some1 h
        exact e_v XX hr I dX12_wantWord_35
theorem kV_X12_167 : KV RX12 167 RX12 yX12_wantNumber cX12_wantNumber 4 (some .int) 2 := KV.mk wd_1179 wd_1181 wd_1617 wd_13 wd_1182 (by decide +kernel)
set_option maxHeartbeats 4000000 in
set_option maxRecDepth 100000 in
theorem c_M_mayNumber (l : Launch) (G : g_G) (OK : EOk G.2.2) (ad : Nat → Nat) (fu : Nat) (sa : g_St) (x1 : Int64) (x3 : Int32) (x4 : Int32) (r : Int32) (ts : g_St) (h : f_M_mayNumber fu sa x1 x3 x4 = some (r, ts)) : HI l G yX12_mayNumber (Cond.code yX12_mayNumber cX12_mayNumber 5 (some .int) :: gT) { frames := 4, cells := 0, slots := 0, locals := 86 } .int [.ref (ad 0), .long x1, .int x3, .int x4] (wM G ad sa) r (wM G ad ts) := by
  refine HI.mk (lv := [(0, .ref (ad 0)), (1, .long x1), (3, .int x3), (4, .int x4)]) OK (by decide) (Nat.le_of_ble_eq_true rfl) rfl ?_
  intro p e s0 m args below meth c ls XX hr I hl
  have hx := XX.x
  have hb := XX.b
  unfold f_M_mayNumber at h
  refine lv_aload_n hx hb dX12_mayNumber_0 rfl (lv_at hl 0 rfl) ?_
  refine gM_good XX I dX12_mayNumber_1 ?_
  refine lv_if_eq (tgt := 15) hx hb dX12_mayNumber_4 (by decide) (fun c1 => ?_) (fun c1 => ?_)
  · replace h := if_t h c1
    refine lv_iload hx hb dX12_mayNumber_15 (lv_at hl 3 rfl) ?_
    obtain ⟨rfl, rfl⟩ := some2 h
    exact e_i rfl XX hr I rfl dX12_mayNumber_17
  · replace h := if_f h c1
    refine lv_aload_n hx hb dX12_mayNumber_7 rfl (lv_at hl 0 rfl) ?_
    refine lv_lload_n hx hb dX12_mayNumber_8 rfl (lv_at hl 1 rfl) ?_
    refine wcall_i (rest := []) XX I hl.1 (c_M_isWord l G OK ad sa x1 _ rfl) kV_X12_146 (Rc.mk XX I (q0 := 0) (ci := 12) wM_o rfl) rfl rfl (Nat.le_of_ble_eq_true rfl) ⟨rfl, rfl, Nat.le_of_ble_eq_true rfl, Nat.le_of_ble_eq_true rfl⟩ ⟨Nat.zero_le _, Nat.zero_le _⟩ dX12_mayNumber_9 (fun H locs hz1 I => ?_)
    refine lv_if_ne (tgt := 18) hx hb dX12_mayNumber_12 (by decide) (fun c1 => ?_) (fun c1 => ?_)
    · replace h := if_f h c1
      refine lv_aload_n hx hb dX12_mayNumber_18 rfl (lv_at hl 0 rfl) ?_
      obtain ⟨s2, q3, h⟩ := bd1_some h
      refine wcall_v (rest := []) XX I hl.1 (c_M_advance l G OK ad fu sa s2 q3) kV_X12_164 (Rc.mk XX I (q0 := 0) (ci := 12) wM_o rfl) rfl rfl (Nat.le_of_ble_eq_true rfl) ⟨rfl, rfl, Nat.le_of_ble_eq_true rfl, Nat.le_of_ble_eq_true rfl⟩ ⟨Nat.zero_le _, Nat.zero_le _⟩ dX12_mayNumber_19 (fun H locs I => ?_)
      refine lv_aload_n hx hb dX12_mayNumber_22 rfl (lv_at hl 0 rfl) ?_
      refine lv_iconst (v := 0) hx hb dX12_mayNumber_23 (by decide) ?_
      refine lv_iload_n hx hb dX12_mayNumber_24 rfl (lv_at hl 2 rfl) ?_
      obtain ⟨r5, s6, q7, h⟩ := bd2_some h
      refine wcall_i (rest := []) XX I hl.1 (c_M_wantNumber l G OK ad fu s2 (0 : Int32) x3 r5 s6 q7) kV_X12_167 (Rc.mk XX I (q0 := 0) (ci := 12) wM_o rfl) rfl rfl (Nat.le_of_ble_eq_true rfl) ⟨rfl, rfl, Nat.le_of_ble_eq_true rfl, Nat.le_of_ble_eq_true rfl⟩ ⟨Nat.zero_le _, Nat.zero_le _⟩ dX12_mayNumber_25 (fun H locs hz8 I => ?_)
      obtain ⟨rfl, rfl⟩ := some2 h
      exact e_i rfl XX hr I rfl dX12_mayNumber_28
    · replace h := if_t h c1
      refine lv_iload hx hb dX12_mayNumber_15 (lv_at hl 3 rfl) ?_
      obtain ⟨rfl, rfl⟩ := some2 h
      exact e_i rfl XX hr I rfl dX12_mayNumber_17
theorem kV_X12_171 : KV RX12 171 RX12 yX12_isMark cX12_isMark 2 (some .boolean) 1 := KV.mk wd_1192 wd_1194 wd_1620 wd_13 wd_1195 (by decide +kernel)
set_option maxHeartbeats 4000000 in
set_option maxRecDepth 100000 in
theorem c_M_wantEnd (l : Launch) (G : g_G) (OK : EOk G.2.2) (ad : Nat → Nat) (fu : Nat) (sa : g_St) (ts : g_St) (h : f_M_wantEnd fu sa = some ts) : HV l G yX12_wantEnd (Cond.code yX12_wantEnd cX12_wantEnd 1 none :: gT) { frames := 3, cells := 0, slots := 0, locals := 63 } [.ref (ad 0)] (wM G ad sa) (wM G ad ts) := by
  refine HV.mk (lv := [(0, .ref (ad 0))]) OK (by decide) (Nat.le_of_ble_eq_true rfl) rfl ?_
  intro p e s0 m args below meth c ls XX hr I hl
  have hx := XX.x
  have hb := XX.b
  have C21 : ∀ (s : g_St), f_M_wantEnd_L21 fu s = some ts → ∀ (H : Heap) (locs : List Loc), Iv G (va_A (wM G ad sa) s0.heap.size) s0 H locs (wM G ad s) → ∀ ls, lv_has ls 1 [(0, .ref (ad 0))] → W p l e { frames := 3, cells := 0, slots := 0, locals := 63 } s0 m args below meth c H locs 0 0 (QV G below (wM G ad sa) (wM G ad ts) args s0) (F0 m 21 ls [.ref (ad 0)]) := by
    skip
    intro s h H locs I ls hl
    unfold f_M_wantEnd_L21 at h
    refine lv_iconst (v := 0) hx hb dX12_wantEnd_21 (by decide) ?_
    refine pM_good XX I (rfl) dX12_wantEnd_22 (fun H locs I => ?_)
    obtain ⟨s6, es6⟩ : ∃ z, z = si s 22 (0 : Int32) := ⟨_, rfl⟩
    replace h := lt_e h es6
    replace I : Iv G (va_A (wM G ad sa) s0.heap.size) s0 H locs (wM G ad s6) := by rw [es6]; exact I
    refine lv_aload_n hx hb dX12_wantEnd_25 rfl (lv_at hl 0 rfl) ?_
    refine gM_good XX I dX12_wantEnd_26 ?_
    refine lv_if_eq (tgt := 36) hx hb dX12_wantEnd_29 (by decide) (fun c1 => ?_) (fun c1 => ?_)
    · replace h := if_t h c1
      obtain rfl := some1 h
      exact e_v XX hr I dX12_wantEnd_36
    · replace h := if_f h c1
      refine lv_aload_n hx hb dX12_wantEnd_32 rfl (lv_at hl 0 rfl) ?_
      obtain ⟨s7, q8, h⟩ := bd1_some h
      refine wcall_v (rest := []) XX I hl.1 (c_M_advance l G OK ad fu s6 s7 q8) kV_X12_164 (Rc.mk XX I (q0 := 0) (ci := 12) wM_o rfl) rfl rfl (Nat.le_of_ble_eq_true rfl) ⟨rfl, rfl, Nat.le_of_ble_eq_true rfl, Nat.le_of_ble_eq_true rfl⟩ ⟨Nat.zero_le _, Nat.zero_le _⟩ dX12_wantEnd_33 (fun H locs I => ?_)
      obtain rfl := some1 h
      exact e_v XX hr I dX12_wantEnd_36
  unfold f_M_wantEnd at h
  refine lv_aload_n hx hb dX12_wantEnd_0 rfl (lv_at hl 0 rfl) ?_
  refine lv_aload_n hx hb dX12_wantEnd_1 rfl (lv_at hl 0 rfl) ?_
  refine gM_good XX I dX12_wantEnd_2 ?_
  refine lv_if_eq (tgt := 21) hx hb dX12_wantEnd_5 (by decide) (fun c1 => ?_) (fun c1 => ?_)
  · replace h := if_t h c1
    exact C21 _ h _ _ I ls (lv_sub hl [0] rfl)
  · replace h := if_f h c1
    refine lv_aload_n hx hb dX12_wantEnd_8 rfl (lv_at hl 0 rfl) ?_
    refine lv_bipush (v := 59) hx hb dX12_wantEnd_9 (by decide) ?_
    refine wcall_i (rest := [.ref (ad 0)]) XX I hl.1 (c_M_isMark l G OK ad sa (59 : Int32) _ rfl) kV_X12_171 (Rc.mk XX I (q0 := 0) (ci := 12) wM_o rfl) rfl rfl (Nat.le_of_ble_eq_true rfl) ⟨rfl, rfl, Nat.le_of_ble_eq_true rfl, Nat.le_of_ble_eq_true rfl⟩ ⟨Nat.zero_le _, Nat.zero_le _⟩ dX12_wantEnd_11 (fun H locs hz1 I => ?_)
    refine lv_if_eq (tgt := 21) hx hb dX12_wantEnd_14 (by decide) (fun c1 => ?_) (fun c1 => ?_)
    · replace h := if_t h c1
      exact C21 _ h _ _ I ls (lv_sub hl [0] rfl)
    · replace h := if_f h c1
      refine lv_iconst (v := 1) hx hb dX12_wantEnd_17 (by decide) ?_
      refine lv_goto (tgt := 22) hx hb dX12_wantEnd_18 (by decide) ?_
      refine pM_good XX I (rfl) dX12_wantEnd_22 (fun H locs I => ?_)
      obtain ⟨s2, es2⟩ : ∃ z, z = si sa 22 (1 : Int32) := ⟨_, rfl⟩
      replace h := lt_e h es2
      replace I : Iv G (va_A (wM G ad sa) s0.heap.size) s0 H locs (wM G ad s2) := by rw [es2]; exact I
      refine lv_aload_n hx hb dX12_wantEnd_25 rfl (lv_at hl 0 rfl) ?_
      refine gM_good XX I dX12_wantEnd_26 ?_
      refine lv_if_eq (tgt := 36) hx hb dX12_wantEnd_29 (by decide) (fun c1 => ?_) (fun c1 => ?_)
      · replace h := if_t h c1
        obtain rfl := some1 h
        exact e_v XX hr I dX12_wantEnd_36
      · replace h := if_f h c1
        refine lv_aload_n hx hb dX12_wantEnd_32 rfl (lv_at hl 0 rfl) ?_
        obtain ⟨s3, q4, h⟩ := bd1_some h
        refine wcall_v (rest := []) XX I hl.1 (c_M_advance l G OK ad fu s2 s3 q4) kV_X12_164 (Rc.mk XX I (q0 := 0) (ci := 12) wM_o rfl) rfl rfl (Nat.le_of_ble_eq_true rfl) ⟨rfl, rfl, Nat.le_of_ble_eq_true rfl, Nat.le_of_ble_eq_true rfl⟩ ⟨Nat.zero_le _, Nat.zero_le _⟩ dX12_wantEnd_33 (fun H locs I => ?_)
        obtain rfl := some1 h
        exact e_v XX hr I dX12_wantEnd_36
theorem kV_X12_179 : KV RX12 179 RX12 yX12_wantWord cX12_wantWord 3 none 1 := KV.mk wd_1175 wd_1177 wd_1616 wd_13 wd_1178 (by decide +kernel)
theorem kV_X12_183 : KV RX12 183 RX12 yX12_mayNumber cX12_mayNumber 5 (some .int) 3 := KV.mk wd_1183 wd_1185 wd_1618 wd_13 wd_1186 (by decide +kernel)
theorem kV_X12_189 : KV RX12 189 RX12 yX12_wantEnd cX12_wantEnd 1 none 0 := KV.mk wd_1188 wd_1190 wd_1619 wd_13 wd_1191 (by decide +kernel)
set_option maxHeartbeats 4000000 in
set_option maxRecDepth 100000 in
theorem c_M_wantPerson (l : Launch) (G : g_G) (OK : EOk G.2.2) (ad : Nat → Nat) (fu : Nat) (sa : g_St) (x1 : Int32) (ts : g_St) (h : f_M_wantPerson fu sa x1 = some ts) : HV l G yX12_wantPerson (Cond.code yX12_wantPerson cX12_wantPerson 5 none :: gT) { frames := 5, cells := 0, slots := 0, locals := 110 } [.ref (ad 0), .int x1] (wM G ad sa) (wM G ad ts) := by
  refine HV.mk (lv := [(0, .ref (ad 0)), (1, .int x1)]) OK (by decide) (Nat.le_of_ble_eq_true rfl) rfl ?_
  intro p e s0 m args below meth c ls XX hr I hl
  have hx := XX.x
  have hb := XX.b
  have C29 : ∀ (s : g_St) (v1 : Int32), f_M_wantPerson_L29 fu s v1 = some ts → ∀ (H : Heap) (locs : List Loc), Iv G (va_A (wM G ad sa) s0.heap.size) s0 H locs (wM G ad s) → ∀ ls, lv_has ls 5 [(0, .ref (ad 0)), (1, .int v1)] → W p l e { frames := 5, cells := 0, slots := 0, locals := 110 } s0 m args below meth c H locs 0 0 (QV G below (wM G ad sa) (wM G ad ts) args s0) (F0 m 29 ls []) := by
    skip
    intro s v1 h H locs I ls hl
    unfold f_M_wantPerson_L29 at h
    refine lv_aload_n hx hb dX12_wantPerson_29 rfl (lv_at hl 0 rfl) ?_
    refine lv_ldc2 (v := 923) hx hb XX.o (XX.t _ wd_1174) dX12_wantPerson_30 ?_
    obtain ⟨s9, q10, h⟩ := bd1_some h
    refine wcall_v (rest := []) XX I hl.1 (c_M_wantWord l G OK ad fu s (923 : Int64) s9 q10) kV_X12_179 (Rc.mk XX I (q0 := 0) (ci := 12) wM_o rfl) rfl rfl (Nat.le_of_ble_eq_true rfl) ⟨rfl, rfl, Nat.le_of_ble_eq_true rfl, Nat.le_of_ble_eq_true rfl⟩ ⟨Nat.zero_le _, Nat.zero_le _⟩ dX12_wantPerson_33 (fun H locs I => ?_)
    refine lv_aload_n hx hb dX12_wantPerson_36 rfl (lv_at hl 0 rfl) ?_
    refine lv_iconst (v := 0) hx hb dX12_wantPerson_37 (by decide) ?_
    refine lv_bipush (v := 99) hx hb dX12_wantPerson_38 (by decide) ?_
    obtain ⟨r12, s13, q14, h⟩ := bd2_some h
    refine wcall_i (rest := []) XX I hl.1 (c_M_wantNumber l G OK ad fu s9 (0 : Int32) (99 : Int32) r12 s13 q14) kV_X12_167 (Rc.mk XX I (q0 := 0) (ci := 12) wM_o rfl) rfl rfl (Nat.le_of_ble_eq_true rfl) ⟨rfl, rfl, Nat.le_of_ble_eq_true rfl, Nat.le_of_ble_eq_true rfl⟩ ⟨Nat.zero_le _, Nat.zero_le _⟩ dX12_wantPerson_40 (fun H locs hz15 I => ?_)
    refine lv_istore_n (lv' := [(2, .int r12), (0, .ref (ad 0)), (1, .int v1)]) hx hb dX12_wantPerson_43 rfl hl (by decide) rfl (fun ls hl => ?_)
    refine lv_aload_n hx hb dX12_wantPerson_44 rfl (lv_at hl 1 rfl) ?_
    refine lv_ldc2 (v := 1503) hx hb XX.o (XX.t _ wd_1166) dX12_wantPerson_45 ?_
    refine lv_sipush (v := 255) hx hb dX12_wantPerson_48 (by decide) ?_
    refine lv_iconst (v := 0) hx hb dX12_wantPerson_51 (by decide) ?_
    obtain ⟨r16, s17, q18, h⟩ := bd2_some h
    refine wcall_i (rest := []) XX I hl.1 (c_M_mayNumber l G OK ad fu s13 (1503 : Int64) (255 : Int32) (0 : Int32) r16 s17 q18) kV_X12_183 (Rc.mk XX I (q0 := 0) (ci := 12) wM_o rfl) rfl rfl (Nat.le_of_ble_eq_true rfl) ⟨rfl, rfl, Nat.le_of_ble_eq_true rfl, Nat.le_of_ble_eq_true rfl⟩ ⟨Nat.zero_le _, Nat.zero_le _⟩ dX12_wantPerson_52 (fun H locs hz19 I => ?_)
    refine lv_istore_n (lv' := [(3, .int r16), (2, .int r12), (0, .ref (ad 0)), (1, .int v1)]) hx hb dX12_wantPerson_55 rfl hl (by decide) rfl (fun ls hl => ?_)
    refine lv_aload_n hx hb dX12_wantPerson_56 rfl (lv_at hl 2 rfl) ?_
    refine lv_ldc2 (v := 286651) hx hb XX.o (XX.t _ wd_1187) dX12_wantPerson_57 ?_
    refine lv_bipush (v := 9) hx hb dX12_wantPerson_60 (by decide) ?_
    refine lv_iconst (v := 1) hx hb dX12_wantPerson_62 (by decide) ?_
    obtain ⟨r20, s21, q22, h⟩ := bd2_some h
    refine wcall_i (rest := []) XX I hl.1 (c_M_mayNumber l G OK ad fu s17 (286651 : Int64) (9 : Int32) (1 : Int32) r20 s21 q22) kV_X12_183 (Rc.mk XX I (q0 := 0) (ci := 12) wM_o rfl) rfl rfl (Nat.le_of_ble_eq_true rfl) ⟨rfl, rfl, Nat.le_of_ble_eq_true rfl, Nat.le_of_ble_eq_true rfl⟩ ⟨Nat.zero_le _, Nat.zero_le _⟩ dX12_wantPerson_63 (fun H locs hz23 I => ?_)
    refine lv_istore (lv' := [(4, .int r20), (3, .int r16), (2, .int r12), (0, .ref (ad 0)), (1, .int v1)]) hx hb dX12_wantPerson_66 hl (by decide) rfl (fun ls hl => ?_)
    refine lv_aload_n hx hb dX12_wantPerson_68 rfl (lv_at hl 3 rfl) ?_
    obtain ⟨s24, q25, h⟩ := bd1_some h
    refine wcall_v (rest := []) XX I hl.1 (c_M_wantEnd l G OK ad fu s21 s24 q25) kV_X12_189 (Rc.mk XX I (q0 := 0) (ci := 12) wM_o rfl) rfl rfl (Nat.le_of_ble_eq_true rfl) ⟨rfl, rfl, Nat.le_of_ble_eq_true rfl, Nat.le_of_ble_eq_true rfl⟩ ⟨Nat.zero_le _, Nat.zero_le _⟩ dX12_wantPerson_69 (fun H locs I => ?_)
    refine lv_aload_n hx hb dX12_wantPerson_72 rfl (lv_at hl 3 rfl) ?_
    refine gM_good XX I dX12_wantPerson_73 ?_
    refine lv_if_eq (tgt := 144) hx hb dX12_wantPerson_76 (by decide) (fun c1 => ?_) (fun c1 => ?_)
    · replace h := if_t h c1
      obtain rfl := some1 h
      exact e_v XX hr I dX12_wantPerson_144
    · replace h := if_f h c1
      refine lv_aload_n hx hb dX12_wantPerson_79 rfl (lv_at hl 3 rfl) ?_
      refine gM_freshPerson XX I dX12_wantPerson_80 ?_
      refine lv_iconst (v := 4) hx hb dX12_wantPerson_83 (by decide) ?_
      refine lv_aload_n hx hb dX12_wantPerson_84 rfl (lv_at hl 3 rfl) ?_
      refine gM_freshPeople XX I dX12_wantPerson_85 ?_
      refine lv_imul hx hb dX12_wantPerson_88 ?_
      refine lv_iload_n hx hb dX12_wantPerson_89 rfl (lv_at hl 4 rfl) ?_
      obtain ⟨g27, h⟩ := gd_some h
      refine r_iast XX I 12 (aM_freshPerson) (sM_freshPerson) g27 dX12_wantPerson_90 (fun H locs I => ?_)
      obtain ⟨s28, es28⟩ : ∃ z, z = sr s24 25 ((4 : Int32) * (gi s24 23)) v1 := ⟨_, rfl⟩
      replace h := lt_e h es28
      replace I : Iv G (va_A (wM G ad sa) s0.heap.size) s0 H locs (wM G ad s28) := by rw [es28]; exact I
      refine lv_aload_n hx hb dX12_wantPerson_91 rfl (lv_at hl 3 rfl) ?_
      refine gM_freshPerson XX I dX12_wantPerson_92 ?_
      refine lv_iconst (v := 4) hx hb dX12_wantPerson_95 (by decide) ?_
      refine lv_aload_n hx hb dX12_wantPerson_96 rfl (lv_at hl 3 rfl) ?_
      refine gM_freshPeople XX I dX12_wantPerson_97 ?_
      refine lv_imul hx hb dX12_wantPerson_100 ?_
      refine lv_iconst (v := 1) hx hb dX12_wantPerson_101 (by decide) ?_
      refine lv_iadd hx hb dX12_wantPerson_102 ?_
      refine lv_iload_n hx hb dX12_wantPerson_103 rfl (lv_at hl 1 rfl) ?_
      obtain ⟨g29, h⟩ := gd_some h
      refine r_iast XX I 12 (aM_freshPerson) (sM_freshPerson) g29 dX12_wantPerson_104 (fun H locs I => ?_)
      obtain ⟨s30, es30⟩ : ∃ z, z = sr s28 25 (((4 : Int32) * (gi s28 23)) + (1 : Int32)) r16 := ⟨_, rfl⟩
      replace h := lt_e h es30
      replace I : Iv G (va_A (wM G ad sa) s0.heap.size) s0 H locs (wM G ad s30) := by rw [es30]; exact I
      refine lv_aload_n hx hb dX12_wantPerson_105 rfl (lv_at hl 3 rfl) ?_
      refine gM_freshPerson XX I dX12_wantPerson_106 ?_
      refine lv_iconst (v := 4) hx hb dX12_wantPerson_109 (by decide) ?_
      refine lv_aload_n hx hb dX12_wantPerson_110 rfl (lv_at hl 3 rfl) ?_
      refine gM_freshPeople XX I dX12_wantPerson_111 ?_
      refine lv_imul hx hb dX12_wantPerson_114 ?_
      refine lv_iconst (v := 2) hx hb dX12_wantPerson_115 (by decide) ?_
      refine lv_iadd hx hb dX12_wantPerson_116 ?_
      refine lv_iload_n hx hb dX12_wantPerson_117 rfl (lv_at hl 2 rfl) ?_
      obtain ⟨g31, h⟩ := gd_some h
      refine r_iast XX I 12 (aM_freshPerson) (sM_freshPerson) g31 dX12_wantPerson_118 (fun H locs I => ?_)
      obtain ⟨s32, es32⟩ : ∃ z, z = sr s30 25 (((4 : Int32) * (gi s30 23)) + (2 : Int32)) r12 := ⟨_, rfl⟩
      replace h := lt_e h es32
      replace I : Iv G (va_A (wM G ad sa) s0.heap.size) s0 H locs (wM G ad s32) := by rw [es32]; exact I
      refine lv_aload_n hx hb dX12_wantPerson_119 rfl (lv_at hl 3 rfl) ?_
      refine gM_freshPerson XX I dX12_wantPerson_120 ?_
      refine lv_iconst (v := 4) hx hb dX12_wantPerson_123 (by decide) ?_
      refine lv_aload_n hx hb dX12_wantPerson_124 rfl (lv_at hl 3 rfl) ?_
      refine gM_freshPeople XX I dX12_wantPerson_125 ?_
      refine lv_imul hx hb dX12_wantPerson_128 ?_
      refine lv_iconst (v := 3) hx hb dX12_wantPerson_129 (by decide) ?_
      refine lv_iadd hx hb dX12_wantPerson_130 ?_
      refine lv_iload hx hb dX12_wantPerson_131 (lv_at hl 0 rfl) ?_
      obtain ⟨g33, h⟩ := gd_some h
      refine r_iast XX I 12 (aM_freshPerson) (sM_freshPerson) g33 dX12_wantPerson_133 (fun H locs I => ?_)
      obtain ⟨s34, es34⟩ : ∃ z, z = sr s32 25 (((4 : Int32) * (gi s32 23)) + (3 : Int32)) r20 := ⟨_, rfl⟩
      replace h := lt_e h es34
      replace I : Iv G (va_A (wM G ad sa) s0.heap.size) s0 H locs (wM G ad s34) := by rw [es34]; exact I
      refine lv_aload_n hx hb dX12_wantPerson_134 rfl (lv_at hl 3 rfl) ?_
      refine lv_dup hx hb dX12_wantPerson_135 rfl ?_
      refine gM_freshPeople XX I dX12_wantPerson_136 ?_
      refine lv_iconst (v := 1) hx hb dX12_wantPerson_139 (by decide) ?_
      refine lv_iadd hx hb dX12_wantPerson_140 ?_
      refine lv_topi (fun y35 ey35 => ?_)
      replace h := lt_e h ey35
      refine pM_freshPeople XX I dX12_wantPerson_141 (fun H locs I => ?_)
      obtain ⟨s36, es36⟩ : ∃ z, z = si s34 23 y35 := ⟨_, rfl⟩
      replace h := lt_e h es36
      replace I : Iv G (va_A (wM G ad sa) s0.heap.size) s0 H locs (wM G ad s36) := by rw [es36]; exact I
      obtain rfl := some1 h
      exact e_v XX hr I dX12_wantPerson_144
  unfold f_M_wantPerson at h
  refine lv_aload_n hx hb dX12_wantPerson_0 rfl (lv_at hl 0 rfl) ?_
  refine lv_aload_n hx hb dX12_wantPerson_1 rfl (lv_at hl 0 rfl) ?_
  refine gM_freshPeople XX I dX12_wantPerson_2 ?_
  refine lv_bipush (v := 6) hx hb dX12_wantPerson_5 (by decide) ?_
  refine lv_icmp_ge (tgt := 14) hx hb dX12_wantPerson_7 (by decide) (fun c1 => ?_) (fun c1 => ?_)
  · replace h := if_t h c1
    refine lv_iconst (v := 0) hx hb dX12_wantPerson_14 (by decide) ?_
    refine pM_good XX I (rfl) dX12_wantPerson_15 (fun H locs I => ?_)
    obtain ⟨s1, es1⟩ : ∃ z, z = si sa 22 (0 : Int32) := ⟨_, rfl⟩
    replace h := lt_e h es1
    replace I : Iv G (va_A (wM G ad sa) s0.heap.size) s0 H locs (wM G ad s1) := by rw [es1]; exact I
    refine lv_aload_n hx hb dX12_wantPerson_18 rfl (lv_at hl 0 rfl) ?_
    refine gM_good XX I dX12_wantPerson_19 ?_
    refine lv_if_eq (tgt := 29) hx hb dX12_wantPerson_22 (by decide) (fun c1 => ?_) (fun c1 => ?_)
    · replace h := if_t h c1
      exact C29 _ _ h _ _ I ls (lv_sub hl [0, 1] rfl)
    · replace h := if_f h c1
      refine lv_aload_n hx hb dX12_wantPerson_25 rfl (lv_at hl 0 rfl) ?_
      obtain ⟨s2, q3, h⟩ := bd1_some h
      refine wcall_v (rest := []) XX I hl.1 (c_M_advance l G OK ad fu s1 s2 q3) kV_X12_164 (Rc.mk XX I (q0 := 0) (ci := 12) wM_o rfl) rfl rfl (Nat.le_of_ble_eq_true rfl) ⟨rfl, rfl, Nat.le_of_ble_eq_true rfl, Nat.le_of_ble_eq_true rfl⟩ ⟨Nat.zero_le _, Nat.zero_le _⟩ dX12_wantPerson_26 (fun H locs I => ?_)
      exact C29 _ _ h _ _ I ls (lv_sub hl [0, 1] rfl)
  · replace h := if_f h c1
    refine lv_iconst (v := 1) hx hb dX12_wantPerson_10 (by decide) ?_
    refine lv_goto (tgt := 15) hx hb dX12_wantPerson_11 (by decide) ?_
    refine pM_good XX I (rfl) dX12_wantPerson_15 (fun H locs I => ?_)
    obtain ⟨s5, es5⟩ : ∃ z, z = si sa 22 (1 : Int32) := ⟨_, rfl⟩
    replace h := lt_e h es5
    replace I : Iv G (va_A (wM G ad sa) s0.heap.size) s0 H locs (wM G ad s5) := by rw [es5]; exact I
    refine lv_aload_n hx hb dX12_wantPerson_18 rfl (lv_at hl 0 rfl) ?_
    refine gM_good XX I dX12_wantPerson_19 ?_
    refine lv_if_eq (tgt := 29) hx hb dX12_wantPerson_22 (by decide) (fun c1 => ?_) (fun c1 => ?_)
    · replace h := if_t h c1
      exact C29 _ _ h _ _ I ls (lv_sub hl [0, 1] rfl)
    · replace h := if_f h c1
      refine lv_aload_n hx hb dX12_wantPerson_25 rfl (lv_at hl 0 rfl) ?_
      obtain ⟨s6, q7, h⟩ := bd1_some h
      refine wcall_v (rest := []) XX I hl.1 (c_M_advance l G OK ad fu s5 s6 q7) kV_X12_164 (Rc.mk XX I (q0 := 0) (ci := 12) wM_o rfl) rfl rfl (Nat.le_of_ble_eq_true rfl) ⟨rfl, rfl, Nat.le_of_ble_eq_true rfl, Nat.le_of_ble_eq_true rfl⟩ ⟨Nat.zero_le _, Nat.zero_le _⟩ dX12_wantPerson_26 (fun H locs I => ?_)
      exact C29 _ _ h _ _ I ls (lv_sub hl [0, 1] rfl)
set_option maxHeartbeats 4000000 in
set_option maxRecDepth 100000 in
theorem c_M_wantWorths (l : Launch) (G : g_G) (OK : EOk G.2.2) (ad : Nat → Nat) (fu : Nat) (sa : g_St) (ts : g_St) (h : f_M_wantWorths fu sa = some ts) : HV l G yX12_wantWorths (Cond.code yX12_wantWorths cX12_wantWorths 5 none :: gT) { frames := 4, cells := 0, slots := 0, locals := 86 } [.ref (ad 0)] (wM G ad sa) (wM G ad ts) := by
  refine HV.mk (lv := [(0, .ref (ad 0))]) OK (by decide) (Nat.le_of_ble_eq_true rfl) rfl ?_
  intro p e s0 m args below meth c ls XX hr I hl
  have hx := XX.x
  have hb := XX.b
  have C107 : ∀ (k7 : g_St → Int32 → Int32 → Option (g_St)), (∀ (s : g_St) (v1 : Int32) (v2 : Int32), k7 s v1 v2 = some ts → ∀ (H : Heap) (locs : List Loc), Iv G (va_A (wM G ad sa) s0.heap.size) s0 H locs (wM G ad s) → ∀ ls, lv_has ls 5 [(0, .ref (ad 0)), (1, .int v1), (2, .int v2)] → W p l e { frames := 4, cells := 0, slots := 0, locals := 86 } s0 m args below meth c H locs 0 0 (QV G below (wM G ad sa) (wM G ad ts) args s0) (F0 m 7 ls [])) → ∀ (s : g_St) (v1 : Int32), f_M_wantWorths_L107 fu k7 s v1 = some ts → ∀ (H : Heap) (locs : List Loc), Iv G (va_A (wM G ad sa) s0.heap.size) s0 H locs (wM G ad s) → ∀ ls, lv_has ls 5 [(0, .ref (ad 0)), (1, .int v1)] → W p l e { frames := 4, cells := 0, slots := 0, locals := 86 } s0 m args below meth c H locs 0 0 (QV G below (wM G ad sa) (wM G ad ts) args s0) (F0 m 107 ls []) := by
    intro k7 hk7
    intro s v1 h H locs I ls hl
    unfold f_M_wantWorths_L107 at h
    obtain ⟨y16, ey16⟩ : ∃ z : Int32, z = v1 + (1 : Int32) := ⟨_, rfl⟩
    replace h := lt_e h ey16
    refine lv_iinc (v := y16) (lv' := [(1, .int y16), (0, .ref (ad 0))]) hx hb dX12_wantWorths_107 hl (k := 1) rfl (by rw [ey16]; rfl) (by decide) rfl (fun ls hl => ?_)
    refine lv_aload_n hx hb dX12_wantWorths_110 rfl (lv_at hl 1 rfl) ?_
    refine gM_good XX I dX12_wantWorths_111 ?_
    refine lv_if_eq (tgt := 130) hx hb dX12_wantWorths_114 (by decide) (fun c1 => ?_) (fun c1 => ?_)
    · replace h := if_t h c1
      refine lv_iconst (v := 0) hx hb dX12_wantWorths_130 (by decide) ?_
      refine lv_istore_n (lv' := [(2, .int (0 : Int32)), (1, .int y16), (0, .ref (ad 0))]) hx hb dX12_wantWorths_131 rfl hl (by decide) rfl (fun ls hl => ?_)
      refine lv_iload_n hx hb dX12_wantWorths_132 rfl (lv_at hl 0 rfl) ?_
      refine lv_if_eq (tgt := 140) hx hb dX12_wantWorths_133 (by decide) (fun c1 => ?_) (fun c1 => absurd c1 (by decide))
      refine lv_goto (tgt := 7) hx hb dX12_wantWorths_140 (by decide) ?_
      exact hk7 _ _ _ h _ _ I ls (lv_sub hl [2, 1, 0] rfl)
    · replace h := if_f h c1
      refine lv_aload_n hx hb dX12_wantWorths_117 rfl (lv_at hl 1 rfl) ?_
      refine lv_bipush (v := 44) hx hb dX12_wantWorths_118 (by decide) ?_
      refine wcall_i (rest := []) XX I hl.1 (c_M_isMark l G OK ad s (44 : Int32) _ rfl) kV_X12_171 (Rc.mk XX I (q0 := 0) (ci := 12) wM_o rfl) rfl rfl (Nat.le_of_ble_eq_true rfl) ⟨rfl, rfl, Nat.le_of_ble_eq_true rfl, Nat.le_of_ble_eq_true rfl⟩ ⟨Nat.zero_le _, Nat.zero_le _⟩ dX12_wantWorths_120 (fun H locs hz17 I => ?_)
      refine lv_if_eq (tgt := 130) hx hb dX12_wantWorths_123 (by decide) (fun c1 => ?_) (fun c1 => ?_)
      · replace h := if_t h c1
        refine lv_iconst (v := 0) hx hb dX12_wantWorths_130 (by decide) ?_
        refine lv_istore_n (lv' := [(2, .int (0 : Int32)), (1, .int y16), (0, .ref (ad 0))]) hx hb dX12_wantWorths_131 rfl hl (by decide) rfl (fun ls hl => ?_)
        refine lv_iload_n hx hb dX12_wantWorths_132 rfl (lv_at hl 0 rfl) ?_
        refine lv_if_eq (tgt := 140) hx hb dX12_wantWorths_133 (by decide) (fun c1 => ?_) (fun c1 => absurd c1 (by decide))
        refine lv_goto (tgt := 7) hx hb dX12_wantWorths_140 (by decide) ?_
        exact hk7 _ _ _ h _ _ I ls (lv_sub hl [2, 1, 0] rfl)
      · replace h := if_f h c1
        refine lv_iconst (v := 1) hx hb dX12_wantWorths_126 (by decide) ?_
        refine lv_goto (tgt := 131) hx hb dX12_wantWorths_127 (by decide) ?_
        refine lv_istore_n (lv' := [(2, .int (1 : Int32)), (1, .int y16), (0, .ref (ad 0))]) hx hb dX12_wantWorths_131 rfl hl (by decide) rfl (fun ls hl => ?_)
        refine lv_iload_n hx hb dX12_wantWorths_132 rfl (lv_at hl 0 rfl) ?_
        refine lv_if_eq (tgt := 140) hx hb dX12_wantWorths_133 (by decide) (fun c1 => absurd c1 (by decide)) (fun c1 => ?_)
        refine lv_aload_n hx hb dX12_wantWorths_136 rfl (lv_at hl 2 rfl) ?_
        obtain ⟨s18, q19, h⟩ := bd1_some h
        refine wcall_v (rest := []) XX I hl.1 (c_M_advance l G OK ad fu s s18 q19) kV_X12_164 (Rc.mk XX I (q0 := 0) (ci := 12) wM_o rfl) rfl rfl (Nat.le_of_ble_eq_true rfl) ⟨rfl, rfl, Nat.le_of_ble_eq_true rfl, Nat.le_of_ble_eq_true rfl⟩ ⟨Nat.zero_le _, Nat.zero_le _⟩ dX12_wantWorths_137 (fun H locs I => ?_)
        refine lv_goto (tgt := 7) hx hb dX12_wantWorths_140 (by decide) ?_
        exact hk7 _ _ _ h _ _ I ls (lv_sub hl [2, 1, 0] rfl)
  have C65 : ∀ (k7 : g_St → Int32 → Int32 → Option (g_St)), (∀ (s : g_St) (v1 : Int32) (v2 : Int32), k7 s v1 v2 = some ts → ∀ (H : Heap) (locs : List Loc), Iv G (va_A (wM G ad sa) s0.heap.size) s0 H locs (wM G ad s) → ∀ ls, lv_has ls 5 [(0, .ref (ad 0)), (1, .int v1), (2, .int v2)] → W p l e { frames := 4, cells := 0, slots := 0, locals := 86 } s0 m args below meth c H locs 0 0 (QV G below (wM G ad sa) (wM G ad ts) args s0) (F0 m 7 ls [])) → ∀ (s : g_St) (v1 : Int32) (v3 : Int32), f_M_wantWorths_L65 fu k7 s v1 v3 = some ts → ∀ (H : Heap) (locs : List Loc), Iv G (va_A (wM G ad sa) s0.heap.size) s0 H locs (wM G ad s) → ∀ ls, lv_has ls 5 [(0, .ref (ad 0)), (1, .int v1), (3, .int v3)] → W p l e { frames := 4, cells := 0, slots := 0, locals := 86 } s0 m args below meth c H locs 0 0 (QV G below (wM G ad sa) (wM G ad ts) args s0) (F0 m 65 ls []) := by
    intro k7 hk7
    intro s v1 v3 h H locs I ls hl
    unfold f_M_wantWorths_L65 at h
    refine lv_aload_n hx hb dX12_wantWorths_65 rfl (lv_at hl 0 rfl) ?_
    refine lv_iconst (v := 0) hx hb dX12_wantWorths_66 (by decide) ?_
    refine lv_bipush (v := 9) hx hb dX12_wantWorths_67 (by decide) ?_
    obtain ⟨r7, s8, q9, h⟩ := bd2_some h
    refine wcall_i (rest := []) XX I hl.1 (c_M_wantNumber l G OK ad fu s (0 : Int32) (9 : Int32) r7 s8 q9) kV_X12_167 (Rc.mk XX I (q0 := 0) (ci := 12) wM_o rfl) rfl rfl (Nat.le_of_ble_eq_true rfl) ⟨rfl, rfl, Nat.le_of_ble_eq_true rfl, Nat.le_of_ble_eq_true rfl⟩ ⟨Nat.zero_le _, Nat.zero_le _⟩ dX12_wantWorths_69 (fun H locs hz10 I => ?_)
    refine lv_istore (lv' := [(4, .int r7), (0, .ref (ad 0)), (1, .int v1), (3, .int v3)]) hx hb dX12_wantWorths_72 hl (by decide) rfl (fun ls hl => ?_)
    refine lv_aload_n hx hb dX12_wantWorths_74 rfl (lv_at hl 1 rfl) ?_
    refine gM_good XX I dX12_wantWorths_75 ?_
    refine lv_if_eq (tgt := 107) hx hb dX12_wantWorths_78 (by decide) (fun c1 => ?_) (fun c1 => ?_)
    · replace h := if_t h c1
      exact C107 k7 hk7 _ _ h _ _ I ls (lv_sub hl [1, 2] rfl)
    · replace h := if_f h c1
      refine lv_aload_n hx hb dX12_wantWorths_81 rfl (lv_at hl 1 rfl) ?_
      refine gM_freshWorth XX I dX12_wantWorths_82 ?_
      refine lv_bipush (v := 6) hx hb dX12_wantWorths_85 (by decide) ?_
      refine lv_aload_n hx hb dX12_wantWorths_87 rfl (lv_at hl 1 rfl) ?_
      refine gM_freshProposals XX I dX12_wantWorths_88 ?_
      refine lv_imul hx hb dX12_wantWorths_91 ?_
      refine lv_iload_n hx hb dX12_wantWorths_92 rfl (lv_at hl 2 rfl) ?_
      refine lv_iadd hx hb dX12_wantWorths_93 ?_
      refine lv_iload_n hx hb dX12_wantWorths_94 rfl (lv_at hl 3 rfl) ?_
      refine lv_if_eq (tgt := 104) hx hb dX12_wantWorths_95 (by decide) (fun c1 => ?_) (fun c1 => ?_)
      · replace h := if_t h c1
        refine lv_iload hx hb dX12_wantWorths_104 (lv_at hl 0 rfl) ?_
        obtain ⟨g11, h⟩ := gd_some h
        refine r_iast XX I 14 (aM_freshWorth) (sM_freshWorth) g11 dX12_wantWorths_106 (fun H locs I => ?_)
        obtain ⟨s12, es12⟩ : ∃ z, z = sr s8 27 (((6 : Int32) * (gi s8 24)) + v1) r7 := ⟨_, rfl⟩
        replace h := lt_e h es12
        replace I : Iv G (va_A (wM G ad sa) s0.heap.size) s0 H locs (wM G ad s12) := by rw [es12]; exact I
        exact C107 k7 hk7 _ _ h _ _ I ls (lv_sub hl [1, 2] rfl)
      · replace h := if_f h c1
        refine lv_iload hx hb dX12_wantWorths_98 (lv_at hl 0 rfl) ?_
        refine lv_ineg hx hb dX12_wantWorths_100 ?_
        refine lv_goto (tgt := 106) hx hb dX12_wantWorths_101 (by decide) ?_
        refine lv_topi (fun y13 ey13 => ?_)
        replace h := lt_e h ey13
        obtain ⟨g14, h⟩ := gd_some h
        refine r_iast XX I 14 (aM_freshWorth) (sM_freshWorth) g14 dX12_wantWorths_106 (fun H locs I => ?_)
        obtain ⟨s15, es15⟩ : ∃ z, z = sr s8 27 (((6 : Int32) * (gi s8 24)) + v1) y13 := ⟨_, rfl⟩
        replace h := lt_e h es15
        replace I : Iv G (va_A (wM G ad sa) s0.heap.size) s0 H locs (wM G ad s15) := by rw [es15]; exact I
        exact C107 k7 hk7 _ _ h _ _ I ls (lv_sub hl [1, 2] rfl)
  have C32 : ∀ (k7 : g_St → Int32 → Int32 → Option (g_St)), (∀ (s : g_St) (v1 : Int32) (v2 : Int32), k7 s v1 v2 = some ts → ∀ (H : Heap) (locs : List Loc), Iv G (va_A (wM G ad sa) s0.heap.size) s0 H locs (wM G ad s) → ∀ ls, lv_has ls 5 [(0, .ref (ad 0)), (1, .int v1), (2, .int v2)] → W p l e { frames := 4, cells := 0, slots := 0, locals := 86 } s0 m args below meth c H locs 0 0 (QV G below (wM G ad sa) (wM G ad ts) args s0) (F0 m 7 ls [])) → ∀ (s : g_St) (v1 : Int32) (z0 : Int32), f_M_wantWorths_L32 fu k7 s v1 z0 = some ts → ∀ (H : Heap) (locs : List Loc), Iv G (va_A (wM G ad sa) s0.heap.size) s0 H locs (wM G ad s) → ∀ ls, lv_has ls 5 [(0, .ref (ad 0)), (1, .int v1)] → narrow .boolean (.int z0) = .int z0 → W p l e { frames := 4, cells := 0, slots := 0, locals := 86 } s0 m args below meth c H locs 0 0 (QV G below (wM G ad sa) (wM G ad ts) args s0) (F0 m 32 ls [.int z0, .ref (ad 0)]) := by
    intro k7 hk7
    intro s v1 z0 h H locs I ls hl hz0
    unfold f_M_wantWorths_L32 at h
    refine pM_good XX I (hz0) dX12_wantWorths_32 (fun H locs I => ?_)
    obtain ⟨s2, es2⟩ : ∃ z, z = si s 22 z0 := ⟨_, rfl⟩
    replace h := lt_e h es2
    replace I : Iv G (va_A (wM G ad sa) s0.heap.size) s0 H locs (wM G ad s2) := by rw [es2]; exact I
    refine lv_aload_n hx hb dX12_wantWorths_35 rfl (lv_at hl 0 rfl) ?_
    refine gM_good XX I dX12_wantWorths_36 ?_
    refine lv_if_eq (tgt := 55) hx hb dX12_wantWorths_39 (by decide) (fun c1 => ?_) (fun c1 => ?_)
    · replace h := if_t h c1
      refine lv_iconst (v := 0) hx hb dX12_wantWorths_55 (by decide) ?_
      refine lv_istore_n (lv' := [(3, .int (0 : Int32)), (0, .ref (ad 0)), (1, .int v1)]) hx hb dX12_wantWorths_56 rfl hl (by decide) rfl (fun ls hl => ?_)
      refine lv_iload_n hx hb dX12_wantWorths_57 rfl (lv_at hl 0 rfl) ?_
      refine lv_if_eq (tgt := 65) hx hb dX12_wantWorths_58 (by decide) (fun c1 => ?_) (fun c1 => absurd c1 (by decide))
      exact C65 k7 hk7 _ _ _ h _ _ I ls (lv_sub hl [1, 2, 0] rfl)
    · replace h := if_f h c1
      refine lv_aload_n hx hb dX12_wantWorths_42 rfl (lv_at hl 0 rfl) ?_
      refine lv_bipush (v := 45) hx hb dX12_wantWorths_43 (by decide) ?_
      refine wcall_i (rest := []) XX I hl.1 (c_M_isMark l G OK ad s2 (45 : Int32) _ rfl) kV_X12_171 (Rc.mk XX I (q0 := 0) (ci := 12) wM_o rfl) rfl rfl (Nat.le_of_ble_eq_true rfl) ⟨rfl, rfl, Nat.le_of_ble_eq_true rfl, Nat.le_of_ble_eq_true rfl⟩ ⟨Nat.zero_le _, Nat.zero_le _⟩ dX12_wantWorths_45 (fun H locs hz3 I => ?_)
      refine lv_if_eq (tgt := 55) hx hb dX12_wantWorths_48 (by decide) (fun c1 => ?_) (fun c1 => ?_)
      · replace h := if_t h c1
        refine lv_iconst (v := 0) hx hb dX12_wantWorths_55 (by decide) ?_
        refine lv_istore_n (lv' := [(3, .int (0 : Int32)), (0, .ref (ad 0)), (1, .int v1)]) hx hb dX12_wantWorths_56 rfl hl (by decide) rfl (fun ls hl => ?_)
        refine lv_iload_n hx hb dX12_wantWorths_57 rfl (lv_at hl 0 rfl) ?_
        refine lv_if_eq (tgt := 65) hx hb dX12_wantWorths_58 (by decide) (fun c1 => ?_) (fun c1 => absurd c1 (by decide))
        exact C65 k7 hk7 _ _ _ h _ _ I ls (lv_sub hl [1, 2, 0] rfl)
      · replace h := if_f h c1
        refine lv_iconst (v := 1) hx hb dX12_wantWorths_51 (by decide) ?_
        refine lv_goto (tgt := 56) hx hb dX12_wantWorths_52 (by decide) ?_
        refine lv_istore_n (lv' := [(3, .int (1 : Int32)), (0, .ref (ad 0)), (1, .int v1)]) hx hb dX12_wantWorths_56 rfl hl (by decide) rfl (fun ls hl => ?_)
        refine lv_iload_n hx hb dX12_wantWorths_57 rfl (lv_at hl 0 rfl) ?_
        refine lv_if_eq (tgt := 65) hx hb dX12_wantWorths_58 (by decide) (fun c1 => absurd c1 (by decide)) (fun c1 => ?_)
        refine lv_aload_n hx hb dX12_wantWorths_61 rfl (lv_at hl 1 rfl) ?_
        obtain ⟨s4, q5, h⟩ := bd1_some h
        refine wcall_v (rest := []) XX I hl.1 (c_M_advance l G OK ad fu s2 s4 q5) kV_X12_164 (Rc.mk XX I (q0 := 0) (ci := 12) wM_o rfl) rfl rfl (Nat.le_of_ble_eq_true rfl) ⟨rfl, rfl, Nat.le_of_ble_eq_true rfl, Nat.le_of_ble_eq_true rfl⟩ ⟨Nat.zero_le _, Nat.zero_le _⟩ dX12_wantWorths_62 (fun H locs I => ?_)
        exact C65 k7 hk7 _ _ _ h _ _ I ls (lv_sub hl [1, 2, 0] rfl)
  have C7 : ∀ n : Nat, ∀ (s : g_St) (v1 : Int32) (v2 : Int32), f_M_wantWorths_L7 fu n s v1 v2 = some ts → ∀ (H : Heap) (locs : List Loc), Iv G (va_A (wM G ad sa) s0.heap.size) s0 H locs (wM G ad s) → ∀ ls, lv_has ls 5 [(0, .ref (ad 0)), (1, .int v1), (2, .int v2)] → W p l e { frames := 4, cells := 0, slots := 0, locals := 86 } s0 m args below meth c H locs 0 0 (QV G below (wM G ad sa) (wM G ad ts) args s0) (F0 m 7 ls []) := by
    intro n
    induction n with
    | zero => intro s v1 v2 h; exact absurd h (fun q => by cases q)
    | succ n ih =>
      intro s v1 v2 h H locs I ls hl
      rw [f_M_wantWorths_L7] at h
      refine lv_aload_n hx hb dX12_wantWorths_7 rfl (lv_at hl 0 rfl) ?_
      refine gM_good XX I dX12_wantWorths_8 ?_
      refine lv_if_eq (tgt := 143) hx hb dX12_wantWorths_11 (by decide) (fun c1 => ?_) (fun c1 => ?_)
      · replace h := if_t h c1
        obtain rfl := some1 h
        exact e_v XX hr I dX12_wantWorths_143
      · replace h := if_f h c1
        refine lv_iload_n hx hb dX12_wantWorths_14 rfl (lv_at hl 2 rfl) ?_
        refine lv_if_eq (tgt := 143) hx hb dX12_wantWorths_15 (by decide) (fun c1 => ?_) (fun c1 => ?_)
        · replace h := if_t h c1
          obtain rfl := some1 h
          exact e_v XX hr I dX12_wantWorths_143
        · replace h := if_f h c1
          refine lv_aload_n hx hb dX12_wantWorths_18 rfl (lv_at hl 0 rfl) ?_
          refine lv_iload_n hx hb dX12_wantWorths_19 rfl (lv_at hl 1 rfl) ?_
          refine lv_aload_n hx hb dX12_wantWorths_20 rfl (lv_at hl 0 rfl) ?_
          refine gM_freshPeople XX I dX12_wantWorths_21 ?_
          refine lv_icmp_ge (tgt := 31) hx hb dX12_wantWorths_24 (by decide) (fun c1 => ?_) (fun c1 => ?_)
          · replace h := if_t h c1
            refine lv_iconst (v := 0) hx hb dX12_wantWorths_31 (by decide) ?_
            exact C32 (f_M_wantWorths_L7 fu n) ih _ _ _ h _ _ I ls (lv_sub hl [0, 1] rfl) (rfl)
          · replace h := if_f h c1
            refine lv_iconst (v := 1) hx hb dX12_wantWorths_27 (by decide) ?_
            refine lv_goto (tgt := 32) hx hb dX12_wantWorths_28 (by decide) ?_
            exact C32 (f_M_wantWorths_L7 fu n) ih _ _ _ h _ _ I ls (lv_sub hl [0, 1] rfl) (rfl)
  unfold f_M_wantWorths at h
  refine lv_iconst (v := 0) hx hb dX12_wantWorths_0 (by decide) ?_
  refine lv_istore_n (lv' := [(1, .int (0 : Int32)), (0, .ref (ad 0))]) hx hb dX12_wantWorths_1 rfl hl (by decide) rfl (fun ls hl => ?_)
  refine lv_aload_n hx hb dX12_wantWorths_2 rfl (lv_at hl 1 rfl) ?_
  refine gM_good XX I dX12_wantWorths_3 ?_
  refine lv_topi (fun y1 ey1 => ?_)
  replace h := lt_e h ey1
  refine lv_istore_n (lv' := [(2, .int y1), (1, .int (0 : Int32)), (0, .ref (ad 0))]) hx hb dX12_wantWorths_6 rfl hl (by decide) rfl (fun ls hl => ?_)
  exact C7 fu _ _ _ h _ _ I ls (lv_sub hl [2, 1, 0] rfl)
theorem kV_X12_197 : KV RX12 197 RX12 yX12_wantWorths cX12_wantWorths 5 none 0 := KV.mk wd_1202 wd_1204 wd_1622 wd_13 wd_1205 (by decide +kernel)
set_option maxHeartbeats 4000000 in
set_option maxRecDepth 100000 in
theorem c_M_wantProposal (l : Launch) (G : g_G) (OK : EOk G.2.2) (ad : Nat → Nat) (fu : Nat) (sa : g_St) (ts : g_St) (h : f_M_wantProposal fu sa = some ts) : HV l G yX12_wantProposal (Cond.code yX12_wantProposal cX12_wantProposal 3 none :: gT) { frames := 5, cells := 0, slots := 0, locals := 110 } [.ref (ad 0)] (wM G ad sa) (wM G ad ts) := by
  refine HV.mk (lv := [(0, .ref (ad 0))]) OK (by decide) (Nat.le_of_ble_eq_true rfl) rfl ?_
  intro p e s0 m args below meth c ls XX hr I hl
  have hx := XX.x
  have hb := XX.b
  have C98 : ∀ (s : g_St) (v1 : Int32), f_M_wantProposal_L98 fu s v1 = some ts → ∀ (H : Heap) (locs : List Loc), Iv G (va_A (wM G ad sa) s0.heap.size) s0 H locs (wM G ad s) → ∀ ls, lv_has ls 3 [(0, .ref (ad 0)), (1, .int v1)] → W p l e { frames := 5, cells := 0, slots := 0, locals := 110 } s0 m args below meth c H locs 0 0 (QV G below (wM G ad sa) (wM G ad ts) args s0) (F0 m 98 ls []) := by
    skip
    intro s v1 h H locs I ls hl
    unfold f_M_wantProposal_L98 at h
    refine lv_aload_n hx hb dX12_wantProposal_98 rfl (lv_at hl 0 rfl) ?_
    obtain ⟨s23, q24, h⟩ := bd1_some h
    refine wcall_v (rest := []) XX I hl.1 (c_M_wantEnd l G OK ad fu s s23 q24) kV_X12_189 (Rc.mk XX I (q0 := 0) (ci := 12) wM_o rfl) rfl rfl (Nat.le_of_ble_eq_true rfl) ⟨rfl, rfl, Nat.le_of_ble_eq_true rfl, Nat.le_of_ble_eq_true rfl⟩ ⟨Nat.zero_le _, Nat.zero_le _⟩ dX12_wantProposal_99 (fun H locs I => ?_)
    refine lv_aload_n hx hb dX12_wantProposal_102 rfl (lv_at hl 0 rfl) ?_
    refine gM_good XX I dX12_wantProposal_103 ?_
    refine lv_if_eq (tgt := 129) hx hb dX12_wantProposal_106 (by decide) (fun c1 => ?_) (fun c1 => ?_)
    · replace h := if_t h c1
      obtain rfl := some1 h
      exact e_v XX hr I dX12_wantProposal_129
    · replace h := if_f h c1
      refine lv_aload_n hx hb dX12_wantProposal_109 rfl (lv_at hl 0 rfl) ?_
      refine gM_freshWeight XX I dX12_wantProposal_110 ?_
      refine lv_aload_n hx hb dX12_wantProposal_113 rfl (lv_at hl 0 rfl) ?_
      refine gM_freshProposals XX I dX12_wantProposal_114 ?_
      refine lv_iload_n hx hb dX12_wantProposal_117 rfl (lv_at hl 1 rfl) ?_
      obtain ⟨g26, h⟩ := gd_some h
      refine r_iast XX I 13 (aM_freshWeight) (sM_freshWeight) g26 dX12_wantProposal_118 (fun H locs I => ?_)
      obtain ⟨s27, es27⟩ : ∃ z, z = sr s23 26 (gi s23 24) v1 := ⟨_, rfl⟩
      replace h := lt_e h es27
      replace I : Iv G (va_A (wM G ad sa) s0.heap.size) s0 H locs (wM G ad s27) := by rw [es27]; exact I
      refine lv_aload_n hx hb dX12_wantProposal_119 rfl (lv_at hl 0 rfl) ?_
      refine lv_dup hx hb dX12_wantProposal_120 rfl ?_
      refine gM_freshProposals XX I dX12_wantProposal_121 ?_
      refine lv_iconst (v := 1) hx hb dX12_wantProposal_124 (by decide) ?_
      refine lv_iadd hx hb dX12_wantProposal_125 ?_
      refine lv_topi (fun y28 ey28 => ?_)
      replace h := lt_e h ey28
      refine pM_freshProposals XX I dX12_wantProposal_126 (fun H locs I => ?_)
      obtain ⟨s29, es29⟩ : ∃ z, z = si s27 24 y28 := ⟨_, rfl⟩
      replace h := lt_e h es29
      replace I : Iv G (va_A (wM G ad sa) s0.heap.size) s0 H locs (wM G ad s29) := by rw [es29]; exact I
      obtain rfl := some1 h
      exact e_v XX hr I dX12_wantProposal_129
  have C73 : ∀ (s : g_St) (v1 : Int32), f_M_wantProposal_L73 fu s v1 = some ts → ∀ (H : Heap) (locs : List Loc), Iv G (va_A (wM G ad sa) s0.heap.size) s0 H locs (wM G ad s) → ∀ ls, lv_has ls 3 [(0, .ref (ad 0)), (1, .int v1)] → W p l e { frames := 5, cells := 0, slots := 0, locals := 110 } s0 m args below meth c H locs 0 0 (QV G below (wM G ad sa) (wM G ad ts) args s0) (F0 m 73 ls []) := by
    skip
    intro s v1 h H locs I ls hl
    unfold f_M_wantProposal_L73 at h
    refine lv_aload_n hx hb dX12_wantProposal_73 rfl (lv_at hl 0 rfl) ?_
    refine gM_good XX I dX12_wantProposal_74 ?_
    refine lv_if_eq (tgt := 98) hx hb dX12_wantProposal_77 (by decide) (fun c1 => ?_) (fun c1 => ?_)
    · replace h := if_t h c1
      exact C98 _ _ h _ _ I ls (lv_sub hl [0, 1] rfl)
    · replace h := if_f h c1
      refine lv_aload_n hx hb dX12_wantProposal_80 rfl (lv_at hl 0 rfl) ?_
      refine lv_ldc2 (v := 12532058) hx hb XX.o (XX.t _ wd_1201) dX12_wantProposal_81 ?_
      refine wcall_i (rest := []) XX I hl.1 (c_M_isWord l G OK ad s (12532058 : Int64) _ rfl) kV_X12_146 (Rc.mk XX I (q0 := 0) (ci := 12) wM_o rfl) rfl rfl (Nat.le_of_ble_eq_true rfl) ⟨rfl, rfl, Nat.le_of_ble_eq_true rfl, Nat.le_of_ble_eq_true rfl⟩ ⟨Nat.zero_le _, Nat.zero_le _⟩ dX12_wantProposal_84 (fun H locs hz16 I => ?_)
      refine lv_if_eq (tgt := 98) hx hb dX12_wantProposal_87 (by decide) (fun c1 => ?_) (fun c1 => ?_)
      · replace h := if_t h c1
        exact C98 _ _ h _ _ I ls (lv_sub hl [0, 1] rfl)
      · replace h := if_f h c1
        refine lv_aload_n hx hb dX12_wantProposal_90 rfl (lv_at hl 0 rfl) ?_
        obtain ⟨s17, q18, h⟩ := bd1_some h
        refine wcall_v (rest := []) XX I hl.1 (c_M_advance l G OK ad fu s s17 q18) kV_X12_164 (Rc.mk XX I (q0 := 0) (ci := 12) wM_o rfl) rfl rfl (Nat.le_of_ble_eq_true rfl) ⟨rfl, rfl, Nat.le_of_ble_eq_true rfl, Nat.le_of_ble_eq_true rfl⟩ ⟨Nat.zero_le _, Nat.zero_le _⟩ dX12_wantProposal_91 (fun H locs I => ?_)
        refine lv_aload_n hx hb dX12_wantProposal_94 rfl (lv_at hl 0 rfl) ?_
        obtain ⟨s20, q21, h⟩ := bd1_some h
        refine wcall_v (rest := []) XX I hl.1 (c_M_wantWorths l G OK ad fu s17 s20 q21) kV_X12_197 (Rc.mk XX I (q0 := 0) (ci := 12) wM_o rfl) rfl rfl (Nat.le_of_ble_eq_true rfl) ⟨rfl, rfl, Nat.le_of_ble_eq_true rfl, Nat.le_of_ble_eq_true rfl⟩ ⟨Nat.zero_le _, Nat.zero_le _⟩ dX12_wantProposal_95 (fun H locs I => ?_)
        exact C98 _ _ h _ _ I ls (lv_sub hl [0, 1] rfl)
  have C39 : ∀ n : Nat, ∀ (s : g_St) (v1 : Int32) (v2 : Int32), f_M_wantProposal_L39 fu n s v1 v2 = some ts → ∀ (H : Heap) (locs : List Loc), Iv G (va_A (wM G ad sa) s0.heap.size) s0 H locs (wM G ad s) → ∀ ls, lv_has ls 3 [(0, .ref (ad 0)), (1, .int v1), (2, .int v2)] → W p l e { frames := 5, cells := 0, slots := 0, locals := 110 } s0 m args below meth c H locs 0 0 (QV G below (wM G ad sa) (wM G ad ts) args s0) (F0 m 39 ls []) := by
    intro n
    induction n with
    | zero => intro s v1 v2 h; exact absurd h (fun q => by cases q)
    | succ n ih =>
      intro s v1 v2 h H locs I ls hl
      rw [f_M_wantProposal_L39] at h
      refine lv_iload_n hx hb dX12_wantProposal_39 rfl (lv_at hl 2 rfl) ?_
      refine lv_bipush (v := 6) hx hb dX12_wantProposal_40 (by decide) ?_
      refine lv_icmp_ge (tgt := 73) hx hb dX12_wantProposal_42 (by decide) (fun c1 => ?_) (fun c1 => ?_)
      · replace h := if_t h c1
        exact C73 _ _ h _ _ I ls (lv_sub hl [0, 1] rfl)
      · replace h := if_f h c1
        refine lv_aload_n hx hb dX12_wantProposal_45 rfl (lv_at hl 0 rfl) ?_
        refine gM_good XX I dX12_wantProposal_46 ?_
        refine lv_if_eq (tgt := 73) hx hb dX12_wantProposal_49 (by decide) (fun c1 => ?_) (fun c1 => ?_)
        · replace h := if_t h c1
          exact C73 _ _ h _ _ I ls (lv_sub hl [0, 1] rfl)
        · replace h := if_f h c1
          refine lv_aload_n hx hb dX12_wantProposal_52 rfl (lv_at hl 0 rfl) ?_
          refine gM_freshWorth XX I dX12_wantProposal_53 ?_
          refine lv_bipush (v := 6) hx hb dX12_wantProposal_56 (by decide) ?_
          refine lv_aload_n hx hb dX12_wantProposal_58 rfl (lv_at hl 0 rfl) ?_
          refine gM_freshProposals XX I dX12_wantProposal_59 ?_
          refine lv_imul hx hb dX12_wantProposal_62 ?_
          refine lv_iload_n hx hb dX12_wantProposal_63 rfl (lv_at hl 2 rfl) ?_
          refine lv_iadd hx hb dX12_wantProposal_64 ?_
          refine lv_iconst (v := 0) hx hb dX12_wantProposal_65 (by decide) ?_
          obtain ⟨g13, h⟩ := gd_some h
          refine r_iast XX I 14 (aM_freshWorth) (sM_freshWorth) g13 dX12_wantProposal_66 (fun H locs I => ?_)
          obtain ⟨s14, es14⟩ : ∃ z, z = sr s 27 (((6 : Int32) * (gi s 24)) + v2) (0 : Int32) := ⟨_, rfl⟩
          replace h := lt_e h es14
          replace I : Iv G (va_A (wM G ad sa) s0.heap.size) s0 H locs (wM G ad s14) := by rw [es14]; exact I
          obtain ⟨y15, ey15⟩ : ∃ z : Int32, z = v2 + (1 : Int32) := ⟨_, rfl⟩
          replace h := lt_e h ey15
          refine lv_iinc (v := y15) (lv' := [(2, .int y15), (0, .ref (ad 0)), (1, .int v1)]) hx hb dX12_wantProposal_67 hl (k := 2) rfl (by rw [ey15]; rfl) (by decide) rfl (fun ls hl => ?_)
          refine lv_goto (tgt := 39) hx hb dX12_wantProposal_70 (by decide) ?_
          exact ih _ _ _ h _ _ I ls (lv_sub hl [1, 2, 0] rfl)
  have C15 : ∀ (s : g_St) (z0 : Int32), f_M_wantProposal_L15 fu s z0 = some ts → ∀ (H : Heap) (locs : List Loc), Iv G (va_A (wM G ad sa) s0.heap.size) s0 H locs (wM G ad s) → ∀ ls, lv_has ls 3 [(0, .ref (ad 0))] → narrow .boolean (.int z0) = .int z0 → W p l e { frames := 5, cells := 0, slots := 0, locals := 110 } s0 m args below meth c H locs 0 0 (QV G below (wM G ad sa) (wM G ad ts) args s0) (F0 m 15 ls [.int z0, .ref (ad 0)]) := by
    skip
    intro s z0 h H locs I ls hl hz0
    unfold f_M_wantProposal_L15 at h
    refine pM_good XX I (hz0) dX12_wantProposal_15 (fun H locs I => ?_)
    obtain ⟨s1, es1⟩ : ∃ z, z = si s 22 z0 := ⟨_, rfl⟩
    replace h := lt_e h es1
    replace I : Iv G (va_A (wM G ad sa) s0.heap.size) s0 H locs (wM G ad s1) := by rw [es1]; exact I
    refine lv_aload_n hx hb dX12_wantProposal_18 rfl (lv_at hl 0 rfl) ?_
    refine gM_good XX I dX12_wantProposal_19 ?_
    refine lv_if_eq (tgt := 29) hx hb dX12_wantProposal_22 (by decide) (fun c1 => ?_) (fun c1 => ?_)
    · replace h := if_t h c1
      refine lv_aload_n hx hb dX12_wantProposal_29 rfl (lv_at hl 0 rfl) ?_
      refine lv_iconst (v := 0) hx hb dX12_wantProposal_30 (by decide) ?_
      refine lv_bipush (v := 9) hx hb dX12_wantProposal_31 (by decide) ?_
      obtain ⟨r2, s3, q4, h⟩ := bd2_some h
      refine wcall_i (rest := []) XX I hl.1 (c_M_wantNumber l G OK ad fu s1 (0 : Int32) (9 : Int32) r2 s3 q4) kV_X12_167 (Rc.mk XX I (q0 := 0) (ci := 12) wM_o rfl) rfl rfl (Nat.le_of_ble_eq_true rfl) ⟨rfl, rfl, Nat.le_of_ble_eq_true rfl, Nat.le_of_ble_eq_true rfl⟩ ⟨Nat.zero_le _, Nat.zero_le _⟩ dX12_wantProposal_33 (fun H locs hz5 I => ?_)
      refine lv_istore_n (lv' := [(1, .int r2), (0, .ref (ad 0))]) hx hb dX12_wantProposal_36 rfl hl (by decide) rfl (fun ls hl => ?_)
      refine lv_iconst (v := 0) hx hb dX12_wantProposal_37 (by decide) ?_
      refine lv_istore_n (lv' := [(2, .int (0 : Int32)), (1, .int r2), (0, .ref (ad 0))]) hx hb dX12_wantProposal_38 rfl hl (by decide) rfl (fun ls hl => ?_)
      exact C39 fu _ _ _ h _ _ I ls (lv_sub hl [2, 1, 0] rfl)
    · replace h := if_f h c1
      refine lv_aload_n hx hb dX12_wantProposal_25 rfl (lv_at hl 0 rfl) ?_
      obtain ⟨s6, q7, h⟩ := bd1_some h
      refine wcall_v (rest := []) XX I hl.1 (c_M_advance l G OK ad fu s1 s6 q7) kV_X12_164 (Rc.mk XX I (q0 := 0) (ci := 12) wM_o rfl) rfl rfl (Nat.le_of_ble_eq_true rfl) ⟨rfl, rfl, Nat.le_of_ble_eq_true rfl, Nat.le_of_ble_eq_true rfl⟩ ⟨Nat.zero_le _, Nat.zero_le _⟩ dX12_wantProposal_26 (fun H locs I => ?_)
      refine lv_aload_n hx hb dX12_wantProposal_29 rfl (lv_at hl 0 rfl) ?_
      refine lv_iconst (v := 0) hx hb dX12_wantProposal_30 (by decide) ?_
      refine lv_bipush (v := 9) hx hb dX12_wantProposal_31 (by decide) ?_
      obtain ⟨r9, s10, q11, h⟩ := bd2_some h
      refine wcall_i (rest := []) XX I hl.1 (c_M_wantNumber l G OK ad fu s6 (0 : Int32) (9 : Int32) r9 s10 q11) kV_X12_167 (Rc.mk XX I (q0 := 0) (ci := 12) wM_o rfl) rfl rfl (Nat.le_of_ble_eq_true rfl) ⟨rfl, rfl, Nat.le_of_ble_eq_true rfl, Nat.le_of_ble_eq_true rfl⟩ ⟨Nat.zero_le _, Nat.zero_le _⟩ dX12_wantProposal_33 (fun H locs hz12 I => ?_)
      refine lv_istore_n (lv' := [(1, .int r9), (0, .ref (ad 0))]) hx hb dX12_wantProposal_36 rfl hl (by decide) rfl (fun ls hl => ?_)
      refine lv_iconst (v := 0) hx hb dX12_wantProposal_37 (by decide) ?_
      refine lv_istore_n (lv' := [(2, .int (0 : Int32)), (1, .int r9), (0, .ref (ad 0))]) hx hb dX12_wantProposal_38 rfl hl (by decide) rfl (fun ls hl => ?_)
      exact C39 fu _ _ _ h _ _ I ls (lv_sub hl [2, 1, 0] rfl)
  unfold f_M_wantProposal at h
  refine lv_aload_n hx hb dX12_wantProposal_0 rfl (lv_at hl 0 rfl) ?_
  refine lv_aload_n hx hb dX12_wantProposal_1 rfl (lv_at hl 0 rfl) ?_
  refine gM_freshProposals XX I dX12_wantProposal_2 ?_
  refine lv_bipush (v := 8) hx hb dX12_wantProposal_5 (by decide) ?_
  refine lv_icmp_ge (tgt := 14) hx hb dX12_wantProposal_7 (by decide) (fun c1 => ?_) (fun c1 => ?_)
  · replace h := if_t h c1
    refine lv_iconst (v := 0) hx hb dX12_wantProposal_14 (by decide) ?_
    exact C15 _ _ h _ _ I ls (lv_sub hl [0] rfl) (rfl)
  · replace h := if_f h c1
    refine lv_iconst (v := 1) hx hb dX12_wantProposal_10 (by decide) ?_
    refine lv_goto (tgt := 15) hx hb dX12_wantProposal_11 (by decide) ?_
    exact C15 _ _ h _ _ I ls (lv_sub hl [0] rfl) (rfl)
set_option maxHeartbeats 4000000 in
set_option maxRecDepth 100000 in
theorem c_M_wantLaw (l : Launch) (G : g_G) (OK : EOk G.2.2) (ad : Nat → Nat) (fu : Nat) (sa : g_St) (x1 : Int32) (ts : g_St) (h : f_M_wantLaw fu sa x1 = some ts) : HV l G yX12_wantLaw (Cond.code yX12_wantLaw cX12_wantLaw 3 none :: gT) { frames := 4, cells := 0, slots := 0, locals := 86 } [.ref (ad 0), .int x1] (wM G ad sa) (wM G ad ts) := by
  refine HV.mk (lv := [(0, .ref (ad 0)), (1, .int x1)]) OK (by decide) (Nat.le_of_ble_eq_true rfl) rfl ?_
  intro p e s0 m args below meth c ls XX hr I hl
  have hx := XX.x
  have hb := XX.b
  have C29 : ∀ (s : g_St) (v1 : Int32) (z0 : Int32), f_M_wantLaw_L29 fu s v1 z0 = some ts → ∀ (H : Heap) (locs : List Loc), Iv G (va_A (wM G ad sa) s0.heap.size) s0 H locs (wM G ad s) → ∀ ls, lv_has ls 3 [(0, .ref (ad 0)), (1, .int v1)] → W p l e { frames := 4, cells := 0, slots := 0, locals := 86 } s0 m args below meth c H locs 0 0 (QV G below (wM G ad sa) (wM G ad ts) args s0) (F0 m 29 ls [.int z0]) := by
    skip
    intro s v1 z0 h H locs I ls hl
    unfold f_M_wantLaw_L29 at h
    refine lv_istore_n (lv' := [(2, .int z0), (0, .ref (ad 0)), (1, .int v1)]) hx hb dX12_wantLaw_29 rfl hl (by decide) rfl (fun ls hl => ?_)
    refine lv_aload_n hx hb dX12_wantLaw_30 rfl (lv_at hl 1 rfl) ?_
    obtain ⟨s10, q11, h⟩ := bd1_some h
    refine wcall_v (rest := []) XX I hl.1 (c_M_wantEnd l G OK ad fu s s10 q11) kV_X12_189 (Rc.mk XX I (q0 := 0) (ci := 12) wM_o rfl) rfl rfl (Nat.le_of_ble_eq_true rfl) ⟨rfl, rfl, Nat.le_of_ble_eq_true rfl, Nat.le_of_ble_eq_true rfl⟩ ⟨Nat.zero_le _, Nat.zero_le _⟩ dX12_wantLaw_31 (fun H locs I => ?_)
    refine lv_aload_n hx hb dX12_wantLaw_34 rfl (lv_at hl 1 rfl) ?_
    refine gM_freshLaws XX I dX12_wantLaw_35 ?_
    refine lv_iload_n hx hb dX12_wantLaw_38 rfl (lv_at hl 2 rfl) ?_
    refine lv_iload_n hx hb dX12_wantLaw_39 rfl (lv_at hl 0 rfl) ?_
    obtain ⟨g13, h⟩ := gd_some h
    refine r_iast XX I 15 (aM_freshLaws) (sM_freshLaws) g13 dX12_wantLaw_40 (fun H locs I => ?_)
    obtain ⟨s14, es14⟩ : ∃ z, z = sr s10 28 v1 z0 := ⟨_, rfl⟩
    replace h := lt_e h es14
    replace I : Iv G (va_A (wM G ad sa) s0.heap.size) s0 H locs (wM G ad s14) := by rw [es14]; exact I
    obtain rfl := some1 h
    exact e_v XX hr I dX12_wantLaw_41
  unfold f_M_wantLaw at h
  refine lv_aload_n hx hb dX12_wantLaw_0 rfl (lv_at hl 0 rfl) ?_
  obtain ⟨s1, q2, h⟩ := bd1_some h
  refine wcall_v (rest := []) XX I hl.1 (c_M_advance l G OK ad fu sa s1 q2) kV_X12_164 (Rc.mk XX I (q0 := 0) (ci := 12) wM_o rfl) rfl rfl (Nat.le_of_ble_eq_true rfl) ⟨rfl, rfl, Nat.le_of_ble_eq_true rfl, Nat.le_of_ble_eq_true rfl⟩ ⟨Nat.zero_le _, Nat.zero_le _⟩ dX12_wantLaw_1 (fun H locs I => ?_)
  refine lv_iload_n hx hb dX12_wantLaw_4 rfl (lv_at hl 1 rfl) ?_
  refine lv_iconst (v := 1) hx hb dX12_wantLaw_5 (by decide) ?_
  refine lv_icmp_ne (tgt := 13) hx hb dX12_wantLaw_6 (by decide) (fun c1 => ?_) (fun c1 => ?_)
  · replace h := if_f h c1
    refine lv_aload_n hx hb dX12_wantLaw_13 rfl (lv_at hl 0 rfl) ?_
    refine lv_aload_n hx hb dX12_wantLaw_14 rfl (lv_at hl 0 rfl) ?_
    refine gM_leastOf XX I dX12_wantLaw_15 ?_
    refine lv_iload_n hx hb dX12_wantLaw_18 rfl (lv_at hl 1 rfl) ?_
    obtain ⟨g4, h⟩ := gd_some h
    refine r_iald XX I 8 (aM_leastOf) g4 dX12_wantLaw_19 ?_
    refine lv_aload_n hx hb dX12_wantLaw_20 rfl (lv_at hl 0 rfl) ?_
    refine gM_mostOf XX I dX12_wantLaw_21 ?_
    refine lv_iload_n hx hb dX12_wantLaw_24 rfl (lv_at hl 1 rfl) ?_
    obtain ⟨g5, h⟩ := gd_some h
    refine r_iald XX I 9 (aM_mostOf) g5 dX12_wantLaw_25 ?_
    obtain ⟨r6, s7, q8, h⟩ := bd2_some h
    refine wcall_i (rest := []) XX I hl.1 (c_M_wantNumber l G OK ad fu s1 (gr s1 9 x1.toNatClampNeg) (gr s1 10 x1.toNatClampNeg) r6 s7 q8) kV_X12_167 (Rc.mk XX I (q0 := 0) (ci := 12) wM_o rfl) rfl rfl (Nat.le_of_ble_eq_true rfl) ⟨rfl, rfl, Nat.le_of_ble_eq_true rfl, Nat.le_of_ble_eq_true rfl⟩ ⟨Nat.zero_le _, Nat.zero_le _⟩ dX12_wantLaw_26 (fun H locs hz9 I => ?_)
    exact C29 _ _ _ h _ _ I ls (lv_sub hl [0, 1] rfl)
  · replace h := if_t h c1
    refine lv_iconst (v := 1) hx hb dX12_wantLaw_9 (by decide) ?_
    refine lv_goto (tgt := 29) hx hb dX12_wantLaw_10 (by decide) ?_
    exact C29 _ _ _ h _ _ I ls (lv_sub hl [0, 1] rfl)
theorem kV_X12_200 : KV RX12 200 RX12 yX12_kindHere cX12_kindHere 1 (some .int) 0 := KV.mk wd_1156 wd_1158 wd_1613 wd_13 wd_1159 (by decide +kernel)
theorem kV_X12_215 : KV RX12 215 RX12 yX12_wantLaw cX12_wantLaw 3 none 1 := KV.mk wd_1207 wd_1209 wd_1623 wd_13 wd_1210 (by decide +kernel)
theorem kV_X12_210 : KV RX12 210 RX12 yX12_wantProposal cX12_wantProposal 3 none 0 := KV.mk wd_1197 wd_1199 wd_1621 wd_13 wd_1200 (by decide +kernel)
theorem kV_X12_204 : KV RX12 204 RX12 yX12_wantPerson cX12_wantPerson 5 none 1 := KV.mk wd_1170 wd_1172 wd_1615 wd_13 wd_1173 (by decide +kernel)
set_option maxHeartbeats 4000000 in
set_option maxRecDepth 100000 in
theorem c_M_wantClause (l : Launch) (G : g_G) (OK : EOk G.2.2) (ad : Nat → Nat) (fu : Nat) (sa : g_St) (ts : g_St) (h : f_M_wantClause fu sa = some ts) : HV l G yX12_wantClause (Cond.code yX12_wantClause cX12_wantClause 1 none :: gT) { frames := 6, cells := 0, slots := 0, locals := 134 } [.ref (ad 0)] (wM G ad sa) (wM G ad ts) := by
  refine HV.mk (lv := [(0, .ref (ad 0))]) OK (by decide) (Nat.le_of_ble_eq_true rfl) rfl ?_
  intro p e s0 m args below meth c ls XX hr I hl
  have hx := XX.x
  have hb := XX.b
  unfold f_M_wantClause at h
  refine lv_aload_n hx hb dX12_wantClause_0 rfl (lv_at hl 0 rfl) ?_
  refine wcall_i (rest := []) XX I hl.1 (c_M_kindHere l G OK ad sa _ rfl) kV_X12_200 (Rc.mk XX I (q0 := 0) (ci := 12) wM_o rfl) rfl rfl (Nat.le_of_ble_eq_true rfl) ⟨rfl, rfl, Nat.le_of_ble_eq_true rfl, Nat.le_of_ble_eq_true rfl⟩ ⟨Nat.zero_le _, Nat.zero_le _⟩ dX12_wantClause_1 (fun H locs hz1 I => ?_)
  refine lv_if_lt (tgt := 18) hx hb dX12_wantClause_4 (by decide) (fun c1 => ?_) (fun c1 => ?_)
  · replace h := if_t h c1
    refine lv_aload_n hx hb dX12_wantClause_18 rfl (lv_at hl 0 rfl) ?_
    refine lv_ldc2 (v := 174563265846) hx hb XX.o (XX.t _ wd_1196) dX12_wantClause_19 ?_
    refine wcall_i (rest := []) XX I hl.1 (c_M_isWord l G OK ad sa (174563265846 : Int64) _ rfl) kV_X12_146 (Rc.mk XX I (q0 := 0) (ci := 12) wM_o rfl) rfl rfl (Nat.le_of_ble_eq_true rfl) ⟨rfl, rfl, Nat.le_of_ble_eq_true rfl, Nat.le_of_ble_eq_true rfl⟩ ⟨Nat.zero_le _, Nat.zero_le _⟩ dX12_wantClause_22 (fun H locs hz2 I => ?_)
    refine lv_if_eq (tgt := 35) hx hb dX12_wantClause_25 (by decide) (fun c1 => ?_) (fun c1 => ?_)
    · replace h := if_t h c1
      refine lv_aload_n hx hb dX12_wantClause_35 rfl (lv_at hl 0 rfl) ?_
      refine lv_ldc2 (v := 279346) hx hb XX.o (XX.t _ wd_1206) dX12_wantClause_36 ?_
      refine wcall_i (rest := []) XX I hl.1 (c_M_isWord l G OK ad sa (279346 : Int64) _ rfl) kV_X12_146 (Rc.mk XX I (q0 := 0) (ci := 12) wM_o rfl) rfl rfl (Nat.le_of_ble_eq_true rfl) ⟨rfl, rfl, Nat.le_of_ble_eq_true rfl, Nat.le_of_ble_eq_true rfl⟩ ⟨Nat.zero_le _, Nat.zero_le _⟩ dX12_wantClause_39 (fun H locs hz3 I => ?_)
      refine lv_if_eq (tgt := 53) hx hb dX12_wantClause_42 (by decide) (fun c1 => ?_) (fun c1 => ?_)
      · replace h := if_t h c1
        refine lv_aload_n hx hb dX12_wantClause_53 rfl (lv_at hl 0 rfl) ?_
        refine lv_ldc2 (v := 409469) hx hb XX.o (XX.t _ wd_1211) dX12_wantClause_54 ?_
        refine wcall_i (rest := []) XX I hl.1 (c_M_isWord l G OK ad sa (409469 : Int64) _ rfl) kV_X12_146 (Rc.mk XX I (q0 := 0) (ci := 12) wM_o rfl) rfl rfl (Nat.le_of_ble_eq_true rfl) ⟨rfl, rfl, Nat.le_of_ble_eq_true rfl, Nat.le_of_ble_eq_true rfl⟩ ⟨Nat.zero_le _, Nat.zero_le _⟩ dX12_wantClause_57 (fun H locs hz4 I => ?_)
        refine lv_if_eq (tgt := 71) hx hb dX12_wantClause_60 (by decide) (fun c1 => ?_) (fun c1 => ?_)
        · replace h := if_t h c1
          refine lv_aload_n hx hb dX12_wantClause_71 rfl (lv_at hl 0 rfl) ?_
          refine lv_ldc2 (v := 151331) hx hb XX.o (XX.t _ wd_1212) dX12_wantClause_72 ?_
          refine wcall_i (rest := []) XX I hl.1 (c_M_isWord l G OK ad sa (151331 : Int64) _ rfl) kV_X12_146 (Rc.mk XX I (q0 := 0) (ci := 12) wM_o rfl) rfl rfl (Nat.le_of_ble_eq_true rfl) ⟨rfl, rfl, Nat.le_of_ble_eq_true rfl, Nat.le_of_ble_eq_true rfl⟩ ⟨Nat.zero_le _, Nat.zero_le _⟩ dX12_wantClause_75 (fun H locs hz5 I => ?_)
          refine lv_if_eq (tgt := 89) hx hb dX12_wantClause_78 (by decide) (fun c1 => ?_) (fun c1 => ?_)
          · replace h := if_t h c1
            refine lv_aload_n hx hb dX12_wantClause_89 rfl (lv_at hl 0 rfl) ?_
            refine lv_iconst (v := 0) hx hb dX12_wantClause_90 (by decide) ?_
            refine pM_good XX I (rfl) dX12_wantClause_91 (fun H locs I => ?_)
            obtain ⟨s6, es6⟩ : ∃ z, z = si sa 22 (0 : Int32) := ⟨_, rfl⟩
            replace h := lt_e h es6
            replace I : Iv G (va_A (wM G ad sa) s0.heap.size) s0 H locs (wM G ad s6) := by rw [es6]; exact I
            obtain rfl := some1 h
            exact e_v XX hr I dX12_wantClause_94
          · replace h := if_f h c1
            refine lv_aload_n hx hb dX12_wantClause_81 rfl (lv_at hl 0 rfl) ?_
            refine lv_iconst (v := 2) hx hb dX12_wantClause_82 (by decide) ?_
            obtain ⟨s7, q8, h⟩ := bd1_some h
            refine wcall_v (rest := []) XX I hl.1 (c_M_wantLaw l G OK ad fu sa (2 : Int32) s7 q8) kV_X12_215 (Rc.mk XX I (q0 := 0) (ci := 12) wM_o rfl) rfl rfl (Nat.le_of_ble_eq_true rfl) ⟨rfl, rfl, Nat.le_of_ble_eq_true rfl, Nat.le_of_ble_eq_true rfl⟩ ⟨Nat.zero_le _, Nat.zero_le _⟩ dX12_wantClause_83 (fun H locs I => ?_)
            refine lv_goto (tgt := 94) hx hb dX12_wantClause_86 (by decide) ?_
            obtain rfl := some1 h
            exact e_v XX hr I dX12_wantClause_94
        · replace h := if_f h c1
          refine lv_aload_n hx hb dX12_wantClause_63 rfl (lv_at hl 0 rfl) ?_
          refine lv_iconst (v := 1) hx hb dX12_wantClause_64 (by decide) ?_
          obtain ⟨s10, q11, h⟩ := bd1_some h
          refine wcall_v (rest := []) XX I hl.1 (c_M_wantLaw l G OK ad fu sa (1 : Int32) s10 q11) kV_X12_215 (Rc.mk XX I (q0 := 0) (ci := 12) wM_o rfl) rfl rfl (Nat.le_of_ble_eq_true rfl) ⟨rfl, rfl, Nat.le_of_ble_eq_true rfl, Nat.le_of_ble_eq_true rfl⟩ ⟨Nat.zero_le _, Nat.zero_le _⟩ dX12_wantClause_65 (fun H locs I => ?_)
          refine lv_goto (tgt := 94) hx hb dX12_wantClause_68 (by decide) ?_
          obtain rfl := some1 h
          exact e_v XX hr I dX12_wantClause_94
      · replace h := if_f h c1
        refine lv_aload_n hx hb dX12_wantClause_45 rfl (lv_at hl 0 rfl) ?_
        refine lv_iconst (v := 0) hx hb dX12_wantClause_46 (by decide) ?_
        obtain ⟨s13, q14, h⟩ := bd1_some h
        refine wcall_v (rest := []) XX I hl.1 (c_M_wantLaw l G OK ad fu sa (0 : Int32) s13 q14) kV_X12_215 (Rc.mk XX I (q0 := 0) (ci := 12) wM_o rfl) rfl rfl (Nat.le_of_ble_eq_true rfl) ⟨rfl, rfl, Nat.le_of_ble_eq_true rfl, Nat.le_of_ble_eq_true rfl⟩ ⟨Nat.zero_le _, Nat.zero_le _⟩ dX12_wantClause_47 (fun H locs I => ?_)
        refine lv_goto (tgt := 94) hx hb dX12_wantClause_50 (by decide) ?_
        obtain rfl := some1 h
        exact e_v XX hr I dX12_wantClause_94
    · replace h := if_f h c1
      refine lv_aload_n hx hb dX12_wantClause_28 rfl (lv_at hl 0 rfl) ?_
      obtain ⟨s16, q17, h⟩ := bd1_some h
      refine wcall_v (rest := []) XX I hl.1 (c_M_wantProposal l G OK ad fu sa s16 q17) kV_X12_210 (Rc.mk XX I (q0 := 0) (ci := 12) wM_o rfl) rfl rfl (Nat.le_of_ble_eq_true rfl) ⟨rfl, rfl, Nat.le_of_ble_eq_true rfl, Nat.le_of_ble_eq_true rfl⟩ ⟨Nat.zero_le _, Nat.zero_le _⟩ dX12_wantClause_29 (fun H locs I => ?_)
      refine lv_goto (tgt := 94) hx hb dX12_wantClause_32 (by decide) ?_
      obtain rfl := some1 h
      exact e_v XX hr I dX12_wantClause_94
  · replace h := if_f h c1
    refine lv_aload_n hx hb dX12_wantClause_7 rfl (lv_at hl 0 rfl) ?_
    refine lv_aload_n hx hb dX12_wantClause_8 rfl (lv_at hl 0 rfl) ?_
    refine wcall_i (rest := [.ref (ad 0)]) XX I hl.1 (c_M_kindHere l G OK ad sa _ rfl) kV_X12_200 (Rc.mk XX I (q0 := 0) (ci := 12) wM_o rfl) rfl rfl (Nat.le_of_ble_eq_true rfl) ⟨rfl, rfl, Nat.le_of_ble_eq_true rfl, Nat.le_of_ble_eq_true rfl⟩ ⟨Nat.zero_le _, Nat.zero_le _⟩ dX12_wantClause_9 (fun H locs hz19 I => ?_)
    obtain ⟨s20, q21, h⟩ := bd1_some h
    refine wcall_v (rest := []) XX I hl.1 (c_M_wantPerson l G OK ad fu sa (f_M_kindHere sa) s20 q21) kV_X12_204 (Rc.mk XX I (q0 := 0) (ci := 12) wM_o rfl) rfl rfl (Nat.le_of_ble_eq_true rfl) ⟨rfl, rfl, Nat.le_of_ble_eq_true rfl, Nat.le_of_ble_eq_true rfl⟩ ⟨Nat.zero_le _, Nat.zero_le _⟩ dX12_wantClause_12 (fun H locs I => ?_)
    refine lv_goto (tgt := 94) hx hb dX12_wantClause_15 (by decide) ?_
    obtain rfl := some1 h
    exact e_v XX hr I dX12_wantClause_94
theorem kV_X12_222 : KV RX12 222 RX12 yX12_wantClause cX12_wantClause 1 none 0 := KV.mk wd_1152 wd_1154 wd_1612 wd_13 wd_1155 (by decide +kernel)
set_option maxHeartbeats 4000000 in
set_option maxRecDepth 100000 in
theorem c_M_village (l : Launch) (G : g_G) (OK : EOk G.2.2) (ad : Nat → Nat) (fu : Nat) (sa : g_St) (r : Int32) (ts : g_St) (h : f_M_village fu sa = some (r, ts)) : HI l G yX12_village (Cond.code yX12_village cX12_village 3 (some .int) :: gT) { frames := 7, cells := 0, slots := 0, locals := 154 } .int [.ref (ad 0)] (wM G ad sa) r (wM G ad ts) := by
  refine HI.mk (lv := [(0, .ref (ad 0))]) OK (by decide) (Nat.le_of_ble_eq_true rfl) rfl ?_
  intro p e s0 m args below meth c ls XX hr I hl
  have hx := XX.x
  have hb := XX.b
  have C257 : ∀ n : Nat, ∀ (s : g_St) (v1 : Int32), f_M_village_L257 fu n s v1 = some (r, ts) → ∀ (H : Heap) (locs : List Loc), Iv G (va_A (wM G ad sa) s0.heap.size) s0 H locs (wM G ad s) → ∀ ls, lv_has ls 3 [(0, .ref (ad 0)), (1, .int v1)] → W p l e { frames := 7, cells := 0, slots := 0, locals := 154 } s0 m args below meth c H locs 0 0 (QI G below .int r (wM G ad sa) (wM G ad ts) args s0) (F0 m 257 ls []) := by
    intro n
    induction n with
    | zero => intro s v1 h; exact absurd h (fun q => by cases q)
    | succ n ih =>
      intro s v1 h H locs I ls hl
      rw [f_M_village_L257] at h
      refine lv_iload_n hx hb dX12_village_257 rfl (lv_at hl 1 rfl) ?_
      refine lv_iconst (v := 3) hx hb dX12_village_258 (by decide) ?_
      refine lv_icmp_ge (tgt := 280) hx hb dX12_village_259 (by decide) (fun c1 => ?_) (fun c1 => ?_)
      · replace h := if_t h c1
        refine lv_aload_n hx hb dX12_village_280 rfl (lv_at hl 0 rfl) ?_
        refine gM_row XX I dX12_village_281 ?_
        refine lv_bipush (v := 6) hx hb dX12_village_284 (by decide) ?_
        refine lv_iconst (v := 1) hx hb dX12_village_286 (by decide) ?_
        refine r_iast XX I 10 (aM_row) (sM_row) (by unfold vp_in; decide) dX12_village_287 (fun H locs I => ?_)
        obtain ⟨s44, es44⟩ : ∃ z, z = sr s 11 (6 : Int32) (1 : Int32) := ⟨_, rfl⟩
        replace h := lt_e h es44
        replace I : Iv G (va_A (wM G ad sa) s0.heap.size) s0 H locs (wM G ad s44) := by rw [es44]; exact I
        refine lv_aload_n hx hb dX12_village_288 rfl (lv_at hl 0 rfl) ?_
        refine lv_iconst (v := 0) hx hb dX12_village_289 (by decide) ?_
        refine pM_fell XX I dX12_village_290 (fun H locs I => ?_)
        obtain ⟨s45, es45⟩ : ∃ z, z = si s44 12 (0 : Int32) := ⟨_, rfl⟩
        replace h := lt_e h es45
        replace I : Iv G (va_A (wM G ad sa) s0.heap.size) s0 H locs (wM G ad s45) := by rw [es45]; exact I
        refine lv_aload_n hx hb dX12_village_293 rfl (lv_at hl 0 rfl) ?_
        refine lv_iconst (v := 0) hx hb dX12_village_294 (by decide) ?_
        refine pM_passed XX I dX12_village_295 (fun H locs I => ?_)
        obtain ⟨s46, es46⟩ : ∃ z, z = si s45 13 (0 : Int32) := ⟨_, rfl⟩
        replace h := lt_e h es46
        replace I : Iv G (va_A (wM G ad sa) s0.heap.size) s0 H locs (wM G ad s46) := by rw [es46]; exact I
        refine lv_aload_n hx hb dX12_village_298 rfl (lv_at hl 0 rfl) ?_
        refine lv_iconst (v := 0) hx hb dX12_village_299 (by decide) ?_
        refine pM_rowMany XX I dX12_village_300 (fun H locs I => ?_)
        obtain ⟨s47, es47⟩ : ∃ z, z = si s46 36 (0 : Int32) := ⟨_, rfl⟩
        replace h := lt_e h es47
        replace I : Iv G (va_A (wM G ad sa) s0.heap.size) s0 H locs (wM G ad s47) := by rw [es47]; exact I
        refine lv_aload_n hx hb dX12_village_303 rfl (lv_at hl 0 rfl) ?_
        refine gM_people XX I dX12_village_304 ?_
        obtain ⟨rfl, rfl⟩ := some2 h
        exact e_i rfl XX hr I rfl dX12_village_307
      · replace h := if_f h c1
        refine lv_aload_n hx hb dX12_village_262 rfl (lv_at hl 0 rfl) ?_
        refine gM_laws XX I dX12_village_263 ?_
        refine lv_iload_n hx hb dX12_village_266 rfl (lv_at hl 1 rfl) ?_
        refine lv_aload_n hx hb dX12_village_267 rfl (lv_at hl 0 rfl) ?_
        refine gM_freshLaws XX I dX12_village_268 ?_
        refine lv_iload_n hx hb dX12_village_271 rfl (lv_at hl 1 rfl) ?_
        obtain ⟨g48, h⟩ := gd_some h
        refine r_iald XX I 15 (aM_freshLaws) g48 dX12_village_272 ?_
        refine lv_topi (fun y49 ey49 => ?_)
        replace h := lt_e h ey49
        obtain ⟨g50, h⟩ := gd_some h
        refine r_iast XX I 7 (aM_laws) (sM_laws) g50 dX12_village_273 (fun H locs I => ?_)
        obtain ⟨s51, es51⟩ : ∃ z, z = sr s 8 v1 y49 := ⟨_, rfl⟩
        replace h := lt_e h es51
        replace I : Iv G (va_A (wM G ad sa) s0.heap.size) s0 H locs (wM G ad s51) := by rw [es51]; exact I
        obtain ⟨y52, ey52⟩ : ∃ z : Int32, z = v1 + (1 : Int32) := ⟨_, rfl⟩
        replace h := lt_e h ey52
        refine lv_iinc (v := y52) (lv' := [(1, .int y52), (0, .ref (ad 0))]) hx hb dX12_village_274 hl (k := 1) rfl (by rw [ey52]; rfl) (by decide) rfl (fun ls hl => ?_)
        refine lv_goto (tgt := 257) hx hb dX12_village_277 (by decide) ?_
        exact ih _ _ h _ _ I ls (lv_sub hl [1, 0] rfl)
  have C215 : ∀ (k193 : g_St → Int32 → Option (Int32 × g_St)), (∀ (s : g_St) (v1 : Int32), k193 s v1 = some (r, ts) → ∀ (H : Heap) (locs : List Loc), Iv G (va_A (wM G ad sa) s0.heap.size) s0 H locs (wM G ad s) → ∀ ls, lv_has ls 3 [(0, .ref (ad 0)), (1, .int v1)] → W p l e { frames := 7, cells := 0, slots := 0, locals := 154 } s0 m args below meth c H locs 0 0 (QI G below .int r (wM G ad sa) (wM G ad ts) args s0) (F0 m 193 ls [])) → ∀ n : Nat, ∀ (s : g_St) (v1 : Int32) (v2 : Int32), f_M_village_L215 fu k193 n s v1 v2 = some (r, ts) → ∀ (H : Heap) (locs : List Loc), Iv G (va_A (wM G ad sa) s0.heap.size) s0 H locs (wM G ad s) → ∀ ls, lv_has ls 3 [(0, .ref (ad 0)), (1, .int v1), (2, .int v2)] → W p l e { frames := 7, cells := 0, slots := 0, locals := 154 } s0 m args below meth c H locs 0 0 (QI G below .int r (wM G ad sa) (wM G ad ts) args s0) (F0 m 215 ls []) := by
    intro k193 hk193 n
    induction n with
    | zero => intro s v1 v2 h; exact absurd h (fun q => by cases q)
    | succ n ih =>
      intro s v1 v2 h H locs I ls hl
      rw [f_M_village_L215] at h
      refine lv_iload_n hx hb dX12_village_215 rfl (lv_at hl 2 rfl) ?_
      refine lv_bipush (v := 6) hx hb dX12_village_216 (by decide) ?_
      refine lv_icmp_ge (tgt := 249) hx hb dX12_village_218 (by decide) (fun c1 => ?_) (fun c1 => ?_)
      · replace h := if_t h c1
        obtain ⟨y53, ey53⟩ : ∃ z : Int32, z = v1 + (1 : Int32) := ⟨_, rfl⟩
        replace h := lt_e h ey53
        refine lv_iinc (v := y53) (lv' := [(1, .int y53), (0, .ref (ad 0)), (2, .int v2)]) hx hb dX12_village_249 hl (k := 1) rfl (by rw [ey53]; rfl) (by decide) rfl (fun ls hl => ?_)
        refine lv_goto (tgt := 193) hx hb dX12_village_252 (by decide) ?_
        exact hk193 _ _ h _ _ I ls (lv_sub hl [1, 0] rfl)
      · replace h := if_f h c1
        refine lv_aload_n hx hb dX12_village_221 rfl (lv_at hl 0 rfl) ?_
        refine gM_worth XX I dX12_village_222 ?_
        refine lv_bipush (v := 6) hx hb dX12_village_225 (by decide) ?_
        refine lv_iload_n hx hb dX12_village_227 rfl (lv_at hl 1 rfl) ?_
        refine lv_imul hx hb dX12_village_228 ?_
        refine lv_iload_n hx hb dX12_village_229 rfl (lv_at hl 2 rfl) ?_
        refine lv_iadd hx hb dX12_village_230 ?_
        refine lv_aload_n hx hb dX12_village_231 rfl (lv_at hl 0 rfl) ?_
        refine gM_freshWorth XX I dX12_village_232 ?_
        refine lv_bipush (v := 6) hx hb dX12_village_235 (by decide) ?_
        refine lv_iload_n hx hb dX12_village_237 rfl (lv_at hl 1 rfl) ?_
        refine lv_imul hx hb dX12_village_238 ?_
        refine lv_iload_n hx hb dX12_village_239 rfl (lv_at hl 2 rfl) ?_
        refine lv_iadd hx hb dX12_village_240 ?_
        obtain ⟨g54, h⟩ := gd_some h
        refine r_iald XX I 14 (aM_freshWorth) g54 dX12_village_241 ?_
        refine lv_topi (fun y55 ey55 => ?_)
        replace h := lt_e h ey55
        obtain ⟨g56, h⟩ := gd_some h
        refine r_iast XX I 6 (aM_worth) (sM_worth) g56 dX12_village_242 (fun H locs I => ?_)
        obtain ⟨s57, es57⟩ : ∃ z, z = sr s 7 (((6 : Int32) * v1) + v2) y55 := ⟨_, rfl⟩
        replace h := lt_e h es57
        replace I : Iv G (va_A (wM G ad sa) s0.heap.size) s0 H locs (wM G ad s57) := by rw [es57]; exact I
        obtain ⟨y58, ey58⟩ : ∃ z : Int32, z = v2 + (1 : Int32) := ⟨_, rfl⟩
        replace h := lt_e h ey58
        refine lv_iinc (v := y58) (lv' := [(2, .int y58), (0, .ref (ad 0)), (1, .int v1)]) hx hb dX12_village_243 hl (k := 2) rfl (by rw [ey58]; rfl) (by decide) rfl (fun ls hl => ?_)
        refine lv_goto (tgt := 215) hx hb dX12_village_246 (by decide) ?_
        exact ih _ _ _ h _ _ I ls (lv_sub hl [1, 2, 0] rfl)
  have C193 : ∀ n : Nat, ∀ (s : g_St) (v1 : Int32), f_M_village_L193 fu n s v1 = some (r, ts) → ∀ (H : Heap) (locs : List Loc), Iv G (va_A (wM G ad sa) s0.heap.size) s0 H locs (wM G ad s) → ∀ ls, lv_has ls 3 [(0, .ref (ad 0)), (1, .int v1)] → W p l e { frames := 7, cells := 0, slots := 0, locals := 154 } s0 m args below meth c H locs 0 0 (QI G below .int r (wM G ad sa) (wM G ad ts) args s0) (F0 m 193 ls []) := by
    intro n
    induction n with
    | zero => intro s v1 h; exact absurd h (fun q => by cases q)
    | succ n ih =>
      intro s v1 h H locs I ls hl
      rw [f_M_village_L193] at h
      refine lv_iload_n hx hb dX12_village_193 rfl (lv_at hl 1 rfl) ?_
      refine lv_aload_n hx hb dX12_village_194 rfl (lv_at hl 0 rfl) ?_
      refine gM_proposals XX I dX12_village_195 ?_
      refine lv_icmp_ge (tgt := 255) hx hb dX12_village_198 (by decide) (fun c1 => ?_) (fun c1 => ?_)
      · replace h := if_t h c1
        refine lv_iconst (v := 0) hx hb dX12_village_255 (by decide) ?_
        refine lv_istore_n (lv' := [(1, .int (0 : Int32)), (0, .ref (ad 0))]) hx hb dX12_village_256 rfl hl (by decide) rfl (fun ls hl => ?_)
        exact C257 fu _ _ h _ _ I ls (lv_sub hl [1, 0] rfl)
      · replace h := if_f h c1
        refine lv_aload_n hx hb dX12_village_201 rfl (lv_at hl 0 rfl) ?_
        refine gM_weight XX I dX12_village_202 ?_
        refine lv_iload_n hx hb dX12_village_205 rfl (lv_at hl 1 rfl) ?_
        refine lv_aload_n hx hb dX12_village_206 rfl (lv_at hl 0 rfl) ?_
        refine gM_freshWeight XX I dX12_village_207 ?_
        refine lv_iload_n hx hb dX12_village_210 rfl (lv_at hl 1 rfl) ?_
        obtain ⟨g40, h⟩ := gd_some h
        refine r_iald XX I 13 (aM_freshWeight) g40 dX12_village_211 ?_
        refine lv_topi (fun y41 ey41 => ?_)
        replace h := lt_e h ey41
        obtain ⟨g42, h⟩ := gd_some h
        refine r_iast XX I 5 (aM_weight) (sM_weight) g42 dX12_village_212 (fun H locs I => ?_)
        obtain ⟨s43, es43⟩ : ∃ z, z = sr s 6 v1 y41 := ⟨_, rfl⟩
        replace h := lt_e h es43
        replace I : Iv G (va_A (wM G ad sa) s0.heap.size) s0 H locs (wM G ad s43) := by rw [es43]; exact I
        refine lv_iconst (v := 0) hx hb dX12_village_213 (by decide) ?_
        refine lv_istore_n (lv' := [(2, .int (0 : Int32)), (0, .ref (ad 0)), (1, .int v1)]) hx hb dX12_village_214 rfl hl (by decide) rfl (fun ls hl => ?_)
        exact C215 (f_M_village_L193 fu n) ih fu _ _ _ h _ _ I ls (lv_sub hl [1, 2, 0] rfl)
  have C100 : ∀ n : Nat, ∀ (s : g_St) (v1 : Int32), f_M_village_L100 fu n s v1 = some (r, ts) → ∀ (H : Heap) (locs : List Loc), Iv G (va_A (wM G ad sa) s0.heap.size) s0 H locs (wM G ad s) → ∀ ls, lv_has ls 3 [(0, .ref (ad 0)), (1, .int v1)] → W p l e { frames := 7, cells := 0, slots := 0, locals := 154 } s0 m args below meth c H locs 0 0 (QI G below .int r (wM G ad sa) (wM G ad ts) args s0) (F0 m 100 ls []) := by
    intro n
    induction n with
    | zero => intro s v1 h; exact absurd h (fun q => by cases q)
    | succ n ih =>
      intro s v1 h H locs I ls hl
      rw [f_M_village_L100] at h
      refine lv_iload_n hx hb dX12_village_100 rfl (lv_at hl 1 rfl) ?_
      refine lv_aload_n hx hb dX12_village_101 rfl (lv_at hl 0 rfl) ?_
      refine gM_people XX I dX12_village_102 ?_
      refine lv_icmp_ge (tgt := 183) hx hb dX12_village_105 (by decide) (fun c1 => ?_) (fun c1 => ?_)
      · replace h := if_t h c1
        refine lv_aload_n hx hb dX12_village_183 rfl (lv_at hl 0 rfl) ?_
        refine lv_aload_n hx hb dX12_village_184 rfl (lv_at hl 0 rfl) ?_
        refine gM_freshProposals XX I dX12_village_185 ?_
        refine lv_topi (fun y19 ey19 => ?_)
        replace h := lt_e h ey19
        refine pM_proposals XX I dX12_village_188 (fun H locs I => ?_)
        obtain ⟨s20, es20⟩ : ∃ z, z = si s 5 y19 := ⟨_, rfl⟩
        replace h := lt_e h es20
        replace I : Iv G (va_A (wM G ad sa) s0.heap.size) s0 H locs (wM G ad s20) := by rw [es20]; exact I
        refine lv_iconst (v := 0) hx hb dX12_village_191 (by decide) ?_
        refine lv_istore_n (lv' := [(1, .int (0 : Int32)), (0, .ref (ad 0))]) hx hb dX12_village_192 rfl hl (by decide) rfl (fun ls hl => ?_)
        exact C193 fu _ _ h _ _ I ls (lv_sub hl [1, 0] rfl)
      · replace h := if_f h c1
        refine lv_aload_n hx hb dX12_village_108 rfl (lv_at hl 0 rfl) ?_
        refine gM_kindOf XX I dX12_village_109 ?_
        refine lv_iload_n hx hb dX12_village_112 rfl (lv_at hl 1 rfl) ?_
        refine lv_aload_n hx hb dX12_village_113 rfl (lv_at hl 0 rfl) ?_
        refine gM_freshPerson XX I dX12_village_114 ?_
        refine lv_iconst (v := 4) hx hb dX12_village_117 (by decide) ?_
        refine lv_iload_n hx hb dX12_village_118 rfl (lv_at hl 1 rfl) ?_
        refine lv_imul hx hb dX12_village_119 ?_
        obtain ⟨g21, h⟩ := gd_some h
        refine r_iald XX I 12 (aM_freshPerson) g21 dX12_village_120 ?_
        refine lv_topi (fun y22 ey22 => ?_)
        replace h := lt_e h ey22
        obtain ⟨g23, h⟩ := gd_some h
        refine r_iast XX I 1 (aM_kindOf) (sM_kindOf) g23 dX12_village_121 (fun H locs I => ?_)
        obtain ⟨s24, es24⟩ : ∃ z, z = sr s 1 v1 y22 := ⟨_, rfl⟩
        replace h := lt_e h es24
        replace I : Iv G (va_A (wM G ad sa) s0.heap.size) s0 H locs (wM G ad s24) := by rw [es24]; exact I
        refine lv_aload_n hx hb dX12_village_122 rfl (lv_at hl 0 rfl) ?_
        refine gM_aOf XX I dX12_village_123 ?_
        refine lv_iload_n hx hb dX12_village_126 rfl (lv_at hl 1 rfl) ?_
        refine lv_aload_n hx hb dX12_village_127 rfl (lv_at hl 0 rfl) ?_
        refine gM_freshPerson XX I dX12_village_128 ?_
        refine lv_iconst (v := 4) hx hb dX12_village_131 (by decide) ?_
        refine lv_iload_n hx hb dX12_village_132 rfl (lv_at hl 1 rfl) ?_
        refine lv_imul hx hb dX12_village_133 ?_
        refine lv_iconst (v := 1) hx hb dX12_village_134 (by decide) ?_
        refine lv_iadd hx hb dX12_village_135 ?_
        obtain ⟨g25, h⟩ := gd_some h
        refine r_iald XX I 12 (aM_freshPerson) g25 dX12_village_136 ?_
        refine lv_topi (fun y26 ey26 => ?_)
        replace h := lt_e h ey26
        obtain ⟨g27, h⟩ := gd_some h
        refine r_iast XX I 2 (aM_aOf) (sM_aOf) g27 dX12_village_137 (fun H locs I => ?_)
        obtain ⟨s28, es28⟩ : ∃ z, z = sr s24 2 v1 y26 := ⟨_, rfl⟩
        replace h := lt_e h es28
        replace I : Iv G (va_A (wM G ad sa) s0.heap.size) s0 H locs (wM G ad s28) := by rw [es28]; exact I
        refine lv_aload_n hx hb dX12_village_138 rfl (lv_at hl 0 rfl) ?_
        refine gM_age XX I dX12_village_139 ?_
        refine lv_iload_n hx hb dX12_village_142 rfl (lv_at hl 1 rfl) ?_
        refine lv_aload_n hx hb dX12_village_143 rfl (lv_at hl 0 rfl) ?_
        refine gM_freshPerson XX I dX12_village_144 ?_
        refine lv_iconst (v := 4) hx hb dX12_village_147 (by decide) ?_
        refine lv_iload_n hx hb dX12_village_148 rfl (lv_at hl 1 rfl) ?_
        refine lv_imul hx hb dX12_village_149 ?_
        refine lv_iconst (v := 2) hx hb dX12_village_150 (by decide) ?_
        refine lv_iadd hx hb dX12_village_151 ?_
        obtain ⟨g29, h⟩ := gd_some h
        refine r_iald XX I 12 (aM_freshPerson) g29 dX12_village_152 ?_
        refine lv_topi (fun y30 ey30 => ?_)
        replace h := lt_e h ey30
        obtain ⟨g31, h⟩ := gd_some h
        refine r_iast XX I 3 (aM_age) (sM_age) g31 dX12_village_153 (fun H locs I => ?_)
        obtain ⟨s32, es32⟩ : ∃ z, z = sr s28 3 v1 y30 := ⟨_, rfl⟩
        replace h := lt_e h es32
        replace I : Iv G (va_A (wM G ad sa) s0.heap.size) s0 H locs (wM G ad s32) := by rw [es32]; exact I
        refine lv_aload_n hx hb dX12_village_154 rfl (lv_at hl 0 rfl) ?_
        refine gM_row XX I dX12_village_155 ?_
        refine lv_iload_n hx hb dX12_village_158 rfl (lv_at hl 1 rfl) ?_
        refine lv_aload_n hx hb dX12_village_159 rfl (lv_at hl 0 rfl) ?_
        refine gM_freshPerson XX I dX12_village_160 ?_
        refine lv_iconst (v := 4) hx hb dX12_village_163 (by decide) ?_
        refine lv_iload_n hx hb dX12_village_164 rfl (lv_at hl 1 rfl) ?_
        refine lv_imul hx hb dX12_village_165 ?_
        refine lv_iconst (v := 3) hx hb dX12_village_166 (by decide) ?_
        refine lv_iadd hx hb dX12_village_167 ?_
        obtain ⟨g33, h⟩ := gd_some h
        refine r_iald XX I 12 (aM_freshPerson) g33 dX12_village_168 ?_
        refine lv_topi (fun y34 ey34 => ?_)
        replace h := lt_e h ey34
        obtain ⟨g35, h⟩ := gd_some h
        refine r_iast XX I 10 (aM_row) (sM_row) g35 dX12_village_169 (fun H locs I => ?_)
        obtain ⟨s36, es36⟩ : ∃ z, z = sr s32 11 v1 y34 := ⟨_, rfl⟩
        replace h := lt_e h es36
        replace I : Iv G (va_A (wM G ad sa) s0.heap.size) s0 H locs (wM G ad s36) := by rw [es36]; exact I
        refine lv_aload_n hx hb dX12_village_170 rfl (lv_at hl 0 rfl) ?_
        refine gM_had XX I dX12_village_171 ?_
        refine lv_iload_n hx hb dX12_village_174 rfl (lv_at hl 1 rfl) ?_
        refine lv_iconst (v := 0) hx hb dX12_village_175 (by decide) ?_
        obtain ⟨g37, h⟩ := gd_some h
        refine r_iast XX I 4 (aM_had) (sM_had) g37 dX12_village_176 (fun H locs I => ?_)
        obtain ⟨s38, es38⟩ : ∃ z, z = sr s36 4 v1 (0 : Int32) := ⟨_, rfl⟩
        replace h := lt_e h es38
        replace I : Iv G (va_A (wM G ad sa) s0.heap.size) s0 H locs (wM G ad s38) := by rw [es38]; exact I
        obtain ⟨y39, ey39⟩ : ∃ z : Int32, z = v1 + (1 : Int32) := ⟨_, rfl⟩
        replace h := lt_e h ey39
        refine lv_iinc (v := y39) (lv' := [(1, .int y39), (0, .ref (ad 0))]) hx hb dX12_village_177 hl (k := 1) rfl (by rw [ey39]; rfl) (by decide) rfl (fun ls hl => ?_)
        refine lv_goto (tgt := 100) hx hb dX12_village_180 (by decide) ?_
        exact ih _ _ h _ _ I ls (lv_sub hl [1, 0] rfl)
  have C70 : ∀ (s : g_St), f_M_village_L70 fu s = some (r, ts) → ∀ (H : Heap) (locs : List Loc), Iv G (va_A (wM G ad sa) s0.heap.size) s0 H locs (wM G ad s) → ∀ ls, lv_has ls 3 [(0, .ref (ad 0))] → W p l e { frames := 7, cells := 0, slots := 0, locals := 154 } s0 m args below meth c H locs 0 0 (QI G below .int r (wM G ad sa) (wM G ad ts) args s0) (F0 m 70 ls []) := by
    skip
    intro s h H locs I ls hl
    unfold f_M_village_L70 at h
    refine lv_aload_n hx hb dX12_village_70 rfl (lv_at hl 0 rfl) ?_
    refine lv_iconst (v := 0) hx hb dX12_village_71 (by decide) ?_
    refine pM_tapeMany XX I dX12_village_72 (fun H locs I => ?_)
    obtain ⟨s16, es16⟩ : ∃ z, z = si s 16 (0 : Int32) := ⟨_, rfl⟩
    replace h := lt_e h es16
    replace I : Iv G (va_A (wM G ad sa) s0.heap.size) s0 H locs (wM G ad s16) := by rw [es16]; exact I
    refine lv_aload_n hx hb dX12_village_75 rfl (lv_at hl 0 rfl) ?_
    refine gM_good XX I dX12_village_76 ?_
    refine lv_if_ne (tgt := 90) hx hb dX12_village_79 (by decide) (fun c1 => ?_) (fun c1 => ?_)
    · replace h := if_f h c1
      refine lv_aload_n hx hb dX12_village_90 rfl (lv_at hl 0 rfl) ?_
      refine lv_aload_n hx hb dX12_village_91 rfl (lv_at hl 0 rfl) ?_
      refine gM_freshPeople XX I dX12_village_92 ?_
      refine lv_topi (fun y17 ey17 => ?_)
      replace h := lt_e h ey17
      refine pM_people XX I dX12_village_95 (fun H locs I => ?_)
      obtain ⟨s18, es18⟩ : ∃ z, z = si s16 0 y17 := ⟨_, rfl⟩
      replace h := lt_e h es18
      replace I : Iv G (va_A (wM G ad sa) s0.heap.size) s0 H locs (wM G ad s18) := by rw [es18]; exact I
      refine lv_iconst (v := 0) hx hb dX12_village_98 (by decide) ?_
      refine lv_istore_n (lv' := [(1, .int (0 : Int32)), (0, .ref (ad 0))]) hx hb dX12_village_99 rfl hl (by decide) rfl (fun ls hl => ?_)
      exact C100 fu _ _ h _ _ I ls (lv_sub hl [1, 0] rfl)
    · replace h := if_t h c1
      refine lv_bipush (v := (-100)) hx hb dX12_village_82 (by decide) ?_
      refine lv_aload_n hx hb dX12_village_84 rfl (lv_at hl 0 rfl) ?_
      refine gM_begins XX I dX12_village_85 ?_
      refine lv_isub hx hb dX12_village_88 ?_
      obtain ⟨rfl, rfl⟩ := some2 h
      exact e_i rfl XX hr I rfl dX12_village_89
  have C49 : ∀ n : Nat, ∀ (s : g_St), f_M_village_L49 fu n s = some (r, ts) → ∀ (H : Heap) (locs : List Loc), Iv G (va_A (wM G ad sa) s0.heap.size) s0 H locs (wM G ad s) → ∀ ls, lv_has ls 3 [(0, .ref (ad 0))] → W p l e { frames := 7, cells := 0, slots := 0, locals := 154 } s0 m args below meth c H locs 0 0 (QI G below .int r (wM G ad sa) (wM G ad ts) args s0) (F0 m 49 ls []) := by
    intro n
    induction n with
    | zero => intro s h; exact absurd h (fun q => by cases q)
    | succ n ih =>
      intro s h H locs I ls hl
      rw [f_M_village_L49] at h
      refine lv_aload_n hx hb dX12_village_49 rfl (lv_at hl 0 rfl) ?_
      refine gM_good XX I dX12_village_50 ?_
      refine lv_if_eq (tgt := 70) hx hb dX12_village_53 (by decide) (fun c1 => ?_) (fun c1 => ?_)
      · replace h := if_t h c1
        exact C70 _ h _ _ I ls (lv_sub hl [0] rfl)
      · replace h := if_f h c1
        refine lv_aload_n hx hb dX12_village_56 rfl (lv_at hl 0 rfl) ?_
        refine gM_sort XX I dX12_village_57 ?_
        refine lv_if_eq (tgt := 70) hx hb dX12_village_60 (by decide) (fun c1 => ?_) (fun c1 => ?_)
        · replace h := if_t h c1
          exact C70 _ h _ _ I ls (lv_sub hl [0] rfl)
        · replace h := if_f h c1
          refine lv_aload_n hx hb dX12_village_63 rfl (lv_at hl 0 rfl) ?_
          obtain ⟨s13, q14, h⟩ := bd1_some h
          refine wcall_v (rest := []) XX I hl.1 (c_M_wantClause l G OK ad fu s s13 q14) kV_X12_222 (Rc.mk XX I (q0 := 0) (ci := 12) wM_o rfl) rfl rfl (Nat.le_of_ble_eq_true rfl) ⟨rfl, rfl, Nat.le_of_ble_eq_true rfl, Nat.le_of_ble_eq_true rfl⟩ ⟨Nat.zero_le _, Nat.zero_le _⟩ dX12_village_64 (fun H locs I => ?_)
          refine lv_goto (tgt := 49) hx hb dX12_village_67 (by decide) ?_
          exact ih _ h _ _ I ls (lv_sub hl [0] rfl)
  have C22 : ∀ n : Nat, ∀ (s : g_St) (v1 : Int32), f_M_village_L22 fu n s v1 = some (r, ts) → ∀ (H : Heap) (locs : List Loc), Iv G (va_A (wM G ad sa) s0.heap.size) s0 H locs (wM G ad s) → ∀ ls, lv_has ls 3 [(0, .ref (ad 0)), (1, .int v1)] → W p l e { frames := 7, cells := 0, slots := 0, locals := 154 } s0 m args below meth c H locs 0 0 (QI G below .int r (wM G ad sa) (wM G ad ts) args s0) (F0 m 22 ls []) := by
    intro n
    induction n with
    | zero => intro s v1 h; exact absurd h (fun q => by cases q)
    | succ n ih =>
      intro s v1 h H locs I ls hl
      rw [f_M_village_L22] at h
      refine lv_iload_n hx hb dX12_village_22 rfl (lv_at hl 1 rfl) ?_
      refine lv_iconst (v := 3) hx hb dX12_village_23 (by decide) ?_
      refine lv_icmp_ge (tgt := 45) hx hb dX12_village_24 (by decide) (fun c1 => ?_) (fun c1 => ?_)
      · replace h := if_t h c1
        refine lv_aload_n hx hb dX12_village_45 rfl (lv_at hl 0 rfl) ?_
        obtain ⟨s5, q6, h⟩ := bd1_some h
        refine wcall_v (rest := []) XX I hl.1 (c_M_advance l G OK ad fu s s5 q6) kV_X12_164 (Rc.mk XX I (q0 := 0) (ci := 12) wM_o rfl) rfl rfl (Nat.le_of_ble_eq_true rfl) ⟨rfl, rfl, Nat.le_of_ble_eq_true rfl, Nat.le_of_ble_eq_true rfl⟩ ⟨Nat.zero_le _, Nat.zero_le _⟩ dX12_village_46 (fun H locs I => ?_)
        exact C49 fu _ h _ _ I ls (lv_sub hl [0] rfl)
      · replace h := if_f h c1
        refine lv_aload_n hx hb dX12_village_27 rfl (lv_at hl 0 rfl) ?_
        refine gM_freshLaws XX I dX12_village_28 ?_
        refine lv_iload_n hx hb dX12_village_31 rfl (lv_at hl 1 rfl) ?_
        refine lv_aload_n hx hb dX12_village_32 rfl (lv_at hl 0 rfl) ?_
        refine gM_leastOf XX I dX12_village_33 ?_
        refine lv_iload_n hx hb dX12_village_36 rfl (lv_at hl 1 rfl) ?_
        obtain ⟨g8, h⟩ := gd_some h
        refine r_iald XX I 8 (aM_leastOf) g8 dX12_village_37 ?_
        refine lv_topi (fun y9 ey9 => ?_)
        replace h := lt_e h ey9
        obtain ⟨g10, h⟩ := gd_some h
        refine r_iast XX I 15 (aM_freshLaws) (sM_freshLaws) g10 dX12_village_38 (fun H locs I => ?_)
        obtain ⟨s11, es11⟩ : ∃ z, z = sr s 28 v1 y9 := ⟨_, rfl⟩
        replace h := lt_e h es11
        replace I : Iv G (va_A (wM G ad sa) s0.heap.size) s0 H locs (wM G ad s11) := by rw [es11]; exact I
        obtain ⟨y12, ey12⟩ : ∃ z : Int32, z = v1 + (1 : Int32) := ⟨_, rfl⟩
        replace h := lt_e h ey12
        refine lv_iinc (v := y12) (lv' := [(1, .int y12), (0, .ref (ad 0))]) hx hb dX12_village_39 hl (k := 1) rfl (by rw [ey12]; rfl) (by decide) rfl (fun ls hl => ?_)
        refine lv_goto (tgt := 22) hx hb dX12_village_42 (by decide) ?_
        exact ih _ _ h _ _ I ls (lv_sub hl [1, 0] rfl)
  unfold f_M_village at h
  refine lv_aload_n hx hb dX12_village_0 rfl (lv_at hl 0 rfl) ?_
  refine lv_iconst (v := 0) hx hb dX12_village_1 (by decide) ?_
  refine pM_tokenEnds XX I dX12_village_2 (fun H locs I => ?_)
  obtain ⟨s1, es1⟩ : ∃ z, z = si sa 19 (0 : Int32) := ⟨_, rfl⟩
  replace h := lt_e h es1
  replace I : Iv G (va_A (wM G ad sa) s0.heap.size) s0 H locs (wM G ad s1) := by rw [es1]; exact I
  refine lv_aload_n hx hb dX12_village_5 rfl (lv_at hl 0 rfl) ?_
  refine lv_iconst (v := 1) hx hb dX12_village_6 (by decide) ?_
  refine pM_good XX I (rfl) dX12_village_7 (fun H locs I => ?_)
  obtain ⟨s2, es2⟩ : ∃ z, z = si s1 22 (1 : Int32) := ⟨_, rfl⟩
  replace h := lt_e h es2
  replace I : Iv G (va_A (wM G ad sa) s0.heap.size) s0 H locs (wM G ad s2) := by rw [es2]; exact I
  refine lv_aload_n hx hb dX12_village_10 rfl (lv_at hl 0 rfl) ?_
  refine lv_iconst (v := 0) hx hb dX12_village_11 (by decide) ?_
  refine pM_freshPeople XX I dX12_village_12 (fun H locs I => ?_)
  obtain ⟨s3, es3⟩ : ∃ z, z = si s2 23 (0 : Int32) := ⟨_, rfl⟩
  replace h := lt_e h es3
  replace I : Iv G (va_A (wM G ad sa) s0.heap.size) s0 H locs (wM G ad s3) := by rw [es3]; exact I
  refine lv_aload_n hx hb dX12_village_15 rfl (lv_at hl 0 rfl) ?_
  refine lv_iconst (v := 0) hx hb dX12_village_16 (by decide) ?_
  refine pM_freshProposals XX I dX12_village_17 (fun H locs I => ?_)
  obtain ⟨s4, es4⟩ : ∃ z, z = si s3 24 (0 : Int32) := ⟨_, rfl⟩
  replace h := lt_e h es4
  replace I : Iv G (va_A (wM G ad sa) s0.heap.size) s0 H locs (wM G ad s4) := by rw [es4]; exact I
  refine lv_iconst (v := 0) hx hb dX12_village_20 (by decide) ?_
  refine lv_istore_n (lv' := [(1, .int (0 : Int32)), (0, .ref (ad 0))]) hx hb dX12_village_21 rfl hl (by decide) rfl (fun ls hl => ?_)
  exact C22 fu _ _ h _ _ I ls (lv_sub hl [1, 0] rfl)
set_option maxHeartbeats 4000000 in
set_option maxRecDepth 100000 in
theorem c_S_isMind (l : Launch) (G : g_G) (OK : EOk G.2.2) (x0 : Int32) (x1 : Int32) (r : Int32) (h : f_S_isMind x0 x1 = r) : HI l G yX12_isMind (Cond.code yX12_isMind cX12_isMind 2 (some .boolean) :: gT) { frames := 1, cells := 0, slots := 0, locals := 22 } .boolean [.int x0, .int x1] [] r [] := by
  refine HI.mk (lv := [(0, .int x0), (1, .int x1)]) OK (by decide) (Nat.le_of_ble_eq_true rfl) rfl ?_
  intro p e s0 m args below meth c ls XX hr I hl
  have hx := XX.x
  have hb := XX.b
  unfold f_S_isMind at h
  refine lv_iload_n hx hb dX12_isMind_0 rfl (lv_at hl 0 rfl) ?_
  refine lv_iconst (v := 0) hx hb dX12_isMind_1 (by decide) ?_
  refine lv_iconst (v := 5) hx hb dX12_isMind_2 (by decide) ?_
  refine scall_i (rest := []) XX I hl.1 (c_S_in l G OK x0 (0 : Int32) (5 : Int32) _ rfl) kS_X12_99 rfl rfl (Nat.le_of_ble_eq_true rfl) ⟨rfl, rfl, Nat.le_of_ble_eq_true rfl, Nat.le_of_ble_eq_true rfl⟩ ⟨Nat.zero_le _, Nat.zero_le _⟩ dX12_isMind_3 (fun H locs hz1 I => ?_)
  refine lv_if_eq (tgt := 24) hx hb dX12_isMind_6 (by decide) (fun c1 => ?_) (fun c1 => ?_)
  · replace h := if_t h c1
    refine lv_iconst (v := 0) hx hb dX12_isMind_24 (by decide) ?_
    subst h
    exact e_z XX hr I rfl rfl dX12_isMind_25
  · replace h := if_f h c1
    refine lv_iload_n hx hb dX12_isMind_9 rfl (lv_at hl 1 rfl) ?_
    refine lv_iconst (v := 0) hx hb dX12_isMind_10 (by decide) ?_
    refine lv_sipush (v := 255) hx hb dX12_isMind_11 (by decide) ?_
    refine scall_i (rest := []) XX I hl.1 (c_S_in l G OK x1 (0 : Int32) (255 : Int32) _ rfl) kS_X12_99 rfl rfl (Nat.le_of_ble_eq_true rfl) ⟨rfl, rfl, Nat.le_of_ble_eq_true rfl, Nat.le_of_ble_eq_true rfl⟩ ⟨Nat.zero_le _, Nat.zero_le _⟩ dX12_isMind_14 (fun H locs hz2 I => ?_)
    refine lv_if_eq (tgt := 24) hx hb dX12_isMind_17 (by decide) (fun c1 => ?_) (fun c1 => ?_)
    · replace h := if_t h c1
      refine lv_iconst (v := 0) hx hb dX12_isMind_24 (by decide) ?_
      subst h
      exact e_z XX hr I rfl rfl dX12_isMind_25
    · replace h := if_f h c1
      refine lv_iconst (v := 1) hx hb dX12_isMind_20 (by decide) ?_
      refine lv_goto (tgt := 25) hx hb dX12_isMind_21 (by decide) ?_
      subst h
      exact e_z XX hr I rfl rfl dX12_isMind_25
theorem kS_X12_234 : KS RX12 234 yX12_isMind cX12_isMind 2 (some .boolean) 2 := KS.mk wd_1217 wd_1218 wd_13 wd_1219 (by decide +kernel)
set_option maxHeartbeats 4000000 in
set_option maxRecDepth 100000 in
theorem c_M_person (l : Launch) (G : g_G) (OK : EOk G.2.2) (ad : Nat → Nat) (fu : Nat) (sa : g_St) (x1 : Int32) (x2 : Int32) (x3 : Int32) (x4 : Int32) (r : Int32) (ts : g_St) (h : f_M_person fu sa x1 x2 x3 x4 = some (r, ts)) : HI l G yX12_person (Cond.code yX12_person cX12_person 6 (some .int) :: gT) { frames := 2, cells := 0, slots := 0, locals := 43 } .int [.ref (ad 0), .int x1, .int x2, .int x3, .int x4] (wM G ad sa) r (wM G ad ts) := by
  refine HI.mk (lv := [(0, .ref (ad 0)), (1, .int x1), (2, .int x2), (3, .int x3), (4, .int x4)]) OK (by decide) (Nat.le_of_ble_eq_true rfl) rfl ?_
  intro p e s0 m args below meth c ls XX hr I hl
  have hx := XX.x
  have hb := XX.b
  have C97 : ∀ n : Nat, ∀ (s : g_St) (v5 : Int32), f_M_person_L97 fu n s v5 = some (r, ts) → ∀ (H : Heap) (locs : List Loc), Iv G (va_A (wM G ad sa) s0.heap.size) s0 H locs (wM G ad s) → ∀ ls, lv_has ls 6 [(0, .ref (ad 0)), (5, .int v5)] → W p l e { frames := 2, cells := 0, slots := 0, locals := 43 } s0 m args below meth c H locs 0 0 (QI G below .int r (wM G ad sa) (wM G ad ts) args s0) (F0 m 97 ls []) := by
    intro n
    induction n with
    | zero => intro s v5 h; exact absurd h (fun q => by cases q)
    | succ n ih =>
      intro s v5 h H locs I ls hl
      rw [f_M_person_L97] at h
      refine lv_iload hx hb dX12_person_97 (lv_at hl 1 rfl) ?_
      refine lv_bipush (v := 8) hx hb dX12_person_99 (by decide) ?_
      refine lv_icmp_ge (tgt := 126) hx hb dX12_person_101 (by decide) (fun c1 => ?_) (fun c1 => ?_)
      · replace h := if_t h c1
        refine lv_aload_n hx hb dX12_person_126 rfl (lv_at hl 0 rfl) ?_
        refine lv_dup hx hb dX12_person_127 rfl ?_
        refine gM_people XX I dX12_person_128 ?_
        refine lv_iconst (v := 1) hx hb dX12_person_131 (by decide) ?_
        refine lv_iadd hx hb dX12_person_132 ?_
        refine lv_topi (fun y14 ey14 => ?_)
        replace h := lt_e h ey14
        refine pM_people XX I dX12_person_133 (fun H locs I => ?_)
        obtain ⟨s15, es15⟩ : ∃ z, z = si s 0 y14 := ⟨_, rfl⟩
        replace h := lt_e h es15
        replace I : Iv G (va_A (wM G ad sa) s0.heap.size) s0 H locs (wM G ad s15) := by rw [es15]; exact I
        refine lv_aload_n hx hb dX12_person_136 rfl (lv_at hl 0 rfl) ?_
        refine gM_people XX I dX12_person_137 ?_
        refine lv_iconst (v := 1) hx hb dX12_person_140 (by decide) ?_
        refine lv_isub hx hb dX12_person_141 ?_
        obtain ⟨rfl, rfl⟩ := some2 h
        exact e_i rfl XX hr I rfl dX12_person_142
      · replace h := if_f h c1
        refine lv_aload_n hx hb dX12_person_104 rfl (lv_at hl 0 rfl) ?_
        refine gM_worth XX I dX12_person_105 ?_
        refine lv_bipush (v := 6) hx hb dX12_person_108 (by decide) ?_
        refine lv_iload hx hb dX12_person_110 (lv_at hl 1 rfl) ?_
        refine lv_imul hx hb dX12_person_112 ?_
        refine lv_aload_n hx hb dX12_person_113 rfl (lv_at hl 0 rfl) ?_
        refine gM_people XX I dX12_person_114 ?_
        refine lv_iadd hx hb dX12_person_117 ?_
        refine lv_iconst (v := 0) hx hb dX12_person_118 (by decide) ?_
        obtain ⟨g16, h⟩ := gd_some h
        refine r_iast XX I 6 (aM_worth) (sM_worth) g16 dX12_person_119 (fun H locs I => ?_)
        obtain ⟨s17, es17⟩ : ∃ z, z = sr s 7 (((6 : Int32) * v5) + (gi s 0)) (0 : Int32) := ⟨_, rfl⟩
        replace h := lt_e h es17
        replace I : Iv G (va_A (wM G ad sa) s0.heap.size) s0 H locs (wM G ad s17) := by rw [es17]; exact I
        obtain ⟨y18, ey18⟩ : ∃ z : Int32, z = v5 + (1 : Int32) := ⟨_, rfl⟩
        replace h := lt_e h ey18
        refine lv_iinc (v := y18) (lv' := [(5, .int y18), (0, .ref (ad 0))]) hx hb dX12_person_120 hl (k := 1) rfl (by rw [ey18]; rfl) (by decide) rfl (fun ls hl => ?_)
        refine lv_goto (tgt := 97) hx hb dX12_person_123 (by decide) ?_
        exact ih _ _ h _ _ I ls (lv_sub hl [1, 0] rfl)
  unfold f_M_person at h
  refine lv_iload_n hx hb dX12_person_0 rfl (lv_at hl 1 rfl) ?_
  refine lv_iload_n hx hb dX12_person_1 rfl (lv_at hl 2 rfl) ?_
  refine scall_i (rest := []) XX I hl.1 (c_S_isMind l G OK x1 x2 _ rfl) kS_X12_234 rfl rfl (Nat.le_of_ble_eq_true rfl) ⟨rfl, rfl, Nat.le_of_ble_eq_true rfl, Nat.le_of_ble_eq_true rfl⟩ ⟨Nat.zero_le _, Nat.zero_le _⟩ dX12_person_2 (fun H locs hz1 I => ?_)
  refine lv_if_eq (tgt := 29) hx hb dX12_person_5 (by decide) (fun c1 => ?_) (fun c1 => ?_)
  · replace h := if_t h c1
    refine lv_iconst (v := (-1)) hx hb dX12_person_29 (by decide) ?_
    obtain ⟨rfl, rfl⟩ := some2 h
    exact e_i rfl XX hr I rfl dX12_person_30
  · replace h := if_f h c1
    refine lv_iload_n hx hb dX12_person_8 rfl (lv_at hl 3 rfl) ?_
    refine lv_iconst (v := 0) hx hb dX12_person_9 (by decide) ?_
    refine lv_bipush (v := 99) hx hb dX12_person_10 (by decide) ?_
    refine scall_i (rest := []) XX I hl.1 (c_S_in l G OK x3 (0 : Int32) (99 : Int32) _ rfl) kS_X12_99 rfl rfl (Nat.le_of_ble_eq_true rfl) ⟨rfl, rfl, Nat.le_of_ble_eq_true rfl, Nat.le_of_ble_eq_true rfl⟩ ⟨Nat.zero_le _, Nat.zero_le _⟩ dX12_person_12 (fun H locs hz2 I => ?_)
    refine lv_if_eq (tgt := 29) hx hb dX12_person_15 (by decide) (fun c1 => ?_) (fun c1 => ?_)
    · replace h := if_t h c1
      refine lv_iconst (v := (-1)) hx hb dX12_person_29 (by decide) ?_
      obtain ⟨rfl, rfl⟩ := some2 h
      exact e_i rfl XX hr I rfl dX12_person_30
    · replace h := if_f h c1
      refine lv_iload hx hb dX12_person_18 (lv_at hl 4 rfl) ?_
      refine lv_iconst (v := 0) hx hb dX12_person_20 (by decide) ?_
      refine lv_bipush (v := 9) hx hb dX12_person_21 (by decide) ?_
      refine scall_i (rest := []) XX I hl.1 (c_S_in l G OK x4 (0 : Int32) (9 : Int32) _ rfl) kS_X12_99 rfl rfl (Nat.le_of_ble_eq_true rfl) ⟨rfl, rfl, Nat.le_of_ble_eq_true rfl, Nat.le_of_ble_eq_true rfl⟩ ⟨Nat.zero_le _, Nat.zero_le _⟩ dX12_person_23 (fun H locs hz3 I => ?_)
      refine lv_if_ne (tgt := 31) hx hb dX12_person_26 (by decide) (fun c1 => ?_) (fun c1 => ?_)
      · replace h := if_f h c1
        refine lv_aload_n hx hb dX12_person_31 rfl (lv_at hl 0 rfl) ?_
        refine gM_people XX I dX12_person_32 ?_
        refine lv_bipush (v := 6) hx hb dX12_person_35 (by decide) ?_
        refine lv_icmp_ne (tgt := 43) hx hb dX12_person_37 (by decide) (fun c1 => ?_) (fun c1 => ?_)
        · replace h := if_f h c1
          refine lv_aload_n hx hb dX12_person_43 rfl (lv_at hl 0 rfl) ?_
          refine gM_kindOf XX I dX12_person_44 ?_
          refine lv_aload_n hx hb dX12_person_47 rfl (lv_at hl 0 rfl) ?_
          refine gM_people XX I dX12_person_48 ?_
          refine lv_iload_n hx hb dX12_person_51 rfl (lv_at hl 1 rfl) ?_
          obtain ⟨g4, h⟩ := gd_some h
          refine r_iast XX I 1 (aM_kindOf) (sM_kindOf) g4 dX12_person_52 (fun H locs I => ?_)
          obtain ⟨s5, es5⟩ : ∃ z, z = sr sa 1 (gi sa 0) x1 := ⟨_, rfl⟩
          replace h := lt_e h es5
          replace I : Iv G (va_A (wM G ad sa) s0.heap.size) s0 H locs (wM G ad s5) := by rw [es5]; exact I
          refine lv_aload_n hx hb dX12_person_53 rfl (lv_at hl 0 rfl) ?_
          refine gM_aOf XX I dX12_person_54 ?_
          refine lv_aload_n hx hb dX12_person_57 rfl (lv_at hl 0 rfl) ?_
          refine gM_people XX I dX12_person_58 ?_
          refine lv_iload_n hx hb dX12_person_61 rfl (lv_at hl 2 rfl) ?_
          obtain ⟨g6, h⟩ := gd_some h
          refine r_iast XX I 2 (aM_aOf) (sM_aOf) g6 dX12_person_62 (fun H locs I => ?_)
          obtain ⟨s7, es7⟩ : ∃ z, z = sr s5 2 (gi s5 0) x2 := ⟨_, rfl⟩
          replace h := lt_e h es7
          replace I : Iv G (va_A (wM G ad sa) s0.heap.size) s0 H locs (wM G ad s7) := by rw [es7]; exact I
          refine lv_aload_n hx hb dX12_person_63 rfl (lv_at hl 0 rfl) ?_
          refine gM_age XX I dX12_person_64 ?_
          refine lv_aload_n hx hb dX12_person_67 rfl (lv_at hl 0 rfl) ?_
          refine gM_people XX I dX12_person_68 ?_
          refine lv_iload_n hx hb dX12_person_71 rfl (lv_at hl 3 rfl) ?_
          obtain ⟨g8, h⟩ := gd_some h
          refine r_iast XX I 3 (aM_age) (sM_age) g8 dX12_person_72 (fun H locs I => ?_)
          obtain ⟨s9, es9⟩ : ∃ z, z = sr s7 3 (gi s7 0) x3 := ⟨_, rfl⟩
          replace h := lt_e h es9
          replace I : Iv G (va_A (wM G ad sa) s0.heap.size) s0 H locs (wM G ad s9) := by rw [es9]; exact I
          refine lv_aload_n hx hb dX12_person_73 rfl (lv_at hl 0 rfl) ?_
          refine gM_row XX I dX12_person_74 ?_
          refine lv_aload_n hx hb dX12_person_77 rfl (lv_at hl 0 rfl) ?_
          refine gM_people XX I dX12_person_78 ?_
          refine lv_iload hx hb dX12_person_81 (lv_at hl 4 rfl) ?_
          obtain ⟨g10, h⟩ := gd_some h
          refine r_iast XX I 10 (aM_row) (sM_row) g10 dX12_person_83 (fun H locs I => ?_)
          obtain ⟨s11, es11⟩ : ∃ z, z = sr s9 11 (gi s9 0) x4 := ⟨_, rfl⟩
          replace h := lt_e h es11
          replace I : Iv G (va_A (wM G ad sa) s0.heap.size) s0 H locs (wM G ad s11) := by rw [es11]; exact I
          refine lv_aload_n hx hb dX12_person_84 rfl (lv_at hl 0 rfl) ?_
          refine gM_had XX I dX12_person_85 ?_
          refine lv_aload_n hx hb dX12_person_88 rfl (lv_at hl 0 rfl) ?_
          refine gM_people XX I dX12_person_89 ?_
          refine lv_iconst (v := 0) hx hb dX12_person_92 (by decide) ?_
          obtain ⟨g12, h⟩ := gd_some h
          refine r_iast XX I 4 (aM_had) (sM_had) g12 dX12_person_93 (fun H locs I => ?_)
          obtain ⟨s13, es13⟩ : ∃ z, z = sr s11 4 (gi s11 0) (0 : Int32) := ⟨_, rfl⟩
          replace h := lt_e h es13
          replace I : Iv G (va_A (wM G ad sa) s0.heap.size) s0 H locs (wM G ad s13) := by rw [es13]; exact I
          refine lv_iconst (v := 0) hx hb dX12_person_94 (by decide) ?_
          refine lv_istore (lv' := [(5, .int (0 : Int32)), (0, .ref (ad 0)), (1, .int x1), (2, .int x2), (3, .int x3), (4, .int x4)]) hx hb dX12_person_95 hl (by decide) rfl (fun ls hl => ?_)
          exact C97 fu _ _ h _ _ I ls (lv_sub hl [1, 0] rfl)
        · replace h := if_t h c1
          refine lv_bipush (v := (-2)) hx hb dX12_person_40 (by decide) ?_
          obtain ⟨rfl, rfl⟩ := some2 h
          exact e_i rfl XX hr I rfl dX12_person_42
      · replace h := if_t h c1
        refine lv_iconst (v := (-1)) hx hb dX12_person_29 (by decide) ?_
        obtain ⟨rfl, rfl⟩ := some2 h
        exact e_i rfl XX hr I rfl dX12_person_30
