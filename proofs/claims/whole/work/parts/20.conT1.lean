set_option maxHeartbeats 4000000 in
set_option maxRecDepth 100000 in
theorem c_S_within (l : Launch) (G : g_G) (OK : EOk G.2.2) (x0 : Int32) (x1 : Int32) (x2 : Int32) (r : Int32) (h : f_S_within x0 x1 x2 = r) : HI l G yX11_within (Cond.code yX11_within cX11_within 3 (some .boolean) :: gT) { frames := 0, cells := 0, slots := 0, locals := 0 } .boolean [.int x0, .int x1, .int x2] [] r [] := by
  refine HI.mk (lv := [(0, .int x0), (1, .int x1), (2, .int x2)]) OK (by decide) (Nat.le_of_ble_eq_true rfl) rfl ?_
  intro p e s0 m args below meth c ls XX hr I hl
  have hx := XX.x
  have hb := XX.b
  unfold f_S_within at h
  refine lv_iload_n hx hb dX11_within_0 rfl (lv_at hl 0 rfl) ?_
  refine lv_iload_n hx hb dX11_within_1 rfl (lv_at hl 1 rfl) ?_
  refine lv_icmp_lt (tgt := 14) hx hb dX11_within_2 (by decide) (fun c1 => ?_) (fun c1 => ?_)
  · replace h := if_t h c1
    refine lv_iconst (v := 0) hx hb dX11_within_14 (by decide) ?_
    subst h
    exact e_z XX hr I rfl rfl dX11_within_15
  · replace h := if_f h c1
    refine lv_iload_n hx hb dX11_within_5 rfl (lv_at hl 0 rfl) ?_
    refine lv_iload_n hx hb dX11_within_6 rfl (lv_at hl 2 rfl) ?_
    refine lv_icmp_gt (tgt := 14) hx hb dX11_within_7 (by decide) (fun c1 => ?_) (fun c1 => ?_)
    · replace h := if_t h c1
      refine lv_iconst (v := 0) hx hb dX11_within_14 (by decide) ?_
      subst h
      exact e_z XX hr I rfl rfl dX11_within_15
    · replace h := if_f h c1
      refine lv_iconst (v := 1) hx hb dX11_within_10 (by decide) ?_
      refine lv_goto (tgt := 15) hx hb dX11_within_11 (by decide) ?_
      subst h
      exact e_z XX hr I rfl rfl dX11_within_15
set_option maxHeartbeats 4000000 in
set_option maxRecDepth 100000 in
theorem c_S_nextLot (l : Launch) (G : g_G) (OK : EOk G.2.2) (x0 : Int32) (r : Int32) (h : f_S_nextLot x0 = r) : HI l G yX11_nextLot (Cond.code yX11_nextLot cX11_nextLot 1 (some .int) :: gT) { frames := 0, cells := 0, slots := 0, locals := 0 } .int [.int x0] [] r [] := by
  refine HI.mk (lv := [(0, .int x0)]) OK (by decide) (Nat.le_of_ble_eq_true rfl) rfl ?_
  intro p e s0 m args below meth c ls XX hr I hl
  have hx := XX.x
  have hb := XX.b
  unfold f_S_nextLot at h
  refine lv_iload_n hx hb dX11_nextLot_0 rfl (lv_at hl 0 rfl) ?_
  refine lv_ldcw (v := 1103515245) hx hb XX.o (XX.t _ wd_639) dX11_nextLot_1 ?_
  refine lv_imul hx hb dX11_nextLot_4 ?_
  refine lv_sipush (v := 12345) hx hb dX11_nextLot_5 (by decide) ?_
  refine lv_iadd hx hb dX11_nextLot_8 ?_
  subst h
  exact e_i rfl XX hr I rfl dX11_nextLot_9
theorem kS_X11_103 : KS RX11 103 yX11_within cX11_within 3 (some .boolean) 3 := KS.mk wd_338 wd_339 wd_1 wd_340 (by decide +kernel)
set_option maxHeartbeats 4000000 in
set_option maxRecDepth 100000 in
theorem c_S_mayBeLaw (l : Launch) (G : g_G) (OK : EOk G.2.2) (x0 : Int32) (x1 : Int32) (r : Int32) (h : f_S_mayBeLaw x0 x1 = r) : HI l G yX11_mayBeLaw (Cond.code yX11_mayBeLaw cX11_mayBeLaw 2 (some .boolean) :: gT) { frames := 1, cells := 0, slots := 0, locals := 22 } .boolean [.int x0, .int x1] [] r [] := by
  refine HI.mk (lv := [(0, .int x0), (1, .int x1)]) OK (by decide) (Nat.le_of_ble_eq_true rfl) rfl ?_
  intro p e s0 m args below meth c ls XX hr I hl
  have hx := XX.x
  have hb := XX.b
  unfold f_S_mayBeLaw at h
  refine lv_iload_n hx hb dX11_mayBeLaw_0 rfl (lv_at hl 0 rfl) ?_
  by_cases q0 : x0 = (0 : Int32)
  · replace h := if_t h q0
    refine lv_tableIn (tgt := 28) (off := 27) hx hb dX11_mayBeLaw_1 (by rw [q0]; decide) (by rw [q0]; decide) (by rw [q0]; rfl) (by decide) ?_
    refine lv_iload_n hx hb dX11_mayBeLaw_28 rfl (lv_at hl 1 rfl) ?_
    refine lv_iconst (v := 1) hx hb dX11_mayBeLaw_29 (by decide) ?_
    refine lv_iconst (v := 3) hx hb dX11_mayBeLaw_30 (by decide) ?_
    refine scall_i (rest := []) XX I hl.1 (c_S_within l G OK x1 (1 : Int32) (3 : Int32) _ rfl) kS_X11_103 rfl rfl (Nat.le_of_ble_eq_true rfl) ⟨rfl, rfl, Nat.le_of_ble_eq_true rfl, Nat.le_of_ble_eq_true rfl⟩ ⟨Nat.zero_le _, Nat.zero_le _⟩ dX11_mayBeLaw_31 (fun H locs hz1 I => ?_)
    subst h
    exact e_z XX hr I hz1 rfl dX11_mayBeLaw_34
  replace h := if_f h q0
  by_cases q1 : x0 = (1 : Int32)
  · replace h := if_t h q1
    refine lv_tableIn (tgt := 35) (off := 34) hx hb dX11_mayBeLaw_1 (by rw [q1]; decide) (by rw [q1]; decide) (by rw [q1]; rfl) (by decide) ?_
    refine lv_iload_n hx hb dX11_mayBeLaw_35 rfl (lv_at hl 1 rfl) ?_
    refine lv_iconst (v := 0) hx hb dX11_mayBeLaw_36 (by decide) ?_
    refine lv_iconst (v := 1) hx hb dX11_mayBeLaw_37 (by decide) ?_
    refine scall_i (rest := []) XX I hl.1 (c_S_within l G OK x1 (0 : Int32) (1 : Int32) _ rfl) kS_X11_103 rfl rfl (Nat.le_of_ble_eq_true rfl) ⟨rfl, rfl, Nat.le_of_ble_eq_true rfl, Nat.le_of_ble_eq_true rfl⟩ ⟨Nat.zero_le _, Nat.zero_le _⟩ dX11_mayBeLaw_38 (fun H locs hz2 I => ?_)
    subst h
    exact e_z XX hr I hz2 rfl dX11_mayBeLaw_41
  replace h := if_f h q1
  by_cases q2 : x0 = (2 : Int32)
  · replace h := if_t h q2
    refine lv_tableIn (tgt := 42) (off := 41) hx hb dX11_mayBeLaw_1 (by rw [q2]; decide) (by rw [q2]; decide) (by rw [q2]; rfl) (by decide) ?_
    refine lv_iload_n hx hb dX11_mayBeLaw_42 rfl (lv_at hl 1 rfl) ?_
    refine lv_iconst (v := 0) hx hb dX11_mayBeLaw_43 (by decide) ?_
    refine lv_bipush (v := 20) hx hb dX11_mayBeLaw_44 (by decide) ?_
    refine scall_i (rest := []) XX I hl.1 (c_S_within l G OK x1 (0 : Int32) (20 : Int32) _ rfl) kS_X11_103 rfl rfl (Nat.le_of_ble_eq_true rfl) ⟨rfl, rfl, Nat.le_of_ble_eq_true rfl, Nat.le_of_ble_eq_true rfl⟩ ⟨Nat.zero_le _, Nat.zero_le _⟩ dX11_mayBeLaw_46 (fun H locs hz3 I => ?_)
    subst h
    exact e_z XX hr I hz3 rfl dX11_mayBeLaw_49
  replace h := if_f h q2
  refine lv_tableOut (tgt := 50) hx hb dX11_mayBeLaw_1 (tab_out (lo := 0) (hi := 2) (fun k k1 k2 => by rcases (show k = 0 ∨ k = 1 ∨ k = 2 by omega) with rfl | rfl | rfl <;> assumption)) (by decide) ?_
  refine lv_iconst (v := 0) hx hb dX11_mayBeLaw_50 (by decide) ?_
  subst h
  exact e_z XX hr I rfl rfl dX11_mayBeLaw_51
set_option maxHeartbeats 4000000 in
set_option maxRecDepth 100000 in
theorem c_S_narrowed (l : Launch) (G : g_G) (OK : EOk G.2.2) (x0 : Int32) (x1 : Int32) (r : Int32) (h : f_S_narrowed x0 x1 = r) : HI l G yX11_narrowed (Cond.code yX11_narrowed cX11_narrowed 2 (some .int) :: gT) { frames := 0, cells := 0, slots := 0, locals := 0 } .int [.int x0, .int x1] [] r [] := by
  refine HI.mk (lv := [(0, .int x0), (1, .int x1)]) OK (by decide) (Nat.le_of_ble_eq_true rfl) rfl ?_
  intro p e s0 m args below meth c ls XX hr I hl
  have hx := XX.x
  have hb := XX.b
  unfold f_S_narrowed at h
  refine lv_iload_n hx hb dX11_narrowed_0 rfl (lv_at hl 1 rfl) ?_
  refine lv_if_ne (tgt := 7) hx hb dX11_narrowed_1 (by decide) (fun c1 => ?_) (fun c1 => ?_)
  · replace h := if_f h c1
    refine lv_iload_n hx hb dX11_narrowed_7 rfl (lv_at hl 1 rfl) ?_
    refine lv_iconst (v := 1) hx hb dX11_narrowed_8 (by decide) ?_
    refine lv_icmp_ne (tgt := 15) hx hb dX11_narrowed_9 (by decide) (fun c1 => ?_) (fun c1 => ?_)
    · replace h := if_f h c1
      refine lv_iload_n hx hb dX11_narrowed_15 rfl (lv_at hl 0 rfl) ?_
      subst h
      exact e_i rfl XX hr I rfl dX11_narrowed_16
    · replace h := if_t h c1
      refine lv_iload_n hx hb dX11_narrowed_12 rfl (lv_at hl 0 rfl) ?_
      refine lv_i2s hx hb dX11_narrowed_13 rfl ?_
      subst h
      exact e_i rfl XX hr I rfl dX11_narrowed_14
  · replace h := if_t h c1
    refine lv_iload_n hx hb dX11_narrowed_4 rfl (lv_at hl 0 rfl) ?_
    refine lv_i2b hx hb dX11_narrowed_5 rfl ?_
    subst h
    exact e_i rfl XX hr I rfl dX11_narrowed_6
set_option maxHeartbeats 4000000 in
set_option maxRecDepth 100000 in
theorem c_S_commonDivisor (l : Launch) (G : g_G) (OK : EOk G.2.2) (fu : Nat) (x0 : Int64) (x2 : Int64) (r : Int64) (h : f_S_commonDivisor fu x0 x2 = some r) : HL l G yX11_commonDivisor (Cond.code yX11_commonDivisor cX11_commonDivisor 11 (some .long) :: gT) { frames := 0, cells := 0, slots := 0, locals := 0 } [.long x0, .long x2] [] r [] := by
  refine HL.mk (lv := [(0, .long x0), (2, .long x2)]) OK (by decide) (Nat.le_of_ble_eq_true rfl) rfl ?_
  intro p e s0 m args below meth c ls XX hr I hl
  have hx := XX.x
  have hb := XX.b
  have C9 : ∀ n : Nat, ∀ (v4 : Int64) (v6 : Int64) (v8 : Int32), f_S_commonDivisor_L9 fu n v4 v6 v8 = some r → ∀ (H : Heap) (locs : List Loc), Iv G (va_A [] s0.heap.size) s0 H locs [] → ∀ ls, lv_has ls 11 [(4, .long v4), (6, .long v6), (8, .int v8)] → W p l e { frames := 0, cells := 0, slots := 0, locals := 0 } s0 m args below meth c H locs 0 0 (QL G below r [] [] args s0) (F0 m 9 ls []) := by
    intro n
    induction n with
    | zero => intro v4 v6 v8 h; exact absurd h (fun q => by cases q)
    | succ n ih =>
      intro v4 v6 v8 h H locs I ls hl
      rw [f_S_commonDivisor_L9] at h
      refine lv_iload hx hb dX11_commonDivisor_9 (lv_at hl 2 rfl) ?_
      refine lv_bipush (v := 100) hx hb dX11_commonDivisor_11 (by decide) ?_
      refine lv_icmp_ge (tgt := 44) hx hb dX11_commonDivisor_13 (by decide) (fun c1 => ?_) (fun c1 => ?_)
      · replace h := if_t h c1
        refine lv_lload hx hb dX11_commonDivisor_44 (lv_at hl 0 rfl) ?_
        obtain rfl := some1 h
        exact e_l XX hr I rfl dX11_commonDivisor_46
      · replace h := if_f h c1
        refine lv_lload hx hb dX11_commonDivisor_16 (lv_at hl 1 rfl) ?_
        refine lv_lconst (v := 0) hx hb dX11_commonDivisor_18 (by decide) ?_
        refine W.lcmp hx hb dX11_commonDivisor_19 ?_
        refine lv_if_eq (tgt := 44) hx hb dX11_commonDivisor_20 (by decide) (fun c1 => ?_) (fun c1 => ?_)
        · replace h := if_t h c1
          refine lv_lload hx hb dX11_commonDivisor_44 (lv_at hl 0 rfl) ?_
          obtain rfl := some1 h
          exact e_l XX hr I rfl dX11_commonDivisor_46
        · replace h := if_f h c1
          refine lv_lload hx hb dX11_commonDivisor_23 (lv_at hl 0 rfl) ?_
          refine lv_lload hx hb dX11_commonDivisor_25 (lv_at hl 1 rfl) ?_
          obtain ⟨g1, h⟩ := gd_some h
          refine lv_lrem hx hb dX11_commonDivisor_27 g1 ?_
          refine lv_topl (fun y2 ey2 => ?_)
          replace h := lt_e h ey2
          refine lv_lstore (lv' := [(9, .long y2), (4, .long v4), (6, .long v6), (8, .int v8)]) hx hb dX11_commonDivisor_28 hl (by decide) rfl (fun ls hl => ?_)
          refine lv_lload hx hb dX11_commonDivisor_30 (lv_at hl 2 rfl) ?_
          refine lv_lstore (lv' := [(4, .long v6), (9, .long y2), (6, .long v6), (8, .int v8)]) hx hb dX11_commonDivisor_32 hl (by decide) rfl (fun ls hl => ?_)
          refine lv_lload hx hb dX11_commonDivisor_34 (lv_at hl 1 rfl) ?_
          refine lv_lstore (lv' := [(6, .long y2), (4, .long v6), (9, .long y2), (8, .int v8)]) hx hb dX11_commonDivisor_36 hl (by decide) rfl (fun ls hl => ?_)
          obtain ⟨y3, ey3⟩ : ∃ z : Int32, z = v8 + (1 : Int32) := ⟨_, rfl⟩
          replace h := lt_e h ey3
          refine lv_iinc (v := y3) (lv' := [(8, .int y3), (6, .long y2), (4, .long v6), (9, .long y2)]) hx hb dX11_commonDivisor_38 hl (k := 3) rfl (by rw [ey3]; rfl) (by decide) rfl (fun ls hl => ?_)
          refine lv_goto (tgt := 9) hx hb dX11_commonDivisor_41 (by decide) ?_
          exact ih _ _ _ h _ _ I ls (lv_sub hl [2, 1, 0] rfl)
  unfold f_S_commonDivisor at h
  refine lv_lload_n hx hb dX11_commonDivisor_0 rfl (lv_at hl 0 rfl) ?_
  refine lv_lstore (lv' := [(4, .long x0), (0, .long x0), (2, .long x2)]) hx hb dX11_commonDivisor_1 hl (by decide) rfl (fun ls hl => ?_)
  refine lv_lload_n hx hb dX11_commonDivisor_3 rfl (lv_at hl 2 rfl) ?_
  refine lv_lstore (lv' := [(6, .long x2), (4, .long x0), (0, .long x0), (2, .long x2)]) hx hb dX11_commonDivisor_4 hl (by decide) rfl (fun ls hl => ?_)
  refine lv_iconst (v := 0) hx hb dX11_commonDivisor_6 (by decide) ?_
  refine lv_istore (lv' := [(8, .int (0 : Int32)), (6, .long x2), (4, .long x0), (0, .long x0), (2, .long x2)]) hx hb dX11_commonDivisor_7 hl (by decide) rfl (fun ls hl => ?_)
  exact C9 fu _ _ _ h _ _ I ls (lv_sub hl [2, 1, 0] rfl)
theorem kS_X11_327 : KS RX11 327 yX11_commonDivisor cX11_commonDivisor 11 (some .long) 2 := KS.mk wd_692 wd_693 wd_1 wd_694 (by decide +kernel)
set_option maxHeartbeats 4000000 in
set_option maxRecDepth 100000 in
theorem c_S_partOf (l : Launch) (G : g_G) (OK : EOk G.2.2) (fu : Nat) (x0 : Int64) (x2 : Int64) (x4 : Int32) (r : Int64) (h : f_S_partOf fu x0 x2 x4 = some r) : HL l G yX11_partOf (Cond.code yX11_partOf cX11_partOf 7 (some .long) :: gT) { frames := 1, cells := 0, slots := 0, locals := 30 } [.long x0, .long x2, .int x4] [] r [] := by
  refine HL.mk (lv := [(0, .long x0), (2, .long x2), (4, .int x4)]) OK (by decide) (Nat.le_of_ble_eq_true rfl) rfl ?_
  intro p e s0 m args below meth c ls XX hr I hl
  have hx := XX.x
  have hb := XX.b
  unfold f_S_partOf at h
  refine lv_lload_n hx hb dX11_partOf_0 rfl (lv_at hl 0 rfl) ?_
  refine r_absL XX hl.1 wd_689 (Nat.le_of_ble_eq_true rfl) (Nat.le_of_ble_eq_true rfl) (Nat.zero_le _) (Nat.zero_le _) dX11_partOf_1 ?_
  refine lv_lload_n hx hb dX11_partOf_4 rfl (lv_at hl 1 rfl) ?_
  obtain ⟨r1, q2, h⟩ := bd1_some h
  refine scall_l (rest := []) XX I hl.1 (c_S_commonDivisor l G OK fu (if 0 < x0 then x0 else -x0) x2 r1 q2) kS_X11_327 rfl rfl (Nat.le_of_ble_eq_true rfl) ⟨rfl, rfl, Nat.le_of_ble_eq_true rfl, Nat.le_of_ble_eq_true rfl⟩ ⟨Nat.zero_le _, Nat.zero_le _⟩ dX11_partOf_5 (fun H locs I => ?_)
  refine lv_lstore (lv' := [(5, .long r1), (0, .long x0), (2, .long x2), (4, .int x4)]) hx hb dX11_partOf_8 hl (by decide) rfl (fun ls hl => ?_)
  refine lv_lload hx hb dX11_partOf_10 (lv_at hl 0 rfl) ?_
  refine lv_lconst (v := 0) hx hb dX11_partOf_12 (by decide) ?_
  refine W.lcmp hx hb dX11_partOf_13 ?_
  refine lv_if_ne (tgt := 19) hx hb dX11_partOf_14 (by decide) (fun c1 => ?_) (fun c1 => ?_)
  · replace h := if_f h c1
    refine lv_iload hx hb dX11_partOf_19 (lv_at hl 3 rfl) ?_
    refine lv_if_ne (tgt := 28) hx hb dX11_partOf_21 (by decide) (fun c1 => ?_) (fun c1 => ?_)
    · replace h := if_f h c1
      refine lv_lload_n hx hb dX11_partOf_28 rfl (lv_at hl 2 rfl) ?_
      refine lv_lload hx hb dX11_partOf_29 (lv_at hl 0 rfl) ?_
      obtain ⟨g4, h⟩ := gd_some h
      refine lv_ldiv hx hb dX11_partOf_31 g4 ?_
      obtain rfl := some1 h
      exact e_l XX hr I rfl dX11_partOf_32
    · replace h := if_t h c1
      refine lv_lload_n hx hb dX11_partOf_24 rfl (lv_at hl 1 rfl) ?_
      refine lv_goto (tgt := 29) hx hb dX11_partOf_25 (by decide) ?_
      refine lv_lload hx hb dX11_partOf_29 (lv_at hl 0 rfl) ?_
      obtain ⟨g5, h⟩ := gd_some h
      refine lv_ldiv hx hb dX11_partOf_31 g5 ?_
      obtain rfl := some1 h
      exact e_l XX hr I rfl dX11_partOf_32
  · replace h := if_t h c1
    refine lv_lconst (v := 0) hx hb dX11_partOf_17 (by decide) ?_
    obtain rfl := some1 h
    exact e_l XX hr I rfl dX11_partOf_18
theorem kV_X6_141 : KV RX6 141 RJ0 yJ0_length_8abf5 cJ0_length_8abf5 1 (some .int) 0 := KV.mk wd_384 wd_385 wd_386 wd_16 wd_387 (by decide +kernel)
theorem kV_X6_145 : KV RX6 145 RJ0 yJ0_charAt_5068e cJ0_charAt_5068e 2 (some .char) 1 := KV.mk wd_394 wd_395 wd_396 wd_16 wd_397 (by decide +kernel)
theorem gT_X6_o0_token {p : Program} {l : Launch} {e : Env} {R : Room} {s0 : State} {m : MethodId} {args : Array Value} {below : List Frame} {meth : Method} {c : Code} {H : Heap} {locs : List Loc} {cells slots : Nat} {Q : State → Prop} {cc : ByteArray} {nL pc : Nat} {ls : Array Slot} {rest : List Value} {G : g_G} {A : Nat → Prop} {ra : Nat → Nat} {ma : Nat → Nat} {rd : g_St} {md : g_St} (XX : Cx G A p s0 m meth c cc nL RX6 args) (I : Iv G A s0 H locs (bT G ra ma rd ++ (bV G ma md ++ []))) (hdg : decode cc pc = .ok (.getfield 29, 3)) (kk : W p l e R s0 m args below meth c H locs cells slots Q (F0 m (pc + 3) ls (.int (gi rd 4) :: rest))) : W p l e R s0 m args below meth c H locs cells slots Q (F0 m pc ls (.ref (ra 0) :: rest)) := r_get kfX6 XX I 0 rfl 4 (Nat.le_of_ble_eq_true rfl) wd_135 rfl hdg kk
theorem gT_X6_o0_at {p : Program} {l : Launch} {e : Env} {R : Room} {s0 : State} {m : MethodId} {args : Array Value} {below : List Frame} {meth : Method} {c : Code} {H : Heap} {locs : List Loc} {cells slots : Nat} {Q : State → Prop} {cc : ByteArray} {nL pc : Nat} {ls : Array Slot} {rest : List Value} {G : g_G} {A : Nat → Prop} {ra : Nat → Nat} {ma : Nat → Nat} {rd : g_St} {md : g_St} (XX : Cx G A p s0 m meth c cc nL RX6 args) (I : Iv G A s0 H locs (bT G ra ma rd ++ (bV G ma md ++ []))) (hdg : decode cc pc = .ok (.getfield 26, 3)) (kk : W p l e R s0 m args below meth c H locs cells slots Q (F0 m (pc + 3) ls (.int (gi rd 3) :: rest))) : W p l e R s0 m args below meth c H locs cells slots Q (F0 m pc ls (.ref (ra 0) :: rest)) := r_get kfX6 XX I 0 rfl 3 (Nat.le_of_ble_eq_true rfl) wd_134 rfl hdg kk
theorem gT_X6_o0_start {p : Program} {l : Launch} {e : Env} {R : Room} {s0 : State} {m : MethodId} {args : Array Value} {below : List Frame} {meth : Method} {c : Code} {H : Heap} {locs : List Loc} {cells slots : Nat} {Q : State → Prop} {cc : ByteArray} {nL pc : Nat} {ls : Array Slot} {rest : List Value} {G : g_G} {A : Nat → Prop} {ra : Nat → Nat} {ma : Nat → Nat} {rd : g_St} {md : g_St} (XX : Cx G A p s0 m meth c cc nL RX6 args) (I : Iv G A s0 H locs (bT G ra ma rd ++ (bV G ma md ++ []))) (hdg : decode cc pc = .ok (.getfield 32, 3)) (kk : W p l e R s0 m args below meth c H locs cells slots Q (F0 m (pc + 3) ls (.int (gi rd 5) :: rest))) : W p l e R s0 m args below meth c H locs cells slots Q (F0 m pc ls (.ref (ra 0) :: rest)) := r_get kfX6 XX I 0 rfl 5 (Nat.le_of_ble_eq_true rfl) wd_136 rfl hdg kk
theorem gT_X6_o0_bytes {p : Program} {l : Launch} {e : Env} {R : Room} {s0 : State} {m : MethodId} {args : Array Value} {below : List Frame} {meth : Method} {c : Code} {H : Heap} {locs : List Loc} {cells slots : Nat} {Q : State → Prop} {cc : ByteArray} {nL pc : Nat} {ls : Array Slot} {rest : List Value} {G : g_G} {A : Nat → Prop} {ra : Nat → Nat} {ma : Nat → Nat} {rd : g_St} {md : g_St} (XX : Cx G A p s0 m meth c cc nL RX6 args) (I : Iv G A s0 H locs (bT G ra ma rd ++ (bV G ma md ++ []))) (hdg : decode cc pc = .ok (.getfield 18, 3)) (kk : W p l e R s0 m args below meth c H locs cells slots Q (F0 m (pc + 3) ls (.ref (ra 2) :: rest))) : W p l e R s0 m args below meth c H locs cells slots Q (F0 m pc ls (.ref (ra 0) :: rest)) := r_get kfX6 XX I 0 rfl 1 (Nat.le_of_ble_eq_true rfl) wd_132 rfl hdg kk
theorem aT_bytes0 {G : g_G} {ra : Nat → Nat} {ma : Nat → Nat} {rd : g_St} {md : g_St} : (bT G ra ma rd ++ (bV G ma md ++ []))[1]? = some (ra 2, .inl (G.2.1 0, 240, .inl (gr rd 1))) := rfl
theorem sT_bytes0 {G : g_G} {ra : Nat → Nat} {ma : Nat → Nat} {rd : g_St} {md : g_St} {i : Int32} {x : Int32} : (bT G ra ma rd ++ (bV G ma md ++ [])).set 1 (ra 2, .inl (G.2.1 0, 240, .inl (upd (gr rd 1) i.toNatClampNeg x))) = (bT G ra ma (sr rd 1 i x) ++ (bV G ma md ++ [])) := rfl
set_option maxHeartbeats 4000000 in
set_option maxRecDepth 100000 in
theorem c_T_isName_sayer (l : Launch) (G : g_G) (OK : EOk G.2.2) (adK adV : Nat → Nat) (hX : HX G adK adV) (ra : Nat → Nat) (ma : Nat → Nat) (fu : Nat) (rda : g_St) (mda : g_St) (r : Int32) (h : f_T_isName_sayer fu rda = some r) : HI l G yX6_isName (Cond.code yX6_isName cX6_isName 3 (some .boolean) :: gT) { frames := 4, cells := 0, slots := 0, locals := 85 } .boolean [.ref (ra 0), .ref (adK 0)] (bT G ra ma rda ++ (bV G ma mda ++ [])) r (bT G ra ma rda ++ (bV G ma mda ++ [])) := by
  refine HI.mk (lv := [(0, .ref (ra 0)), (1, .ref (adK 0))]) OK (by decide) (Nat.le_of_ble_eq_true rfl) rfl ?_
  intro p e s0 m args below meth c ls XX hr I hl
  have hx := XX.x
  have hb := XX.b
  have E := hX _ _ _ XX.E
  have C28 : ∀ n : Nat, ∀ (v2 : Int32), f_T_isName_sayer_L28 fu n rda v2 = some r → ∀ (H : Heap) (locs : List Loc), Iv G (va_A (bT G ra ma rda ++ (bV G ma mda ++ [])) s0.heap.size) s0 H locs (bT G ra ma rda ++ (bV G ma mda ++ [])) → ∀ ls, lv_has ls 3 [(0, .ref (ra 0)), (1, .ref (adK 0)), (2, .int v2)] → W p l e { frames := 4, cells := 0, slots := 0, locals := 85 } s0 m args below meth c H locs 0 0 (QI G below .boolean r (bT G ra ma rda ++ (bV G ma mda ++ [])) (bT G ra ma rda ++ (bV G ma mda ++ [])) args s0) (F0 m 28 ls []) := by
    intro n
    induction n with
    | zero => intro v2 h; exact absurd h (fun q => by cases q)
    | succ n ih =>
      intro v2 h H locs I ls hl
      rw [f_T_isName_sayer_L28] at h
      refine lv_iload_n hx hb dX6_isName_28 rfl (lv_at hl 2 rfl) ?_
      refine lv_aload_n hx hb dX6_isName_29 rfl (lv_at hl 1 rfl) ?_
      refine call_i (X := []) (wc := []) (Y := (bT G ra ma rda ++ (bV G ma mda ++ []))) (rest := [.int v2]) XX I hl.1 (j_length l G OK adK adV hX 0 (by decide) 5 rfl (by decide)) kV_X6_141 (rc_str E (by decide) I) rfl rfl (Nat.le_of_ble_eq_true rfl) ⟨rfl, rfl, Nat.le_of_ble_eq_true rfl, Nat.le_of_ble_eq_true rfl⟩ ⟨Nat.zero_le _, Nat.zero_le _⟩ dX6_isName_30 (fun H locs hz I => ?_)
      replace I : Iv G (va_A (bT G ra ma rda ++ (bV G ma mda ++ [])) s0.heap.size) s0 H locs (bT G ra ma rda ++ (bV G ma mda ++ [])) := I
      refine lv_icmp_ge (tgt := 63) hx hb dX6_isName_33 (by decide) (fun c1 => ?_) (fun c1 => ?_)
      · replace h := if_t h c1
        refine lv_iconst (v := 1) hx hb dX6_isName_63 (by decide) ?_
        obtain rfl := some1 h
        exact e_z XX hr I rfl rfl dX6_isName_64
      · replace h := if_f h c1
        refine lv_aload_n hx hb dX6_isName_36 rfl (lv_at hl 0 rfl) ?_
        refine gT_X6_o0_bytes XX I dX6_isName_37 ?_
        refine lv_aload_n hx hb dX6_isName_40 rfl (lv_at hl 0 rfl) ?_
        refine gT_X6_o0_start XX I dX6_isName_41 ?_
        refine lv_iload_n hx hb dX6_isName_44 rfl (lv_at hl 2 rfl) ?_
        refine lv_iadd hx hb dX6_isName_45 ?_
        obtain ⟨g1, h⟩ := gd_some h
        refine r_iald XX I 1 (aT_bytes0) g1 dX6_isName_46 ?_
        refine lv_aload_n hx hb dX6_isName_47 rfl (lv_at hl 1 rfl) ?_
        refine lv_iload_n hx hb dX6_isName_48 rfl (lv_at hl 2 rfl) ?_
        obtain ⟨g2, h⟩ := gd_some h
        refine call_i (X := []) (wc := []) (Y := (bT G ra ma rda ++ (bV G ma mda ++ []))) (rest := [.int (gr rda 1 ((gi rda 5) + v2).toNatClampNeg)]) XX I hl.1 (j_charAt l G OK adK adV hX 0 (by decide) 5 v2 rfl g2 (vin_neg g2) (vin_ltI g2 (by decide))) kV_X6_145 (rc_str E (by decide) I) rfl rfl (Nat.le_of_ble_eq_true rfl) ⟨rfl, rfl, Nat.le_of_ble_eq_true rfl, Nat.le_of_ble_eq_true rfl⟩ ⟨Nat.zero_le _, Nat.zero_le _⟩ dX6_isName_49 (fun H locs hz I => ?_)
        replace I : Iv G (va_A (bT G ra ma rda ++ (bV G ma mda ++ [])) s0.heap.size) s0 H locs (bT G ra ma rda ++ (bV G ma mda ++ [])) := I
        refine lv_icmp_eq (tgt := 57) hx hb dX6_isName_52 (by decide) (fun c1 => ?_) (fun c1 => ?_)
        · replace h := if_t h c1
          obtain ⟨y3, ey3⟩ : ∃ z : Int32, z = v2 + (1 : Int32) := ⟨_, rfl⟩
          replace h := lt_e h ey3
          refine lv_iinc (v := y3) (lv' := [(2, .int y3), (0, .ref (ra 0)), (1, .ref (adK 0))]) hx hb dX6_isName_57 hl (k := 2) rfl (by rw [ey3]; rfl) (by decide) rfl (fun ls hl => ?_)
          refine lv_goto (tgt := 28) hx hb dX6_isName_60 (by decide) ?_
          exact ih _ h _ _ I ls (lv_sub hl [1, 2, 0] rfl)
        · replace h := if_f h c1
          refine lv_iconst (v := 0) hx hb dX6_isName_55 (by decide) ?_
          obtain rfl := some1 h
          exact e_z XX hr I rfl rfl dX6_isName_56
  unfold f_T_isName_sayer at h
  refine lv_aload_n hx hb dX6_isName_0 rfl (lv_at hl 0 rfl) ?_
  refine gT_X6_o0_token XX I dX6_isName_1 ?_
  refine lv_iconst (v := 1) hx hb dX6_isName_4 (by decide) ?_
  refine lv_icmp_ne (tgt := 24) hx hb dX6_isName_5 (by decide) (fun c1 => ?_) (fun c1 => ?_)
  · replace h := if_f h c1
    refine lv_iconst (v := 0) hx hb dX6_isName_24 (by decide) ?_
    obtain rfl := some1 h
    exact e_z XX hr I rfl rfl dX6_isName_25
  · replace h := if_t h c1
    refine lv_aload_n hx hb dX6_isName_8 rfl (lv_at hl 0 rfl) ?_
    refine gT_X6_o0_at XX I dX6_isName_9 ?_
    refine lv_aload_n hx hb dX6_isName_12 rfl (lv_at hl 0 rfl) ?_
    refine gT_X6_o0_start XX I dX6_isName_13 ?_
    refine lv_isub hx hb dX6_isName_16 ?_
    refine lv_aload_n hx hb dX6_isName_17 rfl (lv_at hl 1 rfl) ?_
    refine call_i (X := []) (wc := []) (Y := (bT G ra ma rda ++ (bV G ma mda ++ []))) (rest := [.int ((gi rda 3) - (gi rda 5))]) XX I hl.1 (j_length l G OK adK adV hX 0 (by decide) 5 rfl (by decide)) kV_X6_141 (rc_str E (by decide) I) rfl rfl (Nat.le_of_ble_eq_true rfl) ⟨rfl, rfl, Nat.le_of_ble_eq_true rfl, Nat.le_of_ble_eq_true rfl⟩ ⟨Nat.zero_le _, Nat.zero_le _⟩ dX6_isName_18 (fun H locs hz I => ?_)
    replace I : Iv G (va_A (bT G ra ma rda ++ (bV G ma mda ++ [])) s0.heap.size) s0 H locs (bT G ra ma rda ++ (bV G ma mda ++ [])) := I
    refine lv_icmp_eq (tgt := 26) hx hb dX6_isName_21 (by decide) (fun c1 => ?_) (fun c1 => ?_)
    · replace h := if_t h c1
      refine lv_iconst (v := 0) hx hb dX6_isName_26 (by decide) ?_
      refine lv_istore_n (lv' := [(2, .int (0 : Int32)), (0, .ref (ra 0)), (1, .ref (adK 0))]) hx hb dX6_isName_27 rfl hl (by decide) rfl (fun ls hl => ?_)
      exact C28 fu _ h _ _ I ls (lv_sub hl [1, 2, 0] rfl)
    · replace h := if_f h c1
      refine lv_iconst (v := 0) hx hb dX6_isName_24 (by decide) ?_
      obtain rfl := some1 h
      exact e_z XX hr I rfl rfl dX6_isName_25
set_option maxHeartbeats 4000000 in
set_option maxRecDepth 100000 in
theorem c_T_isName_quick (l : Launch) (G : g_G) (OK : EOk G.2.2) (adK adV : Nat → Nat) (hX : HX G adK adV) (ra : Nat → Nat) (ma : Nat → Nat) (fu : Nat) (rda : g_St) (mda : g_St) (r : Int32) (h : f_T_isName_quick fu rda = some r) : HI l G yX6_isName (Cond.code yX6_isName cX6_isName 3 (some .boolean) :: gT) { frames := 4, cells := 0, slots := 0, locals := 85 } .boolean [.ref (ra 0), .ref (adK 1)] (bT G ra ma rda ++ (bV G ma mda ++ [])) r (bT G ra ma rda ++ (bV G ma mda ++ [])) := by
  refine HI.mk (lv := [(0, .ref (ra 0)), (1, .ref (adK 1))]) OK (by decide) (Nat.le_of_ble_eq_true rfl) rfl ?_
  intro p e s0 m args below meth c ls XX hr I hl
  have hx := XX.x
  have hb := XX.b
  have E := hX _ _ _ XX.E
  have C28 : ∀ n : Nat, ∀ (v2 : Int32), f_T_isName_quick_L28 fu n rda v2 = some r → ∀ (H : Heap) (locs : List Loc), Iv G (va_A (bT G ra ma rda ++ (bV G ma mda ++ [])) s0.heap.size) s0 H locs (bT G ra ma rda ++ (bV G ma mda ++ [])) → ∀ ls, lv_has ls 3 [(0, .ref (ra 0)), (1, .ref (adK 1)), (2, .int v2)] → W p l e { frames := 4, cells := 0, slots := 0, locals := 85 } s0 m args below meth c H locs 0 0 (QI G below .boolean r (bT G ra ma rda ++ (bV G ma mda ++ [])) (bT G ra ma rda ++ (bV G ma mda ++ [])) args s0) (F0 m 28 ls []) := by
    intro n
    induction n with
    | zero => intro v2 h; exact absurd h (fun q => by cases q)
    | succ n ih =>
      intro v2 h H locs I ls hl
      rw [f_T_isName_quick_L28] at h
      refine lv_iload_n hx hb dX6_isName_28 rfl (lv_at hl 2 rfl) ?_
      refine lv_aload_n hx hb dX6_isName_29 rfl (lv_at hl 1 rfl) ?_
      refine call_i (X := []) (wc := []) (Y := (bT G ra ma rda ++ (bV G ma mda ++ []))) (rest := [.int v2]) XX I hl.1 (j_length l G OK adK adV hX 1 (by decide) 5 rfl (by decide)) kV_X6_141 (rc_str E (by decide) I) rfl rfl (Nat.le_of_ble_eq_true rfl) ⟨rfl, rfl, Nat.le_of_ble_eq_true rfl, Nat.le_of_ble_eq_true rfl⟩ ⟨Nat.zero_le _, Nat.zero_le _⟩ dX6_isName_30 (fun H locs hz I => ?_)
      replace I : Iv G (va_A (bT G ra ma rda ++ (bV G ma mda ++ [])) s0.heap.size) s0 H locs (bT G ra ma rda ++ (bV G ma mda ++ [])) := I
      refine lv_icmp_ge (tgt := 63) hx hb dX6_isName_33 (by decide) (fun c1 => ?_) (fun c1 => ?_)
      · replace h := if_t h c1
        refine lv_iconst (v := 1) hx hb dX6_isName_63 (by decide) ?_
        obtain rfl := some1 h
        exact e_z XX hr I rfl rfl dX6_isName_64
      · replace h := if_f h c1
        refine lv_aload_n hx hb dX6_isName_36 rfl (lv_at hl 0 rfl) ?_
        refine gT_X6_o0_bytes XX I dX6_isName_37 ?_
        refine lv_aload_n hx hb dX6_isName_40 rfl (lv_at hl 0 rfl) ?_
        refine gT_X6_o0_start XX I dX6_isName_41 ?_
        refine lv_iload_n hx hb dX6_isName_44 rfl (lv_at hl 2 rfl) ?_
        refine lv_iadd hx hb dX6_isName_45 ?_
        obtain ⟨g1, h⟩ := gd_some h
        refine r_iald XX I 1 (aT_bytes0) g1 dX6_isName_46 ?_
        refine lv_aload_n hx hb dX6_isName_47 rfl (lv_at hl 1 rfl) ?_
        refine lv_iload_n hx hb dX6_isName_48 rfl (lv_at hl 2 rfl) ?_
        obtain ⟨g2, h⟩ := gd_some h
        refine call_i (X := []) (wc := []) (Y := (bT G ra ma rda ++ (bV G ma mda ++ []))) (rest := [.int (gr rda 1 ((gi rda 5) + v2).toNatClampNeg)]) XX I hl.1 (j_charAt l G OK adK adV hX 1 (by decide) 5 v2 rfl g2 (vin_neg g2) (vin_ltI g2 (by decide))) kV_X6_145 (rc_str E (by decide) I) rfl rfl (Nat.le_of_ble_eq_true rfl) ⟨rfl, rfl, Nat.le_of_ble_eq_true rfl, Nat.le_of_ble_eq_true rfl⟩ ⟨Nat.zero_le _, Nat.zero_le _⟩ dX6_isName_49 (fun H locs hz I => ?_)
        replace I : Iv G (va_A (bT G ra ma rda ++ (bV G ma mda ++ [])) s0.heap.size) s0 H locs (bT G ra ma rda ++ (bV G ma mda ++ [])) := I
        refine lv_icmp_eq (tgt := 57) hx hb dX6_isName_52 (by decide) (fun c1 => ?_) (fun c1 => ?_)
        · replace h := if_t h c1
          obtain ⟨y3, ey3⟩ : ∃ z : Int32, z = v2 + (1 : Int32) := ⟨_, rfl⟩
          replace h := lt_e h ey3
          refine lv_iinc (v := y3) (lv' := [(2, .int y3), (0, .ref (ra 0)), (1, .ref (adK 1))]) hx hb dX6_isName_57 hl (k := 2) rfl (by rw [ey3]; rfl) (by decide) rfl (fun ls hl => ?_)
          refine lv_goto (tgt := 28) hx hb dX6_isName_60 (by decide) ?_
          exact ih _ h _ _ I ls (lv_sub hl [1, 2, 0] rfl)
        · replace h := if_f h c1
          refine lv_iconst (v := 0) hx hb dX6_isName_55 (by decide) ?_
          obtain rfl := some1 h
          exact e_z XX hr I rfl rfl dX6_isName_56
  unfold f_T_isName_quick at h
  refine lv_aload_n hx hb dX6_isName_0 rfl (lv_at hl 0 rfl) ?_
  refine gT_X6_o0_token XX I dX6_isName_1 ?_
  refine lv_iconst (v := 1) hx hb dX6_isName_4 (by decide) ?_
  refine lv_icmp_ne (tgt := 24) hx hb dX6_isName_5 (by decide) (fun c1 => ?_) (fun c1 => ?_)
  · replace h := if_f h c1
    refine lv_iconst (v := 0) hx hb dX6_isName_24 (by decide) ?_
    obtain rfl := some1 h
    exact e_z XX hr I rfl rfl dX6_isName_25
  · replace h := if_t h c1
    refine lv_aload_n hx hb dX6_isName_8 rfl (lv_at hl 0 rfl) ?_
    refine gT_X6_o0_at XX I dX6_isName_9 ?_
    refine lv_aload_n hx hb dX6_isName_12 rfl (lv_at hl 0 rfl) ?_
    refine gT_X6_o0_start XX I dX6_isName_13 ?_
    refine lv_isub hx hb dX6_isName_16 ?_
    refine lv_aload_n hx hb dX6_isName_17 rfl (lv_at hl 1 rfl) ?_
    refine call_i (X := []) (wc := []) (Y := (bT G ra ma rda ++ (bV G ma mda ++ []))) (rest := [.int ((gi rda 3) - (gi rda 5))]) XX I hl.1 (j_length l G OK adK adV hX 1 (by decide) 5 rfl (by decide)) kV_X6_141 (rc_str E (by decide) I) rfl rfl (Nat.le_of_ble_eq_true rfl) ⟨rfl, rfl, Nat.le_of_ble_eq_true rfl, Nat.le_of_ble_eq_true rfl⟩ ⟨Nat.zero_le _, Nat.zero_le _⟩ dX6_isName_18 (fun H locs hz I => ?_)
    replace I : Iv G (va_A (bT G ra ma rda ++ (bV G ma mda ++ [])) s0.heap.size) s0 H locs (bT G ra ma rda ++ (bV G ma mda ++ [])) := I
    refine lv_icmp_eq (tgt := 26) hx hb dX6_isName_21 (by decide) (fun c1 => ?_) (fun c1 => ?_)
    · replace h := if_t h c1
      refine lv_iconst (v := 0) hx hb dX6_isName_26 (by decide) ?_
      refine lv_istore_n (lv' := [(2, .int (0 : Int32)), (0, .ref (ra 0)), (1, .ref (adK 1))]) hx hb dX6_isName_27 rfl hl (by decide) rfl (fun ls hl => ?_)
      exact C28 fu _ h _ _ I ls (lv_sub hl [1, 2, 0] rfl)
    · replace h := if_f h c1
      refine lv_iconst (v := 0) hx hb dX6_isName_24 (by decide) ?_
      obtain rfl := some1 h
      exact e_z XX hr I rfl rfl dX6_isName_25
set_option maxHeartbeats 4000000 in
set_option maxRecDepth 100000 in
theorem c_T_isName_bar (l : Launch) (G : g_G) (OK : EOk G.2.2) (adK adV : Nat → Nat) (hX : HX G adK adV) (ra : Nat → Nat) (ma : Nat → Nat) (fu : Nat) (rda : g_St) (mda : g_St) (r : Int32) (h : f_T_isName_bar fu rda = some r) : HI l G yX6_isName (Cond.code yX6_isName cX6_isName 3 (some .boolean) :: gT) { frames := 4, cells := 0, slots := 0, locals := 85 } .boolean [.ref (ra 0), .ref (adK 2)] (bT G ra ma rda ++ (bV G ma mda ++ [])) r (bT G ra ma rda ++ (bV G ma mda ++ [])) := by
  refine HI.mk (lv := [(0, .ref (ra 0)), (1, .ref (adK 2))]) OK (by decide) (Nat.le_of_ble_eq_true rfl) rfl ?_
  intro p e s0 m args below meth c ls XX hr I hl
  have hx := XX.x
  have hb := XX.b
  have E := hX _ _ _ XX.E
  have C28 : ∀ n : Nat, ∀ (v2 : Int32), f_T_isName_bar_L28 fu n rda v2 = some r → ∀ (H : Heap) (locs : List Loc), Iv G (va_A (bT G ra ma rda ++ (bV G ma mda ++ [])) s0.heap.size) s0 H locs (bT G ra ma rda ++ (bV G ma mda ++ [])) → ∀ ls, lv_has ls 3 [(0, .ref (ra 0)), (1, .ref (adK 2)), (2, .int v2)] → W p l e { frames := 4, cells := 0, slots := 0, locals := 85 } s0 m args below meth c H locs 0 0 (QI G below .boolean r (bT G ra ma rda ++ (bV G ma mda ++ [])) (bT G ra ma rda ++ (bV G ma mda ++ [])) args s0) (F0 m 28 ls []) := by
    intro n
    induction n with
    | zero => intro v2 h; exact absurd h (fun q => by cases q)
    | succ n ih =>
      intro v2 h H locs I ls hl
      rw [f_T_isName_bar_L28] at h
      refine lv_iload_n hx hb dX6_isName_28 rfl (lv_at hl 2 rfl) ?_
      refine lv_aload_n hx hb dX6_isName_29 rfl (lv_at hl 1 rfl) ?_
      refine call_i (X := []) (wc := []) (Y := (bT G ra ma rda ++ (bV G ma mda ++ []))) (rest := [.int v2]) XX I hl.1 (j_length l G OK adK adV hX 2 (by decide) 3 rfl (by decide)) kV_X6_141 (rc_str E (by decide) I) rfl rfl (Nat.le_of_ble_eq_true rfl) ⟨rfl, rfl, Nat.le_of_ble_eq_true rfl, Nat.le_of_ble_eq_true rfl⟩ ⟨Nat.zero_le _, Nat.zero_le _⟩ dX6_isName_30 (fun H locs hz I => ?_)
      replace I : Iv G (va_A (bT G ra ma rda ++ (bV G ma mda ++ [])) s0.heap.size) s0 H locs (bT G ra ma rda ++ (bV G ma mda ++ [])) := I
      refine lv_icmp_ge (tgt := 63) hx hb dX6_isName_33 (by decide) (fun c1 => ?_) (fun c1 => ?_)
      · replace h := if_t h c1
        refine lv_iconst (v := 1) hx hb dX6_isName_63 (by decide) ?_
        obtain rfl := some1 h
        exact e_z XX hr I rfl rfl dX6_isName_64
      · replace h := if_f h c1
        refine lv_aload_n hx hb dX6_isName_36 rfl (lv_at hl 0 rfl) ?_
        refine gT_X6_o0_bytes XX I dX6_isName_37 ?_
        refine lv_aload_n hx hb dX6_isName_40 rfl (lv_at hl 0 rfl) ?_
        refine gT_X6_o0_start XX I dX6_isName_41 ?_
        refine lv_iload_n hx hb dX6_isName_44 rfl (lv_at hl 2 rfl) ?_
        refine lv_iadd hx hb dX6_isName_45 ?_
        obtain ⟨g1, h⟩ := gd_some h
        refine r_iald XX I 1 (aT_bytes0) g1 dX6_isName_46 ?_
        refine lv_aload_n hx hb dX6_isName_47 rfl (lv_at hl 1 rfl) ?_
        refine lv_iload_n hx hb dX6_isName_48 rfl (lv_at hl 2 rfl) ?_
        obtain ⟨g2, h⟩ := gd_some h
        refine call_i (X := []) (wc := []) (Y := (bT G ra ma rda ++ (bV G ma mda ++ []))) (rest := [.int (gr rda 1 ((gi rda 5) + v2).toNatClampNeg)]) XX I hl.1 (j_charAt l G OK adK adV hX 2 (by decide) 3 v2 rfl g2 (vin_neg g2) (vin_ltI g2 (by decide))) kV_X6_145 (rc_str E (by decide) I) rfl rfl (Nat.le_of_ble_eq_true rfl) ⟨rfl, rfl, Nat.le_of_ble_eq_true rfl, Nat.le_of_ble_eq_true rfl⟩ ⟨Nat.zero_le _, Nat.zero_le _⟩ dX6_isName_49 (fun H locs hz I => ?_)
        replace I : Iv G (va_A (bT G ra ma rda ++ (bV G ma mda ++ [])) s0.heap.size) s0 H locs (bT G ra ma rda ++ (bV G ma mda ++ [])) := I
        refine lv_icmp_eq (tgt := 57) hx hb dX6_isName_52 (by decide) (fun c1 => ?_) (fun c1 => ?_)
        · replace h := if_t h c1
          obtain ⟨y3, ey3⟩ : ∃ z : Int32, z = v2 + (1 : Int32) := ⟨_, rfl⟩
          replace h := lt_e h ey3
          refine lv_iinc (v := y3) (lv' := [(2, .int y3), (0, .ref (ra 0)), (1, .ref (adK 2))]) hx hb dX6_isName_57 hl (k := 2) rfl (by rw [ey3]; rfl) (by decide) rfl (fun ls hl => ?_)
          refine lv_goto (tgt := 28) hx hb dX6_isName_60 (by decide) ?_
          exact ih _ h _ _ I ls (lv_sub hl [1, 2, 0] rfl)
        · replace h := if_f h c1
          refine lv_iconst (v := 0) hx hb dX6_isName_55 (by decide) ?_
          obtain rfl := some1 h
          exact e_z XX hr I rfl rfl dX6_isName_56
  unfold f_T_isName_bar at h
  refine lv_aload_n hx hb dX6_isName_0 rfl (lv_at hl 0 rfl) ?_
  refine gT_X6_o0_token XX I dX6_isName_1 ?_
  refine lv_iconst (v := 1) hx hb dX6_isName_4 (by decide) ?_
  refine lv_icmp_ne (tgt := 24) hx hb dX6_isName_5 (by decide) (fun c1 => ?_) (fun c1 => ?_)
  · replace h := if_f h c1
    refine lv_iconst (v := 0) hx hb dX6_isName_24 (by decide) ?_
    obtain rfl := some1 h
    exact e_z XX hr I rfl rfl dX6_isName_25
  · replace h := if_t h c1
    refine lv_aload_n hx hb dX6_isName_8 rfl (lv_at hl 0 rfl) ?_
    refine gT_X6_o0_at XX I dX6_isName_9 ?_
    refine lv_aload_n hx hb dX6_isName_12 rfl (lv_at hl 0 rfl) ?_
    refine gT_X6_o0_start XX I dX6_isName_13 ?_
    refine lv_isub hx hb dX6_isName_16 ?_
    refine lv_aload_n hx hb dX6_isName_17 rfl (lv_at hl 1 rfl) ?_
    refine call_i (X := []) (wc := []) (Y := (bT G ra ma rda ++ (bV G ma mda ++ []))) (rest := [.int ((gi rda 3) - (gi rda 5))]) XX I hl.1 (j_length l G OK adK adV hX 2 (by decide) 3 rfl (by decide)) kV_X6_141 (rc_str E (by decide) I) rfl rfl (Nat.le_of_ble_eq_true rfl) ⟨rfl, rfl, Nat.le_of_ble_eq_true rfl, Nat.le_of_ble_eq_true rfl⟩ ⟨Nat.zero_le _, Nat.zero_le _⟩ dX6_isName_18 (fun H locs hz I => ?_)
    replace I : Iv G (va_A (bT G ra ma rda ++ (bV G ma mda ++ [])) s0.heap.size) s0 H locs (bT G ra ma rda ++ (bV G ma mda ++ [])) := I
    refine lv_icmp_eq (tgt := 26) hx hb dX6_isName_21 (by decide) (fun c1 => ?_) (fun c1 => ?_)
    · replace h := if_t h c1
      refine lv_iconst (v := 0) hx hb dX6_isName_26 (by decide) ?_
      refine lv_istore_n (lv' := [(2, .int (0 : Int32)), (0, .ref (ra 0)), (1, .ref (adK 2))]) hx hb dX6_isName_27 rfl hl (by decide) rfl (fun ls hl => ?_)
      exact C28 fu _ h _ _ I ls (lv_sub hl [1, 2, 0] rfl)
    · replace h := if_f h c1
      refine lv_iconst (v := 0) hx hb dX6_isName_24 (by decide) ?_
      obtain rfl := some1 h
      exact e_z XX hr I rfl rfl dX6_isName_25
set_option maxHeartbeats 4000000 in
set_option maxRecDepth 100000 in
theorem c_T_isName_wait (l : Launch) (G : g_G) (OK : EOk G.2.2) (adK adV : Nat → Nat) (hX : HX G adK adV) (ra : Nat → Nat) (ma : Nat → Nat) (fu : Nat) (rda : g_St) (mda : g_St) (r : Int32) (h : f_T_isName_wait fu rda = some r) : HI l G yX6_isName (Cond.code yX6_isName cX6_isName 3 (some .boolean) :: gT) { frames := 4, cells := 0, slots := 0, locals := 85 } .boolean [.ref (ra 0), .ref (adK 3)] (bT G ra ma rda ++ (bV G ma mda ++ [])) r (bT G ra ma rda ++ (bV G ma mda ++ [])) := by
  refine HI.mk (lv := [(0, .ref (ra 0)), (1, .ref (adK 3))]) OK (by decide) (Nat.le_of_ble_eq_true rfl) rfl ?_
  intro p e s0 m args below meth c ls XX hr I hl
  have hx := XX.x
  have hb := XX.b
  have E := hX _ _ _ XX.E
  have C28 : ∀ n : Nat, ∀ (v2 : Int32), f_T_isName_wait_L28 fu n rda v2 = some r → ∀ (H : Heap) (locs : List Loc), Iv G (va_A (bT G ra ma rda ++ (bV G ma mda ++ [])) s0.heap.size) s0 H locs (bT G ra ma rda ++ (bV G ma mda ++ [])) → ∀ ls, lv_has ls 3 [(0, .ref (ra 0)), (1, .ref (adK 3)), (2, .int v2)] → W p l e { frames := 4, cells := 0, slots := 0, locals := 85 } s0 m args below meth c H locs 0 0 (QI G below .boolean r (bT G ra ma rda ++ (bV G ma mda ++ [])) (bT G ra ma rda ++ (bV G ma mda ++ [])) args s0) (F0 m 28 ls []) := by
    intro n
    induction n with
    | zero => intro v2 h; exact absurd h (fun q => by cases q)
    | succ n ih =>
      intro v2 h H locs I ls hl
      rw [f_T_isName_wait_L28] at h
      refine lv_iload_n hx hb dX6_isName_28 rfl (lv_at hl 2 rfl) ?_
      refine lv_aload_n hx hb dX6_isName_29 rfl (lv_at hl 1 rfl) ?_
      refine call_i (X := []) (wc := []) (Y := (bT G ra ma rda ++ (bV G ma mda ++ []))) (rest := [.int v2]) XX I hl.1 (j_length l G OK adK adV hX 3 (by decide) 4 rfl (by decide)) kV_X6_141 (rc_str E (by decide) I) rfl rfl (Nat.le_of_ble_eq_true rfl) ⟨rfl, rfl, Nat.le_of_ble_eq_true rfl, Nat.le_of_ble_eq_true rfl⟩ ⟨Nat.zero_le _, Nat.zero_le _⟩ dX6_isName_30 (fun H locs hz I => ?_)
      replace I : Iv G (va_A (bT G ra ma rda ++ (bV G ma mda ++ [])) s0.heap.size) s0 H locs (bT G ra ma rda ++ (bV G ma mda ++ [])) := I
      refine lv_icmp_ge (tgt := 63) hx hb dX6_isName_33 (by decide) (fun c1 => ?_) (fun c1 => ?_)
      · replace h := if_t h c1
        refine lv_iconst (v := 1) hx hb dX6_isName_63 (by decide) ?_
        obtain rfl := some1 h
        exact e_z XX hr I rfl rfl dX6_isName_64
      · replace h := if_f h c1
        refine lv_aload_n hx hb dX6_isName_36 rfl (lv_at hl 0 rfl) ?_
        refine gT_X6_o0_bytes XX I dX6_isName_37 ?_
        refine lv_aload_n hx hb dX6_isName_40 rfl (lv_at hl 0 rfl) ?_
        refine gT_X6_o0_start XX I dX6_isName_41 ?_
        refine lv_iload_n hx hb dX6_isName_44 rfl (lv_at hl 2 rfl) ?_
        refine lv_iadd hx hb dX6_isName_45 ?_
        obtain ⟨g1, h⟩ := gd_some h
        refine r_iald XX I 1 (aT_bytes0) g1 dX6_isName_46 ?_
        refine lv_aload_n hx hb dX6_isName_47 rfl (lv_at hl 1 rfl) ?_
        refine lv_iload_n hx hb dX6_isName_48 rfl (lv_at hl 2 rfl) ?_
        obtain ⟨g2, h⟩ := gd_some h
        refine call_i (X := []) (wc := []) (Y := (bT G ra ma rda ++ (bV G ma mda ++ []))) (rest := [.int (gr rda 1 ((gi rda 5) + v2).toNatClampNeg)]) XX I hl.1 (j_charAt l G OK adK adV hX 3 (by decide) 4 v2 rfl g2 (vin_neg g2) (vin_ltI g2 (by decide))) kV_X6_145 (rc_str E (by decide) I) rfl rfl (Nat.le_of_ble_eq_true rfl) ⟨rfl, rfl, Nat.le_of_ble_eq_true rfl, Nat.le_of_ble_eq_true rfl⟩ ⟨Nat.zero_le _, Nat.zero_le _⟩ dX6_isName_49 (fun H locs hz I => ?_)
        replace I : Iv G (va_A (bT G ra ma rda ++ (bV G ma mda ++ [])) s0.heap.size) s0 H locs (bT G ra ma rda ++ (bV G ma mda ++ [])) := I
        refine lv_icmp_eq (tgt := 57) hx hb dX6_isName_52 (by decide) (fun c1 => ?_) (fun c1 => ?_)
        · replace h := if_t h c1
          obtain ⟨y3, ey3⟩ : ∃ z : Int32, z = v2 + (1 : Int32) := ⟨_, rfl⟩
          replace h := lt_e h ey3
          refine lv_iinc (v := y3) (lv' := [(2, .int y3), (0, .ref (ra 0)), (1, .ref (adK 3))]) hx hb dX6_isName_57 hl (k := 2) rfl (by rw [ey3]; rfl) (by decide) rfl (fun ls hl => ?_)
          refine lv_goto (tgt := 28) hx hb dX6_isName_60 (by decide) ?_
          exact ih _ h _ _ I ls (lv_sub hl [1, 2, 0] rfl)
        · replace h := if_f h c1
          refine lv_iconst (v := 0) hx hb dX6_isName_55 (by decide) ?_
          obtain rfl := some1 h
          exact e_z XX hr I rfl rfl dX6_isName_56
  unfold f_T_isName_wait at h
  refine lv_aload_n hx hb dX6_isName_0 rfl (lv_at hl 0 rfl) ?_
  refine gT_X6_o0_token XX I dX6_isName_1 ?_
  refine lv_iconst (v := 1) hx hb dX6_isName_4 (by decide) ?_
  refine lv_icmp_ne (tgt := 24) hx hb dX6_isName_5 (by decide) (fun c1 => ?_) (fun c1 => ?_)
  · replace h := if_f h c1
    refine lv_iconst (v := 0) hx hb dX6_isName_24 (by decide) ?_
    obtain rfl := some1 h
    exact e_z XX hr I rfl rfl dX6_isName_25
  · replace h := if_t h c1
    refine lv_aload_n hx hb dX6_isName_8 rfl (lv_at hl 0 rfl) ?_
    refine gT_X6_o0_at XX I dX6_isName_9 ?_
    refine lv_aload_n hx hb dX6_isName_12 rfl (lv_at hl 0 rfl) ?_
    refine gT_X6_o0_start XX I dX6_isName_13 ?_
    refine lv_isub hx hb dX6_isName_16 ?_
    refine lv_aload_n hx hb dX6_isName_17 rfl (lv_at hl 1 rfl) ?_
    refine call_i (X := []) (wc := []) (Y := (bT G ra ma rda ++ (bV G ma mda ++ []))) (rest := [.int ((gi rda 3) - (gi rda 5))]) XX I hl.1 (j_length l G OK adK adV hX 3 (by decide) 4 rfl (by decide)) kV_X6_141 (rc_str E (by decide) I) rfl rfl (Nat.le_of_ble_eq_true rfl) ⟨rfl, rfl, Nat.le_of_ble_eq_true rfl, Nat.le_of_ble_eq_true rfl⟩ ⟨Nat.zero_le _, Nat.zero_le _⟩ dX6_isName_18 (fun H locs hz I => ?_)
    replace I : Iv G (va_A (bT G ra ma rda ++ (bV G ma mda ++ [])) s0.heap.size) s0 H locs (bT G ra ma rda ++ (bV G ma mda ++ [])) := I
    refine lv_icmp_eq (tgt := 26) hx hb dX6_isName_21 (by decide) (fun c1 => ?_) (fun c1 => ?_)
    · replace h := if_t h c1
      refine lv_iconst (v := 0) hx hb dX6_isName_26 (by decide) ?_
      refine lv_istore_n (lv' := [(2, .int (0 : Int32)), (0, .ref (ra 0)), (1, .ref (adK 3))]) hx hb dX6_isName_27 rfl hl (by decide) rfl (fun ls hl => ?_)
      exact C28 fu _ h _ _ I ls (lv_sub hl [1, 2, 0] rfl)
    · replace h := if_f h c1
      refine lv_iconst (v := 0) hx hb dX6_isName_24 (by decide) ?_
      obtain rfl := some1 h
      exact e_z XX hr I rfl rfl dX6_isName_25
set_option maxHeartbeats 4000000 in
set_option maxRecDepth 100000 in
theorem c_T_isName_league (l : Launch) (G : g_G) (OK : EOk G.2.2) (adK adV : Nat → Nat) (hX : HX G adK adV) (ra : Nat → Nat) (ma : Nat → Nat) (fu : Nat) (rda : g_St) (mda : g_St) (r : Int32) (h : f_T_isName_league fu rda = some r) : HI l G yX6_isName (Cond.code yX6_isName cX6_isName 3 (some .boolean) :: gT) { frames := 4, cells := 0, slots := 0, locals := 85 } .boolean [.ref (ra 0), .ref (adK 4)] (bT G ra ma rda ++ (bV G ma mda ++ [])) r (bT G ra ma rda ++ (bV G ma mda ++ [])) := by
  refine HI.mk (lv := [(0, .ref (ra 0)), (1, .ref (adK 4))]) OK (by decide) (Nat.le_of_ble_eq_true rfl) rfl ?_
  intro p e s0 m args below meth c ls XX hr I hl
  have hx := XX.x
  have hb := XX.b
  have E := hX _ _ _ XX.E
  have C28 : ∀ n : Nat, ∀ (v2 : Int32), f_T_isName_league_L28 fu n rda v2 = some r → ∀ (H : Heap) (locs : List Loc), Iv G (va_A (bT G ra ma rda ++ (bV G ma mda ++ [])) s0.heap.size) s0 H locs (bT G ra ma rda ++ (bV G ma mda ++ [])) → ∀ ls, lv_has ls 3 [(0, .ref (ra 0)), (1, .ref (adK 4)), (2, .int v2)] → W p l e { frames := 4, cells := 0, slots := 0, locals := 85 } s0 m args below meth c H locs 0 0 (QI G below .boolean r (bT G ra ma rda ++ (bV G ma mda ++ [])) (bT G ra ma rda ++ (bV G ma mda ++ [])) args s0) (F0 m 28 ls []) := by
    intro n
    induction n with
    | zero => intro v2 h; exact absurd h (fun q => by cases q)
    | succ n ih =>
      intro v2 h H locs I ls hl
      rw [f_T_isName_league_L28] at h
      refine lv_iload_n hx hb dX6_isName_28 rfl (lv_at hl 2 rfl) ?_
      refine lv_aload_n hx hb dX6_isName_29 rfl (lv_at hl 1 rfl) ?_
      refine call_i (X := []) (wc := []) (Y := (bT G ra ma rda ++ (bV G ma mda ++ []))) (rest := [.int v2]) XX I hl.1 (j_length l G OK adK adV hX 4 (by decide) 6 rfl (by decide)) kV_X6_141 (rc_str E (by decide) I) rfl rfl (Nat.le_of_ble_eq_true rfl) ⟨rfl, rfl, Nat.le_of_ble_eq_true rfl, Nat.le_of_ble_eq_true rfl⟩ ⟨Nat.zero_le _, Nat.zero_le _⟩ dX6_isName_30 (fun H locs hz I => ?_)
      replace I : Iv G (va_A (bT G ra ma rda ++ (bV G ma mda ++ [])) s0.heap.size) s0 H locs (bT G ra ma rda ++ (bV G ma mda ++ [])) := I
      refine lv_icmp_ge (tgt := 63) hx hb dX6_isName_33 (by decide) (fun c1 => ?_) (fun c1 => ?_)
      · replace h := if_t h c1
        refine lv_iconst (v := 1) hx hb dX6_isName_63 (by decide) ?_
        obtain rfl := some1 h
        exact e_z XX hr I rfl rfl dX6_isName_64
      · replace h := if_f h c1
        refine lv_aload_n hx hb dX6_isName_36 rfl (lv_at hl 0 rfl) ?_
        refine gT_X6_o0_bytes XX I dX6_isName_37 ?_
        refine lv_aload_n hx hb dX6_isName_40 rfl (lv_at hl 0 rfl) ?_
        refine gT_X6_o0_start XX I dX6_isName_41 ?_
        refine lv_iload_n hx hb dX6_isName_44 rfl (lv_at hl 2 rfl) ?_
        refine lv_iadd hx hb dX6_isName_45 ?_
        obtain ⟨g1, h⟩ := gd_some h
        refine r_iald XX I 1 (aT_bytes0) g1 dX6_isName_46 ?_
        refine lv_aload_n hx hb dX6_isName_47 rfl (lv_at hl 1 rfl) ?_
        refine lv_iload_n hx hb dX6_isName_48 rfl (lv_at hl 2 rfl) ?_
        obtain ⟨g2, h⟩ := gd_some h
        refine call_i (X := []) (wc := []) (Y := (bT G ra ma rda ++ (bV G ma mda ++ []))) (rest := [.int (gr rda 1 ((gi rda 5) + v2).toNatClampNeg)]) XX I hl.1 (j_charAt l G OK adK adV hX 4 (by decide) 6 v2 rfl g2 (vin_neg g2) (vin_ltI g2 (by decide))) kV_X6_145 (rc_str E (by decide) I) rfl rfl (Nat.le_of_ble_eq_true rfl) ⟨rfl, rfl, Nat.le_of_ble_eq_true rfl, Nat.le_of_ble_eq_true rfl⟩ ⟨Nat.zero_le _, Nat.zero_le _⟩ dX6_isName_49 (fun H locs hz I => ?_)
        replace I : Iv G (va_A (bT G ra ma rda ++ (bV G ma mda ++ [])) s0.heap.size) s0 H locs (bT G ra ma rda ++ (bV G ma mda ++ [])) := I
        refine lv_icmp_eq (tgt := 57) hx hb dX6_isName_52 (by decide) (fun c1 => ?_) (fun c1 => ?_)
        · replace h := if_t h c1
          obtain ⟨y3, ey3⟩ : ∃ z : Int32, z = v2 + (1 : Int32) := ⟨_, rfl⟩
          replace h := lt_e h ey3
          refine lv_iinc (v := y3) (lv' := [(2, .int y3), (0, .ref (ra 0)), (1, .ref (adK 4))]) hx hb dX6_isName_57 hl (k := 2) rfl (by rw [ey3]; rfl) (by decide) rfl (fun ls hl => ?_)
          refine lv_goto (tgt := 28) hx hb dX6_isName_60 (by decide) ?_
          exact ih _ h _ _ I ls (lv_sub hl [1, 2, 0] rfl)
        · replace h := if_f h c1
          refine lv_iconst (v := 0) hx hb dX6_isName_55 (by decide) ?_
          obtain rfl := some1 h
          exact e_z XX hr I rfl rfl dX6_isName_56
  unfold f_T_isName_league at h
  refine lv_aload_n hx hb dX6_isName_0 rfl (lv_at hl 0 rfl) ?_
  refine gT_X6_o0_token XX I dX6_isName_1 ?_
  refine lv_iconst (v := 1) hx hb dX6_isName_4 (by decide) ?_
  refine lv_icmp_ne (tgt := 24) hx hb dX6_isName_5 (by decide) (fun c1 => ?_) (fun c1 => ?_)
  · replace h := if_f h c1
    refine lv_iconst (v := 0) hx hb dX6_isName_24 (by decide) ?_
    obtain rfl := some1 h
    exact e_z XX hr I rfl rfl dX6_isName_25
  · replace h := if_t h c1
    refine lv_aload_n hx hb dX6_isName_8 rfl (lv_at hl 0 rfl) ?_
    refine gT_X6_o0_at XX I dX6_isName_9 ?_
    refine lv_aload_n hx hb dX6_isName_12 rfl (lv_at hl 0 rfl) ?_
    refine gT_X6_o0_start XX I dX6_isName_13 ?_
    refine lv_isub hx hb dX6_isName_16 ?_
    refine lv_aload_n hx hb dX6_isName_17 rfl (lv_at hl 1 rfl) ?_
    refine call_i (X := []) (wc := []) (Y := (bT G ra ma rda ++ (bV G ma mda ++ []))) (rest := [.int ((gi rda 3) - (gi rda 5))]) XX I hl.1 (j_length l G OK adK adV hX 4 (by decide) 6 rfl (by decide)) kV_X6_141 (rc_str E (by decide) I) rfl rfl (Nat.le_of_ble_eq_true rfl) ⟨rfl, rfl, Nat.le_of_ble_eq_true rfl, Nat.le_of_ble_eq_true rfl⟩ ⟨Nat.zero_le _, Nat.zero_le _⟩ dX6_isName_18 (fun H locs hz I => ?_)
    replace I : Iv G (va_A (bT G ra ma rda ++ (bV G ma mda ++ [])) s0.heap.size) s0 H locs (bT G ra ma rda ++ (bV G ma mda ++ [])) := I
    refine lv_icmp_eq (tgt := 26) hx hb dX6_isName_21 (by decide) (fun c1 => ?_) (fun c1 => ?_)
    · replace h := if_t h c1
      refine lv_iconst (v := 0) hx hb dX6_isName_26 (by decide) ?_
      refine lv_istore_n (lv' := [(2, .int (0 : Int32)), (0, .ref (ra 0)), (1, .ref (adK 4))]) hx hb dX6_isName_27 rfl hl (by decide) rfl (fun ls hl => ?_)
      exact C28 fu _ h _ _ I ls (lv_sub hl [1, 2, 0] rfl)
    · replace h := if_f h c1
      refine lv_iconst (v := 0) hx hb dX6_isName_24 (by decide) ?_
      obtain rfl := some1 h
      exact e_z XX hr I rfl rfl dX6_isName_25
set_option maxHeartbeats 4000000 in
set_option maxRecDepth 100000 in
theorem c_T_isName_told (l : Launch) (G : g_G) (OK : EOk G.2.2) (adK adV : Nat → Nat) (hX : HX G adK adV) (ra : Nat → Nat) (ma : Nat → Nat) (fu : Nat) (rda : g_St) (mda : g_St) (r : Int32) (h : f_T_isName_told fu rda = some r) : HI l G yX6_isName (Cond.code yX6_isName cX6_isName 3 (some .boolean) :: gT) { frames := 4, cells := 0, slots := 0, locals := 85 } .boolean [.ref (ra 0), .ref (adK 5)] (bT G ra ma rda ++ (bV G ma mda ++ [])) r (bT G ra ma rda ++ (bV G ma mda ++ [])) := by
  refine HI.mk (lv := [(0, .ref (ra 0)), (1, .ref (adK 5))]) OK (by decide) (Nat.le_of_ble_eq_true rfl) rfl ?_
  intro p e s0 m args below meth c ls XX hr I hl
  have hx := XX.x
  have hb := XX.b
  have E := hX _ _ _ XX.E
  have C28 : ∀ n : Nat, ∀ (v2 : Int32), f_T_isName_told_L28 fu n rda v2 = some r → ∀ (H : Heap) (locs : List Loc), Iv G (va_A (bT G ra ma rda ++ (bV G ma mda ++ [])) s0.heap.size) s0 H locs (bT G ra ma rda ++ (bV G ma mda ++ [])) → ∀ ls, lv_has ls 3 [(0, .ref (ra 0)), (1, .ref (adK 5)), (2, .int v2)] → W p l e { frames := 4, cells := 0, slots := 0, locals := 85 } s0 m args below meth c H locs 0 0 (QI G below .boolean r (bT G ra ma rda ++ (bV G ma mda ++ [])) (bT G ra ma rda ++ (bV G ma mda ++ [])) args s0) (F0 m 28 ls []) := by
    intro n
    induction n with
    | zero => intro v2 h; exact absurd h (fun q => by cases q)
    | succ n ih =>
      intro v2 h H locs I ls hl
      rw [f_T_isName_told_L28] at h
      refine lv_iload_n hx hb dX6_isName_28 rfl (lv_at hl 2 rfl) ?_
      refine lv_aload_n hx hb dX6_isName_29 rfl (lv_at hl 1 rfl) ?_
      refine call_i (X := []) (wc := []) (Y := (bT G ra ma rda ++ (bV G ma mda ++ []))) (rest := [.int v2]) XX I hl.1 (j_length l G OK adK adV hX 5 (by decide) 4 rfl (by decide)) kV_X6_141 (rc_str E (by decide) I) rfl rfl (Nat.le_of_ble_eq_true rfl) ⟨rfl, rfl, Nat.le_of_ble_eq_true rfl, Nat.le_of_ble_eq_true rfl⟩ ⟨Nat.zero_le _, Nat.zero_le _⟩ dX6_isName_30 (fun H locs hz I => ?_)
      replace I : Iv G (va_A (bT G ra ma rda ++ (bV G ma mda ++ [])) s0.heap.size) s0 H locs (bT G ra ma rda ++ (bV G ma mda ++ [])) := I
      refine lv_icmp_ge (tgt := 63) hx hb dX6_isName_33 (by decide) (fun c1 => ?_) (fun c1 => ?_)
      · replace h := if_t h c1
        refine lv_iconst (v := 1) hx hb dX6_isName_63 (by decide) ?_
        obtain rfl := some1 h
        exact e_z XX hr I rfl rfl dX6_isName_64
      · replace h := if_f h c1
        refine lv_aload_n hx hb dX6_isName_36 rfl (lv_at hl 0 rfl) ?_
        refine gT_X6_o0_bytes XX I dX6_isName_37 ?_
        refine lv_aload_n hx hb dX6_isName_40 rfl (lv_at hl 0 rfl) ?_
        refine gT_X6_o0_start XX I dX6_isName_41 ?_
        refine lv_iload_n hx hb dX6_isName_44 rfl (lv_at hl 2 rfl) ?_
        refine lv_iadd hx hb dX6_isName_45 ?_
        obtain ⟨g1, h⟩ := gd_some h
        refine r_iald XX I 1 (aT_bytes0) g1 dX6_isName_46 ?_
        refine lv_aload_n hx hb dX6_isName_47 rfl (lv_at hl 1 rfl) ?_
        refine lv_iload_n hx hb dX6_isName_48 rfl (lv_at hl 2 rfl) ?_
        obtain ⟨g2, h⟩ := gd_some h
        refine call_i (X := []) (wc := []) (Y := (bT G ra ma rda ++ (bV G ma mda ++ []))) (rest := [.int (gr rda 1 ((gi rda 5) + v2).toNatClampNeg)]) XX I hl.1 (j_charAt l G OK adK adV hX 5 (by decide) 4 v2 rfl g2 (vin_neg g2) (vin_ltI g2 (by decide))) kV_X6_145 (rc_str E (by decide) I) rfl rfl (Nat.le_of_ble_eq_true rfl) ⟨rfl, rfl, Nat.le_of_ble_eq_true rfl, Nat.le_of_ble_eq_true rfl⟩ ⟨Nat.zero_le _, Nat.zero_le _⟩ dX6_isName_49 (fun H locs hz I => ?_)
        replace I : Iv G (va_A (bT G ra ma rda ++ (bV G ma mda ++ [])) s0.heap.size) s0 H locs (bT G ra ma rda ++ (bV G ma mda ++ [])) := I
        refine lv_icmp_eq (tgt := 57) hx hb dX6_isName_52 (by decide) (fun c1 => ?_) (fun c1 => ?_)
        · replace h := if_t h c1
          obtain ⟨y3, ey3⟩ : ∃ z : Int32, z = v2 + (1 : Int32) := ⟨_, rfl⟩
          replace h := lt_e h ey3
          refine lv_iinc (v := y3) (lv' := [(2, .int y3), (0, .ref (ra 0)), (1, .ref (adK 5))]) hx hb dX6_isName_57 hl (k := 2) rfl (by rw [ey3]; rfl) (by decide) rfl (fun ls hl => ?_)
          refine lv_goto (tgt := 28) hx hb dX6_isName_60 (by decide) ?_
          exact ih _ h _ _ I ls (lv_sub hl [1, 2, 0] rfl)
        · replace h := if_f h c1
          refine lv_iconst (v := 0) hx hb dX6_isName_55 (by decide) ?_
          obtain rfl := some1 h
          exact e_z XX hr I rfl rfl dX6_isName_56
  unfold f_T_isName_told at h
  refine lv_aload_n hx hb dX6_isName_0 rfl (lv_at hl 0 rfl) ?_
  refine gT_X6_o0_token XX I dX6_isName_1 ?_
  refine lv_iconst (v := 1) hx hb dX6_isName_4 (by decide) ?_
  refine lv_icmp_ne (tgt := 24) hx hb dX6_isName_5 (by decide) (fun c1 => ?_) (fun c1 => ?_)
  · replace h := if_f h c1
    refine lv_iconst (v := 0) hx hb dX6_isName_24 (by decide) ?_
    obtain rfl := some1 h
    exact e_z XX hr I rfl rfl dX6_isName_25
  · replace h := if_t h c1
    refine lv_aload_n hx hb dX6_isName_8 rfl (lv_at hl 0 rfl) ?_
    refine gT_X6_o0_at XX I dX6_isName_9 ?_
    refine lv_aload_n hx hb dX6_isName_12 rfl (lv_at hl 0 rfl) ?_
    refine gT_X6_o0_start XX I dX6_isName_13 ?_
    refine lv_isub hx hb dX6_isName_16 ?_
    refine lv_aload_n hx hb dX6_isName_17 rfl (lv_at hl 1 rfl) ?_
    refine call_i (X := []) (wc := []) (Y := (bT G ra ma rda ++ (bV G ma mda ++ []))) (rest := [.int ((gi rda 3) - (gi rda 5))]) XX I hl.1 (j_length l G OK adK adV hX 5 (by decide) 4 rfl (by decide)) kV_X6_141 (rc_str E (by decide) I) rfl rfl (Nat.le_of_ble_eq_true rfl) ⟨rfl, rfl, Nat.le_of_ble_eq_true rfl, Nat.le_of_ble_eq_true rfl⟩ ⟨Nat.zero_le _, Nat.zero_le _⟩ dX6_isName_18 (fun H locs hz I => ?_)
    replace I : Iv G (va_A (bT G ra ma rda ++ (bV G ma mda ++ [])) s0.heap.size) s0 H locs (bT G ra ma rda ++ (bV G ma mda ++ [])) := I
    refine lv_icmp_eq (tgt := 26) hx hb dX6_isName_21 (by decide) (fun c1 => ?_) (fun c1 => ?_)
    · replace h := if_t h c1
      refine lv_iconst (v := 0) hx hb dX6_isName_26 (by decide) ?_
      refine lv_istore_n (lv' := [(2, .int (0 : Int32)), (0, .ref (ra 0)), (1, .ref (adK 5))]) hx hb dX6_isName_27 rfl hl (by decide) rfl (fun ls hl => ?_)
      exact C28 fu _ h _ _ I ls (lv_sub hl [1, 2, 0] rfl)
    · replace h := if_f h c1
      refine lv_iconst (v := 0) hx hb dX6_isName_24 (by decide) ?_
      obtain rfl := some1 h
      exact e_z XX hr I rfl rfl dX6_isName_25
set_option maxHeartbeats 4000000 in
set_option maxRecDepth 100000 in
theorem c_T_isName_age (l : Launch) (G : g_G) (OK : EOk G.2.2) (adK adV : Nat → Nat) (hX : HX G adK adV) (ra : Nat → Nat) (ma : Nat → Nat) (fu : Nat) (rda : g_St) (mda : g_St) (r : Int32) (h : f_T_isName_age fu rda = some r) : HI l G yX6_isName (Cond.code yX6_isName cX6_isName 3 (some .boolean) :: gT) { frames := 4, cells := 0, slots := 0, locals := 85 } .boolean [.ref (ra 0), .ref (adK 6)] (bT G ra ma rda ++ (bV G ma mda ++ [])) r (bT G ra ma rda ++ (bV G ma mda ++ [])) := by
  refine HI.mk (lv := [(0, .ref (ra 0)), (1, .ref (adK 6))]) OK (by decide) (Nat.le_of_ble_eq_true rfl) rfl ?_
  intro p e s0 m args below meth c ls XX hr I hl
  have hx := XX.x
  have hb := XX.b
  have E := hX _ _ _ XX.E
  have C28 : ∀ n : Nat, ∀ (v2 : Int32), f_T_isName_age_L28 fu n rda v2 = some r → ∀ (H : Heap) (locs : List Loc), Iv G (va_A (bT G ra ma rda ++ (bV G ma mda ++ [])) s0.heap.size) s0 H locs (bT G ra ma rda ++ (bV G ma mda ++ [])) → ∀ ls, lv_has ls 3 [(0, .ref (ra 0)), (1, .ref (adK 6)), (2, .int v2)] → W p l e { frames := 4, cells := 0, slots := 0, locals := 85 } s0 m args below meth c H locs 0 0 (QI G below .boolean r (bT G ra ma rda ++ (bV G ma mda ++ [])) (bT G ra ma rda ++ (bV G ma mda ++ [])) args s0) (F0 m 28 ls []) := by
    intro n
    induction n with
    | zero => intro v2 h; exact absurd h (fun q => by cases q)
    | succ n ih =>
      intro v2 h H locs I ls hl
      rw [f_T_isName_age_L28] at h
      refine lv_iload_n hx hb dX6_isName_28 rfl (lv_at hl 2 rfl) ?_
      refine lv_aload_n hx hb dX6_isName_29 rfl (lv_at hl 1 rfl) ?_
      refine call_i (X := []) (wc := []) (Y := (bT G ra ma rda ++ (bV G ma mda ++ []))) (rest := [.int v2]) XX I hl.1 (j_length l G OK adK adV hX 6 (by decide) 3 rfl (by decide)) kV_X6_141 (rc_str E (by decide) I) rfl rfl (Nat.le_of_ble_eq_true rfl) ⟨rfl, rfl, Nat.le_of_ble_eq_true rfl, Nat.le_of_ble_eq_true rfl⟩ ⟨Nat.zero_le _, Nat.zero_le _⟩ dX6_isName_30 (fun H locs hz I => ?_)
      replace I : Iv G (va_A (bT G ra ma rda ++ (bV G ma mda ++ [])) s0.heap.size) s0 H locs (bT G ra ma rda ++ (bV G ma mda ++ [])) := I
      refine lv_icmp_ge (tgt := 63) hx hb dX6_isName_33 (by decide) (fun c1 => ?_) (fun c1 => ?_)
      · replace h := if_t h c1
        refine lv_iconst (v := 1) hx hb dX6_isName_63 (by decide) ?_
        obtain rfl := some1 h
        exact e_z XX hr I rfl rfl dX6_isName_64
      · replace h := if_f h c1
        refine lv_aload_n hx hb dX6_isName_36 rfl (lv_at hl 0 rfl) ?_
        refine gT_X6_o0_bytes XX I dX6_isName_37 ?_
        refine lv_aload_n hx hb dX6_isName_40 rfl (lv_at hl 0 rfl) ?_
        refine gT_X6_o0_start XX I dX6_isName_41 ?_
        refine lv_iload_n hx hb dX6_isName_44 rfl (lv_at hl 2 rfl) ?_
        refine lv_iadd hx hb dX6_isName_45 ?_
        obtain ⟨g1, h⟩ := gd_some h
        refine r_iald XX I 1 (aT_bytes0) g1 dX6_isName_46 ?_
        refine lv_aload_n hx hb dX6_isName_47 rfl (lv_at hl 1 rfl) ?_
        refine lv_iload_n hx hb dX6_isName_48 rfl (lv_at hl 2 rfl) ?_
        obtain ⟨g2, h⟩ := gd_some h
        refine call_i (X := []) (wc := []) (Y := (bT G ra ma rda ++ (bV G ma mda ++ []))) (rest := [.int (gr rda 1 ((gi rda 5) + v2).toNatClampNeg)]) XX I hl.1 (j_charAt l G OK adK adV hX 6 (by decide) 3 v2 rfl g2 (vin_neg g2) (vin_ltI g2 (by decide))) kV_X6_145 (rc_str E (by decide) I) rfl rfl (Nat.le_of_ble_eq_true rfl) ⟨rfl, rfl, Nat.le_of_ble_eq_true rfl, Nat.le_of_ble_eq_true rfl⟩ ⟨Nat.zero_le _, Nat.zero_le _⟩ dX6_isName_49 (fun H locs hz I => ?_)
        replace I : Iv G (va_A (bT G ra ma rda ++ (bV G ma mda ++ [])) s0.heap.size) s0 H locs (bT G ra ma rda ++ (bV G ma mda ++ [])) := I
        refine lv_icmp_eq (tgt := 57) hx hb dX6_isName_52 (by decide) (fun c1 => ?_) (fun c1 => ?_)
        · replace h := if_t h c1
          obtain ⟨y3, ey3⟩ : ∃ z : Int32, z = v2 + (1 : Int32) := ⟨_, rfl⟩
          replace h := lt_e h ey3
          refine lv_iinc (v := y3) (lv' := [(2, .int y3), (0, .ref (ra 0)), (1, .ref (adK 6))]) hx hb dX6_isName_57 hl (k := 2) rfl (by rw [ey3]; rfl) (by decide) rfl (fun ls hl => ?_)
          refine lv_goto (tgt := 28) hx hb dX6_isName_60 (by decide) ?_
          exact ih _ h _ _ I ls (lv_sub hl [1, 2, 0] rfl)
        · replace h := if_f h c1
          refine lv_iconst (v := 0) hx hb dX6_isName_55 (by decide) ?_
          obtain rfl := some1 h
          exact e_z XX hr I rfl rfl dX6_isName_56
  unfold f_T_isName_age at h
  refine lv_aload_n hx hb dX6_isName_0 rfl (lv_at hl 0 rfl) ?_
  refine gT_X6_o0_token XX I dX6_isName_1 ?_
  refine lv_iconst (v := 1) hx hb dX6_isName_4 (by decide) ?_
  refine lv_icmp_ne (tgt := 24) hx hb dX6_isName_5 (by decide) (fun c1 => ?_) (fun c1 => ?_)
  · replace h := if_f h c1
    refine lv_iconst (v := 0) hx hb dX6_isName_24 (by decide) ?_
    obtain rfl := some1 h
    exact e_z XX hr I rfl rfl dX6_isName_25
  · replace h := if_t h c1
    refine lv_aload_n hx hb dX6_isName_8 rfl (lv_at hl 0 rfl) ?_
    refine gT_X6_o0_at XX I dX6_isName_9 ?_
    refine lv_aload_n hx hb dX6_isName_12 rfl (lv_at hl 0 rfl) ?_
    refine gT_X6_o0_start XX I dX6_isName_13 ?_
    refine lv_isub hx hb dX6_isName_16 ?_
    refine lv_aload_n hx hb dX6_isName_17 rfl (lv_at hl 1 rfl) ?_
    refine call_i (X := []) (wc := []) (Y := (bT G ra ma rda ++ (bV G ma mda ++ []))) (rest := [.int ((gi rda 3) - (gi rda 5))]) XX I hl.1 (j_length l G OK adK adV hX 6 (by decide) 3 rfl (by decide)) kV_X6_141 (rc_str E (by decide) I) rfl rfl (Nat.le_of_ble_eq_true rfl) ⟨rfl, rfl, Nat.le_of_ble_eq_true rfl, Nat.le_of_ble_eq_true rfl⟩ ⟨Nat.zero_le _, Nat.zero_le _⟩ dX6_isName_18 (fun H locs hz I => ?_)
    replace I : Iv G (va_A (bT G ra ma rda ++ (bV G ma mda ++ [])) s0.heap.size) s0 H locs (bT G ra ma rda ++ (bV G ma mda ++ [])) := I
    refine lv_icmp_eq (tgt := 26) hx hb dX6_isName_21 (by decide) (fun c1 => ?_) (fun c1 => ?_)
    · replace h := if_t h c1
      refine lv_iconst (v := 0) hx hb dX6_isName_26 (by decide) ?_
      refine lv_istore_n (lv' := [(2, .int (0 : Int32)), (0, .ref (ra 0)), (1, .ref (adK 6))]) hx hb dX6_isName_27 rfl hl (by decide) rfl (fun ls hl => ?_)
      exact C28 fu _ h _ _ I ls (lv_sub hl [1, 2, 0] rfl)
    · replace h := if_f h c1
      refine lv_iconst (v := 0) hx hb dX6_isName_24 (by decide) ?_
      obtain rfl := some1 h
      exact e_z XX hr I rfl rfl dX6_isName_25
set_option maxHeartbeats 4000000 in
set_option maxRecDepth 100000 in
theorem c_T_isName_noes (l : Launch) (G : g_G) (OK : EOk G.2.2) (adK adV : Nat → Nat) (hX : HX G adK adV) (ra : Nat → Nat) (ma : Nat → Nat) (fu : Nat) (rda : g_St) (mda : g_St) (r : Int32) (h : f_T_isName_noes fu rda = some r) : HI l G yX6_isName (Cond.code yX6_isName cX6_isName 3 (some .boolean) :: gT) { frames := 4, cells := 0, slots := 0, locals := 85 } .boolean [.ref (ra 0), .ref (adK 7)] (bT G ra ma rda ++ (bV G ma mda ++ [])) r (bT G ra ma rda ++ (bV G ma mda ++ [])) := by
  refine HI.mk (lv := [(0, .ref (ra 0)), (1, .ref (adK 7))]) OK (by decide) (Nat.le_of_ble_eq_true rfl) rfl ?_
  intro p e s0 m args below meth c ls XX hr I hl
  have hx := XX.x
  have hb := XX.b
  have E := hX _ _ _ XX.E
  have C28 : ∀ n : Nat, ∀ (v2 : Int32), f_T_isName_noes_L28 fu n rda v2 = some r → ∀ (H : Heap) (locs : List Loc), Iv G (va_A (bT G ra ma rda ++ (bV G ma mda ++ [])) s0.heap.size) s0 H locs (bT G ra ma rda ++ (bV G ma mda ++ [])) → ∀ ls, lv_has ls 3 [(0, .ref (ra 0)), (1, .ref (adK 7)), (2, .int v2)] → W p l e { frames := 4, cells := 0, slots := 0, locals := 85 } s0 m args below meth c H locs 0 0 (QI G below .boolean r (bT G ra ma rda ++ (bV G ma mda ++ [])) (bT G ra ma rda ++ (bV G ma mda ++ [])) args s0) (F0 m 28 ls []) := by
    intro n
    induction n with
    | zero => intro v2 h; exact absurd h (fun q => by cases q)
    | succ n ih =>
      intro v2 h H locs I ls hl
      rw [f_T_isName_noes_L28] at h
      refine lv_iload_n hx hb dX6_isName_28 rfl (lv_at hl 2 rfl) ?_
      refine lv_aload_n hx hb dX6_isName_29 rfl (lv_at hl 1 rfl) ?_
      refine call_i (X := []) (wc := []) (Y := (bT G ra ma rda ++ (bV G ma mda ++ []))) (rest := [.int v2]) XX I hl.1 (j_length l G OK adK adV hX 7 (by decide) 4 rfl (by decide)) kV_X6_141 (rc_str E (by decide) I) rfl rfl (Nat.le_of_ble_eq_true rfl) ⟨rfl, rfl, Nat.le_of_ble_eq_true rfl, Nat.le_of_ble_eq_true rfl⟩ ⟨Nat.zero_le _, Nat.zero_le _⟩ dX6_isName_30 (fun H locs hz I => ?_)
      replace I : Iv G (va_A (bT G ra ma rda ++ (bV G ma mda ++ [])) s0.heap.size) s0 H locs (bT G ra ma rda ++ (bV G ma mda ++ [])) := I
      refine lv_icmp_ge (tgt := 63) hx hb dX6_isName_33 (by decide) (fun c1 => ?_) (fun c1 => ?_)
      · replace h := if_t h c1
        refine lv_iconst (v := 1) hx hb dX6_isName_63 (by decide) ?_
        obtain rfl := some1 h
        exact e_z XX hr I rfl rfl dX6_isName_64
      · replace h := if_f h c1
        refine lv_aload_n hx hb dX6_isName_36 rfl (lv_at hl 0 rfl) ?_
        refine gT_X6_o0_bytes XX I dX6_isName_37 ?_
        refine lv_aload_n hx hb dX6_isName_40 rfl (lv_at hl 0 rfl) ?_
        refine gT_X6_o0_start XX I dX6_isName_41 ?_
        refine lv_iload_n hx hb dX6_isName_44 rfl (lv_at hl 2 rfl) ?_
        refine lv_iadd hx hb dX6_isName_45 ?_
        obtain ⟨g1, h⟩ := gd_some h
        refine r_iald XX I 1 (aT_bytes0) g1 dX6_isName_46 ?_
        refine lv_aload_n hx hb dX6_isName_47 rfl (lv_at hl 1 rfl) ?_
        refine lv_iload_n hx hb dX6_isName_48 rfl (lv_at hl 2 rfl) ?_
        obtain ⟨g2, h⟩ := gd_some h
        refine call_i (X := []) (wc := []) (Y := (bT G ra ma rda ++ (bV G ma mda ++ []))) (rest := [.int (gr rda 1 ((gi rda 5) + v2).toNatClampNeg)]) XX I hl.1 (j_charAt l G OK adK adV hX 7 (by decide) 4 v2 rfl g2 (vin_neg g2) (vin_ltI g2 (by decide))) kV_X6_145 (rc_str E (by decide) I) rfl rfl (Nat.le_of_ble_eq_true rfl) ⟨rfl, rfl, Nat.le_of_ble_eq_true rfl, Nat.le_of_ble_eq_true rfl⟩ ⟨Nat.zero_le _, Nat.zero_le _⟩ dX6_isName_49 (fun H locs hz I => ?_)
        replace I : Iv G (va_A (bT G ra ma rda ++ (bV G ma mda ++ [])) s0.heap.size) s0 H locs (bT G ra ma rda ++ (bV G ma mda ++ [])) := I
        refine lv_icmp_eq (tgt := 57) hx hb dX6_isName_52 (by decide) (fun c1 => ?_) (fun c1 => ?_)
        · replace h := if_t h c1
          obtain ⟨y3, ey3⟩ : ∃ z : Int32, z = v2 + (1 : Int32) := ⟨_, rfl⟩
          replace h := lt_e h ey3
          refine lv_iinc (v := y3) (lv' := [(2, .int y3), (0, .ref (ra 0)), (1, .ref (adK 7))]) hx hb dX6_isName_57 hl (k := 2) rfl (by rw [ey3]; rfl) (by decide) rfl (fun ls hl => ?_)
          refine lv_goto (tgt := 28) hx hb dX6_isName_60 (by decide) ?_
          exact ih _ h _ _ I ls (lv_sub hl [1, 2, 0] rfl)
        · replace h := if_f h c1
          refine lv_iconst (v := 0) hx hb dX6_isName_55 (by decide) ?_
          obtain rfl := some1 h
          exact e_z XX hr I rfl rfl dX6_isName_56
  unfold f_T_isName_noes at h
  refine lv_aload_n hx hb dX6_isName_0 rfl (lv_at hl 0 rfl) ?_
  refine gT_X6_o0_token XX I dX6_isName_1 ?_
  refine lv_iconst (v := 1) hx hb dX6_isName_4 (by decide) ?_
  refine lv_icmp_ne (tgt := 24) hx hb dX6_isName_5 (by decide) (fun c1 => ?_) (fun c1 => ?_)
  · replace h := if_f h c1
    refine lv_iconst (v := 0) hx hb dX6_isName_24 (by decide) ?_
    obtain rfl := some1 h
    exact e_z XX hr I rfl rfl dX6_isName_25
  · replace h := if_t h c1
    refine lv_aload_n hx hb dX6_isName_8 rfl (lv_at hl 0 rfl) ?_
    refine gT_X6_o0_at XX I dX6_isName_9 ?_
    refine lv_aload_n hx hb dX6_isName_12 rfl (lv_at hl 0 rfl) ?_
    refine gT_X6_o0_start XX I dX6_isName_13 ?_
    refine lv_isub hx hb dX6_isName_16 ?_
    refine lv_aload_n hx hb dX6_isName_17 rfl (lv_at hl 1 rfl) ?_
    refine call_i (X := []) (wc := []) (Y := (bT G ra ma rda ++ (bV G ma mda ++ []))) (rest := [.int ((gi rda 3) - (gi rda 5))]) XX I hl.1 (j_length l G OK adK adV hX 7 (by decide) 4 rfl (by decide)) kV_X6_141 (rc_str E (by decide) I) rfl rfl (Nat.le_of_ble_eq_true rfl) ⟨rfl, rfl, Nat.le_of_ble_eq_true rfl, Nat.le_of_ble_eq_true rfl⟩ ⟨Nat.zero_le _, Nat.zero_le _⟩ dX6_isName_18 (fun H locs hz I => ?_)
    replace I : Iv G (va_A (bT G ra ma rda ++ (bV G ma mda ++ [])) s0.heap.size) s0 H locs (bT G ra ma rda ++ (bV G ma mda ++ [])) := I
    refine lv_icmp_eq (tgt := 26) hx hb dX6_isName_21 (by decide) (fun c1 => ?_) (fun c1 => ?_)
    · replace h := if_t h c1
      refine lv_iconst (v := 0) hx hb dX6_isName_26 (by decide) ?_
      refine lv_istore_n (lv' := [(2, .int (0 : Int32)), (0, .ref (ra 0)), (1, .ref (adK 7))]) hx hb dX6_isName_27 rfl hl (by decide) rfl (fun ls hl => ?_)
      exact C28 fu _ h _ _ I ls (lv_sub hl [1, 2, 0] rfl)
    · replace h := if_f h c1
      refine lv_iconst (v := 0) hx hb dX6_isName_24 (by decide) ?_
      obtain rfl := some1 h
      exact e_z XX hr I rfl rfl dX6_isName_25
set_option maxHeartbeats 4000000 in
set_option maxRecDepth 100000 in
theorem c_T_isName_proposal (l : Launch) (G : g_G) (OK : EOk G.2.2) (adK adV : Nat → Nat) (hX : HX G adK adV) (ra : Nat → Nat) (ma : Nat → Nat) (fu : Nat) (rda : g_St) (mda : g_St) (r : Int32) (h : f_T_isName_proposal fu rda = some r) : HI l G yX6_isName (Cond.code yX6_isName cX6_isName 3 (some .boolean) :: gT) { frames := 4, cells := 0, slots := 0, locals := 85 } .boolean [.ref (ra 0), .ref (adK 8)] (bT G ra ma rda ++ (bV G ma mda ++ [])) r (bT G ra ma rda ++ (bV G ma mda ++ [])) := by
  refine HI.mk (lv := [(0, .ref (ra 0)), (1, .ref (adK 8))]) OK (by decide) (Nat.le_of_ble_eq_true rfl) rfl ?_
  intro p e s0 m args below meth c ls XX hr I hl
  have hx := XX.x
  have hb := XX.b
  have E := hX _ _ _ XX.E
  have C28 : ∀ n : Nat, ∀ (v2 : Int32), f_T_isName_proposal_L28 fu n rda v2 = some r → ∀ (H : Heap) (locs : List Loc), Iv G (va_A (bT G ra ma rda ++ (bV G ma mda ++ [])) s0.heap.size) s0 H locs (bT G ra ma rda ++ (bV G ma mda ++ [])) → ∀ ls, lv_has ls 3 [(0, .ref (ra 0)), (1, .ref (adK 8)), (2, .int v2)] → W p l e { frames := 4, cells := 0, slots := 0, locals := 85 } s0 m args below meth c H locs 0 0 (QI G below .boolean r (bT G ra ma rda ++ (bV G ma mda ++ [])) (bT G ra ma rda ++ (bV G ma mda ++ [])) args s0) (F0 m 28 ls []) := by
    intro n
    induction n with
    | zero => intro v2 h; exact absurd h (fun q => by cases q)
    | succ n ih =>
      intro v2 h H locs I ls hl
      rw [f_T_isName_proposal_L28] at h
      refine lv_iload_n hx hb dX6_isName_28 rfl (lv_at hl 2 rfl) ?_
      refine lv_aload_n hx hb dX6_isName_29 rfl (lv_at hl 1 rfl) ?_
      refine call_i (X := []) (wc := []) (Y := (bT G ra ma rda ++ (bV G ma mda ++ []))) (rest := [.int v2]) XX I hl.1 (j_length l G OK adK adV hX 8 (by decide) 8 rfl (by decide)) kV_X6_141 (rc_str E (by decide) I) rfl rfl (Nat.le_of_ble_eq_true rfl) ⟨rfl, rfl, Nat.le_of_ble_eq_true rfl, Nat.le_of_ble_eq_true rfl⟩ ⟨Nat.zero_le _, Nat.zero_le _⟩ dX6_isName_30 (fun H locs hz I => ?_)
      replace I : Iv G (va_A (bT G ra ma rda ++ (bV G ma mda ++ [])) s0.heap.size) s0 H locs (bT G ra ma rda ++ (bV G ma mda ++ [])) := I
      refine lv_icmp_ge (tgt := 63) hx hb dX6_isName_33 (by decide) (fun c1 => ?_) (fun c1 => ?_)
      · replace h := if_t h c1
        refine lv_iconst (v := 1) hx hb dX6_isName_63 (by decide) ?_
        obtain rfl := some1 h
        exact e_z XX hr I rfl rfl dX6_isName_64
      · replace h := if_f h c1
        refine lv_aload_n hx hb dX6_isName_36 rfl (lv_at hl 0 rfl) ?_
        refine gT_X6_o0_bytes XX I dX6_isName_37 ?_
        refine lv_aload_n hx hb dX6_isName_40 rfl (lv_at hl 0 rfl) ?_
        refine gT_X6_o0_start XX I dX6_isName_41 ?_
        refine lv_iload_n hx hb dX6_isName_44 rfl (lv_at hl 2 rfl) ?_
        refine lv_iadd hx hb dX6_isName_45 ?_
        obtain ⟨g1, h⟩ := gd_some h
        refine r_iald XX I 1 (aT_bytes0) g1 dX6_isName_46 ?_
        refine lv_aload_n hx hb dX6_isName_47 rfl (lv_at hl 1 rfl) ?_
        refine lv_iload_n hx hb dX6_isName_48 rfl (lv_at hl 2 rfl) ?_
        obtain ⟨g2, h⟩ := gd_some h
        refine call_i (X := []) (wc := []) (Y := (bT G ra ma rda ++ (bV G ma mda ++ []))) (rest := [.int (gr rda 1 ((gi rda 5) + v2).toNatClampNeg)]) XX I hl.1 (j_charAt l G OK adK adV hX 8 (by decide) 8 v2 rfl g2 (vin_neg g2) (vin_ltI g2 (by decide))) kV_X6_145 (rc_str E (by decide) I) rfl rfl (Nat.le_of_ble_eq_true rfl) ⟨rfl, rfl, Nat.le_of_ble_eq_true rfl, Nat.le_of_ble_eq_true rfl⟩ ⟨Nat.zero_le _, Nat.zero_le _⟩ dX6_isName_49 (fun H locs hz I => ?_)
        replace I : Iv G (va_A (bT G ra ma rda ++ (bV G ma mda ++ [])) s0.heap.size) s0 H locs (bT G ra ma rda ++ (bV G ma mda ++ [])) := I
        refine lv_icmp_eq (tgt := 57) hx hb dX6_isName_52 (by decide) (fun c1 => ?_) (fun c1 => ?_)
        · replace h := if_t h c1
          obtain ⟨y3, ey3⟩ : ∃ z : Int32, z = v2 + (1 : Int32) := ⟨_, rfl⟩
          replace h := lt_e h ey3
          refine lv_iinc (v := y3) (lv' := [(2, .int y3), (0, .ref (ra 0)), (1, .ref (adK 8))]) hx hb dX6_isName_57 hl (k := 2) rfl (by rw [ey3]; rfl) (by decide) rfl (fun ls hl => ?_)
          refine lv_goto (tgt := 28) hx hb dX6_isName_60 (by decide) ?_
          exact ih _ h _ _ I ls (lv_sub hl [1, 2, 0] rfl)
        · replace h := if_f h c1
          refine lv_iconst (v := 0) hx hb dX6_isName_55 (by decide) ?_
          obtain rfl := some1 h
          exact e_z XX hr I rfl rfl dX6_isName_56
  unfold f_T_isName_proposal at h
  refine lv_aload_n hx hb dX6_isName_0 rfl (lv_at hl 0 rfl) ?_
  refine gT_X6_o0_token XX I dX6_isName_1 ?_
  refine lv_iconst (v := 1) hx hb dX6_isName_4 (by decide) ?_
  refine lv_icmp_ne (tgt := 24) hx hb dX6_isName_5 (by decide) (fun c1 => ?_) (fun c1 => ?_)
  · replace h := if_f h c1
    refine lv_iconst (v := 0) hx hb dX6_isName_24 (by decide) ?_
    obtain rfl := some1 h
    exact e_z XX hr I rfl rfl dX6_isName_25
  · replace h := if_t h c1
    refine lv_aload_n hx hb dX6_isName_8 rfl (lv_at hl 0 rfl) ?_
    refine gT_X6_o0_at XX I dX6_isName_9 ?_
    refine lv_aload_n hx hb dX6_isName_12 rfl (lv_at hl 0 rfl) ?_
    refine gT_X6_o0_start XX I dX6_isName_13 ?_
    refine lv_isub hx hb dX6_isName_16 ?_
    refine lv_aload_n hx hb dX6_isName_17 rfl (lv_at hl 1 rfl) ?_
    refine call_i (X := []) (wc := []) (Y := (bT G ra ma rda ++ (bV G ma mda ++ []))) (rest := [.int ((gi rda 3) - (gi rda 5))]) XX I hl.1 (j_length l G OK adK adV hX 8 (by decide) 8 rfl (by decide)) kV_X6_141 (rc_str E (by decide) I) rfl rfl (Nat.le_of_ble_eq_true rfl) ⟨rfl, rfl, Nat.le_of_ble_eq_true rfl, Nat.le_of_ble_eq_true rfl⟩ ⟨Nat.zero_le _, Nat.zero_le _⟩ dX6_isName_18 (fun H locs hz I => ?_)
    replace I : Iv G (va_A (bT G ra ma rda ++ (bV G ma mda ++ [])) s0.heap.size) s0 H locs (bT G ra ma rda ++ (bV G ma mda ++ [])) := I
    refine lv_icmp_eq (tgt := 26) hx hb dX6_isName_21 (by decide) (fun c1 => ?_) (fun c1 => ?_)
    · replace h := if_t h c1
      refine lv_iconst (v := 0) hx hb dX6_isName_26 (by decide) ?_
      refine lv_istore_n (lv' := [(2, .int (0 : Int32)), (0, .ref (ra 0)), (1, .ref (adK 8))]) hx hb dX6_isName_27 rfl hl (by decide) rfl (fun ls hl => ?_)
      exact C28 fu _ h _ _ I ls (lv_sub hl [1, 2, 0] rfl)
    · replace h := if_f h c1
      refine lv_iconst (v := 0) hx hb dX6_isName_24 (by decide) ?_
      obtain rfl := some1 h
      exact e_z XX hr I rfl rfl dX6_isName_25
set_option maxHeartbeats 4000000 in
set_option maxRecDepth 100000 in
theorem c_T_isName_worth (l : Launch) (G : g_G) (OK : EOk G.2.2) (adK adV : Nat → Nat) (hX : HX G adK adV) (ra : Nat → Nat) (ma : Nat → Nat) (fu : Nat) (rda : g_St) (mda : g_St) (r : Int32) (h : f_T_isName_worth fu rda = some r) : HI l G yX6_isName (Cond.code yX6_isName cX6_isName 3 (some .boolean) :: gT) { frames := 4, cells := 0, slots := 0, locals := 85 } .boolean [.ref (ra 0), .ref (adK 9)] (bT G ra ma rda ++ (bV G ma mda ++ [])) r (bT G ra ma rda ++ (bV G ma mda ++ [])) := by
  refine HI.mk (lv := [(0, .ref (ra 0)), (1, .ref (adK 9))]) OK (by decide) (Nat.le_of_ble_eq_true rfl) rfl ?_
  intro p e s0 m args below meth c ls XX hr I hl
  have hx := XX.x
  have hb := XX.b
  have E := hX _ _ _ XX.E
  have C28 : ∀ n : Nat, ∀ (v2 : Int32), f_T_isName_worth_L28 fu n rda v2 = some r → ∀ (H : Heap) (locs : List Loc), Iv G (va_A (bT G ra ma rda ++ (bV G ma mda ++ [])) s0.heap.size) s0 H locs (bT G ra ma rda ++ (bV G ma mda ++ [])) → ∀ ls, lv_has ls 3 [(0, .ref (ra 0)), (1, .ref (adK 9)), (2, .int v2)] → W p l e { frames := 4, cells := 0, slots := 0, locals := 85 } s0 m args below meth c H locs 0 0 (QI G below .boolean r (bT G ra ma rda ++ (bV G ma mda ++ [])) (bT G ra ma rda ++ (bV G ma mda ++ [])) args s0) (F0 m 28 ls []) := by
    intro n
    induction n with
    | zero => intro v2 h; exact absurd h (fun q => by cases q)
    | succ n ih =>
      intro v2 h H locs I ls hl
      rw [f_T_isName_worth_L28] at h
      refine lv_iload_n hx hb dX6_isName_28 rfl (lv_at hl 2 rfl) ?_
      refine lv_aload_n hx hb dX6_isName_29 rfl (lv_at hl 1 rfl) ?_
      refine call_i (X := []) (wc := []) (Y := (bT G ra ma rda ++ (bV G ma mda ++ []))) (rest := [.int v2]) XX I hl.1 (j_length l G OK adK adV hX 9 (by decide) 5 rfl (by decide)) kV_X6_141 (rc_str E (by decide) I) rfl rfl (Nat.le_of_ble_eq_true rfl) ⟨rfl, rfl, Nat.le_of_ble_eq_true rfl, Nat.le_of_ble_eq_true rfl⟩ ⟨Nat.zero_le _, Nat.zero_le _⟩ dX6_isName_30 (fun H locs hz I => ?_)
      replace I : Iv G (va_A (bT G ra ma rda ++ (bV G ma mda ++ [])) s0.heap.size) s0 H locs (bT G ra ma rda ++ (bV G ma mda ++ [])) := I
      refine lv_icmp_ge (tgt := 63) hx hb dX6_isName_33 (by decide) (fun c1 => ?_) (fun c1 => ?_)
      · replace h := if_t h c1
        refine lv_iconst (v := 1) hx hb dX6_isName_63 (by decide) ?_
        obtain rfl := some1 h
        exact e_z XX hr I rfl rfl dX6_isName_64
      · replace h := if_f h c1
        refine lv_aload_n hx hb dX6_isName_36 rfl (lv_at hl 0 rfl) ?_
        refine gT_X6_o0_bytes XX I dX6_isName_37 ?_
        refine lv_aload_n hx hb dX6_isName_40 rfl (lv_at hl 0 rfl) ?_
        refine gT_X6_o0_start XX I dX6_isName_41 ?_
        refine lv_iload_n hx hb dX6_isName_44 rfl (lv_at hl 2 rfl) ?_
        refine lv_iadd hx hb dX6_isName_45 ?_
        obtain ⟨g1, h⟩ := gd_some h
        refine r_iald XX I 1 (aT_bytes0) g1 dX6_isName_46 ?_
        refine lv_aload_n hx hb dX6_isName_47 rfl (lv_at hl 1 rfl) ?_
        refine lv_iload_n hx hb dX6_isName_48 rfl (lv_at hl 2 rfl) ?_
        obtain ⟨g2, h⟩ := gd_some h
        refine call_i (X := []) (wc := []) (Y := (bT G ra ma rda ++ (bV G ma mda ++ []))) (rest := [.int (gr rda 1 ((gi rda 5) + v2).toNatClampNeg)]) XX I hl.1 (j_charAt l G OK adK adV hX 9 (by decide) 5 v2 rfl g2 (vin_neg g2) (vin_ltI g2 (by decide))) kV_X6_145 (rc_str E (by decide) I) rfl rfl (Nat.le_of_ble_eq_true rfl) ⟨rfl, rfl, Nat.le_of_ble_eq_true rfl, Nat.le_of_ble_eq_true rfl⟩ ⟨Nat.zero_le _, Nat.zero_le _⟩ dX6_isName_49 (fun H locs hz I => ?_)
        replace I : Iv G (va_A (bT G ra ma rda ++ (bV G ma mda ++ [])) s0.heap.size) s0 H locs (bT G ra ma rda ++ (bV G ma mda ++ [])) := I
        refine lv_icmp_eq (tgt := 57) hx hb dX6_isName_52 (by decide) (fun c1 => ?_) (fun c1 => ?_)
        · replace h := if_t h c1
          obtain ⟨y3, ey3⟩ : ∃ z : Int32, z = v2 + (1 : Int32) := ⟨_, rfl⟩
          replace h := lt_e h ey3
          refine lv_iinc (v := y3) (lv' := [(2, .int y3), (0, .ref (ra 0)), (1, .ref (adK 9))]) hx hb dX6_isName_57 hl (k := 2) rfl (by rw [ey3]; rfl) (by decide) rfl (fun ls hl => ?_)
          refine lv_goto (tgt := 28) hx hb dX6_isName_60 (by decide) ?_
          exact ih _ h _ _ I ls (lv_sub hl [1, 2, 0] rfl)
        · replace h := if_f h c1
          refine lv_iconst (v := 0) hx hb dX6_isName_55 (by decide) ?_
          obtain rfl := some1 h
          exact e_z XX hr I rfl rfl dX6_isName_56
  unfold f_T_isName_worth at h
  refine lv_aload_n hx hb dX6_isName_0 rfl (lv_at hl 0 rfl) ?_
  refine gT_X6_o0_token XX I dX6_isName_1 ?_
  refine lv_iconst (v := 1) hx hb dX6_isName_4 (by decide) ?_
  refine lv_icmp_ne (tgt := 24) hx hb dX6_isName_5 (by decide) (fun c1 => ?_) (fun c1 => ?_)
  · replace h := if_f h c1
    refine lv_iconst (v := 0) hx hb dX6_isName_24 (by decide) ?_
    obtain rfl := some1 h
    exact e_z XX hr I rfl rfl dX6_isName_25
  · replace h := if_t h c1
    refine lv_aload_n hx hb dX6_isName_8 rfl (lv_at hl 0 rfl) ?_
    refine gT_X6_o0_at XX I dX6_isName_9 ?_
    refine lv_aload_n hx hb dX6_isName_12 rfl (lv_at hl 0 rfl) ?_
    refine gT_X6_o0_start XX I dX6_isName_13 ?_
    refine lv_isub hx hb dX6_isName_16 ?_
    refine lv_aload_n hx hb dX6_isName_17 rfl (lv_at hl 1 rfl) ?_
    refine call_i (X := []) (wc := []) (Y := (bT G ra ma rda ++ (bV G ma mda ++ []))) (rest := [.int ((gi rda 3) - (gi rda 5))]) XX I hl.1 (j_length l G OK adK adV hX 9 (by decide) 5 rfl (by decide)) kV_X6_141 (rc_str E (by decide) I) rfl rfl (Nat.le_of_ble_eq_true rfl) ⟨rfl, rfl, Nat.le_of_ble_eq_true rfl, Nat.le_of_ble_eq_true rfl⟩ ⟨Nat.zero_le _, Nat.zero_le _⟩ dX6_isName_18 (fun H locs hz I => ?_)
    replace I : Iv G (va_A (bT G ra ma rda ++ (bV G ma mda ++ [])) s0.heap.size) s0 H locs (bT G ra ma rda ++ (bV G ma mda ++ [])) := I
    refine lv_icmp_eq (tgt := 26) hx hb dX6_isName_21 (by decide) (fun c1 => ?_) (fun c1 => ?_)
    · replace h := if_t h c1
      refine lv_iconst (v := 0) hx hb dX6_isName_26 (by decide) ?_
      refine lv_istore_n (lv' := [(2, .int (0 : Int32)), (0, .ref (ra 0)), (1, .ref (adK 9))]) hx hb dX6_isName_27 rfl hl (by decide) rfl (fun ls hl => ?_)
      exact C28 fu _ h _ _ I ls (lv_sub hl [1, 2, 0] rfl)
    · replace h := if_f h c1
      refine lv_iconst (v := 0) hx hb dX6_isName_24 (by decide) ?_
      obtain rfl := some1 h
      exact e_z XX hr I rfl rfl dX6_isName_25
set_option maxHeartbeats 4000000 in
set_option maxRecDepth 100000 in
theorem c_T_isName_need (l : Launch) (G : g_G) (OK : EOk G.2.2) (adK adV : Nat → Nat) (hX : HX G adK adV) (ra : Nat → Nat) (ma : Nat → Nat) (fu : Nat) (rda : g_St) (mda : g_St) (r : Int32) (h : f_T_isName_need fu rda = some r) : HI l G yX6_isName (Cond.code yX6_isName cX6_isName 3 (some .boolean) :: gT) { frames := 4, cells := 0, slots := 0, locals := 85 } .boolean [.ref (ra 0), .ref (adK 10)] (bT G ra ma rda ++ (bV G ma mda ++ [])) r (bT G ra ma rda ++ (bV G ma mda ++ [])) := by
  refine HI.mk (lv := [(0, .ref (ra 0)), (1, .ref (adK 10))]) OK (by decide) (Nat.le_of_ble_eq_true rfl) rfl ?_
  intro p e s0 m args below meth c ls XX hr I hl
  have hx := XX.x
  have hb := XX.b
  have E := hX _ _ _ XX.E
  have C28 : ∀ n : Nat, ∀ (v2 : Int32), f_T_isName_need_L28 fu n rda v2 = some r → ∀ (H : Heap) (locs : List Loc), Iv G (va_A (bT G ra ma rda ++ (bV G ma mda ++ [])) s0.heap.size) s0 H locs (bT G ra ma rda ++ (bV G ma mda ++ [])) → ∀ ls, lv_has ls 3 [(0, .ref (ra 0)), (1, .ref (adK 10)), (2, .int v2)] → W p l e { frames := 4, cells := 0, slots := 0, locals := 85 } s0 m args below meth c H locs 0 0 (QI G below .boolean r (bT G ra ma rda ++ (bV G ma mda ++ [])) (bT G ra ma rda ++ (bV G ma mda ++ [])) args s0) (F0 m 28 ls []) := by
    intro n
    induction n with
    | zero => intro v2 h; exact absurd h (fun q => by cases q)
    | succ n ih =>
      intro v2 h H locs I ls hl
      rw [f_T_isName_need_L28] at h
      refine lv_iload_n hx hb dX6_isName_28 rfl (lv_at hl 2 rfl) ?_
      refine lv_aload_n hx hb dX6_isName_29 rfl (lv_at hl 1 rfl) ?_
      refine call_i (X := []) (wc := []) (Y := (bT G ra ma rda ++ (bV G ma mda ++ []))) (rest := [.int v2]) XX I hl.1 (j_length l G OK adK adV hX 10 (by decide) 4 rfl (by decide)) kV_X6_141 (rc_str E (by decide) I) rfl rfl (Nat.le_of_ble_eq_true rfl) ⟨rfl, rfl, Nat.le_of_ble_eq_true rfl, Nat.le_of_ble_eq_true rfl⟩ ⟨Nat.zero_le _, Nat.zero_le _⟩ dX6_isName_30 (fun H locs hz I => ?_)
      replace I : Iv G (va_A (bT G ra ma rda ++ (bV G ma mda ++ [])) s0.heap.size) s0 H locs (bT G ra ma rda ++ (bV G ma mda ++ [])) := I
      refine lv_icmp_ge (tgt := 63) hx hb dX6_isName_33 (by decide) (fun c1 => ?_) (fun c1 => ?_)
      · replace h := if_t h c1
        refine lv_iconst (v := 1) hx hb dX6_isName_63 (by decide) ?_
        obtain rfl := some1 h
        exact e_z XX hr I rfl rfl dX6_isName_64
      · replace h := if_f h c1
        refine lv_aload_n hx hb dX6_isName_36 rfl (lv_at hl 0 rfl) ?_
        refine gT_X6_o0_bytes XX I dX6_isName_37 ?_
        refine lv_aload_n hx hb dX6_isName_40 rfl (lv_at hl 0 rfl) ?_
        refine gT_X6_o0_start XX I dX6_isName_41 ?_
        refine lv_iload_n hx hb dX6_isName_44 rfl (lv_at hl 2 rfl) ?_
        refine lv_iadd hx hb dX6_isName_45 ?_
        obtain ⟨g1, h⟩ := gd_some h
        refine r_iald XX I 1 (aT_bytes0) g1 dX6_isName_46 ?_
        refine lv_aload_n hx hb dX6_isName_47 rfl (lv_at hl 1 rfl) ?_
        refine lv_iload_n hx hb dX6_isName_48 rfl (lv_at hl 2 rfl) ?_
        obtain ⟨g2, h⟩ := gd_some h
        refine call_i (X := []) (wc := []) (Y := (bT G ra ma rda ++ (bV G ma mda ++ []))) (rest := [.int (gr rda 1 ((gi rda 5) + v2).toNatClampNeg)]) XX I hl.1 (j_charAt l G OK adK adV hX 10 (by decide) 4 v2 rfl g2 (vin_neg g2) (vin_ltI g2 (by decide))) kV_X6_145 (rc_str E (by decide) I) rfl rfl (Nat.le_of_ble_eq_true rfl) ⟨rfl, rfl, Nat.le_of_ble_eq_true rfl, Nat.le_of_ble_eq_true rfl⟩ ⟨Nat.zero_le _, Nat.zero_le _⟩ dX6_isName_49 (fun H locs hz I => ?_)
        replace I : Iv G (va_A (bT G ra ma rda ++ (bV G ma mda ++ [])) s0.heap.size) s0 H locs (bT G ra ma rda ++ (bV G ma mda ++ [])) := I
        refine lv_icmp_eq (tgt := 57) hx hb dX6_isName_52 (by decide) (fun c1 => ?_) (fun c1 => ?_)
        · replace h := if_t h c1
          obtain ⟨y3, ey3⟩ : ∃ z : Int32, z = v2 + (1 : Int32) := ⟨_, rfl⟩
          replace h := lt_e h ey3
          refine lv_iinc (v := y3) (lv' := [(2, .int y3), (0, .ref (ra 0)), (1, .ref (adK 10))]) hx hb dX6_isName_57 hl (k := 2) rfl (by rw [ey3]; rfl) (by decide) rfl (fun ls hl => ?_)
          refine lv_goto (tgt := 28) hx hb dX6_isName_60 (by decide) ?_
          exact ih _ h _ _ I ls (lv_sub hl [1, 2, 0] rfl)
        · replace h := if_f h c1
          refine lv_iconst (v := 0) hx hb dX6_isName_55 (by decide) ?_
          obtain rfl := some1 h
          exact e_z XX hr I rfl rfl dX6_isName_56
  unfold f_T_isName_need at h
  refine lv_aload_n hx hb dX6_isName_0 rfl (lv_at hl 0 rfl) ?_
  refine gT_X6_o0_token XX I dX6_isName_1 ?_
  refine lv_iconst (v := 1) hx hb dX6_isName_4 (by decide) ?_
  refine lv_icmp_ne (tgt := 24) hx hb dX6_isName_5 (by decide) (fun c1 => ?_) (fun c1 => ?_)
  · replace h := if_f h c1
    refine lv_iconst (v := 0) hx hb dX6_isName_24 (by decide) ?_
    obtain rfl := some1 h
    exact e_z XX hr I rfl rfl dX6_isName_25
  · replace h := if_t h c1
    refine lv_aload_n hx hb dX6_isName_8 rfl (lv_at hl 0 rfl) ?_
    refine gT_X6_o0_at XX I dX6_isName_9 ?_
    refine lv_aload_n hx hb dX6_isName_12 rfl (lv_at hl 0 rfl) ?_
    refine gT_X6_o0_start XX I dX6_isName_13 ?_
    refine lv_isub hx hb dX6_isName_16 ?_
    refine lv_aload_n hx hb dX6_isName_17 rfl (lv_at hl 1 rfl) ?_
    refine call_i (X := []) (wc := []) (Y := (bT G ra ma rda ++ (bV G ma mda ++ []))) (rest := [.int ((gi rda 3) - (gi rda 5))]) XX I hl.1 (j_length l G OK adK adV hX 10 (by decide) 4 rfl (by decide)) kV_X6_141 (rc_str E (by decide) I) rfl rfl (Nat.le_of_ble_eq_true rfl) ⟨rfl, rfl, Nat.le_of_ble_eq_true rfl, Nat.le_of_ble_eq_true rfl⟩ ⟨Nat.zero_le _, Nat.zero_le _⟩ dX6_isName_18 (fun H locs hz I => ?_)
    replace I : Iv G (va_A (bT G ra ma rda ++ (bV G ma mda ++ [])) s0.heap.size) s0 H locs (bT G ra ma rda ++ (bV G ma mda ++ [])) := I
    refine lv_icmp_eq (tgt := 26) hx hb dX6_isName_21 (by decide) (fun c1 => ?_) (fun c1 => ?_)
    · replace h := if_t h c1
      refine lv_iconst (v := 0) hx hb dX6_isName_26 (by decide) ?_
      refine lv_istore_n (lv' := [(2, .int (0 : Int32)), (0, .ref (ra 0)), (1, .ref (adK 10))]) hx hb dX6_isName_27 rfl hl (by decide) rfl (fun ls hl => ?_)
      exact C28 fu _ h _ _ I ls (lv_sub hl [1, 2, 0] rfl)
    · replace h := if_f h c1
      refine lv_iconst (v := 0) hx hb dX6_isName_24 (by decide) ?_
      obtain rfl := some1 h
      exact e_z XX hr I rfl rfl dX6_isName_25
set_option maxHeartbeats 4000000 in
set_option maxRecDepth 100000 in
theorem c_T_isName_grow (l : Launch) (G : g_G) (OK : EOk G.2.2) (adK adV : Nat → Nat) (hX : HX G adK adV) (ra : Nat → Nat) (ma : Nat → Nat) (fu : Nat) (rda : g_St) (mda : g_St) (r : Int32) (h : f_T_isName_grow fu rda = some r) : HI l G yX6_isName (Cond.code yX6_isName cX6_isName 3 (some .boolean) :: gT) { frames := 4, cells := 0, slots := 0, locals := 85 } .boolean [.ref (ra 0), .ref (adK 11)] (bT G ra ma rda ++ (bV G ma mda ++ [])) r (bT G ra ma rda ++ (bV G ma mda ++ [])) := by
  refine HI.mk (lv := [(0, .ref (ra 0)), (1, .ref (adK 11))]) OK (by decide) (Nat.le_of_ble_eq_true rfl) rfl ?_
  intro p e s0 m args below meth c ls XX hr I hl
  have hx := XX.x
  have hb := XX.b
  have E := hX _ _ _ XX.E
  have C28 : ∀ n : Nat, ∀ (v2 : Int32), f_T_isName_grow_L28 fu n rda v2 = some r → ∀ (H : Heap) (locs : List Loc), Iv G (va_A (bT G ra ma rda ++ (bV G ma mda ++ [])) s0.heap.size) s0 H locs (bT G ra ma rda ++ (bV G ma mda ++ [])) → ∀ ls, lv_has ls 3 [(0, .ref (ra 0)), (1, .ref (adK 11)), (2, .int v2)] → W p l e { frames := 4, cells := 0, slots := 0, locals := 85 } s0 m args below meth c H locs 0 0 (QI G below .boolean r (bT G ra ma rda ++ (bV G ma mda ++ [])) (bT G ra ma rda ++ (bV G ma mda ++ [])) args s0) (F0 m 28 ls []) := by
    intro n
    induction n with
    | zero => intro v2 h; exact absurd h (fun q => by cases q)
    | succ n ih =>
      intro v2 h H locs I ls hl
      rw [f_T_isName_grow_L28] at h
      refine lv_iload_n hx hb dX6_isName_28 rfl (lv_at hl 2 rfl) ?_
      refine lv_aload_n hx hb dX6_isName_29 rfl (lv_at hl 1 rfl) ?_
      refine call_i (X := []) (wc := []) (Y := (bT G ra ma rda ++ (bV G ma mda ++ []))) (rest := [.int v2]) XX I hl.1 (j_length l G OK adK adV hX 11 (by decide) 4 rfl (by decide)) kV_X6_141 (rc_str E (by decide) I) rfl rfl (Nat.le_of_ble_eq_true rfl) ⟨rfl, rfl, Nat.le_of_ble_eq_true rfl, Nat.le_of_ble_eq_true rfl⟩ ⟨Nat.zero_le _, Nat.zero_le _⟩ dX6_isName_30 (fun H locs hz I => ?_)
      replace I : Iv G (va_A (bT G ra ma rda ++ (bV G ma mda ++ [])) s0.heap.size) s0 H locs (bT G ra ma rda ++ (bV G ma mda ++ [])) := I
      refine lv_icmp_ge (tgt := 63) hx hb dX6_isName_33 (by decide) (fun c1 => ?_) (fun c1 => ?_)
      · replace h := if_t h c1
        refine lv_iconst (v := 1) hx hb dX6_isName_63 (by decide) ?_
        obtain rfl := some1 h
        exact e_z XX hr I rfl rfl dX6_isName_64
      · replace h := if_f h c1
        refine lv_aload_n hx hb dX6_isName_36 rfl (lv_at hl 0 rfl) ?_
        refine gT_X6_o0_bytes XX I dX6_isName_37 ?_
        refine lv_aload_n hx hb dX6_isName_40 rfl (lv_at hl 0 rfl) ?_
        refine gT_X6_o0_start XX I dX6_isName_41 ?_
        refine lv_iload_n hx hb dX6_isName_44 rfl (lv_at hl 2 rfl) ?_
        refine lv_iadd hx hb dX6_isName_45 ?_
        obtain ⟨g1, h⟩ := gd_some h
        refine r_iald XX I 1 (aT_bytes0) g1 dX6_isName_46 ?_
        refine lv_aload_n hx hb dX6_isName_47 rfl (lv_at hl 1 rfl) ?_
        refine lv_iload_n hx hb dX6_isName_48 rfl (lv_at hl 2 rfl) ?_
        obtain ⟨g2, h⟩ := gd_some h
        refine call_i (X := []) (wc := []) (Y := (bT G ra ma rda ++ (bV G ma mda ++ []))) (rest := [.int (gr rda 1 ((gi rda 5) + v2).toNatClampNeg)]) XX I hl.1 (j_charAt l G OK adK adV hX 11 (by decide) 4 v2 rfl g2 (vin_neg g2) (vin_ltI g2 (by decide))) kV_X6_145 (rc_str E (by decide) I) rfl rfl (Nat.le_of_ble_eq_true rfl) ⟨rfl, rfl, Nat.le_of_ble_eq_true rfl, Nat.le_of_ble_eq_true rfl⟩ ⟨Nat.zero_le _, Nat.zero_le _⟩ dX6_isName_49 (fun H locs hz I => ?_)
        replace I : Iv G (va_A (bT G ra ma rda ++ (bV G ma mda ++ [])) s0.heap.size) s0 H locs (bT G ra ma rda ++ (bV G ma mda ++ [])) := I
        refine lv_icmp_eq (tgt := 57) hx hb dX6_isName_52 (by decide) (fun c1 => ?_) (fun c1 => ?_)
        · replace h := if_t h c1
          obtain ⟨y3, ey3⟩ : ∃ z : Int32, z = v2 + (1 : Int32) := ⟨_, rfl⟩
          replace h := lt_e h ey3
          refine lv_iinc (v := y3) (lv' := [(2, .int y3), (0, .ref (ra 0)), (1, .ref (adK 11))]) hx hb dX6_isName_57 hl (k := 2) rfl (by rw [ey3]; rfl) (by decide) rfl (fun ls hl => ?_)
          refine lv_goto (tgt := 28) hx hb dX6_isName_60 (by decide) ?_
          exact ih _ h _ _ I ls (lv_sub hl [1, 2, 0] rfl)
        · replace h := if_f h c1
          refine lv_iconst (v := 0) hx hb dX6_isName_55 (by decide) ?_
          obtain rfl := some1 h
          exact e_z XX hr I rfl rfl dX6_isName_56
  unfold f_T_isName_grow at h
  refine lv_aload_n hx hb dX6_isName_0 rfl (lv_at hl 0 rfl) ?_
  refine gT_X6_o0_token XX I dX6_isName_1 ?_
  refine lv_iconst (v := 1) hx hb dX6_isName_4 (by decide) ?_
  refine lv_icmp_ne (tgt := 24) hx hb dX6_isName_5 (by decide) (fun c1 => ?_) (fun c1 => ?_)
  · replace h := if_f h c1
    refine lv_iconst (v := 0) hx hb dX6_isName_24 (by decide) ?_
    obtain rfl := some1 h
    exact e_z XX hr I rfl rfl dX6_isName_25
  · replace h := if_t h c1
    refine lv_aload_n hx hb dX6_isName_8 rfl (lv_at hl 0 rfl) ?_
    refine gT_X6_o0_at XX I dX6_isName_9 ?_
    refine lv_aload_n hx hb dX6_isName_12 rfl (lv_at hl 0 rfl) ?_
    refine gT_X6_o0_start XX I dX6_isName_13 ?_
    refine lv_isub hx hb dX6_isName_16 ?_
    refine lv_aload_n hx hb dX6_isName_17 rfl (lv_at hl 1 rfl) ?_
    refine call_i (X := []) (wc := []) (Y := (bT G ra ma rda ++ (bV G ma mda ++ []))) (rest := [.int ((gi rda 3) - (gi rda 5))]) XX I hl.1 (j_length l G OK adK adV hX 11 (by decide) 4 rfl (by decide)) kV_X6_141 (rc_str E (by decide) I) rfl rfl (Nat.le_of_ble_eq_true rfl) ⟨rfl, rfl, Nat.le_of_ble_eq_true rfl, Nat.le_of_ble_eq_true rfl⟩ ⟨Nat.zero_le _, Nat.zero_le _⟩ dX6_isName_18 (fun H locs hz I => ?_)
    replace I : Iv G (va_A (bT G ra ma rda ++ (bV G ma mda ++ [])) s0.heap.size) s0 H locs (bT G ra ma rda ++ (bV G ma mda ++ [])) := I
    refine lv_icmp_eq (tgt := 26) hx hb dX6_isName_21 (by decide) (fun c1 => ?_) (fun c1 => ?_)
    · replace h := if_t h c1
      refine lv_iconst (v := 0) hx hb dX6_isName_26 (by decide) ?_
      refine lv_istore_n (lv' := [(2, .int (0 : Int32)), (0, .ref (ra 0)), (1, .ref (adK 11))]) hx hb dX6_isName_27 rfl hl (by decide) rfl (fun ls hl => ?_)
      exact C28 fu _ h _ _ I ls (lv_sub hl [1, 2, 0] rfl)
    · replace h := if_f h c1
      refine lv_iconst (v := 0) hx hb dX6_isName_24 (by decide) ?_
      obtain rfl := some1 h
      exact e_z XX hr I rfl rfl dX6_isName_25
set_option maxHeartbeats 4000000 in
set_option maxRecDepth 100000 in
theorem c_T_isName_turn (l : Launch) (G : g_G) (OK : EOk G.2.2) (adK adV : Nat → Nat) (hX : HX G adK adV) (ra : Nat → Nat) (ma : Nat → Nat) (fu : Nat) (rda : g_St) (mda : g_St) (r : Int32) (h : f_T_isName_turn fu rda = some r) : HI l G yX6_isName (Cond.code yX6_isName cX6_isName 3 (some .boolean) :: gT) { frames := 4, cells := 0, slots := 0, locals := 85 } .boolean [.ref (ra 0), .ref (adK 12)] (bT G ra ma rda ++ (bV G ma mda ++ [])) r (bT G ra ma rda ++ (bV G ma mda ++ [])) := by
  refine HI.mk (lv := [(0, .ref (ra 0)), (1, .ref (adK 12))]) OK (by decide) (Nat.le_of_ble_eq_true rfl) rfl ?_
  intro p e s0 m args below meth c ls XX hr I hl
  have hx := XX.x
  have hb := XX.b
  have E := hX _ _ _ XX.E
  have C28 : ∀ n : Nat, ∀ (v2 : Int32), f_T_isName_turn_L28 fu n rda v2 = some r → ∀ (H : Heap) (locs : List Loc), Iv G (va_A (bT G ra ma rda ++ (bV G ma mda ++ [])) s0.heap.size) s0 H locs (bT G ra ma rda ++ (bV G ma mda ++ [])) → ∀ ls, lv_has ls 3 [(0, .ref (ra 0)), (1, .ref (adK 12)), (2, .int v2)] → W p l e { frames := 4, cells := 0, slots := 0, locals := 85 } s0 m args below meth c H locs 0 0 (QI G below .boolean r (bT G ra ma rda ++ (bV G ma mda ++ [])) (bT G ra ma rda ++ (bV G ma mda ++ [])) args s0) (F0 m 28 ls []) := by
    intro n
    induction n with
    | zero => intro v2 h; exact absurd h (fun q => by cases q)
    | succ n ih =>
      intro v2 h H locs I ls hl
      rw [f_T_isName_turn_L28] at h
      refine lv_iload_n hx hb dX6_isName_28 rfl (lv_at hl 2 rfl) ?_
      refine lv_aload_n hx hb dX6_isName_29 rfl (lv_at hl 1 rfl) ?_
      refine call_i (X := []) (wc := []) (Y := (bT G ra ma rda ++ (bV G ma mda ++ []))) (rest := [.int v2]) XX I hl.1 (j_length l G OK adK adV hX 12 (by decide) 4 rfl (by decide)) kV_X6_141 (rc_str E (by decide) I) rfl rfl (Nat.le_of_ble_eq_true rfl) ⟨rfl, rfl, Nat.le_of_ble_eq_true rfl, Nat.le_of_ble_eq_true rfl⟩ ⟨Nat.zero_le _, Nat.zero_le _⟩ dX6_isName_30 (fun H locs hz I => ?_)
      replace I : Iv G (va_A (bT G ra ma rda ++ (bV G ma mda ++ [])) s0.heap.size) s0 H locs (bT G ra ma rda ++ (bV G ma mda ++ [])) := I
      refine lv_icmp_ge (tgt := 63) hx hb dX6_isName_33 (by decide) (fun c1 => ?_) (fun c1 => ?_)
      · replace h := if_t h c1
        refine lv_iconst (v := 1) hx hb dX6_isName_63 (by decide) ?_
        obtain rfl := some1 h
        exact e_z XX hr I rfl rfl dX6_isName_64
      · replace h := if_f h c1
        refine lv_aload_n hx hb dX6_isName_36 rfl (lv_at hl 0 rfl) ?_
        refine gT_X6_o0_bytes XX I dX6_isName_37 ?_
        refine lv_aload_n hx hb dX6_isName_40 rfl (lv_at hl 0 rfl) ?_
        refine gT_X6_o0_start XX I dX6_isName_41 ?_
        refine lv_iload_n hx hb dX6_isName_44 rfl (lv_at hl 2 rfl) ?_
        refine lv_iadd hx hb dX6_isName_45 ?_
        obtain ⟨g1, h⟩ := gd_some h
        refine r_iald XX I 1 (aT_bytes0) g1 dX6_isName_46 ?_
        refine lv_aload_n hx hb dX6_isName_47 rfl (lv_at hl 1 rfl) ?_
        refine lv_iload_n hx hb dX6_isName_48 rfl (lv_at hl 2 rfl) ?_
        obtain ⟨g2, h⟩ := gd_some h
        refine call_i (X := []) (wc := []) (Y := (bT G ra ma rda ++ (bV G ma mda ++ []))) (rest := [.int (gr rda 1 ((gi rda 5) + v2).toNatClampNeg)]) XX I hl.1 (j_charAt l G OK adK adV hX 12 (by decide) 4 v2 rfl g2 (vin_neg g2) (vin_ltI g2 (by decide))) kV_X6_145 (rc_str E (by decide) I) rfl rfl (Nat.le_of_ble_eq_true rfl) ⟨rfl, rfl, Nat.le_of_ble_eq_true rfl, Nat.le_of_ble_eq_true rfl⟩ ⟨Nat.zero_le _, Nat.zero_le _⟩ dX6_isName_49 (fun H locs hz I => ?_)
        replace I : Iv G (va_A (bT G ra ma rda ++ (bV G ma mda ++ [])) s0.heap.size) s0 H locs (bT G ra ma rda ++ (bV G ma mda ++ [])) := I
        refine lv_icmp_eq (tgt := 57) hx hb dX6_isName_52 (by decide) (fun c1 => ?_) (fun c1 => ?_)
        · replace h := if_t h c1
          obtain ⟨y3, ey3⟩ : ∃ z : Int32, z = v2 + (1 : Int32) := ⟨_, rfl⟩
          replace h := lt_e h ey3
          refine lv_iinc (v := y3) (lv' := [(2, .int y3), (0, .ref (ra 0)), (1, .ref (adK 12))]) hx hb dX6_isName_57 hl (k := 2) rfl (by rw [ey3]; rfl) (by decide) rfl (fun ls hl => ?_)
          refine lv_goto (tgt := 28) hx hb dX6_isName_60 (by decide) ?_
          exact ih _ h _ _ I ls (lv_sub hl [1, 2, 0] rfl)
        · replace h := if_f h c1
          refine lv_iconst (v := 0) hx hb dX6_isName_55 (by decide) ?_
          obtain rfl := some1 h
          exact e_z XX hr I rfl rfl dX6_isName_56
  unfold f_T_isName_turn at h
  refine lv_aload_n hx hb dX6_isName_0 rfl (lv_at hl 0 rfl) ?_
  refine gT_X6_o0_token XX I dX6_isName_1 ?_
  refine lv_iconst (v := 1) hx hb dX6_isName_4 (by decide) ?_
  refine lv_icmp_ne (tgt := 24) hx hb dX6_isName_5 (by decide) (fun c1 => ?_) (fun c1 => ?_)
  · replace h := if_f h c1
    refine lv_iconst (v := 0) hx hb dX6_isName_24 (by decide) ?_
    obtain rfl := some1 h
    exact e_z XX hr I rfl rfl dX6_isName_25
  · replace h := if_t h c1
    refine lv_aload_n hx hb dX6_isName_8 rfl (lv_at hl 0 rfl) ?_
    refine gT_X6_o0_at XX I dX6_isName_9 ?_
    refine lv_aload_n hx hb dX6_isName_12 rfl (lv_at hl 0 rfl) ?_
    refine gT_X6_o0_start XX I dX6_isName_13 ?_
    refine lv_isub hx hb dX6_isName_16 ?_
    refine lv_aload_n hx hb dX6_isName_17 rfl (lv_at hl 1 rfl) ?_
    refine call_i (X := []) (wc := []) (Y := (bT G ra ma rda ++ (bV G ma mda ++ []))) (rest := [.int ((gi rda 3) - (gi rda 5))]) XX I hl.1 (j_length l G OK adK adV hX 12 (by decide) 4 rfl (by decide)) kV_X6_141 (rc_str E (by decide) I) rfl rfl (Nat.le_of_ble_eq_true rfl) ⟨rfl, rfl, Nat.le_of_ble_eq_true rfl, Nat.le_of_ble_eq_true rfl⟩ ⟨Nat.zero_le _, Nat.zero_le _⟩ dX6_isName_18 (fun H locs hz I => ?_)
    replace I : Iv G (va_A (bT G ra ma rda ++ (bV G ma mda ++ [])) s0.heap.size) s0 H locs (bT G ra ma rda ++ (bV G ma mda ++ [])) := I
    refine lv_icmp_eq (tgt := 26) hx hb dX6_isName_21 (by decide) (fun c1 => ?_) (fun c1 => ?_)
    · replace h := if_t h c1
      refine lv_iconst (v := 0) hx hb dX6_isName_26 (by decide) ?_
      refine lv_istore_n (lv' := [(2, .int (0 : Int32)), (0, .ref (ra 0)), (1, .ref (adK 12))]) hx hb dX6_isName_27 rfl hl (by decide) rfl (fun ls hl => ?_)
      exact C28 fu _ h _ _ I ls (lv_sub hl [1, 2, 0] rfl)
    · replace h := if_f h c1
      refine lv_iconst (v := 0) hx hb dX6_isName_24 (by decide) ?_
      obtain rfl := some1 h
      exact e_z XX hr I rfl rfl dX6_isName_25
theorem kV_X6_73 : KV RX6 73 RX6 yX6_isName cX6_isName 3 (some .boolean) 1 := KV.mk wd_380 wd_382 wd_1582 wd_4 wd_383 (by decide +kernel)
set_option maxHeartbeats 4000000 in
set_option maxRecDepth 100000 in
theorem c_T_kindNamed (l : Launch) (G : g_G) (OK : EOk G.2.2) (adK adV : Nat → Nat) (hX : HX G adK adV) (ra : Nat → Nat) (ma : Nat → Nat) (fu : Nat) (rda : g_St) (mda : g_St) (r : Int32) (h : f_T_kindNamed fu rda = some r) : HI l G yX6_kindNamed (Cond.code yX6_kindNamed cX6_kindNamed 1 (some .int) :: gT) { frames := 5, cells := 0, slots := 0, locals := 107 } .int [.ref (ra 0)] (bT G ra ma rda ++ (bV G ma mda ++ [])) r (bT G ra ma rda ++ (bV G ma mda ++ [])) := by
  refine HI.mk (lv := [(0, .ref (ra 0))]) OK (by decide) (Nat.le_of_ble_eq_true rfl) rfl ?_
  intro p e s0 m args below meth c ls XX hr I hl
  have hx := XX.x
  have hb := XX.b
  have E := hX _ _ _ XX.E
  unfold f_T_kindNamed at h
  refine lv_aload_n hx hb dX6_kindNamed_0 rfl (lv_at hl 0 rfl) ?_
  refine va_ldcS hx hb XX.o (E.2.2.2.1 0 (by decide)) dX6_kindNamed_1 ?_
  obtain ⟨r1, q2, h⟩ := bd1_some h
  refine wcall_i (rest := []) XX I hl.1 (c_T_isName_sayer l G OK adK adV hX ra ma fu rda mda r1 q2) kV_X6_73 (Rc.mk XX I (q0 := 0) (ci := 6) rfl rfl) rfl rfl (Nat.le_of_ble_eq_true rfl) ⟨rfl, rfl, Nat.le_of_ble_eq_true rfl, Nat.le_of_ble_eq_true rfl⟩ ⟨Nat.zero_le _, Nat.zero_le _⟩ dX6_kindNamed_3 (fun H locs hz3 I => ?_)
  refine lv_if_eq (tgt := 11) hx hb dX6_kindNamed_6 (by decide) (fun c1 => ?_) (fun c1 => ?_)
  · replace h := if_t h c1
    refine lv_aload_n hx hb dX6_kindNamed_11 rfl (lv_at hl 0 rfl) ?_
    refine va_ldcS hx hb XX.o (E.2.2.2.1 1 (by decide)) dX6_kindNamed_12 ?_
    obtain ⟨r4, q5, h⟩ := bd1_some h
    refine wcall_i (rest := []) XX I hl.1 (c_T_isName_quick l G OK adK adV hX ra ma fu rda mda r4 q5) kV_X6_73 (Rc.mk XX I (q0 := 0) (ci := 6) rfl rfl) rfl rfl (Nat.le_of_ble_eq_true rfl) ⟨rfl, rfl, Nat.le_of_ble_eq_true rfl, Nat.le_of_ble_eq_true rfl⟩ ⟨Nat.zero_le _, Nat.zero_le _⟩ dX6_kindNamed_14 (fun H locs hz6 I => ?_)
    refine lv_if_eq (tgt := 22) hx hb dX6_kindNamed_17 (by decide) (fun c1 => ?_) (fun c1 => ?_)
    · replace h := if_t h c1
      refine lv_aload_n hx hb dX6_kindNamed_22 rfl (lv_at hl 0 rfl) ?_
      refine va_ldcS hx hb XX.o (E.2.2.2.1 2 (by decide)) dX6_kindNamed_23 ?_
      obtain ⟨r7, q8, h⟩ := bd1_some h
      refine wcall_i (rest := []) XX I hl.1 (c_T_isName_bar l G OK adK adV hX ra ma fu rda mda r7 q8) kV_X6_73 (Rc.mk XX I (q0 := 0) (ci := 6) rfl rfl) rfl rfl (Nat.le_of_ble_eq_true rfl) ⟨rfl, rfl, Nat.le_of_ble_eq_true rfl, Nat.le_of_ble_eq_true rfl⟩ ⟨Nat.zero_le _, Nat.zero_le _⟩ dX6_kindNamed_25 (fun H locs hz9 I => ?_)
      refine lv_if_eq (tgt := 33) hx hb dX6_kindNamed_28 (by decide) (fun c1 => ?_) (fun c1 => ?_)
      · replace h := if_t h c1
        refine lv_aload_n hx hb dX6_kindNamed_33 rfl (lv_at hl 0 rfl) ?_
        refine va_ldcS hx hb XX.o (E.2.2.2.1 3 (by decide)) dX6_kindNamed_34 ?_
        obtain ⟨r10, q11, h⟩ := bd1_some h
        refine wcall_i (rest := []) XX I hl.1 (c_T_isName_wait l G OK adK adV hX ra ma fu rda mda r10 q11) kV_X6_73 (Rc.mk XX I (q0 := 0) (ci := 6) rfl rfl) rfl rfl (Nat.le_of_ble_eq_true rfl) ⟨rfl, rfl, Nat.le_of_ble_eq_true rfl, Nat.le_of_ble_eq_true rfl⟩ ⟨Nat.zero_le _, Nat.zero_le _⟩ dX6_kindNamed_36 (fun H locs hz12 I => ?_)
        refine lv_if_eq (tgt := 44) hx hb dX6_kindNamed_39 (by decide) (fun c1 => ?_) (fun c1 => ?_)
        · replace h := if_t h c1
          refine lv_aload_n hx hb dX6_kindNamed_44 rfl (lv_at hl 0 rfl) ?_
          refine va_ldcS hx hb XX.o (E.2.2.2.1 4 (by decide)) dX6_kindNamed_45 ?_
          obtain ⟨r13, q14, h⟩ := bd1_some h
          refine wcall_i (rest := []) XX I hl.1 (c_T_isName_league l G OK adK adV hX ra ma fu rda mda r13 q14) kV_X6_73 (Rc.mk XX I (q0 := 0) (ci := 6) rfl rfl) rfl rfl (Nat.le_of_ble_eq_true rfl) ⟨rfl, rfl, Nat.le_of_ble_eq_true rfl, Nat.le_of_ble_eq_true rfl⟩ ⟨Nat.zero_le _, Nat.zero_le _⟩ dX6_kindNamed_47 (fun H locs hz15 I => ?_)
          refine lv_if_eq (tgt := 55) hx hb dX6_kindNamed_50 (by decide) (fun c1 => ?_) (fun c1 => ?_)
          · replace h := if_t h c1
            refine lv_aload_n hx hb dX6_kindNamed_55 rfl (lv_at hl 0 rfl) ?_
            refine va_ldcS hx hb XX.o (E.2.2.2.1 5 (by decide)) dX6_kindNamed_56 ?_
            obtain ⟨r16, q17, h⟩ := bd1_some h
            refine wcall_i (rest := []) XX I hl.1 (c_T_isName_told l G OK adK adV hX ra ma fu rda mda r16 q17) kV_X6_73 (Rc.mk XX I (q0 := 0) (ci := 6) rfl rfl) rfl rfl (Nat.le_of_ble_eq_true rfl) ⟨rfl, rfl, Nat.le_of_ble_eq_true rfl, Nat.le_of_ble_eq_true rfl⟩ ⟨Nat.zero_le _, Nat.zero_le _⟩ dX6_kindNamed_58 (fun H locs hz18 I => ?_)
            refine lv_if_eq (tgt := 66) hx hb dX6_kindNamed_61 (by decide) (fun c1 => ?_) (fun c1 => ?_)
            · replace h := if_t h c1
              refine lv_iconst (v := (-1)) hx hb dX6_kindNamed_66 (by decide) ?_
              obtain rfl := some1 h
              exact e_i rfl XX hr I rfl dX6_kindNamed_67
            · replace h := if_f h c1
              refine lv_iconst (v := 5) hx hb dX6_kindNamed_64 (by decide) ?_
              obtain rfl := some1 h
              exact e_i rfl XX hr I rfl dX6_kindNamed_65
          · replace h := if_f h c1
            refine lv_iconst (v := 4) hx hb dX6_kindNamed_53 (by decide) ?_
            obtain rfl := some1 h
            exact e_i rfl XX hr I rfl dX6_kindNamed_54
        · replace h := if_f h c1
          refine lv_iconst (v := 3) hx hb dX6_kindNamed_42 (by decide) ?_
          obtain rfl := some1 h
          exact e_i rfl XX hr I rfl dX6_kindNamed_43
      · replace h := if_f h c1
        refine lv_iconst (v := 2) hx hb dX6_kindNamed_31 (by decide) ?_
        obtain rfl := some1 h
        exact e_i rfl XX hr I rfl dX6_kindNamed_32
    · replace h := if_f h c1
      refine lv_iconst (v := 1) hx hb dX6_kindNamed_20 (by decide) ?_
      obtain rfl := some1 h
      exact e_i rfl XX hr I rfl dX6_kindNamed_21
  · replace h := if_f h c1
    refine lv_iconst (v := 0) hx hb dX6_kindNamed_9 (by decide) ?_
    obtain rfl := some1 h
    exact e_i rfl XX hr I rfl dX6_kindNamed_10
theorem pT_X6_o0_number {p : Program} {l : Launch} {e : Env} {R : Room} {s0 : State} {m : MethodId} {args : Array Value} {below : List Frame} {meth : Method} {c : Code} {H : Heap} {locs : List Loc} {cells slots : Nat} {Q : State → Prop} {cc : ByteArray} {nL pc : Nat} {ls : Array Slot} {rest : List Value} {G : g_G} {A : Nat → Prop} {ra : Nat → Nat} {ma : Nat → Nat} {rd : g_St} {md : g_St} {val : Int32} (XX : Cx G A p s0 m meth c cc nL RX6 args) (I : Iv G A s0 H locs (bT G ra ma rd ++ (bV G ma md ++ []))) (hdg : decode cc pc = .ok (.putfield 35, 3)) (kk : ∀ (H1 : Heap) (locs1 : List Loc), Iv G A s0 H1 locs1 (bT G ra ma (si rd 6 val) ++ (bV G ma md ++ [])) → W p l e R s0 m args below meth c H1 locs1 cells slots Q (F0 m (pc + 3) ls rest)) : W p l e R s0 m args below meth c H locs cells slots Q (F0 m pc ls (.int val :: .ref (ra 0) :: rest)) := r_put kfX6 XX I 0 rfl 6 (Nat.le_of_ble_eq_true rfl) wd_138 rfl (vp_nar_int val) rfl (Nat.le_of_ble_eq_true rfl) rfl hdg kk
theorem gT_X6_o0_length {p : Program} {l : Launch} {e : Env} {R : Room} {s0 : State} {m : MethodId} {args : Array Value} {below : List Frame} {meth : Method} {c : Code} {H : Heap} {locs : List Loc} {cells slots : Nat} {Q : State → Prop} {cc : ByteArray} {nL pc : Nat} {ls : Array Slot} {rest : List Value} {G : g_G} {A : Nat → Prop} {ra : Nat → Nat} {ma : Nat → Nat} {rd : g_St} {md : g_St} (XX : Cx G A p s0 m meth c cc nL RX6 args) (I : Iv G A s0 H locs (bT G ra ma rd ++ (bV G ma md ++ []))) (hdg : decode cc pc = .ok (.getfield 22, 3)) (kk : W p l e R s0 m args below meth c H locs cells slots Q (F0 m (pc + 3) ls (.int (gi rd 2) :: rest))) : W p l e R s0 m args below meth c H locs cells slots Q (F0 m pc ls (.ref (ra 0) :: rest)) := r_get kfX6 XX I 0 rfl 2 (Nat.le_of_ble_eq_true rfl) wd_133 rfl hdg kk
theorem pT_X6_o0_at {p : Program} {l : Launch} {e : Env} {R : Room} {s0 : State} {m : MethodId} {args : Array Value} {below : List Frame} {meth : Method} {c : Code} {H : Heap} {locs : List Loc} {cells slots : Nat} {Q : State → Prop} {cc : ByteArray} {nL pc : Nat} {ls : Array Slot} {rest : List Value} {G : g_G} {A : Nat → Prop} {ra : Nat → Nat} {ma : Nat → Nat} {rd : g_St} {md : g_St} {val : Int32} (XX : Cx G A p s0 m meth c cc nL RX6 args) (I : Iv G A s0 H locs (bT G ra ma rd ++ (bV G ma md ++ []))) (hdg : decode cc pc = .ok (.putfield 26, 3)) (kk : ∀ (H1 : Heap) (locs1 : List Loc), Iv G A s0 H1 locs1 (bT G ra ma (si rd 3 val) ++ (bV G ma md ++ [])) → W p l e R s0 m args below meth c H1 locs1 cells slots Q (F0 m (pc + 3) ls rest)) : W p l e R s0 m args below meth c H locs cells slots Q (F0 m pc ls (.int val :: .ref (ra 0) :: rest)) := r_put kfX6 XX I 0 rfl 3 (Nat.le_of_ble_eq_true rfl) wd_134 rfl (vp_nar_int val) rfl (Nat.le_of_ble_eq_true rfl) rfl hdg kk
theorem gT_X6_o0_number {p : Program} {l : Launch} {e : Env} {R : Room} {s0 : State} {m : MethodId} {args : Array Value} {below : List Frame} {meth : Method} {c : Code} {H : Heap} {locs : List Loc} {cells slots : Nat} {Q : State → Prop} {cc : ByteArray} {nL pc : Nat} {ls : Array Slot} {rest : List Value} {G : g_G} {A : Nat → Prop} {ra : Nat → Nat} {ma : Nat → Nat} {rd : g_St} {md : g_St} (XX : Cx G A p s0 m meth c cc nL RX6 args) (I : Iv G A s0 H locs (bT G ra ma rd ++ (bV G ma md ++ []))) (hdg : decode cc pc = .ok (.getfield 35, 3)) (kk : W p l e R s0 m args below meth c H locs cells slots Q (F0 m (pc + 3) ls (.int (gi rd 6) :: rest))) : W p l e R s0 m args below meth c H locs cells slots Q (F0 m pc ls (.ref (ra 0) :: rest)) := r_get kfX6 XX I 0 rfl 6 (Nat.le_of_ble_eq_true rfl) wd_138 rfl hdg kk
set_option maxHeartbeats 4000000 in
set_option maxRecDepth 100000 in
theorem c_T_takeNumber (l : Launch) (G : g_G) (OK : EOk G.2.2) (adK adV : Nat → Nat) (hX : HX G adK adV) (ra : Nat → Nat) (ma : Nat → Nat) (fu : Nat) (rda : g_St) (mda : g_St) (trd : g_St) (h : f_T_takeNumber fu rda = some trd) : HV l G yX6_takeNumber (Cond.code yX6_takeNumber cX6_takeNumber 1 none :: gT) { frames := 0, cells := 0, slots := 0, locals := 0 } [.ref (ra 0)] (bT G ra ma rda ++ (bV G ma mda ++ [])) (bT G ra ma trd ++ (bV G ma mda ++ [])) := by
  refine HV.mk (lv := [(0, .ref (ra 0))]) OK (by decide) (Nat.le_of_ble_eq_true rfl) rfl ?_
  intro p e s0 m args below meth c ls XX hr I hl
  have hx := XX.x
  have hb := XX.b
  have E := hX _ _ _ XX.E
  have C94 : ∀ (rd : g_St), f_T_takeNumber_L94 fu rd = some trd → ∀ (H : Heap) (locs : List Loc), Iv G (va_A (bT G ra ma rda ++ (bV G ma mda ++ [])) s0.heap.size) s0 H locs (bT G ra ma rd ++ (bV G ma mda ++ [])) → ∀ ls, lv_has ls 1 [(0, .ref (ra 0))] → W p l e { frames := 0, cells := 0, slots := 0, locals := 0 } s0 m args below meth c H locs 0 0 (QV G below (bT G ra ma rda ++ (bV G ma mda ++ [])) (bT G ra ma trd ++ (bV G ma mda ++ [])) args s0) (F0 m 94 ls []) := by
    skip
    intro rd h H locs I ls hl
    unfold f_T_takeNumber_L94 at h
    refine lv_aload_n hx hb dX6_takeNumber_94 rfl (lv_at hl 0 rfl) ?_
    refine gT_X6_o0_at XX I dX6_takeNumber_95 ?_
    refine lv_aload_n hx hb dX6_takeNumber_98 rfl (lv_at hl 0 rfl) ?_
    refine gT_X6_o0_start XX I dX6_takeNumber_99 ?_
    refine lv_isub hx hb dX6_takeNumber_102 ?_
    refine lv_iconst (v := 3) hx hb dX6_takeNumber_103 (by decide) ?_
    refine lv_icmp_le (tgt := 112) hx hb dX6_takeNumber_104 (by decide) (fun c1 => ?_) (fun c1 => ?_)
    · replace h := if_t h c1
      obtain rfl := some1 h
      exact e_v XX hr I dX6_takeNumber_112
    · replace h := if_f h c1
      refine lv_aload_n hx hb dX6_takeNumber_107 rfl (lv_at hl 0 rfl) ?_
      refine lv_iconst (v := (-1)) hx hb dX6_takeNumber_108 (by decide) ?_
      refine pT_X6_o0_number XX I dX6_takeNumber_109 (fun H locs I => ?_)
      obtain ⟨s11, es11⟩ : ∃ z, z = si rd 6 ((-1) : Int32) := ⟨_, rfl⟩
      replace h := lt_e h es11
      replace I : Iv G (va_A (bT G ra ma rda ++ (bV G ma mda ++ [])) s0.heap.size) s0 H locs (bT G ra ma s11 ++ (bV G ma mda ++ [])) := by rw [es11]; exact I
      obtain rfl := some1 h
      exact e_v XX hr I dX6_takeNumber_112
  have C5 : ∀ n : Nat, ∀ (rd : g_St), f_T_takeNumber_L5 fu n rd = some trd → ∀ (H : Heap) (locs : List Loc), Iv G (va_A (bT G ra ma rda ++ (bV G ma mda ++ [])) s0.heap.size) s0 H locs (bT G ra ma rd ++ (bV G ma mda ++ [])) → ∀ ls, lv_has ls 1 [(0, .ref (ra 0))] → W p l e { frames := 0, cells := 0, slots := 0, locals := 0 } s0 m args below meth c H locs 0 0 (QV G below (bT G ra ma rda ++ (bV G ma mda ++ [])) (bT G ra ma trd ++ (bV G ma mda ++ [])) args s0) (F0 m 5 ls []) := by
    intro n
    induction n with
    | zero => intro rd h; exact absurd h (fun q => by cases q)
    | succ n ih =>
      intro rd h H locs I ls hl
      rw [f_T_takeNumber_L5] at h
      refine lv_aload_n hx hb dX6_takeNumber_5 rfl (lv_at hl 0 rfl) ?_
      refine gT_X6_o0_at XX I dX6_takeNumber_6 ?_
      refine lv_aload_n hx hb dX6_takeNumber_9 rfl (lv_at hl 0 rfl) ?_
      refine gT_X6_o0_length XX I dX6_takeNumber_10 ?_
      refine lv_icmp_ge (tgt := 94) hx hb dX6_takeNumber_13 (by decide) (fun c1 => ?_) (fun c1 => ?_)
      · replace h := if_t h c1
        exact C94 _ h _ _ I ls (lv_sub hl [0] rfl)
      · replace h := if_f h c1
        refine lv_aload_n hx hb dX6_takeNumber_16 rfl (lv_at hl 0 rfl) ?_
        refine gT_X6_o0_bytes XX I dX6_takeNumber_17 ?_
        refine lv_aload_n hx hb dX6_takeNumber_20 rfl (lv_at hl 0 rfl) ?_
        refine gT_X6_o0_at XX I dX6_takeNumber_21 ?_
        obtain ⟨g2, h⟩ := gd_some h
        refine r_iald XX I 1 (aT_bytes0) g2 dX6_takeNumber_24 ?_
        refine lv_bipush (v := 48) hx hb dX6_takeNumber_25 (by decide) ?_
        refine lv_icmp_lt (tgt := 94) hx hb dX6_takeNumber_27 (by decide) (fun c1 => ?_) (fun c1 => ?_)
        · replace h := if_t h c1
          exact C94 _ h _ _ I ls (lv_sub hl [0] rfl)
        · replace h := if_f h c1
          refine lv_aload_n hx hb dX6_takeNumber_30 rfl (lv_at hl 0 rfl) ?_
          refine gT_X6_o0_bytes XX I dX6_takeNumber_31 ?_
          refine lv_aload_n hx hb dX6_takeNumber_34 rfl (lv_at hl 0 rfl) ?_
          refine gT_X6_o0_at XX I dX6_takeNumber_35 ?_
          obtain ⟨g3, h⟩ := gd_some h
          refine r_iald XX I 1 (aT_bytes0) g3 dX6_takeNumber_38 ?_
          refine lv_bipush (v := 57) hx hb dX6_takeNumber_39 (by decide) ?_
          refine lv_icmp_gt (tgt := 94) hx hb dX6_takeNumber_41 (by decide) (fun c1 => ?_) (fun c1 => ?_)
          · replace h := if_t h c1
            exact C94 _ h _ _ I ls (lv_sub hl [0] rfl)
          · replace h := if_f h c1
            refine lv_aload_n hx hb dX6_takeNumber_44 rfl (lv_at hl 0 rfl) ?_
            refine gT_X6_o0_at XX I dX6_takeNumber_45 ?_
            refine lv_aload_n hx hb dX6_takeNumber_48 rfl (lv_at hl 0 rfl) ?_
            refine gT_X6_o0_start XX I dX6_takeNumber_49 ?_
            refine lv_isub hx hb dX6_takeNumber_52 ?_
            refine lv_iconst (v := 3) hx hb dX6_takeNumber_53 (by decide) ?_
            refine lv_icmp_ge (tgt := 81) hx hb dX6_takeNumber_54 (by decide) (fun c1 => ?_) (fun c1 => ?_)
            · replace h := if_t h c1
              refine lv_aload_n hx hb dX6_takeNumber_81 rfl (lv_at hl 0 rfl) ?_
              refine lv_dup hx hb dX6_takeNumber_82 rfl ?_
              refine gT_X6_o0_at XX I dX6_takeNumber_83 ?_
              refine lv_iconst (v := 1) hx hb dX6_takeNumber_86 (by decide) ?_
              refine lv_iadd hx hb dX6_takeNumber_87 ?_
              refine lv_topi (fun y4 ey4 => ?_)
              replace h := lt_e h ey4
              refine pT_X6_o0_at XX I dX6_takeNumber_88 (fun H locs I => ?_)
              obtain ⟨s5, es5⟩ : ∃ z, z = si rd 3 y4 := ⟨_, rfl⟩
              replace h := lt_e h es5
              replace I : Iv G (va_A (bT G ra ma rda ++ (bV G ma mda ++ [])) s0.heap.size) s0 H locs (bT G ra ma s5 ++ (bV G ma mda ++ [])) := by rw [es5]; exact I
              refine lv_goto (tgt := 5) hx hb dX6_takeNumber_91 (by decide) ?_
              exact ih _ h _ _ I ls (lv_sub hl [0] rfl)
            · replace h := if_f h c1
              refine lv_aload_n hx hb dX6_takeNumber_57 rfl (lv_at hl 0 rfl) ?_
              refine lv_aload_n hx hb dX6_takeNumber_58 rfl (lv_at hl 0 rfl) ?_
              refine gT_X6_o0_number XX I dX6_takeNumber_59 ?_
              refine lv_bipush (v := 10) hx hb dX6_takeNumber_62 (by decide) ?_
              refine lv_imul hx hb dX6_takeNumber_64 ?_
              refine lv_aload_n hx hb dX6_takeNumber_65 rfl (lv_at hl 0 rfl) ?_
              refine gT_X6_o0_bytes XX I dX6_takeNumber_66 ?_
              refine lv_aload_n hx hb dX6_takeNumber_69 rfl (lv_at hl 0 rfl) ?_
              refine gT_X6_o0_at XX I dX6_takeNumber_70 ?_
              obtain ⟨g6, h⟩ := gd_some h
              refine r_iald XX I 1 (aT_bytes0) g6 dX6_takeNumber_73 ?_
              refine lv_iadd hx hb dX6_takeNumber_74 ?_
              refine lv_bipush (v := 48) hx hb dX6_takeNumber_75 (by decide) ?_
              refine lv_isub hx hb dX6_takeNumber_77 ?_
              refine lv_topi (fun y7 ey7 => ?_)
              replace h := lt_e h ey7
              refine pT_X6_o0_number XX I dX6_takeNumber_78 (fun H locs I => ?_)
              obtain ⟨s8, es8⟩ : ∃ z, z = si rd 6 y7 := ⟨_, rfl⟩
              replace h := lt_e h es8
              replace I : Iv G (va_A (bT G ra ma rda ++ (bV G ma mda ++ [])) s0.heap.size) s0 H locs (bT G ra ma s8 ++ (bV G ma mda ++ [])) := by rw [es8]; exact I
              refine lv_aload_n hx hb dX6_takeNumber_81 rfl (lv_at hl 0 rfl) ?_
              refine lv_dup hx hb dX6_takeNumber_82 rfl ?_
              refine gT_X6_o0_at XX I dX6_takeNumber_83 ?_
              refine lv_iconst (v := 1) hx hb dX6_takeNumber_86 (by decide) ?_
              refine lv_iadd hx hb dX6_takeNumber_87 ?_
              refine lv_topi (fun y9 ey9 => ?_)
              replace h := lt_e h ey9
              refine pT_X6_o0_at XX I dX6_takeNumber_88 (fun H locs I => ?_)
              obtain ⟨s10, es10⟩ : ∃ z, z = si s8 3 y9 := ⟨_, rfl⟩
              replace h := lt_e h es10
              replace I : Iv G (va_A (bT G ra ma rda ++ (bV G ma mda ++ [])) s0.heap.size) s0 H locs (bT G ra ma s10 ++ (bV G ma mda ++ [])) := by rw [es10]; exact I
              refine lv_goto (tgt := 5) hx hb dX6_takeNumber_91 (by decide) ?_
              exact ih _ h _ _ I ls (lv_sub hl [0] rfl)
  unfold f_T_takeNumber at h
  refine lv_aload_n hx hb dX6_takeNumber_0 rfl (lv_at hl 0 rfl) ?_
  refine lv_iconst (v := 0) hx hb dX6_takeNumber_1 (by decide) ?_
  refine pT_X6_o0_number XX I dX6_takeNumber_2 (fun H locs I => ?_)
  obtain ⟨s1, es1⟩ : ∃ z, z = si rda 6 (0 : Int32) := ⟨_, rfl⟩
  replace h := lt_e h es1
  replace I : Iv G (va_A (bT G ra ma rda ++ (bV G ma mda ++ [])) s0.heap.size) s0 H locs (bT G ra ma s1 ++ (bV G ma mda ++ [])) := by rw [es1]; exact I
  exact C5 fu _ h _ _ I ls (lv_sub hl [0] rfl)
theorem kV_X6_152 : KV RX6 152 RX6 yX6_takeNumber cX6_takeNumber 1 none 0 := KV.mk wd_367 wd_369 wd_1579 wd_4 wd_370 (by decide +kernel)
theorem pT_X6_o0_start {p : Program} {l : Launch} {e : Env} {R : Room} {s0 : State} {m : MethodId} {args : Array Value} {below : List Frame} {meth : Method} {c : Code} {H : Heap} {locs : List Loc} {cells slots : Nat} {Q : State → Prop} {cc : ByteArray} {nL pc : Nat} {ls : Array Slot} {rest : List Value} {G : g_G} {A : Nat → Prop} {ra : Nat → Nat} {ma : Nat → Nat} {rd : g_St} {md : g_St} {val : Int32} (XX : Cx G A p s0 m meth c cc nL RX6 args) (I : Iv G A s0 H locs (bT G ra ma rd ++ (bV G ma md ++ []))) (hdg : decode cc pc = .ok (.putfield 32, 3)) (kk : ∀ (H1 : Heap) (locs1 : List Loc), Iv G A s0 H1 locs1 (bT G ra ma (si rd 5 val) ++ (bV G ma md ++ [])) → W p l e R s0 m args below meth c H1 locs1 cells slots Q (F0 m (pc + 3) ls rest)) : W p l e R s0 m args below meth c H locs cells slots Q (F0 m pc ls (.int val :: .ref (ra 0) :: rest)) := r_put kfX6 XX I 0 rfl 5 (Nat.le_of_ble_eq_true rfl) wd_136 rfl (vp_nar_int val) rfl (Nat.le_of_ble_eq_true rfl) rfl hdg kk
theorem pT_X6_o0_token {p : Program} {l : Launch} {e : Env} {R : Room} {s0 : State} {m : MethodId} {args : Array Value} {below : List Frame} {meth : Method} {c : Code} {H : Heap} {locs : List Loc} {cells slots : Nat} {Q : State → Prop} {cc : ByteArray} {nL pc : Nat} {ls : Array Slot} {rest : List Value} {G : g_G} {A : Nat → Prop} {ra : Nat → Nat} {ma : Nat → Nat} {rd : g_St} {md : g_St} {val : Int32} (XX : Cx G A p s0 m meth c cc nL RX6 args) (I : Iv G A s0 H locs (bT G ra ma rd ++ (bV G ma md ++ []))) (hdg : decode cc pc = .ok (.putfield 29, 3)) (kk : ∀ (H1 : Heap) (locs1 : List Loc), Iv G A s0 H1 locs1 (bT G ra ma (si rd 4 val) ++ (bV G ma md ++ [])) → W p l e R s0 m args below meth c H1 locs1 cells slots Q (F0 m (pc + 3) ls rest)) : W p l e R s0 m args below meth c H locs cells slots Q (F0 m pc ls (.int val :: .ref (ra 0) :: rest)) := r_put kfX6 XX I 0 rfl 4 (Nat.le_of_ble_eq_true rfl) wd_135 rfl (vp_nar_int val) rfl (Nat.le_of_ble_eq_true rfl) rfl hdg kk
set_option maxHeartbeats 4000000 in
set_option maxRecDepth 100000 in
theorem c_T_advance (l : Launch) (G : g_G) (OK : EOk G.2.2) (adK adV : Nat → Nat) (hX : HX G adK adV) (ra : Nat → Nat) (ma : Nat → Nat) (fu : Nat) (rda : g_St) (mda : g_St) (trd : g_St) (h : f_T_advance fu rda = some trd) : HV l G yX6_advance (Cond.code yX6_advance cX6_advance 1 none :: gT) { frames := 1, cells := 0, slots := 0, locals := 22 } [.ref (ra 0)] (bT G ra ma rda ++ (bV G ma mda ++ [])) (bT G ra ma trd ++ (bV G ma mda ++ [])) := by
  refine HV.mk (lv := [(0, .ref (ra 0))]) OK (by decide) (Nat.le_of_ble_eq_true rfl) rfl ?_
  intro p e s0 m args below meth c ls XX hr I hl
  have hx := XX.x
  have hb := XX.b
  have E := hX _ _ _ XX.E
  have C89 : ∀ n : Nat, ∀ (rd : g_St), f_T_advance_L89 fu n rd = some trd → ∀ (H : Heap) (locs : List Loc), Iv G (va_A (bT G ra ma rda ++ (bV G ma mda ++ [])) s0.heap.size) s0 H locs (bT G ra ma rd ++ (bV G ma mda ++ [])) → ∀ ls, lv_has ls 1 [(0, .ref (ra 0))] → W p l e { frames := 1, cells := 0, slots := 0, locals := 22 } s0 m args below meth c H locs 0 0 (QV G below (bT G ra ma rda ++ (bV G ma mda ++ [])) (bT G ra ma trd ++ (bV G ma mda ++ [])) args s0) (F0 m 89 ls []) := by
    intro n
    induction n with
    | zero => intro rd h; exact absurd h (fun q => by cases q)
    | succ n ih =>
      intro rd h H locs I ls hl
      rw [f_T_advance_L89] at h
      refine lv_aload_n hx hb dX6_advance_89 rfl (lv_at hl 0 rfl) ?_
      refine gT_X6_o0_at XX I dX6_advance_90 ?_
      refine lv_aload_n hx hb dX6_advance_93 rfl (lv_at hl 0 rfl) ?_
      refine gT_X6_o0_length XX I dX6_advance_94 ?_
      refine lv_icmp_ge (tgt := 191) hx hb dX6_advance_97 (by decide) (fun c1 => ?_) (fun c1 => ?_)
      · replace h := if_t h c1
        obtain rfl := some1 h
        exact e_v XX hr I dX6_advance_191
      · replace h := if_f h c1
        refine lv_aload_n hx hb dX6_advance_100 rfl (lv_at hl 0 rfl) ?_
        refine gT_X6_o0_bytes XX I dX6_advance_101 ?_
        refine lv_aload_n hx hb dX6_advance_104 rfl (lv_at hl 0 rfl) ?_
        refine gT_X6_o0_at XX I dX6_advance_105 ?_
        obtain ⟨g22, h⟩ := gd_some h
        refine r_iald XX I 1 (aT_bytes0) g22 dX6_advance_108 ?_
        refine lv_bipush (v := 97) hx hb dX6_advance_109 (by decide) ?_
        refine lv_bipush (v := 122) hx hb dX6_advance_111 (by decide) ?_
        refine nscall_i (n := 3) (rest := []) XX I hl.1 (c_S_within l G OK (gr rd 1 (gi rd 3).toNatClampNeg) (97 : Int32) (122 : Int32) _ rfl) E.2.2.2.2 wd_339 wd_1 wd_340 (by decide +kernel) rfl rfl (Nat.le_of_ble_eq_true rfl) ⟨rfl, rfl, Nat.le_of_ble_eq_true rfl, Nat.le_of_ble_eq_true rfl⟩ ⟨Nat.zero_le _, Nat.zero_le _⟩ dX6_advance_113 (fun H locs hz23 I => ?_)
        refine lv_if_eq (tgt := 191) hx hb dX6_advance_116 (by decide) (fun c1 => ?_) (fun c1 => ?_)
        · replace h := if_t h c1
          obtain rfl := some1 h
          exact e_v XX hr I dX6_advance_191
        · replace h := if_f h c1
          refine lv_aload_n hx hb dX6_advance_119 rfl (lv_at hl 0 rfl) ?_
          refine lv_dup hx hb dX6_advance_120 rfl ?_
          refine gT_X6_o0_at XX I dX6_advance_121 ?_
          refine lv_iconst (v := 1) hx hb dX6_advance_124 (by decide) ?_
          refine lv_iadd hx hb dX6_advance_125 ?_
          refine lv_topi (fun y24 ey24 => ?_)
          replace h := lt_e h ey24
          refine pT_X6_o0_at XX I dX6_advance_126 (fun H locs I => ?_)
          obtain ⟨s25, es25⟩ : ∃ z, z = si rd 3 y24 := ⟨_, rfl⟩
          replace h := lt_e h es25
          replace I : Iv G (va_A (bT G ra ma rda ++ (bV G ma mda ++ [])) s0.heap.size) s0 H locs (bT G ra ma s25 ++ (bV G ma mda ++ [])) := by rw [es25]; exact I
          refine lv_goto (tgt := 89) hx hb dX6_advance_129 (by decide) ?_
          exact ih _ h _ _ I ls (lv_sub hl [0] rfl)
  have C38 : ∀ (rd : g_St), f_T_advance_L38 fu rd = some trd → ∀ (H : Heap) (locs : List Loc), Iv G (va_A (bT G ra ma rda ++ (bV G ma mda ++ [])) s0.heap.size) s0 H locs (bT G ra ma rd ++ (bV G ma mda ++ [])) → ∀ ls, lv_has ls 1 [(0, .ref (ra 0))] → W p l e { frames := 1, cells := 0, slots := 0, locals := 22 } s0 m args below meth c H locs 0 0 (QV G below (bT G ra ma rda ++ (bV G ma mda ++ [])) (bT G ra ma trd ++ (bV G ma mda ++ [])) args s0) (F0 m 38 ls []) := by
    skip
    intro rd h H locs I ls hl
    unfold f_T_advance_L38 at h
    refine lv_aload_n hx hb dX6_advance_38 rfl (lv_at hl 0 rfl) ?_
    refine lv_aload_n hx hb dX6_advance_39 rfl (lv_at hl 0 rfl) ?_
    refine gT_X6_o0_at XX I dX6_advance_40 ?_
    refine lv_topi (fun y4 ey4 => ?_)
    replace h := lt_e h ey4
    refine pT_X6_o0_start XX I dX6_advance_43 (fun H locs I => ?_)
    obtain ⟨s5, es5⟩ : ∃ z, z = si rd 5 y4 := ⟨_, rfl⟩
    replace h := lt_e h es5
    replace I : Iv G (va_A (bT G ra ma rda ++ (bV G ma mda ++ [])) s0.heap.size) s0 H locs (bT G ra ma s5 ++ (bV G ma mda ++ [])) := by rw [es5]; exact I
    refine lv_aload_n hx hb dX6_advance_46 rfl (lv_at hl 0 rfl) ?_
    refine gT_X6_o0_at XX I dX6_advance_47 ?_
    refine lv_aload_n hx hb dX6_advance_50 rfl (lv_at hl 0 rfl) ?_
    refine gT_X6_o0_length XX I dX6_advance_51 ?_
    refine lv_icmp_lt (tgt := 65) hx hb dX6_advance_54 (by decide) (fun c1 => ?_) (fun c1 => ?_)
    · replace h := if_t h c1
      refine lv_aload_n hx hb dX6_advance_65 rfl (lv_at hl 0 rfl) ?_
      refine gT_X6_o0_bytes XX I dX6_advance_66 ?_
      refine lv_aload_n hx hb dX6_advance_69 rfl (lv_at hl 0 rfl) ?_
      refine gT_X6_o0_at XX I dX6_advance_70 ?_
      obtain ⟨g6, h⟩ := gd_some h
      refine r_iald XX I 1 (aT_bytes0) g6 dX6_advance_73 ?_
      refine lv_bipush (v := 97) hx hb dX6_advance_74 (by decide) ?_
      refine lv_bipush (v := 122) hx hb dX6_advance_76 (by decide) ?_
      refine nscall_i (n := 3) (rest := []) XX I hl.1 (c_S_within l G OK (gr s5 1 (gi s5 3).toNatClampNeg) (97 : Int32) (122 : Int32) _ rfl) E.2.2.2.2 wd_339 wd_1 wd_340 (by decide +kernel) rfl rfl (Nat.le_of_ble_eq_true rfl) ⟨rfl, rfl, Nat.le_of_ble_eq_true rfl, Nat.le_of_ble_eq_true rfl⟩ ⟨Nat.zero_le _, Nat.zero_le _⟩ dX6_advance_78 (fun H locs hz7 I => ?_)
      refine lv_if_eq (tgt := 132) hx hb dX6_advance_81 (by decide) (fun c1 => ?_) (fun c1 => ?_)
      · replace h := if_t h c1
        refine lv_aload_n hx hb dX6_advance_132 rfl (lv_at hl 0 rfl) ?_
        refine gT_X6_o0_bytes XX I dX6_advance_133 ?_
        refine lv_aload_n hx hb dX6_advance_136 rfl (lv_at hl 0 rfl) ?_
        refine gT_X6_o0_at XX I dX6_advance_137 ?_
        obtain ⟨g8, h⟩ := gd_some h
        refine r_iald XX I 1 (aT_bytes0) g8 dX6_advance_140 ?_
        refine lv_bipush (v := 48) hx hb dX6_advance_141 (by decide) ?_
        refine lv_bipush (v := 57) hx hb dX6_advance_143 (by decide) ?_
        refine nscall_i (n := 3) (rest := []) XX I hl.1 (c_S_within l G OK (gr s5 1 (gi s5 3).toNatClampNeg) (48 : Int32) (57 : Int32) _ rfl) E.2.2.2.2 wd_339 wd_1 wd_340 (by decide +kernel) rfl rfl (Nat.le_of_ble_eq_true rfl) ⟨rfl, rfl, Nat.le_of_ble_eq_true rfl, Nat.le_of_ble_eq_true rfl⟩ ⟨Nat.zero_le _, Nat.zero_le _⟩ dX6_advance_145 (fun H locs hz9 I => ?_)
        refine lv_if_eq (tgt := 163) hx hb dX6_advance_148 (by decide) (fun c1 => ?_) (fun c1 => ?_)
        · replace h := if_t h c1
          refine lv_aload_n hx hb dX6_advance_163 rfl (lv_at hl 0 rfl) ?_
          refine lv_iconst (v := 3) hx hb dX6_advance_164 (by decide) ?_
          refine pT_X6_o0_token XX I dX6_advance_165 (fun H locs I => ?_)
          obtain ⟨s10, es10⟩ : ∃ z, z = si s5 4 (3 : Int32) := ⟨_, rfl⟩
          replace h := lt_e h es10
          replace I : Iv G (va_A (bT G ra ma rda ++ (bV G ma mda ++ [])) s0.heap.size) s0 H locs (bT G ra ma s10 ++ (bV G ma mda ++ [])) := by rw [es10]; exact I
          refine lv_aload_n hx hb dX6_advance_168 rfl (lv_at hl 0 rfl) ?_
          refine lv_aload_n hx hb dX6_advance_169 rfl (lv_at hl 0 rfl) ?_
          refine gT_X6_o0_bytes XX I dX6_advance_170 ?_
          refine lv_aload_n hx hb dX6_advance_173 rfl (lv_at hl 0 rfl) ?_
          refine gT_X6_o0_at XX I dX6_advance_174 ?_
          obtain ⟨g11, h⟩ := gd_some h
          refine r_iald XX I 1 (aT_bytes0) g11 dX6_advance_177 ?_
          refine lv_topi (fun y12 ey12 => ?_)
          replace h := lt_e h ey12
          refine pT_X6_o0_number XX I dX6_advance_178 (fun H locs I => ?_)
          obtain ⟨s13, es13⟩ : ∃ z, z = si s10 6 y12 := ⟨_, rfl⟩
          replace h := lt_e h es13
          replace I : Iv G (va_A (bT G ra ma rda ++ (bV G ma mda ++ [])) s0.heap.size) s0 H locs (bT G ra ma s13 ++ (bV G ma mda ++ [])) := by rw [es13]; exact I
          refine lv_aload_n hx hb dX6_advance_181 rfl (lv_at hl 0 rfl) ?_
          refine lv_dup hx hb dX6_advance_182 rfl ?_
          refine gT_X6_o0_at XX I dX6_advance_183 ?_
          refine lv_iconst (v := 1) hx hb dX6_advance_186 (by decide) ?_
          refine lv_iadd hx hb dX6_advance_187 ?_
          refine lv_topi (fun y14 ey14 => ?_)
          replace h := lt_e h ey14
          refine pT_X6_o0_at XX I dX6_advance_188 (fun H locs I => ?_)
          obtain ⟨s15, es15⟩ : ∃ z, z = si s13 3 y14 := ⟨_, rfl⟩
          replace h := lt_e h es15
          replace I : Iv G (va_A (bT G ra ma rda ++ (bV G ma mda ++ [])) s0.heap.size) s0 H locs (bT G ra ma s15 ++ (bV G ma mda ++ [])) := by rw [es15]; exact I
          obtain rfl := some1 h
          exact e_v XX hr I dX6_advance_191
        · replace h := if_f h c1
          refine lv_aload_n hx hb dX6_advance_151 rfl (lv_at hl 0 rfl) ?_
          refine lv_iconst (v := 2) hx hb dX6_advance_152 (by decide) ?_
          refine pT_X6_o0_token XX I dX6_advance_153 (fun H locs I => ?_)
          obtain ⟨s16, es16⟩ : ∃ z, z = si s5 4 (2 : Int32) := ⟨_, rfl⟩
          replace h := lt_e h es16
          replace I : Iv G (va_A (bT G ra ma rda ++ (bV G ma mda ++ [])) s0.heap.size) s0 H locs (bT G ra ma s16 ++ (bV G ma mda ++ [])) := by rw [es16]; exact I
          refine lv_aload_n hx hb dX6_advance_156 rfl (lv_at hl 0 rfl) ?_
          obtain ⟨s17, q18, h⟩ := bd1_some h
          refine wcall_v (rest := []) XX I hl.1 (c_T_takeNumber l G OK adK adV hX ra ma fu s16 mda s17 q18) kV_X6_152 (Rc.mk XX I (q0 := 0) (ci := 6) rfl rfl) rfl rfl (Nat.le_of_ble_eq_true rfl) ⟨rfl, rfl, Nat.le_of_ble_eq_true rfl, Nat.le_of_ble_eq_true rfl⟩ ⟨Nat.zero_le _, Nat.zero_le _⟩ dX6_advance_157 (fun H locs I => ?_)
          refine lv_goto (tgt := 191) hx hb dX6_advance_160 (by decide) ?_
          obtain rfl := some1 h
          exact e_v XX hr I dX6_advance_191
      · replace h := if_f h c1
        refine lv_aload_n hx hb dX6_advance_84 rfl (lv_at hl 0 rfl) ?_
        refine lv_iconst (v := 1) hx hb dX6_advance_85 (by decide) ?_
        refine pT_X6_o0_token XX I dX6_advance_86 (fun H locs I => ?_)
        obtain ⟨s20, es20⟩ : ∃ z, z = si s5 4 (1 : Int32) := ⟨_, rfl⟩
        replace h := lt_e h es20
        replace I : Iv G (va_A (bT G ra ma rda ++ (bV G ma mda ++ [])) s0.heap.size) s0 H locs (bT G ra ma s20 ++ (bV G ma mda ++ [])) := by rw [es20]; exact I
        exact C89 fu _ h _ _ I ls (lv_sub hl [0] rfl)
    · replace h := if_f h c1
      refine lv_aload_n hx hb dX6_advance_57 rfl (lv_at hl 0 rfl) ?_
      refine lv_iconst (v := 0) hx hb dX6_advance_58 (by decide) ?_
      refine pT_X6_o0_token XX I dX6_advance_59 (fun H locs I => ?_)
      obtain ⟨s21, es21⟩ : ∃ z, z = si s5 4 (0 : Int32) := ⟨_, rfl⟩
      replace h := lt_e h es21
      replace I : Iv G (va_A (bT G ra ma rda ++ (bV G ma mda ++ [])) s0.heap.size) s0 H locs (bT G ra ma s21 ++ (bV G ma mda ++ [])) := by rw [es21]; exact I
      refine lv_goto (tgt := 191) hx hb dX6_advance_62 (by decide) ?_
      obtain rfl := some1 h
      exact e_v XX hr I dX6_advance_191
  have C0 : ∀ n : Nat, ∀ (rd : g_St), f_T_advance_L0 fu n rd = some trd → ∀ (H : Heap) (locs : List Loc), Iv G (va_A (bT G ra ma rda ++ (bV G ma mda ++ [])) s0.heap.size) s0 H locs (bT G ra ma rd ++ (bV G ma mda ++ [])) → ∀ ls, lv_has ls 1 [(0, .ref (ra 0))] → W p l e { frames := 1, cells := 0, slots := 0, locals := 22 } s0 m args below meth c H locs 0 0 (QV G below (bT G ra ma rda ++ (bV G ma mda ++ [])) (bT G ra ma trd ++ (bV G ma mda ++ [])) args s0) (F0 m 0 ls []) := by
    intro n
    induction n with
    | zero => intro rd h; exact absurd h (fun q => by cases q)
    | succ n ih =>
      intro rd h H locs I ls hl
      rw [f_T_advance_L0] at h
      refine lv_aload_n hx hb dX6_advance_0 rfl (lv_at hl 0 rfl) ?_
      refine gT_X6_o0_at XX I dX6_advance_1 ?_
      refine lv_aload_n hx hb dX6_advance_4 rfl (lv_at hl 0 rfl) ?_
      refine gT_X6_o0_length XX I dX6_advance_5 ?_
      refine lv_icmp_ge (tgt := 38) hx hb dX6_advance_8 (by decide) (fun c1 => ?_) (fun c1 => ?_)
      · replace h := if_t h c1
        exact C38 _ h _ _ I ls (lv_sub hl [0] rfl)
      · replace h := if_f h c1
        refine lv_aload_n hx hb dX6_advance_11 rfl (lv_at hl 0 rfl) ?_
        refine gT_X6_o0_bytes XX I dX6_advance_12 ?_
        refine lv_aload_n hx hb dX6_advance_15 rfl (lv_at hl 0 rfl) ?_
        refine gT_X6_o0_at XX I dX6_advance_16 ?_
        obtain ⟨g26, h⟩ := gd_some h
        refine r_iald XX I 1 (aT_bytes0) g26 dX6_advance_19 ?_
        refine lv_bipush (v := 32) hx hb dX6_advance_20 (by decide) ?_
        refine lv_icmp_ne (tgt := 38) hx hb dX6_advance_22 (by decide) (fun c1 => ?_) (fun c1 => ?_)
        · replace h := if_f h c1
          exact C38 _ h _ _ I ls (lv_sub hl [0] rfl)
        · replace h := if_t h c1
          refine lv_aload_n hx hb dX6_advance_25 rfl (lv_at hl 0 rfl) ?_
          refine lv_dup hx hb dX6_advance_26 rfl ?_
          refine gT_X6_o0_at XX I dX6_advance_27 ?_
          refine lv_iconst (v := 1) hx hb dX6_advance_30 (by decide) ?_
          refine lv_iadd hx hb dX6_advance_31 ?_
          refine lv_topi (fun y27 ey27 => ?_)
          replace h := lt_e h ey27
          refine pT_X6_o0_at XX I dX6_advance_32 (fun H locs I => ?_)
          obtain ⟨s28, es28⟩ : ∃ z, z = si rd 3 y27 := ⟨_, rfl⟩
          replace h := lt_e h es28
          replace I : Iv G (va_A (bT G ra ma rda ++ (bV G ma mda ++ [])) s0.heap.size) s0 H locs (bT G ra ma s28 ++ (bV G ma mda ++ [])) := by rw [es28]; exact I
          refine lv_goto (tgt := 0) hx hb dX6_advance_35 (by decide) ?_
          exact ih _ h _ _ I ls (lv_sub hl [0] rfl)
  unfold f_T_advance at h
  refine lv_aload_n hx hb dX6_advance_0 rfl (lv_at hl 0 rfl) ?_
  refine gT_X6_o0_at XX I dX6_advance_1 ?_
  refine lv_aload_n hx hb dX6_advance_4 rfl (lv_at hl 0 rfl) ?_
  refine gT_X6_o0_length XX I dX6_advance_5 ?_
  refine lv_icmp_ge (tgt := 38) hx hb dX6_advance_8 (by decide) (fun c1 => ?_) (fun c1 => ?_)
  · replace h := if_t h c1
    exact C38 _ h _ _ I ls (lv_sub hl [0] rfl)
  · replace h := if_f h c1
    refine lv_aload_n hx hb dX6_advance_11 rfl (lv_at hl 0 rfl) ?_
    refine gT_X6_o0_bytes XX I dX6_advance_12 ?_
    refine lv_aload_n hx hb dX6_advance_15 rfl (lv_at hl 0 rfl) ?_
    refine gT_X6_o0_at XX I dX6_advance_16 ?_
    obtain ⟨g1, h⟩ := gd_some h
    refine r_iald XX I 1 (aT_bytes0) g1 dX6_advance_19 ?_
    refine lv_bipush (v := 32) hx hb dX6_advance_20 (by decide) ?_
    refine lv_icmp_ne (tgt := 38) hx hb dX6_advance_22 (by decide) (fun c1 => ?_) (fun c1 => ?_)
    · replace h := if_f h c1
      exact C38 _ h _ _ I ls (lv_sub hl [0] rfl)
    · replace h := if_t h c1
      refine lv_aload_n hx hb dX6_advance_25 rfl (lv_at hl 0 rfl) ?_
      refine lv_dup hx hb dX6_advance_26 rfl ?_
      refine gT_X6_o0_at XX I dX6_advance_27 ?_
      refine lv_iconst (v := 1) hx hb dX6_advance_30 (by decide) ?_
      refine lv_iadd hx hb dX6_advance_31 ?_
      refine lv_topi (fun y2 ey2 => ?_)
      replace h := lt_e h ey2
      refine pT_X6_o0_at XX I dX6_advance_32 (fun H locs I => ?_)
      obtain ⟨s3, es3⟩ : ∃ z, z = si rda 3 y2 := ⟨_, rfl⟩
      replace h := lt_e h es3
      replace I : Iv G (va_A (bT G ra ma rda ++ (bV G ma mda ++ [])) s0.heap.size) s0 H locs (bT G ra ma s3 ++ (bV G ma mda ++ [])) := by rw [es3]; exact I
      refine lv_goto (tgt := 0) hx hb dX6_advance_35 (by decide) ?_
      exact C0 fu _ h _ _ I ls (lv_sub hl [0] rfl)
set_option maxHeartbeats 4000000 in
set_option maxRecDepth 100000 in
theorem c_T_isNumber (l : Launch) (G : g_G) (OK : EOk G.2.2) (adK adV : Nat → Nat) (hX : HX G adK adV) (ra : Nat → Nat) (ma : Nat → Nat) (rda : g_St) (mda : g_St) (x1 : Int32) (x2 : Int32) (r : Int32) (h : f_T_isNumber rda x1 x2 = r) : HI l G yX6_isNumber (Cond.code yX6_isNumber cX6_isNumber 3 (some .boolean) :: gT) { frames := 1, cells := 0, slots := 0, locals := 22 } .boolean [.ref (ra 0), .int x1, .int x2] (bT G ra ma rda ++ (bV G ma mda ++ [])) r (bT G ra ma rda ++ (bV G ma mda ++ [])) := by
  refine HI.mk (lv := [(0, .ref (ra 0)), (1, .int x1), (2, .int x2)]) OK (by decide) (Nat.le_of_ble_eq_true rfl) rfl ?_
  intro p e s0 m args below meth c ls XX hr I hl
  have hx := XX.x
  have hb := XX.b
  have E := hX _ _ _ XX.E
  unfold f_T_isNumber at h
  refine lv_aload_n hx hb dX6_isNumber_0 rfl (lv_at hl 0 rfl) ?_
  refine gT_X6_o0_token XX I dX6_isNumber_1 ?_
  refine lv_iconst (v := 2) hx hb dX6_isNumber_4 (by decide) ?_
  refine lv_icmp_ne (tgt := 24) hx hb dX6_isNumber_5 (by decide) (fun c1 => ?_) (fun c1 => ?_)
  · replace h := if_f h c1
    refine lv_iconst (v := 0) hx hb dX6_isNumber_24 (by decide) ?_
    subst h
    exact e_z XX hr I rfl rfl dX6_isNumber_25
  · replace h := if_t h c1
    refine lv_aload_n hx hb dX6_isNumber_8 rfl (lv_at hl 0 rfl) ?_
    refine gT_X6_o0_number XX I dX6_isNumber_9 ?_
    refine lv_iload_n hx hb dX6_isNumber_12 rfl (lv_at hl 1 rfl) ?_
    refine lv_iload_n hx hb dX6_isNumber_13 rfl (lv_at hl 2 rfl) ?_
    refine nscall_i (n := 3) (rest := []) XX I hl.1 (c_S_within l G OK (gi rda 6) x1 x2 _ rfl) E.2.2.2.2 wd_339 wd_1 wd_340 (by decide +kernel) rfl rfl (Nat.le_of_ble_eq_true rfl) ⟨rfl, rfl, Nat.le_of_ble_eq_true rfl, Nat.le_of_ble_eq_true rfl⟩ ⟨Nat.zero_le _, Nat.zero_le _⟩ dX6_isNumber_14 (fun H locs hz1 I => ?_)
    refine lv_if_eq (tgt := 24) hx hb dX6_isNumber_17 (by decide) (fun c1 => ?_) (fun c1 => ?_)
    · replace h := if_t h c1
      refine lv_iconst (v := 0) hx hb dX6_isNumber_24 (by decide) ?_
      subst h
      exact e_z XX hr I rfl rfl dX6_isNumber_25
    · replace h := if_f h c1
      refine lv_iconst (v := 1) hx hb dX6_isNumber_20 (by decide) ?_
      refine lv_goto (tgt := 25) hx hb dX6_isNumber_21 (by decide) ?_
      subst h
      exact e_z XX hr I rfl rfl dX6_isNumber_25
set_option maxHeartbeats 4000000 in
set_option maxRecDepth 100000 in
theorem c_T_isByte (l : Launch) (G : g_G) (OK : EOk G.2.2) (adK adV : Nat → Nat) (hX : HX G adK adV) (ra : Nat → Nat) (ma : Nat → Nat) (rda : g_St) (mda : g_St) (x1 : Int32) (r : Int32) (h : f_T_isByte rda x1 = r) : HI l G yX6_isByte (Cond.code yX6_isByte cX6_isByte 2 (some .boolean) :: gT) { frames := 0, cells := 0, slots := 0, locals := 0 } .boolean [.ref (ra 0), .int x1] (bT G ra ma rda ++ (bV G ma mda ++ [])) r (bT G ra ma rda ++ (bV G ma mda ++ [])) := by
  refine HI.mk (lv := [(0, .ref (ra 0)), (1, .int x1)]) OK (by decide) (Nat.le_of_ble_eq_true rfl) rfl ?_
  intro p e s0 m args below meth c ls XX hr I hl
  have hx := XX.x
  have hb := XX.b
  have E := hX _ _ _ XX.E
  unfold f_T_isByte at h
  refine lv_aload_n hx hb dX6_isByte_0 rfl (lv_at hl 0 rfl) ?_
  refine gT_X6_o0_token XX I dX6_isByte_1 ?_
  refine lv_iconst (v := 3) hx hb dX6_isByte_4 (by decide) ?_
  refine lv_icmp_ne (tgt := 20) hx hb dX6_isByte_5 (by decide) (fun c1 => ?_) (fun c1 => ?_)
  · replace h := if_f h c1
    refine lv_iconst (v := 0) hx hb dX6_isByte_20 (by decide) ?_
    subst h
    exact e_z XX hr I rfl rfl dX6_isByte_21
  · replace h := if_t h c1
    refine lv_aload_n hx hb dX6_isByte_8 rfl (lv_at hl 0 rfl) ?_
    refine gT_X6_o0_number XX I dX6_isByte_9 ?_
    refine lv_iload_n hx hb dX6_isByte_12 rfl (lv_at hl 1 rfl) ?_
    refine lv_icmp_ne (tgt := 20) hx hb dX6_isByte_13 (by decide) (fun c1 => ?_) (fun c1 => ?_)
    · replace h := if_f h c1
      refine lv_iconst (v := 0) hx hb dX6_isByte_20 (by decide) ?_
      subst h
      exact e_z XX hr I rfl rfl dX6_isByte_21
    · replace h := if_t h c1
      refine lv_iconst (v := 1) hx hb dX6_isByte_16 (by decide) ?_
      refine lv_goto (tgt := 21) hx hb dX6_isByte_17 (by decide) ?_
      subst h
      exact e_z XX hr I rfl rfl dX6_isByte_21
theorem kV_X6_125 : KV RX6 125 RX6 yX6_isByte cX6_isByte 2 (some .boolean) 1 := KV.mk wd_455 wd_457 wd_1586 wd_4 wd_458 (by decide +kernel)
theorem kV_X6_56 : KV RX6 56 RX6 yX6_advance cX6_advance 1 none 0 := KV.mk wd_362 wd_364 wd_1578 wd_4 wd_365 (by decide +kernel)
set_option maxHeartbeats 4000000 in
set_option maxRecDepth 100000 in
theorem c_T_readEnd (l : Launch) (G : g_G) (OK : EOk G.2.2) (adK adV : Nat → Nat) (hX : HX G adK adV) (ra : Nat → Nat) (ma : Nat → Nat) (fu : Nat) (rda : g_St) (mda : g_St) (r : Int32) (trd : g_St) (h : f_T_readEnd fu rda = some (r, trd)) : HI l G yX6_readEnd (Cond.code yX6_readEnd cX6_readEnd 1 (some .boolean) :: gT) { frames := 2, cells := 0, slots := 0, locals := 42 } .boolean [.ref (ra 0)] (bT G ra ma rda ++ (bV G ma mda ++ [])) r (bT G ra ma trd ++ (bV G ma mda ++ [])) := by
  refine HI.mk (lv := [(0, .ref (ra 0))]) OK (by decide) (Nat.le_of_ble_eq_true rfl) rfl ?_
  intro p e s0 m args below meth c ls XX hr I hl
  have hx := XX.x
  have hb := XX.b
  have E := hX _ _ _ XX.E
  unfold f_T_readEnd at h
  refine lv_aload_n hx hb dX6_readEnd_0 rfl (lv_at hl 0 rfl) ?_
  refine lv_bipush (v := 59) hx hb dX6_readEnd_1 (by decide) ?_
  refine wcall_i (rest := []) XX I hl.1 (c_T_isByte l G OK adK adV hX ra ma rda mda (59 : Int32) _ rfl) kV_X6_125 (Rc.mk XX I (q0 := 0) (ci := 6) rfl rfl) rfl rfl (Nat.le_of_ble_eq_true rfl) ⟨rfl, rfl, Nat.le_of_ble_eq_true rfl, Nat.le_of_ble_eq_true rfl⟩ ⟨Nat.zero_le _, Nat.zero_le _⟩ dX6_readEnd_3 (fun H locs hz1 I => ?_)
  refine lv_if_ne (tgt := 11) hx hb dX6_readEnd_6 (by decide) (fun c1 => ?_) (fun c1 => ?_)
  · replace h := if_f h c1
    refine lv_aload_n hx hb dX6_readEnd_11 rfl (lv_at hl 0 rfl) ?_
    obtain ⟨s2, q3, h⟩ := bd1_some h
    refine wcall_v (rest := []) XX I hl.1 (c_T_advance l G OK adK adV hX ra ma fu rda mda s2 q3) kV_X6_56 (Rc.mk XX I (q0 := 0) (ci := 6) rfl rfl) rfl rfl (Nat.le_of_ble_eq_true rfl) ⟨rfl, rfl, Nat.le_of_ble_eq_true rfl, Nat.le_of_ble_eq_true rfl⟩ ⟨Nat.zero_le _, Nat.zero_le _⟩ dX6_readEnd_12 (fun H locs I => ?_)
    refine lv_iconst (v := 1) hx hb dX6_readEnd_15 (by decide) ?_
    obtain ⟨rfl, rfl⟩ := some2 h
    exact e_z XX hr I rfl rfl dX6_readEnd_16
  · replace h := if_t h c1
    refine lv_iconst (v := 0) hx hb dX6_readEnd_9 (by decide) ?_
    obtain ⟨rfl, rfl⟩ := some2 h
    exact e_z XX hr I rfl rfl dX6_readEnd_10
theorem kV_X6_101 : KV RX6 101 RX6 yX6_isNumber cX6_isNumber 3 (some .boolean) 2 := KV.mk wd_442 wd_444 wd_1584 wd_4 wd_445 (by decide +kernel)
theorem kV_X6_109 : KV RX6 109 RX9 yX9_addPerson cX9_addPerson 7 (some .int) 4 := KV.mk wd_447 wd_448 wd_449 wd_2 wd_450 (by decide +kernel)
theorem kV_X6_93 : KV RX6 93 RX6 yX6_readEnd cX6_readEnd 1 (some .boolean) 0 := KV.mk wd_451 wd_453 wd_1585 wd_4 wd_454 (by decide +kernel)
theorem gT_X6_o0_made {p : Program} {l : Launch} {e : Env} {R : Room} {s0 : State} {m : MethodId} {args : Array Value} {below : List Frame} {meth : Method} {c : Code} {H : Heap} {locs : List Loc} {cells slots : Nat} {Q : State → Prop} {cc : ByteArray} {nL pc : Nat} {ls : Array Slot} {rest : List Value} {G : g_G} {A : Nat → Prop} {ra : Nat → Nat} {ma : Nat → Nat} {rd : g_St} {md : g_St} (XX : Cx G A p s0 m meth c cc nL RX6 args) (I : Iv G A s0 H locs (bT G ra ma rd ++ (bV G ma md ++ []))) (hdg : decode cc pc = .ok (.getfield 12, 3)) (kk : W p l e R s0 m args below meth c H locs cells slots Q (F0 m (pc + 3) ls (.ref (ma 0) :: rest))) : W p l e R s0 m args below meth c H locs cells slots Q (F0 m pc ls (.ref (ra 0) :: rest)) := r_get kfX6 XX I 0 rfl 0 (Nat.le_of_ble_eq_true rfl) wd_130 rfl hdg kk
theorem gT_X6_o1_people {p : Program} {l : Launch} {e : Env} {R : Room} {s0 : State} {m : MethodId} {args : Array Value} {below : List Frame} {meth : Method} {c : Code} {H : Heap} {locs : List Loc} {cells slots : Nat} {Q : State → Prop} {cc : ByteArray} {nL pc : Nat} {ls : Array Slot} {rest : List Value} {G : g_G} {A : Nat → Prop} {ra : Nat → Nat} {ma : Nat → Nat} {rd : g_St} {md : g_St} (XX : Cx G A p s0 m meth c cc nL RX6 args) (I : Iv G A s0 H locs (bT G ra ma rd ++ (bV G ma md ++ []))) (hdg : decode cc pc = .ok (.getfield 96, 3)) (kk : W p l e R s0 m args below meth c H locs cells slots Q (F0 m (pc + 3) ls (.int (gi md 0) :: rest))) : W p l e R s0 m args below meth c H locs cells slots Q (F0 m pc ls (.ref (ma 0) :: rest)) := r_get kfX9 XX I 2 rfl 0 (Nat.le_of_ble_eq_true rfl) wd_39 rfl hdg kk
set_option maxHeartbeats 4000000 in
set_option maxRecDepth 100000 in
theorem c_T_readPerson (l : Launch) (G : g_G) (OK : EOk G.2.2) (adK adV : Nat → Nat) (hX : HX G adK adV) (ra : Nat → Nat) (ma : Nat → Nat) (fu : Nat) (rda : g_St) (mda : g_St) (x1 : Int32) (r : Int32) (trd : g_St) (tmd : g_St) (h : f_T_readPerson fu rda mda x1 = some (r, trd, tmd)) : HI l G yX6_readPerson (Cond.code yX6_readPerson cX6_readPerson 5 (some .boolean) :: gT) { frames := 5, cells := 0, slots := 0, locals := 107 } .boolean [.ref (ra 0), .int x1] (bT G ra ma rda ++ (bV G ma mda ++ [])) r (bT G ra ma trd ++ (bV G ma tmd ++ [])) := by
  refine HI.mk (lv := [(0, .ref (ra 0)), (1, .int x1)]) OK (by decide) (Nat.le_of_ble_eq_true rfl) rfl ?_
  intro p e s0 m args below meth c ls XX hr I hl
  have hx := XX.x
  have hb := XX.b
  have E := hX _ _ _ XX.E
  have C129 : ∀ (rd : g_St) (md : g_St) (v1 : Int32) (v2 : Int32) (v3 : Int32) (v4 : Int32), f_T_readPerson_L129 fu rd md v1 v2 v3 v4 = some (r, trd, tmd) → ∀ (H : Heap) (locs : List Loc), Iv G (va_A (bT G ra ma rda ++ (bV G ma mda ++ [])) s0.heap.size) s0 H locs (bT G ra ma rd ++ (bV G ma md ++ [])) → ∀ ls, lv_has ls 5 [(0, .ref (ra 0)), (1, .int v1), (2, .int v2), (3, .int v3), (4, .int v4)] → W p l e { frames := 5, cells := 0, slots := 0, locals := 107 } s0 m args below meth c H locs 0 0 (QI G below .boolean r (bT G ra ma rda ++ (bV G ma mda ++ [])) (bT G ra ma trd ++ (bV G ma tmd ++ [])) args s0) (F0 m 129 ls []) := by
    skip
    intro rd md v1 v2 v3 v4 h H locs I ls hl
    unfold f_T_readPerson_L129 at h
    refine lv_aload_n hx hb dX6_readPerson_129 rfl (lv_at hl 0 rfl) ?_
    refine gT_X6_o0_made XX I dX6_readPerson_130 ?_
    refine lv_iload_n hx hb dX6_readPerson_133 rfl (lv_at hl 1 rfl) ?_
    refine lv_iload_n hx hb dX6_readPerson_134 rfl (lv_at hl 3 rfl) ?_
    refine lv_iload_n hx hb dX6_readPerson_135 rfl (lv_at hl 2 rfl) ?_
    refine lv_iload hx hb dX6_readPerson_136 (lv_at hl 4 rfl) ?_
    obtain ⟨r37, s38, q39, h⟩ := bd2_some h
    have RC := (Rc.mk XX I (q0 := 2) (ci := 9) rfl rfl)
    replace I : Iv G (va_A (bT G ra ma rda ++ (bV G ma mda ++ [])) s0.heap.size) s0 _ _ ((bV G ma md) ++ (bT G ra ma rd ++ [])) := I.perm ((List.Perm.append_left _ (List.Perm.refl _)).trans (List.perm_append_comm_assoc _ _ _))
    refine call_i (X := []) (wc := (bV G ma md)) (Y := (bT G ra ma rd ++ [])) (rest := []) XX I hl.1 (c_V_addPerson l G OK ma fu md v1 v3 v2 v4 r37 s38 q39) kV_X6_109 RC rfl rfl (Nat.le_of_ble_eq_true rfl) ⟨rfl, rfl, Nat.le_of_ble_eq_true rfl, Nat.le_of_ble_eq_true rfl⟩ ⟨Nat.zero_le _, Nat.zero_le _⟩ dX6_readPerson_138 (fun H locs hz40 I => ?_)
    replace I : Iv G (va_A (bT G ra ma rda ++ (bV G ma mda ++ [])) s0.heap.size) s0 H locs (bT G ra ma rd ++ (bV G ma s38 ++ [])) := Iv.perm (w := (bV G ma s38) ++ (bT G ra ma rd ++ [])) I (((List.Perm.append_left _ (List.Perm.refl _)).trans (List.perm_append_comm_assoc _ _ _)).symm)
    refine lv_pop hx hb dX6_readPerson_141 rfl ?_
    refine lv_aload_n hx hb dX6_readPerson_142 rfl (lv_at hl 0 rfl) ?_
    obtain ⟨r41, s42, q43, h⟩ := bd2_some h
    refine wcall_i (rest := []) XX I hl.1 (c_T_readEnd l G OK adK adV hX ra ma fu rd s38 r41 s42 q43) kV_X6_93 (Rc.mk XX I (q0 := 0) (ci := 6) rfl rfl) rfl rfl (Nat.le_of_ble_eq_true rfl) ⟨rfl, rfl, Nat.le_of_ble_eq_true rfl, Nat.le_of_ble_eq_true rfl⟩ ⟨Nat.zero_le _, Nat.zero_le _⟩ dX6_readPerson_143 (fun H locs hz44 I => ?_)
    obtain ⟨rfl, h9⟩ := some2 h
    obtain ⟨rfl, rfl⟩ := pair2 h9
    exact e_z XX hr I hz44 rfl dX6_readPerson_146
  have C91 : ∀ (rd : g_St) (md : g_St) (v1 : Int32) (v2 : Int32) (v3 : Int32), f_T_readPerson_L91 fu rd md v1 v2 v3 = some (r, trd, tmd) → ∀ (H : Heap) (locs : List Loc), Iv G (va_A (bT G ra ma rda ++ (bV G ma mda ++ [])) s0.heap.size) s0 H locs (bT G ra ma rd ++ (bV G ma md ++ [])) → ∀ ls, lv_has ls 5 [(0, .ref (ra 0)), (1, .int v1), (2, .int v2), (3, .int v3)] → W p l e { frames := 5, cells := 0, slots := 0, locals := 107 } s0 m args below meth c H locs 0 0 (QI G below .boolean r (bT G ra ma rda ++ (bV G ma mda ++ [])) (bT G ra ma trd ++ (bV G ma tmd ++ [])) args s0) (F0 m 91 ls []) := by
    skip
    intro rd md v1 v2 v3 h H locs I ls hl
    unfold f_T_readPerson_L91 at h
    refine lv_iconst (v := 1) hx hb dX6_readPerson_91 (by decide) ?_
    refine lv_istore (lv' := [(4, .int (1 : Int32)), (0, .ref (ra 0)), (1, .int v1), (2, .int v2), (3, .int v3)]) hx hb dX6_readPerson_92 hl (by decide) rfl (fun ls hl => ?_)
    refine lv_aload_n hx hb dX6_readPerson_94 rfl (lv_at hl 1 rfl) ?_
    refine va_ldcS hx hb XX.o (E.2.2.2.1 7 (by decide)) dX6_readPerson_95 ?_
    obtain ⟨r26, q27, h⟩ := bd1_some h
    refine wcall_i (rest := []) XX I hl.1 (c_T_isName_noes l G OK adK adV hX ra ma fu rd md r26 q27) kV_X6_73 (Rc.mk XX I (q0 := 0) (ci := 6) rfl rfl) rfl rfl (Nat.le_of_ble_eq_true rfl) ⟨rfl, rfl, Nat.le_of_ble_eq_true rfl, Nat.le_of_ble_eq_true rfl⟩ ⟨Nat.zero_le _, Nat.zero_le _⟩ dX6_readPerson_97 (fun H locs hz28 I => ?_)
    refine lv_if_eq (tgt := 129) hx hb dX6_readPerson_100 (by decide) (fun c1 => ?_) (fun c1 => ?_)
    · replace h := if_t h c1
      exact C129 _ _ _ _ _ _ h _ _ I ls (lv_sub hl [1, 2, 3, 4, 0] rfl)
    · replace h := if_f h c1
      refine lv_aload_n hx hb dX6_readPerson_103 rfl (lv_at hl 1 rfl) ?_
      obtain ⟨s29, q30, h⟩ := bd1_some h
      refine wcall_v (rest := []) XX I hl.1 (c_T_advance l G OK adK adV hX ra ma fu rd md s29 q30) kV_X6_56 (Rc.mk XX I (q0 := 0) (ci := 6) rfl rfl) rfl rfl (Nat.le_of_ble_eq_true rfl) ⟨rfl, rfl, Nat.le_of_ble_eq_true rfl, Nat.le_of_ble_eq_true rfl⟩ ⟨Nat.zero_le _, Nat.zero_le _⟩ dX6_readPerson_104 (fun H locs I => ?_)
      refine lv_aload_n hx hb dX6_readPerson_107 rfl (lv_at hl 1 rfl) ?_
      refine lv_iconst (v := 0) hx hb dX6_readPerson_108 (by decide) ?_
      refine lv_bipush (v := 9) hx hb dX6_readPerson_109 (by decide) ?_
      refine wcall_i (rest := []) XX I hl.1 (c_T_isNumber l G OK adK adV hX ra ma s29 md (0 : Int32) (9 : Int32) _ rfl) kV_X6_101 (Rc.mk XX I (q0 := 0) (ci := 6) rfl rfl) rfl rfl (Nat.le_of_ble_eq_true rfl) ⟨rfl, rfl, Nat.le_of_ble_eq_true rfl, Nat.le_of_ble_eq_true rfl⟩ ⟨Nat.zero_le _, Nat.zero_le _⟩ dX6_readPerson_111 (fun H locs hz32 I => ?_)
      refine lv_if_ne (tgt := 119) hx hb dX6_readPerson_114 (by decide) (fun c1 => ?_) (fun c1 => ?_)
      · replace h := if_f h c1
        refine lv_aload_n hx hb dX6_readPerson_119 rfl (lv_at hl 1 rfl) ?_
        refine gT_X6_o0_number XX I dX6_readPerson_120 ?_
        refine lv_topi (fun y33 ey33 => ?_)
        replace h := lt_e h ey33
        refine lv_istore (lv' := [(4, .int y33), (0, .ref (ra 0)), (1, .int v1), (2, .int v2), (3, .int v3)]) hx hb dX6_readPerson_123 hl (by decide) rfl (fun ls hl => ?_)
        refine lv_aload_n hx hb dX6_readPerson_125 rfl (lv_at hl 1 rfl) ?_
        obtain ⟨s34, q35, h⟩ := bd1_some h
        refine wcall_v (rest := []) XX I hl.1 (c_T_advance l G OK adK adV hX ra ma fu s29 md s34 q35) kV_X6_56 (Rc.mk XX I (q0 := 0) (ci := 6) rfl rfl) rfl rfl (Nat.le_of_ble_eq_true rfl) ⟨rfl, rfl, Nat.le_of_ble_eq_true rfl, Nat.le_of_ble_eq_true rfl⟩ ⟨Nat.zero_le _, Nat.zero_le _⟩ dX6_readPerson_126 (fun H locs I => ?_)
        exact C129 _ _ _ _ _ _ h _ _ I ls (lv_sub hl [1, 2, 3, 4, 0] rfl)
      · replace h := if_t h c1
        refine lv_iconst (v := 0) hx hb dX6_readPerson_117 (by decide) ?_
        obtain ⟨rfl, h9⟩ := some2 h
        obtain ⟨rfl, rfl⟩ := pair2 h9
        exact e_z XX hr I rfl rfl dX6_readPerson_118
  unfold f_T_readPerson at h
  refine lv_aload_n hx hb dX6_readPerson_0 rfl (lv_at hl 0 rfl) ?_
  refine gT_X6_o0_made XX I dX6_readPerson_1 ?_
  refine gT_X6_o1_people XX I dX6_readPerson_4 ?_
  refine lv_bipush (v := 6) hx hb dX6_readPerson_7 (by decide) ?_
  refine lv_icmp_lt (tgt := 14) hx hb dX6_readPerson_9 (by decide) (fun c1 => ?_) (fun c1 => ?_)
  · replace h := if_t h c1
    refine lv_aload_n hx hb dX6_readPerson_14 rfl (lv_at hl 0 rfl) ?_
    obtain ⟨s1, q2, h⟩ := bd1_some h
    refine wcall_v (rest := []) XX I hl.1 (c_T_advance l G OK adK adV hX ra ma fu rda mda s1 q2) kV_X6_56 (Rc.mk XX I (q0 := 0) (ci := 6) rfl rfl) rfl rfl (Nat.le_of_ble_eq_true rfl) ⟨rfl, rfl, Nat.le_of_ble_eq_true rfl, Nat.le_of_ble_eq_true rfl⟩ ⟨Nat.zero_le _, Nat.zero_le _⟩ dX6_readPerson_15 (fun H locs I => ?_)
    refine lv_aload_n hx hb dX6_readPerson_18 rfl (lv_at hl 0 rfl) ?_
    refine va_ldcS hx hb XX.o (E.2.2.2.1 6 (by decide)) dX6_readPerson_19 ?_
    obtain ⟨r4, q5, h⟩ := bd1_some h
    refine wcall_i (rest := []) XX I hl.1 (c_T_isName_age l G OK adK adV hX ra ma fu s1 mda r4 q5) kV_X6_73 (Rc.mk XX I (q0 := 0) (ci := 6) rfl rfl) rfl rfl (Nat.le_of_ble_eq_true rfl) ⟨rfl, rfl, Nat.le_of_ble_eq_true rfl, Nat.le_of_ble_eq_true rfl⟩ ⟨Nat.zero_le _, Nat.zero_le _⟩ dX6_readPerson_21 (fun H locs hz6 I => ?_)
    refine lv_if_ne (tgt := 29) hx hb dX6_readPerson_24 (by decide) (fun c1 => ?_) (fun c1 => ?_)
    · replace h := if_f h c1
      refine lv_aload_n hx hb dX6_readPerson_29 rfl (lv_at hl 0 rfl) ?_
      obtain ⟨s7, q8, h⟩ := bd1_some h
      refine wcall_v (rest := []) XX I hl.1 (c_T_advance l G OK adK adV hX ra ma fu s1 mda s7 q8) kV_X6_56 (Rc.mk XX I (q0 := 0) (ci := 6) rfl rfl) rfl rfl (Nat.le_of_ble_eq_true rfl) ⟨rfl, rfl, Nat.le_of_ble_eq_true rfl, Nat.le_of_ble_eq_true rfl⟩ ⟨Nat.zero_le _, Nat.zero_le _⟩ dX6_readPerson_30 (fun H locs I => ?_)
      refine lv_aload_n hx hb dX6_readPerson_33 rfl (lv_at hl 0 rfl) ?_
      refine lv_iconst (v := 0) hx hb dX6_readPerson_34 (by decide) ?_
      refine lv_bipush (v := 99) hx hb dX6_readPerson_35 (by decide) ?_
      refine wcall_i (rest := []) XX I hl.1 (c_T_isNumber l G OK adK adV hX ra ma s7 mda (0 : Int32) (99 : Int32) _ rfl) kV_X6_101 (Rc.mk XX I (q0 := 0) (ci := 6) rfl rfl) rfl rfl (Nat.le_of_ble_eq_true rfl) ⟨rfl, rfl, Nat.le_of_ble_eq_true rfl, Nat.le_of_ble_eq_true rfl⟩ ⟨Nat.zero_le _, Nat.zero_le _⟩ dX6_readPerson_37 (fun H locs hz10 I => ?_)
      refine lv_if_ne (tgt := 45) hx hb dX6_readPerson_40 (by decide) (fun c1 => ?_) (fun c1 => ?_)
      · replace h := if_f h c1
        refine lv_aload_n hx hb dX6_readPerson_45 rfl (lv_at hl 0 rfl) ?_
        refine gT_X6_o0_number XX I dX6_readPerson_46 ?_
        refine lv_topi (fun y11 ey11 => ?_)
        replace h := lt_e h ey11
        refine lv_istore_n (lv' := [(2, .int y11), (0, .ref (ra 0)), (1, .int x1)]) hx hb dX6_readPerson_49 rfl hl (by decide) rfl (fun ls hl => ?_)
        refine lv_aload_n hx hb dX6_readPerson_50 rfl (lv_at hl 1 rfl) ?_
        obtain ⟨s12, q13, h⟩ := bd1_some h
        refine wcall_v (rest := []) XX I hl.1 (c_T_advance l G OK adK adV hX ra ma fu s7 mda s12 q13) kV_X6_56 (Rc.mk XX I (q0 := 0) (ci := 6) rfl rfl) rfl rfl (Nat.le_of_ble_eq_true rfl) ⟨rfl, rfl, Nat.le_of_ble_eq_true rfl, Nat.le_of_ble_eq_true rfl⟩ ⟨Nat.zero_le _, Nat.zero_le _⟩ dX6_readPerson_51 (fun H locs I => ?_)
        refine lv_iconst (v := 0) hx hb dX6_readPerson_54 (by decide) ?_
        refine lv_istore_n (lv' := [(3, .int (0 : Int32)), (2, .int y11), (0, .ref (ra 0)), (1, .int x1)]) hx hb dX6_readPerson_55 rfl hl (by decide) rfl (fun ls hl => ?_)
        refine lv_aload_n hx hb dX6_readPerson_56 rfl (lv_at hl 2 rfl) ?_
        refine va_ldcS hx hb XX.o (E.2.2.2.1 2 (by decide)) dX6_readPerson_57 ?_
        obtain ⟨r15, q16, h⟩ := bd1_some h
        refine wcall_i (rest := []) XX I hl.1 (c_T_isName_bar l G OK adK adV hX ra ma fu s12 mda r15 q16) kV_X6_73 (Rc.mk XX I (q0 := 0) (ci := 6) rfl rfl) rfl rfl (Nat.le_of_ble_eq_true rfl) ⟨rfl, rfl, Nat.le_of_ble_eq_true rfl, Nat.le_of_ble_eq_true rfl⟩ ⟨Nat.zero_le _, Nat.zero_le _⟩ dX6_readPerson_59 (fun H locs hz17 I => ?_)
        refine lv_if_eq (tgt := 91) hx hb dX6_readPerson_62 (by decide) (fun c1 => ?_) (fun c1 => ?_)
        · replace h := if_t h c1
          exact C91 _ _ _ _ _ h _ _ I ls (lv_sub hl [2, 3, 1, 0] rfl)
        · replace h := if_f h c1
          refine lv_aload_n hx hb dX6_readPerson_65 rfl (lv_at hl 2 rfl) ?_
          obtain ⟨s18, q19, h⟩ := bd1_some h
          refine wcall_v (rest := []) XX I hl.1 (c_T_advance l G OK adK adV hX ra ma fu s12 mda s18 q19) kV_X6_56 (Rc.mk XX I (q0 := 0) (ci := 6) rfl rfl) rfl rfl (Nat.le_of_ble_eq_true rfl) ⟨rfl, rfl, Nat.le_of_ble_eq_true rfl, Nat.le_of_ble_eq_true rfl⟩ ⟨Nat.zero_le _, Nat.zero_le _⟩ dX6_readPerson_66 (fun H locs I => ?_)
          refine lv_aload_n hx hb dX6_readPerson_69 rfl (lv_at hl 2 rfl) ?_
          refine lv_iconst (v := 0) hx hb dX6_readPerson_70 (by decide) ?_
          refine lv_sipush (v := 255) hx hb dX6_readPerson_71 (by decide) ?_
          refine wcall_i (rest := []) XX I hl.1 (c_T_isNumber l G OK adK adV hX ra ma s18 mda (0 : Int32) (255 : Int32) _ rfl) kV_X6_101 (Rc.mk XX I (q0 := 0) (ci := 6) rfl rfl) rfl rfl (Nat.le_of_ble_eq_true rfl) ⟨rfl, rfl, Nat.le_of_ble_eq_true rfl, Nat.le_of_ble_eq_true rfl⟩ ⟨Nat.zero_le _, Nat.zero_le _⟩ dX6_readPerson_74 (fun H locs hz21 I => ?_)
          refine lv_if_ne (tgt := 82) hx hb dX6_readPerson_77 (by decide) (fun c1 => ?_) (fun c1 => ?_)
          · replace h := if_f h c1
            refine lv_aload_n hx hb dX6_readPerson_82 rfl (lv_at hl 2 rfl) ?_
            refine gT_X6_o0_number XX I dX6_readPerson_83 ?_
            refine lv_topi (fun y22 ey22 => ?_)
            replace h := lt_e h ey22
            refine lv_istore_n (lv' := [(3, .int y22), (2, .int y11), (0, .ref (ra 0)), (1, .int x1)]) hx hb dX6_readPerson_86 rfl hl (by decide) rfl (fun ls hl => ?_)
            refine lv_aload_n hx hb dX6_readPerson_87 rfl (lv_at hl 2 rfl) ?_
            obtain ⟨s23, q24, h⟩ := bd1_some h
            refine wcall_v (rest := []) XX I hl.1 (c_T_advance l G OK adK adV hX ra ma fu s18 mda s23 q24) kV_X6_56 (Rc.mk XX I (q0 := 0) (ci := 6) rfl rfl) rfl rfl (Nat.le_of_ble_eq_true rfl) ⟨rfl, rfl, Nat.le_of_ble_eq_true rfl, Nat.le_of_ble_eq_true rfl⟩ ⟨Nat.zero_le _, Nat.zero_le _⟩ dX6_readPerson_88 (fun H locs I => ?_)
            exact C91 _ _ _ _ _ h _ _ I ls (lv_sub hl [2, 3, 1, 0] rfl)
          · replace h := if_t h c1
            refine lv_iconst (v := 0) hx hb dX6_readPerson_80 (by decide) ?_
            obtain ⟨rfl, h9⟩ := some2 h
            obtain ⟨rfl, rfl⟩ := pair2 h9
            exact e_z XX hr I rfl rfl dX6_readPerson_81
      · replace h := if_t h c1
        refine lv_iconst (v := 0) hx hb dX6_readPerson_43 (by decide) ?_
        obtain ⟨rfl, h9⟩ := some2 h
        obtain ⟨rfl, rfl⟩ := pair2 h9
        exact e_z XX hr I rfl rfl dX6_readPerson_44
    · replace h := if_t h c1
      refine lv_iconst (v := 0) hx hb dX6_readPerson_27 (by decide) ?_
      obtain ⟨rfl, h9⟩ := some2 h
      obtain ⟨rfl, rfl⟩ := pair2 h9
      exact e_z XX hr I rfl rfl dX6_readPerson_28
  · replace h := if_f h c1
    refine lv_iconst (v := 0) hx hb dX6_readPerson_12 (by decide) ?_
    obtain ⟨rfl, h9⟩ := some2 h
    obtain ⟨rfl, rfl⟩ := pair2 h9
    exact e_z XX hr I rfl rfl dX6_readPerson_13
