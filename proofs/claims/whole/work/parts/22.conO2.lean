set_option maxRecDepth 100000 in
theorem kV_X11_188 : KV RX11 188 RX9 yX9_allWeights cX9_allWeights 3 (some .int) 0 := KV.mk wd_632 wd_633 wd_634 wd_2 wd_635 (by decide +kernel)
set_option maxRecDepth 100000 in
theorem kS_X11_191 : KS RX11 191 yX11_nextLot cX11_nextLot 1 (some .int) 1 := KS.mk wd_636 wd_637 wd_1 wd_638 (by decide +kernel)
set_option maxRecDepth 100000 in
theorem kV_X11_194 : KV RX11 194 RX9 yX9_drawn cX9_drawn 6 (some .int) 1 := KV.mk wd_640 wd_641 wd_642 wd_2 wd_643 (by decide +kernel)
set_option maxHeartbeats 4000000 in
set_option maxRecDepth 100000 in
theorem c_O_lot (l : Launch) (G : g_G) (OK : EOk G.2.2) (oa : Nat → Nat) (na : Nat → Nat) (ka : Nat → Nat) (aa : Nat → Nat) (wa : Nat → Nat) (ra : Nat → Nat) (ma : Nat → Nat) (pa : Nat → Nat) (sd : Nat → Nat → Nat) (yd : Nat → Nat) (td : Nat → Nat) (fu : Nat) (owa : g_St) (nwa : g_St) (kpa : g_St) (aha : g_St) (awa : g_St) (rda : g_St) (mda : g_St) (tpa : g_St) (hha : g_Sf) (tha : g_St) (tra : g_St) (r : Int32) (tnw : g_St) (h : f_O_lot fu nwa = some (r, tnw)) : HI l G yX11_lot (Cond.code yX11_lot cX11_lot 2 (some .int) :: gT) { frames := 5, cells := 0, slots := 0, locals := 125 } .int [.ref (oa 0)] (bO G oa na ka aa ra pa sd yd td owa ++ (bV G na nwa ++ (bV G ka kpa ++ (bA G aa wa aha ++ (bV G wa awa ++ (bT G ra ma rda ++ (bV G ma mda ++ (bP G pa tpa ++ (bH G sd hha ++ (bY G yd td tha ++ (bK G td tra ++ []))))))))))) r (bO G oa na ka aa ra pa sd yd td owa ++ (bV G na tnw ++ (bV G ka kpa ++ (bA G aa wa aha ++ (bV G wa awa ++ (bT G ra ma rda ++ (bV G ma mda ++ (bP G pa tpa ++ (bH G sd hha ++ (bY G yd td tha ++ (bK G td tra ++ []))))))))))) := by
  refine HI.mk (lv := [(0, .ref (oa 0))]) OK (by decide) (Nat.le_of_ble_eq_true rfl) rfl ?_
  intro p e s0 m args below meth c ls XX hr I hl
  have hx := XX.x
  have hb := XX.b
  unfold f_O_lot at h
  refine lv_aload_n hx hb dX11_lot_0 rfl (lv_at hl 0 rfl) ?_
  refine gO_X11_o0_now XX I dX11_lot_1 ?_
  obtain ⟨r1, q2, h⟩ := bd1_some h
  have RC := (Rc.mk XX I (q0 := 32) (ci := 9) rfl rfl)
  replace I : Iv G (va_A (bO G oa na ka aa ra pa sd yd td owa ++ (bV G na nwa ++ (bV G ka kpa ++ (bA G aa wa aha ++ (bV G wa awa ++ (bT G ra ma rda ++ (bV G ma mda ++ (bP G pa tpa ++ (bH G sd hha ++ (bY G yd td tha ++ (bK G td tra ++ []))))))))))) s0.heap.size) s0 _ _ ((bV G na nwa) ++ (bO G oa na ka aa ra pa sd yd td owa ++ (bV G ka kpa ++ (bA G aa wa aha ++ (bV G wa awa ++ (bT G ra ma rda ++ (bV G ma mda ++ (bP G pa tpa ++ (bH G sd hha ++ (bY G yd td tha ++ (bK G td tra ++ []))))))))))) := I.perm ((List.Perm.append_left _ (List.Perm.refl _)).trans (List.perm_append_comm_assoc _ _ _))
  refine call_i (X := []) (wc := (bV G na nwa)) (Y := (bO G oa na ka aa ra pa sd yd td owa ++ (bV G ka kpa ++ (bA G aa wa aha ++ (bV G wa awa ++ (bT G ra ma rda ++ (bV G ma mda ++ (bP G pa tpa ++ (bH G sd hha ++ (bY G yd td tha ++ (bK G td tra ++ []))))))))))) (rest := []) XX I hl.1 (c_V_allWeights l G OK na fu nwa r1 q2) kV_X11_188 RC rfl rfl (Nat.le_of_ble_eq_true rfl) ⟨rfl, rfl, Nat.le_of_ble_eq_true rfl, Nat.le_of_ble_eq_true rfl⟩ ⟨Nat.zero_le _, Nat.zero_le _⟩ dX11_lot_4 (fun H locs hz3 I => ?_)
  replace I : Iv G (va_A (bO G oa na ka aa ra pa sd yd td owa ++ (bV G na nwa ++ (bV G ka kpa ++ (bA G aa wa aha ++ (bV G wa awa ++ (bT G ra ma rda ++ (bV G ma mda ++ (bP G pa tpa ++ (bH G sd hha ++ (bY G yd td tha ++ (bK G td tra ++ []))))))))))) s0.heap.size) s0 H locs (bO G oa na ka aa ra pa sd yd td owa ++ (bV G na nwa ++ (bV G ka kpa ++ (bA G aa wa aha ++ (bV G wa awa ++ (bT G ra ma rda ++ (bV G ma mda ++ (bP G pa tpa ++ (bH G sd hha ++ (bY G yd td tha ++ (bK G td tra ++ []))))))))))) := Iv.perm (w := (bV G na nwa) ++ (bO G oa na ka aa ra pa sd yd td owa ++ (bV G ka kpa ++ (bA G aa wa aha ++ (bV G wa awa ++ (bT G ra ma rda ++ (bV G ma mda ++ (bP G pa tpa ++ (bH G sd hha ++ (bY G yd td tha ++ (bK G td tra ++ []))))))))))) I (((List.Perm.append_left _ (List.Perm.refl _)).trans (List.perm_append_comm_assoc _ _ _)).symm)
  refine lv_if_ne (tgt := 13) hx hb dX11_lot_7 (by decide) (fun c1 => ?_) (fun c1 => ?_)
  · replace h := if_f h c1
    refine lv_aload_n hx hb dX11_lot_13 rfl (lv_at hl 0 rfl) ?_
    refine gO_X11_o0_now XX I dX11_lot_14 ?_
    refine gO_X11_o1_law XX I dX11_lot_17 ?_
    refine lv_iconst (v := 3) hx hb dX11_lot_20 (by decide) ?_
    refine r_iald XX I 40 (aO_law1) (by unfold vp_in; decide) dX11_lot_21 ?_
    refine lv_sipush (v := 999) hx hb dX11_lot_22 (by decide) ?_
    refine lv_icmp_lt (tgt := 31) hx hb dX11_lot_25 (by decide) (fun c1 => ?_) (fun c1 => ?_)
    · replace h := if_t h c1
      refine lv_aload_n hx hb dX11_lot_31 rfl (lv_at hl 0 rfl) ?_
      refine gO_X11_o0_now XX I dX11_lot_32 ?_
      refine lv_aload_n hx hb dX11_lot_35 rfl (lv_at hl 0 rfl) ?_
      refine gO_X11_o0_now XX I dX11_lot_36 ?_
      refine gO_X11_o1_z XX I dX11_lot_39 ?_
      refine scall_i (rest := [.ref (na 0)]) XX I hl.1 (c_S_nextLot l G OK (gi nwa 10) _ rfl) kS_X11_191 rfl rfl (Nat.le_of_ble_eq_true rfl) ⟨rfl, rfl, Nat.le_of_ble_eq_true rfl, Nat.le_of_ble_eq_true rfl⟩ ⟨Nat.zero_le _, Nat.zero_le _⟩ dX11_lot_42 (fun H locs hz4 I => ?_)
      refine lv_topi (fun y5 ey5 => ?_)
      replace h := lt_e h ey5
      refine pO_X11_o1_z XX I dX11_lot_45 (fun H locs I => ?_)
      obtain ⟨s6, es6⟩ : ∃ z, z = si nwa 10 y5 := ⟨_, rfl⟩
      replace h := lt_e h es6
      replace I : Iv G (va_A (bO G oa na ka aa ra pa sd yd td owa ++ (bV G na nwa ++ (bV G ka kpa ++ (bA G aa wa aha ++ (bV G wa awa ++ (bT G ra ma rda ++ (bV G ma mda ++ (bP G pa tpa ++ (bH G sd hha ++ (bY G yd td tha ++ (bK G td tra ++ []))))))))))) s0.heap.size) s0 H locs (bO G oa na ka aa ra pa sd yd td owa ++ (bV G na s6 ++ (bV G ka kpa ++ (bA G aa wa aha ++ (bV G wa awa ++ (bT G ra ma rda ++ (bV G ma mda ++ (bP G pa tpa ++ (bH G sd hha ++ (bY G yd td tha ++ (bK G td tra ++ []))))))))))) := by rw [es6]; exact I
      refine lv_aload_n hx hb dX11_lot_48 rfl (lv_at hl 0 rfl) ?_
      refine gO_X11_o0_now XX I dX11_lot_49 ?_
      refine lv_aload_n hx hb dX11_lot_52 rfl (lv_at hl 0 rfl) ?_
      refine gO_X11_o0_now XX I dX11_lot_53 ?_
      refine gO_X11_o1_z XX I dX11_lot_56 ?_
      obtain ⟨r7, q8, h⟩ := bd1_some h
      have RC := (Rc.mk XX I (q0 := 32) (ci := 9) rfl rfl)
      replace I : Iv G (va_A (bO G oa na ka aa ra pa sd yd td owa ++ (bV G na nwa ++ (bV G ka kpa ++ (bA G aa wa aha ++ (bV G wa awa ++ (bT G ra ma rda ++ (bV G ma mda ++ (bP G pa tpa ++ (bH G sd hha ++ (bY G yd td tha ++ (bK G td tra ++ []))))))))))) s0.heap.size) s0 _ _ ((bV G na s6) ++ (bO G oa na ka aa ra pa sd yd td owa ++ (bV G ka kpa ++ (bA G aa wa aha ++ (bV G wa awa ++ (bT G ra ma rda ++ (bV G ma mda ++ (bP G pa tpa ++ (bH G sd hha ++ (bY G yd td tha ++ (bK G td tra ++ []))))))))))) := I.perm ((List.Perm.append_left _ (List.Perm.refl _)).trans (List.perm_append_comm_assoc _ _ _))
      refine call_i (X := []) (wc := (bV G na s6)) (Y := (bO G oa na ka aa ra pa sd yd td owa ++ (bV G ka kpa ++ (bA G aa wa aha ++ (bV G wa awa ++ (bT G ra ma rda ++ (bV G ma mda ++ (bP G pa tpa ++ (bH G sd hha ++ (bY G yd td tha ++ (bK G td tra ++ []))))))))))) (rest := []) XX I hl.1 (c_V_drawn l G OK na fu s6 (gi s6 10) r7 q8) kV_X11_194 RC rfl rfl (Nat.le_of_ble_eq_true rfl) ⟨rfl, rfl, Nat.le_of_ble_eq_true rfl, Nat.le_of_ble_eq_true rfl⟩ ⟨Nat.zero_le _, Nat.zero_le _⟩ dX11_lot_59 (fun H locs hz9 I => ?_)
      replace I : Iv G (va_A (bO G oa na ka aa ra pa sd yd td owa ++ (bV G na nwa ++ (bV G ka kpa ++ (bA G aa wa aha ++ (bV G wa awa ++ (bT G ra ma rda ++ (bV G ma mda ++ (bP G pa tpa ++ (bH G sd hha ++ (bY G yd td tha ++ (bK G td tra ++ []))))))))))) s0.heap.size) s0 H locs (bO G oa na ka aa ra pa sd yd td owa ++ (bV G na s6 ++ (bV G ka kpa ++ (bA G aa wa aha ++ (bV G wa awa ++ (bT G ra ma rda ++ (bV G ma mda ++ (bP G pa tpa ++ (bH G sd hha ++ (bY G yd td tha ++ (bK G td tra ++ []))))))))))) := Iv.perm (w := (bV G na s6) ++ (bO G oa na ka aa ra pa sd yd td owa ++ (bV G ka kpa ++ (bA G aa wa aha ++ (bV G wa awa ++ (bT G ra ma rda ++ (bV G ma mda ++ (bP G pa tpa ++ (bH G sd hha ++ (bY G yd td tha ++ (bK G td tra ++ []))))))))))) I (((List.Perm.append_left _ (List.Perm.refl _)).trans (List.perm_append_comm_assoc _ _ _)).symm)
      refine lv_istore_n (lv' := [(1, .int r7), (0, .ref (oa 0))]) hx hb dX11_lot_62 rfl hl (by decide) rfl (fun ls hl => ?_)
      refine lv_aload_n hx hb dX11_lot_63 rfl (lv_at hl 1 rfl) ?_
      refine gO_X11_o0_now XX I dX11_lot_64 ?_
      refine lv_iload_n hx hb dX11_lot_67 rfl (lv_at hl 0 rfl) ?_
      obtain ⟨r10, s11, q12, h⟩ := bd2_some h
      have RC := (Rc.mk XX I (q0 := 32) (ci := 9) rfl rfl)
      replace I : Iv G (va_A (bO G oa na ka aa ra pa sd yd td owa ++ (bV G na nwa ++ (bV G ka kpa ++ (bA G aa wa aha ++ (bV G wa awa ++ (bT G ra ma rda ++ (bV G ma mda ++ (bP G pa tpa ++ (bH G sd hha ++ (bY G yd td tha ++ (bK G td tra ++ []))))))))))) s0.heap.size) s0 _ _ ((bV G na s6) ++ (bO G oa na ka aa ra pa sd yd td owa ++ (bV G ka kpa ++ (bA G aa wa aha ++ (bV G wa awa ++ (bT G ra ma rda ++ (bV G ma mda ++ (bP G pa tpa ++ (bH G sd hha ++ (bY G yd td tha ++ (bK G td tra ++ []))))))))))) := I.perm ((List.Perm.append_left _ (List.Perm.refl _)).trans (List.perm_append_comm_assoc _ _ _))
      refine call_i (X := []) (wc := (bV G na s6)) (Y := (bO G oa na ka aa ra pa sd yd td owa ++ (bV G ka kpa ++ (bA G aa wa aha ++ (bV G wa awa ++ (bT G ra ma rda ++ (bV G ma mda ++ (bP G pa tpa ++ (bH G sd hha ++ (bY G yd td tha ++ (bK G td tra ++ []))))))))))) (rest := []) XX I hl.1 (c_V_passYear l G OK na fu s6 r7 r10 s11 q12) kV_X11_185 RC rfl rfl (Nat.le_of_ble_eq_true rfl) ⟨rfl, rfl, Nat.le_of_ble_eq_true rfl, Nat.le_of_ble_eq_true rfl⟩ ⟨Nat.zero_le _, Nat.zero_le _⟩ dX11_lot_68 (fun H locs hz13 I => ?_)
      replace I : Iv G (va_A (bO G oa na ka aa ra pa sd yd td owa ++ (bV G na nwa ++ (bV G ka kpa ++ (bA G aa wa aha ++ (bV G wa awa ++ (bT G ra ma rda ++ (bV G ma mda ++ (bP G pa tpa ++ (bH G sd hha ++ (bY G yd td tha ++ (bK G td tra ++ []))))))))))) s0.heap.size) s0 H locs (bO G oa na ka aa ra pa sd yd td owa ++ (bV G na s11 ++ (bV G ka kpa ++ (bA G aa wa aha ++ (bV G wa awa ++ (bT G ra ma rda ++ (bV G ma mda ++ (bP G pa tpa ++ (bH G sd hha ++ (bY G yd td tha ++ (bK G td tra ++ []))))))))))) := Iv.perm (w := (bV G na s11) ++ (bO G oa na ka aa ra pa sd yd td owa ++ (bV G ka kpa ++ (bA G aa wa aha ++ (bV G wa awa ++ (bT G ra ma rda ++ (bV G ma mda ++ (bP G pa tpa ++ (bH G sd hha ++ (bY G yd td tha ++ (bK G td tra ++ []))))))))))) I (((List.Perm.append_left _ (List.Perm.refl _)).trans (List.perm_append_comm_assoc _ _ _)).symm)
      refine lv_pop hx hb dX11_lot_71 rfl ?_
      refine lv_iload_n hx hb dX11_lot_72 rfl (lv_at hl 0 rfl) ?_
      obtain ⟨rfl, rfl⟩ := some2 h
      exact e_i rfl XX hr I rfl dX11_lot_73
    · replace h := if_f h c1
      refine lv_bipush (v := (-4)) hx hb dX11_lot_28 (by decide) ?_
      obtain ⟨rfl, rfl⟩ := some2 h
      exact e_i rfl XX hr I rfl dX11_lot_30
  · replace h := if_t h c1
    refine lv_bipush (v := (-3)) hx hb dX11_lot_10 (by decide) ?_
    obtain ⟨rfl, rfl⟩ := some2 h
    exact e_i rfl XX hr I rfl dX11_lot_12
set_option maxRecDepth 100000 in
theorem gO_X11_o1_had {p : Program} {l : Launch} {e : Env} {R : Room} {s0 : State} {m : MethodId} {args : Array Value} {below : List Frame} {meth : Method} {c : Code} {H : Heap} {locs : List Loc} {cells slots : Nat} {Q : State → Prop} {cc : ByteArray} {nL pc : Nat} {ls : Array Slot} {rest : List Value} {G : g_G} {A : Nat → Prop} {oa : Nat → Nat} {na : Nat → Nat} {ka : Nat → Nat} {aa : Nat → Nat} {wa : Nat → Nat} {ra : Nat → Nat} {ma : Nat → Nat} {pa : Nat → Nat} {sd : Nat → Nat → Nat} {yd : Nat → Nat} {td : Nat → Nat} {ow : g_St} {nw : g_St} {kp : g_St} {ah : g_St} {aw : g_St} {rd : g_St} {md : g_St} {tp : g_St} {hh : g_Sf} {th : g_St} {tr : g_St} (XX : Cx G A p s0 m meth c cc nL RX11 args) (I : Iv G A s0 H locs (bO G oa na ka aa ra pa sd yd td ow ++ (bV G na nw ++ (bV G ka kp ++ (bA G aa wa ah ++ (bV G wa aw ++ (bT G ra ma rd ++ (bV G ma md ++ (bP G pa tp ++ (bH G sd hh ++ (bY G yd td th ++ (bK G td tr ++ [])))))))))))) (hdg : decode cc pc = .ok (.getfield 197, 3)) (kk : W p l e R s0 m args below meth c H locs cells slots Q (F0 m (pc + 3) ls (.ref (na 6) :: rest))) : W p l e R s0 m args below meth c H locs cells slots Q (F0 m pc ls (.ref (na 0) :: rest)) := r_get kfX9 XX I 32 rfl 5 (Nat.le_of_ble_eq_true rfl) wd_52 rfl hdg kk
set_option maxRecDepth 100000 in
theorem aO_had1 {G : g_G} {oa : Nat → Nat} {na : Nat → Nat} {ka : Nat → Nat} {aa : Nat → Nat} {wa : Nat → Nat} {ra : Nat → Nat} {ma : Nat → Nat} {pa : Nat → Nat} {sd : Nat → Nat → Nat} {yd : Nat → Nat} {td : Nat → Nat} {ow : g_St} {nw : g_St} {kp : g_St} {ah : g_St} {aw : g_St} {rd : g_St} {md : g_St} {tp : g_St} {hh : g_Sf} {th : g_St} {tr : g_St} : (bO G oa na ka aa ra pa sd yd td ow ++ (bV G na nw ++ (bV G ka kp ++ (bA G aa wa ah ++ (bV G wa aw ++ (bT G ra ma rd ++ (bV G ma md ++ (bP G pa tp ++ (bH G sd hh ++ (bY G yd td th ++ (bK G td tr ++ [])))))))))))[37]? = some (na 6, .inl (G.2.1 0, 6, .inl (gr nw 5))) := rfl
set_option maxRecDepth 100000 in
theorem sO_had1 {G : g_G} {oa : Nat → Nat} {na : Nat → Nat} {ka : Nat → Nat} {aa : Nat → Nat} {wa : Nat → Nat} {ra : Nat → Nat} {ma : Nat → Nat} {pa : Nat → Nat} {sd : Nat → Nat → Nat} {yd : Nat → Nat} {td : Nat → Nat} {ow : g_St} {nw : g_St} {kp : g_St} {ah : g_St} {aw : g_St} {rd : g_St} {md : g_St} {tp : g_St} {hh : g_Sf} {th : g_St} {tr : g_St} {i : Int32} {x : Int32} : (bO G oa na ka aa ra pa sd yd td ow ++ (bV G na nw ++ (bV G ka kp ++ (bA G aa wa ah ++ (bV G wa aw ++ (bT G ra ma rd ++ (bV G ma md ++ (bP G pa tp ++ (bH G sd hh ++ (bY G yd td th ++ (bK G td tr ++ []))))))))))).set 37 (na 6, .inl (G.2.1 0, 6, .inl (upd (gr nw 5) i.toNatClampNeg x))) = (bO G oa na ka aa ra pa sd yd td ow ++ (bV G na (sr nw 5 i x) ++ (bV G ka kp ++ (bA G aa wa ah ++ (bV G wa aw ++ (bT G ra ma rd ++ (bV G ma md ++ (bP G pa tp ++ (bH G sd hh ++ (bY G yd td th ++ (bK G td tr ++ []))))))))))) := rfl
set_option maxHeartbeats 4000000 in
set_option maxRecDepth 100000 in
theorem c_O_had (l : Launch) (G : g_G) (OK : EOk G.2.2) (oa : Nat → Nat) (na : Nat → Nat) (ka : Nat → Nat) (aa : Nat → Nat) (wa : Nat → Nat) (ra : Nat → Nat) (ma : Nat → Nat) (pa : Nat → Nat) (sd : Nat → Nat → Nat) (yd : Nat → Nat) (td : Nat → Nat) (owa : g_St) (nwa : g_St) (kpa : g_St) (aha : g_St) (awa : g_St) (rda : g_St) (mda : g_St) (tpa : g_St) (hha : g_Sf) (tha : g_St) (tra : g_St) (x1 : Int32) (r : Int32) (h : f_O_had nwa x1 = some r) : HI l G yX11_had (Cond.code yX11_had cX11_had 2 (some .int) :: gT) { frames := 1, cells := 0, slots := 0, locals := 21 } .int [.ref (oa 0), .int x1] (bO G oa na ka aa ra pa sd yd td owa ++ (bV G na nwa ++ (bV G ka kpa ++ (bA G aa wa aha ++ (bV G wa awa ++ (bT G ra ma rda ++ (bV G ma mda ++ (bP G pa tpa ++ (bH G sd hha ++ (bY G yd td tha ++ (bK G td tra ++ []))))))))))) r (bO G oa na ka aa ra pa sd yd td owa ++ (bV G na nwa ++ (bV G ka kpa ++ (bA G aa wa aha ++ (bV G wa awa ++ (bT G ra ma rda ++ (bV G ma mda ++ (bP G pa tpa ++ (bH G sd hha ++ (bY G yd td tha ++ (bK G td tra ++ []))))))))))) := by
  refine HI.mk (lv := [(0, .ref (oa 0)), (1, .int x1)]) OK (by decide) (Nat.le_of_ble_eq_true rfl) rfl ?_
  intro p e s0 m args below meth c ls XX hr I hl
  have hx := XX.x
  have hb := XX.b
  unfold f_O_had at h
  refine lv_aload_n hx hb dX11_had_0 rfl (lv_at hl 0 rfl) ?_
  refine lv_iload_n hx hb dX11_had_1 rfl (lv_at hl 1 rfl) ?_
  refine wcall_i (rest := []) XX I hl.1 (c_O_isPerson l G OK oa na ka aa wa ra ma pa sd yd td owa nwa kpa aha awa rda mda tpa hha tha tra x1 _ rfl) kV_X11_131 (Rc.mk XX I (q0 := 0) (ci := 11) rfl rfl) rfl rfl (Nat.le_of_ble_eq_true rfl) ⟨rfl, rfl, Nat.le_of_ble_eq_true rfl, Nat.le_of_ble_eq_true rfl⟩ ⟨Nat.zero_le _, Nat.zero_le _⟩ dX11_had_2 (fun H locs hz1 I => ?_)
  refine lv_if_eq (tgt := 23) hx hb dX11_had_5 (by decide) (fun c1 => ?_) (fun c1 => ?_)
  · replace h := if_t h c1
    refine lv_iconst (v := (-1)) hx hb dX11_had_23 (by decide) ?_
    obtain rfl := some1 h
    exact e_i rfl XX hr I rfl dX11_had_24
  · replace h := if_f h c1
    refine lv_aload_n hx hb dX11_had_8 rfl (lv_at hl 0 rfl) ?_
    refine gO_X11_o0_now XX I dX11_had_9 ?_
    refine gO_X11_o1_had XX I dX11_had_12 ?_
    refine lv_iload_n hx hb dX11_had_15 rfl (lv_at hl 1 rfl) ?_
    obtain ⟨g2, h⟩ := gd_some h
    refine r_iald XX I 37 (aO_had1) g2 dX11_had_16 ?_
    refine lv_ldc (v := 100000) hx hb XX.o (XX.t _ wd_649) dX11_had_17 ?_
    refine lv_iadd hx hb dX11_had_19 ?_
    refine lv_goto (tgt := 24) hx hb dX11_had_20 (by decide) ?_
    obtain rfl := some1 h
    exact e_i rfl XX hr I rfl dX11_had_24
set_option maxHeartbeats 4000000 in
set_option maxRecDepth 100000 in
theorem c_O_seed (l : Launch) (G : g_G) (OK : EOk G.2.2) (oa : Nat → Nat) (na : Nat → Nat) (ka : Nat → Nat) (aa : Nat → Nat) (wa : Nat → Nat) (ra : Nat → Nat) (ma : Nat → Nat) (pa : Nat → Nat) (sd : Nat → Nat → Nat) (yd : Nat → Nat) (td : Nat → Nat) (owa : g_St) (nwa : g_St) (kpa : g_St) (aha : g_St) (awa : g_St) (rda : g_St) (mda : g_St) (tpa : g_St) (hha : g_Sf) (tha : g_St) (tra : g_St) (x1 : Int32) (r : Int32) (tnw : g_St) (h : f_O_seed nwa x1 = (r, tnw)) : HI l G yX11_seed (Cond.code yX11_seed cX11_seed 3 (some .int) :: gT) { frames := 0, cells := 0, slots := 0, locals := 0 } .int [.ref (oa 0), .int x1] (bO G oa na ka aa ra pa sd yd td owa ++ (bV G na nwa ++ (bV G ka kpa ++ (bA G aa wa aha ++ (bV G wa awa ++ (bT G ra ma rda ++ (bV G ma mda ++ (bP G pa tpa ++ (bH G sd hha ++ (bY G yd td tha ++ (bK G td tra ++ []))))))))))) r (bO G oa na ka aa ra pa sd yd td owa ++ (bV G na tnw ++ (bV G ka kpa ++ (bA G aa wa aha ++ (bV G wa awa ++ (bT G ra ma rda ++ (bV G ma mda ++ (bP G pa tpa ++ (bH G sd hha ++ (bY G yd td tha ++ (bK G td tra ++ []))))))))))) := by
  refine HI.mk (lv := [(0, .ref (oa 0)), (1, .int x1)]) OK (by decide) (Nat.le_of_ble_eq_true rfl) rfl ?_
  intro p e s0 m args below meth c ls XX hr I hl
  have hx := XX.x
  have hb := XX.b
  unfold f_O_seed at h
  refine lv_aload_n hx hb dX11_seed_0 rfl (lv_at hl 0 rfl) ?_
  refine gO_X11_o0_now XX I dX11_seed_1 ?_
  refine gO_X11_o1_z XX I dX11_seed_4 ?_
  refine lv_topi (fun y1 ey1 => ?_)
  replace h := lt_e h ey1
  refine lv_istore_n (lv' := [(2, .int y1), (0, .ref (oa 0)), (1, .int x1)]) hx hb dX11_seed_7 rfl hl (by decide) rfl (fun ls hl => ?_)
  refine lv_aload_n hx hb dX11_seed_8 rfl (lv_at hl 1 rfl) ?_
  refine gO_X11_o0_now XX I dX11_seed_9 ?_
  refine lv_iload_n hx hb dX11_seed_12 rfl (lv_at hl 2 rfl) ?_
  refine pO_X11_o1_z XX I dX11_seed_13 (fun H locs I => ?_)
  obtain ⟨s2, es2⟩ : ∃ z, z = si nwa 10 x1 := ⟨_, rfl⟩
  replace h := lt_e h es2
  replace I : Iv G (va_A (bO G oa na ka aa ra pa sd yd td owa ++ (bV G na nwa ++ (bV G ka kpa ++ (bA G aa wa aha ++ (bV G wa awa ++ (bT G ra ma rda ++ (bV G ma mda ++ (bP G pa tpa ++ (bH G sd hha ++ (bY G yd td tha ++ (bK G td tra ++ []))))))))))) s0.heap.size) s0 H locs (bO G oa na ka aa ra pa sd yd td owa ++ (bV G na s2 ++ (bV G ka kpa ++ (bA G aa wa aha ++ (bV G wa awa ++ (bT G ra ma rda ++ (bV G ma mda ++ (bP G pa tpa ++ (bH G sd hha ++ (bY G yd td tha ++ (bK G td tra ++ []))))))))))) := by rw [es2]; exact I
  refine lv_iload_n hx hb dX11_seed_16 rfl (lv_at hl 0 rfl) ?_
  obtain ⟨rfl, rfl⟩ := pair2 h
  exact e_i rfl XX hr I rfl dX11_seed_17
set_option maxRecDepth 100000 in
theorem kV_X11_203 : KV RX11 203 RX0 yX0_look cX0_look 4 none 2 := KV.mk wd_659 wd_660 wd_661 wd_3 wd_662 (by decide +kernel)
set_option maxRecDepth 100000 in
theorem kV_X11_207 : KV RX11 207 RX0 yX0_sum cX0_sum 2 (some .long) 1 := KV.mk wd_666 wd_667 wd_668 wd_3 wd_669 (by decide +kernel)
set_option maxRecDepth 100000 in
theorem kS_X11_215 : KS RX11 215 yX11_partOf cX11_partOf 7 (some .long) 3 := KS.mk wd_686 wd_687 wd_1 wd_688 (by decide +kernel)
set_option maxRecDepth 100000 in
theorem gO_X11_o0_ahead {p : Program} {l : Launch} {e : Env} {R : Room} {s0 : State} {m : MethodId} {args : Array Value} {below : List Frame} {meth : Method} {c : Code} {H : Heap} {locs : List Loc} {cells slots : Nat} {Q : State → Prop} {cc : ByteArray} {nL pc : Nat} {ls : Array Slot} {rest : List Value} {G : g_G} {A : Nat → Prop} {oa : Nat → Nat} {na : Nat → Nat} {ka : Nat → Nat} {aa : Nat → Nat} {wa : Nat → Nat} {ra : Nat → Nat} {ma : Nat → Nat} {pa : Nat → Nat} {sd : Nat → Nat → Nat} {yd : Nat → Nat} {td : Nat → Nat} {ow : g_St} {nw : g_St} {kp : g_St} {ah : g_St} {aw : g_St} {rd : g_St} {md : g_St} {tp : g_St} {hh : g_Sf} {th : g_St} {tr : g_St} (XX : Cx G A p s0 m meth c cc nL RX11 args) (I : Iv G A s0 H locs (bO G oa na ka aa ra pa sd yd td ow ++ (bV G na nw ++ (bV G ka kp ++ (bA G aa wa ah ++ (bV G wa aw ++ (bT G ra ma rd ++ (bV G ma md ++ (bP G pa tp ++ (bH G sd hh ++ (bY G yd td th ++ (bK G td tr ++ [])))))))))))) (hdg : decode cc pc = .ok (.getfield 26, 3)) (kk : W p l e R s0 m args below meth c H locs cells slots Q (F0 m (pc + 3) ls (.ref (aa 0) :: rest))) : W p l e R s0 m args below meth c H locs cells slots Q (F0 m pc ls (.ref (oa 0) :: rest)) := r_get kfX11 XX I 0 rfl 3 (Nat.le_of_ble_eq_true rfl) wd_288 rfl hdg kk
set_option maxRecDepth 100000 in
theorem gO_X11_o3_power {p : Program} {l : Launch} {e : Env} {R : Room} {s0 : State} {m : MethodId} {args : Array Value} {below : List Frame} {meth : Method} {c : Code} {H : Heap} {locs : List Loc} {cells slots : Nat} {Q : State → Prop} {cc : ByteArray} {nL pc : Nat} {ls : Array Slot} {rest : List Value} {G : g_G} {A : Nat → Prop} {oa : Nat → Nat} {na : Nat → Nat} {ka : Nat → Nat} {aa : Nat → Nat} {wa : Nat → Nat} {ra : Nat → Nat} {ma : Nat → Nat} {pa : Nat → Nat} {sd : Nat → Nat → Nat} {yd : Nat → Nat} {td : Nat → Nat} {ow : g_St} {nw : g_St} {kp : g_St} {ah : g_St} {aw : g_St} {rd : g_St} {md : g_St} {tp : g_St} {hh : g_Sf} {th : g_St} {tr : g_St} (XX : Cx G A p s0 m meth c cc nL RX11 args) (I : Iv G A s0 H locs (bO G oa na ka aa ra pa sd yd td ow ++ (bV G na nw ++ (bV G ka kp ++ (bA G aa wa ah ++ (bV G wa aw ++ (bT G ra ma rd ++ (bV G ma md ++ (bP G pa tp ++ (bH G sd hh ++ (bY G yd td th ++ (bK G td tr ++ [])))))))))))) (hdg : decode cc pc = .ok (.getfield 211, 3)) (kk : W p l e R s0 m args below meth c H locs cells slots Q (F0 m (pc + 3) ls (.ref (aa 2) :: rest))) : W p l e R s0 m args below meth c H locs cells slots Q (F0 m pc ls (.ref (aa 0) :: rest)) := r_get kfX0 XX I 66 rfl 1 (Nat.le_of_ble_eq_true rfl) wd_112 rfl hdg kk
set_option maxRecDepth 100000 in
theorem aO_power3 {G : g_G} {oa : Nat → Nat} {na : Nat → Nat} {ka : Nat → Nat} {aa : Nat → Nat} {wa : Nat → Nat} {ra : Nat → Nat} {ma : Nat → Nat} {pa : Nat → Nat} {sd : Nat → Nat → Nat} {yd : Nat → Nat} {td : Nat → Nat} {ow : g_St} {nw : g_St} {kp : g_St} {ah : g_St} {aw : g_St} {rd : g_St} {md : g_St} {tp : g_St} {hh : g_Sf} {th : g_St} {tr : g_St} : (bO G oa na ka aa ra pa sd yd td ow ++ (bV G na nw ++ (bV G ka kp ++ (bA G aa wa ah ++ (bV G wa aw ++ (bT G ra ma rd ++ (bV G ma md ++ (bP G pa tp ++ (bH G sd hh ++ (bY G yd td th ++ (bK G td tr ++ [])))))))))))[67]? = some (aa 2, .inl (G.2.1 1, 4, .inr (.inl (gt ah 1)))) := rfl
set_option maxRecDepth 100000 in
theorem sO_power3 {G : g_G} {oa : Nat → Nat} {na : Nat → Nat} {ka : Nat → Nat} {aa : Nat → Nat} {wa : Nat → Nat} {ra : Nat → Nat} {ma : Nat → Nat} {pa : Nat → Nat} {sd : Nat → Nat → Nat} {yd : Nat → Nat} {td : Nat → Nat} {ow : g_St} {nw : g_St} {kp : g_St} {ah : g_St} {aw : g_St} {rd : g_St} {md : g_St} {tp : g_St} {hh : g_Sf} {th : g_St} {tr : g_St} {i : Int32} {x : Int64} : (bO G oa na ka aa ra pa sd yd td ow ++ (bV G na nw ++ (bV G ka kp ++ (bA G aa wa ah ++ (bV G wa aw ++ (bT G ra ma rd ++ (bV G ma md ++ (bP G pa tp ++ (bH G sd hh ++ (bY G yd td th ++ (bK G td tr ++ []))))))))))).set 67 (aa 2, .inl (G.2.1 1, 4, .inr (.inl (vp_updL (gt ah 1) i.toNatClampNeg x)))) = (bO G oa na ka aa ra pa sd yd td ow ++ (bV G na nw ++ (bV G ka kp ++ (bA G aa wa (st ah 1 i x) ++ (bV G wa aw ++ (bT G ra ma rd ++ (bV G ma md ++ (bP G pa tp ++ (bH G sd hh ++ (bY G yd td th ++ (bK G td tr ++ []))))))))))) := rfl
set_option maxHeartbeats 4000000 in
set_option maxRecDepth 100000 in
theorem c_O_value (l : Launch) (G : g_G) (OK : EOk G.2.2) (oa : Nat → Nat) (na : Nat → Nat) (ka : Nat → Nat) (aa : Nat → Nat) (wa : Nat → Nat) (ra : Nat → Nat) (ma : Nat → Nat) (pa : Nat → Nat) (sd : Nat → Nat → Nat) (yd : Nat → Nat) (td : Nat → Nat) (fu : Nat) (owa : g_St) (nwa : g_St) (kpa : g_St) (aha : g_St) (awa : g_St) (rda : g_St) (mda : g_St) (tpa : g_St) (hha : g_Sf) (tha : g_St) (tra : g_St) (x1 : Int32) (x2 : Int32) (x3 : Int32) (r : Int64) (tah : g_St) (taw : g_St) (h : f_O_value fu nwa aha awa x1 x2 x3 = some (r, tah, taw)) : HL l G yX11_value (Cond.code yX11_value cX11_value 4 (some .long) :: gT) { frames := 26, cells := 0, slots := 0, locals := 644 } [.ref (oa 0), .int x1, .int x2, .int x3] (bO G oa na ka aa ra pa sd yd td owa ++ (bV G na nwa ++ (bV G ka kpa ++ (bA G aa wa aha ++ (bV G wa awa ++ (bT G ra ma rda ++ (bV G ma mda ++ (bP G pa tpa ++ (bH G sd hha ++ (bY G yd td tha ++ (bK G td tra ++ []))))))))))) r (bO G oa na ka aa ra pa sd yd td owa ++ (bV G na nwa ++ (bV G ka kpa ++ (bA G aa wa tah ++ (bV G wa taw ++ (bT G ra ma rda ++ (bV G ma mda ++ (bP G pa tpa ++ (bH G sd hha ++ (bY G yd td tha ++ (bK G td tra ++ []))))))))))) := by
  refine HL.mk (lv := [(0, .ref (oa 0)), (1, .int x1), (2, .int x2), (3, .int x3)]) OK (by decide) (Nat.le_of_ble_eq_true rfl) rfl ?_
  intro p e s0 m args below meth c ls XX hr I hl
  have hx := XX.x
  have hb := XX.b
  unfold f_O_value at h
  refine lv_aload_n hx hb dX11_value_0 rfl (lv_at hl 0 rfl) ?_
  refine lv_iload_n hx hb dX11_value_1 rfl (lv_at hl 1 rfl) ?_
  refine wcall_i (rest := []) XX I hl.1 (c_O_isPerson l G OK oa na ka aa wa ra ma pa sd yd td owa nwa kpa aha awa rda mda tpa hha tha tra x1 _ rfl) kV_X11_131 (Rc.mk XX I (q0 := 0) (ci := 11) rfl rfl) rfl rfl (Nat.le_of_ble_eq_true rfl) ⟨rfl, rfl, Nat.le_of_ble_eq_true rfl, Nat.le_of_ble_eq_true rfl⟩ ⟨Nat.zero_le _, Nat.zero_le _⟩ dX11_value_2 (fun H locs hz1 I => ?_)
  refine lv_if_eq (tgt := 26) hx hb dX11_value_5 (by decide) (fun c1 => ?_) (fun c1 => ?_)
  · replace h := if_t h c1
    refine lv_ldc2 (v := (-1000000000000)) hx hb XX.o (XX.t _ wd_658) dX11_value_26 ?_
    obtain ⟨rfl, h9⟩ := some2 h
    obtain ⟨rfl, rfl⟩ := pair2 h9
    exact e_l XX hr I rfl dX11_value_29
  · replace h := if_f h c1
    refine lv_iload_n hx hb dX11_value_8 rfl (lv_at hl 2 rfl) ?_
    refine lv_iconst (v := 0) hx hb dX11_value_9 (by decide) ?_
    refine lv_iconst (v := 3) hx hb dX11_value_10 (by decide) ?_
    refine scall_i (rest := []) XX I hl.1 (c_S_within l G OK x2 (0 : Int32) (3 : Int32) _ rfl) kS_X11_103 rfl rfl (Nat.le_of_ble_eq_true rfl) ⟨rfl, rfl, Nat.le_of_ble_eq_true rfl, Nat.le_of_ble_eq_true rfl⟩ ⟨Nat.zero_le _, Nat.zero_le _⟩ dX11_value_11 (fun H locs hz2 I => ?_)
    refine lv_if_eq (tgt := 26) hx hb dX11_value_14 (by decide) (fun c1 => ?_) (fun c1 => ?_)
    · replace h := if_t h c1
      refine lv_ldc2 (v := (-1000000000000)) hx hb XX.o (XX.t _ wd_658) dX11_value_26 ?_
      obtain ⟨rfl, h9⟩ := some2 h
      obtain ⟨rfl, rfl⟩ := pair2 h9
      exact e_l XX hr I rfl dX11_value_29
    · replace h := if_f h c1
      refine lv_iload_n hx hb dX11_value_17 rfl (lv_at hl 3 rfl) ?_
      refine lv_iconst (v := 0) hx hb dX11_value_18 (by decide) ?_
      refine lv_iconst (v := 1) hx hb dX11_value_19 (by decide) ?_
      refine scall_i (rest := []) XX I hl.1 (c_S_within l G OK x3 (0 : Int32) (1 : Int32) _ rfl) kS_X11_103 rfl rfl (Nat.le_of_ble_eq_true rfl) ⟨rfl, rfl, Nat.le_of_ble_eq_true rfl, Nat.le_of_ble_eq_true rfl⟩ ⟨Nat.zero_le _, Nat.zero_le _⟩ dX11_value_20 (fun H locs hz3 I => ?_)
      refine lv_if_ne (tgt := 30) hx hb dX11_value_23 (by decide) (fun c1 => ?_) (fun c1 => ?_)
      · replace h := if_f h c1
        refine lv_aload_n hx hb dX11_value_30 rfl (lv_at hl 0 rfl) ?_
        refine gO_X11_o0_ahead XX I dX11_value_31 ?_
        refine lv_aload_n hx hb dX11_value_34 rfl (lv_at hl 0 rfl) ?_
        refine gO_X11_o0_now XX I dX11_value_35 ?_
        refine lv_iload_n hx hb dX11_value_38 rfl (lv_at hl 1 rfl) ?_
        obtain ⟨s4, s5, q6, h⟩ := bd2_some h
        have RC := (Rc.mk XX I (q0 := 66) (ci := 0) rfl rfl)
        replace I : Iv G (va_A (bO G oa na ka aa ra pa sd yd td owa ++ (bV G na nwa ++ (bV G ka kpa ++ (bA G aa wa aha ++ (bV G wa awa ++ (bT G ra ma rda ++ (bV G ma mda ++ (bP G pa tpa ++ (bH G sd hha ++ (bY G yd td tha ++ (bK G td tra ++ []))))))))))) s0.heap.size) s0 _ _ (((bA G aa wa aha ++ (bV G wa awa ++ (bV G na nwa ++ [])))) ++ (bO G oa na ka aa ra pa sd yd td owa ++ (bV G ka kpa ++ (bT G ra ma rda ++ (bV G ma mda ++ (bP G pa tpa ++ (bH G sd hha ++ (bY G yd td tha ++ (bK G td tra ++ []))))))))) := I.perm (((((List.Perm.append_left _ ((List.Perm.append_left _ ((List.Perm.append_left _ (List.Perm.refl _)).trans (List.perm_append_comm_assoc _ _ _))).trans (List.perm_append_comm_assoc _ _ _))).trans (List.perm_append_comm_assoc _ _ _)).trans (List.Perm.append_left _ ((List.Perm.append_left _ ((List.Perm.append_left _ ((List.Perm.append_left _ (List.Perm.refl _)).trans (List.perm_append_comm_assoc _ _ _))).trans (List.perm_append_comm_assoc _ _ _))).trans (List.perm_append_comm_assoc _ _ _)))).trans (List.Perm.append_left _ (List.Perm.append_left _ ((List.Perm.append_left _ (List.Perm.refl _)).trans (List.perm_append_comm_assoc _ _ _))))).trans pasc3)
        refine call_v (X := []) (wc := ((bA G aa wa aha ++ (bV G wa awa ++ (bV G na nwa ++ []))))) (Y := (bO G oa na ka aa ra pa sd yd td owa ++ (bV G ka kpa ++ (bT G ra ma rda ++ (bV G ma mda ++ (bP G pa tpa ++ (bH G sd hha ++ (bY G yd td tha ++ (bK G td tra ++ []))))))))) (rest := []) XX I hl.1 (c_AU_look l G OK aa wa na fu aha awa nwa x1 s4 s5 q6) kV_X11_203 RC rfl rfl (Nat.le_of_ble_eq_true rfl) ⟨rfl, rfl, Nat.le_of_ble_eq_true rfl, Nat.le_of_ble_eq_true rfl⟩ ⟨Nat.zero_le _, Nat.zero_le _⟩ dX11_value_39 (fun H locs I => ?_)
        replace I : Iv G (va_A (bO G oa na ka aa ra pa sd yd td owa ++ (bV G na nwa ++ (bV G ka kpa ++ (bA G aa wa aha ++ (bV G wa awa ++ (bT G ra ma rda ++ (bV G ma mda ++ (bP G pa tpa ++ (bH G sd hha ++ (bY G yd td tha ++ (bK G td tra ++ []))))))))))) s0.heap.size) s0 H locs (bO G oa na ka aa ra pa sd yd td owa ++ (bV G na nwa ++ (bV G ka kpa ++ (bA G aa wa s4 ++ (bV G wa s5 ++ (bT G ra ma rda ++ (bV G ma mda ++ (bP G pa tpa ++ (bH G sd hha ++ (bY G yd td tha ++ (bK G td tra ++ []))))))))))) := Iv.perm (w := ((bA G aa wa s4 ++ (bV G wa s5 ++ (bV G na nwa ++ [])))) ++ (bO G oa na ka aa ra pa sd yd td owa ++ (bV G ka kpa ++ (bT G ra ma rda ++ (bV G ma mda ++ (bP G pa tpa ++ (bH G sd hha ++ (bY G yd td tha ++ (bK G td tra ++ []))))))))) I ((((((List.Perm.append_left _ ((List.Perm.append_left _ ((List.Perm.append_left _ (List.Perm.refl _)).trans (List.perm_append_comm_assoc _ _ _))).trans (List.perm_append_comm_assoc _ _ _))).trans (List.perm_append_comm_assoc _ _ _)).trans (List.Perm.append_left _ ((List.Perm.append_left _ ((List.Perm.append_left _ ((List.Perm.append_left _ (List.Perm.refl _)).trans (List.perm_append_comm_assoc _ _ _))).trans (List.perm_append_comm_assoc _ _ _))).trans (List.perm_append_comm_assoc _ _ _)))).trans (List.Perm.append_left _ (List.Perm.append_left _ ((List.Perm.append_left _ (List.Perm.refl _)).trans (List.perm_append_comm_assoc _ _ _))))).trans pasc3).symm)
        refine lv_aload_n hx hb dX11_value_42 rfl (lv_at hl 0 rfl) ?_
        refine gO_X11_o0_ahead XX I dX11_value_43 ?_
        refine lv_iload_n hx hb dX11_value_46 rfl (lv_at hl 2 rfl) ?_
        obtain ⟨r8, q9, h⟩ := bd1_some h
        have RC := (Rc.mk XX I (q0 := 66) (ci := 0) rfl rfl)
        replace I : Iv G (va_A (bO G oa na ka aa ra pa sd yd td owa ++ (bV G na nwa ++ (bV G ka kpa ++ (bA G aa wa aha ++ (bV G wa awa ++ (bT G ra ma rda ++ (bV G ma mda ++ (bP G pa tpa ++ (bH G sd hha ++ (bY G yd td tha ++ (bK G td tra ++ []))))))))))) s0.heap.size) s0 _ _ (((bA G aa wa s4 ++ (bV G wa s5 ++ []))) ++ (bO G oa na ka aa ra pa sd yd td owa ++ (bV G na nwa ++ (bV G ka kpa ++ (bT G ra ma rda ++ (bV G ma mda ++ (bP G pa tpa ++ (bH G sd hha ++ (bY G yd td tha ++ (bK G td tra ++ [])))))))))) := I.perm ((((List.Perm.append_left _ ((List.Perm.append_left _ ((List.Perm.append_left _ (List.Perm.refl _)).trans (List.perm_append_comm_assoc _ _ _))).trans (List.perm_append_comm_assoc _ _ _))).trans (List.perm_append_comm_assoc _ _ _)).trans (List.Perm.append_left _ ((List.Perm.append_left _ ((List.Perm.append_left _ ((List.Perm.append_left _ (List.Perm.refl _)).trans (List.perm_append_comm_assoc _ _ _))).trans (List.perm_append_comm_assoc _ _ _))).trans (List.perm_append_comm_assoc _ _ _)))).trans pasc2)
        refine call_l (X := []) (wc := ((bA G aa wa s4 ++ (bV G wa s5 ++ [])))) (Y := (bO G oa na ka aa ra pa sd yd td owa ++ (bV G na nwa ++ (bV G ka kpa ++ (bT G ra ma rda ++ (bV G ma mda ++ (bP G pa tpa ++ (bH G sd hha ++ (bY G yd td tha ++ (bK G td tra ++ [])))))))))) (rest := []) XX I hl.1 (c_A_sum l G OK aa wa fu s4 s5 x2 r8 q9) kV_X11_207 RC rfl rfl (Nat.le_of_ble_eq_true rfl) ⟨rfl, rfl, Nat.le_of_ble_eq_true rfl, Nat.le_of_ble_eq_true rfl⟩ ⟨Nat.zero_le _, Nat.zero_le _⟩ dX11_value_47 (fun H locs I => ?_)
        replace I : Iv G (va_A (bO G oa na ka aa ra pa sd yd td owa ++ (bV G na nwa ++ (bV G ka kpa ++ (bA G aa wa aha ++ (bV G wa awa ++ (bT G ra ma rda ++ (bV G ma mda ++ (bP G pa tpa ++ (bH G sd hha ++ (bY G yd td tha ++ (bK G td tra ++ []))))))))))) s0.heap.size) s0 H locs (bO G oa na ka aa ra pa sd yd td owa ++ (bV G na nwa ++ (bV G ka kpa ++ (bA G aa wa s4 ++ (bV G wa s5 ++ (bT G ra ma rda ++ (bV G ma mda ++ (bP G pa tpa ++ (bH G sd hha ++ (bY G yd td tha ++ (bK G td tra ++ []))))))))))) := Iv.perm (w := ((bA G aa wa s4 ++ (bV G wa s5 ++ []))) ++ (bO G oa na ka aa ra pa sd yd td owa ++ (bV G na nwa ++ (bV G ka kpa ++ (bT G ra ma rda ++ (bV G ma mda ++ (bP G pa tpa ++ (bH G sd hha ++ (bY G yd td tha ++ (bK G td tra ++ [])))))))))) I (((((List.Perm.append_left _ ((List.Perm.append_left _ ((List.Perm.append_left _ (List.Perm.refl _)).trans (List.perm_append_comm_assoc _ _ _))).trans (List.perm_append_comm_assoc _ _ _))).trans (List.perm_append_comm_assoc _ _ _)).trans (List.Perm.append_left _ ((List.Perm.append_left _ ((List.Perm.append_left _ ((List.Perm.append_left _ (List.Perm.refl _)).trans (List.perm_append_comm_assoc _ _ _))).trans (List.perm_append_comm_assoc _ _ _))).trans (List.perm_append_comm_assoc _ _ _)))).trans pasc2).symm)
        refine lv_aload_n hx hb dX11_value_50 rfl (lv_at hl 0 rfl) ?_
        refine gO_X11_o0_ahead XX I dX11_value_51 ?_
        refine gO_X11_o3_power XX I dX11_value_54 ?_
        refine lv_iload_n hx hb dX11_value_57 rfl (lv_at hl 2 rfl) ?_
        obtain ⟨g11, h⟩ := gd_some h
        refine r_lald XX I 67 (aO_power3) g11 dX11_value_58 ?_
        refine lv_iload_n hx hb dX11_value_59 rfl (lv_at hl 3 rfl) ?_
        obtain ⟨r12, q13, h⟩ := bd1_some h
        refine scall_l (rest := []) XX I hl.1 (c_S_partOf l G OK fu r8 (gt s4 1 x2.toNatClampNeg) x3 r12 q13) kS_X11_215 rfl rfl (Nat.le_of_ble_eq_true rfl) ⟨rfl, rfl, Nat.le_of_ble_eq_true rfl, Nat.le_of_ble_eq_true rfl⟩ ⟨Nat.zero_le _, Nat.zero_le _⟩ dX11_value_60 (fun H locs I => ?_)
        obtain ⟨rfl, h9⟩ := some2 h
        obtain ⟨rfl, rfl⟩ := pair2 h9
        exact e_l XX hr I rfl dX11_value_63
      · replace h := if_t h c1
        refine lv_ldc2 (v := (-1000000000000)) hx hb XX.o (XX.t _ wd_658) dX11_value_26 ?_
        obtain ⟨rfl, h9⟩ := some2 h
        obtain ⟨rfl, rfl⟩ := pair2 h9
        exact e_l XX hr I rfl dX11_value_29
set_option maxRecDepth 100000 in
theorem kV_X11_219 : KV RX11 219 RX0 yX0_bestSum cX0_bestSum 2 (some .long) 1 := KV.mk wd_699 wd_700 wd_701 wd_3 wd_702 (by decide +kernel)
set_option maxHeartbeats 4000000 in
set_option maxRecDepth 100000 in
theorem c_O_best (l : Launch) (G : g_G) (OK : EOk G.2.2) (oa : Nat → Nat) (na : Nat → Nat) (ka : Nat → Nat) (aa : Nat → Nat) (wa : Nat → Nat) (ra : Nat → Nat) (ma : Nat → Nat) (pa : Nat → Nat) (sd : Nat → Nat → Nat) (yd : Nat → Nat) (td : Nat → Nat) (fu : Nat) (owa : g_St) (nwa : g_St) (kpa : g_St) (aha : g_St) (awa : g_St) (rda : g_St) (mda : g_St) (tpa : g_St) (hha : g_Sf) (tha : g_St) (tra : g_St) (x1 : Int32) (x2 : Int32) (x3 : Int32) (r : Int64) (tah : g_St) (taw : g_St) (h : f_O_best fu nwa aha awa x1 x2 x3 = some (r, tah, taw)) : HL l G yX11_best (Cond.code yX11_best cX11_best 4 (some .long) :: gT) { frames := 26, cells := 0, slots := 0, locals := 677 } [.ref (oa 0), .int x1, .int x2, .int x3] (bO G oa na ka aa ra pa sd yd td owa ++ (bV G na nwa ++ (bV G ka kpa ++ (bA G aa wa aha ++ (bV G wa awa ++ (bT G ra ma rda ++ (bV G ma mda ++ (bP G pa tpa ++ (bH G sd hha ++ (bY G yd td tha ++ (bK G td tra ++ []))))))))))) r (bO G oa na ka aa ra pa sd yd td owa ++ (bV G na nwa ++ (bV G ka kpa ++ (bA G aa wa tah ++ (bV G wa taw ++ (bT G ra ma rda ++ (bV G ma mda ++ (bP G pa tpa ++ (bH G sd hha ++ (bY G yd td tha ++ (bK G td tra ++ []))))))))))) := by
  refine HL.mk (lv := [(0, .ref (oa 0)), (1, .int x1), (2, .int x2), (3, .int x3)]) OK (by decide) (Nat.le_of_ble_eq_true rfl) rfl ?_
  intro p e s0 m args below meth c ls XX hr I hl
  have hx := XX.x
  have hb := XX.b
  unfold f_O_best at h
  refine lv_aload_n hx hb dX11_best_0 rfl (lv_at hl 0 rfl) ?_
  refine lv_iload_n hx hb dX11_best_1 rfl (lv_at hl 1 rfl) ?_
  refine wcall_i (rest := []) XX I hl.1 (c_O_isPerson l G OK oa na ka aa wa ra ma pa sd yd td owa nwa kpa aha awa rda mda tpa hha tha tra x1 _ rfl) kV_X11_131 (Rc.mk XX I (q0 := 0) (ci := 11) rfl rfl) rfl rfl (Nat.le_of_ble_eq_true rfl) ⟨rfl, rfl, Nat.le_of_ble_eq_true rfl, Nat.le_of_ble_eq_true rfl⟩ ⟨Nat.zero_le _, Nat.zero_le _⟩ dX11_best_2 (fun H locs hz1 I => ?_)
  refine lv_if_eq (tgt := 26) hx hb dX11_best_5 (by decide) (fun c1 => ?_) (fun c1 => ?_)
  · replace h := if_t h c1
    refine lv_ldc2 (v := (-1000000000000)) hx hb XX.o (XX.t _ wd_658) dX11_best_26 ?_
    obtain ⟨rfl, h9⟩ := some2 h
    obtain ⟨rfl, rfl⟩ := pair2 h9
    exact e_l XX hr I rfl dX11_best_29
  · replace h := if_f h c1
    refine lv_iload_n hx hb dX11_best_8 rfl (lv_at hl 2 rfl) ?_
    refine lv_iconst (v := 0) hx hb dX11_best_9 (by decide) ?_
    refine lv_iconst (v := 3) hx hb dX11_best_10 (by decide) ?_
    refine scall_i (rest := []) XX I hl.1 (c_S_within l G OK x2 (0 : Int32) (3 : Int32) _ rfl) kS_X11_103 rfl rfl (Nat.le_of_ble_eq_true rfl) ⟨rfl, rfl, Nat.le_of_ble_eq_true rfl, Nat.le_of_ble_eq_true rfl⟩ ⟨Nat.zero_le _, Nat.zero_le _⟩ dX11_best_11 (fun H locs hz2 I => ?_)
    refine lv_if_eq (tgt := 26) hx hb dX11_best_14 (by decide) (fun c1 => ?_) (fun c1 => ?_)
    · replace h := if_t h c1
      refine lv_ldc2 (v := (-1000000000000)) hx hb XX.o (XX.t _ wd_658) dX11_best_26 ?_
      obtain ⟨rfl, h9⟩ := some2 h
      obtain ⟨rfl, rfl⟩ := pair2 h9
      exact e_l XX hr I rfl dX11_best_29
    · replace h := if_f h c1
      refine lv_iload_n hx hb dX11_best_17 rfl (lv_at hl 3 rfl) ?_
      refine lv_iconst (v := 0) hx hb dX11_best_18 (by decide) ?_
      refine lv_iconst (v := 1) hx hb dX11_best_19 (by decide) ?_
      refine scall_i (rest := []) XX I hl.1 (c_S_within l G OK x3 (0 : Int32) (1 : Int32) _ rfl) kS_X11_103 rfl rfl (Nat.le_of_ble_eq_true rfl) ⟨rfl, rfl, Nat.le_of_ble_eq_true rfl, Nat.le_of_ble_eq_true rfl⟩ ⟨Nat.zero_le _, Nat.zero_le _⟩ dX11_best_20 (fun H locs hz3 I => ?_)
      refine lv_if_ne (tgt := 30) hx hb dX11_best_23 (by decide) (fun c1 => ?_) (fun c1 => ?_)
      · replace h := if_f h c1
        refine lv_aload_n hx hb dX11_best_30 rfl (lv_at hl 0 rfl) ?_
        refine gO_X11_o0_ahead XX I dX11_best_31 ?_
        refine lv_aload_n hx hb dX11_best_34 rfl (lv_at hl 0 rfl) ?_
        refine gO_X11_o0_now XX I dX11_best_35 ?_
        refine lv_iload_n hx hb dX11_best_38 rfl (lv_at hl 1 rfl) ?_
        obtain ⟨s4, s5, q6, h⟩ := bd2_some h
        have RC := (Rc.mk XX I (q0 := 66) (ci := 0) rfl rfl)
        replace I : Iv G (va_A (bO G oa na ka aa ra pa sd yd td owa ++ (bV G na nwa ++ (bV G ka kpa ++ (bA G aa wa aha ++ (bV G wa awa ++ (bT G ra ma rda ++ (bV G ma mda ++ (bP G pa tpa ++ (bH G sd hha ++ (bY G yd td tha ++ (bK G td tra ++ []))))))))))) s0.heap.size) s0 _ _ (((bA G aa wa aha ++ (bV G wa awa ++ (bV G na nwa ++ [])))) ++ (bO G oa na ka aa ra pa sd yd td owa ++ (bV G ka kpa ++ (bT G ra ma rda ++ (bV G ma mda ++ (bP G pa tpa ++ (bH G sd hha ++ (bY G yd td tha ++ (bK G td tra ++ []))))))))) := I.perm (((((List.Perm.append_left _ ((List.Perm.append_left _ ((List.Perm.append_left _ (List.Perm.refl _)).trans (List.perm_append_comm_assoc _ _ _))).trans (List.perm_append_comm_assoc _ _ _))).trans (List.perm_append_comm_assoc _ _ _)).trans (List.Perm.append_left _ ((List.Perm.append_left _ ((List.Perm.append_left _ ((List.Perm.append_left _ (List.Perm.refl _)).trans (List.perm_append_comm_assoc _ _ _))).trans (List.perm_append_comm_assoc _ _ _))).trans (List.perm_append_comm_assoc _ _ _)))).trans (List.Perm.append_left _ (List.Perm.append_left _ ((List.Perm.append_left _ (List.Perm.refl _)).trans (List.perm_append_comm_assoc _ _ _))))).trans pasc3)
        refine call_v (X := []) (wc := ((bA G aa wa aha ++ (bV G wa awa ++ (bV G na nwa ++ []))))) (Y := (bO G oa na ka aa ra pa sd yd td owa ++ (bV G ka kpa ++ (bT G ra ma rda ++ (bV G ma mda ++ (bP G pa tpa ++ (bH G sd hha ++ (bY G yd td tha ++ (bK G td tra ++ []))))))))) (rest := []) XX I hl.1 (c_AU_look l G OK aa wa na fu aha awa nwa x1 s4 s5 q6) kV_X11_203 RC rfl rfl (Nat.le_of_ble_eq_true rfl) ⟨rfl, rfl, Nat.le_of_ble_eq_true rfl, Nat.le_of_ble_eq_true rfl⟩ ⟨Nat.zero_le _, Nat.zero_le _⟩ dX11_best_39 (fun H locs I => ?_)
        replace I : Iv G (va_A (bO G oa na ka aa ra pa sd yd td owa ++ (bV G na nwa ++ (bV G ka kpa ++ (bA G aa wa aha ++ (bV G wa awa ++ (bT G ra ma rda ++ (bV G ma mda ++ (bP G pa tpa ++ (bH G sd hha ++ (bY G yd td tha ++ (bK G td tra ++ []))))))))))) s0.heap.size) s0 H locs (bO G oa na ka aa ra pa sd yd td owa ++ (bV G na nwa ++ (bV G ka kpa ++ (bA G aa wa s4 ++ (bV G wa s5 ++ (bT G ra ma rda ++ (bV G ma mda ++ (bP G pa tpa ++ (bH G sd hha ++ (bY G yd td tha ++ (bK G td tra ++ []))))))))))) := Iv.perm (w := ((bA G aa wa s4 ++ (bV G wa s5 ++ (bV G na nwa ++ [])))) ++ (bO G oa na ka aa ra pa sd yd td owa ++ (bV G ka kpa ++ (bT G ra ma rda ++ (bV G ma mda ++ (bP G pa tpa ++ (bH G sd hha ++ (bY G yd td tha ++ (bK G td tra ++ []))))))))) I ((((((List.Perm.append_left _ ((List.Perm.append_left _ ((List.Perm.append_left _ (List.Perm.refl _)).trans (List.perm_append_comm_assoc _ _ _))).trans (List.perm_append_comm_assoc _ _ _))).trans (List.perm_append_comm_assoc _ _ _)).trans (List.Perm.append_left _ ((List.Perm.append_left _ ((List.Perm.append_left _ ((List.Perm.append_left _ (List.Perm.refl _)).trans (List.perm_append_comm_assoc _ _ _))).trans (List.perm_append_comm_assoc _ _ _))).trans (List.perm_append_comm_assoc _ _ _)))).trans (List.Perm.append_left _ (List.Perm.append_left _ ((List.Perm.append_left _ (List.Perm.refl _)).trans (List.perm_append_comm_assoc _ _ _))))).trans pasc3).symm)
        refine lv_aload_n hx hb dX11_best_42 rfl (lv_at hl 0 rfl) ?_
        refine gO_X11_o0_ahead XX I dX11_best_43 ?_
        refine lv_iload_n hx hb dX11_best_46 rfl (lv_at hl 2 rfl) ?_
        obtain ⟨r8, q9, h⟩ := bd1_some h
        have RC := (Rc.mk XX I (q0 := 66) (ci := 0) rfl rfl)
        replace I : Iv G (va_A (bO G oa na ka aa ra pa sd yd td owa ++ (bV G na nwa ++ (bV G ka kpa ++ (bA G aa wa aha ++ (bV G wa awa ++ (bT G ra ma rda ++ (bV G ma mda ++ (bP G pa tpa ++ (bH G sd hha ++ (bY G yd td tha ++ (bK G td tra ++ []))))))))))) s0.heap.size) s0 _ _ (((bA G aa wa s4 ++ (bV G wa s5 ++ []))) ++ (bO G oa na ka aa ra pa sd yd td owa ++ (bV G na nwa ++ (bV G ka kpa ++ (bT G ra ma rda ++ (bV G ma mda ++ (bP G pa tpa ++ (bH G sd hha ++ (bY G yd td tha ++ (bK G td tra ++ [])))))))))) := I.perm ((((List.Perm.append_left _ ((List.Perm.append_left _ ((List.Perm.append_left _ (List.Perm.refl _)).trans (List.perm_append_comm_assoc _ _ _))).trans (List.perm_append_comm_assoc _ _ _))).trans (List.perm_append_comm_assoc _ _ _)).trans (List.Perm.append_left _ ((List.Perm.append_left _ ((List.Perm.append_left _ ((List.Perm.append_left _ (List.Perm.refl _)).trans (List.perm_append_comm_assoc _ _ _))).trans (List.perm_append_comm_assoc _ _ _))).trans (List.perm_append_comm_assoc _ _ _)))).trans pasc2)
        refine call_l (X := []) (wc := ((bA G aa wa s4 ++ (bV G wa s5 ++ [])))) (Y := (bO G oa na ka aa ra pa sd yd td owa ++ (bV G na nwa ++ (bV G ka kpa ++ (bT G ra ma rda ++ (bV G ma mda ++ (bP G pa tpa ++ (bH G sd hha ++ (bY G yd td tha ++ (bK G td tra ++ [])))))))))) (rest := []) XX I hl.1 (c_A_bestSum l G OK aa wa fu s4 s5 x2 r8 q9) kV_X11_219 RC rfl rfl (Nat.le_of_ble_eq_true rfl) ⟨rfl, rfl, Nat.le_of_ble_eq_true rfl, Nat.le_of_ble_eq_true rfl⟩ ⟨Nat.zero_le _, Nat.zero_le _⟩ dX11_best_47 (fun H locs I => ?_)
        replace I : Iv G (va_A (bO G oa na ka aa ra pa sd yd td owa ++ (bV G na nwa ++ (bV G ka kpa ++ (bA G aa wa aha ++ (bV G wa awa ++ (bT G ra ma rda ++ (bV G ma mda ++ (bP G pa tpa ++ (bH G sd hha ++ (bY G yd td tha ++ (bK G td tra ++ []))))))))))) s0.heap.size) s0 H locs (bO G oa na ka aa ra pa sd yd td owa ++ (bV G na nwa ++ (bV G ka kpa ++ (bA G aa wa s4 ++ (bV G wa s5 ++ (bT G ra ma rda ++ (bV G ma mda ++ (bP G pa tpa ++ (bH G sd hha ++ (bY G yd td tha ++ (bK G td tra ++ []))))))))))) := Iv.perm (w := ((bA G aa wa s4 ++ (bV G wa s5 ++ []))) ++ (bO G oa na ka aa ra pa sd yd td owa ++ (bV G na nwa ++ (bV G ka kpa ++ (bT G ra ma rda ++ (bV G ma mda ++ (bP G pa tpa ++ (bH G sd hha ++ (bY G yd td tha ++ (bK G td tra ++ [])))))))))) I (((((List.Perm.append_left _ ((List.Perm.append_left _ ((List.Perm.append_left _ (List.Perm.refl _)).trans (List.perm_append_comm_assoc _ _ _))).trans (List.perm_append_comm_assoc _ _ _))).trans (List.perm_append_comm_assoc _ _ _)).trans (List.Perm.append_left _ ((List.Perm.append_left _ ((List.Perm.append_left _ ((List.Perm.append_left _ (List.Perm.refl _)).trans (List.perm_append_comm_assoc _ _ _))).trans (List.perm_append_comm_assoc _ _ _))).trans (List.perm_append_comm_assoc _ _ _)))).trans pasc2).symm)
        refine lv_aload_n hx hb dX11_best_50 rfl (lv_at hl 0 rfl) ?_
        refine gO_X11_o0_ahead XX I dX11_best_51 ?_
        refine gO_X11_o3_power XX I dX11_best_54 ?_
        refine lv_iload_n hx hb dX11_best_57 rfl (lv_at hl 2 rfl) ?_
        obtain ⟨g11, h⟩ := gd_some h
        refine r_lald XX I 67 (aO_power3) g11 dX11_best_58 ?_
        refine lv_iload_n hx hb dX11_best_59 rfl (lv_at hl 3 rfl) ?_
        obtain ⟨r12, q13, h⟩ := bd1_some h
        refine scall_l (rest := []) XX I hl.1 (c_S_partOf l G OK fu r8 (gt s4 1 x2.toNatClampNeg) x3 r12 q13) kS_X11_215 rfl rfl (Nat.le_of_ble_eq_true rfl) ⟨rfl, rfl, Nat.le_of_ble_eq_true rfl, Nat.le_of_ble_eq_true rfl⟩ ⟨Nat.zero_le _, Nat.zero_le _⟩ dX11_best_60 (fun H locs I => ?_)
        obtain ⟨rfl, h9⟩ := some2 h
        obtain ⟨rfl, rfl⟩ := pair2 h9
        exact e_l XX hr I rfl dX11_best_63
      · replace h := if_t h c1
        refine lv_ldc2 (v := (-1000000000000)) hx hb XX.o (XX.t _ wd_658) dX11_best_26 ?_
        obtain ⟨rfl, h9⟩ := some2 h
        obtain ⟨rfl, rfl⟩ := pair2 h9
        exact e_l XX hr I rfl dX11_best_29
set_option maxRecDepth 100000 in
theorem kV_X11_222 : KV RX11 222 RX0 yX0_isNoBetter cX0_isNoBetter 8 (some .boolean) 2 := KV.mk wd_729 wd_730 wd_731 wd_3 wd_732 (by decide +kernel)
set_option maxHeartbeats 4000000 in
set_option maxRecDepth 100000 in
theorem c_O_should (l : Launch) (G : g_G) (OK : EOk G.2.2) (oa : Nat → Nat) (na : Nat → Nat) (ka : Nat → Nat) (aa : Nat → Nat) (wa : Nat → Nat) (ra : Nat → Nat) (ma : Nat → Nat) (pa : Nat → Nat) (sd : Nat → Nat → Nat) (yd : Nat → Nat) (td : Nat → Nat) (fu : Nat) (owa : g_St) (nwa : g_St) (kpa : g_St) (aha : g_St) (awa : g_St) (rda : g_St) (mda : g_St) (tpa : g_St) (hha : g_Sf) (tha : g_St) (tra : g_St) (x1 : Int32) (x2 : Int32) (x3 : Int32) (r : Int32) (tah : g_St) (taw : g_St) (h : f_O_should fu nwa aha awa x1 x2 x3 = some (r, tah, taw)) : HI l G yX11_should (Cond.code yX11_should cX11_should 4 (some .int) :: gT) { frames := 28, cells := 0, slots := 0, locals := 732 } .int [.ref (oa 0), .int x1, .int x2, .int x3] (bO G oa na ka aa ra pa sd yd td owa ++ (bV G na nwa ++ (bV G ka kpa ++ (bA G aa wa aha ++ (bV G wa awa ++ (bT G ra ma rda ++ (bV G ma mda ++ (bP G pa tpa ++ (bH G sd hha ++ (bY G yd td tha ++ (bK G td tra ++ []))))))))))) r (bO G oa na ka aa ra pa sd yd td owa ++ (bV G na nwa ++ (bV G ka kpa ++ (bA G aa wa tah ++ (bV G wa taw ++ (bT G ra ma rda ++ (bV G ma mda ++ (bP G pa tpa ++ (bH G sd hha ++ (bY G yd td tha ++ (bK G td tra ++ []))))))))))) := by
  refine HI.mk (lv := [(0, .ref (oa 0)), (1, .int x1), (2, .int x2), (3, .int x3)]) OK (by decide) (Nat.le_of_ble_eq_true rfl) rfl ?_
  intro p e s0 m args below meth c ls XX hr I hl
  have hx := XX.x
  have hb := XX.b
  unfold f_O_should at h
  refine lv_aload_n hx hb dX11_should_0 rfl (lv_at hl 0 rfl) ?_
  refine lv_iload_n hx hb dX11_should_1 rfl (lv_at hl 1 rfl) ?_
  refine wcall_i (rest := []) XX I hl.1 (c_O_isPerson l G OK oa na ka aa wa ra ma pa sd yd td owa nwa kpa aha awa rda mda tpa hha tha tra x1 _ rfl) kV_X11_131 (Rc.mk XX I (q0 := 0) (ci := 11) rfl rfl) rfl rfl (Nat.le_of_ble_eq_true rfl) ⟨rfl, rfl, Nat.le_of_ble_eq_true rfl, Nat.le_of_ble_eq_true rfl⟩ ⟨Nat.zero_le _, Nat.zero_le _⟩ dX11_should_2 (fun H locs hz1 I => ?_)
  refine lv_if_eq (tgt := 25) hx hb dX11_should_5 (by decide) (fun c1 => ?_) (fun c1 => ?_)
  · replace h := if_t h c1
    refine lv_iconst (v := (-1)) hx hb dX11_should_25 (by decide) ?_
    obtain ⟨rfl, h9⟩ := some2 h
    obtain ⟨rfl, rfl⟩ := pair2 h9
    exact e_i rfl XX hr I rfl dX11_should_26
  · replace h := if_f h c1
    refine lv_aload_n hx hb dX11_should_8 rfl (lv_at hl 0 rfl) ?_
    refine lv_iload_n hx hb dX11_should_9 rfl (lv_at hl 2 rfl) ?_
    refine wcall_i (rest := []) XX I hl.1 (c_O_isProposal l G OK oa na ka aa wa ra ma pa sd yd td owa nwa kpa aha awa rda mda tpa hha tha tra x2 _ rfl) kV_X11_158 (Rc.mk XX I (q0 := 0) (ci := 11) rfl rfl) rfl rfl (Nat.le_of_ble_eq_true rfl) ⟨rfl, rfl, Nat.le_of_ble_eq_true rfl, Nat.le_of_ble_eq_true rfl⟩ ⟨Nat.zero_le _, Nat.zero_le _⟩ dX11_should_10 (fun H locs hz2 I => ?_)
    refine lv_if_eq (tgt := 25) hx hb dX11_should_13 (by decide) (fun c1 => ?_) (fun c1 => ?_)
    · replace h := if_t h c1
      refine lv_iconst (v := (-1)) hx hb dX11_should_25 (by decide) ?_
      obtain ⟨rfl, h9⟩ := some2 h
      obtain ⟨rfl, rfl⟩ := pair2 h9
      exact e_i rfl XX hr I rfl dX11_should_26
    · replace h := if_f h c1
      refine lv_iload_n hx hb dX11_should_16 rfl (lv_at hl 3 rfl) ?_
      refine lv_iconst (v := 0) hx hb dX11_should_17 (by decide) ?_
      refine lv_iconst (v := 2) hx hb dX11_should_18 (by decide) ?_
      refine scall_i (rest := []) XX I hl.1 (c_S_within l G OK x3 (0 : Int32) (2 : Int32) _ rfl) kS_X11_103 rfl rfl (Nat.le_of_ble_eq_true rfl) ⟨rfl, rfl, Nat.le_of_ble_eq_true rfl, Nat.le_of_ble_eq_true rfl⟩ ⟨Nat.zero_le _, Nat.zero_le _⟩ dX11_should_19 (fun H locs hz3 I => ?_)
      refine lv_if_ne (tgt := 27) hx hb dX11_should_22 (by decide) (fun c1 => ?_) (fun c1 => ?_)
      · replace h := if_f h c1
        refine lv_aload_n hx hb dX11_should_27 rfl (lv_at hl 0 rfl) ?_
        refine gO_X11_o0_now XX I dX11_should_28 ?_
        refine gO_X11_o1_noes XX I dX11_should_31 ?_
        refine lv_iload_n hx hb dX11_should_34 rfl (lv_at hl 1 rfl) ?_
        obtain ⟨g4, h⟩ := gd_some h
        refine r_iald XX I 36 (aO_noes1) g4 dX11_should_35 ?_
        refine lv_if_ne (tgt := 42) hx hb dX11_should_36 (by decide) (fun c1 => ?_) (fun c1 => ?_)
        · replace h := if_f h c1
          refine lv_aload_n hx hb dX11_should_42 rfl (lv_at hl 0 rfl) ?_
          refine gO_X11_o0_ahead XX I dX11_should_43 ?_
          refine lv_aload_n hx hb dX11_should_46 rfl (lv_at hl 0 rfl) ?_
          refine gO_X11_o0_now XX I dX11_should_47 ?_
          refine lv_iload_n hx hb dX11_should_50 rfl (lv_at hl 1 rfl) ?_
          obtain ⟨s5, s6, q7, h⟩ := bd2_some h
          have RC := (Rc.mk XX I (q0 := 66) (ci := 0) rfl rfl)
          replace I : Iv G (va_A (bO G oa na ka aa ra pa sd yd td owa ++ (bV G na nwa ++ (bV G ka kpa ++ (bA G aa wa aha ++ (bV G wa awa ++ (bT G ra ma rda ++ (bV G ma mda ++ (bP G pa tpa ++ (bH G sd hha ++ (bY G yd td tha ++ (bK G td tra ++ []))))))))))) s0.heap.size) s0 _ _ (((bA G aa wa aha ++ (bV G wa awa ++ (bV G na nwa ++ [])))) ++ (bO G oa na ka aa ra pa sd yd td owa ++ (bV G ka kpa ++ (bT G ra ma rda ++ (bV G ma mda ++ (bP G pa tpa ++ (bH G sd hha ++ (bY G yd td tha ++ (bK G td tra ++ []))))))))) := I.perm (((((List.Perm.append_left _ ((List.Perm.append_left _ ((List.Perm.append_left _ (List.Perm.refl _)).trans (List.perm_append_comm_assoc _ _ _))).trans (List.perm_append_comm_assoc _ _ _))).trans (List.perm_append_comm_assoc _ _ _)).trans (List.Perm.append_left _ ((List.Perm.append_left _ ((List.Perm.append_left _ ((List.Perm.append_left _ (List.Perm.refl _)).trans (List.perm_append_comm_assoc _ _ _))).trans (List.perm_append_comm_assoc _ _ _))).trans (List.perm_append_comm_assoc _ _ _)))).trans (List.Perm.append_left _ (List.Perm.append_left _ ((List.Perm.append_left _ (List.Perm.refl _)).trans (List.perm_append_comm_assoc _ _ _))))).trans pasc3)
          refine call_v (X := []) (wc := ((bA G aa wa aha ++ (bV G wa awa ++ (bV G na nwa ++ []))))) (Y := (bO G oa na ka aa ra pa sd yd td owa ++ (bV G ka kpa ++ (bT G ra ma rda ++ (bV G ma mda ++ (bP G pa tpa ++ (bH G sd hha ++ (bY G yd td tha ++ (bK G td tra ++ []))))))))) (rest := []) XX I hl.1 (c_AU_look l G OK aa wa na fu aha awa nwa x1 s5 s6 q7) kV_X11_203 RC rfl rfl (Nat.le_of_ble_eq_true rfl) ⟨rfl, rfl, Nat.le_of_ble_eq_true rfl, Nat.le_of_ble_eq_true rfl⟩ ⟨Nat.zero_le _, Nat.zero_le _⟩ dX11_should_51 (fun H locs I => ?_)
          replace I : Iv G (va_A (bO G oa na ka aa ra pa sd yd td owa ++ (bV G na nwa ++ (bV G ka kpa ++ (bA G aa wa aha ++ (bV G wa awa ++ (bT G ra ma rda ++ (bV G ma mda ++ (bP G pa tpa ++ (bH G sd hha ++ (bY G yd td tha ++ (bK G td tra ++ []))))))))))) s0.heap.size) s0 H locs (bO G oa na ka aa ra pa sd yd td owa ++ (bV G na nwa ++ (bV G ka kpa ++ (bA G aa wa s5 ++ (bV G wa s6 ++ (bT G ra ma rda ++ (bV G ma mda ++ (bP G pa tpa ++ (bH G sd hha ++ (bY G yd td tha ++ (bK G td tra ++ []))))))))))) := Iv.perm (w := ((bA G aa wa s5 ++ (bV G wa s6 ++ (bV G na nwa ++ [])))) ++ (bO G oa na ka aa ra pa sd yd td owa ++ (bV G ka kpa ++ (bT G ra ma rda ++ (bV G ma mda ++ (bP G pa tpa ++ (bH G sd hha ++ (bY G yd td tha ++ (bK G td tra ++ []))))))))) I ((((((List.Perm.append_left _ ((List.Perm.append_left _ ((List.Perm.append_left _ (List.Perm.refl _)).trans (List.perm_append_comm_assoc _ _ _))).trans (List.perm_append_comm_assoc _ _ _))).trans (List.perm_append_comm_assoc _ _ _)).trans (List.Perm.append_left _ ((List.Perm.append_left _ ((List.Perm.append_left _ ((List.Perm.append_left _ (List.Perm.refl _)).trans (List.perm_append_comm_assoc _ _ _))).trans (List.perm_append_comm_assoc _ _ _))).trans (List.perm_append_comm_assoc _ _ _)))).trans (List.Perm.append_left _ (List.Perm.append_left _ ((List.Perm.append_left _ (List.Perm.refl _)).trans (List.perm_append_comm_assoc _ _ _))))).trans pasc3).symm)
          refine lv_aload_n hx hb dX11_should_54 rfl (lv_at hl 0 rfl) ?_
          refine gO_X11_o0_ahead XX I dX11_should_55 ?_
          refine lv_iload_n hx hb dX11_should_58 rfl (lv_at hl 2 rfl) ?_
          refine lv_iload_n hx hb dX11_should_59 rfl (lv_at hl 3 rfl) ?_
          refine lv_iconst (v := 1) hx hb dX11_should_60 (by decide) ?_
          refine lv_iadd hx hb dX11_should_61 ?_
          obtain ⟨r9, q10, h⟩ := bd1_some h
          have RC := (Rc.mk XX I (q0 := 66) (ci := 0) rfl rfl)
          replace I : Iv G (va_A (bO G oa na ka aa ra pa sd yd td owa ++ (bV G na nwa ++ (bV G ka kpa ++ (bA G aa wa aha ++ (bV G wa awa ++ (bT G ra ma rda ++ (bV G ma mda ++ (bP G pa tpa ++ (bH G sd hha ++ (bY G yd td tha ++ (bK G td tra ++ []))))))))))) s0.heap.size) s0 _ _ (((bA G aa wa s5 ++ (bV G wa s6 ++ []))) ++ (bO G oa na ka aa ra pa sd yd td owa ++ (bV G na nwa ++ (bV G ka kpa ++ (bT G ra ma rda ++ (bV G ma mda ++ (bP G pa tpa ++ (bH G sd hha ++ (bY G yd td tha ++ (bK G td tra ++ [])))))))))) := I.perm ((((List.Perm.append_left _ ((List.Perm.append_left _ ((List.Perm.append_left _ (List.Perm.refl _)).trans (List.perm_append_comm_assoc _ _ _))).trans (List.perm_append_comm_assoc _ _ _))).trans (List.perm_append_comm_assoc _ _ _)).trans (List.Perm.append_left _ ((List.Perm.append_left _ ((List.Perm.append_left _ ((List.Perm.append_left _ (List.Perm.refl _)).trans (List.perm_append_comm_assoc _ _ _))).trans (List.perm_append_comm_assoc _ _ _))).trans (List.perm_append_comm_assoc _ _ _)))).trans pasc2)
          refine call_i (X := []) (wc := ((bA G aa wa s5 ++ (bV G wa s6 ++ [])))) (Y := (bO G oa na ka aa ra pa sd yd td owa ++ (bV G na nwa ++ (bV G ka kpa ++ (bT G ra ma rda ++ (bV G ma mda ++ (bP G pa tpa ++ (bH G sd hha ++ (bY G yd td tha ++ (bK G td tra ++ [])))))))))) (rest := []) XX I hl.1 (c_A_isNoBetter l G OK aa wa fu s5 s6 x2 (x3 + (1 : Int32)) r9 q10) kV_X11_222 RC rfl rfl (Nat.le_of_ble_eq_true rfl) ⟨rfl, rfl, Nat.le_of_ble_eq_true rfl, Nat.le_of_ble_eq_true rfl⟩ ⟨Nat.zero_le _, Nat.zero_le _⟩ dX11_should_62 (fun H locs hz11 I => ?_)
          replace I : Iv G (va_A (bO G oa na ka aa ra pa sd yd td owa ++ (bV G na nwa ++ (bV G ka kpa ++ (bA G aa wa aha ++ (bV G wa awa ++ (bT G ra ma rda ++ (bV G ma mda ++ (bP G pa tpa ++ (bH G sd hha ++ (bY G yd td tha ++ (bK G td tra ++ []))))))))))) s0.heap.size) s0 H locs (bO G oa na ka aa ra pa sd yd td owa ++ (bV G na nwa ++ (bV G ka kpa ++ (bA G aa wa s5 ++ (bV G wa s6 ++ (bT G ra ma rda ++ (bV G ma mda ++ (bP G pa tpa ++ (bH G sd hha ++ (bY G yd td tha ++ (bK G td tra ++ []))))))))))) := Iv.perm (w := ((bA G aa wa s5 ++ (bV G wa s6 ++ []))) ++ (bO G oa na ka aa ra pa sd yd td owa ++ (bV G na nwa ++ (bV G ka kpa ++ (bT G ra ma rda ++ (bV G ma mda ++ (bP G pa tpa ++ (bH G sd hha ++ (bY G yd td tha ++ (bK G td tra ++ [])))))))))) I (((((List.Perm.append_left _ ((List.Perm.append_left _ ((List.Perm.append_left _ (List.Perm.refl _)).trans (List.perm_append_comm_assoc _ _ _))).trans (List.perm_append_comm_assoc _ _ _))).trans (List.perm_append_comm_assoc _ _ _)).trans (List.Perm.append_left _ ((List.Perm.append_left _ ((List.Perm.append_left _ ((List.Perm.append_left _ (List.Perm.refl _)).trans (List.perm_append_comm_assoc _ _ _))).trans (List.perm_append_comm_assoc _ _ _))).trans (List.perm_append_comm_assoc _ _ _)))).trans pasc2).symm)
          refine lv_if_eq (tgt := 72) hx hb dX11_should_65 (by decide) (fun c1 => ?_) (fun c1 => ?_)
          · replace h := if_t h c1
            refine lv_iconst (v := 0) hx hb dX11_should_72 (by decide) ?_
            obtain ⟨rfl, h9⟩ := some2 h
            obtain ⟨rfl, rfl⟩ := pair2 h9
            exact e_i rfl XX hr I rfl dX11_should_73
          · replace h := if_f h c1
            refine lv_iconst (v := 1) hx hb dX11_should_68 (by decide) ?_
            refine lv_goto (tgt := 73) hx hb dX11_should_69 (by decide) ?_
            obtain ⟨rfl, h9⟩ := some2 h
            obtain ⟨rfl, rfl⟩ := pair2 h9
            exact e_i rfl XX hr I rfl dX11_should_73
        · replace h := if_t h c1
          refine lv_bipush (v := (-3)) hx hb dX11_should_39 (by decide) ?_
          obtain ⟨rfl, h9⟩ := some2 h
          obtain ⟨rfl, rfl⟩ := pair2 h9
          exact e_i rfl XX hr I rfl dX11_should_41
      · replace h := if_t h c1
        refine lv_iconst (v := (-1)) hx hb dX11_should_25 (by decide) ?_
        obtain ⟨rfl, h9⟩ := some2 h
        obtain ⟨rfl, rfl⟩ := pair2 h9
        exact e_i rfl XX hr I rfl dX11_should_26
set_option maxRecDepth 100000 in
theorem kV_X11_225 : KV RX11 225 RX0 yX0_bestBar cX0_bestBar 9 (some .int) 2 := KV.mk wd_737 wd_738 wd_739 wd_3 wd_740 (by decide +kernel)
set_option maxHeartbeats 4000000 in
set_option maxRecDepth 100000 in
theorem c_O_barOf (l : Launch) (G : g_G) (OK : EOk G.2.2) (oa : Nat → Nat) (na : Nat → Nat) (ka : Nat → Nat) (aa : Nat → Nat) (wa : Nat → Nat) (ra : Nat → Nat) (ma : Nat → Nat) (pa : Nat → Nat) (sd : Nat → Nat → Nat) (yd : Nat → Nat) (td : Nat → Nat) (fu : Nat) (owa : g_St) (nwa : g_St) (kpa : g_St) (aha : g_St) (awa : g_St) (rda : g_St) (mda : g_St) (tpa : g_St) (hha : g_Sf) (tha : g_St) (tra : g_St) (x1 : Int32) (x2 : Int32) (r : Int32) (tah : g_St) (taw : g_St) (h : f_O_barOf fu nwa aha awa x1 x2 = some (r, tah, taw)) : HI l G yX11_barOf (Cond.code yX11_barOf cX11_barOf 3 (some .int) :: gT) { frames := 27, cells := 0, slots := 0, locals := 672 } .int [.ref (oa 0), .int x1, .int x2] (bO G oa na ka aa ra pa sd yd td owa ++ (bV G na nwa ++ (bV G ka kpa ++ (bA G aa wa aha ++ (bV G wa awa ++ (bT G ra ma rda ++ (bV G ma mda ++ (bP G pa tpa ++ (bH G sd hha ++ (bY G yd td tha ++ (bK G td tra ++ []))))))))))) r (bO G oa na ka aa ra pa sd yd td owa ++ (bV G na nwa ++ (bV G ka kpa ++ (bA G aa wa tah ++ (bV G wa taw ++ (bT G ra ma rda ++ (bV G ma mda ++ (bP G pa tpa ++ (bH G sd hha ++ (bY G yd td tha ++ (bK G td tra ++ []))))))))))) := by
  refine HI.mk (lv := [(0, .ref (oa 0)), (1, .int x1), (2, .int x2)]) OK (by decide) (Nat.le_of_ble_eq_true rfl) rfl ?_
  intro p e s0 m args below meth c ls XX hr I hl
  have hx := XX.x
  have hb := XX.b
  unfold f_O_barOf at h
  refine lv_aload_n hx hb dX11_barOf_0 rfl (lv_at hl 0 rfl) ?_
  refine lv_iload_n hx hb dX11_barOf_1 rfl (lv_at hl 1 rfl) ?_
  refine wcall_i (rest := []) XX I hl.1 (c_O_isPerson l G OK oa na ka aa wa ra ma pa sd yd td owa nwa kpa aha awa rda mda tpa hha tha tra x1 _ rfl) kV_X11_131 (Rc.mk XX I (q0 := 0) (ci := 11) rfl rfl) rfl rfl (Nat.le_of_ble_eq_true rfl) ⟨rfl, rfl, Nat.le_of_ble_eq_true rfl, Nat.le_of_ble_eq_true rfl⟩ ⟨Nat.zero_le _, Nat.zero_le _⟩ dX11_barOf_2 (fun H locs hz1 I => ?_)
  refine lv_if_eq (tgt := 17) hx hb dX11_barOf_5 (by decide) (fun c1 => ?_) (fun c1 => ?_)
  · replace h := if_t h c1
    refine lv_iconst (v := (-1)) hx hb dX11_barOf_17 (by decide) ?_
    obtain ⟨rfl, h9⟩ := some2 h
    obtain ⟨rfl, rfl⟩ := pair2 h9
    exact e_i rfl XX hr I rfl dX11_barOf_18
  · replace h := if_f h c1
    refine lv_iload_n hx hb dX11_barOf_8 rfl (lv_at hl 2 rfl) ?_
    refine lv_iconst (v := 1) hx hb dX11_barOf_9 (by decide) ?_
    refine lv_iconst (v := 2) hx hb dX11_barOf_10 (by decide) ?_
    refine scall_i (rest := []) XX I hl.1 (c_S_within l G OK x2 (1 : Int32) (2 : Int32) _ rfl) kS_X11_103 rfl rfl (Nat.le_of_ble_eq_true rfl) ⟨rfl, rfl, Nat.le_of_ble_eq_true rfl, Nat.le_of_ble_eq_true rfl⟩ ⟨Nat.zero_le _, Nat.zero_le _⟩ dX11_barOf_11 (fun H locs hz2 I => ?_)
    refine lv_if_ne (tgt := 19) hx hb dX11_barOf_14 (by decide) (fun c1 => ?_) (fun c1 => ?_)
    · replace h := if_f h c1
      refine lv_aload_n hx hb dX11_barOf_19 rfl (lv_at hl 0 rfl) ?_
      refine gO_X11_o0_ahead XX I dX11_barOf_20 ?_
      refine lv_aload_n hx hb dX11_barOf_23 rfl (lv_at hl 0 rfl) ?_
      refine gO_X11_o0_now XX I dX11_barOf_24 ?_
      refine lv_iload_n hx hb dX11_barOf_27 rfl (lv_at hl 1 rfl) ?_
      obtain ⟨s3, s4, q5, h⟩ := bd2_some h
      have RC := (Rc.mk XX I (q0 := 66) (ci := 0) rfl rfl)
      replace I : Iv G (va_A (bO G oa na ka aa ra pa sd yd td owa ++ (bV G na nwa ++ (bV G ka kpa ++ (bA G aa wa aha ++ (bV G wa awa ++ (bT G ra ma rda ++ (bV G ma mda ++ (bP G pa tpa ++ (bH G sd hha ++ (bY G yd td tha ++ (bK G td tra ++ []))))))))))) s0.heap.size) s0 _ _ (((bA G aa wa aha ++ (bV G wa awa ++ (bV G na nwa ++ [])))) ++ (bO G oa na ka aa ra pa sd yd td owa ++ (bV G ka kpa ++ (bT G ra ma rda ++ (bV G ma mda ++ (bP G pa tpa ++ (bH G sd hha ++ (bY G yd td tha ++ (bK G td tra ++ []))))))))) := I.perm (((((List.Perm.append_left _ ((List.Perm.append_left _ ((List.Perm.append_left _ (List.Perm.refl _)).trans (List.perm_append_comm_assoc _ _ _))).trans (List.perm_append_comm_assoc _ _ _))).trans (List.perm_append_comm_assoc _ _ _)).trans (List.Perm.append_left _ ((List.Perm.append_left _ ((List.Perm.append_left _ ((List.Perm.append_left _ (List.Perm.refl _)).trans (List.perm_append_comm_assoc _ _ _))).trans (List.perm_append_comm_assoc _ _ _))).trans (List.perm_append_comm_assoc _ _ _)))).trans (List.Perm.append_left _ (List.Perm.append_left _ ((List.Perm.append_left _ (List.Perm.refl _)).trans (List.perm_append_comm_assoc _ _ _))))).trans pasc3)
      refine call_v (X := []) (wc := ((bA G aa wa aha ++ (bV G wa awa ++ (bV G na nwa ++ []))))) (Y := (bO G oa na ka aa ra pa sd yd td owa ++ (bV G ka kpa ++ (bT G ra ma rda ++ (bV G ma mda ++ (bP G pa tpa ++ (bH G sd hha ++ (bY G yd td tha ++ (bK G td tra ++ []))))))))) (rest := []) XX I hl.1 (c_AU_look l G OK aa wa na fu aha awa nwa x1 s3 s4 q5) kV_X11_203 RC rfl rfl (Nat.le_of_ble_eq_true rfl) ⟨rfl, rfl, Nat.le_of_ble_eq_true rfl, Nat.le_of_ble_eq_true rfl⟩ ⟨Nat.zero_le _, Nat.zero_le _⟩ dX11_barOf_28 (fun H locs I => ?_)
      replace I : Iv G (va_A (bO G oa na ka aa ra pa sd yd td owa ++ (bV G na nwa ++ (bV G ka kpa ++ (bA G aa wa aha ++ (bV G wa awa ++ (bT G ra ma rda ++ (bV G ma mda ++ (bP G pa tpa ++ (bH G sd hha ++ (bY G yd td tha ++ (bK G td tra ++ []))))))))))) s0.heap.size) s0 H locs (bO G oa na ka aa ra pa sd yd td owa ++ (bV G na nwa ++ (bV G ka kpa ++ (bA G aa wa s3 ++ (bV G wa s4 ++ (bT G ra ma rda ++ (bV G ma mda ++ (bP G pa tpa ++ (bH G sd hha ++ (bY G yd td tha ++ (bK G td tra ++ []))))))))))) := Iv.perm (w := ((bA G aa wa s3 ++ (bV G wa s4 ++ (bV G na nwa ++ [])))) ++ (bO G oa na ka aa ra pa sd yd td owa ++ (bV G ka kpa ++ (bT G ra ma rda ++ (bV G ma mda ++ (bP G pa tpa ++ (bH G sd hha ++ (bY G yd td tha ++ (bK G td tra ++ []))))))))) I ((((((List.Perm.append_left _ ((List.Perm.append_left _ ((List.Perm.append_left _ (List.Perm.refl _)).trans (List.perm_append_comm_assoc _ _ _))).trans (List.perm_append_comm_assoc _ _ _))).trans (List.perm_append_comm_assoc _ _ _)).trans (List.Perm.append_left _ ((List.Perm.append_left _ ((List.Perm.append_left _ ((List.Perm.append_left _ (List.Perm.refl _)).trans (List.perm_append_comm_assoc _ _ _))).trans (List.perm_append_comm_assoc _ _ _))).trans (List.perm_append_comm_assoc _ _ _)))).trans (List.Perm.append_left _ (List.Perm.append_left _ ((List.Perm.append_left _ (List.Perm.refl _)).trans (List.perm_append_comm_assoc _ _ _))))).trans pasc3).symm)
      refine lv_aload_n hx hb dX11_barOf_31 rfl (lv_at hl 0 rfl) ?_
      refine gO_X11_o0_ahead XX I dX11_barOf_32 ?_
      refine lv_iload_n hx hb dX11_barOf_35 rfl (lv_at hl 1 rfl) ?_
      refine lv_iload_n hx hb dX11_barOf_36 rfl (lv_at hl 2 rfl) ?_
      obtain ⟨r7, s8, q9, h⟩ := bd2_some h
      have RC := (Rc.mk XX I (q0 := 66) (ci := 0) rfl rfl)
      replace I : Iv G (va_A (bO G oa na ka aa ra pa sd yd td owa ++ (bV G na nwa ++ (bV G ka kpa ++ (bA G aa wa aha ++ (bV G wa awa ++ (bT G ra ma rda ++ (bV G ma mda ++ (bP G pa tpa ++ (bH G sd hha ++ (bY G yd td tha ++ (bK G td tra ++ []))))))))))) s0.heap.size) s0 _ _ (((bA G aa wa s3 ++ (bV G wa s4 ++ []))) ++ (bO G oa na ka aa ra pa sd yd td owa ++ (bV G na nwa ++ (bV G ka kpa ++ (bT G ra ma rda ++ (bV G ma mda ++ (bP G pa tpa ++ (bH G sd hha ++ (bY G yd td tha ++ (bK G td tra ++ [])))))))))) := I.perm ((((List.Perm.append_left _ ((List.Perm.append_left _ ((List.Perm.append_left _ (List.Perm.refl _)).trans (List.perm_append_comm_assoc _ _ _))).trans (List.perm_append_comm_assoc _ _ _))).trans (List.perm_append_comm_assoc _ _ _)).trans (List.Perm.append_left _ ((List.Perm.append_left _ ((List.Perm.append_left _ ((List.Perm.append_left _ (List.Perm.refl _)).trans (List.perm_append_comm_assoc _ _ _))).trans (List.perm_append_comm_assoc _ _ _))).trans (List.perm_append_comm_assoc _ _ _)))).trans pasc2)
      refine call_i (X := []) (wc := ((bA G aa wa s3 ++ (bV G wa s4 ++ [])))) (Y := (bO G oa na ka aa ra pa sd yd td owa ++ (bV G na nwa ++ (bV G ka kpa ++ (bT G ra ma rda ++ (bV G ma mda ++ (bP G pa tpa ++ (bH G sd hha ++ (bY G yd td tha ++ (bK G td tra ++ [])))))))))) (rest := []) XX I hl.1 (c_A_bestBar l G OK aa wa fu s3 s4 x1 x2 r7 s8 q9) kV_X11_225 RC rfl rfl (Nat.le_of_ble_eq_true rfl) ⟨rfl, rfl, Nat.le_of_ble_eq_true rfl, Nat.le_of_ble_eq_true rfl⟩ ⟨Nat.zero_le _, Nat.zero_le _⟩ dX11_barOf_37 (fun H locs hz10 I => ?_)
      replace I : Iv G (va_A (bO G oa na ka aa ra pa sd yd td owa ++ (bV G na nwa ++ (bV G ka kpa ++ (bA G aa wa aha ++ (bV G wa awa ++ (bT G ra ma rda ++ (bV G ma mda ++ (bP G pa tpa ++ (bH G sd hha ++ (bY G yd td tha ++ (bK G td tra ++ []))))))))))) s0.heap.size) s0 H locs (bO G oa na ka aa ra pa sd yd td owa ++ (bV G na nwa ++ (bV G ka kpa ++ (bA G aa wa s3 ++ (bV G wa s8 ++ (bT G ra ma rda ++ (bV G ma mda ++ (bP G pa tpa ++ (bH G sd hha ++ (bY G yd td tha ++ (bK G td tra ++ []))))))))))) := Iv.perm (w := ((bA G aa wa s3 ++ (bV G wa s8 ++ []))) ++ (bO G oa na ka aa ra pa sd yd td owa ++ (bV G na nwa ++ (bV G ka kpa ++ (bT G ra ma rda ++ (bV G ma mda ++ (bP G pa tpa ++ (bH G sd hha ++ (bY G yd td tha ++ (bK G td tra ++ [])))))))))) I (((((List.Perm.append_left _ ((List.Perm.append_left _ ((List.Perm.append_left _ (List.Perm.refl _)).trans (List.perm_append_comm_assoc _ _ _))).trans (List.perm_append_comm_assoc _ _ _))).trans (List.perm_append_comm_assoc _ _ _)).trans (List.Perm.append_left _ ((List.Perm.append_left _ ((List.Perm.append_left _ ((List.Perm.append_left _ (List.Perm.refl _)).trans (List.perm_append_comm_assoc _ _ _))).trans (List.perm_append_comm_assoc _ _ _))).trans (List.perm_append_comm_assoc _ _ _)))).trans pasc2).symm)
      obtain ⟨rfl, h9⟩ := some2 h
      obtain ⟨rfl, rfl⟩ := pair2 h9
      exact e_i rfl XX hr I rfl dX11_barOf_40
    · replace h := if_t h c1
      refine lv_iconst (v := (-1)) hx hb dX11_barOf_17 (by decide) ?_
      obtain ⟨rfl, h9⟩ := some2 h
      obtain ⟨rfl, rfl⟩ := pair2 h9
      exact e_i rfl XX hr I rfl dX11_barOf_18
set_option maxRecDepth 100000 in
theorem kV_X11_229 : KV RX11 229 RX0 yX0_rowThatLets cX0_rowThatLets 3 (some .int) 2 := KV.mk wd_746 wd_747 wd_748 wd_3 wd_749 (by decide +kernel)
set_option maxHeartbeats 4000000 in
set_option maxRecDepth 100000 in
theorem c_O_lets (l : Launch) (G : g_G) (OK : EOk G.2.2) (oa : Nat → Nat) (na : Nat → Nat) (ka : Nat → Nat) (aa : Nat → Nat) (wa : Nat → Nat) (ra : Nat → Nat) (ma : Nat → Nat) (pa : Nat → Nat) (sd : Nat → Nat → Nat) (yd : Nat → Nat) (td : Nat → Nat) (fu : Nat) (owa : g_St) (nwa : g_St) (kpa : g_St) (aha : g_St) (awa : g_St) (rda : g_St) (mda : g_St) (tpa : g_St) (hha : g_Sf) (tha : g_St) (tra : g_St) (x1 : Int32) (x2 : Int32) (r : Int32) (tah : g_St) (taw : g_St) (h : f_O_lets fu nwa aha awa x1 x2 = some (r, tah, taw)) : HI l G yX11_lets (Cond.code yX11_lets cX11_lets 5 (some .int) :: gT) { frames := 26, cells := 0, slots := 0, locals := 643 } .int [.ref (oa 0), .int x1, .int x2] (bO G oa na ka aa ra pa sd yd td owa ++ (bV G na nwa ++ (bV G ka kpa ++ (bA G aa wa aha ++ (bV G wa awa ++ (bT G ra ma rda ++ (bV G ma mda ++ (bP G pa tpa ++ (bH G sd hha ++ (bY G yd td tha ++ (bK G td tra ++ []))))))))))) r (bO G oa na ka aa ra pa sd yd td owa ++ (bV G na nwa ++ (bV G ka kpa ++ (bA G aa wa tah ++ (bV G wa taw ++ (bT G ra ma rda ++ (bV G ma mda ++ (bP G pa tpa ++ (bH G sd hha ++ (bY G yd td tha ++ (bK G td tra ++ []))))))))))) := by
  refine HI.mk (lv := [(0, .ref (oa 0)), (1, .int x1), (2, .int x2)]) OK (by decide) (Nat.le_of_ble_eq_true rfl) rfl ?_
  intro p e s0 m args below meth c ls XX hr I hl
  have hx := XX.x
  have hb := XX.b
  have C33 : ∀ n : Nat, ∀ (ah : g_St) (aw : g_St) (v1 : Int32) (v2 : Int32) (v3 : Int32), f_O_lets_L33 fu n nwa ah aw v1 v2 v3 = some (r, tah, taw) → ∀ (H : Heap) (locs : List Loc), Iv G (va_A (bO G oa na ka aa ra pa sd yd td owa ++ (bV G na nwa ++ (bV G ka kpa ++ (bA G aa wa aha ++ (bV G wa awa ++ (bT G ra ma rda ++ (bV G ma mda ++ (bP G pa tpa ++ (bH G sd hha ++ (bY G yd td tha ++ (bK G td tra ++ []))))))))))) s0.heap.size) s0 H locs (bO G oa na ka aa ra pa sd yd td owa ++ (bV G na nwa ++ (bV G ka kpa ++ (bA G aa wa ah ++ (bV G wa aw ++ (bT G ra ma rda ++ (bV G ma mda ++ (bP G pa tpa ++ (bH G sd hha ++ (bY G yd td tha ++ (bK G td tra ++ []))))))))))) → ∀ ls, lv_has ls 5 [(0, .ref (oa 0)), (1, .int v1), (2, .int v2), (3, .int v3)] → W p l e { frames := 26, cells := 0, slots := 0, locals := 643 } s0 m args below meth c H locs 0 0 (QI G below .int r (bO G oa na ka aa ra pa sd yd td owa ++ (bV G na nwa ++ (bV G ka kpa ++ (bA G aa wa aha ++ (bV G wa awa ++ (bT G ra ma rda ++ (bV G ma mda ++ (bP G pa tpa ++ (bH G sd hha ++ (bY G yd td tha ++ (bK G td tra ++ []))))))))))) (bO G oa na ka aa ra pa sd yd td owa ++ (bV G na nwa ++ (bV G ka kpa ++ (bA G aa wa tah ++ (bV G wa taw ++ (bT G ra ma rda ++ (bV G ma mda ++ (bP G pa tpa ++ (bH G sd hha ++ (bY G yd td tha ++ (bK G td tra ++ []))))))))))) args s0) (F0 m 33 ls []) := by
    intro n
    induction n with
    | zero => intro ah aw v1 v2 v3 h; exact absurd h (fun q => by cases q)
    | succ n ih =>
      intro ah aw v1 v2 v3 h H locs I ls hl
      rw [f_O_lets_L33] at h
      refine lv_iload_n hx hb dX11_lets_33 rfl (lv_at hl 3 rfl) ?_
      refine lv_iconst (v := 3) hx hb dX11_lets_34 (by decide) ?_
      refine lv_icmp_gt (tgt := 71) hx hb dX11_lets_35 (by decide) (fun c1 => ?_) (fun c1 => ?_)
      · replace h := if_t h c1
        refine lv_bipush (v := (-3)) hx hb dX11_lets_71 (by decide) ?_
        obtain ⟨rfl, h9⟩ := some2 h
        obtain ⟨rfl, rfl⟩ := pair2 h9
        exact e_i rfl XX hr I rfl dX11_lets_73
      · replace h := if_f h c1
        refine lv_aload_n hx hb dX11_lets_38 rfl (lv_at hl 0 rfl) ?_
        refine gO_X11_o0_ahead XX I dX11_lets_39 ?_
        refine lv_iload_n hx hb dX11_lets_42 rfl (lv_at hl 1 rfl) ?_
        refine lv_iload_n hx hb dX11_lets_43 rfl (lv_at hl 3 rfl) ?_
        obtain ⟨r7, q8, h⟩ := bd1_some h
        have RC := (Rc.mk XX I (q0 := 66) (ci := 0) rfl rfl)
        replace I : Iv G (va_A (bO G oa na ka aa ra pa sd yd td owa ++ (bV G na nwa ++ (bV G ka kpa ++ (bA G aa wa aha ++ (bV G wa awa ++ (bT G ra ma rda ++ (bV G ma mda ++ (bP G pa tpa ++ (bH G sd hha ++ (bY G yd td tha ++ (bK G td tra ++ []))))))))))) s0.heap.size) s0 _ _ (((bA G aa wa ah ++ (bV G wa aw ++ []))) ++ (bO G oa na ka aa ra pa sd yd td owa ++ (bV G na nwa ++ (bV G ka kpa ++ (bT G ra ma rda ++ (bV G ma mda ++ (bP G pa tpa ++ (bH G sd hha ++ (bY G yd td tha ++ (bK G td tra ++ [])))))))))) := I.perm ((((List.Perm.append_left _ ((List.Perm.append_left _ ((List.Perm.append_left _ (List.Perm.refl _)).trans (List.perm_append_comm_assoc _ _ _))).trans (List.perm_append_comm_assoc _ _ _))).trans (List.perm_append_comm_assoc _ _ _)).trans (List.Perm.append_left _ ((List.Perm.append_left _ ((List.Perm.append_left _ ((List.Perm.append_left _ (List.Perm.refl _)).trans (List.perm_append_comm_assoc _ _ _))).trans (List.perm_append_comm_assoc _ _ _))).trans (List.perm_append_comm_assoc _ _ _)))).trans pasc2)
        refine call_i (X := []) (wc := ((bA G aa wa ah ++ (bV G wa aw ++ [])))) (Y := (bO G oa na ka aa ra pa sd yd td owa ++ (bV G na nwa ++ (bV G ka kpa ++ (bT G ra ma rda ++ (bV G ma mda ++ (bP G pa tpa ++ (bH G sd hha ++ (bY G yd td tha ++ (bK G td tra ++ [])))))))))) (rest := []) XX I hl.1 (c_A_rowThatLets l G OK aa wa fu ah aw v1 v3 r7 q8) kV_X11_229 RC rfl rfl (Nat.le_of_ble_eq_true rfl) ⟨rfl, rfl, Nat.le_of_ble_eq_true rfl, Nat.le_of_ble_eq_true rfl⟩ ⟨Nat.zero_le _, Nat.zero_le _⟩ dX11_lets_44 (fun H locs hz9 I => ?_)
        replace I : Iv G (va_A (bO G oa na ka aa ra pa sd yd td owa ++ (bV G na nwa ++ (bV G ka kpa ++ (bA G aa wa aha ++ (bV G wa awa ++ (bT G ra ma rda ++ (bV G ma mda ++ (bP G pa tpa ++ (bH G sd hha ++ (bY G yd td tha ++ (bK G td tra ++ []))))))))))) s0.heap.size) s0 H locs (bO G oa na ka aa ra pa sd yd td owa ++ (bV G na nwa ++ (bV G ka kpa ++ (bA G aa wa ah ++ (bV G wa aw ++ (bT G ra ma rda ++ (bV G ma mda ++ (bP G pa tpa ++ (bH G sd hha ++ (bY G yd td tha ++ (bK G td tra ++ []))))))))))) := Iv.perm (w := ((bA G aa wa ah ++ (bV G wa aw ++ []))) ++ (bO G oa na ka aa ra pa sd yd td owa ++ (bV G na nwa ++ (bV G ka kpa ++ (bT G ra ma rda ++ (bV G ma mda ++ (bP G pa tpa ++ (bH G sd hha ++ (bY G yd td tha ++ (bK G td tra ++ [])))))))))) I (((((List.Perm.append_left _ ((List.Perm.append_left _ ((List.Perm.append_left _ (List.Perm.refl _)).trans (List.perm_append_comm_assoc _ _ _))).trans (List.perm_append_comm_assoc _ _ _))).trans (List.perm_append_comm_assoc _ _ _)).trans (List.Perm.append_left _ ((List.Perm.append_left _ ((List.Perm.append_left _ ((List.Perm.append_left _ (List.Perm.refl _)).trans (List.perm_append_comm_assoc _ _ _))).trans (List.perm_append_comm_assoc _ _ _))).trans (List.perm_append_comm_assoc _ _ _)))).trans pasc2).symm)
        refine lv_istore (lv' := [(4, .int r7), (0, .ref (oa 0)), (1, .int v1), (2, .int v2), (3, .int v3)]) hx hb dX11_lets_47 hl (by decide) rfl (fun ls hl => ?_)
        refine lv_iload hx hb dX11_lets_49 (lv_at hl 0 rfl) ?_
        refine lv_if_lt (tgt := 65) hx hb dX11_lets_51 (by decide) (fun c1 => ?_) (fun c1 => ?_)
        · replace h := if_t h c1
          obtain ⟨y10, ey10⟩ : ∃ z : Int32, z = v3 + (1 : Int32) := ⟨_, rfl⟩
          replace h := lt_e h ey10
          refine lv_iinc (v := y10) (lv' := [(3, .int y10), (4, .int r7), (0, .ref (oa 0)), (1, .int v1), (2, .int v2)]) hx hb dX11_lets_65 hl (k := 4) rfl (by rw [ey10]; rfl) (by decide) rfl (fun ls hl => ?_)
          refine lv_goto (tgt := 33) hx hb dX11_lets_68 (by decide) ?_
          exact ih _ _ _ _ _ h _ _ I ls (lv_sub hl [2, 3, 4, 0] rfl)
        · replace h := if_f h c1
          refine lv_iload_n hx hb dX11_lets_54 rfl (lv_at hl 3 rfl) ?_
          refine lv_if_ne (tgt := 62) hx hb dX11_lets_55 (by decide) (fun c1 => ?_) (fun c1 => ?_)
          · replace h := if_f h c1
            refine lv_iload hx hb dX11_lets_62 (lv_at hl 0 rfl) ?_
            obtain ⟨rfl, h9⟩ := some2 h
            obtain ⟨rfl, rfl⟩ := pair2 h9
            exact e_i rfl XX hr I rfl dX11_lets_64
          · replace h := if_t h c1
            refine lv_iload_n hx hb dX11_lets_58 rfl (lv_at hl 4 rfl) ?_
            refine lv_goto (tgt := 64) hx hb dX11_lets_59 (by decide) ?_
            obtain ⟨rfl, h9⟩ := some2 h
            obtain ⟨rfl, rfl⟩ := pair2 h9
            exact e_i rfl XX hr I rfl dX11_lets_64
  unfold f_O_lets at h
  refine lv_aload_n hx hb dX11_lets_0 rfl (lv_at hl 0 rfl) ?_
  refine lv_iload_n hx hb dX11_lets_1 rfl (lv_at hl 1 rfl) ?_
  refine wcall_i (rest := []) XX I hl.1 (c_O_isProposal l G OK oa na ka aa wa ra ma pa sd yd td owa nwa kpa aha awa rda mda tpa hha tha tra x1 _ rfl) kV_X11_158 (Rc.mk XX I (q0 := 0) (ci := 11) rfl rfl) rfl rfl (Nat.le_of_ble_eq_true rfl) ⟨rfl, rfl, Nat.le_of_ble_eq_true rfl, Nat.le_of_ble_eq_true rfl⟩ ⟨Nat.zero_le _, Nat.zero_le _⟩ dX11_lets_2 (fun H locs hz1 I => ?_)
  refine lv_if_eq (tgt := 17) hx hb dX11_lets_5 (by decide) (fun c1 => ?_) (fun c1 => ?_)
  · replace h := if_t h c1
    refine lv_iconst (v := (-1)) hx hb dX11_lets_17 (by decide) ?_
    obtain ⟨rfl, h9⟩ := some2 h
    obtain ⟨rfl, rfl⟩ := pair2 h9
    exact e_i rfl XX hr I rfl dX11_lets_18
  · replace h := if_f h c1
    refine lv_iload_n hx hb dX11_lets_8 rfl (lv_at hl 2 rfl) ?_
    refine lv_iconst (v := 0) hx hb dX11_lets_9 (by decide) ?_
    refine lv_iconst (v := 1) hx hb dX11_lets_10 (by decide) ?_
    refine scall_i (rest := []) XX I hl.1 (c_S_within l G OK x2 (0 : Int32) (1 : Int32) _ rfl) kS_X11_103 rfl rfl (Nat.le_of_ble_eq_true rfl) ⟨rfl, rfl, Nat.le_of_ble_eq_true rfl, Nat.le_of_ble_eq_true rfl⟩ ⟨Nat.zero_le _, Nat.zero_le _⟩ dX11_lets_11 (fun H locs hz2 I => ?_)
    refine lv_if_ne (tgt := 19) hx hb dX11_lets_14 (by decide) (fun c1 => ?_) (fun c1 => ?_)
    · replace h := if_f h c1
      refine lv_aload_n hx hb dX11_lets_19 rfl (lv_at hl 0 rfl) ?_
      refine gO_X11_o0_ahead XX I dX11_lets_20 ?_
      refine lv_aload_n hx hb dX11_lets_23 rfl (lv_at hl 0 rfl) ?_
      refine gO_X11_o0_now XX I dX11_lets_24 ?_
      refine lv_iconst (v := (-1)) hx hb dX11_lets_27 (by decide) ?_
      obtain ⟨s3, s4, q5, h⟩ := bd2_some h
      have RC := (Rc.mk XX I (q0 := 66) (ci := 0) rfl rfl)
      replace I : Iv G (va_A (bO G oa na ka aa ra pa sd yd td owa ++ (bV G na nwa ++ (bV G ka kpa ++ (bA G aa wa aha ++ (bV G wa awa ++ (bT G ra ma rda ++ (bV G ma mda ++ (bP G pa tpa ++ (bH G sd hha ++ (bY G yd td tha ++ (bK G td tra ++ []))))))))))) s0.heap.size) s0 _ _ (((bA G aa wa aha ++ (bV G wa awa ++ (bV G na nwa ++ [])))) ++ (bO G oa na ka aa ra pa sd yd td owa ++ (bV G ka kpa ++ (bT G ra ma rda ++ (bV G ma mda ++ (bP G pa tpa ++ (bH G sd hha ++ (bY G yd td tha ++ (bK G td tra ++ []))))))))) := I.perm (((((List.Perm.append_left _ ((List.Perm.append_left _ ((List.Perm.append_left _ (List.Perm.refl _)).trans (List.perm_append_comm_assoc _ _ _))).trans (List.perm_append_comm_assoc _ _ _))).trans (List.perm_append_comm_assoc _ _ _)).trans (List.Perm.append_left _ ((List.Perm.append_left _ ((List.Perm.append_left _ ((List.Perm.append_left _ (List.Perm.refl _)).trans (List.perm_append_comm_assoc _ _ _))).trans (List.perm_append_comm_assoc _ _ _))).trans (List.perm_append_comm_assoc _ _ _)))).trans (List.Perm.append_left _ (List.Perm.append_left _ ((List.Perm.append_left _ (List.Perm.refl _)).trans (List.perm_append_comm_assoc _ _ _))))).trans pasc3)
      refine call_v (X := []) (wc := ((bA G aa wa aha ++ (bV G wa awa ++ (bV G na nwa ++ []))))) (Y := (bO G oa na ka aa ra pa sd yd td owa ++ (bV G ka kpa ++ (bT G ra ma rda ++ (bV G ma mda ++ (bP G pa tpa ++ (bH G sd hha ++ (bY G yd td tha ++ (bK G td tra ++ []))))))))) (rest := []) XX I hl.1 (c_AU_look l G OK aa wa na fu aha awa nwa ((-1) : Int32) s3 s4 q5) kV_X11_203 RC rfl rfl (Nat.le_of_ble_eq_true rfl) ⟨rfl, rfl, Nat.le_of_ble_eq_true rfl, Nat.le_of_ble_eq_true rfl⟩ ⟨Nat.zero_le _, Nat.zero_le _⟩ dX11_lets_28 (fun H locs I => ?_)
      replace I : Iv G (va_A (bO G oa na ka aa ra pa sd yd td owa ++ (bV G na nwa ++ (bV G ka kpa ++ (bA G aa wa aha ++ (bV G wa awa ++ (bT G ra ma rda ++ (bV G ma mda ++ (bP G pa tpa ++ (bH G sd hha ++ (bY G yd td tha ++ (bK G td tra ++ []))))))))))) s0.heap.size) s0 H locs (bO G oa na ka aa ra pa sd yd td owa ++ (bV G na nwa ++ (bV G ka kpa ++ (bA G aa wa s3 ++ (bV G wa s4 ++ (bT G ra ma rda ++ (bV G ma mda ++ (bP G pa tpa ++ (bH G sd hha ++ (bY G yd td tha ++ (bK G td tra ++ []))))))))))) := Iv.perm (w := ((bA G aa wa s3 ++ (bV G wa s4 ++ (bV G na nwa ++ [])))) ++ (bO G oa na ka aa ra pa sd yd td owa ++ (bV G ka kpa ++ (bT G ra ma rda ++ (bV G ma mda ++ (bP G pa tpa ++ (bH G sd hha ++ (bY G yd td tha ++ (bK G td tra ++ []))))))))) I ((((((List.Perm.append_left _ ((List.Perm.append_left _ ((List.Perm.append_left _ (List.Perm.refl _)).trans (List.perm_append_comm_assoc _ _ _))).trans (List.perm_append_comm_assoc _ _ _))).trans (List.perm_append_comm_assoc _ _ _)).trans (List.Perm.append_left _ ((List.Perm.append_left _ ((List.Perm.append_left _ ((List.Perm.append_left _ (List.Perm.refl _)).trans (List.perm_append_comm_assoc _ _ _))).trans (List.perm_append_comm_assoc _ _ _))).trans (List.perm_append_comm_assoc _ _ _)))).trans (List.Perm.append_left _ (List.Perm.append_left _ ((List.Perm.append_left _ (List.Perm.refl _)).trans (List.perm_append_comm_assoc _ _ _))))).trans pasc3).symm)
      refine lv_iconst (v := 0) hx hb dX11_lets_31 (by decide) ?_
      refine lv_istore_n (lv' := [(3, .int (0 : Int32)), (0, .ref (oa 0)), (1, .int x1), (2, .int x2)]) hx hb dX11_lets_32 rfl hl (by decide) rfl (fun ls hl => ?_)
      exact C33 fu _ _ _ _ _ h _ _ I ls (lv_sub hl [1, 2, 3, 0] rfl)
    · replace h := if_t h c1
      refine lv_iconst (v := (-1)) hx hb dX11_lets_17 (by decide) ?_
      obtain ⟨rfl, h9⟩ := some2 h
      obtain ⟨rfl, rfl⟩ := pair2 h9
      exact e_i rfl XX hr I rfl dX11_lets_18
set_option maxRecDepth 100000 in
theorem kV_X11_232 : KV RX11 232 RX0 yX0_leastHarm cX0_leastHarm 9 (some .int) 1 := KV.mk wd_758 wd_759 wd_760 wd_3 wd_761 (by decide +kernel)
set_option maxHeartbeats 4000000 in
set_option maxRecDepth 100000 in
theorem c_O_harm (l : Launch) (G : g_G) (OK : EOk G.2.2) (oa : Nat → Nat) (na : Nat → Nat) (ka : Nat → Nat) (aa : Nat → Nat) (wa : Nat → Nat) (ra : Nat → Nat) (ma : Nat → Nat) (pa : Nat → Nat) (sd : Nat → Nat → Nat) (yd : Nat → Nat) (td : Nat → Nat) (fu : Nat) (owa : g_St) (nwa : g_St) (kpa : g_St) (aha : g_St) (awa : g_St) (rda : g_St) (mda : g_St) (tpa : g_St) (hha : g_Sf) (tha : g_St) (tra : g_St) (x1 : Int32) (r : Int32) (tah : g_St) (taw : g_St) (h : f_O_harm fu nwa aha awa x1 = some (r, tah, taw)) : HI l G yX11_harm (Cond.code yX11_harm cX11_harm 2 (some .int) :: gT) { frames := 27, cells := 0, slots := 0, locals := 672 } .int [.ref (oa 0), .int x1] (bO G oa na ka aa ra pa sd yd td owa ++ (bV G na nwa ++ (bV G ka kpa ++ (bA G aa wa aha ++ (bV G wa awa ++ (bT G ra ma rda ++ (bV G ma mda ++ (bP G pa tpa ++ (bH G sd hha ++ (bY G yd td tha ++ (bK G td tra ++ []))))))))))) r (bO G oa na ka aa ra pa sd yd td owa ++ (bV G na nwa ++ (bV G ka kpa ++ (bA G aa wa tah ++ (bV G wa taw ++ (bT G ra ma rda ++ (bV G ma mda ++ (bP G pa tpa ++ (bH G sd hha ++ (bY G yd td tha ++ (bK G td tra ++ []))))))))))) := by
  refine HI.mk (lv := [(0, .ref (oa 0)), (1, .int x1)]) OK (by decide) (Nat.le_of_ble_eq_true rfl) rfl ?_
  intro p e s0 m args below meth c ls XX hr I hl
  have hx := XX.x
  have hb := XX.b
  unfold f_O_harm at h
  refine lv_iload_n hx hb dX11_harm_0 rfl (lv_at hl 1 rfl) ?_
  refine lv_iconst (v := 1) hx hb dX11_harm_1 (by decide) ?_
  refine lv_iconst (v := 2) hx hb dX11_harm_2 (by decide) ?_
  refine scall_i (rest := []) XX I hl.1 (c_S_within l G OK x1 (1 : Int32) (2 : Int32) _ rfl) kS_X11_103 rfl rfl (Nat.le_of_ble_eq_true rfl) ⟨rfl, rfl, Nat.le_of_ble_eq_true rfl, Nat.le_of_ble_eq_true rfl⟩ ⟨Nat.zero_le _, Nat.zero_le _⟩ dX11_harm_3 (fun H locs hz1 I => ?_)
  refine lv_if_ne (tgt := 11) hx hb dX11_harm_6 (by decide) (fun c1 => ?_) (fun c1 => ?_)
  · replace h := if_f h c1
    refine lv_aload_n hx hb dX11_harm_11 rfl (lv_at hl 0 rfl) ?_
    refine gO_X11_o0_ahead XX I dX11_harm_12 ?_
    refine lv_aload_n hx hb dX11_harm_15 rfl (lv_at hl 0 rfl) ?_
    refine gO_X11_o0_now XX I dX11_harm_16 ?_
    refine lv_iconst (v := (-1)) hx hb dX11_harm_19 (by decide) ?_
    obtain ⟨s2, s3, q4, h⟩ := bd2_some h
    have RC := (Rc.mk XX I (q0 := 66) (ci := 0) rfl rfl)
    replace I : Iv G (va_A (bO G oa na ka aa ra pa sd yd td owa ++ (bV G na nwa ++ (bV G ka kpa ++ (bA G aa wa aha ++ (bV G wa awa ++ (bT G ra ma rda ++ (bV G ma mda ++ (bP G pa tpa ++ (bH G sd hha ++ (bY G yd td tha ++ (bK G td tra ++ []))))))))))) s0.heap.size) s0 _ _ (((bA G aa wa aha ++ (bV G wa awa ++ (bV G na nwa ++ [])))) ++ (bO G oa na ka aa ra pa sd yd td owa ++ (bV G ka kpa ++ (bT G ra ma rda ++ (bV G ma mda ++ (bP G pa tpa ++ (bH G sd hha ++ (bY G yd td tha ++ (bK G td tra ++ []))))))))) := I.perm (((((List.Perm.append_left _ ((List.Perm.append_left _ ((List.Perm.append_left _ (List.Perm.refl _)).trans (List.perm_append_comm_assoc _ _ _))).trans (List.perm_append_comm_assoc _ _ _))).trans (List.perm_append_comm_assoc _ _ _)).trans (List.Perm.append_left _ ((List.Perm.append_left _ ((List.Perm.append_left _ ((List.Perm.append_left _ (List.Perm.refl _)).trans (List.perm_append_comm_assoc _ _ _))).trans (List.perm_append_comm_assoc _ _ _))).trans (List.perm_append_comm_assoc _ _ _)))).trans (List.Perm.append_left _ (List.Perm.append_left _ ((List.Perm.append_left _ (List.Perm.refl _)).trans (List.perm_append_comm_assoc _ _ _))))).trans pasc3)
    refine call_v (X := []) (wc := ((bA G aa wa aha ++ (bV G wa awa ++ (bV G na nwa ++ []))))) (Y := (bO G oa na ka aa ra pa sd yd td owa ++ (bV G ka kpa ++ (bT G ra ma rda ++ (bV G ma mda ++ (bP G pa tpa ++ (bH G sd hha ++ (bY G yd td tha ++ (bK G td tra ++ []))))))))) (rest := []) XX I hl.1 (c_AU_look l G OK aa wa na fu aha awa nwa ((-1) : Int32) s2 s3 q4) kV_X11_203 RC rfl rfl (Nat.le_of_ble_eq_true rfl) ⟨rfl, rfl, Nat.le_of_ble_eq_true rfl, Nat.le_of_ble_eq_true rfl⟩ ⟨Nat.zero_le _, Nat.zero_le _⟩ dX11_harm_20 (fun H locs I => ?_)
    replace I : Iv G (va_A (bO G oa na ka aa ra pa sd yd td owa ++ (bV G na nwa ++ (bV G ka kpa ++ (bA G aa wa aha ++ (bV G wa awa ++ (bT G ra ma rda ++ (bV G ma mda ++ (bP G pa tpa ++ (bH G sd hha ++ (bY G yd td tha ++ (bK G td tra ++ []))))))))))) s0.heap.size) s0 H locs (bO G oa na ka aa ra pa sd yd td owa ++ (bV G na nwa ++ (bV G ka kpa ++ (bA G aa wa s2 ++ (bV G wa s3 ++ (bT G ra ma rda ++ (bV G ma mda ++ (bP G pa tpa ++ (bH G sd hha ++ (bY G yd td tha ++ (bK G td tra ++ []))))))))))) := Iv.perm (w := ((bA G aa wa s2 ++ (bV G wa s3 ++ (bV G na nwa ++ [])))) ++ (bO G oa na ka aa ra pa sd yd td owa ++ (bV G ka kpa ++ (bT G ra ma rda ++ (bV G ma mda ++ (bP G pa tpa ++ (bH G sd hha ++ (bY G yd td tha ++ (bK G td tra ++ []))))))))) I ((((((List.Perm.append_left _ ((List.Perm.append_left _ ((List.Perm.append_left _ (List.Perm.refl _)).trans (List.perm_append_comm_assoc _ _ _))).trans (List.perm_append_comm_assoc _ _ _))).trans (List.perm_append_comm_assoc _ _ _)).trans (List.Perm.append_left _ ((List.Perm.append_left _ ((List.Perm.append_left _ ((List.Perm.append_left _ (List.Perm.refl _)).trans (List.perm_append_comm_assoc _ _ _))).trans (List.perm_append_comm_assoc _ _ _))).trans (List.perm_append_comm_assoc _ _ _)))).trans (List.Perm.append_left _ (List.Perm.append_left _ ((List.Perm.append_left _ (List.Perm.refl _)).trans (List.perm_append_comm_assoc _ _ _))))).trans pasc3).symm)
    refine lv_aload_n hx hb dX11_harm_23 rfl (lv_at hl 0 rfl) ?_
    refine gO_X11_o0_ahead XX I dX11_harm_24 ?_
    refine lv_iload_n hx hb dX11_harm_27 rfl (lv_at hl 1 rfl) ?_
    obtain ⟨r6, s7, q8, h⟩ := bd2_some h
    have RC := (Rc.mk XX I (q0 := 66) (ci := 0) rfl rfl)
    replace I : Iv G (va_A (bO G oa na ka aa ra pa sd yd td owa ++ (bV G na nwa ++ (bV G ka kpa ++ (bA G aa wa aha ++ (bV G wa awa ++ (bT G ra ma rda ++ (bV G ma mda ++ (bP G pa tpa ++ (bH G sd hha ++ (bY G yd td tha ++ (bK G td tra ++ []))))))))))) s0.heap.size) s0 _ _ (((bA G aa wa s2 ++ (bV G wa s3 ++ []))) ++ (bO G oa na ka aa ra pa sd yd td owa ++ (bV G na nwa ++ (bV G ka kpa ++ (bT G ra ma rda ++ (bV G ma mda ++ (bP G pa tpa ++ (bH G sd hha ++ (bY G yd td tha ++ (bK G td tra ++ [])))))))))) := I.perm ((((List.Perm.append_left _ ((List.Perm.append_left _ ((List.Perm.append_left _ (List.Perm.refl _)).trans (List.perm_append_comm_assoc _ _ _))).trans (List.perm_append_comm_assoc _ _ _))).trans (List.perm_append_comm_assoc _ _ _)).trans (List.Perm.append_left _ ((List.Perm.append_left _ ((List.Perm.append_left _ ((List.Perm.append_left _ (List.Perm.refl _)).trans (List.perm_append_comm_assoc _ _ _))).trans (List.perm_append_comm_assoc _ _ _))).trans (List.perm_append_comm_assoc _ _ _)))).trans pasc2)
    refine call_i (X := []) (wc := ((bA G aa wa s2 ++ (bV G wa s3 ++ [])))) (Y := (bO G oa na ka aa ra pa sd yd td owa ++ (bV G na nwa ++ (bV G ka kpa ++ (bT G ra ma rda ++ (bV G ma mda ++ (bP G pa tpa ++ (bH G sd hha ++ (bY G yd td tha ++ (bK G td tra ++ [])))))))))) (rest := []) XX I hl.1 (c_A_leastHarm l G OK aa wa fu s2 s3 x1 r6 s7 q8) kV_X11_232 RC rfl rfl (Nat.le_of_ble_eq_true rfl) ⟨rfl, rfl, Nat.le_of_ble_eq_true rfl, Nat.le_of_ble_eq_true rfl⟩ ⟨Nat.zero_le _, Nat.zero_le _⟩ dX11_harm_28 (fun H locs hz9 I => ?_)
    replace I : Iv G (va_A (bO G oa na ka aa ra pa sd yd td owa ++ (bV G na nwa ++ (bV G ka kpa ++ (bA G aa wa aha ++ (bV G wa awa ++ (bT G ra ma rda ++ (bV G ma mda ++ (bP G pa tpa ++ (bH G sd hha ++ (bY G yd td tha ++ (bK G td tra ++ []))))))))))) s0.heap.size) s0 H locs (bO G oa na ka aa ra pa sd yd td owa ++ (bV G na nwa ++ (bV G ka kpa ++ (bA G aa wa s2 ++ (bV G wa s7 ++ (bT G ra ma rda ++ (bV G ma mda ++ (bP G pa tpa ++ (bH G sd hha ++ (bY G yd td tha ++ (bK G td tra ++ []))))))))))) := Iv.perm (w := ((bA G aa wa s2 ++ (bV G wa s7 ++ []))) ++ (bO G oa na ka aa ra pa sd yd td owa ++ (bV G na nwa ++ (bV G ka kpa ++ (bT G ra ma rda ++ (bV G ma mda ++ (bP G pa tpa ++ (bH G sd hha ++ (bY G yd td tha ++ (bK G td tra ++ [])))))))))) I (((((List.Perm.append_left _ ((List.Perm.append_left _ ((List.Perm.append_left _ (List.Perm.refl _)).trans (List.perm_append_comm_assoc _ _ _))).trans (List.perm_append_comm_assoc _ _ _))).trans (List.perm_append_comm_assoc _ _ _)).trans (List.Perm.append_left _ ((List.Perm.append_left _ ((List.Perm.append_left _ ((List.Perm.append_left _ (List.Perm.refl _)).trans (List.perm_append_comm_assoc _ _ _))).trans (List.perm_append_comm_assoc _ _ _))).trans (List.perm_append_comm_assoc _ _ _)))).trans pasc2).symm)
    obtain ⟨rfl, h9⟩ := some2 h
    obtain ⟨rfl, rfl⟩ := pair2 h9
    exact e_i rfl XX hr I rfl dX11_harm_31
  · replace h := if_t h c1
    refine lv_iconst (v := (-1)) hx hb dX11_harm_9 (by decide) ?_
    obtain ⟨rfl, h9⟩ := some2 h
    obtain ⟨rfl, rfl⟩ := pair2 h9
    exact e_i rfl XX hr I rfl dX11_harm_10
set_option maxHeartbeats 4000000 in
set_option maxRecDepth 100000 in
theorem c_O_spoilt (l : Launch) (G : g_G) (OK : EOk G.2.2) (oa : Nat → Nat) (na : Nat → Nat) (ka : Nat → Nat) (aa : Nat → Nat) (wa : Nat → Nat) (ra : Nat → Nat) (ma : Nat → Nat) (pa : Nat → Nat) (sd : Nat → Nat → Nat) (yd : Nat → Nat) (td : Nat → Nat) (fu : Nat) (owa : g_St) (nwa : g_St) (kpa : g_St) (aha : g_St) (awa : g_St) (rda : g_St) (mda : g_St) (tpa : g_St) (hha : g_Sf) (tha : g_St) (tra : g_St) (x1 : Int32) (x2 : Int32) (r : Int64) (tah : g_St) (taw : g_St) (h : f_O_spoilt fu nwa aha awa x1 x2 = some (r, tah, taw)) : HL l G yX11_spoilt (Cond.code yX11_spoilt cX11_spoilt 3 (some .long) :: gT) { frames := 26, cells := 0, slots := 0, locals := 644 } [.ref (oa 0), .int x1, .int x2] (bO G oa na ka aa ra pa sd yd td owa ++ (bV G na nwa ++ (bV G ka kpa ++ (bA G aa wa aha ++ (bV G wa awa ++ (bT G ra ma rda ++ (bV G ma mda ++ (bP G pa tpa ++ (bH G sd hha ++ (bY G yd td tha ++ (bK G td tra ++ []))))))))))) r (bO G oa na ka aa ra pa sd yd td owa ++ (bV G na nwa ++ (bV G ka kpa ++ (bA G aa wa tah ++ (bV G wa taw ++ (bT G ra ma rda ++ (bV G ma mda ++ (bP G pa tpa ++ (bH G sd hha ++ (bY G yd td tha ++ (bK G td tra ++ []))))))))))) := by
  refine HL.mk (lv := [(0, .ref (oa 0)), (1, .int x1), (2, .int x2)]) OK (by decide) (Nat.le_of_ble_eq_true rfl) rfl ?_
  intro p e s0 m args below meth c ls XX hr I hl
  have hx := XX.x
  have hb := XX.b
  unfold f_O_spoilt at h
  refine lv_iload_n hx hb dX11_spoilt_0 rfl (lv_at hl 1 rfl) ?_
  refine lv_iconst (v := 0) hx hb dX11_spoilt_1 (by decide) ?_
  refine lv_iconst (v := 3) hx hb dX11_spoilt_2 (by decide) ?_
  refine scall_i (rest := []) XX I hl.1 (c_S_within l G OK x1 (0 : Int32) (3 : Int32) _ rfl) kS_X11_103 rfl rfl (Nat.le_of_ble_eq_true rfl) ⟨rfl, rfl, Nat.le_of_ble_eq_true rfl, Nat.le_of_ble_eq_true rfl⟩ ⟨Nat.zero_le _, Nat.zero_le _⟩ dX11_spoilt_3 (fun H locs hz1 I => ?_)
  refine lv_if_eq (tgt := 18) hx hb dX11_spoilt_6 (by decide) (fun c1 => ?_) (fun c1 => ?_)
  · replace h := if_t h c1
    refine lv_ldc2 (v := (-1)) hx hb XX.o (XX.t _ wd_766) dX11_spoilt_18 ?_
    obtain ⟨rfl, h9⟩ := some2 h
    obtain ⟨rfl, rfl⟩ := pair2 h9
    exact e_l XX hr I rfl dX11_spoilt_21
  · replace h := if_f h c1
    refine lv_iload_n hx hb dX11_spoilt_9 rfl (lv_at hl 2 rfl) ?_
    refine lv_iconst (v := 0) hx hb dX11_spoilt_10 (by decide) ?_
    refine lv_iconst (v := 1) hx hb dX11_spoilt_11 (by decide) ?_
    refine scall_i (rest := []) XX I hl.1 (c_S_within l G OK x2 (0 : Int32) (1 : Int32) _ rfl) kS_X11_103 rfl rfl (Nat.le_of_ble_eq_true rfl) ⟨rfl, rfl, Nat.le_of_ble_eq_true rfl, Nat.le_of_ble_eq_true rfl⟩ ⟨Nat.zero_le _, Nat.zero_le _⟩ dX11_spoilt_12 (fun H locs hz2 I => ?_)
    refine lv_if_ne (tgt := 22) hx hb dX11_spoilt_15 (by decide) (fun c1 => ?_) (fun c1 => ?_)
    · replace h := if_f h c1
      refine lv_aload_n hx hb dX11_spoilt_22 rfl (lv_at hl 0 rfl) ?_
      refine gO_X11_o0_ahead XX I dX11_spoilt_23 ?_
      refine lv_aload_n hx hb dX11_spoilt_26 rfl (lv_at hl 0 rfl) ?_
      refine gO_X11_o0_now XX I dX11_spoilt_27 ?_
      refine lv_bipush (v := (-2)) hx hb dX11_spoilt_30 (by decide) ?_
      obtain ⟨s3, s4, q5, h⟩ := bd2_some h
      have RC := (Rc.mk XX I (q0 := 66) (ci := 0) rfl rfl)
      replace I : Iv G (va_A (bO G oa na ka aa ra pa sd yd td owa ++ (bV G na nwa ++ (bV G ka kpa ++ (bA G aa wa aha ++ (bV G wa awa ++ (bT G ra ma rda ++ (bV G ma mda ++ (bP G pa tpa ++ (bH G sd hha ++ (bY G yd td tha ++ (bK G td tra ++ []))))))))))) s0.heap.size) s0 _ _ (((bA G aa wa aha ++ (bV G wa awa ++ (bV G na nwa ++ [])))) ++ (bO G oa na ka aa ra pa sd yd td owa ++ (bV G ka kpa ++ (bT G ra ma rda ++ (bV G ma mda ++ (bP G pa tpa ++ (bH G sd hha ++ (bY G yd td tha ++ (bK G td tra ++ []))))))))) := I.perm (((((List.Perm.append_left _ ((List.Perm.append_left _ ((List.Perm.append_left _ (List.Perm.refl _)).trans (List.perm_append_comm_assoc _ _ _))).trans (List.perm_append_comm_assoc _ _ _))).trans (List.perm_append_comm_assoc _ _ _)).trans (List.Perm.append_left _ ((List.Perm.append_left _ ((List.Perm.append_left _ ((List.Perm.append_left _ (List.Perm.refl _)).trans (List.perm_append_comm_assoc _ _ _))).trans (List.perm_append_comm_assoc _ _ _))).trans (List.perm_append_comm_assoc _ _ _)))).trans (List.Perm.append_left _ (List.Perm.append_left _ ((List.Perm.append_left _ (List.Perm.refl _)).trans (List.perm_append_comm_assoc _ _ _))))).trans pasc3)
      refine call_v (X := []) (wc := ((bA G aa wa aha ++ (bV G wa awa ++ (bV G na nwa ++ []))))) (Y := (bO G oa na ka aa ra pa sd yd td owa ++ (bV G ka kpa ++ (bT G ra ma rda ++ (bV G ma mda ++ (bP G pa tpa ++ (bH G sd hha ++ (bY G yd td tha ++ (bK G td tra ++ []))))))))) (rest := []) XX I hl.1 (c_AU_look l G OK aa wa na fu aha awa nwa ((-2) : Int32) s3 s4 q5) kV_X11_203 RC rfl rfl (Nat.le_of_ble_eq_true rfl) ⟨rfl, rfl, Nat.le_of_ble_eq_true rfl, Nat.le_of_ble_eq_true rfl⟩ ⟨Nat.zero_le _, Nat.zero_le _⟩ dX11_spoilt_32 (fun H locs I => ?_)
      replace I : Iv G (va_A (bO G oa na ka aa ra pa sd yd td owa ++ (bV G na nwa ++ (bV G ka kpa ++ (bA G aa wa aha ++ (bV G wa awa ++ (bT G ra ma rda ++ (bV G ma mda ++ (bP G pa tpa ++ (bH G sd hha ++ (bY G yd td tha ++ (bK G td tra ++ []))))))))))) s0.heap.size) s0 H locs (bO G oa na ka aa ra pa sd yd td owa ++ (bV G na nwa ++ (bV G ka kpa ++ (bA G aa wa s3 ++ (bV G wa s4 ++ (bT G ra ma rda ++ (bV G ma mda ++ (bP G pa tpa ++ (bH G sd hha ++ (bY G yd td tha ++ (bK G td tra ++ []))))))))))) := Iv.perm (w := ((bA G aa wa s3 ++ (bV G wa s4 ++ (bV G na nwa ++ [])))) ++ (bO G oa na ka aa ra pa sd yd td owa ++ (bV G ka kpa ++ (bT G ra ma rda ++ (bV G ma mda ++ (bP G pa tpa ++ (bH G sd hha ++ (bY G yd td tha ++ (bK G td tra ++ []))))))))) I ((((((List.Perm.append_left _ ((List.Perm.append_left _ ((List.Perm.append_left _ (List.Perm.refl _)).trans (List.perm_append_comm_assoc _ _ _))).trans (List.perm_append_comm_assoc _ _ _))).trans (List.perm_append_comm_assoc _ _ _)).trans (List.Perm.append_left _ ((List.Perm.append_left _ ((List.Perm.append_left _ ((List.Perm.append_left _ (List.Perm.refl _)).trans (List.perm_append_comm_assoc _ _ _))).trans (List.perm_append_comm_assoc _ _ _))).trans (List.perm_append_comm_assoc _ _ _)))).trans (List.Perm.append_left _ (List.Perm.append_left _ ((List.Perm.append_left _ (List.Perm.refl _)).trans (List.perm_append_comm_assoc _ _ _))))).trans pasc3).symm)
      refine lv_aload_n hx hb dX11_spoilt_35 rfl (lv_at hl 0 rfl) ?_
      refine gO_X11_o0_ahead XX I dX11_spoilt_36 ?_
      refine lv_iload_n hx hb dX11_spoilt_39 rfl (lv_at hl 1 rfl) ?_
      obtain ⟨r7, q8, h⟩ := bd1_some h
      have RC := (Rc.mk XX I (q0 := 66) (ci := 0) rfl rfl)
      replace I : Iv G (va_A (bO G oa na ka aa ra pa sd yd td owa ++ (bV G na nwa ++ (bV G ka kpa ++ (bA G aa wa aha ++ (bV G wa awa ++ (bT G ra ma rda ++ (bV G ma mda ++ (bP G pa tpa ++ (bH G sd hha ++ (bY G yd td tha ++ (bK G td tra ++ []))))))))))) s0.heap.size) s0 _ _ (((bA G aa wa s3 ++ (bV G wa s4 ++ []))) ++ (bO G oa na ka aa ra pa sd yd td owa ++ (bV G na nwa ++ (bV G ka kpa ++ (bT G ra ma rda ++ (bV G ma mda ++ (bP G pa tpa ++ (bH G sd hha ++ (bY G yd td tha ++ (bK G td tra ++ [])))))))))) := I.perm ((((List.Perm.append_left _ ((List.Perm.append_left _ ((List.Perm.append_left _ (List.Perm.refl _)).trans (List.perm_append_comm_assoc _ _ _))).trans (List.perm_append_comm_assoc _ _ _))).trans (List.perm_append_comm_assoc _ _ _)).trans (List.Perm.append_left _ ((List.Perm.append_left _ ((List.Perm.append_left _ ((List.Perm.append_left _ (List.Perm.refl _)).trans (List.perm_append_comm_assoc _ _ _))).trans (List.perm_append_comm_assoc _ _ _))).trans (List.perm_append_comm_assoc _ _ _)))).trans pasc2)
      refine call_l (X := []) (wc := ((bA G aa wa s3 ++ (bV G wa s4 ++ [])))) (Y := (bO G oa na ka aa ra pa sd yd td owa ++ (bV G na nwa ++ (bV G ka kpa ++ (bT G ra ma rda ++ (bV G ma mda ++ (bP G pa tpa ++ (bH G sd hha ++ (bY G yd td tha ++ (bK G td tra ++ [])))))))))) (rest := []) XX I hl.1 (c_A_sum l G OK aa wa fu s3 s4 x1 r7 q8) kV_X11_207 RC rfl rfl (Nat.le_of_ble_eq_true rfl) ⟨rfl, rfl, Nat.le_of_ble_eq_true rfl, Nat.le_of_ble_eq_true rfl⟩ ⟨Nat.zero_le _, Nat.zero_le _⟩ dX11_spoilt_40 (fun H locs I => ?_)
      replace I : Iv G (va_A (bO G oa na ka aa ra pa sd yd td owa ++ (bV G na nwa ++ (bV G ka kpa ++ (bA G aa wa aha ++ (bV G wa awa ++ (bT G ra ma rda ++ (bV G ma mda ++ (bP G pa tpa ++ (bH G sd hha ++ (bY G yd td tha ++ (bK G td tra ++ []))))))))))) s0.heap.size) s0 H locs (bO G oa na ka aa ra pa sd yd td owa ++ (bV G na nwa ++ (bV G ka kpa ++ (bA G aa wa s3 ++ (bV G wa s4 ++ (bT G ra ma rda ++ (bV G ma mda ++ (bP G pa tpa ++ (bH G sd hha ++ (bY G yd td tha ++ (bK G td tra ++ []))))))))))) := Iv.perm (w := ((bA G aa wa s3 ++ (bV G wa s4 ++ []))) ++ (bO G oa na ka aa ra pa sd yd td owa ++ (bV G na nwa ++ (bV G ka kpa ++ (bT G ra ma rda ++ (bV G ma mda ++ (bP G pa tpa ++ (bH G sd hha ++ (bY G yd td tha ++ (bK G td tra ++ [])))))))))) I (((((List.Perm.append_left _ ((List.Perm.append_left _ ((List.Perm.append_left _ (List.Perm.refl _)).trans (List.perm_append_comm_assoc _ _ _))).trans (List.perm_append_comm_assoc _ _ _))).trans (List.perm_append_comm_assoc _ _ _)).trans (List.Perm.append_left _ ((List.Perm.append_left _ ((List.Perm.append_left _ ((List.Perm.append_left _ (List.Perm.refl _)).trans (List.perm_append_comm_assoc _ _ _))).trans (List.perm_append_comm_assoc _ _ _))).trans (List.perm_append_comm_assoc _ _ _)))).trans pasc2).symm)
      refine lv_aload_n hx hb dX11_spoilt_43 rfl (lv_at hl 0 rfl) ?_
      refine gO_X11_o0_ahead XX I dX11_spoilt_44 ?_
      refine gO_X11_o3_power XX I dX11_spoilt_47 ?_
      refine lv_iload_n hx hb dX11_spoilt_50 rfl (lv_at hl 1 rfl) ?_
      obtain ⟨g10, h⟩ := gd_some h
      refine r_lald XX I 67 (aO_power3) g10 dX11_spoilt_51 ?_
      refine lv_iload_n hx hb dX11_spoilt_52 rfl (lv_at hl 2 rfl) ?_
      obtain ⟨r11, q12, h⟩ := bd1_some h
      refine scall_l (rest := []) XX I hl.1 (c_S_partOf l G OK fu r7 (gt s3 1 x1.toNatClampNeg) x2 r11 q12) kS_X11_215 rfl rfl (Nat.le_of_ble_eq_true rfl) ⟨rfl, rfl, Nat.le_of_ble_eq_true rfl, Nat.le_of_ble_eq_true rfl⟩ ⟨Nat.zero_le _, Nat.zero_le _⟩ dX11_spoilt_53 (fun H locs I => ?_)
      obtain ⟨rfl, h9⟩ := some2 h
      obtain ⟨rfl, rfl⟩ := pair2 h9
      exact e_l XX hr I rfl dX11_spoilt_56
    · replace h := if_t h c1
      refine lv_ldc2 (v := (-1)) hx hb XX.o (XX.t _ wd_766) dX11_spoilt_18 ?_
      obtain ⟨rfl, h9⟩ := some2 h
      obtain ⟨rfl, rfl⟩ := pair2 h9
      exact e_l XX hr I rfl dX11_spoilt_21
set_option maxRecDepth 100000 in
theorem kV_X11_317 : KV RX11 317 RX9 yX9_isFall cX9_isFall 2 (some .boolean) 1 := KV.mk wd_775 wd_615 wd_616 wd_2 wd_617 (by decide +kernel)
set_option maxRecDepth 100000 in
theorem kV_X11_320 : KV RX11 320 RX9 yX9_noesAfter cX9_noesAfter 8 (some .int) 3 := KV.mk wd_776 wd_625 wd_626 wd_2 wd_627 (by decide +kernel)
set_option maxRecDepth 100000 in
theorem aO_rrow0 {G : g_G} {oa : Nat → Nat} {na : Nat → Nat} {ka : Nat → Nat} {aa : Nat → Nat} {wa : Nat → Nat} {ra : Nat → Nat} {ma : Nat → Nat} {pa : Nat → Nat} {sd : Nat → Nat → Nat} {yd : Nat → Nat} {td : Nat → Nat} {ow : g_St} {nw : g_St} {kp : g_St} {ah : g_St} {aw : g_St} {rd : g_St} {md : g_St} {tp : g_St} {hh : g_Sf} {th : g_St} {tr : g_St} {q : Nat} (hq : q < 12) : (bO G oa na ka aa ra pa sd yd td ow ++ (bV G na nw ++ (bV G ka kp ++ (bA G aa wa ah ++ (bV G wa aw ++ (bT G ra ma rd ++ (bV G ma md ++ (bP G pa tp ++ (bH G sd hh ++ (bY G yd td th ++ (bK G td tr ++ [])))))))))))[8 + q]? = some (oa (100 + q), .inl (G.2.1 0, 3, .inl (gr ow (100 + q)))) := by rcases (show q = 0 ∨ q = 1 ∨ q = 2 ∨ q = 3 ∨ q = 4 ∨ q = 5 ∨ q = 6 ∨ q = 7 ∨ q = 8 ∨ q = 9 ∨ q = 10 ∨ q = 11 by omega) with rfl | rfl | rfl | rfl | rfl | rfl | rfl | rfl | rfl | rfl | rfl | rfl <;> rfl
set_option maxRecDepth 100000 in
theorem sO_rrow0 {G : g_G} {oa : Nat → Nat} {na : Nat → Nat} {ka : Nat → Nat} {aa : Nat → Nat} {wa : Nat → Nat} {ra : Nat → Nat} {ma : Nat → Nat} {pa : Nat → Nat} {sd : Nat → Nat → Nat} {yd : Nat → Nat} {td : Nat → Nat} {ow : g_St} {nw : g_St} {kp : g_St} {ah : g_St} {aw : g_St} {rd : g_St} {md : g_St} {tp : g_St} {hh : g_Sf} {th : g_St} {tr : g_St} {q : Nat} (hq : q < 12) {i x : Int32} : (bO G oa na ka aa ra pa sd yd td ow ++ (bV G na nw ++ (bV G ka kp ++ (bA G aa wa ah ++ (bV G wa aw ++ (bT G ra ma rd ++ (bV G ma md ++ (bP G pa tp ++ (bH G sd hh ++ (bY G yd td th ++ (bK G td tr ++ []))))))))))).set (8 + q) (oa (100 + q), .inl (G.2.1 0, 3, .inl (upd (gr ow (100 + q)) i.toNatClampNeg x))) = (bO G oa na ka aa ra pa sd yd td (sr ow (100 + q) i x) ++ (bV G na nw ++ (bV G ka kp ++ (bA G aa wa ah ++ (bV G wa aw ++ (bT G ra ma rd ++ (bV G ma md ++ (bP G pa tp ++ (bH G sd hh ++ (bY G yd td th ++ (bK G td tr ++ []))))))))))) := by rcases (show q = 0 ∨ q = 1 ∨ q = 2 ∨ q = 3 ∨ q = 4 ∨ q = 5 ∨ q = 6 ∨ q = 7 ∨ q = 8 ∨ q = 9 ∨ q = 10 ∨ q = 11 by omega) with rfl | rfl | rfl | rfl | rfl | rfl | rfl | rfl | rfl | rfl | rfl | rfl <;> rfl
set_option maxHeartbeats 4000000 in
set_option maxRecDepth 100000 in
theorem c_O_fillRows_rows (l : Launch) (G : g_G) (OK : EOk G.2.2) (oa : Nat → Nat) (na : Nat → Nat) (ka : Nat → Nat) (aa : Nat → Nat) (wa : Nat → Nat) (ra : Nat → Nat) (ma : Nat → Nat) (pa : Nat → Nat) (sd : Nat → Nat → Nat) (yd : Nat → Nat) (td : Nat → Nat) (fu : Nat) (owa : g_St) (nwa : g_St) (kpa : g_St) (aha : g_St) (awa : g_St) (rda : g_St) (mda : g_St) (tpa : g_St) (hha : g_Sf) (tha : g_St) (tra : g_St) (x2 : Int32) (tow : g_St) (h : f_O_fillRows_rows fu owa nwa x2 = some tow) : HV l G yX11_fillRows (Cond.code yX11_fillRows cX11_fillRows 9 none :: gT) { frames := 4, cells := 0, slots := 0, locals := 99 } [.ref (oa 0), .ref (oa 8), .int x2] (bO G oa na ka aa ra pa sd yd td owa ++ (bV G na nwa ++ (bV G ka kpa ++ (bA G aa wa aha ++ (bV G wa awa ++ (bT G ra ma rda ++ (bV G ma mda ++ (bP G pa tpa ++ (bH G sd hha ++ (bY G yd td tha ++ (bK G td tra ++ []))))))))))) (bO G oa na ka aa ra pa sd yd td tow ++ (bV G na nwa ++ (bV G ka kpa ++ (bA G aa wa aha ++ (bV G wa awa ++ (bT G ra ma rda ++ (bV G ma mda ++ (bP G pa tpa ++ (bH G sd hha ++ (bY G yd td tha ++ (bK G td tra ++ []))))))))))) := by
  refine HV.mk (lv := [(0, .ref (oa 0)), (1, .ref (oa 8)), (2, .int x2)]) OK (by decide) (Nat.le_of_ble_eq_true rfl) rfl ?_
  intro p e s0 m args below meth c ls XX hr I hl
  have hx := XX.x
  have hb := XX.b
  have C112 : ∀ (k31 : g_St → g_St → Int32 → Int32 → Int32 → Int32 → Int32 → Option (g_St)), (∀ (ow : g_St) (v2 : Int32) (v3 : Int32) (v4 : Int32) (v5 : Int32) (v6 : Int32), k31 ow nwa v2 v3 v4 v5 v6 = some tow → ∀ (H : Heap) (locs : List Loc), Iv G (va_A (bO G oa na ka aa ra pa sd yd td owa ++ (bV G na nwa ++ (bV G ka kpa ++ (bA G aa wa aha ++ (bV G wa awa ++ (bT G ra ma rda ++ (bV G ma mda ++ (bP G pa tpa ++ (bH G sd hha ++ (bY G yd td tha ++ (bK G td tra ++ []))))))))))) s0.heap.size) s0 H locs (bO G oa na ka aa ra pa sd yd td ow ++ (bV G na nwa ++ (bV G ka kpa ++ (bA G aa wa aha ++ (bV G wa awa ++ (bT G ra ma rda ++ (bV G ma mda ++ (bP G pa tpa ++ (bH G sd hha ++ (bY G yd td tha ++ (bK G td tra ++ []))))))))))) → ∀ ls, lv_has ls 9 [(0, .ref (oa 0)), (1, .ref (oa 8)), (2, .int v2), (3, .int v3), (4, .int v4), (5, .int v5), (6, .int v6)] → W p l e { frames := 4, cells := 0, slots := 0, locals := 99 } s0 m args below meth c H locs 0 0 (QV G below (bO G oa na ka aa ra pa sd yd td owa ++ (bV G na nwa ++ (bV G ka kpa ++ (bA G aa wa aha ++ (bV G wa awa ++ (bT G ra ma rda ++ (bV G ma mda ++ (bP G pa tpa ++ (bH G sd hha ++ (bY G yd td tha ++ (bK G td tra ++ []))))))))))) (bO G oa na ka aa ra pa sd yd td tow ++ (bV G na nwa ++ (bV G ka kpa ++ (bA G aa wa aha ++ (bV G wa awa ++ (bT G ra ma rda ++ (bV G ma mda ++ (bP G pa tpa ++ (bH G sd hha ++ (bY G yd td tha ++ (bK G td tra ++ []))))))))))) args s0) (F0 m 31 ls [])) → ∀ (ow : g_St) (v2 : Int32) (v3 : Int32) (v4 : Int32) (v5 : Int32) (v6 : Int32) (v8 : Int32) (z0 : Int32) (z1 : Int32) (ws2 : Int32), f_O_fillRows_rows_L112 fu k31 ow nwa v2 v3 v4 v5 v6 v8 z0 z1 ws2 = some tow → ∀ (H : Heap) (locs : List Loc), Iv G (va_A (bO G oa na ka aa ra pa sd yd td owa ++ (bV G na nwa ++ (bV G ka kpa ++ (bA G aa wa aha ++ (bV G wa awa ++ (bT G ra ma rda ++ (bV G ma mda ++ (bP G pa tpa ++ (bH G sd hha ++ (bY G yd td tha ++ (bK G td tra ++ []))))))))))) s0.heap.size) s0 H locs (bO G oa na ka aa ra pa sd yd td ow ++ (bV G na nwa ++ (bV G ka kpa ++ (bA G aa wa aha ++ (bV G wa awa ++ (bT G ra ma rda ++ (bV G ma mda ++ (bP G pa tpa ++ (bH G sd hha ++ (bY G yd td tha ++ (bK G td tra ++ []))))))))))) → ∀ ls, lv_has ls 9 [(0, .ref (oa 0)), (1, .ref (oa 8)), (2, .int v2), (3, .int v3), (4, .int v4), (5, .int v5), (6, .int v6), (8, .int v8)] → vp_in ws2 12 → narrow .boolean (.int z0) = .int z0 → W p l e { frames := 4, cells := 0, slots := 0, locals := 99 } s0 m args below meth c H locs 0 0 (QV G below (bO G oa na ka aa ra pa sd yd td owa ++ (bV G na nwa ++ (bV G ka kpa ++ (bA G aa wa aha ++ (bV G wa awa ++ (bT G ra ma rda ++ (bV G ma mda ++ (bP G pa tpa ++ (bH G sd hha ++ (bY G yd td tha ++ (bK G td tra ++ []))))))))))) (bO G oa na ka aa ra pa sd yd td tow ++ (bV G na nwa ++ (bV G ka kpa ++ (bA G aa wa aha ++ (bV G wa awa ++ (bT G ra ma rda ++ (bV G ma mda ++ (bP G pa tpa ++ (bH G sd hha ++ (bY G yd td tha ++ (bK G td tra ++ []))))))))))) args s0) (F0 m 112 ls [.int z0, .int z1, .ref (oa (100 + ws2.toNatClampNeg))]) := by
    intro k31 hk31
    intro ow v2 v3 v4 v5 v6 v8 z0 z1 ws2 h H locs I ls hl hws2 hz0
    unfold f_O_fillRows_rows_L112 at h
    obtain ⟨g20, h⟩ := gd_some h
    refine r_iast XX I (8 + ws2.toNatClampNeg) (aO_rrow0 (vin_lt hws2)) (sO_rrow0 (vin_lt hws2)) g20 dX11_fillRows_112 (fun H locs I => ?_)
    obtain ⟨s21, es21⟩ : ∃ z, z = sr ow (100 + ws2.toNatClampNeg) z1 z0 := ⟨_, rfl⟩
    replace h := lt_e h es21
    replace I : Iv G (va_A (bO G oa na ka aa ra pa sd yd td owa ++ (bV G na nwa ++ (bV G ka kpa ++ (bA G aa wa aha ++ (bV G wa awa ++ (bT G ra ma rda ++ (bV G ma mda ++ (bP G pa tpa ++ (bH G sd hha ++ (bY G yd td tha ++ (bK G td tra ++ []))))))))))) s0.heap.size) s0 H locs (bO G oa na ka aa ra pa sd yd td s21 ++ (bV G na nwa ++ (bV G ka kpa ++ (bA G aa wa aha ++ (bV G wa awa ++ (bT G ra ma rda ++ (bV G ma mda ++ (bP G pa tpa ++ (bH G sd hha ++ (bY G yd td tha ++ (bK G td tra ++ []))))))))))) := by rw [es21]; exact I
    refine lv_aload_n hx hb dX11_fillRows_113 rfl (lv_at hl 0 rfl) ?_
    refine gO_X11_o0_now XX I dX11_fillRows_114 ?_
    refine lv_iload hx hb dX11_fillRows_117 (lv_at hl 7 rfl) ?_
    refine lv_iload hx hb dX11_fillRows_119 (lv_at hl 4 rfl) ?_
    refine lv_iload hx hb dX11_fillRows_121 (lv_at hl 5 rfl) ?_
    obtain ⟨r22, q23, h⟩ := bd1_some h
    have RC := (Rc.mk XX I (q0 := 32) (ci := 9) rfl rfl)
    replace I : Iv G (va_A (bO G oa na ka aa ra pa sd yd td owa ++ (bV G na nwa ++ (bV G ka kpa ++ (bA G aa wa aha ++ (bV G wa awa ++ (bT G ra ma rda ++ (bV G ma mda ++ (bP G pa tpa ++ (bH G sd hha ++ (bY G yd td tha ++ (bK G td tra ++ []))))))))))) s0.heap.size) s0 _ _ ((bV G na nwa) ++ (bO G oa na ka aa ra pa sd yd td s21 ++ (bV G ka kpa ++ (bA G aa wa aha ++ (bV G wa awa ++ (bT G ra ma rda ++ (bV G ma mda ++ (bP G pa tpa ++ (bH G sd hha ++ (bY G yd td tha ++ (bK G td tra ++ []))))))))))) := I.perm ((List.Perm.append_left _ (List.Perm.refl _)).trans (List.perm_append_comm_assoc _ _ _))
    refine call_i (X := []) (wc := (bV G na nwa)) (Y := (bO G oa na ka aa ra pa sd yd td s21 ++ (bV G ka kpa ++ (bA G aa wa aha ++ (bV G wa awa ++ (bT G ra ma rda ++ (bV G ma mda ++ (bP G pa tpa ++ (bH G sd hha ++ (bY G yd td tha ++ (bK G td tra ++ []))))))))))) (rest := []) XX I hl.1 (c_V_noesAfter l G OK na fu nwa v8 v4 v5 r22 q23) kV_X11_320 RC rfl rfl (Nat.le_of_ble_eq_true rfl) ⟨rfl, rfl, Nat.le_of_ble_eq_true rfl, Nat.le_of_ble_eq_true rfl⟩ ⟨Nat.zero_le _, Nat.zero_le _⟩ dX11_fillRows_123 (fun H locs hz24 I => ?_)
    replace I : Iv G (va_A (bO G oa na ka aa ra pa sd yd td owa ++ (bV G na nwa ++ (bV G ka kpa ++ (bA G aa wa aha ++ (bV G wa awa ++ (bT G ra ma rda ++ (bV G ma mda ++ (bP G pa tpa ++ (bH G sd hha ++ (bY G yd td tha ++ (bK G td tra ++ []))))))))))) s0.heap.size) s0 H locs (bO G oa na ka aa ra pa sd yd td s21 ++ (bV G na nwa ++ (bV G ka kpa ++ (bA G aa wa aha ++ (bV G wa awa ++ (bT G ra ma rda ++ (bV G ma mda ++ (bP G pa tpa ++ (bH G sd hha ++ (bY G yd td tha ++ (bK G td tra ++ []))))))))))) := Iv.perm (w := (bV G na nwa) ++ (bO G oa na ka aa ra pa sd yd td s21 ++ (bV G ka kpa ++ (bA G aa wa aha ++ (bV G wa awa ++ (bT G ra ma rda ++ (bV G ma mda ++ (bP G pa tpa ++ (bH G sd hha ++ (bY G yd td tha ++ (bK G td tra ++ []))))))))))) I (((List.Perm.append_left _ (List.Perm.refl _)).trans (List.perm_append_comm_assoc _ _ _)).symm)
    refine lv_istore (lv' := [(5, .int r22), (0, .ref (oa 0)), (1, .ref (oa 8)), (2, .int v2), (3, .int v3), (4, .int v4), (6, .int v6), (8, .int v8)]) hx hb dX11_fillRows_126 hl (by decide) rfl (fun ls hl => ?_)
    obtain ⟨y25, ey25⟩ : ∃ z : Int32, z = v4 + (1 : Int32) := ⟨_, rfl⟩
    replace h := lt_e h ey25
    refine lv_iinc (v := y25) (lv' := [(4, .int y25), (5, .int r22), (0, .ref (oa 0)), (1, .ref (oa 8)), (2, .int v2), (3, .int v3), (6, .int v6), (8, .int v8)]) hx hb dX11_fillRows_128 hl (k := 5) rfl (by rw [ey25]; rfl) (by decide) rfl (fun ls hl => ?_)
    obtain ⟨y26, ey26⟩ : ∃ z : Int32, z = v6 + (1 : Int32) := ⟨_, rfl⟩
    replace h := lt_e h ey26
    refine lv_iinc (v := y26) (lv' := [(6, .int y26), (4, .int y25), (5, .int r22), (0, .ref (oa 0)), (1, .ref (oa 8)), (2, .int v2), (3, .int v3), (8, .int v8)]) hx hb dX11_fillRows_131 hl (k := 6) rfl (by rw [ey26]; rfl) (by decide) rfl (fun ls hl => ?_)
    refine lv_goto (tgt := 31) hx hb dX11_fillRows_134 (by decide) ?_
    exact hk31 _ _ _ _ _ _ h _ _ I ls (lv_sub hl [3, 4, 5, 6, 1, 2, 0] rfl)
  have C31 : ∀ n : Nat, ∀ (ow : g_St) (v2 : Int32) (v3 : Int32) (v4 : Int32) (v5 : Int32) (v6 : Int32), f_O_fillRows_rows_L31 fu n ow nwa v2 v3 v4 v5 v6 = some tow → ∀ (H : Heap) (locs : List Loc), Iv G (va_A (bO G oa na ka aa ra pa sd yd td owa ++ (bV G na nwa ++ (bV G ka kpa ++ (bA G aa wa aha ++ (bV G wa awa ++ (bT G ra ma rda ++ (bV G ma mda ++ (bP G pa tpa ++ (bH G sd hha ++ (bY G yd td tha ++ (bK G td tra ++ []))))))))))) s0.heap.size) s0 H locs (bO G oa na ka aa ra pa sd yd td ow ++ (bV G na nwa ++ (bV G ka kpa ++ (bA G aa wa aha ++ (bV G wa awa ++ (bT G ra ma rda ++ (bV G ma mda ++ (bP G pa tpa ++ (bH G sd hha ++ (bY G yd td tha ++ (bK G td tra ++ []))))))))))) → ∀ ls, lv_has ls 9 [(0, .ref (oa 0)), (1, .ref (oa 8)), (2, .int v2), (3, .int v3), (4, .int v4), (5, .int v5), (6, .int v6)] → W p l e { frames := 4, cells := 0, slots := 0, locals := 99 } s0 m args below meth c H locs 0 0 (QV G below (bO G oa na ka aa ra pa sd yd td owa ++ (bV G na nwa ++ (bV G ka kpa ++ (bA G aa wa aha ++ (bV G wa awa ++ (bT G ra ma rda ++ (bV G ma mda ++ (bP G pa tpa ++ (bH G sd hha ++ (bY G yd td tha ++ (bK G td tra ++ []))))))))))) (bO G oa na ka aa ra pa sd yd td tow ++ (bV G na nwa ++ (bV G ka kpa ++ (bA G aa wa aha ++ (bV G wa awa ++ (bT G ra ma rda ++ (bV G ma mda ++ (bP G pa tpa ++ (bH G sd hha ++ (bY G yd td tha ++ (bK G td tra ++ []))))))))))) args s0) (F0 m 31 ls []) := by
    intro n
    induction n with
    | zero => intro ow v2 v3 v4 v5 v6 h; exact absurd h (fun q => by cases q)
    | succ n ih =>
      intro ow v2 v3 v4 v5 v6 h H locs I ls hl
      rw [f_O_fillRows_rows_L31] at h
      refine lv_iload hx hb dX11_fillRows_31 (lv_at hl 6 rfl) ?_
      refine lv_iload_n hx hb dX11_fillRows_33 rfl (lv_at hl 2 rfl) ?_
      refine lv_icmp_ge (tgt := 137) hx hb dX11_fillRows_34 (by decide) (fun c1 => ?_) (fun c1 => ?_)
      · replace h := if_t h c1
        obtain rfl := some1 h
        exact e_v XX hr I dX11_fillRows_137
      · replace h := if_f h c1
        refine lv_iload hx hb dX11_fillRows_37 (lv_at hl 6 rfl) ?_
        refine lv_bipush (v := 12) hx hb dX11_fillRows_39 (by decide) ?_
        refine lv_icmp_ge (tgt := 137) hx hb dX11_fillRows_41 (by decide) (fun c1 => ?_) (fun c1 => ?_)
        · replace h := if_t h c1
          obtain rfl := some1 h
          exact e_v XX hr I dX11_fillRows_137
        · replace h := if_f h c1
          refine lv_iload_n hx hb dX11_fillRows_44 rfl (lv_at hl 3 rfl) ?_
          refine scall_i (rest := []) XX I hl.1 (c_S_nextLot l G OK v3 _ rfl) kS_X11_191 rfl rfl (Nat.le_of_ble_eq_true rfl) ⟨rfl, rfl, Nat.le_of_ble_eq_true rfl, Nat.le_of_ble_eq_true rfl⟩ ⟨Nat.zero_le _, Nat.zero_le _⟩ dX11_fillRows_45 (fun H locs hz6 I => ?_)
          refine lv_topi (fun y7 ey7 => ?_)
          replace h := lt_e h ey7
          refine lv_istore_n (lv' := [(3, .int y7), (0, .ref (oa 0)), (1, .ref (oa 8)), (2, .int v2), (4, .int v4), (5, .int v5), (6, .int v6)]) hx hb dX11_fillRows_48 rfl hl (by decide) rfl (fun ls hl => ?_)
          refine lv_aload_n hx hb dX11_fillRows_49 rfl (lv_at hl 1 rfl) ?_
          refine gO_X11_o0_now XX I dX11_fillRows_50 ?_
          refine lv_iload_n hx hb dX11_fillRows_53 rfl (lv_at hl 0 rfl) ?_
          obtain ⟨r8, q9, h⟩ := bd1_some h
          have RC := (Rc.mk XX I (q0 := 32) (ci := 9) rfl rfl)
          replace I : Iv G (va_A (bO G oa na ka aa ra pa sd yd td owa ++ (bV G na nwa ++ (bV G ka kpa ++ (bA G aa wa aha ++ (bV G wa awa ++ (bT G ra ma rda ++ (bV G ma mda ++ (bP G pa tpa ++ (bH G sd hha ++ (bY G yd td tha ++ (bK G td tra ++ []))))))))))) s0.heap.size) s0 _ _ ((bV G na nwa) ++ (bO G oa na ka aa ra pa sd yd td ow ++ (bV G ka kpa ++ (bA G aa wa aha ++ (bV G wa awa ++ (bT G ra ma rda ++ (bV G ma mda ++ (bP G pa tpa ++ (bH G sd hha ++ (bY G yd td tha ++ (bK G td tra ++ []))))))))))) := I.perm ((List.Perm.append_left _ (List.Perm.refl _)).trans (List.perm_append_comm_assoc _ _ _))
          refine call_i (X := []) (wc := (bV G na nwa)) (Y := (bO G oa na ka aa ra pa sd yd td ow ++ (bV G ka kpa ++ (bA G aa wa aha ++ (bV G wa awa ++ (bT G ra ma rda ++ (bV G ma mda ++ (bP G pa tpa ++ (bH G sd hha ++ (bY G yd td tha ++ (bK G td tra ++ []))))))))))) (rest := []) XX I hl.1 (c_V_drawn l G OK na fu nwa y7 r8 q9) kV_X11_194 RC rfl rfl (Nat.le_of_ble_eq_true rfl) ⟨rfl, rfl, Nat.le_of_ble_eq_true rfl, Nat.le_of_ble_eq_true rfl⟩ ⟨Nat.zero_le _, Nat.zero_le _⟩ dX11_fillRows_54 (fun H locs hz10 I => ?_)
          replace I : Iv G (va_A (bO G oa na ka aa ra pa sd yd td owa ++ (bV G na nwa ++ (bV G ka kpa ++ (bA G aa wa aha ++ (bV G wa awa ++ (bT G ra ma rda ++ (bV G ma mda ++ (bP G pa tpa ++ (bH G sd hha ++ (bY G yd td tha ++ (bK G td tra ++ []))))))))))) s0.heap.size) s0 H locs (bO G oa na ka aa ra pa sd yd td ow ++ (bV G na nwa ++ (bV G ka kpa ++ (bA G aa wa aha ++ (bV G wa awa ++ (bT G ra ma rda ++ (bV G ma mda ++ (bP G pa tpa ++ (bH G sd hha ++ (bY G yd td tha ++ (bK G td tra ++ []))))))))))) := Iv.perm (w := (bV G na nwa) ++ (bO G oa na ka aa ra pa sd yd td ow ++ (bV G ka kpa ++ (bA G aa wa aha ++ (bV G wa awa ++ (bT G ra ma rda ++ (bV G ma mda ++ (bP G pa tpa ++ (bH G sd hha ++ (bY G yd td tha ++ (bK G td tra ++ []))))))))))) I (((List.Perm.append_left _ (List.Perm.refl _)).trans (List.perm_append_comm_assoc _ _ _)).symm)
          refine lv_istore (lv' := [(7, .int r8), (3, .int y7), (0, .ref (oa 0)), (1, .ref (oa 8)), (2, .int v2), (4, .int v4), (5, .int v5), (6, .int v6)]) hx hb dX11_fillRows_57 hl (by decide) rfl (fun ls hl => ?_)
          refine lv_aload_n hx hb dX11_fillRows_59 rfl (lv_at hl 2 rfl) ?_
          refine gO_X11_o0_now XX I dX11_fillRows_60 ?_
          refine lv_iload hx hb dX11_fillRows_63 (lv_at hl 0 rfl) ?_
          refine lv_iload hx hb dX11_fillRows_65 (lv_at hl 5 rfl) ?_
          refine lv_iload hx hb dX11_fillRows_67 (lv_at hl 6 rfl) ?_
          obtain ⟨r11, q12, h⟩ := bd1_some h
          have RC := (Rc.mk XX I (q0 := 32) (ci := 9) rfl rfl)
          replace I : Iv G (va_A (bO G oa na ka aa ra pa sd yd td owa ++ (bV G na nwa ++ (bV G ka kpa ++ (bA G aa wa aha ++ (bV G wa awa ++ (bT G ra ma rda ++ (bV G ma mda ++ (bP G pa tpa ++ (bH G sd hha ++ (bY G yd td tha ++ (bK G td tra ++ []))))))))))) s0.heap.size) s0 _ _ ((bV G na nwa) ++ (bO G oa na ka aa ra pa sd yd td ow ++ (bV G ka kpa ++ (bA G aa wa aha ++ (bV G wa awa ++ (bT G ra ma rda ++ (bV G ma mda ++ (bP G pa tpa ++ (bH G sd hha ++ (bY G yd td tha ++ (bK G td tra ++ []))))))))))) := I.perm ((List.Perm.append_left _ (List.Perm.refl _)).trans (List.perm_append_comm_assoc _ _ _))
          refine call_i (X := []) (wc := (bV G na nwa)) (Y := (bO G oa na ka aa ra pa sd yd td ow ++ (bV G ka kpa ++ (bA G aa wa aha ++ (bV G wa awa ++ (bT G ra ma rda ++ (bV G ma mda ++ (bP G pa tpa ++ (bH G sd hha ++ (bY G yd td tha ++ (bK G td tra ++ []))))))))))) (rest := []) XX I hl.1 (c_V_whoSays l G OK na fu nwa r8 v4 v5 r11 q12) kV_X11_182 RC rfl rfl (Nat.le_of_ble_eq_true rfl) ⟨rfl, rfl, Nat.le_of_ble_eq_true rfl, Nat.le_of_ble_eq_true rfl⟩ ⟨Nat.zero_le _, Nat.zero_le _⟩ dX11_fillRows_69 (fun H locs hz13 I => ?_)
          replace I : Iv G (va_A (bO G oa na ka aa ra pa sd yd td owa ++ (bV G na nwa ++ (bV G ka kpa ++ (bA G aa wa aha ++ (bV G wa awa ++ (bT G ra ma rda ++ (bV G ma mda ++ (bP G pa tpa ++ (bH G sd hha ++ (bY G yd td tha ++ (bK G td tra ++ []))))))))))) s0.heap.size) s0 H locs (bO G oa na ka aa ra pa sd yd td ow ++ (bV G na nwa ++ (bV G ka kpa ++ (bA G aa wa aha ++ (bV G wa awa ++ (bT G ra ma rda ++ (bV G ma mda ++ (bP G pa tpa ++ (bH G sd hha ++ (bY G yd td tha ++ (bK G td tra ++ []))))))))))) := Iv.perm (w := (bV G na nwa) ++ (bO G oa na ka aa ra pa sd yd td ow ++ (bV G ka kpa ++ (bA G aa wa aha ++ (bV G wa awa ++ (bT G ra ma rda ++ (bV G ma mda ++ (bP G pa tpa ++ (bH G sd hha ++ (bY G yd td tha ++ (bK G td tra ++ []))))))))))) I (((List.Perm.append_left _ (List.Perm.refl _)).trans (List.perm_append_comm_assoc _ _ _)).symm)
          refine lv_istore (lv' := [(8, .int r11), (7, .int r8), (3, .int y7), (0, .ref (oa 0)), (1, .ref (oa 8)), (2, .int v2), (4, .int v4), (5, .int v5), (6, .int v6)]) hx hb dX11_fillRows_72 hl (by decide) rfl (fun ls hl => ?_)
          refine lv_aload_n hx hb dX11_fillRows_74 rfl (lv_at hl 4 rfl) ?_
          refine lv_iload hx hb dX11_fillRows_75 (lv_at hl 8 rfl) ?_
          obtain ⟨g14, h⟩ := gd_some h
          refine r_aaldI XX I 1 rfl (v := .ref (oa (100 + v6.toNatClampNeg))) rfl g14 dX11_fillRows_77 ?_
          refine lv_iconst (v := 0) hx hb dX11_fillRows_78 (by decide) ?_
          refine lv_iload hx hb dX11_fillRows_79 (lv_at hl 1 rfl) ?_
          refine r_iast XX I (8 + v6.toNatClampNeg) (aO_rrow0 (vin_lt g14)) (sO_rrow0 (vin_lt g14)) (by unfold vp_in; decide) dX11_fillRows_81 (fun H locs I => ?_)
          obtain ⟨s15, es15⟩ : ∃ z, z = sr ow (100 + v6.toNatClampNeg) (0 : Int32) r8 := ⟨_, rfl⟩
          replace h := lt_e h es15
          replace I : Iv G (va_A (bO G oa na ka aa ra pa sd yd td owa ++ (bV G na nwa ++ (bV G ka kpa ++ (bA G aa wa aha ++ (bV G wa awa ++ (bT G ra ma rda ++ (bV G ma mda ++ (bP G pa tpa ++ (bH G sd hha ++ (bY G yd td tha ++ (bK G td tra ++ []))))))))))) s0.heap.size) s0 H locs (bO G oa na ka aa ra pa sd yd td s15 ++ (bV G na nwa ++ (bV G ka kpa ++ (bA G aa wa aha ++ (bV G wa awa ++ (bT G ra ma rda ++ (bV G ma mda ++ (bP G pa tpa ++ (bH G sd hha ++ (bY G yd td tha ++ (bK G td tra ++ []))))))))))) := by rw [es15]; exact I
          refine lv_aload_n hx hb dX11_fillRows_82 rfl (lv_at hl 4 rfl) ?_
          refine lv_iload hx hb dX11_fillRows_83 (lv_at hl 8 rfl) ?_
          obtain ⟨g16, h⟩ := gd_some h
          refine r_aaldI XX I 1 rfl (v := .ref (oa (100 + v6.toNatClampNeg))) rfl g16 dX11_fillRows_85 ?_
          refine lv_iconst (v := 1) hx hb dX11_fillRows_86 (by decide) ?_
          refine lv_iload hx hb dX11_fillRows_87 (lv_at hl 0 rfl) ?_
          refine r_iast XX I (8 + v6.toNatClampNeg) (aO_rrow0 (vin_lt g16)) (sO_rrow0 (vin_lt g16)) (by unfold vp_in; decide) dX11_fillRows_89 (fun H locs I => ?_)
          obtain ⟨s17, es17⟩ : ∃ z, z = sr s15 (100 + v6.toNatClampNeg) (1 : Int32) r11 := ⟨_, rfl⟩
          replace h := lt_e h es17
          replace I : Iv G (va_A (bO G oa na ka aa ra pa sd yd td owa ++ (bV G na nwa ++ (bV G ka kpa ++ (bA G aa wa aha ++ (bV G wa awa ++ (bT G ra ma rda ++ (bV G ma mda ++ (bP G pa tpa ++ (bH G sd hha ++ (bY G yd td tha ++ (bK G td tra ++ []))))))))))) s0.heap.size) s0 H locs (bO G oa na ka aa ra pa sd yd td s17 ++ (bV G na nwa ++ (bV G ka kpa ++ (bA G aa wa aha ++ (bV G wa awa ++ (bT G ra ma rda ++ (bV G ma mda ++ (bP G pa tpa ++ (bH G sd hha ++ (bY G yd td tha ++ (bK G td tra ++ []))))))))))) := by rw [es17]; exact I
          refine lv_aload_n hx hb dX11_fillRows_90 rfl (lv_at hl 4 rfl) ?_
          refine lv_iload hx hb dX11_fillRows_91 (lv_at hl 8 rfl) ?_
          obtain ⟨g18, h⟩ := gd_some h
          refine r_aaldI XX I 1 rfl (v := .ref (oa (100 + v6.toNatClampNeg))) rfl g18 dX11_fillRows_93 ?_
          refine lv_iconst (v := 2) hx hb dX11_fillRows_94 (by decide) ?_
          refine lv_aload_n hx hb dX11_fillRows_95 rfl (lv_at hl 3 rfl) ?_
          refine gO_X11_o0_now XX I dX11_fillRows_96 ?_
          refine lv_iload hx hb dX11_fillRows_99 (lv_at hl 0 rfl) ?_
          have RC := (Rc.mk XX I (q0 := 32) (ci := 9) rfl rfl)
          replace I : Iv G (va_A (bO G oa na ka aa ra pa sd yd td owa ++ (bV G na nwa ++ (bV G ka kpa ++ (bA G aa wa aha ++ (bV G wa awa ++ (bT G ra ma rda ++ (bV G ma mda ++ (bP G pa tpa ++ (bH G sd hha ++ (bY G yd td tha ++ (bK G td tra ++ []))))))))))) s0.heap.size) s0 _ _ ((bV G na nwa) ++ (bO G oa na ka aa ra pa sd yd td s17 ++ (bV G ka kpa ++ (bA G aa wa aha ++ (bV G wa awa ++ (bT G ra ma rda ++ (bV G ma mda ++ (bP G pa tpa ++ (bH G sd hha ++ (bY G yd td tha ++ (bK G td tra ++ []))))))))))) := I.perm ((List.Perm.append_left _ (List.Perm.refl _)).trans (List.perm_append_comm_assoc _ _ _))
          refine call_i (X := []) (wc := (bV G na nwa)) (Y := (bO G oa na ka aa ra pa sd yd td s17 ++ (bV G ka kpa ++ (bA G aa wa aha ++ (bV G wa awa ++ (bT G ra ma rda ++ (bV G ma mda ++ (bP G pa tpa ++ (bH G sd hha ++ (bY G yd td tha ++ (bK G td tra ++ []))))))))))) (rest := [.int (2 : Int32), .ref (oa (100 + v6.toNatClampNeg))]) XX I hl.1 (c_V_isFall l G OK na nwa r11 _ rfl) kV_X11_317 RC rfl rfl (Nat.le_of_ble_eq_true rfl) ⟨rfl, rfl, Nat.le_of_ble_eq_true rfl, Nat.le_of_ble_eq_true rfl⟩ ⟨Nat.zero_le _, Nat.zero_le _⟩ dX11_fillRows_101 (fun H locs hz19 I => ?_)
          replace I : Iv G (va_A (bO G oa na ka aa ra pa sd yd td owa ++ (bV G na nwa ++ (bV G ka kpa ++ (bA G aa wa aha ++ (bV G wa awa ++ (bT G ra ma rda ++ (bV G ma mda ++ (bP G pa tpa ++ (bH G sd hha ++ (bY G yd td tha ++ (bK G td tra ++ []))))))))))) s0.heap.size) s0 H locs (bO G oa na ka aa ra pa sd yd td s17 ++ (bV G na nwa ++ (bV G ka kpa ++ (bA G aa wa aha ++ (bV G wa awa ++ (bT G ra ma rda ++ (bV G ma mda ++ (bP G pa tpa ++ (bH G sd hha ++ (bY G yd td tha ++ (bK G td tra ++ []))))))))))) := Iv.perm (w := (bV G na nwa) ++ (bO G oa na ka aa ra pa sd yd td s17 ++ (bV G ka kpa ++ (bA G aa wa aha ++ (bV G wa awa ++ (bT G ra ma rda ++ (bV G ma mda ++ (bP G pa tpa ++ (bH G sd hha ++ (bY G yd td tha ++ (bK G td tra ++ []))))))))))) I (((List.Perm.append_left _ (List.Perm.refl _)).trans (List.perm_append_comm_assoc _ _ _)).symm)
          refine lv_if_eq (tgt := 111) hx hb dX11_fillRows_104 (by decide) (fun c1 => ?_) (fun c1 => ?_)
          · replace h := if_t h c1
            refine lv_iconst (v := 0) hx hb dX11_fillRows_111 (by decide) ?_
            exact C112 (f_O_fillRows_rows_L31 fu n) ih _ _ _ _ _ _ _ _ _ _ h _ _ I ls (lv_sub hl [3, 4, 5, 2, 6, 7, 8, 0] rfl) (g18) (rfl)
          · replace h := if_f h c1
            refine lv_iconst (v := 1) hx hb dX11_fillRows_107 (by decide) ?_
            refine lv_goto (tgt := 112) hx hb dX11_fillRows_108 (by decide) ?_
            exact C112 (f_O_fillRows_rows_L31 fu n) ih _ _ _ _ _ _ _ _ _ _ h _ _ I ls (lv_sub hl [3, 4, 5, 2, 6, 7, 8, 0] rfl) (g18) (rfl)
  unfold f_O_fillRows_rows at h
  refine lv_aload_n hx hb dX11_fillRows_0 rfl (lv_at hl 0 rfl) ?_
  refine gO_X11_o0_now XX I dX11_fillRows_1 ?_
  refine gO_X11_o1_z XX I dX11_fillRows_4 ?_
  refine lv_topi (fun y1 ey1 => ?_)
  replace h := lt_e h ey1
  refine lv_istore_n (lv' := [(3, .int y1), (0, .ref (oa 0)), (1, .ref (oa 8)), (2, .int x2)]) hx hb dX11_fillRows_7 rfl hl (by decide) rfl (fun ls hl => ?_)
  refine lv_aload_n hx hb dX11_fillRows_8 rfl (lv_at hl 1 rfl) ?_
  refine gO_X11_o0_now XX I dX11_fillRows_9 ?_
  refine gO_X11_o1_law XX I dX11_fillRows_12 ?_
  refine lv_iconst (v := 3) hx hb dX11_fillRows_15 (by decide) ?_
  refine r_iald XX I 40 (aO_law1) (by unfold vp_in; decide) dX11_fillRows_16 ?_
  refine lv_topi (fun y2 ey2 => ?_)
  replace h := lt_e h ey2
  refine lv_istore (lv' := [(4, .int y2), (3, .int y1), (0, .ref (oa 0)), (1, .ref (oa 8)), (2, .int x2)]) hx hb dX11_fillRows_17 hl (by decide) rfl (fun ls hl => ?_)
  refine lv_aload_n hx hb dX11_fillRows_19 rfl (lv_at hl 2 rfl) ?_
  refine gO_X11_o0_now XX I dX11_fillRows_20 ?_
  obtain ⟨r3, q4, h⟩ := bd1_some h
  have RC := (Rc.mk XX I (q0 := 32) (ci := 9) rfl rfl)
  replace I : Iv G (va_A (bO G oa na ka aa ra pa sd yd td owa ++ (bV G na nwa ++ (bV G ka kpa ++ (bA G aa wa aha ++ (bV G wa awa ++ (bT G ra ma rda ++ (bV G ma mda ++ (bP G pa tpa ++ (bH G sd hha ++ (bY G yd td tha ++ (bK G td tra ++ []))))))))))) s0.heap.size) s0 _ _ ((bV G na nwa) ++ (bO G oa na ka aa ra pa sd yd td owa ++ (bV G ka kpa ++ (bA G aa wa aha ++ (bV G wa awa ++ (bT G ra ma rda ++ (bV G ma mda ++ (bP G pa tpa ++ (bH G sd hha ++ (bY G yd td tha ++ (bK G td tra ++ []))))))))))) := I.perm ((List.Perm.append_left _ (List.Perm.refl _)).trans (List.perm_append_comm_assoc _ _ _))
  refine call_i (X := []) (wc := (bV G na nwa)) (Y := (bO G oa na ka aa ra pa sd yd td owa ++ (bV G ka kpa ++ (bA G aa wa aha ++ (bV G wa awa ++ (bT G ra ma rda ++ (bV G ma mda ++ (bP G pa tpa ++ (bH G sd hha ++ (bY G yd td tha ++ (bK G td tra ++ []))))))))))) (rest := []) XX I hl.1 (c_V_packedNoes l G OK na fu nwa r3 q4) kV_X11_174 RC rfl rfl (Nat.le_of_ble_eq_true rfl) ⟨rfl, rfl, Nat.le_of_ble_eq_true rfl, Nat.le_of_ble_eq_true rfl⟩ ⟨Nat.zero_le _, Nat.zero_le _⟩ dX11_fillRows_23 (fun H locs hz5 I => ?_)
  replace I : Iv G (va_A (bO G oa na ka aa ra pa sd yd td owa ++ (bV G na nwa ++ (bV G ka kpa ++ (bA G aa wa aha ++ (bV G wa awa ++ (bT G ra ma rda ++ (bV G ma mda ++ (bP G pa tpa ++ (bH G sd hha ++ (bY G yd td tha ++ (bK G td tra ++ []))))))))))) s0.heap.size) s0 H locs (bO G oa na ka aa ra pa sd yd td owa ++ (bV G na nwa ++ (bV G ka kpa ++ (bA G aa wa aha ++ (bV G wa awa ++ (bT G ra ma rda ++ (bV G ma mda ++ (bP G pa tpa ++ (bH G sd hha ++ (bY G yd td tha ++ (bK G td tra ++ []))))))))))) := Iv.perm (w := (bV G na nwa) ++ (bO G oa na ka aa ra pa sd yd td owa ++ (bV G ka kpa ++ (bA G aa wa aha ++ (bV G wa awa ++ (bT G ra ma rda ++ (bV G ma mda ++ (bP G pa tpa ++ (bH G sd hha ++ (bY G yd td tha ++ (bK G td tra ++ []))))))))))) I (((List.Perm.append_left _ (List.Perm.refl _)).trans (List.perm_append_comm_assoc _ _ _)).symm)
  refine lv_istore (lv' := [(5, .int r3), (4, .int y2), (3, .int y1), (0, .ref (oa 0)), (1, .ref (oa 8)), (2, .int x2)]) hx hb dX11_fillRows_26 hl (by decide) rfl (fun ls hl => ?_)
  refine lv_iconst (v := 0) hx hb dX11_fillRows_28 (by decide) ?_
  refine lv_istore (lv' := [(6, .int (0 : Int32)), (5, .int r3), (4, .int y2), (3, .int y1), (0, .ref (oa 0)), (1, .ref (oa 8)), (2, .int x2)]) hx hb dX11_fillRows_29 hl (by decide) rfl (fun ls hl => ?_)
  exact C31 fu _ _ _ _ _ _ h _ _ I ls (lv_sub hl [4, 5, 6, 3, 2, 1, 0] rfl)
set_option maxRecDepth 100000 in
theorem aO_drow0 {G : g_G} {oa : Nat → Nat} {na : Nat → Nat} {ka : Nat → Nat} {aa : Nat → Nat} {wa : Nat → Nat} {ra : Nat → Nat} {ma : Nat → Nat} {pa : Nat → Nat} {sd : Nat → Nat → Nat} {yd : Nat → Nat} {td : Nat → Nat} {ow : g_St} {nw : g_St} {kp : g_St} {ah : g_St} {aw : g_St} {rd : g_St} {md : g_St} {tp : g_St} {hh : g_Sf} {th : g_St} {tr : g_St} {q : Nat} (hq : q < 12) : (bO G oa na ka aa ra pa sd yd td ow ++ (bV G na nw ++ (bV G ka kp ++ (bA G aa wa ah ++ (bV G wa aw ++ (bT G ra ma rd ++ (bV G ma md ++ (bP G pa tp ++ (bH G sd hh ++ (bY G yd td th ++ (bK G td tr ++ [])))))))))))[20 + q]? = some (oa (120 + q), .inl (G.2.1 0, 3, .inl (gr ow (120 + q)))) := by rcases (show q = 0 ∨ q = 1 ∨ q = 2 ∨ q = 3 ∨ q = 4 ∨ q = 5 ∨ q = 6 ∨ q = 7 ∨ q = 8 ∨ q = 9 ∨ q = 10 ∨ q = 11 by omega) with rfl | rfl | rfl | rfl | rfl | rfl | rfl | rfl | rfl | rfl | rfl | rfl <;> rfl
set_option maxRecDepth 100000 in
theorem sO_drow0 {G : g_G} {oa : Nat → Nat} {na : Nat → Nat} {ka : Nat → Nat} {aa : Nat → Nat} {wa : Nat → Nat} {ra : Nat → Nat} {ma : Nat → Nat} {pa : Nat → Nat} {sd : Nat → Nat → Nat} {yd : Nat → Nat} {td : Nat → Nat} {ow : g_St} {nw : g_St} {kp : g_St} {ah : g_St} {aw : g_St} {rd : g_St} {md : g_St} {tp : g_St} {hh : g_Sf} {th : g_St} {tr : g_St} {q : Nat} (hq : q < 12) {i x : Int32} : (bO G oa na ka aa ra pa sd yd td ow ++ (bV G na nw ++ (bV G ka kp ++ (bA G aa wa ah ++ (bV G wa aw ++ (bT G ra ma rd ++ (bV G ma md ++ (bP G pa tp ++ (bH G sd hh ++ (bY G yd td th ++ (bK G td tr ++ []))))))))))).set (20 + q) (oa (120 + q), .inl (G.2.1 0, 3, .inl (upd (gr ow (120 + q)) i.toNatClampNeg x))) = (bO G oa na ka aa ra pa sd yd td (sr ow (120 + q) i x) ++ (bV G na nw ++ (bV G ka kp ++ (bA G aa wa ah ++ (bV G wa aw ++ (bT G ra ma rd ++ (bV G ma md ++ (bP G pa tp ++ (bH G sd hh ++ (bY G yd td th ++ (bK G td tr ++ []))))))))))) := by rcases (show q = 0 ∨ q = 1 ∨ q = 2 ∨ q = 3 ∨ q = 4 ∨ q = 5 ∨ q = 6 ∨ q = 7 ∨ q = 8 ∨ q = 9 ∨ q = 10 ∨ q = 11 by omega) with rfl | rfl | rfl | rfl | rfl | rfl | rfl | rfl | rfl | rfl | rfl | rfl <;> rfl
set_option maxHeartbeats 4000000 in
set_option maxRecDepth 100000 in
theorem c_O_fillRows_dueRows (l : Launch) (G : g_G) (OK : EOk G.2.2) (oa : Nat → Nat) (na : Nat → Nat) (ka : Nat → Nat) (aa : Nat → Nat) (wa : Nat → Nat) (ra : Nat → Nat) (ma : Nat → Nat) (pa : Nat → Nat) (sd : Nat → Nat → Nat) (yd : Nat → Nat) (td : Nat → Nat) (fu : Nat) (owa : g_St) (nwa : g_St) (kpa : g_St) (aha : g_St) (awa : g_St) (rda : g_St) (mda : g_St) (tpa : g_St) (hha : g_Sf) (tha : g_St) (tra : g_St) (x2 : Int32) (tow : g_St) (h : f_O_fillRows_dueRows fu owa nwa x2 = some tow) : HV l G yX11_fillRows (Cond.code yX11_fillRows cX11_fillRows 9 none :: gT) { frames := 4, cells := 0, slots := 0, locals := 99 } [.ref (oa 0), .ref (oa 9), .int x2] (bO G oa na ka aa ra pa sd yd td owa ++ (bV G na nwa ++ (bV G ka kpa ++ (bA G aa wa aha ++ (bV G wa awa ++ (bT G ra ma rda ++ (bV G ma mda ++ (bP G pa tpa ++ (bH G sd hha ++ (bY G yd td tha ++ (bK G td tra ++ []))))))))))) (bO G oa na ka aa ra pa sd yd td tow ++ (bV G na nwa ++ (bV G ka kpa ++ (bA G aa wa aha ++ (bV G wa awa ++ (bT G ra ma rda ++ (bV G ma mda ++ (bP G pa tpa ++ (bH G sd hha ++ (bY G yd td tha ++ (bK G td tra ++ []))))))))))) := by
  refine HV.mk (lv := [(0, .ref (oa 0)), (1, .ref (oa 9)), (2, .int x2)]) OK (by decide) (Nat.le_of_ble_eq_true rfl) rfl ?_
  intro p e s0 m args below meth c ls XX hr I hl
  have hx := XX.x
  have hb := XX.b
  have C112 : ∀ (k31 : g_St → g_St → Int32 → Int32 → Int32 → Int32 → Int32 → Option (g_St)), (∀ (ow : g_St) (v2 : Int32) (v3 : Int32) (v4 : Int32) (v5 : Int32) (v6 : Int32), k31 ow nwa v2 v3 v4 v5 v6 = some tow → ∀ (H : Heap) (locs : List Loc), Iv G (va_A (bO G oa na ka aa ra pa sd yd td owa ++ (bV G na nwa ++ (bV G ka kpa ++ (bA G aa wa aha ++ (bV G wa awa ++ (bT G ra ma rda ++ (bV G ma mda ++ (bP G pa tpa ++ (bH G sd hha ++ (bY G yd td tha ++ (bK G td tra ++ []))))))))))) s0.heap.size) s0 H locs (bO G oa na ka aa ra pa sd yd td ow ++ (bV G na nwa ++ (bV G ka kpa ++ (bA G aa wa aha ++ (bV G wa awa ++ (bT G ra ma rda ++ (bV G ma mda ++ (bP G pa tpa ++ (bH G sd hha ++ (bY G yd td tha ++ (bK G td tra ++ []))))))))))) → ∀ ls, lv_has ls 9 [(0, .ref (oa 0)), (1, .ref (oa 9)), (2, .int v2), (3, .int v3), (4, .int v4), (5, .int v5), (6, .int v6)] → W p l e { frames := 4, cells := 0, slots := 0, locals := 99 } s0 m args below meth c H locs 0 0 (QV G below (bO G oa na ka aa ra pa sd yd td owa ++ (bV G na nwa ++ (bV G ka kpa ++ (bA G aa wa aha ++ (bV G wa awa ++ (bT G ra ma rda ++ (bV G ma mda ++ (bP G pa tpa ++ (bH G sd hha ++ (bY G yd td tha ++ (bK G td tra ++ []))))))))))) (bO G oa na ka aa ra pa sd yd td tow ++ (bV G na nwa ++ (bV G ka kpa ++ (bA G aa wa aha ++ (bV G wa awa ++ (bT G ra ma rda ++ (bV G ma mda ++ (bP G pa tpa ++ (bH G sd hha ++ (bY G yd td tha ++ (bK G td tra ++ []))))))))))) args s0) (F0 m 31 ls [])) → ∀ (ow : g_St) (v2 : Int32) (v3 : Int32) (v4 : Int32) (v5 : Int32) (v6 : Int32) (v8 : Int32) (z0 : Int32) (z1 : Int32) (ws2 : Int32), f_O_fillRows_dueRows_L112 fu k31 ow nwa v2 v3 v4 v5 v6 v8 z0 z1 ws2 = some tow → ∀ (H : Heap) (locs : List Loc), Iv G (va_A (bO G oa na ka aa ra pa sd yd td owa ++ (bV G na nwa ++ (bV G ka kpa ++ (bA G aa wa aha ++ (bV G wa awa ++ (bT G ra ma rda ++ (bV G ma mda ++ (bP G pa tpa ++ (bH G sd hha ++ (bY G yd td tha ++ (bK G td tra ++ []))))))))))) s0.heap.size) s0 H locs (bO G oa na ka aa ra pa sd yd td ow ++ (bV G na nwa ++ (bV G ka kpa ++ (bA G aa wa aha ++ (bV G wa awa ++ (bT G ra ma rda ++ (bV G ma mda ++ (bP G pa tpa ++ (bH G sd hha ++ (bY G yd td tha ++ (bK G td tra ++ []))))))))))) → ∀ ls, lv_has ls 9 [(0, .ref (oa 0)), (1, .ref (oa 9)), (2, .int v2), (3, .int v3), (4, .int v4), (5, .int v5), (6, .int v6), (8, .int v8)] → vp_in ws2 12 → narrow .boolean (.int z0) = .int z0 → W p l e { frames := 4, cells := 0, slots := 0, locals := 99 } s0 m args below meth c H locs 0 0 (QV G below (bO G oa na ka aa ra pa sd yd td owa ++ (bV G na nwa ++ (bV G ka kpa ++ (bA G aa wa aha ++ (bV G wa awa ++ (bT G ra ma rda ++ (bV G ma mda ++ (bP G pa tpa ++ (bH G sd hha ++ (bY G yd td tha ++ (bK G td tra ++ []))))))))))) (bO G oa na ka aa ra pa sd yd td tow ++ (bV G na nwa ++ (bV G ka kpa ++ (bA G aa wa aha ++ (bV G wa awa ++ (bT G ra ma rda ++ (bV G ma mda ++ (bP G pa tpa ++ (bH G sd hha ++ (bY G yd td tha ++ (bK G td tra ++ []))))))))))) args s0) (F0 m 112 ls [.int z0, .int z1, .ref (oa (120 + ws2.toNatClampNeg))]) := by
    intro k31 hk31
    intro ow v2 v3 v4 v5 v6 v8 z0 z1 ws2 h H locs I ls hl hws2 hz0
    unfold f_O_fillRows_dueRows_L112 at h
    obtain ⟨g20, h⟩ := gd_some h
    refine r_iast XX I (20 + ws2.toNatClampNeg) (aO_drow0 (vin_lt hws2)) (sO_drow0 (vin_lt hws2)) g20 dX11_fillRows_112 (fun H locs I => ?_)
    obtain ⟨s21, es21⟩ : ∃ z, z = sr ow (120 + ws2.toNatClampNeg) z1 z0 := ⟨_, rfl⟩
    replace h := lt_e h es21
    replace I : Iv G (va_A (bO G oa na ka aa ra pa sd yd td owa ++ (bV G na nwa ++ (bV G ka kpa ++ (bA G aa wa aha ++ (bV G wa awa ++ (bT G ra ma rda ++ (bV G ma mda ++ (bP G pa tpa ++ (bH G sd hha ++ (bY G yd td tha ++ (bK G td tra ++ []))))))))))) s0.heap.size) s0 H locs (bO G oa na ka aa ra pa sd yd td s21 ++ (bV G na nwa ++ (bV G ka kpa ++ (bA G aa wa aha ++ (bV G wa awa ++ (bT G ra ma rda ++ (bV G ma mda ++ (bP G pa tpa ++ (bH G sd hha ++ (bY G yd td tha ++ (bK G td tra ++ []))))))))))) := by rw [es21]; exact I
    refine lv_aload_n hx hb dX11_fillRows_113 rfl (lv_at hl 0 rfl) ?_
    refine gO_X11_o0_now XX I dX11_fillRows_114 ?_
    refine lv_iload hx hb dX11_fillRows_117 (lv_at hl 7 rfl) ?_
    refine lv_iload hx hb dX11_fillRows_119 (lv_at hl 4 rfl) ?_
    refine lv_iload hx hb dX11_fillRows_121 (lv_at hl 5 rfl) ?_
    obtain ⟨r22, q23, h⟩ := bd1_some h
    have RC := (Rc.mk XX I (q0 := 32) (ci := 9) rfl rfl)
    replace I : Iv G (va_A (bO G oa na ka aa ra pa sd yd td owa ++ (bV G na nwa ++ (bV G ka kpa ++ (bA G aa wa aha ++ (bV G wa awa ++ (bT G ra ma rda ++ (bV G ma mda ++ (bP G pa tpa ++ (bH G sd hha ++ (bY G yd td tha ++ (bK G td tra ++ []))))))))))) s0.heap.size) s0 _ _ ((bV G na nwa) ++ (bO G oa na ka aa ra pa sd yd td s21 ++ (bV G ka kpa ++ (bA G aa wa aha ++ (bV G wa awa ++ (bT G ra ma rda ++ (bV G ma mda ++ (bP G pa tpa ++ (bH G sd hha ++ (bY G yd td tha ++ (bK G td tra ++ []))))))))))) := I.perm ((List.Perm.append_left _ (List.Perm.refl _)).trans (List.perm_append_comm_assoc _ _ _))
    refine call_i (X := []) (wc := (bV G na nwa)) (Y := (bO G oa na ka aa ra pa sd yd td s21 ++ (bV G ka kpa ++ (bA G aa wa aha ++ (bV G wa awa ++ (bT G ra ma rda ++ (bV G ma mda ++ (bP G pa tpa ++ (bH G sd hha ++ (bY G yd td tha ++ (bK G td tra ++ []))))))))))) (rest := []) XX I hl.1 (c_V_noesAfter l G OK na fu nwa v8 v4 v5 r22 q23) kV_X11_320 RC rfl rfl (Nat.le_of_ble_eq_true rfl) ⟨rfl, rfl, Nat.le_of_ble_eq_true rfl, Nat.le_of_ble_eq_true rfl⟩ ⟨Nat.zero_le _, Nat.zero_le _⟩ dX11_fillRows_123 (fun H locs hz24 I => ?_)
    replace I : Iv G (va_A (bO G oa na ka aa ra pa sd yd td owa ++ (bV G na nwa ++ (bV G ka kpa ++ (bA G aa wa aha ++ (bV G wa awa ++ (bT G ra ma rda ++ (bV G ma mda ++ (bP G pa tpa ++ (bH G sd hha ++ (bY G yd td tha ++ (bK G td tra ++ []))))))))))) s0.heap.size) s0 H locs (bO G oa na ka aa ra pa sd yd td s21 ++ (bV G na nwa ++ (bV G ka kpa ++ (bA G aa wa aha ++ (bV G wa awa ++ (bT G ra ma rda ++ (bV G ma mda ++ (bP G pa tpa ++ (bH G sd hha ++ (bY G yd td tha ++ (bK G td tra ++ []))))))))))) := Iv.perm (w := (bV G na nwa) ++ (bO G oa na ka aa ra pa sd yd td s21 ++ (bV G ka kpa ++ (bA G aa wa aha ++ (bV G wa awa ++ (bT G ra ma rda ++ (bV G ma mda ++ (bP G pa tpa ++ (bH G sd hha ++ (bY G yd td tha ++ (bK G td tra ++ []))))))))))) I (((List.Perm.append_left _ (List.Perm.refl _)).trans (List.perm_append_comm_assoc _ _ _)).symm)
    refine lv_istore (lv' := [(5, .int r22), (0, .ref (oa 0)), (1, .ref (oa 9)), (2, .int v2), (3, .int v3), (4, .int v4), (6, .int v6), (8, .int v8)]) hx hb dX11_fillRows_126 hl (by decide) rfl (fun ls hl => ?_)
    obtain ⟨y25, ey25⟩ : ∃ z : Int32, z = v4 + (1 : Int32) := ⟨_, rfl⟩
    replace h := lt_e h ey25
    refine lv_iinc (v := y25) (lv' := [(4, .int y25), (5, .int r22), (0, .ref (oa 0)), (1, .ref (oa 9)), (2, .int v2), (3, .int v3), (6, .int v6), (8, .int v8)]) hx hb dX11_fillRows_128 hl (k := 5) rfl (by rw [ey25]; rfl) (by decide) rfl (fun ls hl => ?_)
    obtain ⟨y26, ey26⟩ : ∃ z : Int32, z = v6 + (1 : Int32) := ⟨_, rfl⟩
    replace h := lt_e h ey26
    refine lv_iinc (v := y26) (lv' := [(6, .int y26), (4, .int y25), (5, .int r22), (0, .ref (oa 0)), (1, .ref (oa 9)), (2, .int v2), (3, .int v3), (8, .int v8)]) hx hb dX11_fillRows_131 hl (k := 6) rfl (by rw [ey26]; rfl) (by decide) rfl (fun ls hl => ?_)
    refine lv_goto (tgt := 31) hx hb dX11_fillRows_134 (by decide) ?_
    exact hk31 _ _ _ _ _ _ h _ _ I ls (lv_sub hl [3, 4, 5, 6, 1, 2, 0] rfl)
  have C31 : ∀ n : Nat, ∀ (ow : g_St) (v2 : Int32) (v3 : Int32) (v4 : Int32) (v5 : Int32) (v6 : Int32), f_O_fillRows_dueRows_L31 fu n ow nwa v2 v3 v4 v5 v6 = some tow → ∀ (H : Heap) (locs : List Loc), Iv G (va_A (bO G oa na ka aa ra pa sd yd td owa ++ (bV G na nwa ++ (bV G ka kpa ++ (bA G aa wa aha ++ (bV G wa awa ++ (bT G ra ma rda ++ (bV G ma mda ++ (bP G pa tpa ++ (bH G sd hha ++ (bY G yd td tha ++ (bK G td tra ++ []))))))))))) s0.heap.size) s0 H locs (bO G oa na ka aa ra pa sd yd td ow ++ (bV G na nwa ++ (bV G ka kpa ++ (bA G aa wa aha ++ (bV G wa awa ++ (bT G ra ma rda ++ (bV G ma mda ++ (bP G pa tpa ++ (bH G sd hha ++ (bY G yd td tha ++ (bK G td tra ++ []))))))))))) → ∀ ls, lv_has ls 9 [(0, .ref (oa 0)), (1, .ref (oa 9)), (2, .int v2), (3, .int v3), (4, .int v4), (5, .int v5), (6, .int v6)] → W p l e { frames := 4, cells := 0, slots := 0, locals := 99 } s0 m args below meth c H locs 0 0 (QV G below (bO G oa na ka aa ra pa sd yd td owa ++ (bV G na nwa ++ (bV G ka kpa ++ (bA G aa wa aha ++ (bV G wa awa ++ (bT G ra ma rda ++ (bV G ma mda ++ (bP G pa tpa ++ (bH G sd hha ++ (bY G yd td tha ++ (bK G td tra ++ []))))))))))) (bO G oa na ka aa ra pa sd yd td tow ++ (bV G na nwa ++ (bV G ka kpa ++ (bA G aa wa aha ++ (bV G wa awa ++ (bT G ra ma rda ++ (bV G ma mda ++ (bP G pa tpa ++ (bH G sd hha ++ (bY G yd td tha ++ (bK G td tra ++ []))))))))))) args s0) (F0 m 31 ls []) := by
    intro n
    induction n with
    | zero => intro ow v2 v3 v4 v5 v6 h; exact absurd h (fun q => by cases q)
    | succ n ih =>
      intro ow v2 v3 v4 v5 v6 h H locs I ls hl
      rw [f_O_fillRows_dueRows_L31] at h
      refine lv_iload hx hb dX11_fillRows_31 (lv_at hl 6 rfl) ?_
      refine lv_iload_n hx hb dX11_fillRows_33 rfl (lv_at hl 2 rfl) ?_
      refine lv_icmp_ge (tgt := 137) hx hb dX11_fillRows_34 (by decide) (fun c1 => ?_) (fun c1 => ?_)
      · replace h := if_t h c1
        obtain rfl := some1 h
        exact e_v XX hr I dX11_fillRows_137
      · replace h := if_f h c1
        refine lv_iload hx hb dX11_fillRows_37 (lv_at hl 6 rfl) ?_
        refine lv_bipush (v := 12) hx hb dX11_fillRows_39 (by decide) ?_
        refine lv_icmp_ge (tgt := 137) hx hb dX11_fillRows_41 (by decide) (fun c1 => ?_) (fun c1 => ?_)
        · replace h := if_t h c1
          obtain rfl := some1 h
          exact e_v XX hr I dX11_fillRows_137
        · replace h := if_f h c1
          refine lv_iload_n hx hb dX11_fillRows_44 rfl (lv_at hl 3 rfl) ?_
          refine scall_i (rest := []) XX I hl.1 (c_S_nextLot l G OK v3 _ rfl) kS_X11_191 rfl rfl (Nat.le_of_ble_eq_true rfl) ⟨rfl, rfl, Nat.le_of_ble_eq_true rfl, Nat.le_of_ble_eq_true rfl⟩ ⟨Nat.zero_le _, Nat.zero_le _⟩ dX11_fillRows_45 (fun H locs hz6 I => ?_)
          refine lv_topi (fun y7 ey7 => ?_)
          replace h := lt_e h ey7
          refine lv_istore_n (lv' := [(3, .int y7), (0, .ref (oa 0)), (1, .ref (oa 9)), (2, .int v2), (4, .int v4), (5, .int v5), (6, .int v6)]) hx hb dX11_fillRows_48 rfl hl (by decide) rfl (fun ls hl => ?_)
          refine lv_aload_n hx hb dX11_fillRows_49 rfl (lv_at hl 1 rfl) ?_
          refine gO_X11_o0_now XX I dX11_fillRows_50 ?_
          refine lv_iload_n hx hb dX11_fillRows_53 rfl (lv_at hl 0 rfl) ?_
          obtain ⟨r8, q9, h⟩ := bd1_some h
          have RC := (Rc.mk XX I (q0 := 32) (ci := 9) rfl rfl)
          replace I : Iv G (va_A (bO G oa na ka aa ra pa sd yd td owa ++ (bV G na nwa ++ (bV G ka kpa ++ (bA G aa wa aha ++ (bV G wa awa ++ (bT G ra ma rda ++ (bV G ma mda ++ (bP G pa tpa ++ (bH G sd hha ++ (bY G yd td tha ++ (bK G td tra ++ []))))))))))) s0.heap.size) s0 _ _ ((bV G na nwa) ++ (bO G oa na ka aa ra pa sd yd td ow ++ (bV G ka kpa ++ (bA G aa wa aha ++ (bV G wa awa ++ (bT G ra ma rda ++ (bV G ma mda ++ (bP G pa tpa ++ (bH G sd hha ++ (bY G yd td tha ++ (bK G td tra ++ []))))))))))) := I.perm ((List.Perm.append_left _ (List.Perm.refl _)).trans (List.perm_append_comm_assoc _ _ _))
          refine call_i (X := []) (wc := (bV G na nwa)) (Y := (bO G oa na ka aa ra pa sd yd td ow ++ (bV G ka kpa ++ (bA G aa wa aha ++ (bV G wa awa ++ (bT G ra ma rda ++ (bV G ma mda ++ (bP G pa tpa ++ (bH G sd hha ++ (bY G yd td tha ++ (bK G td tra ++ []))))))))))) (rest := []) XX I hl.1 (c_V_drawn l G OK na fu nwa y7 r8 q9) kV_X11_194 RC rfl rfl (Nat.le_of_ble_eq_true rfl) ⟨rfl, rfl, Nat.le_of_ble_eq_true rfl, Nat.le_of_ble_eq_true rfl⟩ ⟨Nat.zero_le _, Nat.zero_le _⟩ dX11_fillRows_54 (fun H locs hz10 I => ?_)
          replace I : Iv G (va_A (bO G oa na ka aa ra pa sd yd td owa ++ (bV G na nwa ++ (bV G ka kpa ++ (bA G aa wa aha ++ (bV G wa awa ++ (bT G ra ma rda ++ (bV G ma mda ++ (bP G pa tpa ++ (bH G sd hha ++ (bY G yd td tha ++ (bK G td tra ++ []))))))))))) s0.heap.size) s0 H locs (bO G oa na ka aa ra pa sd yd td ow ++ (bV G na nwa ++ (bV G ka kpa ++ (bA G aa wa aha ++ (bV G wa awa ++ (bT G ra ma rda ++ (bV G ma mda ++ (bP G pa tpa ++ (bH G sd hha ++ (bY G yd td tha ++ (bK G td tra ++ []))))))))))) := Iv.perm (w := (bV G na nwa) ++ (bO G oa na ka aa ra pa sd yd td ow ++ (bV G ka kpa ++ (bA G aa wa aha ++ (bV G wa awa ++ (bT G ra ma rda ++ (bV G ma mda ++ (bP G pa tpa ++ (bH G sd hha ++ (bY G yd td tha ++ (bK G td tra ++ []))))))))))) I (((List.Perm.append_left _ (List.Perm.refl _)).trans (List.perm_append_comm_assoc _ _ _)).symm)
          refine lv_istore (lv' := [(7, .int r8), (3, .int y7), (0, .ref (oa 0)), (1, .ref (oa 9)), (2, .int v2), (4, .int v4), (5, .int v5), (6, .int v6)]) hx hb dX11_fillRows_57 hl (by decide) rfl (fun ls hl => ?_)
          refine lv_aload_n hx hb dX11_fillRows_59 rfl (lv_at hl 2 rfl) ?_
          refine gO_X11_o0_now XX I dX11_fillRows_60 ?_
          refine lv_iload hx hb dX11_fillRows_63 (lv_at hl 0 rfl) ?_
          refine lv_iload hx hb dX11_fillRows_65 (lv_at hl 5 rfl) ?_
          refine lv_iload hx hb dX11_fillRows_67 (lv_at hl 6 rfl) ?_
          obtain ⟨r11, q12, h⟩ := bd1_some h
          have RC := (Rc.mk XX I (q0 := 32) (ci := 9) rfl rfl)
          replace I : Iv G (va_A (bO G oa na ka aa ra pa sd yd td owa ++ (bV G na nwa ++ (bV G ka kpa ++ (bA G aa wa aha ++ (bV G wa awa ++ (bT G ra ma rda ++ (bV G ma mda ++ (bP G pa tpa ++ (bH G sd hha ++ (bY G yd td tha ++ (bK G td tra ++ []))))))))))) s0.heap.size) s0 _ _ ((bV G na nwa) ++ (bO G oa na ka aa ra pa sd yd td ow ++ (bV G ka kpa ++ (bA G aa wa aha ++ (bV G wa awa ++ (bT G ra ma rda ++ (bV G ma mda ++ (bP G pa tpa ++ (bH G sd hha ++ (bY G yd td tha ++ (bK G td tra ++ []))))))))))) := I.perm ((List.Perm.append_left _ (List.Perm.refl _)).trans (List.perm_append_comm_assoc _ _ _))
          refine call_i (X := []) (wc := (bV G na nwa)) (Y := (bO G oa na ka aa ra pa sd yd td ow ++ (bV G ka kpa ++ (bA G aa wa aha ++ (bV G wa awa ++ (bT G ra ma rda ++ (bV G ma mda ++ (bP G pa tpa ++ (bH G sd hha ++ (bY G yd td tha ++ (bK G td tra ++ []))))))))))) (rest := []) XX I hl.1 (c_V_whoSays l G OK na fu nwa r8 v4 v5 r11 q12) kV_X11_182 RC rfl rfl (Nat.le_of_ble_eq_true rfl) ⟨rfl, rfl, Nat.le_of_ble_eq_true rfl, Nat.le_of_ble_eq_true rfl⟩ ⟨Nat.zero_le _, Nat.zero_le _⟩ dX11_fillRows_69 (fun H locs hz13 I => ?_)
          replace I : Iv G (va_A (bO G oa na ka aa ra pa sd yd td owa ++ (bV G na nwa ++ (bV G ka kpa ++ (bA G aa wa aha ++ (bV G wa awa ++ (bT G ra ma rda ++ (bV G ma mda ++ (bP G pa tpa ++ (bH G sd hha ++ (bY G yd td tha ++ (bK G td tra ++ []))))))))))) s0.heap.size) s0 H locs (bO G oa na ka aa ra pa sd yd td ow ++ (bV G na nwa ++ (bV G ka kpa ++ (bA G aa wa aha ++ (bV G wa awa ++ (bT G ra ma rda ++ (bV G ma mda ++ (bP G pa tpa ++ (bH G sd hha ++ (bY G yd td tha ++ (bK G td tra ++ []))))))))))) := Iv.perm (w := (bV G na nwa) ++ (bO G oa na ka aa ra pa sd yd td ow ++ (bV G ka kpa ++ (bA G aa wa aha ++ (bV G wa awa ++ (bT G ra ma rda ++ (bV G ma mda ++ (bP G pa tpa ++ (bH G sd hha ++ (bY G yd td tha ++ (bK G td tra ++ []))))))))))) I (((List.Perm.append_left _ (List.Perm.refl _)).trans (List.perm_append_comm_assoc _ _ _)).symm)
          refine lv_istore (lv' := [(8, .int r11), (7, .int r8), (3, .int y7), (0, .ref (oa 0)), (1, .ref (oa 9)), (2, .int v2), (4, .int v4), (5, .int v5), (6, .int v6)]) hx hb dX11_fillRows_72 hl (by decide) rfl (fun ls hl => ?_)
          refine lv_aload_n hx hb dX11_fillRows_74 rfl (lv_at hl 4 rfl) ?_
          refine lv_iload hx hb dX11_fillRows_75 (lv_at hl 8 rfl) ?_
          obtain ⟨g14, h⟩ := gd_some h
          refine r_aaldI XX I 2 rfl (v := .ref (oa (120 + v6.toNatClampNeg))) rfl g14 dX11_fillRows_77 ?_
          refine lv_iconst (v := 0) hx hb dX11_fillRows_78 (by decide) ?_
          refine lv_iload hx hb dX11_fillRows_79 (lv_at hl 1 rfl) ?_
          refine r_iast XX I (20 + v6.toNatClampNeg) (aO_drow0 (vin_lt g14)) (sO_drow0 (vin_lt g14)) (by unfold vp_in; decide) dX11_fillRows_81 (fun H locs I => ?_)
          obtain ⟨s15, es15⟩ : ∃ z, z = sr ow (120 + v6.toNatClampNeg) (0 : Int32) r8 := ⟨_, rfl⟩
          replace h := lt_e h es15
          replace I : Iv G (va_A (bO G oa na ka aa ra pa sd yd td owa ++ (bV G na nwa ++ (bV G ka kpa ++ (bA G aa wa aha ++ (bV G wa awa ++ (bT G ra ma rda ++ (bV G ma mda ++ (bP G pa tpa ++ (bH G sd hha ++ (bY G yd td tha ++ (bK G td tra ++ []))))))))))) s0.heap.size) s0 H locs (bO G oa na ka aa ra pa sd yd td s15 ++ (bV G na nwa ++ (bV G ka kpa ++ (bA G aa wa aha ++ (bV G wa awa ++ (bT G ra ma rda ++ (bV G ma mda ++ (bP G pa tpa ++ (bH G sd hha ++ (bY G yd td tha ++ (bK G td tra ++ []))))))))))) := by rw [es15]; exact I
          refine lv_aload_n hx hb dX11_fillRows_82 rfl (lv_at hl 4 rfl) ?_
          refine lv_iload hx hb dX11_fillRows_83 (lv_at hl 8 rfl) ?_
          obtain ⟨g16, h⟩ := gd_some h
          refine r_aaldI XX I 2 rfl (v := .ref (oa (120 + v6.toNatClampNeg))) rfl g16 dX11_fillRows_85 ?_
          refine lv_iconst (v := 1) hx hb dX11_fillRows_86 (by decide) ?_
          refine lv_iload hx hb dX11_fillRows_87 (lv_at hl 0 rfl) ?_
          refine r_iast XX I (20 + v6.toNatClampNeg) (aO_drow0 (vin_lt g16)) (sO_drow0 (vin_lt g16)) (by unfold vp_in; decide) dX11_fillRows_89 (fun H locs I => ?_)
          obtain ⟨s17, es17⟩ : ∃ z, z = sr s15 (120 + v6.toNatClampNeg) (1 : Int32) r11 := ⟨_, rfl⟩
          replace h := lt_e h es17
          replace I : Iv G (va_A (bO G oa na ka aa ra pa sd yd td owa ++ (bV G na nwa ++ (bV G ka kpa ++ (bA G aa wa aha ++ (bV G wa awa ++ (bT G ra ma rda ++ (bV G ma mda ++ (bP G pa tpa ++ (bH G sd hha ++ (bY G yd td tha ++ (bK G td tra ++ []))))))))))) s0.heap.size) s0 H locs (bO G oa na ka aa ra pa sd yd td s17 ++ (bV G na nwa ++ (bV G ka kpa ++ (bA G aa wa aha ++ (bV G wa awa ++ (bT G ra ma rda ++ (bV G ma mda ++ (bP G pa tpa ++ (bH G sd hha ++ (bY G yd td tha ++ (bK G td tra ++ []))))))))))) := by rw [es17]; exact I
          refine lv_aload_n hx hb dX11_fillRows_90 rfl (lv_at hl 4 rfl) ?_
          refine lv_iload hx hb dX11_fillRows_91 (lv_at hl 8 rfl) ?_
          obtain ⟨g18, h⟩ := gd_some h
          refine r_aaldI XX I 2 rfl (v := .ref (oa (120 + v6.toNatClampNeg))) rfl g18 dX11_fillRows_93 ?_
          refine lv_iconst (v := 2) hx hb dX11_fillRows_94 (by decide) ?_
          refine lv_aload_n hx hb dX11_fillRows_95 rfl (lv_at hl 3 rfl) ?_
          refine gO_X11_o0_now XX I dX11_fillRows_96 ?_
          refine lv_iload hx hb dX11_fillRows_99 (lv_at hl 0 rfl) ?_
          have RC := (Rc.mk XX I (q0 := 32) (ci := 9) rfl rfl)
          replace I : Iv G (va_A (bO G oa na ka aa ra pa sd yd td owa ++ (bV G na nwa ++ (bV G ka kpa ++ (bA G aa wa aha ++ (bV G wa awa ++ (bT G ra ma rda ++ (bV G ma mda ++ (bP G pa tpa ++ (bH G sd hha ++ (bY G yd td tha ++ (bK G td tra ++ []))))))))))) s0.heap.size) s0 _ _ ((bV G na nwa) ++ (bO G oa na ka aa ra pa sd yd td s17 ++ (bV G ka kpa ++ (bA G aa wa aha ++ (bV G wa awa ++ (bT G ra ma rda ++ (bV G ma mda ++ (bP G pa tpa ++ (bH G sd hha ++ (bY G yd td tha ++ (bK G td tra ++ []))))))))))) := I.perm ((List.Perm.append_left _ (List.Perm.refl _)).trans (List.perm_append_comm_assoc _ _ _))
          refine call_i (X := []) (wc := (bV G na nwa)) (Y := (bO G oa na ka aa ra pa sd yd td s17 ++ (bV G ka kpa ++ (bA G aa wa aha ++ (bV G wa awa ++ (bT G ra ma rda ++ (bV G ma mda ++ (bP G pa tpa ++ (bH G sd hha ++ (bY G yd td tha ++ (bK G td tra ++ []))))))))))) (rest := [.int (2 : Int32), .ref (oa (120 + v6.toNatClampNeg))]) XX I hl.1 (c_V_isFall l G OK na nwa r11 _ rfl) kV_X11_317 RC rfl rfl (Nat.le_of_ble_eq_true rfl) ⟨rfl, rfl, Nat.le_of_ble_eq_true rfl, Nat.le_of_ble_eq_true rfl⟩ ⟨Nat.zero_le _, Nat.zero_le _⟩ dX11_fillRows_101 (fun H locs hz19 I => ?_)
          replace I : Iv G (va_A (bO G oa na ka aa ra pa sd yd td owa ++ (bV G na nwa ++ (bV G ka kpa ++ (bA G aa wa aha ++ (bV G wa awa ++ (bT G ra ma rda ++ (bV G ma mda ++ (bP G pa tpa ++ (bH G sd hha ++ (bY G yd td tha ++ (bK G td tra ++ []))))))))))) s0.heap.size) s0 H locs (bO G oa na ka aa ra pa sd yd td s17 ++ (bV G na nwa ++ (bV G ka kpa ++ (bA G aa wa aha ++ (bV G wa awa ++ (bT G ra ma rda ++ (bV G ma mda ++ (bP G pa tpa ++ (bH G sd hha ++ (bY G yd td tha ++ (bK G td tra ++ []))))))))))) := Iv.perm (w := (bV G na nwa) ++ (bO G oa na ka aa ra pa sd yd td s17 ++ (bV G ka kpa ++ (bA G aa wa aha ++ (bV G wa awa ++ (bT G ra ma rda ++ (bV G ma mda ++ (bP G pa tpa ++ (bH G sd hha ++ (bY G yd td tha ++ (bK G td tra ++ []))))))))))) I (((List.Perm.append_left _ (List.Perm.refl _)).trans (List.perm_append_comm_assoc _ _ _)).symm)
          refine lv_if_eq (tgt := 111) hx hb dX11_fillRows_104 (by decide) (fun c1 => ?_) (fun c1 => ?_)
          · replace h := if_t h c1
            refine lv_iconst (v := 0) hx hb dX11_fillRows_111 (by decide) ?_
            exact C112 (f_O_fillRows_dueRows_L31 fu n) ih _ _ _ _ _ _ _ _ _ _ h _ _ I ls (lv_sub hl [3, 4, 5, 2, 6, 7, 8, 0] rfl) (g18) (rfl)
          · replace h := if_f h c1
            refine lv_iconst (v := 1) hx hb dX11_fillRows_107 (by decide) ?_
            refine lv_goto (tgt := 112) hx hb dX11_fillRows_108 (by decide) ?_
            exact C112 (f_O_fillRows_dueRows_L31 fu n) ih _ _ _ _ _ _ _ _ _ _ h _ _ I ls (lv_sub hl [3, 4, 5, 2, 6, 7, 8, 0] rfl) (g18) (rfl)
  unfold f_O_fillRows_dueRows at h
  refine lv_aload_n hx hb dX11_fillRows_0 rfl (lv_at hl 0 rfl) ?_
  refine gO_X11_o0_now XX I dX11_fillRows_1 ?_
  refine gO_X11_o1_z XX I dX11_fillRows_4 ?_
  refine lv_topi (fun y1 ey1 => ?_)
  replace h := lt_e h ey1
  refine lv_istore_n (lv' := [(3, .int y1), (0, .ref (oa 0)), (1, .ref (oa 9)), (2, .int x2)]) hx hb dX11_fillRows_7 rfl hl (by decide) rfl (fun ls hl => ?_)
  refine lv_aload_n hx hb dX11_fillRows_8 rfl (lv_at hl 1 rfl) ?_
  refine gO_X11_o0_now XX I dX11_fillRows_9 ?_
  refine gO_X11_o1_law XX I dX11_fillRows_12 ?_
  refine lv_iconst (v := 3) hx hb dX11_fillRows_15 (by decide) ?_
  refine r_iald XX I 40 (aO_law1) (by unfold vp_in; decide) dX11_fillRows_16 ?_
  refine lv_topi (fun y2 ey2 => ?_)
  replace h := lt_e h ey2
  refine lv_istore (lv' := [(4, .int y2), (3, .int y1), (0, .ref (oa 0)), (1, .ref (oa 9)), (2, .int x2)]) hx hb dX11_fillRows_17 hl (by decide) rfl (fun ls hl => ?_)
  refine lv_aload_n hx hb dX11_fillRows_19 rfl (lv_at hl 2 rfl) ?_
  refine gO_X11_o0_now XX I dX11_fillRows_20 ?_
  obtain ⟨r3, q4, h⟩ := bd1_some h
  have RC := (Rc.mk XX I (q0 := 32) (ci := 9) rfl rfl)
  replace I : Iv G (va_A (bO G oa na ka aa ra pa sd yd td owa ++ (bV G na nwa ++ (bV G ka kpa ++ (bA G aa wa aha ++ (bV G wa awa ++ (bT G ra ma rda ++ (bV G ma mda ++ (bP G pa tpa ++ (bH G sd hha ++ (bY G yd td tha ++ (bK G td tra ++ []))))))))))) s0.heap.size) s0 _ _ ((bV G na nwa) ++ (bO G oa na ka aa ra pa sd yd td owa ++ (bV G ka kpa ++ (bA G aa wa aha ++ (bV G wa awa ++ (bT G ra ma rda ++ (bV G ma mda ++ (bP G pa tpa ++ (bH G sd hha ++ (bY G yd td tha ++ (bK G td tra ++ []))))))))))) := I.perm ((List.Perm.append_left _ (List.Perm.refl _)).trans (List.perm_append_comm_assoc _ _ _))
  refine call_i (X := []) (wc := (bV G na nwa)) (Y := (bO G oa na ka aa ra pa sd yd td owa ++ (bV G ka kpa ++ (bA G aa wa aha ++ (bV G wa awa ++ (bT G ra ma rda ++ (bV G ma mda ++ (bP G pa tpa ++ (bH G sd hha ++ (bY G yd td tha ++ (bK G td tra ++ []))))))))))) (rest := []) XX I hl.1 (c_V_packedNoes l G OK na fu nwa r3 q4) kV_X11_174 RC rfl rfl (Nat.le_of_ble_eq_true rfl) ⟨rfl, rfl, Nat.le_of_ble_eq_true rfl, Nat.le_of_ble_eq_true rfl⟩ ⟨Nat.zero_le _, Nat.zero_le _⟩ dX11_fillRows_23 (fun H locs hz5 I => ?_)
  replace I : Iv G (va_A (bO G oa na ka aa ra pa sd yd td owa ++ (bV G na nwa ++ (bV G ka kpa ++ (bA G aa wa aha ++ (bV G wa awa ++ (bT G ra ma rda ++ (bV G ma mda ++ (bP G pa tpa ++ (bH G sd hha ++ (bY G yd td tha ++ (bK G td tra ++ []))))))))))) s0.heap.size) s0 H locs (bO G oa na ka aa ra pa sd yd td owa ++ (bV G na nwa ++ (bV G ka kpa ++ (bA G aa wa aha ++ (bV G wa awa ++ (bT G ra ma rda ++ (bV G ma mda ++ (bP G pa tpa ++ (bH G sd hha ++ (bY G yd td tha ++ (bK G td tra ++ []))))))))))) := Iv.perm (w := (bV G na nwa) ++ (bO G oa na ka aa ra pa sd yd td owa ++ (bV G ka kpa ++ (bA G aa wa aha ++ (bV G wa awa ++ (bT G ra ma rda ++ (bV G ma mda ++ (bP G pa tpa ++ (bH G sd hha ++ (bY G yd td tha ++ (bK G td tra ++ []))))))))))) I (((List.Perm.append_left _ (List.Perm.refl _)).trans (List.perm_append_comm_assoc _ _ _)).symm)
  refine lv_istore (lv' := [(5, .int r3), (4, .int y2), (3, .int y1), (0, .ref (oa 0)), (1, .ref (oa 9)), (2, .int x2)]) hx hb dX11_fillRows_26 hl (by decide) rfl (fun ls hl => ?_)
  refine lv_iconst (v := 0) hx hb dX11_fillRows_28 (by decide) ?_
  refine lv_istore (lv' := [(6, .int (0 : Int32)), (5, .int r3), (4, .int y2), (3, .int y1), (0, .ref (oa 0)), (1, .ref (oa 9)), (2, .int x2)]) hx hb dX11_fillRows_29 hl (by decide) rfl (fun ls hl => ?_)
  exact C31 fu _ _ _ _ _ _ h _ _ I ls (lv_sub hl [4, 5, 6, 3, 2, 1, 0] rfl)
