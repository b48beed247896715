set_option maxRecDepth 100000 in
theorem kV_X11_237 : KV RX11 237 RX11 yX11_fillRows cX11_fillRows 9 none 2 := KV.mk wd_771 wd_773 wd_1606 wd_1 wd_774 (by decide +kernel)
set_option maxRecDepth 100000 in
theorem gO_X11_o0_rows {p : Program} {l : Launch} {e : Env} {R : Room} {s0 : State} {m : MethodId} {args : Array Value} {below : List Frame} {meth : Method} {c : Code} {H : Heap} {locs : List Loc} {cells slots : Nat} {Q : State → Prop} {cc : ByteArray} {nL pc : Nat} {ls : Array Slot} {rest : List Value} {G : g_G} {A : Nat → Prop} {oa : Nat → Nat} {na : Nat → Nat} {ka : Nat → Nat} {aa : Nat → Nat} {wa : Nat → Nat} {ra : Nat → Nat} {ma : Nat → Nat} {pa : Nat → Nat} {sd : Nat → Nat → Nat} {yd : Nat → Nat} {td : Nat → Nat} {ow : g_St} {nw : g_St} {kp : g_St} {ah : g_St} {aw : g_St} {rd : g_St} {md : g_St} {tp : g_St} {hh : g_Sf} {th : g_St} {tr : g_St} (XX : Cx G A p s0 m meth c cc nL RX11 args) (I : Iv G A s0 H locs (bO G oa na ka aa ra pa sd yd td ow ++ (bV G na nw ++ (bV G ka kp ++ (bA G aa wa ah ++ (bV G wa aw ++ (bT G ra ma rd ++ (bV G ma md ++ (bP G pa tp ++ (bH G sd hh ++ (bY G yd td th ++ (bK G td tr ++ [])))))))))))) (hdg : decode cc pc = .ok (.getfield 47, 3)) (kk : W p l e R s0 m args below meth c H locs cells slots Q (F0 m (pc + 3) ls (.ref (oa 8) :: rest))) : W p l e R s0 m args below meth c H locs cells slots Q (F0 m pc ls (.ref (oa 0) :: rest)) := r_get kfX11 XX I 0 rfl 7 (Nat.le_of_ble_eq_true rfl) wd_292 rfl hdg kk
set_option maxHeartbeats 4000000 in
set_option maxRecDepth 100000 in
theorem c_O_prove (l : Launch) (G : g_G) (OK : EOk G.2.2) (oa : Nat → Nat) (na : Nat → Nat) (ka : Nat → Nat) (aa : Nat → Nat) (wa : Nat → Nat) (ra : Nat → Nat) (ma : Nat → Nat) (pa : Nat → Nat) (sd : Nat → Nat → Nat) (yd : Nat → Nat) (td : Nat → Nat) (fu : Nat) (owa : g_St) (nwa : g_St) (kpa : g_St) (aha : g_St) (awa : g_St) (rda : g_St) (mda : g_St) (tpa : g_St) (hha : g_Sf) (tha : g_St) (tra : g_St) (x1 : Int32) (r : Int32) (tow : g_St) (h : f_O_prove fu owa nwa x1 = some (r, tow)) : HI l G yX11_prove (Cond.code yX11_prove cX11_prove 2 (some .int) :: gT) { frames := 5, cells := 0, slots := 0, locals := 127 } .int [.ref (oa 0), .int x1] (bO G oa na ka aa ra pa sd yd td owa ++ (bV G na nwa ++ (bV G ka kpa ++ (bA G aa wa aha ++ (bV G wa awa ++ (bT G ra ma rda ++ (bV G ma mda ++ (bP G pa tpa ++ (bH G sd hha ++ (bY G yd td tha ++ (bK G td tra ++ []))))))))))) r (bO G oa na ka aa ra pa sd yd td tow ++ (bV G na nwa ++ (bV G ka kpa ++ (bA G aa wa aha ++ (bV G wa awa ++ (bT G ra ma rda ++ (bV G ma mda ++ (bP G pa tpa ++ (bH G sd hha ++ (bY G yd td tha ++ (bK G td tra ++ []))))))))))) := by
  refine HI.mk (lv := [(0, .ref (oa 0)), (1, .int x1)]) OK (by decide) (Nat.le_of_ble_eq_true rfl) rfl ?_
  intro p e s0 m args below meth c ls XX hr I hl
  have hx := XX.x
  have hb := XX.b
  unfold f_O_prove at h
  refine lv_iload_n hx hb dX11_prove_0 rfl (lv_at hl 1 rfl) ?_
  refine lv_iconst (v := 1) hx hb dX11_prove_1 (by decide) ?_
  refine lv_bipush (v := 12) hx hb dX11_prove_2 (by decide) ?_
  refine scall_i (rest := []) XX I hl.1 (c_S_within l G OK x1 (1 : Int32) (12 : Int32) _ rfl) kS_X11_103 rfl rfl (Nat.le_of_ble_eq_true rfl) ⟨rfl, rfl, Nat.le_of_ble_eq_true rfl, Nat.le_of_ble_eq_true rfl⟩ ⟨Nat.zero_le _, Nat.zero_le _⟩ dX11_prove_4 (fun H locs hz1 I => ?_)
  refine lv_if_ne (tgt := 12) hx hb dX11_prove_7 (by decide) (fun c1 => ?_) (fun c1 => ?_)
  · replace h := if_f h c1
    refine lv_aload_n hx hb dX11_prove_12 rfl (lv_at hl 0 rfl) ?_
    refine gO_X11_o0_now XX I dX11_prove_13 ?_
    obtain ⟨r2, q3, h⟩ := bd1_some h
    have RC := (Rc.mk XX I (q0 := 32) (ci := 9) rfl rfl)
    replace I : Iv G (va_A (bO G oa na ka aa ra pa sd yd td owa ++ (bV G na nwa ++ (bV G ka kpa ++ (bA G aa wa aha ++ (bV G wa awa ++ (bT G ra ma rda ++ (bV G ma mda ++ (bP G pa tpa ++ (bH G sd hha ++ (bY G yd td tha ++ (bK G td tra ++ []))))))))))) s0.heap.size) s0 _ _ ((bV G na nwa) ++ (bO G oa na ka aa ra pa sd yd td owa ++ (bV G ka kpa ++ (bA G aa wa aha ++ (bV G wa awa ++ (bT G ra ma rda ++ (bV G ma mda ++ (bP G pa tpa ++ (bH G sd hha ++ (bY G yd td tha ++ (bK G td tra ++ []))))))))))) := I.perm ((List.Perm.append_left _ (List.Perm.refl _)).trans (List.perm_append_comm_assoc _ _ _))
    refine call_i (X := []) (wc := (bV G na nwa)) (Y := (bO G oa na ka aa ra pa sd yd td owa ++ (bV G ka kpa ++ (bA G aa wa aha ++ (bV G wa awa ++ (bT G ra ma rda ++ (bV G ma mda ++ (bP G pa tpa ++ (bH G sd hha ++ (bY G yd td tha ++ (bK G td tra ++ []))))))))))) (rest := []) XX I hl.1 (c_V_allWeights l G OK na fu nwa r2 q3) kV_X11_188 RC rfl rfl (Nat.le_of_ble_eq_true rfl) ⟨rfl, rfl, Nat.le_of_ble_eq_true rfl, Nat.le_of_ble_eq_true rfl⟩ ⟨Nat.zero_le _, Nat.zero_le _⟩ dX11_prove_16 (fun H locs hz4 I => ?_)
    replace I : Iv G (va_A (bO G oa na ka aa ra pa sd yd td owa ++ (bV G na nwa ++ (bV G ka kpa ++ (bA G aa wa aha ++ (bV G wa awa ++ (bT G ra ma rda ++ (bV G ma mda ++ (bP G pa tpa ++ (bH G sd hha ++ (bY G yd td tha ++ (bK G td tra ++ []))))))))))) s0.heap.size) s0 H locs (bO G oa na ka aa ra pa sd yd td owa ++ (bV G na nwa ++ (bV G ka kpa ++ (bA G aa wa aha ++ (bV G wa awa ++ (bT G ra ma rda ++ (bV G ma mda ++ (bP G pa tpa ++ (bH G sd hha ++ (bY G yd td tha ++ (bK G td tra ++ []))))))))))) := Iv.perm (w := (bV G na nwa) ++ (bO G oa na ka aa ra pa sd yd td owa ++ (bV G ka kpa ++ (bA G aa wa aha ++ (bV G wa awa ++ (bT G ra ma rda ++ (bV G ma mda ++ (bP G pa tpa ++ (bH G sd hha ++ (bY G yd td tha ++ (bK G td tra ++ []))))))))))) I (((List.Perm.append_left _ (List.Perm.refl _)).trans (List.perm_append_comm_assoc _ _ _)).symm)
    refine lv_if_ne (tgt := 25) hx hb dX11_prove_19 (by decide) (fun c1 => ?_) (fun c1 => ?_)
    · replace h := if_f h c1
      refine lv_aload_n hx hb dX11_prove_25 rfl (lv_at hl 0 rfl) ?_
      refine lv_aload_n hx hb dX11_prove_26 rfl (lv_at hl 0 rfl) ?_
      refine gO_X11_o0_rows XX I dX11_prove_27 ?_
      refine lv_iload_n hx hb dX11_prove_30 rfl (lv_at hl 1 rfl) ?_
      obtain ⟨s5, q6, h⟩ := bd1_some h
      refine wcall_v (rest := []) XX I hl.1 (c_O_fillRows_rows l G OK oa na ka aa wa ra ma pa sd yd td fu owa nwa kpa aha awa rda mda tpa hha tha tra x1 s5 q6) kV_X11_237 (Rc.mk XX I (q0 := 0) (ci := 11) rfl rfl) rfl rfl (Nat.le_of_ble_eq_true rfl) ⟨rfl, rfl, Nat.le_of_ble_eq_true rfl, Nat.le_of_ble_eq_true rfl⟩ ⟨Nat.zero_le _, Nat.zero_le _⟩ dX11_prove_31 (fun H locs I => ?_)
      refine lv_aload_n hx hb dX11_prove_34 rfl (lv_at hl 0 rfl) ?_
      refine lv_iload_n hx hb dX11_prove_35 rfl (lv_at hl 1 rfl) ?_
      refine pO_X11_o0_rowCount XX I dX11_prove_36 (fun H locs I => ?_)
      obtain ⟨s8, es8⟩ : ∃ z, z = si s5 9 x1 := ⟨_, rfl⟩
      replace h := lt_e h es8
      replace I : Iv G (va_A (bO G oa na ka aa ra pa sd yd td owa ++ (bV G na nwa ++ (bV G ka kpa ++ (bA G aa wa aha ++ (bV G wa awa ++ (bT G ra ma rda ++ (bV G ma mda ++ (bP G pa tpa ++ (bH G sd hha ++ (bY G yd td tha ++ (bK G td tra ++ []))))))))))) s0.heap.size) s0 H locs (bO G oa na ka aa ra pa sd yd td s8 ++ (bV G na nwa ++ (bV G ka kpa ++ (bA G aa wa aha ++ (bV G wa awa ++ (bT G ra ma rda ++ (bV G ma mda ++ (bP G pa tpa ++ (bH G sd hha ++ (bY G yd td tha ++ (bK G td tra ++ []))))))))))) := by rw [es8]; exact I
      refine lv_iload_n hx hb dX11_prove_39 rfl (lv_at hl 1 rfl) ?_
      obtain ⟨rfl, rfl⟩ := some2 h
      exact e_i rfl XX hr I rfl dX11_prove_40
    · replace h := if_t h c1
      refine lv_bipush (v := (-3)) hx hb dX11_prove_22 (by decide) ?_
      obtain ⟨rfl, rfl⟩ := some2 h
      exact e_i rfl XX hr I rfl dX11_prove_24
  · replace h := if_t h c1
    refine lv_iconst (v := (-1)) hx hb dX11_prove_10 (by decide) ?_
    obtain ⟨rfl, rfl⟩ := some2 h
    exact e_i rfl XX hr I rfl dX11_prove_11
set_option maxRecDepth 100000 in
theorem gO_X11_o0_rowCount {p : Program} {l : Launch} {e : Env} {R : Room} {s0 : State} {m : MethodId} {args : Array Value} {below : List Frame} {meth : Method} {c : Code} {H : Heap} {locs : List Loc} {cells slots : Nat} {Q : State → Prop} {cc : ByteArray} {nL pc : Nat} {ls : Array Slot} {rest : List Value} {G : g_G} {A : Nat → Prop} {oa : Nat → Nat} {na : Nat → Nat} {ka : Nat → Nat} {aa : Nat → Nat} {wa : Nat → Nat} {ra : Nat → Nat} {ma : Nat → Nat} {pa : Nat → Nat} {sd : Nat → Nat → Nat} {yd : Nat → Nat} {td : Nat → Nat} {ow : g_St} {nw : g_St} {kp : g_St} {ah : g_St} {aw : g_St} {rd : g_St} {md : g_St} {tp : g_St} {hh : g_Sf} {th : g_St} {tr : g_St} (XX : Cx G A p s0 m meth c cc nL RX11 args) (I : Iv G A s0 H locs (bO G oa na ka aa ra pa sd yd td ow ++ (bV G na nw ++ (bV G ka kp ++ (bA G aa wa ah ++ (bV G wa aw ++ (bT G ra ma rd ++ (bV G ma md ++ (bP G pa tp ++ (bH G sd hh ++ (bY G yd td th ++ (bK G td tr ++ [])))))))))))) (hdg : decode cc pc = .ok (.getfield 53, 3)) (kk : W p l e R s0 m args below meth c H locs cells slots Q (F0 m (pc + 3) ls (.int (gi ow 9) :: rest))) : W p l e R s0 m args below meth c H locs cells slots Q (F0 m pc ls (.ref (oa 0) :: rest)) := r_get kfX11 XX I 0 rfl 9 (Nat.le_of_ble_eq_true rfl) wd_294 rfl hdg kk
set_option maxHeartbeats 4000000 in
set_option maxRecDepth 100000 in
theorem c_O_isInRows (l : Launch) (G : g_G) (OK : EOk G.2.2) (oa : Nat → Nat) (na : Nat → Nat) (ka : Nat → Nat) (aa : Nat → Nat) (wa : Nat → Nat) (ra : Nat → Nat) (ma : Nat → Nat) (pa : Nat → Nat) (sd : Nat → Nat → Nat) (yd : Nat → Nat) (td : Nat → Nat) (owa : g_St) (nwa : g_St) (kpa : g_St) (aha : g_St) (awa : g_St) (rda : g_St) (mda : g_St) (tpa : g_St) (hha : g_Sf) (tha : g_St) (tra : g_St) (x1 : Int32) (x2 : Int32) (r : Int32) (h : f_O_isInRows owa x1 x2 = r) : HI l G yX11_isInRows (Cond.code yX11_isInRows cX11_isInRows 3 (some .boolean) :: gT) { frames := 1, cells := 0, slots := 0, locals := 22 } .boolean [.ref (oa 0), .int x1, .int x2] (bO G oa na ka aa ra pa sd yd td owa ++ (bV G na nwa ++ (bV G ka kpa ++ (bA G aa wa aha ++ (bV G wa awa ++ (bT G ra ma rda ++ (bV G ma mda ++ (bP G pa tpa ++ (bH G sd hha ++ (bY G yd td tha ++ (bK G td tra ++ []))))))))))) r (bO G oa na ka aa ra pa sd yd td owa ++ (bV G na nwa ++ (bV G ka kpa ++ (bA G aa wa aha ++ (bV G wa awa ++ (bT G ra ma rda ++ (bV G ma mda ++ (bP G pa tpa ++ (bH G sd hha ++ (bY G yd td tha ++ (bK G td tra ++ []))))))))))) := by
  refine HI.mk (lv := [(0, .ref (oa 0)), (1, .int x1), (2, .int x2)]) OK (by decide) (Nat.le_of_ble_eq_true rfl) rfl ?_
  intro p e s0 m args below meth c ls XX hr I hl
  have hx := XX.x
  have hb := XX.b
  unfold f_O_isInRows at h
  refine lv_iload_n hx hb dX11_isInRows_0 rfl (lv_at hl 1 rfl) ?_
  refine lv_iconst (v := 0) hx hb dX11_isInRows_1 (by decide) ?_
  refine lv_aload_n hx hb dX11_isInRows_2 rfl (lv_at hl 0 rfl) ?_
  refine gO_X11_o0_rowCount XX I dX11_isInRows_3 ?_
  refine lv_iconst (v := 1) hx hb dX11_isInRows_6 (by decide) ?_
  refine lv_isub hx hb dX11_isInRows_7 ?_
  refine scall_i (rest := []) XX I hl.1 (c_S_within l G OK x1 (0 : Int32) ((gi owa 9) - (1 : Int32)) _ rfl) kS_X11_103 rfl rfl (Nat.le_of_ble_eq_true rfl) ⟨rfl, rfl, Nat.le_of_ble_eq_true rfl, Nat.le_of_ble_eq_true rfl⟩ ⟨Nat.zero_le _, Nat.zero_le _⟩ dX11_isInRows_8 (fun H locs hz1 I => ?_)
  refine lv_if_eq (tgt := 27) hx hb dX11_isInRows_11 (by decide) (fun c1 => ?_) (fun c1 => ?_)
  · replace h := if_t h c1
    refine lv_iconst (v := 0) hx hb dX11_isInRows_27 (by decide) ?_
    subst h
    exact e_z XX hr I rfl rfl dX11_isInRows_28
  · replace h := if_f h c1
    refine lv_iload_n hx hb dX11_isInRows_14 rfl (lv_at hl 2 rfl) ?_
    refine lv_iconst (v := 0) hx hb dX11_isInRows_15 (by decide) ?_
    refine lv_iconst (v := 2) hx hb dX11_isInRows_16 (by decide) ?_
    refine scall_i (rest := []) XX I hl.1 (c_S_within l G OK x2 (0 : Int32) (2 : Int32) _ rfl) kS_X11_103 rfl rfl (Nat.le_of_ble_eq_true rfl) ⟨rfl, rfl, Nat.le_of_ble_eq_true rfl, Nat.le_of_ble_eq_true rfl⟩ ⟨Nat.zero_le _, Nat.zero_le _⟩ dX11_isInRows_17 (fun H locs hz2 I => ?_)
    refine lv_if_eq (tgt := 27) hx hb dX11_isInRows_20 (by decide) (fun c1 => ?_) (fun c1 => ?_)
    · replace h := if_t h c1
      refine lv_iconst (v := 0) hx hb dX11_isInRows_27 (by decide) ?_
      subst h
      exact e_z XX hr I rfl rfl dX11_isInRows_28
    · replace h := if_f h c1
      refine lv_iconst (v := 1) hx hb dX11_isInRows_23 (by decide) ?_
      refine lv_goto (tgt := 28) hx hb dX11_isInRows_24 (by decide) ?_
      subst h
      exact e_z XX hr I rfl rfl dX11_isInRows_28
set_option maxRecDepth 100000 in
theorem kV_X11_241 : KV RX11 241 RX11 yX11_isInRows cX11_isInRows 3 (some .boolean) 2 := KV.mk wd_781 wd_783 wd_1607 wd_1 wd_784 (by decide +kernel)
set_option maxHeartbeats 4000000 in
set_option maxRecDepth 100000 in
theorem c_O_row (l : Launch) (G : g_G) (OK : EOk G.2.2) (oa : Nat → Nat) (na : Nat → Nat) (ka : Nat → Nat) (aa : Nat → Nat) (wa : Nat → Nat) (ra : Nat → Nat) (ma : Nat → Nat) (pa : Nat → Nat) (sd : Nat → Nat → Nat) (yd : Nat → Nat) (td : Nat → Nat) (owa : g_St) (nwa : g_St) (kpa : g_St) (aha : g_St) (awa : g_St) (rda : g_St) (mda : g_St) (tpa : g_St) (hha : g_Sf) (tha : g_St) (tra : g_St) (x1 : Int32) (x2 : Int32) (r : Int32) (h : f_O_row owa x1 x2 = some r) : HI l G yX11_row (Cond.code yX11_row cX11_row 3 (some .int) :: gT) { frames := 2, cells := 0, slots := 0, locals := 44 } .int [.ref (oa 0), .int x1, .int x2] (bO G oa na ka aa ra pa sd yd td owa ++ (bV G na nwa ++ (bV G ka kpa ++ (bA G aa wa aha ++ (bV G wa awa ++ (bT G ra ma rda ++ (bV G ma mda ++ (bP G pa tpa ++ (bH G sd hha ++ (bY G yd td tha ++ (bK G td tra ++ []))))))))))) r (bO G oa na ka aa ra pa sd yd td owa ++ (bV G na nwa ++ (bV G ka kpa ++ (bA G aa wa aha ++ (bV G wa awa ++ (bT G ra ma rda ++ (bV G ma mda ++ (bP G pa tpa ++ (bH G sd hha ++ (bY G yd td tha ++ (bK G td tra ++ []))))))))))) := by
  refine HI.mk (lv := [(0, .ref (oa 0)), (1, .int x1), (2, .int x2)]) OK (by decide) (Nat.le_of_ble_eq_true rfl) rfl ?_
  intro p e s0 m args below meth c ls XX hr I hl
  have hx := XX.x
  have hb := XX.b
  unfold f_O_row at h
  refine lv_aload_n hx hb dX11_row_0 rfl (lv_at hl 0 rfl) ?_
  refine lv_iload_n hx hb dX11_row_1 rfl (lv_at hl 1 rfl) ?_
  refine lv_iload_n hx hb dX11_row_2 rfl (lv_at hl 2 rfl) ?_
  refine wcall_i (rest := []) XX I hl.1 (c_O_isInRows l G OK oa na ka aa wa ra ma pa sd yd td owa nwa kpa aha awa rda mda tpa hha tha tra x1 x2 _ rfl) kV_X11_241 (Rc.mk XX I (q0 := 0) (ci := 11) rfl rfl) rfl rfl (Nat.le_of_ble_eq_true rfl) ⟨rfl, rfl, Nat.le_of_ble_eq_true rfl, Nat.le_of_ble_eq_true rfl⟩ ⟨Nat.zero_le _, Nat.zero_le _⟩ dX11_row_3 (fun H locs hz1 I => ?_)
  refine lv_if_eq (tgt := 20) hx hb dX11_row_6 (by decide) (fun c1 => ?_) (fun c1 => ?_)
  · replace h := if_t h c1
    refine lv_bipush (v := (-9)) hx hb dX11_row_20 (by decide) ?_
    obtain rfl := some1 h
    exact e_i rfl XX hr I rfl dX11_row_22
  · replace h := if_f h c1
    refine lv_aload_n hx hb dX11_row_9 rfl (lv_at hl 0 rfl) ?_
    refine gO_X11_o0_rows XX I dX11_row_10 ?_
    refine lv_iload_n hx hb dX11_row_13 rfl (lv_at hl 1 rfl) ?_
    obtain ⟨g2, h⟩ := gd_some h
    refine r_aaldI XX I 1 rfl (v := .ref (oa (100 + x1.toNatClampNeg))) rfl g2 dX11_row_14 ?_
    refine lv_iload_n hx hb dX11_row_15 rfl (lv_at hl 2 rfl) ?_
    obtain ⟨g3, h⟩ := gd_some h
    refine r_iald XX I (8 + x1.toNatClampNeg) (aO_rrow0 (vin_lt g2)) g3 dX11_row_16 ?_
    refine lv_goto (tgt := 22) hx hb dX11_row_17 (by decide) ?_
    obtain rfl := some1 h
    exact e_i rfl XX hr I rfl dX11_row_22
set_option maxHeartbeats 4000000 in
set_option maxRecDepth 100000 in
theorem c_O_alterRow (l : Launch) (G : g_G) (OK : EOk G.2.2) (oa : Nat → Nat) (na : Nat → Nat) (ka : Nat → Nat) (aa : Nat → Nat) (wa : Nat → Nat) (ra : Nat → Nat) (ma : Nat → Nat) (pa : Nat → Nat) (sd : Nat → Nat → Nat) (yd : Nat → Nat) (td : Nat → Nat) (owa : g_St) (nwa : g_St) (kpa : g_St) (aha : g_St) (awa : g_St) (rda : g_St) (mda : g_St) (tpa : g_St) (hha : g_Sf) (tha : g_St) (tra : g_St) (x1 : Int32) (x2 : Int32) (x3 : Int32) (r : Int32) (tow : g_St) (h : f_O_alterRow owa x1 x2 x3 = some (r, tow)) : HI l G yX11_alterRow (Cond.code yX11_alterRow cX11_alterRow 5 (some .int) :: gT) { frames := 2, cells := 0, slots := 0, locals := 44 } .int [.ref (oa 0), .int x1, .int x2, .int x3] (bO G oa na ka aa ra pa sd yd td owa ++ (bV G na nwa ++ (bV G ka kpa ++ (bA G aa wa aha ++ (bV G wa awa ++ (bT G ra ma rda ++ (bV G ma mda ++ (bP G pa tpa ++ (bH G sd hha ++ (bY G yd td tha ++ (bK G td tra ++ []))))))))))) r (bO G oa na ka aa ra pa sd yd td tow ++ (bV G na nwa ++ (bV G ka kpa ++ (bA G aa wa aha ++ (bV G wa awa ++ (bT G ra ma rda ++ (bV G ma mda ++ (bP G pa tpa ++ (bH G sd hha ++ (bY G yd td tha ++ (bK G td tra ++ []))))))))))) := by
  refine HI.mk (lv := [(0, .ref (oa 0)), (1, .int x1), (2, .int x2), (3, .int x3)]) OK (by decide) (Nat.le_of_ble_eq_true rfl) rfl ?_
  intro p e s0 m args below meth c ls XX hr I hl
  have hx := XX.x
  have hb := XX.b
  unfold f_O_alterRow at h
  refine lv_aload_n hx hb dX11_alterRow_0 rfl (lv_at hl 0 rfl) ?_
  refine lv_iload_n hx hb dX11_alterRow_1 rfl (lv_at hl 1 rfl) ?_
  refine lv_iload_n hx hb dX11_alterRow_2 rfl (lv_at hl 2 rfl) ?_
  refine wcall_i (rest := []) XX I hl.1 (c_O_isInRows l G OK oa na ka aa wa ra ma pa sd yd td owa nwa kpa aha awa rda mda tpa hha tha tra x1 x2 _ rfl) kV_X11_241 (Rc.mk XX I (q0 := 0) (ci := 11) rfl rfl) rfl rfl (Nat.le_of_ble_eq_true rfl) ⟨rfl, rfl, Nat.le_of_ble_eq_true rfl, Nat.le_of_ble_eq_true rfl⟩ ⟨Nat.zero_le _, Nat.zero_le _⟩ dX11_alterRow_3 (fun H locs hz1 I => ?_)
  refine lv_if_ne (tgt := 12) hx hb dX11_alterRow_6 (by decide) (fun c1 => ?_) (fun c1 => ?_)
  · replace h := if_f h c1
    refine lv_aload_n hx hb dX11_alterRow_12 rfl (lv_at hl 0 rfl) ?_
    refine gO_X11_o0_rows XX I dX11_alterRow_13 ?_
    refine lv_iload_n hx hb dX11_alterRow_16 rfl (lv_at hl 1 rfl) ?_
    obtain ⟨g2, h⟩ := gd_some h
    refine r_aaldI XX I 1 rfl (v := .ref (oa (100 + x1.toNatClampNeg))) rfl g2 dX11_alterRow_17 ?_
    refine lv_iload_n hx hb dX11_alterRow_18 rfl (lv_at hl 2 rfl) ?_
    obtain ⟨g3, h⟩ := gd_some h
    refine r_iald XX I (8 + x1.toNatClampNeg) (aO_rrow0 (vin_lt g2)) g3 dX11_alterRow_19 ?_
    refine lv_topi (fun y4 ey4 => ?_)
    replace h := lt_e h ey4
    refine lv_istore (lv' := [(4, .int y4), (0, .ref (oa 0)), (1, .int x1), (2, .int x2), (3, .int x3)]) hx hb dX11_alterRow_20 hl (by decide) rfl (fun ls hl => ?_)
    refine lv_aload_n hx hb dX11_alterRow_22 rfl (lv_at hl 1 rfl) ?_
    refine gO_X11_o0_rows XX I dX11_alterRow_23 ?_
    refine lv_iload_n hx hb dX11_alterRow_26 rfl (lv_at hl 2 rfl) ?_
    obtain ⟨g5, h⟩ := gd_some h
    refine r_aaldI XX I 1 rfl (v := .ref (oa (100 + x1.toNatClampNeg))) rfl g5 dX11_alterRow_27 ?_
    refine lv_iload_n hx hb dX11_alterRow_28 rfl (lv_at hl 3 rfl) ?_
    refine lv_iload_n hx hb dX11_alterRow_29 rfl (lv_at hl 4 rfl) ?_
    obtain ⟨g6, h⟩ := gd_some h
    refine r_iast XX I (8 + x1.toNatClampNeg) (aO_rrow0 (vin_lt g5)) (sO_rrow0 (vin_lt g5)) g6 dX11_alterRow_30 (fun H locs I => ?_)
    obtain ⟨s7, es7⟩ : ∃ z, z = sr owa (100 + x1.toNatClampNeg) x2 x3 := ⟨_, rfl⟩
    replace h := lt_e h es7
    replace I : Iv G (va_A (bO G oa na ka aa ra pa sd yd td owa ++ (bV G na nwa ++ (bV G ka kpa ++ (bA G aa wa aha ++ (bV G wa awa ++ (bT G ra ma rda ++ (bV G ma mda ++ (bP G pa tpa ++ (bH G sd hha ++ (bY G yd td tha ++ (bK G td tra ++ []))))))))))) s0.heap.size) s0 H locs (bO G oa na ka aa ra pa sd yd td s7 ++ (bV G na nwa ++ (bV G ka kpa ++ (bA G aa wa aha ++ (bV G wa awa ++ (bT G ra ma rda ++ (bV G ma mda ++ (bP G pa tpa ++ (bH G sd hha ++ (bY G yd td tha ++ (bK G td tra ++ []))))))))))) := by rw [es7]; exact I
    refine lv_iload hx hb dX11_alterRow_31 (lv_at hl 0 rfl) ?_
    obtain ⟨rfl, rfl⟩ := some2 h
    exact e_i rfl XX hr I rfl dX11_alterRow_33
  · replace h := if_t h c1
    refine lv_bipush (v := (-9)) hx hb dX11_alterRow_9 (by decide) ?_
    obtain ⟨rfl, rfl⟩ := some2 h
    exact e_i rfl XX hr I rfl dX11_alterRow_11
set_option maxRecDepth 100000 in
theorem gO_X11_o0_dueRows {p : Program} {l : Launch} {e : Env} {R : Room} {s0 : State} {m : MethodId} {args : Array Value} {below : List Frame} {meth : Method} {c : Code} {H : Heap} {locs : List Loc} {cells slots : Nat} {Q : State → Prop} {cc : ByteArray} {nL pc : Nat} {ls : Array Slot} {rest : List Value} {G : g_G} {A : Nat → Prop} {oa : Nat → Nat} {na : Nat → Nat} {ka : Nat → Nat} {aa : Nat → Nat} {wa : Nat → Nat} {ra : Nat → Nat} {ma : Nat → Nat} {pa : Nat → Nat} {sd : Nat → Nat → Nat} {yd : Nat → Nat} {td : Nat → Nat} {ow : g_St} {nw : g_St} {kp : g_St} {ah : g_St} {aw : g_St} {rd : g_St} {md : g_St} {tp : g_St} {hh : g_Sf} {th : g_St} {tr : g_St} (XX : Cx G A p s0 m meth c cc nL RX11 args) (I : Iv G A s0 H locs (bO G oa na ka aa ra pa sd yd td ow ++ (bV G na nw ++ (bV G ka kp ++ (bA G aa wa ah ++ (bV G wa aw ++ (bT G ra ma rd ++ (bV G ma md ++ (bP G pa tp ++ (bH G sd hh ++ (bY G yd td th ++ (bK G td tr ++ [])))))))))))) (hdg : decode cc pc = .ok (.getfield 50, 3)) (kk : W p l e R s0 m args below meth c H locs cells slots Q (F0 m (pc + 3) ls (.ref (oa 9) :: rest))) : W p l e R s0 m args below meth c H locs cells slots Q (F0 m pc ls (.ref (oa 0) :: rest)) := r_get kfX11 XX I 0 rfl 8 (Nat.le_of_ble_eq_true rfl) wd_293 rfl hdg kk
set_option maxHeartbeats 4000000 in
set_option maxRecDepth 100000 in
theorem c_O_judge (l : Launch) (G : g_G) (OK : EOk G.2.2) (oa : Nat → Nat) (na : Nat → Nat) (ka : Nat → Nat) (aa : Nat → Nat) (wa : Nat → Nat) (ra : Nat → Nat) (ma : Nat → Nat) (pa : Nat → Nat) (sd : Nat → Nat → Nat) (yd : Nat → Nat) (td : Nat → Nat) (fu : Nat) (owa : g_St) (nwa : g_St) (kpa : g_St) (aha : g_St) (awa : g_St) (rda : g_St) (mda : g_St) (tpa : g_St) (hha : g_Sf) (tha : g_St) (tra : g_St) (r : Int32) (tow : g_St) (h : f_O_judge fu owa nwa = some (r, tow)) : HI l G yX11_judge (Cond.code yX11_judge cX11_judge 3 (some .int) :: gT) { frames := 5, cells := 0, slots := 0, locals := 127 } .int [.ref (oa 0)] (bO G oa na ka aa ra pa sd yd td owa ++ (bV G na nwa ++ (bV G ka kpa ++ (bA G aa wa aha ++ (bV G wa awa ++ (bT G ra ma rda ++ (bV G ma mda ++ (bP G pa tpa ++ (bH G sd hha ++ (bY G yd td tha ++ (bK G td tra ++ []))))))))))) r (bO G oa na ka aa ra pa sd yd td tow ++ (bV G na nwa ++ (bV G ka kpa ++ (bA G aa wa aha ++ (bV G wa awa ++ (bT G ra ma rda ++ (bV G ma mda ++ (bP G pa tpa ++ (bH G sd hha ++ (bY G yd td tha ++ (bK G td tra ++ []))))))))))) := by
  refine HI.mk (lv := [(0, .ref (oa 0))]) OK (by decide) (Nat.le_of_ble_eq_true rfl) rfl ?_
  intro p e s0 m args below meth c ls XX hr I hl
  have hx := XX.x
  have hb := XX.b
  have C37 : ∀ (k27 : g_St → g_St → Int32 → Option (Int32 × g_St)), (∀ (ow : g_St) (v1 : Int32), k27 ow nwa v1 = some (r, tow) → ∀ (H : Heap) (locs : List Loc), Iv G (va_A (bO G oa na ka aa ra pa sd yd td owa ++ (bV G na nwa ++ (bV G ka kpa ++ (bA G aa wa aha ++ (bV G wa awa ++ (bT G ra ma rda ++ (bV G ma mda ++ (bP G pa tpa ++ (bH G sd hha ++ (bY G yd td tha ++ (bK G td tra ++ []))))))))))) s0.heap.size) s0 H locs (bO G oa na ka aa ra pa sd yd td ow ++ (bV G na nwa ++ (bV G ka kpa ++ (bA G aa wa aha ++ (bV G wa awa ++ (bT G ra ma rda ++ (bV G ma mda ++ (bP G pa tpa ++ (bH G sd hha ++ (bY G yd td tha ++ (bK G td tra ++ []))))))))))) → ∀ ls, lv_has ls 3 [(0, .ref (oa 0)), (1, .int v1)] → W p l e { frames := 5, cells := 0, slots := 0, locals := 127 } s0 m args below meth c H locs 0 0 (QI G below .int r (bO G oa na ka aa ra pa sd yd td owa ++ (bV G na nwa ++ (bV G ka kpa ++ (bA G aa wa aha ++ (bV G wa awa ++ (bT G ra ma rda ++ (bV G ma mda ++ (bP G pa tpa ++ (bH G sd hha ++ (bY G yd td tha ++ (bK G td tra ++ []))))))))))) (bO G oa na ka aa ra pa sd yd td tow ++ (bV G na nwa ++ (bV G ka kpa ++ (bA G aa wa aha ++ (bV G wa awa ++ (bT G ra ma rda ++ (bV G ma mda ++ (bP G pa tpa ++ (bH G sd hha ++ (bY G yd td tha ++ (bK G td tra ++ []))))))))))) args s0) (F0 m 27 ls [])) → ∀ n : Nat, ∀ (ow : g_St) (v1 : Int32) (v2 : Int32), f_O_judge_L37 fu k27 n ow nwa v1 v2 = some (r, tow) → ∀ (H : Heap) (locs : List Loc), Iv G (va_A (bO G oa na ka aa ra pa sd yd td owa ++ (bV G na nwa ++ (bV G ka kpa ++ (bA G aa wa aha ++ (bV G wa awa ++ (bT G ra ma rda ++ (bV G ma mda ++ (bP G pa tpa ++ (bH G sd hha ++ (bY G yd td tha ++ (bK G td tra ++ []))))))))))) s0.heap.size) s0 H locs (bO G oa na ka aa ra pa sd yd td ow ++ (bV G na nwa ++ (bV G ka kpa ++ (bA G aa wa aha ++ (bV G wa awa ++ (bT G ra ma rda ++ (bV G ma mda ++ (bP G pa tpa ++ (bH G sd hha ++ (bY G yd td tha ++ (bK G td tra ++ []))))))))))) → ∀ ls, lv_has ls 3 [(0, .ref (oa 0)), (1, .int v1), (2, .int v2)] → W p l e { frames := 5, cells := 0, slots := 0, locals := 127 } s0 m args below meth c H locs 0 0 (QI G below .int r (bO G oa na ka aa ra pa sd yd td owa ++ (bV G na nwa ++ (bV G ka kpa ++ (bA G aa wa aha ++ (bV G wa awa ++ (bT G ra ma rda ++ (bV G ma mda ++ (bP G pa tpa ++ (bH G sd hha ++ (bY G yd td tha ++ (bK G td tra ++ []))))))))))) (bO G oa na ka aa ra pa sd yd td tow ++ (bV G na nwa ++ (bV G ka kpa ++ (bA G aa wa aha ++ (bV G wa awa ++ (bT G ra ma rda ++ (bV G ma mda ++ (bP G pa tpa ++ (bH G sd hha ++ (bY G yd td tha ++ (bK G td tra ++ []))))))))))) args s0) (F0 m 37 ls []) := by
    intro k27 hk27 n
    induction n with
    | zero => intro ow v1 v2 h; exact absurd h (fun q => by cases q)
    | succ n ih =>
      intro ow v1 v2 h H locs I ls hl
      rw [f_O_judge_L37] at h
      refine lv_iload_n hx hb dX11_judge_37 rfl (lv_at hl 2 rfl) ?_
      refine lv_iconst (v := 3) hx hb dX11_judge_38 (by decide) ?_
      refine lv_icmp_ge (tgt := 71) hx hb dX11_judge_39 (by decide) (fun c1 => ?_) (fun c1 => ?_)
      · replace h := if_t h c1
        obtain ⟨y7, ey7⟩ : ∃ z : Int32, z = v1 + (1 : Int32) := ⟨_, rfl⟩
        replace h := lt_e h ey7
        refine lv_iinc (v := y7) (lv' := [(1, .int y7), (0, .ref (oa 0)), (2, .int v2)]) hx hb dX11_judge_71 hl (k := 1) rfl (by rw [ey7]; rfl) (by decide) rfl (fun ls hl => ?_)
        refine lv_goto (tgt := 27) hx hb dX11_judge_74 (by decide) ?_
        exact hk27 _ _ h _ _ I ls (lv_sub hl [1, 0] rfl)
      · replace h := if_f h c1
        refine lv_aload_n hx hb dX11_judge_42 rfl (lv_at hl 0 rfl) ?_
        refine gO_X11_o0_rows XX I dX11_judge_43 ?_
        refine lv_iload_n hx hb dX11_judge_46 rfl (lv_at hl 1 rfl) ?_
        obtain ⟨g8, h⟩ := gd_some h
        refine r_aaldI XX I 1 rfl (v := .ref (oa (100 + v1.toNatClampNeg))) rfl g8 dX11_judge_47 ?_
        refine lv_iload_n hx hb dX11_judge_48 rfl (lv_at hl 2 rfl) ?_
        obtain ⟨g9, h⟩ := gd_some h
        refine r_iald XX I (8 + v1.toNatClampNeg) (aO_rrow0 (vin_lt g8)) g9 dX11_judge_49 ?_
        refine lv_aload_n hx hb dX11_judge_50 rfl (lv_at hl 0 rfl) ?_
        refine gO_X11_o0_dueRows XX I dX11_judge_51 ?_
        refine lv_iload_n hx hb dX11_judge_54 rfl (lv_at hl 1 rfl) ?_
        obtain ⟨g10, h⟩ := gd_some h
        refine r_aaldI XX I 2 rfl (v := .ref (oa (120 + v1.toNatClampNeg))) rfl g10 dX11_judge_55 ?_
        refine lv_iload_n hx hb dX11_judge_56 rfl (lv_at hl 2 rfl) ?_
        obtain ⟨g11, h⟩ := gd_some h
        refine r_iald XX I (20 + v1.toNatClampNeg) (aO_drow0 (vin_lt g10)) g11 dX11_judge_57 ?_
        refine lv_icmp_eq (tgt := 65) hx hb dX11_judge_58 (by decide) (fun c1 => ?_) (fun c1 => ?_)
        · replace h := if_t h c1
          obtain ⟨y12, ey12⟩ : ∃ z : Int32, z = v2 + (1 : Int32) := ⟨_, rfl⟩
          replace h := lt_e h ey12
          refine lv_iinc (v := y12) (lv' := [(2, .int y12), (0, .ref (oa 0)), (1, .int v1)]) hx hb dX11_judge_65 hl (k := 2) rfl (by rw [ey12]; rfl) (by decide) rfl (fun ls hl => ?_)
          refine lv_goto (tgt := 37) hx hb dX11_judge_68 (by decide) ?_
          exact ih _ _ _ h _ _ I ls (lv_sub hl [1, 2, 0] rfl)
        · replace h := if_f h c1
          refine lv_iload_n hx hb dX11_judge_61 rfl (lv_at hl 1 rfl) ?_
          refine lv_iconst (v := 1) hx hb dX11_judge_62 (by decide) ?_
          refine lv_iadd hx hb dX11_judge_63 ?_
          obtain ⟨rfl, rfl⟩ := some2 h
          exact e_i rfl XX hr I rfl dX11_judge_64
  have C27 : ∀ n : Nat, ∀ (ow : g_St) (v1 : Int32), f_O_judge_L27 fu n ow nwa v1 = some (r, tow) → ∀ (H : Heap) (locs : List Loc), Iv G (va_A (bO G oa na ka aa ra pa sd yd td owa ++ (bV G na nwa ++ (bV G ka kpa ++ (bA G aa wa aha ++ (bV G wa awa ++ (bT G ra ma rda ++ (bV G ma mda ++ (bP G pa tpa ++ (bH G sd hha ++ (bY G yd td tha ++ (bK G td tra ++ []))))))))))) s0.heap.size) s0 H locs (bO G oa na ka aa ra pa sd yd td ow ++ (bV G na nwa ++ (bV G ka kpa ++ (bA G aa wa aha ++ (bV G wa awa ++ (bT G ra ma rda ++ (bV G ma mda ++ (bP G pa tpa ++ (bH G sd hha ++ (bY G yd td tha ++ (bK G td tra ++ []))))))))))) → ∀ ls, lv_has ls 3 [(0, .ref (oa 0)), (1, .int v1)] → W p l e { frames := 5, cells := 0, slots := 0, locals := 127 } s0 m args below meth c H locs 0 0 (QI G below .int r (bO G oa na ka aa ra pa sd yd td owa ++ (bV G na nwa ++ (bV G ka kpa ++ (bA G aa wa aha ++ (bV G wa awa ++ (bT G ra ma rda ++ (bV G ma mda ++ (bP G pa tpa ++ (bH G sd hha ++ (bY G yd td tha ++ (bK G td tra ++ []))))))))))) (bO G oa na ka aa ra pa sd yd td tow ++ (bV G na nwa ++ (bV G ka kpa ++ (bA G aa wa aha ++ (bV G wa awa ++ (bT G ra ma rda ++ (bV G ma mda ++ (bP G pa tpa ++ (bH G sd hha ++ (bY G yd td tha ++ (bK G td tra ++ []))))))))))) args s0) (F0 m 27 ls []) := by
    intro n
    induction n with
    | zero => intro ow v1 h; exact absurd h (fun q => by cases q)
    | succ n ih =>
      intro ow v1 h H locs I ls hl
      rw [f_O_judge_L27] at h
      refine lv_iload_n hx hb dX11_judge_27 rfl (lv_at hl 1 rfl) ?_
      refine lv_aload_n hx hb dX11_judge_28 rfl (lv_at hl 0 rfl) ?_
      refine gO_X11_o0_rowCount XX I dX11_judge_29 ?_
      refine lv_icmp_ge (tgt := 77) hx hb dX11_judge_32 (by decide) (fun c1 => ?_) (fun c1 => ?_)
      · replace h := if_t h c1
        refine lv_iconst (v := 0) hx hb dX11_judge_77 (by decide) ?_
        obtain ⟨rfl, rfl⟩ := some2 h
        exact e_i rfl XX hr I rfl dX11_judge_78
      · replace h := if_f h c1
        refine lv_iconst (v := 0) hx hb dX11_judge_35 (by decide) ?_
        refine lv_istore_n (lv' := [(2, .int (0 : Int32)), (0, .ref (oa 0)), (1, .int v1)]) hx hb dX11_judge_36 rfl hl (by decide) rfl (fun ls hl => ?_)
        exact C37 (f_O_judge_L27 fu n) ih fu _ _ _ h _ _ I ls (lv_sub hl [1, 2, 0] rfl)
  unfold f_O_judge at h
  refine lv_aload_n hx hb dX11_judge_0 rfl (lv_at hl 0 rfl) ?_
  refine gO_X11_o0_now XX I dX11_judge_1 ?_
  obtain ⟨r1, q2, h⟩ := bd1_some h
  have RC := (Rc.mk XX I (q0 := 32) (ci := 9) rfl rfl)
  replace I : Iv G (va_A (bO G oa na ka aa ra pa sd yd td owa ++ (bV G na nwa ++ (bV G ka kpa ++ (bA G aa wa aha ++ (bV G wa awa ++ (bT G ra ma rda ++ (bV G ma mda ++ (bP G pa tpa ++ (bH G sd hha ++ (bY G yd td tha ++ (bK G td tra ++ []))))))))))) s0.heap.size) s0 _ _ ((bV G na nwa) ++ (bO G oa na ka aa ra pa sd yd td owa ++ (bV G ka kpa ++ (bA G aa wa aha ++ (bV G wa awa ++ (bT G ra ma rda ++ (bV G ma mda ++ (bP G pa tpa ++ (bH G sd hha ++ (bY G yd td tha ++ (bK G td tra ++ []))))))))))) := I.perm ((List.Perm.append_left _ (List.Perm.refl _)).trans (List.perm_append_comm_assoc _ _ _))
  refine call_i (X := []) (wc := (bV G na nwa)) (Y := (bO G oa na ka aa ra pa sd yd td owa ++ (bV G ka kpa ++ (bA G aa wa aha ++ (bV G wa awa ++ (bT G ra ma rda ++ (bV G ma mda ++ (bP G pa tpa ++ (bH G sd hha ++ (bY G yd td tha ++ (bK G td tra ++ []))))))))))) (rest := []) XX I hl.1 (c_V_allWeights l G OK na fu nwa r1 q2) kV_X11_188 RC rfl rfl (Nat.le_of_ble_eq_true rfl) ⟨rfl, rfl, Nat.le_of_ble_eq_true rfl, Nat.le_of_ble_eq_true rfl⟩ ⟨Nat.zero_le _, Nat.zero_le _⟩ dX11_judge_4 (fun H locs hz3 I => ?_)
  replace I : Iv G (va_A (bO G oa na ka aa ra pa sd yd td owa ++ (bV G na nwa ++ (bV G ka kpa ++ (bA G aa wa aha ++ (bV G wa awa ++ (bT G ra ma rda ++ (bV G ma mda ++ (bP G pa tpa ++ (bH G sd hha ++ (bY G yd td tha ++ (bK G td tra ++ []))))))))))) s0.heap.size) s0 H locs (bO G oa na ka aa ra pa sd yd td owa ++ (bV G na nwa ++ (bV G ka kpa ++ (bA G aa wa aha ++ (bV G wa awa ++ (bT G ra ma rda ++ (bV G ma mda ++ (bP G pa tpa ++ (bH G sd hha ++ (bY G yd td tha ++ (bK G td tra ++ []))))))))))) := Iv.perm (w := (bV G na nwa) ++ (bO G oa na ka aa ra pa sd yd td owa ++ (bV G ka kpa ++ (bA G aa wa aha ++ (bV G wa awa ++ (bT G ra ma rda ++ (bV G ma mda ++ (bP G pa tpa ++ (bH G sd hha ++ (bY G yd td tha ++ (bK G td tra ++ []))))))))))) I (((List.Perm.append_left _ (List.Perm.refl _)).trans (List.perm_append_comm_assoc _ _ _)).symm)
  refine lv_if_ne (tgt := 13) hx hb dX11_judge_7 (by decide) (fun c1 => ?_) (fun c1 => ?_)
  · replace h := if_f h c1
    refine lv_aload_n hx hb dX11_judge_13 rfl (lv_at hl 0 rfl) ?_
    refine lv_aload_n hx hb dX11_judge_14 rfl (lv_at hl 0 rfl) ?_
    refine gO_X11_o0_dueRows XX I dX11_judge_15 ?_
    refine lv_aload_n hx hb dX11_judge_18 rfl (lv_at hl 0 rfl) ?_
    refine gO_X11_o0_rowCount XX I dX11_judge_19 ?_
    obtain ⟨s4, q5, h⟩ := bd1_some h
    refine wcall_v (rest := []) XX I hl.1 (c_O_fillRows_dueRows l G OK oa na ka aa wa ra ma pa sd yd td fu owa nwa kpa aha awa rda mda tpa hha tha tra (gi owa 9) s4 q5) kV_X11_237 (Rc.mk XX I (q0 := 0) (ci := 11) rfl rfl) rfl rfl (Nat.le_of_ble_eq_true rfl) ⟨rfl, rfl, Nat.le_of_ble_eq_true rfl, Nat.le_of_ble_eq_true rfl⟩ ⟨Nat.zero_le _, Nat.zero_le _⟩ dX11_judge_22 (fun H locs I => ?_)
    refine lv_iconst (v := 0) hx hb dX11_judge_25 (by decide) ?_
    refine lv_istore_n (lv' := [(1, .int (0 : Int32)), (0, .ref (oa 0))]) hx hb dX11_judge_26 rfl hl (by decide) rfl (fun ls hl => ?_)
    exact C27 fu _ _ h _ _ I ls (lv_sub hl [1, 0] rfl)
  · replace h := if_t h c1
    refine lv_bipush (v := (-3)) hx hb dX11_judge_10 (by decide) ?_
    obtain ⟨rfl, rfl⟩ := some2 h
    exact e_i rfl XX hr I rfl dX11_judge_12
set_option maxRecDepth 100000 in
theorem gO_X11_o0_sheets {p : Program} {l : Launch} {e : Env} {R : Room} {s0 : State} {m : MethodId} {args : Array Value} {below : List Frame} {meth : Method} {c : Code} {H : Heap} {locs : List Loc} {cells slots : Nat} {Q : State → Prop} {cc : ByteArray} {nL pc : Nat} {ls : Array Slot} {rest : List Value} {G : g_G} {A : Nat → Prop} {oa : Nat → Nat} {na : Nat → Nat} {ka : Nat → Nat} {aa : Nat → Nat} {wa : Nat → Nat} {ra : Nat → Nat} {ma : Nat → Nat} {pa : Nat → Nat} {sd : Nat → Nat → Nat} {yd : Nat → Nat} {td : Nat → Nat} {ow : g_St} {nw : g_St} {kp : g_St} {ah : g_St} {aw : g_St} {rd : g_St} {md : g_St} {tp : g_St} {hh : g_Sf} {th : g_St} {tr : g_St} (XX : Cx G A p s0 m meth c cc nL RX11 args) (I : Iv G A s0 H locs (bO G oa na ka aa ra pa sd yd td ow ++ (bV G na nw ++ (bV G ka kp ++ (bA G aa wa ah ++ (bV G wa aw ++ (bT G ra ma rd ++ (bV G ma md ++ (bP G pa tp ++ (bH G sd hh ++ (bY G yd td th ++ (bK G td tr ++ [])))))))))))) (hdg : decode cc pc = .ok (.getfield 58, 3)) (kk : W p l e R s0 m args below meth c H locs cells slots Q (F0 m (pc + 3) ls (.ref (oa 11) :: rest))) : W p l e R s0 m args below meth c H locs cells slots Q (F0 m pc ls (.ref (oa 0) :: rest)) := r_get kfX11 XX I 0 rfl 10 (Nat.le_of_ble_eq_true rfl) wd_295 rfl hdg kk
set_option maxRecDepth 100000 in
theorem gO_X11_fo8_sort {p : Program} {l : Launch} {e : Env} {R : Room} {s0 : State} {m : MethodId} {args : Array Value} {below : List Frame} {meth : Method} {c : Code} {H : Heap} {locs : List Loc} {cells slots : Nat} {Q : State → Prop} {cc : ByteArray} {nL pc : Nat} {ls : Array Slot} {rest : List Value} {G : g_G} {A : Nat → Prop} {oa : Nat → Nat} {na : Nat → Nat} {ka : Nat → Nat} {aa : Nat → Nat} {wa : Nat → Nat} {ra : Nat → Nat} {ma : Nat → Nat} {pa : Nat → Nat} {sd : Nat → Nat → Nat} {yd : Nat → Nat} {td : Nat → Nat} {ow : g_St} {nw : g_St} {kp : g_St} {ah : g_St} {aw : g_St} {rd : g_St} {md : g_St} {tp : g_St} {hh : g_Sf} {th : g_St} {tr : g_St} {q : Nat} (hq : q < 4) (XX : Cx G A p s0 m meth c cc nL RX11 args) (I : Iv G A s0 H locs (bO G oa na ka aa ra pa sd yd td ow ++ (bV G na nw ++ (bV G ka kp ++ (bA G aa wa ah ++ (bV G wa aw ++ (bT G ra ma rd ++ (bV G ma md ++ (bP G pa tp ++ (bH G sd hh ++ (bY G yd td th ++ (bK G td tr ++ [])))))))))))) (hdg : decode cc pc = .ok (.getfield 244, 3)) (kk : W p l e R s0 m args below meth c H locs cells slots Q (F0 m (pc + 3) ls (.int (gi (hh q) 0) :: rest))) : W p l e R s0 m args below meth c H locs cells slots Q (F0 m pc ls (.ref (sd q 0) :: rest)) := r_get (fs := [.int (gi (hh q) 0), .int (gi (hh q) 1), .ref (sd q 2)]) kfX5 XX I (105 + 2 * q) (by rcases (show q = 0 ∨ q = 1 ∨ q = 2 ∨ q = 3 by omega) with rfl | rfl | rfl | rfl <;> rfl) 0 (Nat.le_of_ble_eq_true rfl) wd_165 rfl hdg kk
set_option maxRecDepth 100000 in
theorem gO_X11_fo8_length {p : Program} {l : Launch} {e : Env} {R : Room} {s0 : State} {m : MethodId} {args : Array Value} {below : List Frame} {meth : Method} {c : Code} {H : Heap} {locs : List Loc} {cells slots : Nat} {Q : State → Prop} {cc : ByteArray} {nL pc : Nat} {ls : Array Slot} {rest : List Value} {G : g_G} {A : Nat → Prop} {oa : Nat → Nat} {na : Nat → Nat} {ka : Nat → Nat} {aa : Nat → Nat} {wa : Nat → Nat} {ra : Nat → Nat} {ma : Nat → Nat} {pa : Nat → Nat} {sd : Nat → Nat → Nat} {yd : Nat → Nat} {td : Nat → Nat} {ow : g_St} {nw : g_St} {kp : g_St} {ah : g_St} {aw : g_St} {rd : g_St} {md : g_St} {tp : g_St} {hh : g_Sf} {th : g_St} {tr : g_St} {q : Nat} (hq : q < 4) (XX : Cx G A p s0 m meth c cc nL RX11 args) (I : Iv G A s0 H locs (bO G oa na ka aa ra pa sd yd td ow ++ (bV G na nw ++ (bV G ka kp ++ (bA G aa wa ah ++ (bV G wa aw ++ (bT G ra ma rd ++ (bV G ma md ++ (bP G pa tp ++ (bH G sd hh ++ (bY G yd td th ++ (bK G td tr ++ [])))))))))))) (hdg : decode cc pc = .ok (.getfield 247, 3)) (kk : W p l e R s0 m args below meth c H locs cells slots Q (F0 m (pc + 3) ls (.int (gi (hh q) 1) :: rest))) : W p l e R s0 m args below meth c H locs cells slots Q (F0 m pc ls (.ref (sd q 0) :: rest)) := r_get (fs := [.int (gi (hh q) 0), .int (gi (hh q) 1), .ref (sd q 2)]) kfX5 XX I (105 + 2 * q) (by rcases (show q = 0 ∨ q = 1 ∨ q = 2 ∨ q = 3 by omega) with rfl | rfl | rfl | rfl <;> rfl) 1 (Nat.le_of_ble_eq_true rfl) wd_167 rfl hdg kk
set_option maxRecDepth 100000 in
theorem gO_X11_fo8_items {p : Program} {l : Launch} {e : Env} {R : Room} {s0 : State} {m : MethodId} {args : Array Value} {below : List Frame} {meth : Method} {c : Code} {H : Heap} {locs : List Loc} {cells slots : Nat} {Q : State → Prop} {cc : ByteArray} {nL pc : Nat} {ls : Array Slot} {rest : List Value} {G : g_G} {A : Nat → Prop} {oa : Nat → Nat} {na : Nat → Nat} {ka : Nat → Nat} {aa : Nat → Nat} {wa : Nat → Nat} {ra : Nat → Nat} {ma : Nat → Nat} {pa : Nat → Nat} {sd : Nat → Nat → Nat} {yd : Nat → Nat} {td : Nat → Nat} {ow : g_St} {nw : g_St} {kp : g_St} {ah : g_St} {aw : g_St} {rd : g_St} {md : g_St} {tp : g_St} {hh : g_Sf} {th : g_St} {tr : g_St} {q : Nat} (hq : q < 4) (XX : Cx G A p s0 m meth c cc nL RX11 args) (I : Iv G A s0 H locs (bO G oa na ka aa ra pa sd yd td ow ++ (bV G na nw ++ (bV G ka kp ++ (bA G aa wa ah ++ (bV G wa aw ++ (bT G ra ma rd ++ (bV G ma md ++ (bP G pa tp ++ (bH G sd hh ++ (bY G yd td th ++ (bK G td tr ++ [])))))))))))) (hdg : decode cc pc = .ok (.getfield 255, 3)) (kk : W p l e R s0 m args below meth c H locs cells slots Q (F0 m (pc + 3) ls (.ref (sd q 2) :: rest))) : W p l e R s0 m args below meth c H locs cells slots Q (F0 m pc ls (.ref (sd q 0) :: rest)) := r_get (fs := [.int (gi (hh q) 0), .int (gi (hh q) 1), .ref (sd q 2)]) kfX5 XX I (105 + 2 * q) (by rcases (show q = 0 ∨ q = 1 ∨ q = 2 ∨ q = 3 by omega) with rfl | rfl | rfl | rfl <;> rfl) 2 (Nat.le_of_ble_eq_true rfl) wd_169 rfl hdg kk
set_option maxRecDepth 100000 in
theorem aO_fitems8 {G : g_G} {oa : Nat → Nat} {na : Nat → Nat} {ka : Nat → Nat} {aa : Nat → Nat} {wa : Nat → Nat} {ra : Nat → Nat} {ma : Nat → Nat} {pa : Nat → Nat} {sd : Nat → Nat → Nat} {yd : Nat → Nat} {td : Nat → Nat} {ow : g_St} {nw : g_St} {kp : g_St} {ah : g_St} {aw : g_St} {rd : g_St} {md : g_St} {tp : g_St} {hh : g_Sf} {th : g_St} {tr : g_St} {q : Nat} (hq : q < 4) : (bO G oa na ka aa ra pa sd yd td ow ++ (bV G na nw ++ (bV G ka kp ++ (bA G aa wa ah ++ (bV G wa aw ++ (bT G ra ma rd ++ (bV G ma md ++ (bP G pa tp ++ (bH G sd hh ++ (bY G yd td th ++ (bK G td tr ++ [])))))))))))[106 + 2 * q]? = some (sd q 2, .inl (G.2.1 0, 40, .inl (gr (hh q) 2))) := by rcases (show q = 0 ∨ q = 1 ∨ q = 2 ∨ q = 3 by omega) with rfl | rfl | rfl | rfl <;> rfl
set_option maxRecDepth 100000 in
theorem sO_fitems8 {G : g_G} {oa : Nat → Nat} {na : Nat → Nat} {ka : Nat → Nat} {aa : Nat → Nat} {wa : Nat → Nat} {ra : Nat → Nat} {ma : Nat → Nat} {pa : Nat → Nat} {sd : Nat → Nat → Nat} {yd : Nat → Nat} {td : Nat → Nat} {ow : g_St} {nw : g_St} {kp : g_St} {ah : g_St} {aw : g_St} {rd : g_St} {md : g_St} {tp : g_St} {hh : g_Sf} {th : g_St} {tr : g_St} {q : Nat} (hq : q < 4) {i x : Int32} : (bO G oa na ka aa ra pa sd yd td ow ++ (bV G na nw ++ (bV G ka kp ++ (bA G aa wa ah ++ (bV G wa aw ++ (bT G ra ma rd ++ (bV G ma md ++ (bP G pa tp ++ (bH G sd hh ++ (bY G yd td th ++ (bK G td tr ++ []))))))))))).set (106 + 2 * q) (sd q 2, .inl (G.2.1 0, 40, .inl (upd (gr (hh q) 2) i.toNatClampNeg x))) = (bO G oa na ka aa ra pa sd yd td ow ++ (bV G na nw ++ (bV G ka kp ++ (bA G aa wa ah ++ (bV G wa aw ++ (bT G ra ma rd ++ (bV G ma md ++ (bP G pa tp ++ (bH G sd (ups hh q (sr (hh q) 2 i x)) ++ (bY G yd td th ++ (bK G td tr ++ []))))))))))) := by rcases (show q = 0 ∨ q = 1 ∨ q = 2 ∨ q = 3 by omega) with rfl | rfl | rfl | rfl <;> rfl
set_option maxHeartbeats 4000000 in
set_option maxRecDepth 100000 in
theorem c_O_worths (l : Launch) (G : g_G) (OK : EOk G.2.2) (oa : Nat → Nat) (na : Nat → Nat) (ka : Nat → Nat) (aa : Nat → Nat) (wa : Nat → Nat) (ra : Nat → Nat) (ma : Nat → Nat) (pa : Nat → Nat) (sd : Nat → Nat → Nat) (yd : Nat → Nat) (td : Nat → Nat) (fu : Nat) (owa : g_St) (nwa : g_St) (kpa : g_St) (aha : g_St) (awa : g_St) (rda : g_St) (mda : g_St) (tpa : g_St) (hha : g_Sf) (tha : g_St) (tra : g_St) (x1 : Int32) (x2 : Int32) (r : Int32) (tnw : g_St) (h : f_O_worths fu nwa hha x1 x2 = some (r, tnw)) : HI l G yX11_worths (Cond.code yX11_worths cX11_worths 6 (some .int) :: gT) { frames := 1, cells := 0, slots := 0, locals := 22 } .int [.ref (oa 0), .int x1, .int x2] (bO G oa na ka aa ra pa sd yd td owa ++ (bV G na nwa ++ (bV G ka kpa ++ (bA G aa wa aha ++ (bV G wa awa ++ (bT G ra ma rda ++ (bV G ma mda ++ (bP G pa tpa ++ (bH G sd hha ++ (bY G yd td tha ++ (bK G td tra ++ []))))))))))) r (bO G oa na ka aa ra pa sd yd td owa ++ (bV G na tnw ++ (bV G ka kpa ++ (bA G aa wa aha ++ (bV G wa awa ++ (bT G ra ma rda ++ (bV G ma mda ++ (bP G pa tpa ++ (bH G sd hha ++ (bY G yd td tha ++ (bK G td tra ++ []))))))))))) := by
  refine HI.mk (lv := [(0, .ref (oa 0)), (1, .int x1), (2, .int x2)]) OK (by decide) (Nat.le_of_ble_eq_true rfl) rfl ?_
  intro p e s0 m args below meth c ls XX hr I hl
  have hx := XX.x
  have hb := XX.b
  have C67 : ∀ n : Nat, ∀ (nw : g_St) (v1 : Int32) (w3 : Nat) (v4 : Int32) (v5 : Int32), f_O_worths_L67 fu n nw hha v1 w3 v4 v5 = some (r, tnw) → ∀ (H : Heap) (locs : List Loc), Iv G (va_A (bO G oa na ka aa ra pa sd yd td owa ++ (bV G na nwa ++ (bV G ka kpa ++ (bA G aa wa aha ++ (bV G wa awa ++ (bT G ra ma rda ++ (bV G ma mda ++ (bP G pa tpa ++ (bH G sd hha ++ (bY G yd td tha ++ (bK G td tra ++ []))))))))))) s0.heap.size) s0 H locs (bO G oa na ka aa ra pa sd yd td owa ++ (bV G na nw ++ (bV G ka kpa ++ (bA G aa wa aha ++ (bV G wa awa ++ (bT G ra ma rda ++ (bV G ma mda ++ (bP G pa tpa ++ (bH G sd hha ++ (bY G yd td tha ++ (bK G td tra ++ []))))))))))) → ∀ ls, lv_has ls 6 [(0, .ref (oa 0)), (1, .int v1), (3, .ref (sd w3 0)), (4, .int v4), (5, .int v5)] → w3 < 4 → W p l e { frames := 1, cells := 0, slots := 0, locals := 22 } s0 m args below meth c H locs 0 0 (QI G below .int r (bO G oa na ka aa ra pa sd yd td owa ++ (bV G na nwa ++ (bV G ka kpa ++ (bA G aa wa aha ++ (bV G wa awa ++ (bT G ra ma rda ++ (bV G ma mda ++ (bP G pa tpa ++ (bH G sd hha ++ (bY G yd td tha ++ (bK G td tra ++ []))))))))))) (bO G oa na ka aa ra pa sd yd td owa ++ (bV G na tnw ++ (bV G ka kpa ++ (bA G aa wa aha ++ (bV G wa awa ++ (bT G ra ma rda ++ (bV G ma mda ++ (bP G pa tpa ++ (bH G sd hha ++ (bY G yd td tha ++ (bK G td tra ++ []))))))))))) args s0) (F0 m 67 ls []) := by
    intro n
    induction n with
    | zero => intro nw v1 w3 v4 v5 h; exact absurd h (fun q => by cases q)
    | succ n ih =>
      intro nw v1 w3 v4 v5 h H locs I ls hl hw3
      rw [f_O_worths_L67] at h
      refine lv_iload hx hb dX11_worths_67 (lv_at hl 4 rfl) ?_
      refine lv_iload hx hb dX11_worths_69 (lv_at hl 3 rfl) ?_
      refine lv_icmp_ge (tgt := 109) hx hb dX11_worths_71 (by decide) (fun c1 => ?_) (fun c1 => ?_)
      · replace h := if_t h c1
        refine lv_iload hx hb dX11_worths_109 (lv_at hl 3 rfl) ?_
        obtain ⟨rfl, rfl⟩ := some2 h
        exact e_i rfl XX hr I rfl dX11_worths_111
      · replace h := if_f h c1
        refine lv_aload_n hx hb dX11_worths_74 rfl (lv_at hl 0 rfl) ?_
        refine gO_X11_o0_now XX I dX11_worths_75 ?_
        refine gO_X11_o1_worth XX I dX11_worths_78 ?_
        refine lv_iload_n hx hb dX11_worths_81 rfl (lv_at hl 1 rfl) ?_
        obtain ⟨g5, h⟩ := gd_some h
        refine r_aaldI XX I 39 rfl (v := .ref (na (20 + v1.toNatClampNeg))) rfl g5 dX11_worths_82 ?_
        refine lv_iload hx hb dX11_worths_83 (lv_at hl 4 rfl) ?_
        refine lv_bipush (v := (-9)) hx hb dX11_worths_85 (by decide) ?_
        refine lv_bipush (v := 9) hx hb dX11_worths_87 (by decide) ?_
        refine lv_aload_n hx hb dX11_worths_89 rfl (lv_at hl 2 rfl) ?_
        refine gO_X11_fo8_items hw3 XX I dX11_worths_90 ?_
        refine lv_iload hx hb dX11_worths_93 (lv_at hl 4 rfl) ?_
        obtain ⟨g6, h⟩ := gd_some h
        refine r_iald XX I (106 + 2 * w3) (aO_fitems8 hw3) g6 dX11_worths_95 ?_
        refine r_min XX hl.1 wd_797 (Nat.le_of_ble_eq_true rfl) (Nat.le_of_ble_eq_true rfl) (Nat.zero_le _) (Nat.zero_le _) dX11_worths_96 ?_
        refine r_max XX hl.1 wd_798 (Nat.le_of_ble_eq_true rfl) (Nat.le_of_ble_eq_true rfl) (Nat.zero_le _) (Nat.zero_le _) dX11_worths_99 ?_
        refine lv_topi (fun y7 ey7 => ?_)
        replace h := lt_e h ey7
        obtain ⟨g8, h⟩ := gd_some h
        refine r_iast XX I (41 + v1.toNatClampNeg) (aO_row1 (vin_lt g5)) (sO_row1 (vin_lt g5)) g8 dX11_worths_102 (fun H locs I => ?_)
        obtain ⟨s9, es9⟩ : ∃ z, z = sr nw (20 + v1.toNatClampNeg) v5 y7 := ⟨_, rfl⟩
        replace h := lt_e h es9
        replace I : Iv G (va_A (bO G oa na ka aa ra pa sd yd td owa ++ (bV G na nwa ++ (bV G ka kpa ++ (bA G aa wa aha ++ (bV G wa awa ++ (bT G ra ma rda ++ (bV G ma mda ++ (bP G pa tpa ++ (bH G sd hha ++ (bY G yd td tha ++ (bK G td tra ++ []))))))))))) s0.heap.size) s0 H locs (bO G oa na ka aa ra pa sd yd td owa ++ (bV G na s9 ++ (bV G ka kpa ++ (bA G aa wa aha ++ (bV G wa awa ++ (bT G ra ma rda ++ (bV G ma mda ++ (bP G pa tpa ++ (bH G sd hha ++ (bY G yd td tha ++ (bK G td tra ++ []))))))))))) := by rw [es9]; exact I
        obtain ⟨y10, ey10⟩ : ∃ z : Int32, z = v5 + (1 : Int32) := ⟨_, rfl⟩
        replace h := lt_e h ey10
        refine lv_iinc (v := y10) (lv' := [(5, .int y10), (0, .ref (oa 0)), (1, .int v1), (3, .ref (sd w3 0)), (4, .int v4)]) hx hb dX11_worths_103 hl (k := 4) rfl (by rw [ey10]; rfl) (by decide) rfl (fun ls hl => ?_)
        refine lv_goto (tgt := 67) hx hb dX11_worths_106 (by decide) ?_
        exact ih _ _ _ _ _ h _ _ I ls (lv_sub hl [1, 2, 3, 4, 0] rfl) (hw3)
  unfold f_O_worths at h
  refine lv_aload_n hx hb dX11_worths_0 rfl (lv_at hl 0 rfl) ?_
  refine lv_iload_n hx hb dX11_worths_1 rfl (lv_at hl 1 rfl) ?_
  refine wcall_i (rest := []) XX I hl.1 (c_O_isProposal l G OK oa na ka aa wa ra ma pa sd yd td owa nwa kpa aha awa rda mda tpa hha tha tra x1 _ rfl) kV_X11_158 (Rc.mk XX I (q0 := 0) (ci := 11) rfl rfl) rfl rfl (Nat.le_of_ble_eq_true rfl) ⟨rfl, rfl, Nat.le_of_ble_eq_true rfl, Nat.le_of_ble_eq_true rfl⟩ ⟨Nat.zero_le _, Nat.zero_le _⟩ dX11_worths_2 (fun H locs hz1 I => ?_)
  refine lv_if_eq (tgt := 17) hx hb dX11_worths_5 (by decide) (fun c1 => ?_) (fun c1 => ?_)
  · replace h := if_t h c1
    refine lv_iconst (v := (-1)) hx hb dX11_worths_17 (by decide) ?_
    obtain ⟨rfl, rfl⟩ := some2 h
    exact e_i rfl XX hr I rfl dX11_worths_18
  · replace h := if_f h c1
    refine lv_iload_n hx hb dX11_worths_8 rfl (lv_at hl 2 rfl) ?_
    refine lv_iconst (v := 0) hx hb dX11_worths_9 (by decide) ?_
    refine lv_iconst (v := 3) hx hb dX11_worths_10 (by decide) ?_
    refine scall_i (rest := []) XX I hl.1 (c_S_within l G OK x2 (0 : Int32) (3 : Int32) _ rfl) kS_X11_103 rfl rfl (Nat.le_of_ble_eq_true rfl) ⟨rfl, rfl, Nat.le_of_ble_eq_true rfl, Nat.le_of_ble_eq_true rfl⟩ ⟨Nat.zero_le _, Nat.zero_le _⟩ dX11_worths_11 (fun H locs hz2 I => ?_)
    refine lv_if_ne (tgt := 19) hx hb dX11_worths_14 (by decide) (fun c1 => ?_) (fun c1 => ?_)
    · replace h := if_f h c1
      refine lv_aload_n hx hb dX11_worths_19 rfl (lv_at hl 0 rfl) ?_
      refine gO_X11_o0_sheets XX I dX11_worths_20 ?_
      refine lv_iload_n hx hb dX11_worths_23 rfl (lv_at hl 2 rfl) ?_
      obtain ⟨g3, h⟩ := gd_some h
      refine r_aaldO XX I 3 3 rfl rfl (v := .ref (sd x2.toNatClampNeg 0)) rfl g3 dX11_worths_24 ?_
      refine lv_astore_n (lv' := [(3, .ref (sd x2.toNatClampNeg 0)), (0, .ref (oa 0)), (1, .int x1), (2, .int x2)]) hx hb dX11_worths_25 rfl hl (by decide) rfl (fun ls hl => ?_)
      refine lv_aload_n hx hb dX11_worths_26 rfl (lv_at hl 0 rfl) ?_
      refine gO_X11_fo8_sort (vin_lt g3) XX I dX11_worths_27 ?_
      refine lv_iconst (v := (-1)) hx hb dX11_worths_30 (by decide) ?_
      refine lv_icmp_ne (tgt := 37) hx hb dX11_worths_31 (by decide) (fun c1 => ?_) (fun c1 => ?_)
      · replace h := if_f h c1
        refine lv_aload_n hx hb dX11_worths_37 rfl (lv_at hl 0 rfl) ?_
        refine gO_X11_fo8_sort (vin_lt g3) XX I dX11_worths_38 ?_
        refine lv_iconst (v := 2) hx hb dX11_worths_41 (by decide) ?_
        refine lv_icmp_eq (tgt := 48) hx hb dX11_worths_42 (by decide) (fun c1 => ?_) (fun c1 => ?_)
        · replace h := if_t h c1
          refine lv_aload_n hx hb dX11_worths_48 rfl (lv_at hl 0 rfl) ?_
          refine gO_X11_fo8_length (vin_lt g3) XX I dX11_worths_49 ?_
          refine lv_aload_n hx hb dX11_worths_52 rfl (lv_at hl 1 rfl) ?_
          refine gO_X11_o0_now XX I dX11_worths_53 ?_
          refine gO_X11_o1_people XX I dX11_worths_56 ?_
          refine r_min XX hl.1 wd_797 (Nat.le_of_ble_eq_true rfl) (Nat.le_of_ble_eq_true rfl) (Nat.zero_le _) (Nat.zero_le _) dX11_worths_59 ?_
          refine lv_topi (fun y4 ey4 => ?_)
          replace h := lt_e h ey4
          refine lv_istore (lv' := [(4, .int y4), (3, .ref (sd x2.toNatClampNeg 0)), (0, .ref (oa 0)), (1, .int x1), (2, .int x2)]) hx hb dX11_worths_62 hl (by decide) rfl (fun ls hl => ?_)
          refine lv_iconst (v := 0) hx hb dX11_worths_64 (by decide) ?_
          refine lv_istore (lv' := [(5, .int (0 : Int32)), (4, .int y4), (3, .ref (sd x2.toNatClampNeg 0)), (0, .ref (oa 0)), (1, .int x1), (2, .int x2)]) hx hb dX11_worths_65 hl (by decide) rfl (fun ls hl => ?_)
          exact C67 fu _ _ _ _ _ h _ _ I ls (lv_sub hl [3, 4, 2, 1, 0] rfl) ((vin_lt g3))
        · replace h := if_f h c1
          refine lv_bipush (v := (-13)) hx hb dX11_worths_45 (by decide) ?_
          obtain ⟨rfl, rfl⟩ := some2 h
          exact e_i rfl XX hr I rfl dX11_worths_47
      · replace h := if_t h c1
        refine lv_bipush (v := (-11)) hx hb dX11_worths_34 (by decide) ?_
        obtain ⟨rfl, rfl⟩ := some2 h
        exact e_i rfl XX hr I rfl dX11_worths_36
    · replace h := if_t h c1
      refine lv_iconst (v := (-1)) hx hb dX11_worths_17 (by decide) ?_
      obtain ⟨rfl, rfl⟩ := some2 h
      exact e_i rfl XX hr I rfl dX11_worths_18
set_option maxRecDepth 100000 in
theorem kV_X11_261 : KV RX11 261 RX5 yX5_become cX5_become 4 none 2 := KV.mk wd_803 wd_804 wd_805 wd_5 wd_806 (by decide +kernel)
set_option maxRecDepth 100000 in
theorem rc_famO {p : Program} {s0 : State} {m : MethodId} {args : Array Value} {meth : Method} {c : Code} {H : Heap} {locs : List Loc} {cc : ByteArray} {nL : Nat} {G : g_G} {A : Nat → Prop} {oa : Nat → Nat} {na : Nat → Nat} {ka : Nat → Nat} {aa : Nat → Nat} {wa : Nat → Nat} {ra : Nat → Nat} {ma : Nat → Nat} {pa : Nat → Nat} {sd : Nat → Nat → Nat} {yd : Nat → Nat} {td : Nat → Nat} {ow : g_St} {nw : g_St} {kp : g_St} {ah : g_St} {aw : g_St} {rd : g_St} {md : g_St} {tp : g_St} {hh : g_Sf} {th : g_St} {tr : g_St} {q : Nat} (hq : q < 4) (XX : Cx G A p s0 m meth c cc nL RX11 args) (I : Iv G A s0 H locs (bO G oa na ka aa ra pa sd yd td ow ++ (bV G na nw ++ (bV G ka kp ++ (bA G aa wa ah ++ (bV G wa aw ++ (bT G ra ma rd ++ (bV G ma md ++ (bP G pa tp ++ (bH G sd hh ++ (bY G yd td th ++ (bK G td tr ++ [])))))))))))) : Rc s0 H RX5 (sd q 0) := by
  rcases (show q = 0 ∨ q = 1 ∨ q = 2 ∨ q = 3 by omega) with rfl | rfl | rfl | rfl
  · exact Rc.mk XX I (q0 := 105) (ci := 5) rfl rfl
  · exact Rc.mk XX I (q0 := 107) (ci := 5) rfl rfl
  · exact Rc.mk XX I (q0 := 109) (ci := 5) rfl rfl
  · exact Rc.mk XX I (q0 := 111) (ci := 5) rfl rfl
set_option maxHeartbeats 4000000 in
set_option maxRecDepth 100000 in
theorem c_O_sheet (l : Launch) (G : g_G) (OK : EOk G.2.2) (oa : Nat → Nat) (na : Nat → Nat) (ka : Nat → Nat) (aa : Nat → Nat) (wa : Nat → Nat) (ra : Nat → Nat) (ma : Nat → Nat) (pa : Nat → Nat) (sd : Nat → Nat → Nat) (yd : Nat → Nat) (td : Nat → Nat) (fu : Nat) (owa : g_St) (nwa : g_St) (kpa : g_St) (aha : g_St) (awa : g_St) (rda : g_St) (mda : g_St) (tpa : g_St) (hha : g_Sf) (tha : g_St) (tra : g_St) (x1 : Int32) (x2 : Int32) (x3 : Int32) (r : Int32) (thh : g_Sf) (h : f_O_sheet fu hha x1 x2 x3 = some (r, thh)) : HI l G yX11_sheet (Cond.code yX11_sheet cX11_sheet 4 (some .int) :: gT) { frames := 1, cells := 0, slots := 0, locals := 23 } .int [.ref (oa 0), .int x1, .int x2, .int x3] (bO G oa na ka aa ra pa sd yd td owa ++ (bV G na nwa ++ (bV G ka kpa ++ (bA G aa wa aha ++ (bV G wa awa ++ (bT G ra ma rda ++ (bV G ma mda ++ (bP G pa tpa ++ (bH G sd hha ++ (bY G yd td tha ++ (bK G td tra ++ []))))))))))) r (bO G oa na ka aa ra pa sd yd td owa ++ (bV G na nwa ++ (bV G ka kpa ++ (bA G aa wa aha ++ (bV G wa awa ++ (bT G ra ma rda ++ (bV G ma mda ++ (bP G pa tpa ++ (bH G sd thh ++ (bY G yd td tha ++ (bK G td tra ++ []))))))))))) := by
  refine HI.mk (lv := [(0, .ref (oa 0)), (1, .int x1), (2, .int x2), (3, .int x3)]) OK (by decide) (Nat.le_of_ble_eq_true rfl) rfl ?_
  intro p e s0 m args below meth c ls XX hr I hl
  have hx := XX.x
  have hb := XX.b
  unfold f_O_sheet at h
  refine lv_iload_n hx hb dX11_sheet_0 rfl (lv_at hl 1 rfl) ?_
  refine lv_iconst (v := 0) hx hb dX11_sheet_1 (by decide) ?_
  refine lv_iconst (v := 3) hx hb dX11_sheet_2 (by decide) ?_
  refine scall_i (rest := []) XX I hl.1 (c_S_within l G OK x1 (0 : Int32) (3 : Int32) _ rfl) kS_X11_103 rfl rfl (Nat.le_of_ble_eq_true rfl) ⟨rfl, rfl, Nat.le_of_ble_eq_true rfl, Nat.le_of_ble_eq_true rfl⟩ ⟨Nat.zero_le _, Nat.zero_le _⟩ dX11_sheet_3 (fun H locs hz1 I => ?_)
  refine lv_if_eq (tgt := 18) hx hb dX11_sheet_6 (by decide) (fun c1 => ?_) (fun c1 => ?_)
  · replace h := if_t h c1
    refine lv_iconst (v := (-1)) hx hb dX11_sheet_18 (by decide) ?_
    obtain ⟨rfl, rfl⟩ := some2 h
    exact e_i rfl XX hr I rfl dX11_sheet_19
  · replace h := if_f h c1
    refine lv_iload_n hx hb dX11_sheet_9 rfl (lv_at hl 2 rfl) ?_
    refine lv_iconst (v := (-1)) hx hb dX11_sheet_10 (by decide) ?_
    refine lv_iconst (v := 3) hx hb dX11_sheet_11 (by decide) ?_
    refine scall_i (rest := []) XX I hl.1 (c_S_within l G OK x2 ((-1) : Int32) (3 : Int32) _ rfl) kS_X11_103 rfl rfl (Nat.le_of_ble_eq_true rfl) ⟨rfl, rfl, Nat.le_of_ble_eq_true rfl, Nat.le_of_ble_eq_true rfl⟩ ⟨Nat.zero_le _, Nat.zero_le _⟩ dX11_sheet_12 (fun H locs hz2 I => ?_)
    refine lv_if_ne (tgt := 20) hx hb dX11_sheet_15 (by decide) (fun c1 => ?_) (fun c1 => ?_)
    · replace h := if_f h c1
      refine lv_iload_n hx hb dX11_sheet_20 rfl (lv_at hl 2 rfl) ?_
      refine lv_iconst (v := (-1)) hx hb dX11_sheet_21 (by decide) ?_
      refine lv_icmp_ne (tgt := 38) hx hb dX11_sheet_22 (by decide) (fun c1 => ?_) (fun c1 => ?_)
      · replace h := if_f h c1
        refine lv_iload_n hx hb dX11_sheet_38 rfl (lv_at hl 3 rfl) ?_
        refine lv_bipush (v := 40) hx hb dX11_sheet_39 (by decide) ?_
        refine lv_icmp_le (tgt := 46) hx hb dX11_sheet_41 (by decide) (fun c1 => ?_) (fun c1 => ?_)
        · replace h := if_t h c1
          refine lv_iload_n hx hb dX11_sheet_46 rfl (lv_at hl 3 rfl) ?_
          refine lv_if_ge (tgt := 53) hx hb dX11_sheet_47 (by decide) (fun c1 => ?_) (fun c1 => ?_)
          · replace h := if_t h c1
            refine lv_aload_n hx hb dX11_sheet_53 rfl (lv_at hl 0 rfl) ?_
            refine gO_X11_o0_sheets XX I dX11_sheet_54 ?_
            refine lv_iload_n hx hb dX11_sheet_57 rfl (lv_at hl 1 rfl) ?_
            obtain ⟨g3, h⟩ := gd_some h
            refine r_aaldO XX I 3 3 rfl rfl (v := .ref (sd x1.toNatClampNeg 0)) rfl g3 dX11_sheet_58 ?_
            refine lv_iload_n hx hb dX11_sheet_59 rfl (lv_at hl 2 rfl) ?_
            refine lv_iload_n hx hb dX11_sheet_60 rfl (lv_at hl 3 rfl) ?_
            obtain ⟨s4, q5, h⟩ := bd1_some h
            have RC := (rc_famO (vin_lt g3) XX I)
            replace I : Iv G (va_A (bO G oa na ka aa ra pa sd yd td owa ++ (bV G na nwa ++ (bV G ka kpa ++ (bA G aa wa aha ++ (bV G wa awa ++ (bT G ra ma rda ++ (bV G ma mda ++ (bP G pa tpa ++ (bH G sd hha ++ (bY G yd td tha ++ (bK G td tra ++ []))))))))))) s0.heap.size) s0 _ _ ((bH G sd hha) ++ (bO G oa na ka aa ra pa sd yd td owa ++ (bV G na nwa ++ (bV G ka kpa ++ (bA G aa wa aha ++ (bV G wa awa ++ (bT G ra ma rda ++ (bV G ma mda ++ (bP G pa tpa ++ (bY G yd td tha ++ (bK G td tra ++ []))))))))))) := I.perm ((List.Perm.append_left _ ((List.Perm.append_left _ ((List.Perm.append_left _ ((List.Perm.append_left _ ((List.Perm.append_left _ ((List.Perm.append_left _ ((List.Perm.append_left _ ((List.Perm.append_left _ (List.Perm.refl _)).trans (List.perm_append_comm_assoc _ _ _))).trans (List.perm_append_comm_assoc _ _ _))).trans (List.perm_append_comm_assoc _ _ _))).trans (List.perm_append_comm_assoc _ _ _))).trans (List.perm_append_comm_assoc _ _ _))).trans (List.perm_append_comm_assoc _ _ _))).trans (List.perm_append_comm_assoc _ _ _))).trans (List.perm_append_comm_assoc _ _ _))
            refine call_v (X := []) (wc := (bH G sd hha)) (Y := (bO G oa na ka aa ra pa sd yd td owa ++ (bV G na nwa ++ (bV G ka kpa ++ (bA G aa wa aha ++ (bV G wa awa ++ (bT G ra ma rda ++ (bV G ma mda ++ (bP G pa tpa ++ (bY G yd td tha ++ (bK G td tra ++ []))))))))))) (rest := []) XX I hl.1 (c_H_become l G OK sd x1.toNatClampNeg (vin_lt g3) fu hha x2 x3 s4 q5) kV_X11_261 RC rfl rfl (Nat.le_of_ble_eq_true rfl) ⟨rfl, rfl, Nat.le_of_ble_eq_true rfl, Nat.le_of_ble_eq_true rfl⟩ ⟨Nat.zero_le _, Nat.zero_le _⟩ dX11_sheet_61 (fun H locs I => ?_)
            replace I : Iv G (va_A (bO G oa na ka aa ra pa sd yd td owa ++ (bV G na nwa ++ (bV G ka kpa ++ (bA G aa wa aha ++ (bV G wa awa ++ (bT G ra ma rda ++ (bV G ma mda ++ (bP G pa tpa ++ (bH G sd hha ++ (bY G yd td tha ++ (bK G td tra ++ []))))))))))) s0.heap.size) s0 H locs (bO G oa na ka aa ra pa sd yd td owa ++ (bV G na nwa ++ (bV G ka kpa ++ (bA G aa wa aha ++ (bV G wa awa ++ (bT G ra ma rda ++ (bV G ma mda ++ (bP G pa tpa ++ (bH G sd s4 ++ (bY G yd td tha ++ (bK G td tra ++ []))))))))))) := Iv.perm (w := (bH G sd s4) ++ (bO G oa na ka aa ra pa sd yd td owa ++ (bV G na nwa ++ (bV G ka kpa ++ (bA G aa wa aha ++ (bV G wa awa ++ (bT G ra ma rda ++ (bV G ma mda ++ (bP G pa tpa ++ (bY G yd td tha ++ (bK G td tra ++ []))))))))))) I (((List.Perm.append_left _ ((List.Perm.append_left _ ((List.Perm.append_left _ ((List.Perm.append_left _ ((List.Perm.append_left _ ((List.Perm.append_left _ ((List.Perm.append_left _ ((List.Perm.append_left _ (List.Perm.refl _)).trans (List.perm_append_comm_assoc _ _ _))).trans (List.perm_append_comm_assoc _ _ _))).trans (List.perm_append_comm_assoc _ _ _))).trans (List.perm_append_comm_assoc _ _ _))).trans (List.perm_append_comm_assoc _ _ _))).trans (List.perm_append_comm_assoc _ _ _))).trans (List.perm_append_comm_assoc _ _ _))).trans (List.perm_append_comm_assoc _ _ _)).symm)
            refine lv_iconst (v := 1) hx hb dX11_sheet_64 (by decide) ?_
            obtain ⟨rfl, rfl⟩ := some2 h
            exact e_i rfl XX hr I rfl dX11_sheet_65
          · replace h := if_f h c1
            refine lv_bipush (v := (-14)) hx hb dX11_sheet_50 (by decide) ?_
            obtain ⟨rfl, rfl⟩ := some2 h
            exact e_i rfl XX hr I rfl dX11_sheet_52
        · replace h := if_f h c1
          refine lv_iconst (v := (-1)) hx hb dX11_sheet_44 (by decide) ?_
          obtain ⟨rfl, rfl⟩ := some2 h
          exact e_i rfl XX hr I rfl dX11_sheet_45
      · replace h := if_t h c1
        refine lv_aload_n hx hb dX11_sheet_25 rfl (lv_at hl 0 rfl) ?_
        refine gO_X11_o0_sheets XX I dX11_sheet_26 ?_
        refine lv_iload_n hx hb dX11_sheet_29 rfl (lv_at hl 1 rfl) ?_
        obtain ⟨g6, h⟩ := gd_some h
        refine r_aaldO XX I 3 3 rfl rfl (v := .ref (sd x1.toNatClampNeg 0)) rfl g6 dX11_sheet_30 ?_
        refine lv_iconst (v := (-1)) hx hb dX11_sheet_31 (by decide) ?_
        refine lv_iconst (v := 0) hx hb dX11_sheet_32 (by decide) ?_
        obtain ⟨s7, q8, h⟩ := bd1_some h
        have RC := (rc_famO (vin_lt g6) XX I)
        replace I : Iv G (va_A (bO G oa na ka aa ra pa sd yd td owa ++ (bV G na nwa ++ (bV G ka kpa ++ (bA G aa wa aha ++ (bV G wa awa ++ (bT G ra ma rda ++ (bV G ma mda ++ (bP G pa tpa ++ (bH G sd hha ++ (bY G yd td tha ++ (bK G td tra ++ []))))))))))) s0.heap.size) s0 _ _ ((bH G sd hha) ++ (bO G oa na ka aa ra pa sd yd td owa ++ (bV G na nwa ++ (bV G ka kpa ++ (bA G aa wa aha ++ (bV G wa awa ++ (bT G ra ma rda ++ (bV G ma mda ++ (bP G pa tpa ++ (bY G yd td tha ++ (bK G td tra ++ []))))))))))) := I.perm ((List.Perm.append_left _ ((List.Perm.append_left _ ((List.Perm.append_left _ ((List.Perm.append_left _ ((List.Perm.append_left _ ((List.Perm.append_left _ ((List.Perm.append_left _ ((List.Perm.append_left _ (List.Perm.refl _)).trans (List.perm_append_comm_assoc _ _ _))).trans (List.perm_append_comm_assoc _ _ _))).trans (List.perm_append_comm_assoc _ _ _))).trans (List.perm_append_comm_assoc _ _ _))).trans (List.perm_append_comm_assoc _ _ _))).trans (List.perm_append_comm_assoc _ _ _))).trans (List.perm_append_comm_assoc _ _ _))).trans (List.perm_append_comm_assoc _ _ _))
        refine call_v (X := []) (wc := (bH G sd hha)) (Y := (bO G oa na ka aa ra pa sd yd td owa ++ (bV G na nwa ++ (bV G ka kpa ++ (bA G aa wa aha ++ (bV G wa awa ++ (bT G ra ma rda ++ (bV G ma mda ++ (bP G pa tpa ++ (bY G yd td tha ++ (bK G td tra ++ []))))))))))) (rest := []) XX I hl.1 (c_H_become l G OK sd x1.toNatClampNeg (vin_lt g6) fu hha ((-1) : Int32) (0 : Int32) s7 q8) kV_X11_261 RC rfl rfl (Nat.le_of_ble_eq_true rfl) ⟨rfl, rfl, Nat.le_of_ble_eq_true rfl, Nat.le_of_ble_eq_true rfl⟩ ⟨Nat.zero_le _, Nat.zero_le _⟩ dX11_sheet_33 (fun H locs I => ?_)
        replace I : Iv G (va_A (bO G oa na ka aa ra pa sd yd td owa ++ (bV G na nwa ++ (bV G ka kpa ++ (bA G aa wa aha ++ (bV G wa awa ++ (bT G ra ma rda ++ (bV G ma mda ++ (bP G pa tpa ++ (bH G sd hha ++ (bY G yd td tha ++ (bK G td tra ++ []))))))))))) s0.heap.size) s0 H locs (bO G oa na ka aa ra pa sd yd td owa ++ (bV G na nwa ++ (bV G ka kpa ++ (bA G aa wa aha ++ (bV G wa awa ++ (bT G ra ma rda ++ (bV G ma mda ++ (bP G pa tpa ++ (bH G sd s7 ++ (bY G yd td tha ++ (bK G td tra ++ []))))))))))) := Iv.perm (w := (bH G sd s7) ++ (bO G oa na ka aa ra pa sd yd td owa ++ (bV G na nwa ++ (bV G ka kpa ++ (bA G aa wa aha ++ (bV G wa awa ++ (bT G ra ma rda ++ (bV G ma mda ++ (bP G pa tpa ++ (bY G yd td tha ++ (bK G td tra ++ []))))))))))) I (((List.Perm.append_left _ ((List.Perm.append_left _ ((List.Perm.append_left _ ((List.Perm.append_left _ ((List.Perm.append_left _ ((List.Perm.append_left _ ((List.Perm.append_left _ ((List.Perm.append_left _ (List.Perm.refl _)).trans (List.perm_append_comm_assoc _ _ _))).trans (List.perm_append_comm_assoc _ _ _))).trans (List.perm_append_comm_assoc _ _ _))).trans (List.perm_append_comm_assoc _ _ _))).trans (List.perm_append_comm_assoc _ _ _))).trans (List.perm_append_comm_assoc _ _ _))).trans (List.perm_append_comm_assoc _ _ _))).trans (List.perm_append_comm_assoc _ _ _)).symm)
        refine lv_iconst (v := 1) hx hb dX11_sheet_36 (by decide) ?_
        obtain ⟨rfl, rfl⟩ := some2 h
        exact e_i rfl XX hr I rfl dX11_sheet_37
    · replace h := if_t h c1
      refine lv_iconst (v := (-1)) hx hb dX11_sheet_18 (by decide) ?_
      obtain ⟨rfl, rfl⟩ := some2 h
      exact e_i rfl XX hr I rfl dX11_sheet_19
set_option maxRecDepth 100000 in
theorem kS_X11_265 : KS RX11 265 yX11_narrowed cX11_narrowed 2 (some .int) 2 := KS.mk wd_811 wd_812 wd_1 wd_813 (by decide +kernel)
set_option maxHeartbeats 4000000 in
set_option maxRecDepth 100000 in
theorem c_O_put (l : Launch) (G : g_G) (OK : EOk G.2.2) (oa : Nat → Nat) (na : Nat → Nat) (ka : Nat → Nat) (aa : Nat → Nat) (wa : Nat → Nat) (ra : Nat → Nat) (ma : Nat → Nat) (pa : Nat → Nat) (sd : Nat → Nat → Nat) (yd : Nat → Nat) (td : Nat → Nat) (owa : g_St) (nwa : g_St) (kpa : g_St) (aha : g_St) (awa : g_St) (rda : g_St) (mda : g_St) (tpa : g_St) (hha : g_Sf) (tha : g_St) (tra : g_St) (x1 : Int32) (x2 : Int32) (x3 : Int32) (r : Int32) (thh : g_Sf) (h : f_O_put hha x1 x2 x3 = some (r, thh)) : HI l G yX11_put (Cond.code yX11_put cX11_put 5 (some .int) :: gT) { frames := 1, cells := 0, slots := 0, locals := 22 } .int [.ref (oa 0), .int x1, .int x2, .int x3] (bO G oa na ka aa ra pa sd yd td owa ++ (bV G na nwa ++ (bV G ka kpa ++ (bA G aa wa aha ++ (bV G wa awa ++ (bT G ra ma rda ++ (bV G ma mda ++ (bP G pa tpa ++ (bH G sd hha ++ (bY G yd td tha ++ (bK G td tra ++ []))))))))))) r (bO G oa na ka aa ra pa sd yd td owa ++ (bV G na nwa ++ (bV G ka kpa ++ (bA G aa wa aha ++ (bV G wa awa ++ (bT G ra ma rda ++ (bV G ma mda ++ (bP G pa tpa ++ (bH G sd thh ++ (bY G yd td tha ++ (bK G td tra ++ []))))))))))) := by
  refine HI.mk (lv := [(0, .ref (oa 0)), (1, .int x1), (2, .int x2), (3, .int x3)]) OK (by decide) (Nat.le_of_ble_eq_true rfl) rfl ?_
  intro p e s0 m args below meth c ls XX hr I hl
  have hx := XX.x
  have hb := XX.b
  unfold f_O_put at h
  refine lv_iload_n hx hb dX11_put_0 rfl (lv_at hl 1 rfl) ?_
  refine lv_iconst (v := 0) hx hb dX11_put_1 (by decide) ?_
  refine lv_iconst (v := 3) hx hb dX11_put_2 (by decide) ?_
  refine scall_i (rest := []) XX I hl.1 (c_S_within l G OK x1 (0 : Int32) (3 : Int32) _ rfl) kS_X11_103 rfl rfl (Nat.le_of_ble_eq_true rfl) ⟨rfl, rfl, Nat.le_of_ble_eq_true rfl, Nat.le_of_ble_eq_true rfl⟩ ⟨Nat.zero_le _, Nat.zero_le _⟩ dX11_put_3 (fun H locs hz1 I => ?_)
  refine lv_if_ne (tgt := 11) hx hb dX11_put_6 (by decide) (fun c1 => ?_) (fun c1 => ?_)
  · replace h := if_f h c1
    refine lv_aload_n hx hb dX11_put_11 rfl (lv_at hl 0 rfl) ?_
    refine gO_X11_o0_sheets XX I dX11_put_12 ?_
    refine lv_iload_n hx hb dX11_put_15 rfl (lv_at hl 1 rfl) ?_
    obtain ⟨g2, h⟩ := gd_some h
    refine r_aaldO XX I 3 3 rfl rfl (v := .ref (sd x1.toNatClampNeg 0)) rfl g2 dX11_put_16 ?_
    refine lv_astore (lv' := [(4, .ref (sd x1.toNatClampNeg 0)), (0, .ref (oa 0)), (1, .int x1), (2, .int x2), (3, .int x3)]) hx hb dX11_put_17 hl (by decide) rfl (fun ls hl => ?_)
    refine lv_aload hx hb dX11_put_19 (lv_at hl 0 rfl) ?_
    refine gO_X11_fo8_sort (vin_lt g2) XX I dX11_put_21 ?_
    refine lv_iconst (v := (-1)) hx hb dX11_put_24 (by decide) ?_
    refine lv_icmp_ne (tgt := 31) hx hb dX11_put_25 (by decide) (fun c1 => ?_) (fun c1 => ?_)
    · replace h := if_f h c1
      refine lv_iload_n hx hb dX11_put_31 rfl (lv_at hl 3 rfl) ?_
      refine lv_iconst (v := 0) hx hb dX11_put_32 (by decide) ?_
      refine lv_aload hx hb dX11_put_33 (lv_at hl 0 rfl) ?_
      refine gO_X11_fo8_length (vin_lt g2) XX I dX11_put_35 ?_
      refine lv_iconst (v := 1) hx hb dX11_put_38 (by decide) ?_
      refine lv_isub hx hb dX11_put_39 ?_
      refine scall_i (rest := []) XX I hl.1 (c_S_within l G OK x2 (0 : Int32) ((gi (hha x1.toNatClampNeg) 1) - (1 : Int32)) _ rfl) kS_X11_103 rfl rfl (Nat.le_of_ble_eq_true rfl) ⟨rfl, rfl, Nat.le_of_ble_eq_true rfl, Nat.le_of_ble_eq_true rfl⟩ ⟨Nat.zero_le _, Nat.zero_le _⟩ dX11_put_40 (fun H locs hz3 I => ?_)
      refine lv_if_ne (tgt := 49) hx hb dX11_put_43 (by decide) (fun c1 => ?_) (fun c1 => ?_)
      · replace h := if_f h c1
        refine lv_aload hx hb dX11_put_49 (lv_at hl 0 rfl) ?_
        refine gO_X11_fo8_items (vin_lt g2) XX I dX11_put_51 ?_
        refine lv_iload_n hx hb dX11_put_54 rfl (lv_at hl 3 rfl) ?_
        refine lv_iload_n hx hb dX11_put_55 rfl (lv_at hl 4 rfl) ?_
        refine lv_aload hx hb dX11_put_56 (lv_at hl 0 rfl) ?_
        refine gO_X11_fo8_sort (vin_lt g2) XX I dX11_put_58 ?_
        refine scall_i (rest := [.int x2, .ref (sd x1.toNatClampNeg 2)]) XX I hl.1 (c_S_narrowed l G OK x3 (gi (hha x1.toNatClampNeg) 0) _ rfl) kS_X11_265 rfl rfl (Nat.le_of_ble_eq_true rfl) ⟨rfl, rfl, Nat.le_of_ble_eq_true rfl, Nat.le_of_ble_eq_true rfl⟩ ⟨Nat.zero_le _, Nat.zero_le _⟩ dX11_put_61 (fun H locs hz4 I => ?_)
        refine lv_topi (fun y5 ey5 => ?_)
        replace h := lt_e h ey5
        obtain ⟨g6, h⟩ := gd_some h
        refine r_iast XX I (106 + 2 * x1.toNatClampNeg) (aO_fitems8 (vin_lt g2)) (sO_fitems8 (vin_lt g2)) g6 dX11_put_64 (fun H locs I => ?_)
        obtain ⟨s7, es7⟩ : ∃ z, z = ups hha x1.toNatClampNeg (sr (hha x1.toNatClampNeg) 2 x2 y5) := ⟨_, rfl⟩
        replace h := lt_e h es7
        replace I : Iv G (va_A (bO G oa na ka aa ra pa sd yd td owa ++ (bV G na nwa ++ (bV G ka kpa ++ (bA G aa wa aha ++ (bV G wa awa ++ (bT G ra ma rda ++ (bV G ma mda ++ (bP G pa tpa ++ (bH G sd hha ++ (bY G yd td tha ++ (bK G td tra ++ []))))))))))) s0.heap.size) s0 H locs (bO G oa na ka aa ra pa sd yd td owa ++ (bV G na nwa ++ (bV G ka kpa ++ (bA G aa wa aha ++ (bV G wa awa ++ (bT G ra ma rda ++ (bV G ma mda ++ (bP G pa tpa ++ (bH G sd s7 ++ (bY G yd td tha ++ (bK G td tra ++ []))))))))))) := by rw [es7]; exact I
        refine lv_iconst (v := 1) hx hb dX11_put_65 (by decide) ?_
        obtain ⟨rfl, rfl⟩ := some2 h
        exact e_i rfl XX hr I rfl dX11_put_66
      · replace h := if_t h c1
        refine lv_bipush (v := (-12)) hx hb dX11_put_46 (by decide) ?_
        obtain ⟨rfl, rfl⟩ := some2 h
        exact e_i rfl XX hr I rfl dX11_put_48
    · replace h := if_t h c1
      refine lv_bipush (v := (-11)) hx hb dX11_put_28 (by decide) ?_
      obtain ⟨rfl, rfl⟩ := some2 h
      exact e_i rfl XX hr I rfl dX11_put_30
  · replace h := if_t h c1
    refine lv_iconst (v := (-1)) hx hb dX11_put_9 (by decide) ?_
    obtain ⟨rfl, rfl⟩ := some2 h
    exact e_i rfl XX hr I rfl dX11_put_10
set_option maxHeartbeats 4000000 in
set_option maxRecDepth 100000 in
theorem c_O_item (l : Launch) (G : g_G) (OK : EOk G.2.2) (oa : Nat → Nat) (na : Nat → Nat) (ka : Nat → Nat) (aa : Nat → Nat) (wa : Nat → Nat) (ra : Nat → Nat) (ma : Nat → Nat) (pa : Nat → Nat) (sd : Nat → Nat → Nat) (yd : Nat → Nat) (td : Nat → Nat) (owa : g_St) (nwa : g_St) (kpa : g_St) (aha : g_St) (awa : g_St) (rda : g_St) (mda : g_St) (tpa : g_St) (hha : g_Sf) (tha : g_St) (tra : g_St) (x1 : Int32) (x2 : Int32) (x3 : Int32) (r : Int32) (h : f_O_item hha x1 x2 x3 = some r) : HI l G yX11_item (Cond.code yX11_item cX11_item 5 (some .int) :: gT) { frames := 1, cells := 0, slots := 0, locals := 22 } .int [.ref (oa 0), .int x1, .int x2, .int x3] (bO G oa na ka aa ra pa sd yd td owa ++ (bV G na nwa ++ (bV G ka kpa ++ (bA G aa wa aha ++ (bV G wa awa ++ (bT G ra ma rda ++ (bV G ma mda ++ (bP G pa tpa ++ (bH G sd hha ++ (bY G yd td tha ++ (bK G td tra ++ []))))))))))) r (bO G oa na ka aa ra pa sd yd td owa ++ (bV G na nwa ++ (bV G ka kpa ++ (bA G aa wa aha ++ (bV G wa awa ++ (bT G ra ma rda ++ (bV G ma mda ++ (bP G pa tpa ++ (bH G sd hha ++ (bY G yd td tha ++ (bK G td tra ++ []))))))))))) := by
  refine HI.mk (lv := [(0, .ref (oa 0)), (1, .int x1), (2, .int x2), (3, .int x3)]) OK (by decide) (Nat.le_of_ble_eq_true rfl) rfl ?_
  intro p e s0 m args below meth c ls XX hr I hl
  have hx := XX.x
  have hb := XX.b
  unfold f_O_item at h
  refine lv_iload_n hx hb dX11_item_0 rfl (lv_at hl 1 rfl) ?_
  refine lv_iconst (v := 0) hx hb dX11_item_1 (by decide) ?_
  refine lv_iconst (v := 3) hx hb dX11_item_2 (by decide) ?_
  refine scall_i (rest := []) XX I hl.1 (c_S_within l G OK x1 (0 : Int32) (3 : Int32) _ rfl) kS_X11_103 rfl rfl (Nat.le_of_ble_eq_true rfl) ⟨rfl, rfl, Nat.le_of_ble_eq_true rfl, Nat.le_of_ble_eq_true rfl⟩ ⟨Nat.zero_le _, Nat.zero_le _⟩ dX11_item_3 (fun H locs hz1 I => ?_)
  refine lv_if_eq (tgt := 18) hx hb dX11_item_6 (by decide) (fun c1 => ?_) (fun c1 => ?_)
  · replace h := if_t h c1
    refine lv_iconst (v := (-1)) hx hb dX11_item_18 (by decide) ?_
    obtain rfl := some1 h
    exact e_i rfl XX hr I rfl dX11_item_19
  · replace h := if_f h c1
    refine lv_iload_n hx hb dX11_item_9 rfl (lv_at hl 2 rfl) ?_
    refine lv_iconst (v := 0) hx hb dX11_item_10 (by decide) ?_
    refine lv_iconst (v := 3) hx hb dX11_item_11 (by decide) ?_
    refine scall_i (rest := []) XX I hl.1 (c_S_within l G OK x2 (0 : Int32) (3 : Int32) _ rfl) kS_X11_103 rfl rfl (Nat.le_of_ble_eq_true rfl) ⟨rfl, rfl, Nat.le_of_ble_eq_true rfl, Nat.le_of_ble_eq_true rfl⟩ ⟨Nat.zero_le _, Nat.zero_le _⟩ dX11_item_12 (fun H locs hz2 I => ?_)
    refine lv_if_ne (tgt := 20) hx hb dX11_item_15 (by decide) (fun c1 => ?_) (fun c1 => ?_)
    · replace h := if_f h c1
      refine lv_aload_n hx hb dX11_item_20 rfl (lv_at hl 0 rfl) ?_
      refine gO_X11_o0_sheets XX I dX11_item_21 ?_
      refine lv_iload_n hx hb dX11_item_24 rfl (lv_at hl 1 rfl) ?_
      obtain ⟨g3, h⟩ := gd_some h
      refine r_aaldO XX I 3 3 rfl rfl (v := .ref (sd x1.toNatClampNeg 0)) rfl g3 dX11_item_25 ?_
      refine lv_astore (lv' := [(4, .ref (sd x1.toNatClampNeg 0)), (0, .ref (oa 0)), (1, .int x1), (2, .int x2), (3, .int x3)]) hx hb dX11_item_26 hl (by decide) rfl (fun ls hl => ?_)
      refine lv_aload hx hb dX11_item_28 (lv_at hl 0 rfl) ?_
      refine gO_X11_fo8_sort (vin_lt g3) XX I dX11_item_30 ?_
      refine lv_iconst (v := (-1)) hx hb dX11_item_33 (by decide) ?_
      refine lv_icmp_ne (tgt := 40) hx hb dX11_item_34 (by decide) (fun c1 => ?_) (fun c1 => ?_)
      · replace h := if_f h c1
        refine lv_aload hx hb dX11_item_40 (lv_at hl 0 rfl) ?_
        refine gO_X11_fo8_sort (vin_lt g3) XX I dX11_item_42 ?_
        refine lv_iload_n hx hb dX11_item_45 rfl (lv_at hl 3 rfl) ?_
        refine lv_icmp_eq (tgt := 52) hx hb dX11_item_46 (by decide) (fun c1 => ?_) (fun c1 => ?_)
        · replace h := if_t h c1
          refine lv_iload_n hx hb dX11_item_52 rfl (lv_at hl 4 rfl) ?_
          refine lv_iconst (v := 0) hx hb dX11_item_53 (by decide) ?_
          refine lv_aload hx hb dX11_item_54 (lv_at hl 0 rfl) ?_
          refine gO_X11_fo8_length (vin_lt g3) XX I dX11_item_56 ?_
          refine lv_iconst (v := 1) hx hb dX11_item_59 (by decide) ?_
          refine lv_isub hx hb dX11_item_60 ?_
          refine scall_i (rest := []) XX I hl.1 (c_S_within l G OK x3 (0 : Int32) ((gi (hha x1.toNatClampNeg) 1) - (1 : Int32)) _ rfl) kS_X11_103 rfl rfl (Nat.le_of_ble_eq_true rfl) ⟨rfl, rfl, Nat.le_of_ble_eq_true rfl, Nat.le_of_ble_eq_true rfl⟩ ⟨Nat.zero_le _, Nat.zero_le _⟩ dX11_item_61 (fun H locs hz4 I => ?_)
          refine lv_if_ne (tgt := 70) hx hb dX11_item_64 (by decide) (fun c1 => ?_) (fun c1 => ?_)
          · replace h := if_f h c1
            refine lv_aload hx hb dX11_item_70 (lv_at hl 0 rfl) ?_
            refine gO_X11_fo8_items (vin_lt g3) XX I dX11_item_72 ?_
            refine lv_iload_n hx hb dX11_item_75 rfl (lv_at hl 4 rfl) ?_
            obtain ⟨g5, h⟩ := gd_some h
            refine r_iald XX I (106 + 2 * x1.toNatClampNeg) (aO_fitems8 (vin_lt g3)) g5 dX11_item_76 ?_
            obtain rfl := some1 h
            exact e_i rfl XX hr I rfl dX11_item_77
          · replace h := if_t h c1
            refine lv_bipush (v := (-12)) hx hb dX11_item_67 (by decide) ?_
            obtain rfl := some1 h
            exact e_i rfl XX hr I rfl dX11_item_69
        · replace h := if_f h c1
          refine lv_bipush (v := (-13)) hx hb dX11_item_49 (by decide) ?_
          obtain rfl := some1 h
          exact e_i rfl XX hr I rfl dX11_item_51
      · replace h := if_t h c1
        refine lv_bipush (v := (-11)) hx hb dX11_item_37 (by decide) ?_
        obtain rfl := some1 h
        exact e_i rfl XX hr I rfl dX11_item_39
    · replace h := if_t h c1
      refine lv_iconst (v := (-1)) hx hb dX11_item_18 (by decide) ?_
      obtain rfl := some1 h
      exact e_i rfl XX hr I rfl dX11_item_19
set_option maxRecDepth 100000 in
theorem gO_X11_o0_shelfHolds {p : Program} {l : Launch} {e : Env} {R : Room} {s0 : State} {m : MethodId} {args : Array Value} {below : List Frame} {meth : Method} {c : Code} {H : Heap} {locs : List Loc} {cells slots : Nat} {Q : State → Prop} {cc : ByteArray} {nL pc : Nat} {ls : Array Slot} {rest : List Value} {G : g_G} {A : Nat → Prop} {oa : Nat → Nat} {na : Nat → Nat} {ka : Nat → Nat} {aa : Nat → Nat} {wa : Nat → Nat} {ra : Nat → Nat} {ma : Nat → Nat} {pa : Nat → Nat} {sd : Nat → Nat → Nat} {yd : Nat → Nat} {td : Nat → Nat} {ow : g_St} {nw : g_St} {kp : g_St} {ah : g_St} {aw : g_St} {rd : g_St} {md : g_St} {tp : g_St} {hh : g_Sf} {th : g_St} {tr : g_St} (XX : Cx G A p s0 m meth c cc nL RX11 args) (I : Iv G A s0 H locs (bO G oa na ka aa ra pa sd yd td ow ++ (bV G na nw ++ (bV G ka kp ++ (bA G aa wa ah ++ (bV G wa aw ++ (bT G ra ma rd ++ (bV G ma md ++ (bP G pa tp ++ (bH G sd hh ++ (bY G yd td th ++ (bK G td tr ++ [])))))))))))) (hdg : decode cc pc = .ok (.getfield 62, 3)) (kk : W p l e R s0 m args below meth c H locs cells slots Q (F0 m (pc + 3) ls (.ref (oa 12) :: rest))) : W p l e R s0 m args below meth c H locs cells slots Q (F0 m pc ls (.ref (oa 0) :: rest)) := r_get kfX11 XX I 0 rfl 11 (Nat.le_of_ble_eq_true rfl) wd_296 rfl hdg kk
set_option maxRecDepth 100000 in
theorem aO_shelfHolds0 {G : g_G} {oa : Nat → Nat} {na : Nat → Nat} {ka : Nat → Nat} {aa : Nat → Nat} {wa : Nat → Nat} {ra : Nat → Nat} {ma : Nat → Nat} {pa : Nat → Nat} {sd : Nat → Nat → Nat} {yd : Nat → Nat} {td : Nat → Nat} {ow : g_St} {nw : g_St} {kp : g_St} {ah : g_St} {aw : g_St} {rd : g_St} {md : g_St} {tp : g_St} {hh : g_Sf} {th : g_St} {tr : g_St} : (bO G oa na ka aa ra pa sd yd td ow ++ (bV G na nw ++ (bV G ka kp ++ (bA G aa wa ah ++ (bV G wa aw ++ (bT G ra ma rd ++ (bV G ma md ++ (bP G pa tp ++ (bH G sd hh ++ (bY G yd td th ++ (bK G td tr ++ [])))))))))))[4]? = some (oa 12, .inl (G.2.1 0, 4, .inl (gr ow 11))) := rfl
set_option maxRecDepth 100000 in
theorem sO_shelfHolds0 {G : g_G} {oa : Nat → Nat} {na : Nat → Nat} {ka : Nat → Nat} {aa : Nat → Nat} {wa : Nat → Nat} {ra : Nat → Nat} {ma : Nat → Nat} {pa : Nat → Nat} {sd : Nat → Nat → Nat} {yd : Nat → Nat} {td : Nat → Nat} {ow : g_St} {nw : g_St} {kp : g_St} {ah : g_St} {aw : g_St} {rd : g_St} {md : g_St} {tp : g_St} {hh : g_Sf} {th : g_St} {tr : g_St} {i : Int32} {x : Int32} : (bO G oa na ka aa ra pa sd yd td ow ++ (bV G na nw ++ (bV G ka kp ++ (bA G aa wa ah ++ (bV G wa aw ++ (bT G ra ma rd ++ (bV G ma md ++ (bP G pa tp ++ (bH G sd hh ++ (bY G yd td th ++ (bK G td tr ++ []))))))))))).set 4 (oa 12, .inl (G.2.1 0, 4, .inl (upd (gr ow 11) i.toNatClampNeg x))) = (bO G oa na ka aa ra pa sd yd td (sr ow 11 i x) ++ (bV G na nw ++ (bV G ka kp ++ (bA G aa wa ah ++ (bV G wa aw ++ (bT G ra ma rd ++ (bV G ma md ++ (bP G pa tp ++ (bH G sd hh ++ (bY G yd td th ++ (bK G td tr ++ []))))))))))) := rfl
set_option maxRecDepth 100000 in
theorem gO_X11_o0_shelfNumber {p : Program} {l : Launch} {e : Env} {R : Room} {s0 : State} {m : MethodId} {args : Array Value} {below : List Frame} {meth : Method} {c : Code} {H : Heap} {locs : List Loc} {cells slots : Nat} {Q : State → Prop} {cc : ByteArray} {nL pc : Nat} {ls : Array Slot} {rest : List Value} {G : g_G} {A : Nat → Prop} {oa : Nat → Nat} {na : Nat → Nat} {ka : Nat → Nat} {aa : Nat → Nat} {wa : Nat → Nat} {ra : Nat → Nat} {ma : Nat → Nat} {pa : Nat → Nat} {sd : Nat → Nat → Nat} {yd : Nat → Nat} {td : Nat → Nat} {ow : g_St} {nw : g_St} {kp : g_St} {ah : g_St} {aw : g_St} {rd : g_St} {md : g_St} {tp : g_St} {hh : g_Sf} {th : g_St} {tr : g_St} (XX : Cx G A p s0 m meth c cc nL RX11 args) (I : Iv G A s0 H locs (bO G oa na ka aa ra pa sd yd td ow ++ (bV G na nw ++ (bV G ka kp ++ (bA G aa wa ah ++ (bV G wa aw ++ (bT G ra ma rd ++ (bV G ma md ++ (bP G pa tp ++ (bH G sd hh ++ (bY G yd td th ++ (bK G td tr ++ [])))))))))))) (hdg : decode cc pc = .ok (.getfield 65, 3)) (kk : W p l e R s0 m args below meth c H locs cells slots Q (F0 m (pc + 3) ls (.ref (oa 13) :: rest))) : W p l e R s0 m args below meth c H locs cells slots Q (F0 m pc ls (.ref (oa 0) :: rest)) := r_get kfX11 XX I 0 rfl 12 (Nat.le_of_ble_eq_true rfl) wd_297 rfl hdg kk
set_option maxRecDepth 100000 in
theorem aO_shelfNumber0 {G : g_G} {oa : Nat → Nat} {na : Nat → Nat} {ka : Nat → Nat} {aa : Nat → Nat} {wa : Nat → Nat} {ra : Nat → Nat} {ma : Nat → Nat} {pa : Nat → Nat} {sd : Nat → Nat → Nat} {yd : Nat → Nat} {td : Nat → Nat} {ow : g_St} {nw : g_St} {kp : g_St} {ah : g_St} {aw : g_St} {rd : g_St} {md : g_St} {tp : g_St} {hh : g_Sf} {th : g_St} {tr : g_St} : (bO G oa na ka aa ra pa sd yd td ow ++ (bV G na nw ++ (bV G ka kp ++ (bA G aa wa ah ++ (bV G wa aw ++ (bT G ra ma rd ++ (bV G ma md ++ (bP G pa tp ++ (bH G sd hh ++ (bY G yd td th ++ (bK G td tr ++ [])))))))))))[5]? = some (oa 13, .inl (G.2.1 0, 4, .inl (gr ow 12))) := rfl
set_option maxRecDepth 100000 in
theorem sO_shelfNumber0 {G : g_G} {oa : Nat → Nat} {na : Nat → Nat} {ka : Nat → Nat} {aa : Nat → Nat} {wa : Nat → Nat} {ra : Nat → Nat} {ma : Nat → Nat} {pa : Nat → Nat} {sd : Nat → Nat → Nat} {yd : Nat → Nat} {td : Nat → Nat} {ow : g_St} {nw : g_St} {kp : g_St} {ah : g_St} {aw : g_St} {rd : g_St} {md : g_St} {tp : g_St} {hh : g_Sf} {th : g_St} {tr : g_St} {i : Int32} {x : Int32} : (bO G oa na ka aa ra pa sd yd td ow ++ (bV G na nw ++ (bV G ka kp ++ (bA G aa wa ah ++ (bV G wa aw ++ (bT G ra ma rd ++ (bV G ma md ++ (bP G pa tp ++ (bH G sd hh ++ (bY G yd td th ++ (bK G td tr ++ []))))))))))).set 5 (oa 13, .inl (G.2.1 0, 4, .inl (upd (gr ow 12) i.toNatClampNeg x))) = (bO G oa na ka aa ra pa sd yd td (sr ow 12 i x) ++ (bV G na nw ++ (bV G ka kp ++ (bA G aa wa ah ++ (bV G wa aw ++ (bT G ra ma rd ++ (bV G ma md ++ (bP G pa tp ++ (bH G sd hh ++ (bY G yd td th ++ (bK G td tr ++ []))))))))))) := rfl
set_option maxRecDepth 100000 in
theorem gO_X11_o0_shelfLength {p : Program} {l : Launch} {e : Env} {R : Room} {s0 : State} {m : MethodId} {args : Array Value} {below : List Frame} {meth : Method} {c : Code} {H : Heap} {locs : List Loc} {cells slots : Nat} {Q : State → Prop} {cc : ByteArray} {nL pc : Nat} {ls : Array Slot} {rest : List Value} {G : g_G} {A : Nat → Prop} {oa : Nat → Nat} {na : Nat → Nat} {ka : Nat → Nat} {aa : Nat → Nat} {wa : Nat → Nat} {ra : Nat → Nat} {ma : Nat → Nat} {pa : Nat → Nat} {sd : Nat → Nat → Nat} {yd : Nat → Nat} {td : Nat → Nat} {ow : g_St} {nw : g_St} {kp : g_St} {ah : g_St} {aw : g_St} {rd : g_St} {md : g_St} {tp : g_St} {hh : g_Sf} {th : g_St} {tr : g_St} (XX : Cx G A p s0 m meth c cc nL RX11 args) (I : Iv G A s0 H locs (bO G oa na ka aa ra pa sd yd td ow ++ (bV G na nw ++ (bV G ka kp ++ (bA G aa wa ah ++ (bV G wa aw ++ (bT G ra ma rd ++ (bV G ma md ++ (bP G pa tp ++ (bH G sd hh ++ (bY G yd td th ++ (bK G td tr ++ [])))))))))))) (hdg : decode cc pc = .ok (.getfield 68, 3)) (kk : W p l e R s0 m args below meth c H locs cells slots Q (F0 m (pc + 3) ls (.ref (oa 14) :: rest))) : W p l e R s0 m args below meth c H locs cells slots Q (F0 m pc ls (.ref (oa 0) :: rest)) := r_get kfX11 XX I 0 rfl 13 (Nat.le_of_ble_eq_true rfl) wd_298 rfl hdg kk
set_option maxRecDepth 100000 in
theorem aO_shelfLength0 {G : g_G} {oa : Nat → Nat} {na : Nat → Nat} {ka : Nat → Nat} {aa : Nat → Nat} {wa : Nat → Nat} {ra : Nat → Nat} {ma : Nat → Nat} {pa : Nat → Nat} {sd : Nat → Nat → Nat} {yd : Nat → Nat} {td : Nat → Nat} {ow : g_St} {nw : g_St} {kp : g_St} {ah : g_St} {aw : g_St} {rd : g_St} {md : g_St} {tp : g_St} {hh : g_Sf} {th : g_St} {tr : g_St} : (bO G oa na ka aa ra pa sd yd td ow ++ (bV G na nw ++ (bV G ka kp ++ (bA G aa wa ah ++ (bV G wa aw ++ (bT G ra ma rd ++ (bV G ma md ++ (bP G pa tp ++ (bH G sd hh ++ (bY G yd td th ++ (bK G td tr ++ [])))))))))))[6]? = some (oa 14, .inl (G.2.1 0, 4, .inl (gr ow 13))) := rfl
set_option maxRecDepth 100000 in
theorem sO_shelfLength0 {G : g_G} {oa : Nat → Nat} {na : Nat → Nat} {ka : Nat → Nat} {aa : Nat → Nat} {wa : Nat → Nat} {ra : Nat → Nat} {ma : Nat → Nat} {pa : Nat → Nat} {sd : Nat → Nat → Nat} {yd : Nat → Nat} {td : Nat → Nat} {ow : g_St} {nw : g_St} {kp : g_St} {ah : g_St} {aw : g_St} {rd : g_St} {md : g_St} {tp : g_St} {hh : g_Sf} {th : g_St} {tr : g_St} {i : Int32} {x : Int32} : (bO G oa na ka aa ra pa sd yd td ow ++ (bV G na nw ++ (bV G ka kp ++ (bA G aa wa ah ++ (bV G wa aw ++ (bT G ra ma rd ++ (bV G ma md ++ (bP G pa tp ++ (bH G sd hh ++ (bY G yd td th ++ (bK G td tr ++ []))))))))))).set 6 (oa 14, .inl (G.2.1 0, 4, .inl (upd (gr ow 13) i.toNatClampNeg x))) = (bO G oa na ka aa ra pa sd yd td (sr ow 13 i x) ++ (bV G na nw ++ (bV G ka kp ++ (bA G aa wa ah ++ (bV G wa aw ++ (bT G ra ma rd ++ (bV G ma md ++ (bP G pa tp ++ (bH G sd hh ++ (bY G yd td th ++ (bK G td tr ++ []))))))))))) := rfl
set_option maxHeartbeats 4000000 in
set_option maxRecDepth 100000 in
theorem c_O_fillShelf (l : Launch) (G : g_G) (OK : EOk G.2.2) (oa : Nat → Nat) (na : Nat → Nat) (ka : Nat → Nat) (aa : Nat → Nat) (wa : Nat → Nat) (ra : Nat → Nat) (ma : Nat → Nat) (pa : Nat → Nat) (sd : Nat → Nat → Nat) (yd : Nat → Nat) (td : Nat → Nat) (owa : g_St) (nwa : g_St) (kpa : g_St) (aha : g_St) (awa : g_St) (rda : g_St) (mda : g_St) (tpa : g_St) (hha : g_Sf) (tha : g_St) (tra : g_St) (x1 : Int32) (x2 : Int32) (x3 : Int32) (x4 : Int32) (tow : g_St) (h : f_O_fillShelf owa x1 x2 x3 x4 = some tow) : HV l G yX11_fillShelf (Cond.code yX11_fillShelf cX11_fillShelf 5 none :: gT) { frames := 0, cells := 0, slots := 0, locals := 0 } [.ref (oa 0), .int x1, .int x2, .int x3, .int x4] (bO G oa na ka aa ra pa sd yd td owa ++ (bV G na nwa ++ (bV G ka kpa ++ (bA G aa wa aha ++ (bV G wa awa ++ (bT G ra ma rda ++ (bV G ma mda ++ (bP G pa tpa ++ (bH G sd hha ++ (bY G yd td tha ++ (bK G td tra ++ []))))))))))) (bO G oa na ka aa ra pa sd yd td tow ++ (bV G na nwa ++ (bV G ka kpa ++ (bA G aa wa aha ++ (bV G wa awa ++ (bT G ra ma rda ++ (bV G ma mda ++ (bP G pa tpa ++ (bH G sd hha ++ (bY G yd td tha ++ (bK G td tra ++ []))))))))))) := by
  refine HV.mk (lv := [(0, .ref (oa 0)), (1, .int x1), (2, .int x2), (3, .int x3), (4, .int x4)]) OK (by decide) (Nat.le_of_ble_eq_true rfl) rfl ?_
  intro p e s0 m args below meth c ls XX hr I hl
  have hx := XX.x
  have hb := XX.b
  unfold f_O_fillShelf at h
  refine lv_aload_n hx hb dX11_fillShelf_0 rfl (lv_at hl 0 rfl) ?_
  refine gO_X11_o0_shelfHolds XX I dX11_fillShelf_1 ?_
  refine lv_iload_n hx hb dX11_fillShelf_4 rfl (lv_at hl 1 rfl) ?_
  refine lv_iload_n hx hb dX11_fillShelf_5 rfl (lv_at hl 2 rfl) ?_
  obtain ⟨g1, h⟩ := gd_some h
  refine r_iast XX I 4 (aO_shelfHolds0) (sO_shelfHolds0) g1 dX11_fillShelf_6 (fun H locs I => ?_)
  obtain ⟨s2, es2⟩ : ∃ z, z = sr owa 11 x1 x2 := ⟨_, rfl⟩
  replace h := lt_e h es2
  replace I : Iv G (va_A (bO G oa na ka aa ra pa sd yd td owa ++ (bV G na nwa ++ (bV G ka kpa ++ (bA G aa wa aha ++ (bV G wa awa ++ (bT G ra ma rda ++ (bV G ma mda ++ (bP G pa tpa ++ (bH G sd hha ++ (bY G yd td tha ++ (bK G td tra ++ []))))))))))) s0.heap.size) s0 H locs (bO G oa na ka aa ra pa sd yd td s2 ++ (bV G na nwa ++ (bV G ka kpa ++ (bA G aa wa aha ++ (bV G wa awa ++ (bT G ra ma rda ++ (bV G ma mda ++ (bP G pa tpa ++ (bH G sd hha ++ (bY G yd td tha ++ (bK G td tra ++ []))))))))))) := by rw [es2]; exact I
  refine lv_aload_n hx hb dX11_fillShelf_7 rfl (lv_at hl 0 rfl) ?_
  refine gO_X11_o0_shelfNumber XX I dX11_fillShelf_8 ?_
  refine lv_iload_n hx hb dX11_fillShelf_11 rfl (lv_at hl 1 rfl) ?_
  refine lv_iload_n hx hb dX11_fillShelf_12 rfl (lv_at hl 3 rfl) ?_
  obtain ⟨g3, h⟩ := gd_some h
  refine r_iast XX I 5 (aO_shelfNumber0) (sO_shelfNumber0) g3 dX11_fillShelf_13 (fun H locs I => ?_)
  obtain ⟨s4, es4⟩ : ∃ z, z = sr s2 12 x1 x3 := ⟨_, rfl⟩
  replace h := lt_e h es4
  replace I : Iv G (va_A (bO G oa na ka aa ra pa sd yd td owa ++ (bV G na nwa ++ (bV G ka kpa ++ (bA G aa wa aha ++ (bV G wa awa ++ (bT G ra ma rda ++ (bV G ma mda ++ (bP G pa tpa ++ (bH G sd hha ++ (bY G yd td tha ++ (bK G td tra ++ []))))))))))) s0.heap.size) s0 H locs (bO G oa na ka aa ra pa sd yd td s4 ++ (bV G na nwa ++ (bV G ka kpa ++ (bA G aa wa aha ++ (bV G wa awa ++ (bT G ra ma rda ++ (bV G ma mda ++ (bP G pa tpa ++ (bH G sd hha ++ (bY G yd td tha ++ (bK G td tra ++ []))))))))))) := by rw [es4]; exact I
  refine lv_aload_n hx hb dX11_fillShelf_14 rfl (lv_at hl 0 rfl) ?_
  refine gO_X11_o0_shelfLength XX I dX11_fillShelf_15 ?_
  refine lv_iload_n hx hb dX11_fillShelf_18 rfl (lv_at hl 1 rfl) ?_
  refine lv_iload hx hb dX11_fillShelf_19 (lv_at hl 4 rfl) ?_
  obtain ⟨g5, h⟩ := gd_some h
  refine r_iast XX I 6 (aO_shelfLength0) (sO_shelfLength0) g5 dX11_fillShelf_21 (fun H locs I => ?_)
  obtain ⟨s6, es6⟩ : ∃ z, z = sr s4 13 x1 x4 := ⟨_, rfl⟩
  replace h := lt_e h es6
  replace I : Iv G (va_A (bO G oa na ka aa ra pa sd yd td owa ++ (bV G na nwa ++ (bV G ka kpa ++ (bA G aa wa aha ++ (bV G wa awa ++ (bT G ra ma rda ++ (bV G ma mda ++ (bP G pa tpa ++ (bH G sd hha ++ (bY G yd td tha ++ (bK G td tra ++ []))))))))))) s0.heap.size) s0 H locs (bO G oa na ka aa ra pa sd yd td s6 ++ (bV G na nwa ++ (bV G ka kpa ++ (bA G aa wa aha ++ (bV G wa awa ++ (bT G ra ma rda ++ (bV G ma mda ++ (bP G pa tpa ++ (bH G sd hha ++ (bY G yd td tha ++ (bK G td tra ++ []))))))))))) := by rw [es6]; exact I
  obtain rfl := some1 h
  exact e_v XX hr I dX11_fillShelf_22
set_option maxRecDepth 100000 in
theorem kV_X11_268 : KV RX11 268 RX11 yX11_fillShelf cX11_fillShelf 5 none 4 := KV.mk wd_822 wd_824 wd_1608 wd_1 wd_825 (by decide +kernel)
set_option maxHeartbeats 4000000 in
set_option maxRecDepth 100000 in
theorem c_O_shelf (l : Launch) (G : g_G) (OK : EOk G.2.2) (oa : Nat → Nat) (na : Nat → Nat) (ka : Nat → Nat) (aa : Nat → Nat) (wa : Nat → Nat) (ra : Nat → Nat) (ma : Nat → Nat) (pa : Nat → Nat) (sd : Nat → Nat → Nat) (yd : Nat → Nat) (td : Nat → Nat) (owa : g_St) (nwa : g_St) (kpa : g_St) (aha : g_St) (awa : g_St) (rda : g_St) (mda : g_St) (tpa : g_St) (hha : g_Sf) (tha : g_St) (tra : g_St) (x1 : Int32) (x2 : Int32) (x3 : Int32) (r : Int32) (tow : g_St) (h : f_O_shelf owa nwa hha x1 x2 x3 = some (r, tow)) : HI l G yX11_shelf (Cond.code yX11_shelf cX11_shelf 5 (some .int) :: gT) { frames := 1, cells := 0, slots := 0, locals := 24 } .int [.ref (oa 0), .int x1, .int x2, .int x3] (bO G oa na ka aa ra pa sd yd td owa ++ (bV G na nwa ++ (bV G ka kpa ++ (bA G aa wa aha ++ (bV G wa awa ++ (bT G ra ma rda ++ (bV G ma mda ++ (bP G pa tpa ++ (bH G sd hha ++ (bY G yd td tha ++ (bK G td tra ++ []))))))))))) r (bO G oa na ka aa ra pa sd yd td tow ++ (bV G na nwa ++ (bV G ka kpa ++ (bA G aa wa aha ++ (bV G wa awa ++ (bT G ra ma rda ++ (bV G ma mda ++ (bP G pa tpa ++ (bH G sd hha ++ (bY G yd td tha ++ (bK G td tra ++ []))))))))))) := by
  refine HI.mk (lv := [(0, .ref (oa 0)), (1, .int x1), (2, .int x2), (3, .int x3)]) OK (by decide) (Nat.le_of_ble_eq_true rfl) rfl ?_
  intro p e s0 m args below meth c ls XX hr I hl
  have hx := XX.x
  have hb := XX.b
  unfold f_O_shelf at h
  refine lv_iload_n hx hb dX11_shelf_0 rfl (lv_at hl 1 rfl) ?_
  refine lv_iconst (v := 0) hx hb dX11_shelf_1 (by decide) ?_
  refine lv_iconst (v := 3) hx hb dX11_shelf_2 (by decide) ?_
  refine scall_i (rest := []) XX I hl.1 (c_S_within l G OK x1 (0 : Int32) (3 : Int32) _ rfl) kS_X11_103 rfl rfl (Nat.le_of_ble_eq_true rfl) ⟨rfl, rfl, Nat.le_of_ble_eq_true rfl, Nat.le_of_ble_eq_true rfl⟩ ⟨Nat.zero_le _, Nat.zero_le _⟩ dX11_shelf_3 (fun H locs hz1 I => ?_)
  refine lv_if_ne (tgt := 11) hx hb dX11_shelf_6 (by decide) (fun c1 => ?_) (fun c1 => ?_)
  · replace h := if_f h c1
    refine lv_iload_n hx hb dX11_shelf_11 rfl (lv_at hl 2 rfl) ?_
    by_cases q0 : x2 = (0 : Int32)
    · replace h := if_t h q0
      refine lv_tableIn (tgt := 40) (off := 28) hx hb dX11_shelf_12 (by rw [q0]; decide) (by rw [q0]; decide) (by rw [q0]; rfl) (by decide) ?_
      refine lv_aload_n hx hb dX11_shelf_40 rfl (lv_at hl 0 rfl) ?_
      refine lv_iload_n hx hb dX11_shelf_41 rfl (lv_at hl 3 rfl) ?_
      refine wcall_i (rest := []) XX I hl.1 (c_O_isPerson l G OK oa na ka aa wa ra ma pa sd yd td owa nwa kpa aha awa rda mda tpa hha tha tra x3 _ rfl) kV_X11_131 (Rc.mk XX I (q0 := 0) (ci := 11) rfl rfl) rfl rfl (Nat.le_of_ble_eq_true rfl) ⟨rfl, rfl, Nat.le_of_ble_eq_true rfl, Nat.le_of_ble_eq_true rfl⟩ ⟨Nat.zero_le _, Nat.zero_le _⟩ dX11_shelf_42 (fun H locs hz2 I => ?_)
      refine lv_if_ne (tgt := 50) hx hb dX11_shelf_45 (by decide) (fun c1 => ?_) (fun c1 => ?_)
      · replace h := if_f h c1
        refine lv_aload_n hx hb dX11_shelf_50 rfl (lv_at hl 0 rfl) ?_
        refine lv_iload_n hx hb dX11_shelf_51 rfl (lv_at hl 1 rfl) ?_
        refine lv_iconst (v := 0) hx hb dX11_shelf_52 (by decide) ?_
        refine lv_iload_n hx hb dX11_shelf_53 rfl (lv_at hl 3 rfl) ?_
        refine lv_iconst (v := 0) hx hb dX11_shelf_54 (by decide) ?_
        obtain ⟨s3, q4, h⟩ := bd1_some h
        refine wcall_v (rest := []) XX I hl.1 (c_O_fillShelf l G OK oa na ka aa wa ra ma pa sd yd td owa nwa kpa aha awa rda mda tpa hha tha tra x1 (0 : Int32) x3 (0 : Int32) s3 q4) kV_X11_268 (Rc.mk XX I (q0 := 0) (ci := 11) rfl rfl) rfl rfl (Nat.le_of_ble_eq_true rfl) ⟨rfl, rfl, Nat.le_of_ble_eq_true rfl, Nat.le_of_ble_eq_true rfl⟩ ⟨Nat.zero_le _, Nat.zero_le _⟩ dX11_shelf_55 (fun H locs I => ?_)
        refine lv_iconst (v := 1) hx hb dX11_shelf_58 (by decide) ?_
        obtain ⟨rfl, rfl⟩ := some2 h
        exact e_i rfl XX hr I rfl dX11_shelf_59
      · replace h := if_t h c1
        refine lv_iconst (v := (-1)) hx hb dX11_shelf_48 (by decide) ?_
        obtain ⟨rfl, rfl⟩ := some2 h
        exact e_i rfl XX hr I rfl dX11_shelf_49
    replace h := if_f h q0
    by_cases q1 : x2 = (1 : Int32)
    · replace h := if_t h q1
      refine lv_tableIn (tgt := 60) (off := 48) hx hb dX11_shelf_12 (by rw [q1]; decide) (by rw [q1]; decide) (by rw [q1]; rfl) (by decide) ?_
      refine lv_iload_n hx hb dX11_shelf_60 rfl (lv_at hl 3 rfl) ?_
      refine lv_iconst (v := 0) hx hb dX11_shelf_61 (by decide) ?_
      refine lv_iconst (v := 3) hx hb dX11_shelf_62 (by decide) ?_
      refine scall_i (rest := []) XX I hl.1 (c_S_within l G OK x3 (0 : Int32) (3 : Int32) _ rfl) kS_X11_103 rfl rfl (Nat.le_of_ble_eq_true rfl) ⟨rfl, rfl, Nat.le_of_ble_eq_true rfl, Nat.le_of_ble_eq_true rfl⟩ ⟨Nat.zero_le _, Nat.zero_le _⟩ dX11_shelf_63 (fun H locs hz6 I => ?_)
      refine lv_if_ne (tgt := 71) hx hb dX11_shelf_66 (by decide) (fun c1 => ?_) (fun c1 => ?_)
      · replace h := if_f h c1
        refine lv_aload_n hx hb dX11_shelf_71 rfl (lv_at hl 0 rfl) ?_
        refine gO_X11_o0_sheets XX I dX11_shelf_72 ?_
        refine lv_iload_n hx hb dX11_shelf_75 rfl (lv_at hl 3 rfl) ?_
        obtain ⟨g7, h⟩ := gd_some h
        refine r_aaldO XX I 3 3 rfl rfl (v := .ref (sd x3.toNatClampNeg 0)) rfl g7 dX11_shelf_76 ?_
        refine lv_astore (lv' := [(4, .ref (sd x3.toNatClampNeg 0)), (0, .ref (oa 0)), (1, .int x1), (2, .int x2), (3, .int x3)]) hx hb dX11_shelf_77 hl (by decide) rfl (fun ls hl => ?_)
        refine lv_aload_n hx hb dX11_shelf_79 rfl (lv_at hl 1 rfl) ?_
        refine lv_iload_n hx hb dX11_shelf_80 rfl (lv_at hl 2 rfl) ?_
        refine lv_aload hx hb dX11_shelf_81 (lv_at hl 0 rfl) ?_
        refine gO_X11_fo8_sort (vin_lt g7) XX I dX11_shelf_83 ?_
        refine lv_iconst (v := (-1)) hx hb dX11_shelf_86 (by decide) ?_
        refine lv_icmp_ne (tgt := 94) hx hb dX11_shelf_87 (by decide) (fun c1 => ?_) (fun c1 => ?_)
        · replace h := if_f h c1
          refine lv_iconst (v := 1) hx hb dX11_shelf_94 (by decide) ?_
          refine lv_aload hx hb dX11_shelf_95 (lv_at hl 0 rfl) ?_
          refine gO_X11_fo8_sort (vin_lt g7) XX I dX11_shelf_97 ?_
          refine lv_aload hx hb dX11_shelf_100 (lv_at hl 0 rfl) ?_
          refine gO_X11_fo8_length (vin_lt g7) XX I dX11_shelf_102 ?_
          obtain ⟨s8, q9, h⟩ := bd1_some h
          refine wcall_v (rest := []) XX I hl.1 (c_O_fillShelf l G OK oa na ka aa wa ra ma pa sd yd td owa nwa kpa aha awa rda mda tpa hha tha tra x1 (1 : Int32) (gi (hha x3.toNatClampNeg) 0) (gi (hha x3.toNatClampNeg) 1) s8 q9) kV_X11_268 (Rc.mk XX I (q0 := 0) (ci := 11) rfl rfl) rfl rfl (Nat.le_of_ble_eq_true rfl) ⟨rfl, rfl, Nat.le_of_ble_eq_true rfl, Nat.le_of_ble_eq_true rfl⟩ ⟨Nat.zero_le _, Nat.zero_le _⟩ dX11_shelf_105 (fun H locs I => ?_)
          refine lv_iconst (v := 1) hx hb dX11_shelf_108 (by decide) ?_
          obtain ⟨rfl, rfl⟩ := some2 h
          exact e_i rfl XX hr I rfl dX11_shelf_109
        · replace h := if_t h c1
          refine lv_iconst (v := 2) hx hb dX11_shelf_90 (by decide) ?_
          refine lv_goto (tgt := 95) hx hb dX11_shelf_91 (by decide) ?_
          refine lv_aload hx hb dX11_shelf_95 (lv_at hl 0 rfl) ?_
          refine gO_X11_fo8_sort (vin_lt g7) XX I dX11_shelf_97 ?_
          refine lv_aload hx hb dX11_shelf_100 (lv_at hl 0 rfl) ?_
          refine gO_X11_fo8_length (vin_lt g7) XX I dX11_shelf_102 ?_
          obtain ⟨s11, q12, h⟩ := bd1_some h
          refine wcall_v (rest := []) XX I hl.1 (c_O_fillShelf l G OK oa na ka aa wa ra ma pa sd yd td owa nwa kpa aha awa rda mda tpa hha tha tra x1 (2 : Int32) (gi (hha x3.toNatClampNeg) 0) (gi (hha x3.toNatClampNeg) 1) s11 q12) kV_X11_268 (Rc.mk XX I (q0 := 0) (ci := 11) rfl rfl) rfl rfl (Nat.le_of_ble_eq_true rfl) ⟨rfl, rfl, Nat.le_of_ble_eq_true rfl, Nat.le_of_ble_eq_true rfl⟩ ⟨Nat.zero_le _, Nat.zero_le _⟩ dX11_shelf_105 (fun H locs I => ?_)
          refine lv_iconst (v := 1) hx hb dX11_shelf_108 (by decide) ?_
          obtain ⟨rfl, rfl⟩ := some2 h
          exact e_i rfl XX hr I rfl dX11_shelf_109
      · replace h := if_t h c1
        refine lv_iconst (v := (-1)) hx hb dX11_shelf_69 (by decide) ?_
        obtain ⟨rfl, rfl⟩ := some2 h
        exact e_i rfl XX hr I rfl dX11_shelf_70
    replace h := if_f h q1
    by_cases q2 : x2 = (2 : Int32)
    · replace h := if_t h q2
      refine lv_tableIn (tgt := 110) (off := 98) hx hb dX11_shelf_12 (by rw [q2]; decide) (by rw [q2]; decide) (by rw [q2]; rfl) (by decide) ?_
      refine lv_aload_n hx hb dX11_shelf_110 rfl (lv_at hl 0 rfl) ?_
      refine lv_iload_n hx hb dX11_shelf_111 rfl (lv_at hl 1 rfl) ?_
      refine lv_iconst (v := 2) hx hb dX11_shelf_112 (by decide) ?_
      refine lv_iconst (v := 0) hx hb dX11_shelf_113 (by decide) ?_
      refine lv_iconst (v := 0) hx hb dX11_shelf_114 (by decide) ?_
      obtain ⟨s14, q15, h⟩ := bd1_some h
      refine wcall_v (rest := []) XX I hl.1 (c_O_fillShelf l G OK oa na ka aa wa ra ma pa sd yd td owa nwa kpa aha awa rda mda tpa hha tha tra x1 (2 : Int32) (0 : Int32) (0 : Int32) s14 q15) kV_X11_268 (Rc.mk XX I (q0 := 0) (ci := 11) rfl rfl) rfl rfl (Nat.le_of_ble_eq_true rfl) ⟨rfl, rfl, Nat.le_of_ble_eq_true rfl, Nat.le_of_ble_eq_true rfl⟩ ⟨Nat.zero_le _, Nat.zero_le _⟩ dX11_shelf_115 (fun H locs I => ?_)
      refine lv_iconst (v := 1) hx hb dX11_shelf_118 (by decide) ?_
      obtain ⟨rfl, rfl⟩ := some2 h
      exact e_i rfl XX hr I rfl dX11_shelf_119
    replace h := if_f h q2
    refine lv_tableOut (tgt := 120) hx hb dX11_shelf_12 (tab_out (lo := 0) (hi := 2) (fun k k1 k2 => by rcases (show k = 0 ∨ k = 1 ∨ k = 2 by omega) with rfl | rfl | rfl <;> assumption)) (by decide) ?_
    refine lv_iconst (v := (-1)) hx hb dX11_shelf_120 (by decide) ?_
    obtain ⟨rfl, rfl⟩ := some2 h
    exact e_i rfl XX hr I rfl dX11_shelf_121
  · replace h := if_t h c1
    refine lv_iconst (v := (-1)) hx hb dX11_shelf_9 (by decide) ?_
    obtain ⟨rfl, rfl⟩ := some2 h
    exact e_i rfl XX hr I rfl dX11_shelf_10
set_option maxRecDepth 100000 in
theorem gO_X11_o0_things {p : Program} {l : Launch} {e : Env} {R : Room} {s0 : State} {m : MethodId} {args : Array Value} {below : List Frame} {meth : Method} {c : Code} {H : Heap} {locs : List Loc} {cells slots : Nat} {Q : State → Prop} {cc : ByteArray} {nL pc : Nat} {ls : Array Slot} {rest : List Value} {G : g_G} {A : Nat → Prop} {oa : Nat → Nat} {na : Nat → Nat} {ka : Nat → Nat} {aa : Nat → Nat} {wa : Nat → Nat} {ra : Nat → Nat} {ma : Nat → Nat} {pa : Nat → Nat} {sd : Nat → Nat → Nat} {yd : Nat → Nat} {td : Nat → Nat} {ow : g_St} {nw : g_St} {kp : g_St} {ah : g_St} {aw : g_St} {rd : g_St} {md : g_St} {tp : g_St} {hh : g_Sf} {th : g_St} {tr : g_St} (XX : Cx G A p s0 m meth c cc nL RX11 args) (I : Iv G A s0 H locs (bO G oa na ka aa ra pa sd yd td ow ++ (bV G na nw ++ (bV G ka kp ++ (bA G aa wa ah ++ (bV G wa aw ++ (bT G ra ma rd ++ (bV G ma md ++ (bP G pa tp ++ (bH G sd hh ++ (bY G yd td th ++ (bK G td tr ++ [])))))))))))) (hdg : decode cc pc = .ok (.getfield 73, 3)) (kk : W p l e R s0 m args below meth c H locs cells slots Q (F0 m (pc + 3) ls (.ref (oa 15) :: rest))) : W p l e R s0 m args below meth c H locs cells slots Q (F0 m pc ls (.ref (oa 0) :: rest)) := r_get kfX11 XX I 0 rfl 14 (Nat.le_of_ble_eq_true rfl) wd_299 rfl hdg kk
set_option maxRecDepth 100000 in
theorem pO_X11_y09_n {p : Program} {l : Launch} {e : Env} {R : Room} {s0 : State} {m : MethodId} {args : Array Value} {below : List Frame} {meth : Method} {c : Code} {H : Heap} {locs : List Loc} {cells slots : Nat} {Q : State → Prop} {cc : ByteArray} {nL pc : Nat} {ls : Array Slot} {rest : List Value} {G : g_G} {A : Nat → Prop} {oa : Nat → Nat} {na : Nat → Nat} {ka : Nat → Nat} {aa : Nat → Nat} {wa : Nat → Nat} {ra : Nat → Nat} {ma : Nat → Nat} {pa : Nat → Nat} {sd : Nat → Nat → Nat} {yd : Nat → Nat} {td : Nat → Nat} {ow : g_St} {nw : g_St} {kp : g_St} {ah : g_St} {aw : g_St} {rd : g_St} {md : g_St} {tp : g_St} {hh : g_Sf} {th : g_St} {tr : g_St} {val : Int32} (XX : Cx G A p s0 m meth c cc nL RX11 args) (I : Iv G A s0 H locs (bO G oa na ka aa ra pa sd yd td ow ++ (bV G na nw ++ (bV G ka kp ++ (bA G aa wa ah ++ (bV G wa aw ++ (bT G ra ma rd ++ (bV G ma md ++ (bP G pa tp ++ (bH G sd hh ++ (bY G yd td th ++ (bK G td tr ++ [])))))))))))) (hdg : decode cc pc = .ok (.putfield 280, 3)) (kk : ∀ (H1 : Heap) (locs1 : List Loc), Iv G A s0 H1 locs1 (bO G oa na ka aa ra pa sd yd td ow ++ (bV G na nw ++ (bV G ka kp ++ (bA G aa wa ah ++ (bV G wa aw ++ (bT G ra ma rd ++ (bV G ma md ++ (bP G pa tp ++ (bH G sd hh ++ (bY G yd td (si th 0 val) ++ (bK G td tr ++ []))))))))))) → W p l e R s0 m args below meth c H1 locs1 cells slots Q (F0 m (pc + 3) ls rest)) : W p l e R s0 m args below meth c H locs cells slots Q (F0 m pc ls (.int val :: .ref (yd 0) :: rest)) := r_put kfX4 XX I 113 rfl 1 (Nat.le_of_ble_eq_true rfl) wd_221 rfl (vp_nar_int val) rfl (Nat.le_of_ble_eq_true rfl) rfl hdg kk
set_option maxRecDepth 100000 in
theorem pO_X11_y09_a {p : Program} {l : Launch} {e : Env} {R : Room} {s0 : State} {m : MethodId} {args : Array Value} {below : List Frame} {meth : Method} {c : Code} {H : Heap} {locs : List Loc} {cells slots : Nat} {Q : State → Prop} {cc : ByteArray} {nL pc : Nat} {ls : Array Slot} {rest : List Value} {G : g_G} {A : Nat → Prop} {oa : Nat → Nat} {na : Nat → Nat} {ka : Nat → Nat} {aa : Nat → Nat} {wa : Nat → Nat} {ra : Nat → Nat} {ma : Nat → Nat} {pa : Nat → Nat} {sd : Nat → Nat → Nat} {yd : Nat → Nat} {td : Nat → Nat} {ow : g_St} {nw : g_St} {kp : g_St} {ah : g_St} {aw : g_St} {rd : g_St} {md : g_St} {tp : g_St} {hh : g_Sf} {th : g_St} {tr : g_St} {val : Int32} (XX : Cx G A p s0 m meth c cc nL RX11 args) (I : Iv G A s0 H locs (bO G oa na ka aa ra pa sd yd td ow ++ (bV G na nw ++ (bV G ka kp ++ (bA G aa wa ah ++ (bV G wa aw ++ (bT G ra ma rd ++ (bV G ma md ++ (bP G pa tp ++ (bH G sd hh ++ (bY G yd td th ++ (bK G td tr ++ [])))))))))))) (hdg : decode cc pc = .ok (.putfield 331, 3)) (kk : ∀ (H1 : Heap) (locs1 : List Loc), Iv G A s0 H1 locs1 (bO G oa na ka aa ra pa sd yd td ow ++ (bV G na nw ++ (bV G ka kp ++ (bA G aa wa ah ++ (bV G wa aw ++ (bT G ra ma rd ++ (bV G ma md ++ (bP G pa tp ++ (bH G sd hh ++ (bY G yd td (si th 10 val) ++ (bK G td tr ++ []))))))))))) → W p l e R s0 m args below meth c H1 locs1 cells slots Q (F0 m (pc + 3) ls rest)) : W p l e R s0 m args below meth c H locs cells slots Q (F0 m pc ls (.int val :: .ref (yd 0) :: rest)) := r_put kfX4 XX I 113 rfl 2 (Nat.le_of_ble_eq_true rfl) wd_227 rfl (vp_nar_int val) rfl (Nat.le_of_ble_eq_true rfl) rfl hdg kk
set_option maxRecDepth 100000 in
theorem pO_X11_y19_n {p : Program} {l : Launch} {e : Env} {R : Room} {s0 : State} {m : MethodId} {args : Array Value} {below : List Frame} {meth : Method} {c : Code} {H : Heap} {locs : List Loc} {cells slots : Nat} {Q : State → Prop} {cc : ByteArray} {nL pc : Nat} {ls : Array Slot} {rest : List Value} {G : g_G} {A : Nat → Prop} {oa : Nat → Nat} {na : Nat → Nat} {ka : Nat → Nat} {aa : Nat → Nat} {wa : Nat → Nat} {ra : Nat → Nat} {ma : Nat → Nat} {pa : Nat → Nat} {sd : Nat → Nat → Nat} {yd : Nat → Nat} {td : Nat → Nat} {ow : g_St} {nw : g_St} {kp : g_St} {ah : g_St} {aw : g_St} {rd : g_St} {md : g_St} {tp : g_St} {hh : g_Sf} {th : g_St} {tr : g_St} {val : Int32} (XX : Cx G A p s0 m meth c cc nL RX11 args) (I : Iv G A s0 H locs (bO G oa na ka aa ra pa sd yd td ow ++ (bV G na nw ++ (bV G ka kp ++ (bA G aa wa ah ++ (bV G wa aw ++ (bT G ra ma rd ++ (bV G ma md ++ (bP G pa tp ++ (bH G sd hh ++ (bY G yd td th ++ (bK G td tr ++ [])))))))))))) (hdg : decode cc pc = .ok (.putfield 280, 3)) (kk : ∀ (H1 : Heap) (locs1 : List Loc), Iv G A s0 H1 locs1 (bO G oa na ka aa ra pa sd yd td ow ++ (bV G na nw ++ (bV G ka kp ++ (bA G aa wa ah ++ (bV G wa aw ++ (bT G ra ma rd ++ (bV G ma md ++ (bP G pa tp ++ (bH G sd hh ++ (bY G yd td (si th 1 val) ++ (bK G td tr ++ []))))))))))) → W p l e R s0 m args below meth c H1 locs1 cells slots Q (F0 m (pc + 3) ls rest)) : W p l e R s0 m args below meth c H locs cells slots Q (F0 m pc ls (.int val :: .ref (yd 1) :: rest)) := r_put kfX3 XX I 114 rfl 1 (Nat.le_of_ble_eq_true rfl) wd_221 rfl (vp_nar_int val) rfl (Nat.le_of_ble_eq_true rfl) rfl hdg kk
set_option maxRecDepth 100000 in
theorem pO_X11_y19_a {p : Program} {l : Launch} {e : Env} {R : Room} {s0 : State} {m : MethodId} {args : Array Value} {below : List Frame} {meth : Method} {c : Code} {H : Heap} {locs : List Loc} {cells slots : Nat} {Q : State → Prop} {cc : ByteArray} {nL pc : Nat} {ls : Array Slot} {rest : List Value} {G : g_G} {A : Nat → Prop} {oa : Nat → Nat} {na : Nat → Nat} {ka : Nat → Nat} {aa : Nat → Nat} {wa : Nat → Nat} {ra : Nat → Nat} {ma : Nat → Nat} {pa : Nat → Nat} {sd : Nat → Nat → Nat} {yd : Nat → Nat} {td : Nat → Nat} {ow : g_St} {nw : g_St} {kp : g_St} {ah : g_St} {aw : g_St} {rd : g_St} {md : g_St} {tp : g_St} {hh : g_Sf} {th : g_St} {tr : g_St} {val : Int32} (XX : Cx G A p s0 m meth c cc nL RX11 args) (I : Iv G A s0 H locs (bO G oa na ka aa ra pa sd yd td ow ++ (bV G na nw ++ (bV G ka kp ++ (bA G aa wa ah ++ (bV G wa aw ++ (bT G ra ma rd ++ (bV G ma md ++ (bP G pa tp ++ (bH G sd hh ++ (bY G yd td th ++ (bK G td tr ++ [])))))))))))) (hdg : decode cc pc = .ok (.putfield 331, 3)) (kk : ∀ (H1 : Heap) (locs1 : List Loc), Iv G A s0 H1 locs1 (bO G oa na ka aa ra pa sd yd td ow ++ (bV G na nw ++ (bV G ka kp ++ (bA G aa wa ah ++ (bV G wa aw ++ (bT G ra ma rd ++ (bV G ma md ++ (bP G pa tp ++ (bH G sd hh ++ (bY G yd td (si th 11 val) ++ (bK G td tr ++ []))))))))))) → W p l e R s0 m args below meth c H1 locs1 cells slots Q (F0 m (pc + 3) ls rest)) : W p l e R s0 m args below meth c H locs cells slots Q (F0 m pc ls (.int val :: .ref (yd 1) :: rest)) := r_put kfX3 XX I 114 rfl 2 (Nat.le_of_ble_eq_true rfl) wd_227 rfl (vp_nar_int val) rfl (Nat.le_of_ble_eq_true rfl) rfl hdg kk
set_option maxRecDepth 100000 in
theorem pO_X11_y29_n {p : Program} {l : Launch} {e : Env} {R : Room} {s0 : State} {m : MethodId} {args : Array Value} {below : List Frame} {meth : Method} {c : Code} {H : Heap} {locs : List Loc} {cells slots : Nat} {Q : State → Prop} {cc : ByteArray} {nL pc : Nat} {ls : Array Slot} {rest : List Value} {G : g_G} {A : Nat → Prop} {oa : Nat → Nat} {na : Nat → Nat} {ka : Nat → Nat} {aa : Nat → Nat} {wa : Nat → Nat} {ra : Nat → Nat} {ma : Nat → Nat} {pa : Nat → Nat} {sd : Nat → Nat → Nat} {yd : Nat → Nat} {td : Nat → Nat} {ow : g_St} {nw : g_St} {kp : g_St} {ah : g_St} {aw : g_St} {rd : g_St} {md : g_St} {tp : g_St} {hh : g_Sf} {th : g_St} {tr : g_St} {val : Int32} (XX : Cx G A p s0 m meth c cc nL RX11 args) (I : Iv G A s0 H locs (bO G oa na ka aa ra pa sd yd td ow ++ (bV G na nw ++ (bV G ka kp ++ (bA G aa wa ah ++ (bV G wa aw ++ (bT G ra ma rd ++ (bV G ma md ++ (bP G pa tp ++ (bH G sd hh ++ (bY G yd td th ++ (bK G td tr ++ [])))))))))))) (hdg : decode cc pc = .ok (.putfield 280, 3)) (kk : ∀ (H1 : Heap) (locs1 : List Loc), Iv G A s0 H1 locs1 (bO G oa na ka aa ra pa sd yd td ow ++ (bV G na nw ++ (bV G ka kp ++ (bA G aa wa ah ++ (bV G wa aw ++ (bT G ra ma rd ++ (bV G ma md ++ (bP G pa tp ++ (bH G sd hh ++ (bY G yd td (si th 2 val) ++ (bK G td tr ++ []))))))))))) → W p l e R s0 m args below meth c H1 locs1 cells slots Q (F0 m (pc + 3) ls rest)) : W p l e R s0 m args below meth c H locs cells slots Q (F0 m pc ls (.int val :: .ref (yd 2) :: rest)) := r_put kfX1 XX I 115 rfl 1 (Nat.le_of_ble_eq_true rfl) wd_221 rfl (vp_nar_int val) rfl (Nat.le_of_ble_eq_true rfl) rfl hdg kk
set_option maxRecDepth 100000 in
theorem pO_X11_y29_a {p : Program} {l : Launch} {e : Env} {R : Room} {s0 : State} {m : MethodId} {args : Array Value} {below : List Frame} {meth : Method} {c : Code} {H : Heap} {locs : List Loc} {cells slots : Nat} {Q : State → Prop} {cc : ByteArray} {nL pc : Nat} {ls : Array Slot} {rest : List Value} {G : g_G} {A : Nat → Prop} {oa : Nat → Nat} {na : Nat → Nat} {ka : Nat → Nat} {aa : Nat → Nat} {wa : Nat → Nat} {ra : Nat → Nat} {ma : Nat → Nat} {pa : Nat → Nat} {sd : Nat → Nat → Nat} {yd : Nat → Nat} {td : Nat → Nat} {ow : g_St} {nw : g_St} {kp : g_St} {ah : g_St} {aw : g_St} {rd : g_St} {md : g_St} {tp : g_St} {hh : g_Sf} {th : g_St} {tr : g_St} {val : Int32} (XX : Cx G A p s0 m meth c cc nL RX11 args) (I : Iv G A s0 H locs (bO G oa na ka aa ra pa sd yd td ow ++ (bV G na nw ++ (bV G ka kp ++ (bA G aa wa ah ++ (bV G wa aw ++ (bT G ra ma rd ++ (bV G ma md ++ (bP G pa tp ++ (bH G sd hh ++ (bY G yd td th ++ (bK G td tr ++ [])))))))))))) (hdg : decode cc pc = .ok (.putfield 331, 3)) (kk : ∀ (H1 : Heap) (locs1 : List Loc), Iv G A s0 H1 locs1 (bO G oa na ka aa ra pa sd yd td ow ++ (bV G na nw ++ (bV G ka kp ++ (bA G aa wa ah ++ (bV G wa aw ++ (bT G ra ma rd ++ (bV G ma md ++ (bP G pa tp ++ (bH G sd hh ++ (bY G yd td (si th 12 val) ++ (bK G td tr ++ []))))))))))) → W p l e R s0 m args below meth c H1 locs1 cells slots Q (F0 m (pc + 3) ls rest)) : W p l e R s0 m args below meth c H locs cells slots Q (F0 m pc ls (.int val :: .ref (yd 2) :: rest)) := r_put kfX1 XX I 115 rfl 2 (Nat.le_of_ble_eq_true rfl) wd_227 rfl (vp_nar_int val) rfl (Nat.le_of_ble_eq_true rfl) rfl hdg kk
set_option maxRecDepth 100000 in
theorem pO_X11_y39_n {p : Program} {l : Launch} {e : Env} {R : Room} {s0 : State} {m : MethodId} {args : Array Value} {below : List Frame} {meth : Method} {c : Code} {H : Heap} {locs : List Loc} {cells slots : Nat} {Q : State → Prop} {cc : ByteArray} {nL pc : Nat} {ls : Array Slot} {rest : List Value} {G : g_G} {A : Nat → Prop} {oa : Nat → Nat} {na : Nat → Nat} {ka : Nat → Nat} {aa : Nat → Nat} {wa : Nat → Nat} {ra : Nat → Nat} {ma : Nat → Nat} {pa : Nat → Nat} {sd : Nat → Nat → Nat} {yd : Nat → Nat} {td : Nat → Nat} {ow : g_St} {nw : g_St} {kp : g_St} {ah : g_St} {aw : g_St} {rd : g_St} {md : g_St} {tp : g_St} {hh : g_Sf} {th : g_St} {tr : g_St} {val : Int32} (XX : Cx G A p s0 m meth c cc nL RX11 args) (I : Iv G A s0 H locs (bO G oa na ka aa ra pa sd yd td ow ++ (bV G na nw ++ (bV G ka kp ++ (bA G aa wa ah ++ (bV G wa aw ++ (bT G ra ma rd ++ (bV G ma md ++ (bP G pa tp ++ (bH G sd hh ++ (bY G yd td th ++ (bK G td tr ++ [])))))))))))) (hdg : decode cc pc = .ok (.putfield 280, 3)) (kk : ∀ (H1 : Heap) (locs1 : List Loc), Iv G A s0 H1 locs1 (bO G oa na ka aa ra pa sd yd td ow ++ (bV G na nw ++ (bV G ka kp ++ (bA G aa wa ah ++ (bV G wa aw ++ (bT G ra ma rd ++ (bV G ma md ++ (bP G pa tp ++ (bH G sd hh ++ (bY G yd td (si th 3 val) ++ (bK G td tr ++ []))))))))))) → W p l e R s0 m args below meth c H1 locs1 cells slots Q (F0 m (pc + 3) ls rest)) : W p l e R s0 m args below meth c H locs cells slots Q (F0 m pc ls (.int val :: .ref (yd 3) :: rest)) := r_put kfX10 XX I 116 rfl 1 (Nat.le_of_ble_eq_true rfl) wd_221 rfl (vp_nar_int val) rfl (Nat.le_of_ble_eq_true rfl) rfl hdg kk
set_option maxRecDepth 100000 in
theorem pO_X11_y39_a {p : Program} {l : Launch} {e : Env} {R : Room} {s0 : State} {m : MethodId} {args : Array Value} {below : List Frame} {meth : Method} {c : Code} {H : Heap} {locs : List Loc} {cells slots : Nat} {Q : State → Prop} {cc : ByteArray} {nL pc : Nat} {ls : Array Slot} {rest : List Value} {G : g_G} {A : Nat → Prop} {oa : Nat → Nat} {na : Nat → Nat} {ka : Nat → Nat} {aa : Nat → Nat} {wa : Nat → Nat} {ra : Nat → Nat} {ma : Nat → Nat} {pa : Nat → Nat} {sd : Nat → Nat → Nat} {yd : Nat → Nat} {td : Nat → Nat} {ow : g_St} {nw : g_St} {kp : g_St} {ah : g_St} {aw : g_St} {rd : g_St} {md : g_St} {tp : g_St} {hh : g_Sf} {th : g_St} {tr : g_St} {val : Int32} (XX : Cx G A p s0 m meth c cc nL RX11 args) (I : Iv G A s0 H locs (bO G oa na ka aa ra pa sd yd td ow ++ (bV G na nw ++ (bV G ka kp ++ (bA G aa wa ah ++ (bV G wa aw ++ (bT G ra ma rd ++ (bV G ma md ++ (bP G pa tp ++ (bH G sd hh ++ (bY G yd td th ++ (bK G td tr ++ [])))))))))))) (hdg : decode cc pc = .ok (.putfield 331, 3)) (kk : ∀ (H1 : Heap) (locs1 : List Loc), Iv G A s0 H1 locs1 (bO G oa na ka aa ra pa sd yd td ow ++ (bV G na nw ++ (bV G ka kp ++ (bA G aa wa ah ++ (bV G wa aw ++ (bT G ra ma rd ++ (bV G ma md ++ (bP G pa tp ++ (bH G sd hh ++ (bY G yd td (si th 13 val) ++ (bK G td tr ++ []))))))))))) → W p l e R s0 m args below meth c H1 locs1 cells slots Q (F0 m (pc + 3) ls rest)) : W p l e R s0 m args below meth c H locs cells slots Q (F0 m pc ls (.int val :: .ref (yd 3) :: rest)) := r_put kfX10 XX I 116 rfl 2 (Nat.le_of_ble_eq_true rfl) wd_227 rfl (vp_nar_int val) rfl (Nat.le_of_ble_eq_true rfl) rfl hdg kk
set_option maxRecDepth 100000 in
theorem pO_X11_y49_n {p : Program} {l : Launch} {e : Env} {R : Room} {s0 : State} {m : MethodId} {args : Array Value} {below : List Frame} {meth : Method} {c : Code} {H : Heap} {locs : List Loc} {cells slots : Nat} {Q : State → Prop} {cc : ByteArray} {nL pc : Nat} {ls : Array Slot} {rest : List Value} {G : g_G} {A : Nat → Prop} {oa : Nat → Nat} {na : Nat → Nat} {ka : Nat → Nat} {aa : Nat → Nat} {wa : Nat → Nat} {ra : Nat → Nat} {ma : Nat → Nat} {pa : Nat → Nat} {sd : Nat → Nat → Nat} {yd : Nat → Nat} {td : Nat → Nat} {ow : g_St} {nw : g_St} {kp : g_St} {ah : g_St} {aw : g_St} {rd : g_St} {md : g_St} {tp : g_St} {hh : g_Sf} {th : g_St} {tr : g_St} {val : Int32} (XX : Cx G A p s0 m meth c cc nL RX11 args) (I : Iv G A s0 H locs (bO G oa na ka aa ra pa sd yd td ow ++ (bV G na nw ++ (bV G ka kp ++ (bA G aa wa ah ++ (bV G wa aw ++ (bT G ra ma rd ++ (bV G ma md ++ (bP G pa tp ++ (bH G sd hh ++ (bY G yd td th ++ (bK G td tr ++ [])))))))))))) (hdg : decode cc pc = .ok (.putfield 280, 3)) (kk : ∀ (H1 : Heap) (locs1 : List Loc), Iv G A s0 H1 locs1 (bO G oa na ka aa ra pa sd yd td ow ++ (bV G na nw ++ (bV G ka kp ++ (bA G aa wa ah ++ (bV G wa aw ++ (bT G ra ma rd ++ (bV G ma md ++ (bP G pa tp ++ (bH G sd hh ++ (bY G yd td (si th 4 val) ++ (bK G td tr ++ []))))))))))) → W p l e R s0 m args below meth c H1 locs1 cells slots Q (F0 m (pc + 3) ls rest)) : W p l e R s0 m args below meth c H locs cells slots Q (F0 m pc ls (.int val :: .ref (yd 4) :: rest)) := r_put kfX2 XX I 117 rfl 1 (Nat.le_of_ble_eq_true rfl) wd_221 rfl (vp_nar_int val) rfl (Nat.le_of_ble_eq_true rfl) rfl hdg kk
set_option maxRecDepth 100000 in
theorem pO_X11_y49_a {p : Program} {l : Launch} {e : Env} {R : Room} {s0 : State} {m : MethodId} {args : Array Value} {below : List Frame} {meth : Method} {c : Code} {H : Heap} {locs : List Loc} {cells slots : Nat} {Q : State → Prop} {cc : ByteArray} {nL pc : Nat} {ls : Array Slot} {rest : List Value} {G : g_G} {A : Nat → Prop} {oa : Nat → Nat} {na : Nat → Nat} {ka : Nat → Nat} {aa : Nat → Nat} {wa : Nat → Nat} {ra : Nat → Nat} {ma : Nat → Nat} {pa : Nat → Nat} {sd : Nat → Nat → Nat} {yd : Nat → Nat} {td : Nat → Nat} {ow : g_St} {nw : g_St} {kp : g_St} {ah : g_St} {aw : g_St} {rd : g_St} {md : g_St} {tp : g_St} {hh : g_Sf} {th : g_St} {tr : g_St} {val : Int32} (XX : Cx G A p s0 m meth c cc nL RX11 args) (I : Iv G A s0 H locs (bO G oa na ka aa ra pa sd yd td ow ++ (bV G na nw ++ (bV G ka kp ++ (bA G aa wa ah ++ (bV G wa aw ++ (bT G ra ma rd ++ (bV G ma md ++ (bP G pa tp ++ (bH G sd hh ++ (bY G yd td th ++ (bK G td tr ++ [])))))))))))) (hdg : decode cc pc = .ok (.putfield 331, 3)) (kk : ∀ (H1 : Heap) (locs1 : List Loc), Iv G A s0 H1 locs1 (bO G oa na ka aa ra pa sd yd td ow ++ (bV G na nw ++ (bV G ka kp ++ (bA G aa wa ah ++ (bV G wa aw ++ (bT G ra ma rd ++ (bV G ma md ++ (bP G pa tp ++ (bH G sd hh ++ (bY G yd td (si th 14 val) ++ (bK G td tr ++ []))))))))))) → W p l e R s0 m args below meth c H1 locs1 cells slots Q (F0 m (pc + 3) ls rest)) : W p l e R s0 m args below meth c H locs cells slots Q (F0 m pc ls (.int val :: .ref (yd 4) :: rest)) := r_put kfX2 XX I 117 rfl 2 (Nat.le_of_ble_eq_true rfl) wd_227 rfl (vp_nar_int val) rfl (Nat.le_of_ble_eq_true rfl) rfl hdg kk
set_option maxRecDepth 100000 in
theorem pO_X11_y59_n {p : Program} {l : Launch} {e : Env} {R : Room} {s0 : State} {m : MethodId} {args : Array Value} {below : List Frame} {meth : Method} {c : Code} {H : Heap} {locs : List Loc} {cells slots : Nat} {Q : State → Prop} {cc : ByteArray} {nL pc : Nat} {ls : Array Slot} {rest : List Value} {G : g_G} {A : Nat → Prop} {oa : Nat → Nat} {na : Nat → Nat} {ka : Nat → Nat} {aa : Nat → Nat} {wa : Nat → Nat} {ra : Nat → Nat} {ma : Nat → Nat} {pa : Nat → Nat} {sd : Nat → Nat → Nat} {yd : Nat → Nat} {td : Nat → Nat} {ow : g_St} {nw : g_St} {kp : g_St} {ah : g_St} {aw : g_St} {rd : g_St} {md : g_St} {tp : g_St} {hh : g_Sf} {th : g_St} {tr : g_St} {val : Int32} (XX : Cx G A p s0 m meth c cc nL RX11 args) (I : Iv G A s0 H locs (bO G oa na ka aa ra pa sd yd td ow ++ (bV G na nw ++ (bV G ka kp ++ (bA G aa wa ah ++ (bV G wa aw ++ (bT G ra ma rd ++ (bV G ma md ++ (bP G pa tp ++ (bH G sd hh ++ (bY G yd td th ++ (bK G td tr ++ [])))))))))))) (hdg : decode cc pc = .ok (.putfield 280, 3)) (kk : ∀ (H1 : Heap) (locs1 : List Loc), Iv G A s0 H1 locs1 (bO G oa na ka aa ra pa sd yd td ow ++ (bV G na nw ++ (bV G ka kp ++ (bA G aa wa ah ++ (bV G wa aw ++ (bT G ra ma rd ++ (bV G ma md ++ (bP G pa tp ++ (bH G sd hh ++ (bY G yd td (si th 5 val) ++ (bK G td tr ++ []))))))))))) → W p l e R s0 m args below meth c H1 locs1 cells slots Q (F0 m (pc + 3) ls rest)) : W p l e R s0 m args below meth c H locs cells slots Q (F0 m pc ls (.int val :: .ref (yd 5) :: rest)) := r_put kfX7 XX I 118 rfl 1 (Nat.le_of_ble_eq_true rfl) wd_221 rfl (vp_nar_int val) rfl (Nat.le_of_ble_eq_true rfl) rfl hdg kk
set_option maxRecDepth 100000 in
theorem pO_X11_y59_a {p : Program} {l : Launch} {e : Env} {R : Room} {s0 : State} {m : MethodId} {args : Array Value} {below : List Frame} {meth : Method} {c : Code} {H : Heap} {locs : List Loc} {cells slots : Nat} {Q : State → Prop} {cc : ByteArray} {nL pc : Nat} {ls : Array Slot} {rest : List Value} {G : g_G} {A : Nat → Prop} {oa : Nat → Nat} {na : Nat → Nat} {ka : Nat → Nat} {aa : Nat → Nat} {wa : Nat → Nat} {ra : Nat → Nat} {ma : Nat → Nat} {pa : Nat → Nat} {sd : Nat → Nat → Nat} {yd : Nat → Nat} {td : Nat → Nat} {ow : g_St} {nw : g_St} {kp : g_St} {ah : g_St} {aw : g_St} {rd : g_St} {md : g_St} {tp : g_St} {hh : g_Sf} {th : g_St} {tr : g_St} {val : Int32} (XX : Cx G A p s0 m meth c cc nL RX11 args) (I : Iv G A s0 H locs (bO G oa na ka aa ra pa sd yd td ow ++ (bV G na nw ++ (bV G ka kp ++ (bA G aa wa ah ++ (bV G wa aw ++ (bT G ra ma rd ++ (bV G ma md ++ (bP G pa tp ++ (bH G sd hh ++ (bY G yd td th ++ (bK G td tr ++ [])))))))))))) (hdg : decode cc pc = .ok (.putfield 331, 3)) (kk : ∀ (H1 : Heap) (locs1 : List Loc), Iv G A s0 H1 locs1 (bO G oa na ka aa ra pa sd yd td ow ++ (bV G na nw ++ (bV G ka kp ++ (bA G aa wa ah ++ (bV G wa aw ++ (bT G ra ma rd ++ (bV G ma md ++ (bP G pa tp ++ (bH G sd hh ++ (bY G yd td (si th 15 val) ++ (bK G td tr ++ []))))))))))) → W p l e R s0 m args below meth c H1 locs1 cells slots Q (F0 m (pc + 3) ls rest)) : W p l e R s0 m args below meth c H locs cells slots Q (F0 m pc ls (.int val :: .ref (yd 5) :: rest)) := r_put kfX7 XX I 118 rfl 2 (Nat.le_of_ble_eq_true rfl) wd_227 rfl (vp_nar_int val) rfl (Nat.le_of_ble_eq_true rfl) rfl hdg kk
set_option maxHeartbeats 4000000 in
set_option maxRecDepth 100000 in
theorem c_O_thingOn (l : Launch) (G : g_G) (OK : EOk G.2.2) (oa : Nat → Nat) (na : Nat → Nat) (ka : Nat → Nat) (aa : Nat → Nat) (wa : Nat → Nat) (ra : Nat → Nat) (ma : Nat → Nat) (pa : Nat → Nat) (sd : Nat → Nat → Nat) (yd : Nat → Nat) (td : Nat → Nat) (owa : g_St) (nwa : g_St) (kpa : g_St) (aha : g_St) (awa : g_St) (rda : g_St) (mda : g_St) (tpa : g_St) (hha : g_Sf) (tha : g_St) (tra : g_St) (x1 : Int32) (r : Option Nat) (tth : g_St) (h : f_O_thingOn owa nwa tha x1 = some (r, tth)) : HQ l G yX11_thingOn (Cond.code yX11_thingOn cX11_thingOn 4 (some (.object "LifeNoes$Sayer")) :: gT) { frames := 1, cells := 0, slots := 0, locals := 22 } [.ref (oa 0), .int x1] (bO G oa na ka aa ra pa sd yd td owa ++ (bV G na nwa ++ (bV G ka kpa ++ (bA G aa wa aha ++ (bV G wa awa ++ (bT G ra ma rda ++ (bV G ma mda ++ (bP G pa tpa ++ (bH G sd hha ++ (bY G yd td tha ++ (bK G td tra ++ []))))))))))) (Option.map yd r) (bO G oa na ka aa ra pa sd yd td owa ++ (bV G na nwa ++ (bV G ka kpa ++ (bA G aa wa aha ++ (bV G wa awa ++ (bT G ra ma rda ++ (bV G ma mda ++ (bP G pa tpa ++ (bH G sd hha ++ (bY G yd td tth ++ (bK G td tra ++ []))))))))))) := by
  refine HQ.mk (lv := [(0, .ref (oa 0)), (1, .int x1)]) OK (by decide) (Nat.le_of_ble_eq_true rfl) rfl ?_
  intro p e s0 m args below meth c ls XX hr I hl
  have hx := XX.x
  have hb := XX.b
  unfold f_O_thingOn at h
  refine lv_aload_n hx hb dX11_thingOn_0 rfl (lv_at hl 0 rfl) ?_
  refine gO_X11_o0_shelfHolds XX I dX11_thingOn_1 ?_
  refine lv_iload_n hx hb dX11_thingOn_4 rfl (lv_at hl 1 rfl) ?_
  obtain ⟨g1, h⟩ := gd_some h
  refine r_iald XX I 4 (aO_shelfHolds0) g1 dX11_thingOn_5 ?_
  refine lv_if_eq (tgt := 11) hx hb dX11_thingOn_6 (by decide) (fun c1 => ?_) (fun c1 => ?_)
  · replace h := if_t h c1
    refine lv_aload_n hx hb dX11_thingOn_11 rfl (lv_at hl 0 rfl) ?_
    refine gO_X11_o0_shelfNumber XX I dX11_thingOn_12 ?_
    refine lv_iload_n hx hb dX11_thingOn_15 rfl (lv_at hl 1 rfl) ?_
    obtain ⟨g2, h⟩ := gd_some h
    refine r_iald XX I 5 (aO_shelfNumber0) g2 dX11_thingOn_16 ?_
    refine lv_topi (fun y3 ey3 => ?_)
    replace h := lt_e h ey3
    refine lv_istore_n (lv' := [(2, .int y3), (0, .ref (oa 0)), (1, .int x1)]) hx hb dX11_thingOn_17 rfl hl (by decide) rfl (fun ls hl => ?_)
    refine lv_aload_n hx hb dX11_thingOn_18 rfl (lv_at hl 1 rfl) ?_
    refine lv_iload_n hx hb dX11_thingOn_19 rfl (lv_at hl 0 rfl) ?_
    refine wcall_i (rest := []) XX I hl.1 (c_O_isPerson l G OK oa na ka aa wa ra ma pa sd yd td owa nwa kpa aha awa rda mda tpa hha tha tra y3 _ rfl) kV_X11_131 (Rc.mk XX I (q0 := 0) (ci := 11) rfl rfl) rfl rfl (Nat.le_of_ble_eq_true rfl) ⟨rfl, rfl, Nat.le_of_ble_eq_true rfl, Nat.le_of_ble_eq_true rfl⟩ ⟨Nat.zero_le _, Nat.zero_le _⟩ dX11_thingOn_20 (fun H locs hz4 I => ?_)
    refine lv_if_eq (tgt := 43) hx hb dX11_thingOn_23 (by decide) (fun c1 => ?_) (fun c1 => ?_)
    · replace h := if_t h c1
      refine lv_null hx hb dX11_thingOn_43 ?_
      obtain ⟨rfl, rfl⟩ := some2 h
      exact e_q XX hr I rfl dX11_thingOn_44
    · replace h := if_f h c1
      refine lv_aload_n hx hb dX11_thingOn_26 rfl (lv_at hl 1 rfl) ?_
      refine gO_X11_o0_now XX I dX11_thingOn_27 ?_
      refine gO_X11_o1_kind XX I dX11_thingOn_30 ?_
      refine lv_iload_n hx hb dX11_thingOn_33 rfl (lv_at hl 0 rfl) ?_
      obtain ⟨g5, h⟩ := gd_some h
      refine r_iald XX I 33 (aO_kind1) g5 dX11_thingOn_34 ?_
      refine lv_iconst (v := 0) hx hb dX11_thingOn_35 (by decide) ?_
      refine lv_iconst (v := 5) hx hb dX11_thingOn_36 (by decide) ?_
      refine scall_i (rest := []) XX I hl.1 (c_S_within l G OK (gr nwa 1 y3.toNatClampNeg) (0 : Int32) (5 : Int32) _ rfl) kS_X11_103 rfl rfl (Nat.le_of_ble_eq_true rfl) ⟨rfl, rfl, Nat.le_of_ble_eq_true rfl, Nat.le_of_ble_eq_true rfl⟩ ⟨Nat.zero_le _, Nat.zero_le _⟩ dX11_thingOn_37 (fun H locs hz6 I => ?_)
      refine lv_if_ne (tgt := 45) hx hb dX11_thingOn_40 (by decide) (fun c1 => ?_) (fun c1 => ?_)
      · replace h := if_f h c1
        refine lv_aload_n hx hb dX11_thingOn_45 rfl (lv_at hl 1 rfl) ?_
        refine gO_X11_o0_things XX I dX11_thingOn_46 ?_
        refine lv_aload_n hx hb dX11_thingOn_49 rfl (lv_at hl 1 rfl) ?_
        refine gO_X11_o0_now XX I dX11_thingOn_50 ?_
        refine gO_X11_o1_kind XX I dX11_thingOn_53 ?_
        refine lv_iload_n hx hb dX11_thingOn_56 rfl (lv_at hl 0 rfl) ?_
        obtain ⟨g7, h⟩ := gd_some h
        refine r_iald XX I 33 (aO_kind1) g7 dX11_thingOn_57 ?_
        refine lv_topi (fun y8 ey8 => ?_)
        replace h := lt_e h ey8
        obtain ⟨g9, h⟩ := gd_some h
        by_cases qy0 : y8 = (0 : Int32)
        · replace h := if_t h qy0
          refine r_aaldO XX I 7 2 rfl rfl (v := .ref (yd 0)) (by rw [qy0]; rfl) g9 dX11_thingOn_58 ?_
          refine lv_astore_n (lv' := [(3, .ref (yd 0)), (2, .int y3), (0, .ref (oa 0)), (1, .int x1)]) hx hb dX11_thingOn_59 rfl hl (by decide) rfl (fun ls hl => ?_)
          refine lv_aload_n hx hb dX11_thingOn_60 rfl (lv_at hl 0 rfl) ?_
          refine lv_iload_n hx hb dX11_thingOn_61 rfl (lv_at hl 1 rfl) ?_
          refine pO_X11_y09_n XX I dX11_thingOn_62 (fun H locs I => ?_)
          obtain ⟨s10, es10⟩ : ∃ z, z = si tha 0 y3 := ⟨_, rfl⟩
          replace h := lt_e h es10
          replace I : Iv G (va_A (bO G oa na ka aa ra pa sd yd td owa ++ (bV G na nwa ++ (bV G ka kpa ++ (bA G aa wa aha ++ (bV G wa awa ++ (bT G ra ma rda ++ (bV G ma mda ++ (bP G pa tpa ++ (bH G sd hha ++ (bY G yd td tha ++ (bK G td tra ++ []))))))))))) s0.heap.size) s0 H locs (bO G oa na ka aa ra pa sd yd td owa ++ (bV G na nwa ++ (bV G ka kpa ++ (bA G aa wa aha ++ (bV G wa awa ++ (bT G ra ma rda ++ (bV G ma mda ++ (bP G pa tpa ++ (bH G sd hha ++ (bY G yd td s10 ++ (bK G td tra ++ []))))))))))) := by rw [es10]; exact I
          refine lv_aload_n hx hb dX11_thingOn_65 rfl (lv_at hl 0 rfl) ?_
          refine lv_aload_n hx hb dX11_thingOn_66 rfl (lv_at hl 2 rfl) ?_
          refine gO_X11_o0_now XX I dX11_thingOn_67 ?_
          refine gO_X11_o1_a XX I dX11_thingOn_70 ?_
          refine lv_iload_n hx hb dX11_thingOn_73 rfl (lv_at hl 1 rfl) ?_
          obtain ⟨g11, h⟩ := gd_some h
          refine r_iald XX I 34 (aO_a1) g11 dX11_thingOn_74 ?_
          refine lv_topi (fun y12 ey12 => ?_)
          replace h := lt_e h ey12
          refine pO_X11_y09_a XX I dX11_thingOn_75 (fun H locs I => ?_)
          obtain ⟨s13, es13⟩ : ∃ z, z = si s10 10 y12 := ⟨_, rfl⟩
          replace h := lt_e h es13
          replace I : Iv G (va_A (bO G oa na ka aa ra pa sd yd td owa ++ (bV G na nwa ++ (bV G ka kpa ++ (bA G aa wa aha ++ (bV G wa awa ++ (bT G ra ma rda ++ (bV G ma mda ++ (bP G pa tpa ++ (bH G sd hha ++ (bY G yd td tha ++ (bK G td tra ++ []))))))))))) s0.heap.size) s0 H locs (bO G oa na ka aa ra pa sd yd td owa ++ (bV G na nwa ++ (bV G ka kpa ++ (bA G aa wa aha ++ (bV G wa awa ++ (bT G ra ma rda ++ (bV G ma mda ++ (bP G pa tpa ++ (bH G sd hha ++ (bY G yd td s13 ++ (bK G td tra ++ []))))))))))) := by rw [es13]; exact I
          refine lv_aload_n hx hb dX11_thingOn_78 rfl (lv_at hl 0 rfl) ?_
          obtain ⟨rfl, rfl⟩ := some2 h
          exact e_q XX hr I rfl dX11_thingOn_79
        replace h := if_f h qy0
        by_cases qy1 : y8 = (1 : Int32)
        · replace h := if_t h qy1
          refine r_aaldO XX I 7 2 rfl rfl (v := .ref (yd 1)) (by rw [qy1]; rfl) g9 dX11_thingOn_58 ?_
          refine lv_astore_n (lv' := [(3, .ref (yd 1)), (2, .int y3), (0, .ref (oa 0)), (1, .int x1)]) hx hb dX11_thingOn_59 rfl hl (by decide) rfl (fun ls hl => ?_)
          refine lv_aload_n hx hb dX11_thingOn_60 rfl (lv_at hl 0 rfl) ?_
          refine lv_iload_n hx hb dX11_thingOn_61 rfl (lv_at hl 1 rfl) ?_
          refine pO_X11_y19_n XX I dX11_thingOn_62 (fun H locs I => ?_)
          obtain ⟨s14, es14⟩ : ∃ z, z = si tha 1 y3 := ⟨_, rfl⟩
          replace h := lt_e h es14
          replace I : Iv G (va_A (bO G oa na ka aa ra pa sd yd td owa ++ (bV G na nwa ++ (bV G ka kpa ++ (bA G aa wa aha ++ (bV G wa awa ++ (bT G ra ma rda ++ (bV G ma mda ++ (bP G pa tpa ++ (bH G sd hha ++ (bY G yd td tha ++ (bK G td tra ++ []))))))))))) s0.heap.size) s0 H locs (bO G oa na ka aa ra pa sd yd td owa ++ (bV G na nwa ++ (bV G ka kpa ++ (bA G aa wa aha ++ (bV G wa awa ++ (bT G ra ma rda ++ (bV G ma mda ++ (bP G pa tpa ++ (bH G sd hha ++ (bY G yd td s14 ++ (bK G td tra ++ []))))))))))) := by rw [es14]; exact I
          refine lv_aload_n hx hb dX11_thingOn_65 rfl (lv_at hl 0 rfl) ?_
          refine lv_aload_n hx hb dX11_thingOn_66 rfl (lv_at hl 2 rfl) ?_
          refine gO_X11_o0_now XX I dX11_thingOn_67 ?_
          refine gO_X11_o1_a XX I dX11_thingOn_70 ?_
          refine lv_iload_n hx hb dX11_thingOn_73 rfl (lv_at hl 1 rfl) ?_
          obtain ⟨g15, h⟩ := gd_some h
          refine r_iald XX I 34 (aO_a1) g15 dX11_thingOn_74 ?_
          refine lv_topi (fun y16 ey16 => ?_)
          replace h := lt_e h ey16
          refine pO_X11_y19_a XX I dX11_thingOn_75 (fun H locs I => ?_)
          obtain ⟨s17, es17⟩ : ∃ z, z = si s14 11 y16 := ⟨_, rfl⟩
          replace h := lt_e h es17
          replace I : Iv G (va_A (bO G oa na ka aa ra pa sd yd td owa ++ (bV G na nwa ++ (bV G ka kpa ++ (bA G aa wa aha ++ (bV G wa awa ++ (bT G ra ma rda ++ (bV G ma mda ++ (bP G pa tpa ++ (bH G sd hha ++ (bY G yd td tha ++ (bK G td tra ++ []))))))))))) s0.heap.size) s0 H locs (bO G oa na ka aa ra pa sd yd td owa ++ (bV G na nwa ++ (bV G ka kpa ++ (bA G aa wa aha ++ (bV G wa awa ++ (bT G ra ma rda ++ (bV G ma mda ++ (bP G pa tpa ++ (bH G sd hha ++ (bY G yd td s17 ++ (bK G td tra ++ []))))))))))) := by rw [es17]; exact I
          refine lv_aload_n hx hb dX11_thingOn_78 rfl (lv_at hl 0 rfl) ?_
          obtain ⟨rfl, rfl⟩ := some2 h
          exact e_q XX hr I rfl dX11_thingOn_79
        replace h := if_f h qy1
        by_cases qy2 : y8 = (2 : Int32)
        · replace h := if_t h qy2
          refine r_aaldO XX I 7 2 rfl rfl (v := .ref (yd 2)) (by rw [qy2]; rfl) g9 dX11_thingOn_58 ?_
          refine lv_astore_n (lv' := [(3, .ref (yd 2)), (2, .int y3), (0, .ref (oa 0)), (1, .int x1)]) hx hb dX11_thingOn_59 rfl hl (by decide) rfl (fun ls hl => ?_)
          refine lv_aload_n hx hb dX11_thingOn_60 rfl (lv_at hl 0 rfl) ?_
          refine lv_iload_n hx hb dX11_thingOn_61 rfl (lv_at hl 1 rfl) ?_
          refine pO_X11_y29_n XX I dX11_thingOn_62 (fun H locs I => ?_)
          obtain ⟨s18, es18⟩ : ∃ z, z = si tha 2 y3 := ⟨_, rfl⟩
          replace h := lt_e h es18
          replace I : Iv G (va_A (bO G oa na ka aa ra pa sd yd td owa ++ (bV G na nwa ++ (bV G ka kpa ++ (bA G aa wa aha ++ (bV G wa awa ++ (bT G ra ma rda ++ (bV G ma mda ++ (bP G pa tpa ++ (bH G sd hha ++ (bY G yd td tha ++ (bK G td tra ++ []))))))))))) s0.heap.size) s0 H locs (bO G oa na ka aa ra pa sd yd td owa ++ (bV G na nwa ++ (bV G ka kpa ++ (bA G aa wa aha ++ (bV G wa awa ++ (bT G ra ma rda ++ (bV G ma mda ++ (bP G pa tpa ++ (bH G sd hha ++ (bY G yd td s18 ++ (bK G td tra ++ []))))))))))) := by rw [es18]; exact I
          refine lv_aload_n hx hb dX11_thingOn_65 rfl (lv_at hl 0 rfl) ?_
          refine lv_aload_n hx hb dX11_thingOn_66 rfl (lv_at hl 2 rfl) ?_
          refine gO_X11_o0_now XX I dX11_thingOn_67 ?_
          refine gO_X11_o1_a XX I dX11_thingOn_70 ?_
          refine lv_iload_n hx hb dX11_thingOn_73 rfl (lv_at hl 1 rfl) ?_
          obtain ⟨g19, h⟩ := gd_some h
          refine r_iald XX I 34 (aO_a1) g19 dX11_thingOn_74 ?_
          refine lv_topi (fun y20 ey20 => ?_)
          replace h := lt_e h ey20
          refine pO_X11_y29_a XX I dX11_thingOn_75 (fun H locs I => ?_)
          obtain ⟨s21, es21⟩ : ∃ z, z = si s18 12 y20 := ⟨_, rfl⟩
          replace h := lt_e h es21
          replace I : Iv G (va_A (bO G oa na ka aa ra pa sd yd td owa ++ (bV G na nwa ++ (bV G ka kpa ++ (bA G aa wa aha ++ (bV G wa awa ++ (bT G ra ma rda ++ (bV G ma mda ++ (bP G pa tpa ++ (bH G sd hha ++ (bY G yd td tha ++ (bK G td tra ++ []))))))))))) s0.heap.size) s0 H locs (bO G oa na ka aa ra pa sd yd td owa ++ (bV G na nwa ++ (bV G ka kpa ++ (bA G aa wa aha ++ (bV G wa awa ++ (bT G ra ma rda ++ (bV G ma mda ++ (bP G pa tpa ++ (bH G sd hha ++ (bY G yd td s21 ++ (bK G td tra ++ []))))))))))) := by rw [es21]; exact I
          refine lv_aload_n hx hb dX11_thingOn_78 rfl (lv_at hl 0 rfl) ?_
          obtain ⟨rfl, rfl⟩ := some2 h
          exact e_q XX hr I rfl dX11_thingOn_79
        replace h := if_f h qy2
        by_cases qy3 : y8 = (3 : Int32)
        · replace h := if_t h qy3
          refine r_aaldO XX I 7 2 rfl rfl (v := .ref (yd 3)) (by rw [qy3]; rfl) g9 dX11_thingOn_58 ?_
          refine lv_astore_n (lv' := [(3, .ref (yd 3)), (2, .int y3), (0, .ref (oa 0)), (1, .int x1)]) hx hb dX11_thingOn_59 rfl hl (by decide) rfl (fun ls hl => ?_)
          refine lv_aload_n hx hb dX11_thingOn_60 rfl (lv_at hl 0 rfl) ?_
          refine lv_iload_n hx hb dX11_thingOn_61 rfl (lv_at hl 1 rfl) ?_
          refine pO_X11_y39_n XX I dX11_thingOn_62 (fun H locs I => ?_)
          obtain ⟨s22, es22⟩ : ∃ z, z = si tha 3 y3 := ⟨_, rfl⟩
          replace h := lt_e h es22
          replace I : Iv G (va_A (bO G oa na ka aa ra pa sd yd td owa ++ (bV G na nwa ++ (bV G ka kpa ++ (bA G aa wa aha ++ (bV G wa awa ++ (bT G ra ma rda ++ (bV G ma mda ++ (bP G pa tpa ++ (bH G sd hha ++ (bY G yd td tha ++ (bK G td tra ++ []))))))))))) s0.heap.size) s0 H locs (bO G oa na ka aa ra pa sd yd td owa ++ (bV G na nwa ++ (bV G ka kpa ++ (bA G aa wa aha ++ (bV G wa awa ++ (bT G ra ma rda ++ (bV G ma mda ++ (bP G pa tpa ++ (bH G sd hha ++ (bY G yd td s22 ++ (bK G td tra ++ []))))))))))) := by rw [es22]; exact I
          refine lv_aload_n hx hb dX11_thingOn_65 rfl (lv_at hl 0 rfl) ?_
          refine lv_aload_n hx hb dX11_thingOn_66 rfl (lv_at hl 2 rfl) ?_
          refine gO_X11_o0_now XX I dX11_thingOn_67 ?_
          refine gO_X11_o1_a XX I dX11_thingOn_70 ?_
          refine lv_iload_n hx hb dX11_thingOn_73 rfl (lv_at hl 1 rfl) ?_
          obtain ⟨g23, h⟩ := gd_some h
          refine r_iald XX I 34 (aO_a1) g23 dX11_thingOn_74 ?_
          refine lv_topi (fun y24 ey24 => ?_)
          replace h := lt_e h ey24
          refine pO_X11_y39_a XX I dX11_thingOn_75 (fun H locs I => ?_)
          obtain ⟨s25, es25⟩ : ∃ z, z = si s22 13 y24 := ⟨_, rfl⟩
          replace h := lt_e h es25
          replace I : Iv G (va_A (bO G oa na ka aa ra pa sd yd td owa ++ (bV G na nwa ++ (bV G ka kpa ++ (bA G aa wa aha ++ (bV G wa awa ++ (bT G ra ma rda ++ (bV G ma mda ++ (bP G pa tpa ++ (bH G sd hha ++ (bY G yd td tha ++ (bK G td tra ++ []))))))))))) s0.heap.size) s0 H locs (bO G oa na ka aa ra pa sd yd td owa ++ (bV G na nwa ++ (bV G ka kpa ++ (bA G aa wa aha ++ (bV G wa awa ++ (bT G ra ma rda ++ (bV G ma mda ++ (bP G pa tpa ++ (bH G sd hha ++ (bY G yd td s25 ++ (bK G td tra ++ []))))))))))) := by rw [es25]; exact I
          refine lv_aload_n hx hb dX11_thingOn_78 rfl (lv_at hl 0 rfl) ?_
          obtain ⟨rfl, rfl⟩ := some2 h
          exact e_q XX hr I rfl dX11_thingOn_79
        replace h := if_f h qy3
        by_cases qy4 : y8 = (4 : Int32)
        · replace h := if_t h qy4
          refine r_aaldO XX I 7 2 rfl rfl (v := .ref (yd 4)) (by rw [qy4]; rfl) g9 dX11_thingOn_58 ?_
          refine lv_astore_n (lv' := [(3, .ref (yd 4)), (2, .int y3), (0, .ref (oa 0)), (1, .int x1)]) hx hb dX11_thingOn_59 rfl hl (by decide) rfl (fun ls hl => ?_)
          refine lv_aload_n hx hb dX11_thingOn_60 rfl (lv_at hl 0 rfl) ?_
          refine lv_iload_n hx hb dX11_thingOn_61 rfl (lv_at hl 1 rfl) ?_
          refine pO_X11_y49_n XX I dX11_thingOn_62 (fun H locs I => ?_)
          obtain ⟨s26, es26⟩ : ∃ z, z = si tha 4 y3 := ⟨_, rfl⟩
          replace h := lt_e h es26
          replace I : Iv G (va_A (bO G oa na ka aa ra pa sd yd td owa ++ (bV G na nwa ++ (bV G ka kpa ++ (bA G aa wa aha ++ (bV G wa awa ++ (bT G ra ma rda ++ (bV G ma mda ++ (bP G pa tpa ++ (bH G sd hha ++ (bY G yd td tha ++ (bK G td tra ++ []))))))))))) s0.heap.size) s0 H locs (bO G oa na ka aa ra pa sd yd td owa ++ (bV G na nwa ++ (bV G ka kpa ++ (bA G aa wa aha ++ (bV G wa awa ++ (bT G ra ma rda ++ (bV G ma mda ++ (bP G pa tpa ++ (bH G sd hha ++ (bY G yd td s26 ++ (bK G td tra ++ []))))))))))) := by rw [es26]; exact I
          refine lv_aload_n hx hb dX11_thingOn_65 rfl (lv_at hl 0 rfl) ?_
          refine lv_aload_n hx hb dX11_thingOn_66 rfl (lv_at hl 2 rfl) ?_
          refine gO_X11_o0_now XX I dX11_thingOn_67 ?_
          refine gO_X11_o1_a XX I dX11_thingOn_70 ?_
          refine lv_iload_n hx hb dX11_thingOn_73 rfl (lv_at hl 1 rfl) ?_
          obtain ⟨g27, h⟩ := gd_some h
          refine r_iald XX I 34 (aO_a1) g27 dX11_thingOn_74 ?_
          refine lv_topi (fun y28 ey28 => ?_)
          replace h := lt_e h ey28
          refine pO_X11_y49_a XX I dX11_thingOn_75 (fun H locs I => ?_)
          obtain ⟨s29, es29⟩ : ∃ z, z = si s26 14 y28 := ⟨_, rfl⟩
          replace h := lt_e h es29
          replace I : Iv G (va_A (bO G oa na ka aa ra pa sd yd td owa ++ (bV G na nwa ++ (bV G ka kpa ++ (bA G aa wa aha ++ (bV G wa awa ++ (bT G ra ma rda ++ (bV G ma mda ++ (bP G pa tpa ++ (bH G sd hha ++ (bY G yd td tha ++ (bK G td tra ++ []))))))))))) s0.heap.size) s0 H locs (bO G oa na ka aa ra pa sd yd td owa ++ (bV G na nwa ++ (bV G ka kpa ++ (bA G aa wa aha ++ (bV G wa awa ++ (bT G ra ma rda ++ (bV G ma mda ++ (bP G pa tpa ++ (bH G sd hha ++ (bY G yd td s29 ++ (bK G td tra ++ []))))))))))) := by rw [es29]; exact I
          refine lv_aload_n hx hb dX11_thingOn_78 rfl (lv_at hl 0 rfl) ?_
          obtain ⟨rfl, rfl⟩ := some2 h
          exact e_q XX hr I rfl dX11_thingOn_79
        replace h := if_f h qy4
        by_cases qy5 : y8 = (5 : Int32)
        · replace h := if_t h qy5
          refine r_aaldO XX I 7 2 rfl rfl (v := .ref (yd 5)) (by rw [qy5]; rfl) g9 dX11_thingOn_58 ?_
          refine lv_astore_n (lv' := [(3, .ref (yd 5)), (2, .int y3), (0, .ref (oa 0)), (1, .int x1)]) hx hb dX11_thingOn_59 rfl hl (by decide) rfl (fun ls hl => ?_)
          refine lv_aload_n hx hb dX11_thingOn_60 rfl (lv_at hl 0 rfl) ?_
          refine lv_iload_n hx hb dX11_thingOn_61 rfl (lv_at hl 1 rfl) ?_
          refine pO_X11_y59_n XX I dX11_thingOn_62 (fun H locs I => ?_)
          obtain ⟨s30, es30⟩ : ∃ z, z = si tha 5 y3 := ⟨_, rfl⟩
          replace h := lt_e h es30
          replace I : Iv G (va_A (bO G oa na ka aa ra pa sd yd td owa ++ (bV G na nwa ++ (bV G ka kpa ++ (bA G aa wa aha ++ (bV G wa awa ++ (bT G ra ma rda ++ (bV G ma mda ++ (bP G pa tpa ++ (bH G sd hha ++ (bY G yd td tha ++ (bK G td tra ++ []))))))))))) s0.heap.size) s0 H locs (bO G oa na ka aa ra pa sd yd td owa ++ (bV G na nwa ++ (bV G ka kpa ++ (bA G aa wa aha ++ (bV G wa awa ++ (bT G ra ma rda ++ (bV G ma mda ++ (bP G pa tpa ++ (bH G sd hha ++ (bY G yd td s30 ++ (bK G td tra ++ []))))))))))) := by rw [es30]; exact I
          refine lv_aload_n hx hb dX11_thingOn_65 rfl (lv_at hl 0 rfl) ?_
          refine lv_aload_n hx hb dX11_thingOn_66 rfl (lv_at hl 2 rfl) ?_
          refine gO_X11_o0_now XX I dX11_thingOn_67 ?_
          refine gO_X11_o1_a XX I dX11_thingOn_70 ?_
          refine lv_iload_n hx hb dX11_thingOn_73 rfl (lv_at hl 1 rfl) ?_
          obtain ⟨g31, h⟩ := gd_some h
          refine r_iald XX I 34 (aO_a1) g31 dX11_thingOn_74 ?_
          refine lv_topi (fun y32 ey32 => ?_)
          replace h := lt_e h ey32
          refine pO_X11_y59_a XX I dX11_thingOn_75 (fun H locs I => ?_)
          obtain ⟨s33, es33⟩ : ∃ z, z = si s30 15 y32 := ⟨_, rfl⟩
          replace h := lt_e h es33
          replace I : Iv G (va_A (bO G oa na ka aa ra pa sd yd td owa ++ (bV G na nwa ++ (bV G ka kpa ++ (bA G aa wa aha ++ (bV G wa awa ++ (bT G ra ma rda ++ (bV G ma mda ++ (bP G pa tpa ++ (bH G sd hha ++ (bY G yd td tha ++ (bK G td tra ++ []))))))))))) s0.heap.size) s0 H locs (bO G oa na ka aa ra pa sd yd td owa ++ (bV G na nwa ++ (bV G ka kpa ++ (bA G aa wa aha ++ (bV G wa awa ++ (bT G ra ma rda ++ (bV G ma mda ++ (bP G pa tpa ++ (bH G sd hha ++ (bY G yd td s33 ++ (bK G td tra ++ []))))))))))) := by rw [es33]; exact I
          refine lv_aload_n hx hb dX11_thingOn_78 rfl (lv_at hl 0 rfl) ?_
          obtain ⟨rfl, rfl⟩ := some2 h
          exact e_q XX hr I rfl dX11_thingOn_79
        replace h := if_f h qy5
        exact absurd h (fun q => by cases q)
      · replace h := if_t h c1
        refine lv_null hx hb dX11_thingOn_43 ?_
        obtain ⟨rfl, rfl⟩ := some2 h
        exact e_q XX hr I rfl dX11_thingOn_44
  · replace h := if_f h c1
    refine lv_null hx hb dX11_thingOn_9 ?_
    obtain ⟨rfl, rfl⟩ := some2 h
    exact e_q XX hr I rfl dX11_thingOn_10
set_option maxHeartbeats 4000000 in
set_option maxRecDepth 100000 in
theorem c_Y_isUnder_y0 (l : Launch) (G : g_G) (OK : EOk G.2.2) (hXI : HXI G) (yd : Nat → Nat) (td : Nat → Nat) (tha : g_St) (tra : g_St) (x1 : Int32) (r : Int32) (h : f_Y_isUnder_y0 x1 = r) : HI l G yX11_isUnder (Cond.code yX11_isUnder cX11_isUnder 2 (some .boolean) :: gT) { frames := 0, cells := 0, slots := 0, locals := 0 } .boolean [.ref (yd 0), .int x1] (bY G yd td tha ++ (bK G td tra ++ [])) r (bY G yd td tha ++ (bK G td tra ++ [])) := by
  refine HI.mk (lv := [(0, .ref (yd 0)), (1, .int x1)]) OK (by decide) (Nat.le_of_ble_eq_true rfl) rfl ?_
  intro p e s0 m args below meth c ls XX hr I hl
  have hx := XX.x
  have hb := XX.b
  have E2 := hXI _ _ _ XX.E
  unfold f_Y_isUnder_y0 at h
  refine lv_iload_n hx hb dX11_isUnder_0 rfl (lv_at hl 1 rfl) ?_
  by_cases q0 : x1 = (0 : Int32)
  · replace h := if_t h q0
    refine lv_tableIn (tgt := 40) (off := 39) hx hb dX11_isUnder_1 (by rw [q0]; decide) (by rw [q0]; decide) (by rw [q0]; rfl) (by decide) ?_
    refine lv_iconst (v := 1) hx hb dX11_isUnder_40 (by decide) ?_
    subst h
    exact e_z XX hr I rfl rfl dX11_isUnder_41
  replace h := if_f h q0
  by_cases q1 : x1 = (1 : Int32)
  · replace h := if_t h q1
    refine lv_tableIn (tgt := 42) (off := 41) hx hb dX11_isUnder_1 (by rw [q1]; decide) (by rw [q1]; decide) (by rw [q1]; rfl) (by decide) ?_
    refine lv_aload_n hx hb dX11_isUnder_42 rfl (lv_at hl 0 rfl) ?_
    refine va_instNo hx hb XX.o (XX.t _ wd_235) (E2.2.2 _ (List.mem_of_getElem? (i := 0) rfl)) (Rc.mk XX I (q0 := 0) (ci := 4) rfl rfl) dX11_isUnder_43 ?_
    subst h
    exact e_z XX hr I rfl rfl dX11_isUnder_46
  replace h := if_f h q1
  by_cases q2 : x1 = (2 : Int32)
  · replace h := if_t h q2
    refine lv_tableIn (tgt := 47) (off := 46) hx hb dX11_isUnder_1 (by rw [q2]; decide) (by rw [q2]; decide) (by rw [q2]; rfl) (by decide) ?_
    refine lv_aload_n hx hb dX11_isUnder_47 rfl (lv_at hl 0 rfl) ?_
    refine va_instNo hx hb XX.o (XX.t _ wd_245) (E2.2.2 _ (List.mem_of_getElem? (i := 1) rfl)) (Rc.mk XX I (q0 := 0) (ci := 4) rfl rfl) dX11_isUnder_48 ?_
    subst h
    exact e_z XX hr I rfl rfl dX11_isUnder_51
  replace h := if_f h q2
  by_cases q3 : x1 = (3 : Int32)
  · replace h := if_t h q3
    refine lv_tableIn (tgt := 52) (off := 51) hx hb dX11_isUnder_1 (by rw [q3]; decide) (by rw [q3]; decide) (by rw [q3]; rfl) (by decide) ?_
    refine lv_aload_n hx hb dX11_isUnder_52 rfl (lv_at hl 0 rfl) ?_
    refine va_instNo hx hb XX.o (XX.t _ wd_255) (E2.2.2 _ (List.mem_of_getElem? (i := 2) rfl)) (Rc.mk XX I (q0 := 0) (ci := 4) rfl rfl) dX11_isUnder_53 ?_
    subst h
    exact e_z XX hr I rfl rfl dX11_isUnder_56
  replace h := if_f h q3
  by_cases q4 : x1 = (4 : Int32)
  · replace h := if_t h q4
    refine lv_tableIn (tgt := 57) (off := 56) hx hb dX11_isUnder_1 (by rw [q4]; decide) (by rw [q4]; decide) (by rw [q4]; rfl) (by decide) ?_
    refine lv_aload_n hx hb dX11_isUnder_57 rfl (lv_at hl 0 rfl) ?_
    refine va_instNo hx hb XX.o (XX.t _ wd_265) (E2.2.2 _ (List.mem_of_getElem? (i := 3) rfl)) (Rc.mk XX I (q0 := 0) (ci := 4) rfl rfl) dX11_isUnder_58 ?_
    subst h
    exact e_z XX hr I rfl rfl dX11_isUnder_61
  replace h := if_f h q4
  by_cases q5 : x1 = (5 : Int32)
  · replace h := if_t h q5
    refine lv_tableIn (tgt := 62) (off := 61) hx hb dX11_isUnder_1 (by rw [q5]; decide) (by rw [q5]; decide) (by rw [q5]; rfl) (by decide) ?_
    refine lv_aload_n hx hb dX11_isUnder_62 rfl (lv_at hl 0 rfl) ?_
    refine va_instNo hx hb XX.o (XX.t _ wd_275) (E2.2.2 _ (List.mem_of_getElem? (i := 4) rfl)) (Rc.mk XX I (q0 := 0) (ci := 4) rfl rfl) dX11_isUnder_63 ?_
    subst h
    exact e_z XX hr I rfl rfl dX11_isUnder_66
  replace h := if_f h q5
  refine lv_tableOut (tgt := 67) hx hb dX11_isUnder_1 (tab_out (lo := 0) (hi := 5) (fun k k1 k2 => by rcases (show k = 0 ∨ k = 1 ∨ k = 2 ∨ k = 3 ∨ k = 4 ∨ k = 5 by omega) with rfl | rfl | rfl | rfl | rfl | rfl <;> assumption)) (by decide) ?_
  refine lv_iconst (v := 0) hx hb dX11_isUnder_67 (by decide) ?_
  subst h
  exact e_z XX hr I rfl rfl dX11_isUnder_68
set_option maxHeartbeats 4000000 in
set_option maxRecDepth 100000 in
theorem c_Y_isUnder_y1 (l : Launch) (G : g_G) (OK : EOk G.2.2) (hXI : HXI G) (yd : Nat → Nat) (td : Nat → Nat) (tha : g_St) (tra : g_St) (x1 : Int32) (r : Int32) (h : f_Y_isUnder_y1 x1 = r) : HI l G yX11_isUnder (Cond.code yX11_isUnder cX11_isUnder 2 (some .boolean) :: gT) { frames := 0, cells := 0, slots := 0, locals := 0 } .boolean [.ref (yd 1), .int x1] (bY G yd td tha ++ (bK G td tra ++ [])) r (bY G yd td tha ++ (bK G td tra ++ [])) := by
  refine HI.mk (lv := [(0, .ref (yd 1)), (1, .int x1)]) OK (by decide) (Nat.le_of_ble_eq_true rfl) rfl ?_
  intro p e s0 m args below meth c ls XX hr I hl
  have hx := XX.x
  have hb := XX.b
  have E2 := hXI _ _ _ XX.E
  unfold f_Y_isUnder_y1 at h
  refine lv_iload_n hx hb dX11_isUnder_0 rfl (lv_at hl 1 rfl) ?_
  by_cases q0 : x1 = (0 : Int32)
  · replace h := if_t h q0
    refine lv_tableIn (tgt := 40) (off := 39) hx hb dX11_isUnder_1 (by rw [q0]; decide) (by rw [q0]; decide) (by rw [q0]; rfl) (by decide) ?_
    refine lv_iconst (v := 1) hx hb dX11_isUnder_40 (by decide) ?_
    subst h
    exact e_z XX hr I rfl rfl dX11_isUnder_41
  replace h := if_f h q0
  by_cases q1 : x1 = (1 : Int32)
  · replace h := if_t h q1
    refine lv_tableIn (tgt := 42) (off := 41) hx hb dX11_isUnder_1 (by rw [q1]; decide) (by rw [q1]; decide) (by rw [q1]; rfl) (by decide) ?_
    refine lv_aload_n hx hb dX11_isUnder_42 rfl (lv_at hl 0 rfl) ?_
    refine va_instS hx hb XX.o (XX.t _ wd_235) (XX.at 3 rfl) (Rc.mk XX I (q0 := 1) (ci := 3) rfl rfl) dX11_isUnder_43 ?_
    subst h
    exact e_z XX hr I rfl rfl dX11_isUnder_46
  replace h := if_f h q1
  by_cases q2 : x1 = (2 : Int32)
  · replace h := if_t h q2
    refine lv_tableIn (tgt := 47) (off := 46) hx hb dX11_isUnder_1 (by rw [q2]; decide) (by rw [q2]; decide) (by rw [q2]; rfl) (by decide) ?_
    refine lv_aload_n hx hb dX11_isUnder_47 rfl (lv_at hl 0 rfl) ?_
    refine va_instNo hx hb XX.o (XX.t _ wd_245) (E2.2.2 _ (List.mem_of_getElem? (i := 5) rfl)) (Rc.mk XX I (q0 := 1) (ci := 3) rfl rfl) dX11_isUnder_48 ?_
    subst h
    exact e_z XX hr I rfl rfl dX11_isUnder_51
  replace h := if_f h q2
  by_cases q3 : x1 = (3 : Int32)
  · replace h := if_t h q3
    refine lv_tableIn (tgt := 52) (off := 51) hx hb dX11_isUnder_1 (by rw [q3]; decide) (by rw [q3]; decide) (by rw [q3]; rfl) (by decide) ?_
    refine lv_aload_n hx hb dX11_isUnder_52 rfl (lv_at hl 0 rfl) ?_
    refine va_instNo hx hb XX.o (XX.t _ wd_255) (E2.2.2 _ (List.mem_of_getElem? (i := 6) rfl)) (Rc.mk XX I (q0 := 1) (ci := 3) rfl rfl) dX11_isUnder_53 ?_
    subst h
    exact e_z XX hr I rfl rfl dX11_isUnder_56
  replace h := if_f h q3
  by_cases q4 : x1 = (4 : Int32)
  · replace h := if_t h q4
    refine lv_tableIn (tgt := 57) (off := 56) hx hb dX11_isUnder_1 (by rw [q4]; decide) (by rw [q4]; decide) (by rw [q4]; rfl) (by decide) ?_
    refine lv_aload_n hx hb dX11_isUnder_57 rfl (lv_at hl 0 rfl) ?_
    refine va_instNo hx hb XX.o (XX.t _ wd_265) (E2.2.2 _ (List.mem_of_getElem? (i := 7) rfl)) (Rc.mk XX I (q0 := 1) (ci := 3) rfl rfl) dX11_isUnder_58 ?_
    subst h
    exact e_z XX hr I rfl rfl dX11_isUnder_61
  replace h := if_f h q4
  by_cases q5 : x1 = (5 : Int32)
  · replace h := if_t h q5
    refine lv_tableIn (tgt := 62) (off := 61) hx hb dX11_isUnder_1 (by rw [q5]; decide) (by rw [q5]; decide) (by rw [q5]; rfl) (by decide) ?_
    refine lv_aload_n hx hb dX11_isUnder_62 rfl (lv_at hl 0 rfl) ?_
    refine va_instNo hx hb XX.o (XX.t _ wd_275) (E2.2.2 _ (List.mem_of_getElem? (i := 8) rfl)) (Rc.mk XX I (q0 := 1) (ci := 3) rfl rfl) dX11_isUnder_63 ?_
    subst h
    exact e_z XX hr I rfl rfl dX11_isUnder_66
  replace h := if_f h q5
  refine lv_tableOut (tgt := 67) hx hb dX11_isUnder_1 (tab_out (lo := 0) (hi := 5) (fun k k1 k2 => by rcases (show k = 0 ∨ k = 1 ∨ k = 2 ∨ k = 3 ∨ k = 4 ∨ k = 5 by omega) with rfl | rfl | rfl | rfl | rfl | rfl <;> assumption)) (by decide) ?_
  refine lv_iconst (v := 0) hx hb dX11_isUnder_67 (by decide) ?_
  subst h
  exact e_z XX hr I rfl rfl dX11_isUnder_68
set_option maxHeartbeats 4000000 in
set_option maxRecDepth 100000 in
theorem c_Y_isUnder_y2 (l : Launch) (G : g_G) (OK : EOk G.2.2) (hXI : HXI G) (yd : Nat → Nat) (td : Nat → Nat) (tha : g_St) (tra : g_St) (x1 : Int32) (r : Int32) (h : f_Y_isUnder_y2 x1 = r) : HI l G yX11_isUnder (Cond.code yX11_isUnder cX11_isUnder 2 (some .boolean) :: gT) { frames := 0, cells := 0, slots := 0, locals := 0 } .boolean [.ref (yd 2), .int x1] (bY G yd td tha ++ (bK G td tra ++ [])) r (bY G yd td tha ++ (bK G td tra ++ [])) := by
  refine HI.mk (lv := [(0, .ref (yd 2)), (1, .int x1)]) OK (by decide) (Nat.le_of_ble_eq_true rfl) rfl ?_
  intro p e s0 m args below meth c ls XX hr I hl
  have hx := XX.x
  have hb := XX.b
  have E2 := hXI _ _ _ XX.E
  unfold f_Y_isUnder_y2 at h
  refine lv_iload_n hx hb dX11_isUnder_0 rfl (lv_at hl 1 rfl) ?_
  by_cases q0 : x1 = (0 : Int32)
  · replace h := if_t h q0
    refine lv_tableIn (tgt := 40) (off := 39) hx hb dX11_isUnder_1 (by rw [q0]; decide) (by rw [q0]; decide) (by rw [q0]; rfl) (by decide) ?_
    refine lv_iconst (v := 1) hx hb dX11_isUnder_40 (by decide) ?_
    subst h
    exact e_z XX hr I rfl rfl dX11_isUnder_41
  replace h := if_f h q0
  by_cases q1 : x1 = (1 : Int32)
  · replace h := if_t h q1
    refine lv_tableIn (tgt := 42) (off := 41) hx hb dX11_isUnder_1 (by rw [q1]; decide) (by rw [q1]; decide) (by rw [q1]; rfl) (by decide) ?_
    refine lv_aload_n hx hb dX11_isUnder_42 rfl (lv_at hl 0 rfl) ?_
    refine va_instNo hx hb XX.o (XX.t _ wd_235) (E2.2.2 _ (List.mem_of_getElem? (i := 9) rfl)) (Rc.mk XX I (q0 := 2) (ci := 1) rfl rfl) dX11_isUnder_43 ?_
    subst h
    exact e_z XX hr I rfl rfl dX11_isUnder_46
  replace h := if_f h q1
  by_cases q2 : x1 = (2 : Int32)
  · replace h := if_t h q2
    refine lv_tableIn (tgt := 47) (off := 46) hx hb dX11_isUnder_1 (by rw [q2]; decide) (by rw [q2]; decide) (by rw [q2]; rfl) (by decide) ?_
    refine lv_aload_n hx hb dX11_isUnder_47 rfl (lv_at hl 0 rfl) ?_
    refine va_instS hx hb XX.o (XX.t _ wd_245) (XX.at 1 rfl) (Rc.mk XX I (q0 := 2) (ci := 1) rfl rfl) dX11_isUnder_48 ?_
    subst h
    exact e_z XX hr I rfl rfl dX11_isUnder_51
  replace h := if_f h q2
  by_cases q3 : x1 = (3 : Int32)
  · replace h := if_t h q3
    refine lv_tableIn (tgt := 52) (off := 51) hx hb dX11_isUnder_1 (by rw [q3]; decide) (by rw [q3]; decide) (by rw [q3]; rfl) (by decide) ?_
    refine lv_aload_n hx hb dX11_isUnder_52 rfl (lv_at hl 0 rfl) ?_
    refine va_instNo hx hb XX.o (XX.t _ wd_255) (E2.2.2 _ (List.mem_of_getElem? (i := 10) rfl)) (Rc.mk XX I (q0 := 2) (ci := 1) rfl rfl) dX11_isUnder_53 ?_
    subst h
    exact e_z XX hr I rfl rfl dX11_isUnder_56
  replace h := if_f h q3
  by_cases q4 : x1 = (4 : Int32)
  · replace h := if_t h q4
    refine lv_tableIn (tgt := 57) (off := 56) hx hb dX11_isUnder_1 (by rw [q4]; decide) (by rw [q4]; decide) (by rw [q4]; rfl) (by decide) ?_
    refine lv_aload_n hx hb dX11_isUnder_57 rfl (lv_at hl 0 rfl) ?_
    refine va_instNo hx hb XX.o (XX.t _ wd_265) (E2.2.2 _ (List.mem_of_getElem? (i := 11) rfl)) (Rc.mk XX I (q0 := 2) (ci := 1) rfl rfl) dX11_isUnder_58 ?_
    subst h
    exact e_z XX hr I rfl rfl dX11_isUnder_61
  replace h := if_f h q4
  by_cases q5 : x1 = (5 : Int32)
  · replace h := if_t h q5
    refine lv_tableIn (tgt := 62) (off := 61) hx hb dX11_isUnder_1 (by rw [q5]; decide) (by rw [q5]; decide) (by rw [q5]; rfl) (by decide) ?_
    refine lv_aload_n hx hb dX11_isUnder_62 rfl (lv_at hl 0 rfl) ?_
    refine va_instNo hx hb XX.o (XX.t _ wd_275) (E2.2.2 _ (List.mem_of_getElem? (i := 12) rfl)) (Rc.mk XX I (q0 := 2) (ci := 1) rfl rfl) dX11_isUnder_63 ?_
    subst h
    exact e_z XX hr I rfl rfl dX11_isUnder_66
  replace h := if_f h q5
  refine lv_tableOut (tgt := 67) hx hb dX11_isUnder_1 (tab_out (lo := 0) (hi := 5) (fun k k1 k2 => by rcases (show k = 0 ∨ k = 1 ∨ k = 2 ∨ k = 3 ∨ k = 4 ∨ k = 5 by omega) with rfl | rfl | rfl | rfl | rfl | rfl <;> assumption)) (by decide) ?_
  refine lv_iconst (v := 0) hx hb dX11_isUnder_67 (by decide) ?_
  subst h
  exact e_z XX hr I rfl rfl dX11_isUnder_68
