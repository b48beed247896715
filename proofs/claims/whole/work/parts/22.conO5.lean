set_option maxRecDepth 100000 in
theorem gO_X11_o10_count {p : Program} {l : Launch} {e : Env} {R : Room} {s0 : State} {m : MethodId} {args : Array Value} {below : List Frame} {meth : Method} {c : Code} {H : Heap} {locs : List Loc} {cells slots : Nat} {Q : State → Prop} {cc : ByteArray} {nL pc : Nat} {ls : Array Slot} {rest : List Value} {G : g_G} {A : Nat → Prop} {oa : Nat → Nat} {na : Nat → Nat} {ka : Nat → Nat} {aa : Nat → Nat} {wa : Nat → Nat} {ra : Nat → Nat} {ma : Nat → Nat} {pa : Nat → Nat} {sd : Nat → Nat → Nat} {yd : Nat → Nat} {td : Nat → Nat} {ow : g_St} {nw : g_St} {kp : g_St} {ah : g_St} {aw : g_St} {rd : g_St} {md : g_St} {tp : g_St} {hh : g_Sf} {th : g_St} {tr : g_St} (XX : Cx G A p s0 m meth c cc nL RX11 args) (I : Iv G A s0 H locs (bO G oa na ka aa ra pa sd yd td ow ++ (bV G na nw ++ (bV G ka kp ++ (bA G aa wa ah ++ (bV G wa aw ++ (bT G ra ma rd ++ (bV G ma md ++ (bP G pa tp ++ (bH G sd hh ++ (bY G yd td th ++ (bK G td tr ++ [])))))))))))) (hdg : decode cc pc = .ok (.getfield 301, 3)) (kk : W p l e R s0 m args below meth c H locs cells slots Q (F0 m (pc + 3) ls (.int (gi tr 1) :: rest))) : W p l e R s0 m args below meth c H locs cells slots Q (F0 m pc ls (.ref (td 0) :: rest)) := r_get kfX8 XX I 119 rfl 1 (Nat.le_of_ble_eq_true rfl) wd_186 rfl hdg kk
set_option maxRecDepth 100000 in
theorem gO_X11_o10_numbers {p : Program} {l : Launch} {e : Env} {R : Room} {s0 : State} {m : MethodId} {args : Array Value} {below : List Frame} {meth : Method} {c : Code} {H : Heap} {locs : List Loc} {cells slots : Nat} {Q : State → Prop} {cc : ByteArray} {nL pc : Nat} {ls : Array Slot} {rest : List Value} {G : g_G} {A : Nat → Prop} {oa : Nat → Nat} {na : Nat → Nat} {ka : Nat → Nat} {aa : Nat → Nat} {wa : Nat → Nat} {ra : Nat → Nat} {ma : Nat → Nat} {pa : Nat → Nat} {sd : Nat → Nat → Nat} {yd : Nat → Nat} {td : Nat → Nat} {ow : g_St} {nw : g_St} {kp : g_St} {ah : g_St} {aw : g_St} {rd : g_St} {md : g_St} {tp : g_St} {hh : g_Sf} {th : g_St} {tr : g_St} (XX : Cx G A p s0 m meth c cc nL RX11 args) (I : Iv G A s0 H locs (bO G oa na ka aa ra pa sd yd td ow ++ (bV G na nw ++ (bV G ka kp ++ (bA G aa wa ah ++ (bV G wa aw ++ (bT G ra ma rd ++ (bV G ma md ++ (bP G pa tp ++ (bH G sd hh ++ (bY G yd td th ++ (bK G td tr ++ [])))))))))))) (hdg : decode cc pc = .ok (.getfield 304, 3)) (kk : W p l e R s0 m args below meth c H locs cells slots Q (F0 m (pc + 3) ls (.ref (td 2) :: rest))) : W p l e R s0 m args below meth c H locs cells slots Q (F0 m pc ls (.ref (td 0) :: rest)) := r_get kfX8 XX I 119 rfl 0 (Nat.le_of_ble_eq_true rfl) wd_184 rfl hdg kk
set_option maxRecDepth 100000 in
theorem aO_numbers10 {G : g_G} {oa : Nat → Nat} {na : Nat → Nat} {ka : Nat → Nat} {aa : Nat → Nat} {wa : Nat → Nat} {ra : Nat → Nat} {ma : Nat → Nat} {pa : Nat → Nat} {sd : Nat → Nat → Nat} {yd : Nat → Nat} {td : Nat → Nat} {ow : g_St} {nw : g_St} {kp : g_St} {ah : g_St} {aw : g_St} {rd : g_St} {md : g_St} {tp : g_St} {hh : g_Sf} {th : g_St} {tr : g_St} : (bO G oa na ka aa ra pa sd yd td ow ++ (bV G na nw ++ (bV G ka kp ++ (bA G aa wa ah ++ (bV G wa aw ++ (bT G ra ma rd ++ (bV G ma md ++ (bP G pa tp ++ (bH G sd hh ++ (bY G yd td th ++ (bK G td tr ++ [])))))))))))[120]? = some (td 2, .inl (G.2.1 0, 30, .inl (gr tr 0))) := rfl
set_option maxRecDepth 100000 in
theorem sO_numbers10 {G : g_G} {oa : Nat → Nat} {na : Nat → Nat} {ka : Nat → Nat} {aa : Nat → Nat} {wa : Nat → Nat} {ra : Nat → Nat} {ma : Nat → Nat} {pa : Nat → Nat} {sd : Nat → Nat → Nat} {yd : Nat → Nat} {td : Nat → Nat} {ow : g_St} {nw : g_St} {kp : g_St} {ah : g_St} {aw : g_St} {rd : g_St} {md : g_St} {tp : g_St} {hh : g_Sf} {th : g_St} {tr : g_St} {i : Int32} {x : Int32} : (bO G oa na ka aa ra pa sd yd td ow ++ (bV G na nw ++ (bV G ka kp ++ (bA G aa wa ah ++ (bV G wa aw ++ (bT G ra ma rd ++ (bV G ma md ++ (bP G pa tp ++ (bH G sd hh ++ (bY G yd td th ++ (bK G td tr ++ []))))))))))).set 120 (td 2, .inl (G.2.1 0, 30, .inl (upd (gr tr 0) i.toNatClampNeg x))) = (bO G oa na ka aa ra pa sd yd td ow ++ (bV G na nw ++ (bV G ka kp ++ (bA G aa wa ah ++ (bV G wa aw ++ (bT G ra ma rd ++ (bV G ma md ++ (bP G pa tp ++ (bH G sd hh ++ (bY G yd td th ++ (bK G td (sr tr 0 i x) ++ []))))))))))) := rfl
set_option maxHeartbeats 4000000 in
set_option maxRecDepth 100000 in
theorem c_O_trace (l : Launch) (G : g_G) (OK : EOk G.2.2) (oa : Nat → Nat) (na : Nat → Nat) (ka : Nat → Nat) (aa : Nat → Nat) (wa : Nat → Nat) (ra : Nat → Nat) (ma : Nat → Nat) (pa : Nat → Nat) (sd : Nat → Nat → Nat) (yd : Nat → Nat) (td : Nat → Nat) (owa : g_St) (nwa : g_St) (kpa : g_St) (aha : g_St) (awa : g_St) (rda : g_St) (mda : g_St) (tpa : g_St) (hha : g_Sf) (tha : g_St) (tra : g_St) (x1 : Int32) (r : Int32) (h : f_O_trace tra x1 = some r) : HI l G yX11_trace (Cond.code yX11_trace cX11_trace 2 (some .int) :: gT) { frames := 1, cells := 0, slots := 0, locals := 22 } .int [.ref (oa 0), .int x1] (bO G oa na ka aa ra pa sd yd td owa ++ (bV G na nwa ++ (bV G ka kpa ++ (bA G aa wa aha ++ (bV G wa awa ++ (bT G ra ma rda ++ (bV G ma mda ++ (bP G pa tpa ++ (bH G sd hha ++ (bY G yd td tha ++ (bK G td tra ++ []))))))))))) r (bO G oa na ka aa ra pa sd yd td owa ++ (bV G na nwa ++ (bV G ka kpa ++ (bA G aa wa aha ++ (bV G wa awa ++ (bT G ra ma rda ++ (bV G ma mda ++ (bP G pa tpa ++ (bH G sd hha ++ (bY G yd td tha ++ (bK G td tra ++ []))))))))))) := by
  refine HI.mk (lv := [(0, .ref (oa 0)), (1, .int x1)]) OK (by decide) (Nat.le_of_ble_eq_true rfl) rfl ?_
  intro p e s0 m args below meth c ls XX hr I hl
  have hx := XX.x
  have hb := XX.b
  unfold f_O_trace at h
  refine lv_iload_n hx hb dX11_trace_0 rfl (lv_at hl 1 rfl) ?_
  refine lv_iconst (v := 0) hx hb dX11_trace_1 (by decide) ?_
  refine lv_aload_n hx hb dX11_trace_2 rfl (lv_at hl 0 rfl) ?_
  refine gO_X11_o0_bodies XX I dX11_trace_3 ?_
  refine gO_X11_o10_count XX I dX11_trace_6 ?_
  refine lv_iconst (v := 1) hx hb dX11_trace_9 (by decide) ?_
  refine lv_isub hx hb dX11_trace_10 ?_
  refine scall_i (rest := []) XX I hl.1 (c_S_within l G OK x1 (0 : Int32) ((gi tra 1) - (1 : Int32)) _ rfl) kS_X11_103 rfl rfl (Nat.le_of_ble_eq_true rfl) ⟨rfl, rfl, Nat.le_of_ble_eq_true rfl, Nat.le_of_ble_eq_true rfl⟩ ⟨Nat.zero_le _, Nat.zero_le _⟩ dX11_trace_11 (fun H locs hz1 I => ?_)
  refine lv_if_eq (tgt := 29) hx hb dX11_trace_14 (by decide) (fun c1 => ?_) (fun c1 => ?_)
  · replace h := if_t h c1
    refine lv_bipush (v := (-3)) hx hb dX11_trace_29 (by decide) ?_
    obtain rfl := some1 h
    exact e_i rfl XX hr I rfl dX11_trace_31
  · replace h := if_f h c1
    refine lv_aload_n hx hb dX11_trace_17 rfl (lv_at hl 0 rfl) ?_
    refine gO_X11_o0_bodies XX I dX11_trace_18 ?_
    refine gO_X11_o10_numbers XX I dX11_trace_21 ?_
    refine lv_iload_n hx hb dX11_trace_24 rfl (lv_at hl 1 rfl) ?_
    obtain ⟨g2, h⟩ := gd_some h
    refine r_iald XX I 120 (aO_numbers10) g2 dX11_trace_25 ?_
    refine lv_goto (tgt := 31) hx hb dX11_trace_26 (by decide) ?_
    obtain rfl := some1 h
    exact e_i rfl XX hr I rfl dX11_trace_31
set_option maxRecDepth 100000 in
theorem kV_X11_307 : KV RX11 307 RX9 yX9_allNoes cX9_allNoes 3 (some .int) 0 := KV.mk wd_945 wd_946 wd_947 wd_2 wd_948 (by decide +kernel)
set_option maxRecDepth 100000 in
theorem gO_X11_o1_fell {p : Program} {l : Launch} {e : Env} {R : Room} {s0 : State} {m : MethodId} {args : Array Value} {below : List Frame} {meth : Method} {c : Code} {H : Heap} {locs : List Loc} {cells slots : Nat} {Q : State → Prop} {cc : ByteArray} {nL pc : Nat} {ls : Array Slot} {rest : List Value} {G : g_G} {A : Nat → Prop} {oa : Nat → Nat} {na : Nat → Nat} {ka : Nat → Nat} {aa : Nat → Nat} {wa : Nat → Nat} {ra : Nat → Nat} {ma : Nat → Nat} {pa : Nat → Nat} {sd : Nat → Nat → Nat} {yd : Nat → Nat} {td : Nat → Nat} {ow : g_St} {nw : g_St} {kp : g_St} {ah : g_St} {aw : g_St} {rd : g_St} {md : g_St} {tp : g_St} {hh : g_Sf} {th : g_St} {tr : g_St} (XX : Cx G A p s0 m meth c cc nL RX11 args) (I : Iv G A s0 H locs (bO G oa na ka aa ra pa sd yd td ow ++ (bV G na nw ++ (bV G ka kp ++ (bA G aa wa ah ++ (bV G wa aw ++ (bT G ra ma rd ++ (bV G ma md ++ (bP G pa tp ++ (bH G sd hh ++ (bY G yd td th ++ (bK G td tr ++ [])))))))))))) (hdg : decode cc pc = .ok (.getfield 310, 3)) (kk : W p l e R s0 m args below meth c H locs cells slots Q (F0 m (pc + 3) ls (.int (gi nw 11) :: rest))) : W p l e R s0 m args below meth c H locs cells slots Q (F0 m pc ls (.ref (na 0) :: rest)) := r_get kfX9 XX I 32 rfl 11 (Nat.le_of_ble_eq_true rfl) wd_71 rfl hdg kk
set_option maxRecDepth 100000 in
theorem gO_X11_o1_passed {p : Program} {l : Launch} {e : Env} {R : Room} {s0 : State} {m : MethodId} {args : Array Value} {below : List Frame} {meth : Method} {c : Code} {H : Heap} {locs : List Loc} {cells slots : Nat} {Q : State → Prop} {cc : ByteArray} {nL pc : Nat} {ls : Array Slot} {rest : List Value} {G : g_G} {A : Nat → Prop} {oa : Nat → Nat} {na : Nat → Nat} {ka : Nat → Nat} {aa : Nat → Nat} {wa : Nat → Nat} {ra : Nat → Nat} {ma : Nat → Nat} {pa : Nat → Nat} {sd : Nat → Nat → Nat} {yd : Nat → Nat} {td : Nat → Nat} {ow : g_St} {nw : g_St} {kp : g_St} {ah : g_St} {aw : g_St} {rd : g_St} {md : g_St} {tp : g_St} {hh : g_Sf} {th : g_St} {tr : g_St} (XX : Cx G A p s0 m meth c cc nL RX11 args) (I : Iv G A s0 H locs (bO G oa na ka aa ra pa sd yd td ow ++ (bV G na nw ++ (bV G ka kp ++ (bA G aa wa ah ++ (bV G wa aw ++ (bT G ra ma rd ++ (bV G ma md ++ (bP G pa tp ++ (bH G sd hh ++ (bY G yd td th ++ (bK G td tr ++ [])))))))))))) (hdg : decode cc pc = .ok (.getfield 313, 3)) (kk : W p l e R s0 m args below meth c H locs cells slots Q (F0 m (pc + 3) ls (.int (gi nw 12) :: rest))) : W p l e R s0 m args below meth c H locs cells slots Q (F0 m pc ls (.ref (na 0) :: rest)) := r_get kfX9 XX I 32 rfl 12 (Nat.le_of_ble_eq_true rfl) wd_73 rfl hdg kk
set_option maxHeartbeats 4000000 in
set_option maxRecDepth 100000 in
theorem c_O_many (l : Launch) (G : g_G) (OK : EOk G.2.2) (oa : Nat → Nat) (na : Nat → Nat) (ka : Nat → Nat) (aa : Nat → Nat) (wa : Nat → Nat) (ra : Nat → Nat) (ma : Nat → Nat) (pa : Nat → Nat) (sd : Nat → Nat → Nat) (yd : Nat → Nat) (td : Nat → Nat) (fu : Nat) (owa : g_St) (nwa : g_St) (kpa : g_St) (aha : g_St) (awa : g_St) (rda : g_St) (mda : g_St) (tpa : g_St) (hha : g_Sf) (tha : g_St) (tra : g_St) (x1 : Int32) (r : Int32) (h : f_O_many fu owa nwa tra x1 = some r) : HI l G yX11_many (Cond.code yX11_many cX11_many 2 (some .int) :: gT) { frames := 1, cells := 0, slots := 0, locals := 22 } .int [.ref (oa 0), .int x1] (bO G oa na ka aa ra pa sd yd td owa ++ (bV G na nwa ++ (bV G ka kpa ++ (bA G aa wa aha ++ (bV G wa awa ++ (bT G ra ma rda ++ (bV G ma mda ++ (bP G pa tpa ++ (bH G sd hha ++ (bY G yd td tha ++ (bK G td tra ++ []))))))))))) r (bO G oa na ka aa ra pa sd yd td owa ++ (bV G na nwa ++ (bV G ka kpa ++ (bA G aa wa aha ++ (bV G wa awa ++ (bT G ra ma rda ++ (bV G ma mda ++ (bP G pa tpa ++ (bH G sd hha ++ (bY G yd td tha ++ (bK G td tra ++ []))))))))))) := by
  refine HI.mk (lv := [(0, .ref (oa 0)), (1, .int x1)]) OK (by decide) (Nat.le_of_ble_eq_true rfl) rfl ?_
  intro p e s0 m args below meth c ls XX hr I hl
  have hx := XX.x
  have hb := XX.b
  unfold f_O_many at h
  refine lv_iload_n hx hb dX11_many_0 rfl (lv_at hl 1 rfl) ?_
  by_cases q0 : x1 = (0 : Int32)
  · replace h := if_t h q0
    refine lv_tableIn (tgt := 48) (off := 47) hx hb dX11_many_1 (by rw [q0]; decide) (by rw [q0]; decide) (by rw [q0]; rfl) (by decide) ?_
    refine lv_aload_n hx hb dX11_many_48 rfl (lv_at hl 0 rfl) ?_
    refine gO_X11_o0_now XX I dX11_many_49 ?_
    refine gO_X11_o1_people XX I dX11_many_52 ?_
    obtain rfl := some1 h
    exact e_i rfl XX hr I rfl dX11_many_55
  replace h := if_f h q0
  by_cases q1 : x1 = (1 : Int32)
  · replace h := if_t h q1
    refine lv_tableIn (tgt := 56) (off := 55) hx hb dX11_many_1 (by rw [q1]; decide) (by rw [q1]; decide) (by rw [q1]; rfl) (by decide) ?_
    refine lv_aload_n hx hb dX11_many_56 rfl (lv_at hl 0 rfl) ?_
    refine gO_X11_o0_now XX I dX11_many_57 ?_
    refine gO_X11_o1_proposals XX I dX11_many_60 ?_
    obtain rfl := some1 h
    exact e_i rfl XX hr I rfl dX11_many_63
  replace h := if_f h q1
  by_cases q2 : x1 = (2 : Int32)
  · replace h := if_t h q2
    refine lv_tableIn (tgt := 64) (off := 63) hx hb dX11_many_1 (by rw [q2]; decide) (by rw [q2]; decide) (by rw [q2]; rfl) (by decide) ?_
    refine lv_aload_n hx hb dX11_many_64 rfl (lv_at hl 0 rfl) ?_
    refine gO_X11_o0_now XX I dX11_many_65 ?_
    obtain ⟨r1, q2, h⟩ := bd1_some h
    have RC := (Rc.mk XX I (q0 := 32) (ci := 9) rfl rfl)
    replace I : Iv G (va_A (bO G oa na ka aa ra pa sd yd td owa ++ (bV G na nwa ++ (bV G ka kpa ++ (bA G aa wa aha ++ (bV G wa awa ++ (bT G ra ma rda ++ (bV G ma mda ++ (bP G pa tpa ++ (bH G sd hha ++ (bY G yd td tha ++ (bK G td tra ++ []))))))))))) s0.heap.size) s0 _ _ ((bV G na nwa) ++ (bO G oa na ka aa ra pa sd yd td owa ++ (bV G ka kpa ++ (bA G aa wa aha ++ (bV G wa awa ++ (bT G ra ma rda ++ (bV G ma mda ++ (bP G pa tpa ++ (bH G sd hha ++ (bY G yd td tha ++ (bK G td tra ++ []))))))))))) := I.perm ((List.Perm.append_left _ (List.Perm.refl _)).trans (List.perm_append_comm_assoc _ _ _))
    refine call_i (X := []) (wc := (bV G na nwa)) (Y := (bO G oa na ka aa ra pa sd yd td owa ++ (bV G ka kpa ++ (bA G aa wa aha ++ (bV G wa awa ++ (bT G ra ma rda ++ (bV G ma mda ++ (bP G pa tpa ++ (bH G sd hha ++ (bY G yd td tha ++ (bK G td tra ++ []))))))))))) (rest := []) XX I hl.1 (c_V_allNoes l G OK na fu nwa r1 q2) kV_X11_307 RC rfl rfl (Nat.le_of_ble_eq_true rfl) ⟨rfl, rfl, Nat.le_of_ble_eq_true rfl, Nat.le_of_ble_eq_true rfl⟩ ⟨Nat.zero_le _, Nat.zero_le _⟩ dX11_many_68 (fun H locs hz3 I => ?_)
    replace I : Iv G (va_A (bO G oa na ka aa ra pa sd yd td owa ++ (bV G na nwa ++ (bV G ka kpa ++ (bA G aa wa aha ++ (bV G wa awa ++ (bT G ra ma rda ++ (bV G ma mda ++ (bP G pa tpa ++ (bH G sd hha ++ (bY G yd td tha ++ (bK G td tra ++ []))))))))))) s0.heap.size) s0 H locs (bO G oa na ka aa ra pa sd yd td owa ++ (bV G na nwa ++ (bV G ka kpa ++ (bA G aa wa aha ++ (bV G wa awa ++ (bT G ra ma rda ++ (bV G ma mda ++ (bP G pa tpa ++ (bH G sd hha ++ (bY G yd td tha ++ (bK G td tra ++ []))))))))))) := Iv.perm (w := (bV G na nwa) ++ (bO G oa na ka aa ra pa sd yd td owa ++ (bV G ka kpa ++ (bA G aa wa aha ++ (bV G wa awa ++ (bT G ra ma rda ++ (bV G ma mda ++ (bP G pa tpa ++ (bH G sd hha ++ (bY G yd td tha ++ (bK G td tra ++ []))))))))))) I (((List.Perm.append_left _ (List.Perm.refl _)).trans (List.perm_append_comm_assoc _ _ _)).symm)
    obtain rfl := some1 h
    exact e_i rfl XX hr I rfl dX11_many_71
  replace h := if_f h q2
  by_cases q3 : x1 = (3 : Int32)
  · replace h := if_t h q3
    refine lv_tableIn (tgt := 72) (off := 71) hx hb dX11_many_1 (by rw [q3]; decide) (by rw [q3]; decide) (by rw [q3]; rfl) (by decide) ?_
    refine lv_aload_n hx hb dX11_many_72 rfl (lv_at hl 0 rfl) ?_
    refine gO_X11_o0_now XX I dX11_many_73 ?_
    refine gO_X11_o1_fell XX I dX11_many_76 ?_
    obtain rfl := some1 h
    exact e_i rfl XX hr I rfl dX11_many_79
  replace h := if_f h q3
  by_cases q4 : x1 = (4 : Int32)
  · replace h := if_t h q4
    refine lv_tableIn (tgt := 80) (off := 79) hx hb dX11_many_1 (by rw [q4]; decide) (by rw [q4]; decide) (by rw [q4]; rfl) (by decide) ?_
    refine lv_aload_n hx hb dX11_many_80 rfl (lv_at hl 0 rfl) ?_
    refine gO_X11_o0_now XX I dX11_many_81 ?_
    refine gO_X11_o1_passed XX I dX11_many_84 ?_
    obtain rfl := some1 h
    exact e_i rfl XX hr I rfl dX11_many_87
  replace h := if_f h q4
  by_cases q5 : x1 = (5 : Int32)
  · replace h := if_t h q5
    refine lv_tableIn (tgt := 88) (off := 87) hx hb dX11_many_1 (by rw [q5]; decide) (by rw [q5]; decide) (by rw [q5]; rfl) (by decide) ?_
    refine lv_aload_n hx hb dX11_many_88 rfl (lv_at hl 0 rfl) ?_
    refine gO_X11_o0_rowCount XX I dX11_many_89 ?_
    obtain rfl := some1 h
    exact e_i rfl XX hr I rfl dX11_many_92
  replace h := if_f h q5
  by_cases q6 : x1 = (6 : Int32)
  · replace h := if_t h q6
    refine lv_tableIn (tgt := 93) (off := 92) hx hb dX11_many_1 (by rw [q6]; decide) (by rw [q6]; decide) (by rw [q6]; rfl) (by decide) ?_
    refine lv_aload_n hx hb dX11_many_93 rfl (lv_at hl 0 rfl) ?_
    refine gO_X11_o0_tapeLength XX I dX11_many_94 ?_
    obtain rfl := some1 h
    exact e_i rfl XX hr I rfl dX11_many_97
  replace h := if_f h q6
  by_cases q7 : x1 = (7 : Int32)
  · replace h := if_t h q7
    refine lv_tableIn (tgt := 98) (off := 97) hx hb dX11_many_1 (by rw [q7]; decide) (by rw [q7]; decide) (by rw [q7]; rfl) (by decide) ?_
    refine lv_aload_n hx hb dX11_many_98 rfl (lv_at hl 0 rfl) ?_
    refine gO_X11_o0_bodies XX I dX11_many_99 ?_
    refine gO_X11_o10_count XX I dX11_many_102 ?_
    obtain rfl := some1 h
    exact e_i rfl XX hr I rfl dX11_many_105
  replace h := if_f h q7
  refine lv_tableOut (tgt := 106) hx hb dX11_many_1 (tab_out (lo := 0) (hi := 7) (fun k k1 k2 => by rcases (show k = 0 ∨ k = 1 ∨ k = 2 ∨ k = 3 ∨ k = 4 ∨ k = 5 ∨ k = 6 ∨ k = 7 by omega) with rfl | rfl | rfl | rfl | rfl | rfl | rfl | rfl <;> assumption)) (by decide) ?_
  refine lv_iconst (v := (-1)) hx hb dX11_many_106 (by decide) ?_
  obtain rfl := some1 h
  exact e_i rfl XX hr I rfl dX11_many_107
set_option maxRecDepth 100000 in
theorem gO_X11_o0_kept {p : Program} {l : Launch} {e : Env} {R : Room} {s0 : State} {m : MethodId} {args : Array Value} {below : List Frame} {meth : Method} {c : Code} {H : Heap} {locs : List Loc} {cells slots : Nat} {Q : State → Prop} {cc : ByteArray} {nL pc : Nat} {ls : Array Slot} {rest : List Value} {G : g_G} {A : Nat → Prop} {oa : Nat → Nat} {na : Nat → Nat} {ka : Nat → Nat} {aa : Nat → Nat} {wa : Nat → Nat} {ra : Nat → Nat} {ma : Nat → Nat} {pa : Nat → Nat} {sd : Nat → Nat → Nat} {yd : Nat → Nat} {td : Nat → Nat} {ow : g_St} {nw : g_St} {kp : g_St} {ah : g_St} {aw : g_St} {rd : g_St} {md : g_St} {tp : g_St} {hh : g_Sf} {th : g_St} {tr : g_St} (XX : Cx G A p s0 m meth c cc nL RX11 args) (I : Iv G A s0 H locs (bO G oa na ka aa ra pa sd yd td ow ++ (bV G na nw ++ (bV G ka kp ++ (bA G aa wa ah ++ (bV G wa aw ++ (bT G ra ma rd ++ (bV G ma md ++ (bP G pa tp ++ (bH G sd hh ++ (bY G yd td th ++ (bK G td tr ++ [])))))))))))) (hdg : decode cc pc = .ok (.getfield 16, 3)) (kk : W p l e R s0 m args below meth c H locs cells slots Q (F0 m (pc + 3) ls (.ref (ka 0) :: rest))) : W p l e R s0 m args below meth c H locs cells slots Q (F0 m pc ls (.ref (oa 0) :: rest)) := r_get kfX11 XX I 0 rfl 1 (Nat.le_of_ble_eq_true rfl) wd_286 rfl hdg kk
set_option maxRecDepth 100000 in
theorem pO_X11_o0_isKept {p : Program} {l : Launch} {e : Env} {R : Room} {s0 : State} {m : MethodId} {args : Array Value} {below : List Frame} {meth : Method} {c : Code} {H : Heap} {locs : List Loc} {cells slots : Nat} {Q : State → Prop} {cc : ByteArray} {nL pc : Nat} {ls : Array Slot} {rest : List Value} {G : g_G} {A : Nat → Prop} {oa : Nat → Nat} {na : Nat → Nat} {ka : Nat → Nat} {aa : Nat → Nat} {wa : Nat → Nat} {ra : Nat → Nat} {ma : Nat → Nat} {pa : Nat → Nat} {sd : Nat → Nat → Nat} {yd : Nat → Nat} {td : Nat → Nat} {ow : g_St} {nw : g_St} {kp : g_St} {ah : g_St} {aw : g_St} {rd : g_St} {md : g_St} {tp : g_St} {hh : g_Sf} {th : g_St} {tr : g_St} {val : Int32} (XX : Cx G A p s0 m meth c cc nL RX11 args) (I : Iv G A s0 H locs (bO G oa na ka aa ra pa sd yd td ow ++ (bV G na nw ++ (bV G ka kp ++ (bA G aa wa ah ++ (bV G wa aw ++ (bT G ra ma rd ++ (bV G ma md ++ (bP G pa tp ++ (bH G sd hh ++ (bY G yd td th ++ (bK G td tr ++ [])))))))))))) (hz : narrow .boolean (.int val) = .int val) (hdg : decode cc pc = .ok (.putfield 19, 3)) (kk : ∀ (H1 : Heap) (locs1 : List Loc), Iv G A s0 H1 locs1 (bO G oa na ka aa ra pa sd yd td (si ow 2 val) ++ (bV G na nw ++ (bV G ka kp ++ (bA G aa wa ah ++ (bV G wa aw ++ (bT G ra ma rd ++ (bV G ma md ++ (bP G pa tp ++ (bH G sd hh ++ (bY G yd td th ++ (bK G td tr ++ []))))))))))) → W p l e R s0 m args below meth c H1 locs1 cells slots Q (F0 m (pc + 3) ls rest)) : W p l e R s0 m args below meth c H locs cells slots Q (F0 m pc ls (.int val :: .ref (oa 0) :: rest)) := r_put kfX11 XX I 0 rfl 2 (Nat.le_of_ble_eq_true rfl) wd_287 rfl hz (fits_z hz) (Nat.le_of_ble_eq_true rfl) rfl hdg kk
set_option maxHeartbeats 4000000 in
set_option maxRecDepth 100000 in
theorem c_O_keep (l : Launch) (G : g_G) (OK : EOk G.2.2) (oa : Nat → Nat) (na : Nat → Nat) (ka : Nat → Nat) (aa : Nat → Nat) (wa : Nat → Nat) (ra : Nat → Nat) (ma : Nat → Nat) (pa : Nat → Nat) (sd : Nat → Nat → Nat) (yd : Nat → Nat) (td : Nat → Nat) (fu : Nat) (owa : g_St) (nwa : g_St) (kpa : g_St) (aha : g_St) (awa : g_St) (rda : g_St) (mda : g_St) (tpa : g_St) (hha : g_Sf) (tha : g_St) (tra : g_St) (r : Int32) (tow : g_St) (tkp : g_St) (h : f_O_keep fu owa nwa kpa = some (r, tow, tkp)) : HI l G yX11_keep (Cond.code yX11_keep cX11_keep 1 (some .int) :: gT) { frames := 2, cells := 0, slots := 0, locals := 82 } .int [.ref (oa 0)] (bO G oa na ka aa ra pa sd yd td owa ++ (bV G na nwa ++ (bV G ka kpa ++ (bA G aa wa aha ++ (bV G wa awa ++ (bT G ra ma rda ++ (bV G ma mda ++ (bP G pa tpa ++ (bH G sd hha ++ (bY G yd td tha ++ (bK G td tra ++ []))))))))))) r (bO G oa na ka aa ra pa sd yd td tow ++ (bV G na nwa ++ (bV G ka tkp ++ (bA G aa wa aha ++ (bV G wa awa ++ (bT G ra ma rda ++ (bV G ma mda ++ (bP G pa tpa ++ (bH G sd hha ++ (bY G yd td tha ++ (bK G td tra ++ []))))))))))) := by
  refine HI.mk (lv := [(0, .ref (oa 0))]) OK (by decide) (Nat.le_of_ble_eq_true rfl) rfl ?_
  intro p e s0 m args below meth c ls XX hr I hl
  have hx := XX.x
  have hb := XX.b
  unfold f_O_keep at h
  refine lv_aload_n hx hb dX11_keep_0 rfl (lv_at hl 0 rfl) ?_
  refine gO_X11_o0_kept XX I dX11_keep_1 ?_
  refine lv_aload_n hx hb dX11_keep_4 rfl (lv_at hl 0 rfl) ?_
  refine gO_X11_o0_now XX I dX11_keep_5 ?_
  obtain ⟨s1, q2, h⟩ := bd1_some h
  have RC := (Rc.mk XX I (q0 := 49) (ci := 9) rfl rfl)
  replace I : Iv G (va_A (bO G oa na ka aa ra pa sd yd td owa ++ (bV G na nwa ++ (bV G ka kpa ++ (bA G aa wa aha ++ (bV G wa awa ++ (bT G ra ma rda ++ (bV G ma mda ++ (bP G pa tpa ++ (bH G sd hha ++ (bY G yd td tha ++ (bK G td tra ++ []))))))))))) s0.heap.size) s0 _ _ (((bV G ka kpa ++ (bV G na nwa ++ []))) ++ (bO G oa na ka aa ra pa sd yd td owa ++ (bA G aa wa aha ++ (bV G wa awa ++ (bT G ra ma rda ++ (bV G ma mda ++ (bP G pa tpa ++ (bH G sd hha ++ (bY G yd td tha ++ (bK G td tra ++ [])))))))))) := I.perm ((((List.Perm.append_left _ ((List.Perm.append_left _ (List.Perm.refl _)).trans (List.perm_append_comm_assoc _ _ _))).trans (List.perm_append_comm_assoc _ _ _)).trans (List.Perm.append_left _ ((List.Perm.append_left _ (List.Perm.refl _)).trans (List.perm_append_comm_assoc _ _ _)))).trans pasc2)
  refine call_v (X := []) (wc := ((bV G ka kpa ++ (bV G na nwa ++ [])))) (Y := (bO G oa na ka aa ra pa sd yd td owa ++ (bA G aa wa aha ++ (bV G wa awa ++ (bT G ra ma rda ++ (bV G ma mda ++ (bP G pa tpa ++ (bH G sd hha ++ (bY G yd td tha ++ (bK G td tra ++ [])))))))))) (rest := []) XX I hl.1 (c_VV_copyFrom l G OK ka na fu kpa nwa s1 q2) kV_X11_120 RC rfl rfl (Nat.le_of_ble_eq_true rfl) ⟨rfl, rfl, Nat.le_of_ble_eq_true rfl, Nat.le_of_ble_eq_true rfl⟩ ⟨Nat.zero_le _, Nat.zero_le _⟩ dX11_keep_8 (fun H locs I => ?_)
  replace I : Iv G (va_A (bO G oa na ka aa ra pa sd yd td owa ++ (bV G na nwa ++ (bV G ka kpa ++ (bA G aa wa aha ++ (bV G wa awa ++ (bT G ra ma rda ++ (bV G ma mda ++ (bP G pa tpa ++ (bH G sd hha ++ (bY G yd td tha ++ (bK G td tra ++ []))))))))))) s0.heap.size) s0 H locs (bO G oa na ka aa ra pa sd yd td owa ++ (bV G na nwa ++ (bV G ka s1 ++ (bA G aa wa aha ++ (bV G wa awa ++ (bT G ra ma rda ++ (bV G ma mda ++ (bP G pa tpa ++ (bH G sd hha ++ (bY G yd td tha ++ (bK G td tra ++ []))))))))))) := Iv.perm (w := ((bV G ka s1 ++ (bV G na nwa ++ []))) ++ (bO G oa na ka aa ra pa sd yd td owa ++ (bA G aa wa aha ++ (bV G wa awa ++ (bT G ra ma rda ++ (bV G ma mda ++ (bP G pa tpa ++ (bH G sd hha ++ (bY G yd td tha ++ (bK G td tra ++ [])))))))))) I (((((List.Perm.append_left _ ((List.Perm.append_left _ (List.Perm.refl _)).trans (List.perm_append_comm_assoc _ _ _))).trans (List.perm_append_comm_assoc _ _ _)).trans (List.Perm.append_left _ ((List.Perm.append_left _ (List.Perm.refl _)).trans (List.perm_append_comm_assoc _ _ _)))).trans pasc2).symm)
  refine lv_aload_n hx hb dX11_keep_11 rfl (lv_at hl 0 rfl) ?_
  refine lv_iconst (v := 1) hx hb dX11_keep_12 (by decide) ?_
  refine pO_X11_o0_isKept XX I (rfl) dX11_keep_13 (fun H locs I => ?_)
  obtain ⟨s4, es4⟩ : ∃ z, z = si owa 2 (1 : Int32) := ⟨_, rfl⟩
  replace h := lt_e h es4
  replace I : Iv G (va_A (bO G oa na ka aa ra pa sd yd td owa ++ (bV G na nwa ++ (bV G ka kpa ++ (bA G aa wa aha ++ (bV G wa awa ++ (bT G ra ma rda ++ (bV G ma mda ++ (bP G pa tpa ++ (bH G sd hha ++ (bY G yd td tha ++ (bK G td tra ++ []))))))))))) s0.heap.size) s0 H locs (bO G oa na ka aa ra pa sd yd td s4 ++ (bV G na nwa ++ (bV G ka s1 ++ (bA G aa wa aha ++ (bV G wa awa ++ (bT G ra ma rda ++ (bV G ma mda ++ (bP G pa tpa ++ (bH G sd hha ++ (bY G yd td tha ++ (bK G td tra ++ []))))))))))) := by rw [es4]; exact I
  refine lv_iconst (v := 1) hx hb dX11_keep_16 (by decide) ?_
  obtain ⟨rfl, h9⟩ := some2 h
  obtain ⟨rfl, rfl⟩ := pair2 h9
  exact e_i rfl XX hr I rfl dX11_keep_17
set_option maxRecDepth 100000 in
theorem gO_X11_o0_isKept {p : Program} {l : Launch} {e : Env} {R : Room} {s0 : State} {m : MethodId} {args : Array Value} {below : List Frame} {meth : Method} {c : Code} {H : Heap} {locs : List Loc} {cells slots : Nat} {Q : State → Prop} {cc : ByteArray} {nL pc : Nat} {ls : Array Slot} {rest : List Value} {G : g_G} {A : Nat → Prop} {oa : Nat → Nat} {na : Nat → Nat} {ka : Nat → Nat} {aa : Nat → Nat} {wa : Nat → Nat} {ra : Nat → Nat} {ma : Nat → Nat} {pa : Nat → Nat} {sd : Nat → Nat → Nat} {yd : Nat → Nat} {td : Nat → Nat} {ow : g_St} {nw : g_St} {kp : g_St} {ah : g_St} {aw : g_St} {rd : g_St} {md : g_St} {tp : g_St} {hh : g_Sf} {th : g_St} {tr : g_St} (XX : Cx G A p s0 m meth c cc nL RX11 args) (I : Iv G A s0 H locs (bO G oa na ka aa ra pa sd yd td ow ++ (bV G na nw ++ (bV G ka kp ++ (bA G aa wa ah ++ (bV G wa aw ++ (bT G ra ma rd ++ (bV G ma md ++ (bP G pa tp ++ (bH G sd hh ++ (bY G yd td th ++ (bK G td tr ++ [])))))))))))) (hdg : decode cc pc = .ok (.getfield 19, 3)) (kk : W p l e R s0 m args below meth c H locs cells slots Q (F0 m (pc + 3) ls (.int (gi ow 2) :: rest))) : W p l e R s0 m args below meth c H locs cells slots Q (F0 m pc ls (.ref (oa 0) :: rest)) := r_get kfX11 XX I 0 rfl 2 (Nat.le_of_ble_eq_true rfl) wd_287 rfl hdg kk
set_option maxHeartbeats 4000000 in
set_option maxRecDepth 100000 in
theorem c_O_again (l : Launch) (G : g_G) (OK : EOk G.2.2) (oa : Nat → Nat) (na : Nat → Nat) (ka : Nat → Nat) (aa : Nat → Nat) (wa : Nat → Nat) (ra : Nat → Nat) (ma : Nat → Nat) (pa : Nat → Nat) (sd : Nat → Nat → Nat) (yd : Nat → Nat) (td : Nat → Nat) (fu : Nat) (owa : g_St) (nwa : g_St) (kpa : g_St) (aha : g_St) (awa : g_St) (rda : g_St) (mda : g_St) (tpa : g_St) (hha : g_Sf) (tha : g_St) (tra : g_St) (r : Int32) (tnw : g_St) (h : f_O_again fu owa nwa kpa = some (r, tnw)) : HI l G yX11_again (Cond.code yX11_again cX11_again 1 (some .int) :: gT) { frames := 2, cells := 0, slots := 0, locals := 82 } .int [.ref (oa 0)] (bO G oa na ka aa ra pa sd yd td owa ++ (bV G na nwa ++ (bV G ka kpa ++ (bA G aa wa aha ++ (bV G wa awa ++ (bT G ra ma rda ++ (bV G ma mda ++ (bP G pa tpa ++ (bH G sd hha ++ (bY G yd td tha ++ (bK G td tra ++ []))))))))))) r (bO G oa na ka aa ra pa sd yd td owa ++ (bV G na tnw ++ (bV G ka kpa ++ (bA G aa wa aha ++ (bV G wa awa ++ (bT G ra ma rda ++ (bV G ma mda ++ (bP G pa tpa ++ (bH G sd hha ++ (bY G yd td tha ++ (bK G td tra ++ []))))))))))) := by
  refine HI.mk (lv := [(0, .ref (oa 0))]) OK (by decide) (Nat.le_of_ble_eq_true rfl) rfl ?_
  intro p e s0 m args below meth c ls XX hr I hl
  have hx := XX.x
  have hb := XX.b
  unfold f_O_again at h
  refine lv_aload_n hx hb dX11_again_0 rfl (lv_at hl 0 rfl) ?_
  refine gO_X11_o0_isKept XX I dX11_again_1 ?_
  refine lv_if_ne (tgt := 10) hx hb dX11_again_4 (by decide) (fun c1 => ?_) (fun c1 => ?_)
  · replace h := if_f h c1
    refine lv_aload_n hx hb dX11_again_10 rfl (lv_at hl 0 rfl) ?_
    refine gO_X11_o0_now XX I dX11_again_11 ?_
    refine lv_aload_n hx hb dX11_again_14 rfl (lv_at hl 0 rfl) ?_
    refine gO_X11_o0_kept XX I dX11_again_15 ?_
    obtain ⟨s1, q2, h⟩ := bd1_some h
    have RC := (Rc.mk XX I (q0 := 32) (ci := 9) rfl rfl)
    replace I : Iv G (va_A (bO G oa na ka aa ra pa sd yd td owa ++ (bV G na nwa ++ (bV G ka kpa ++ (bA G aa wa aha ++ (bV G wa awa ++ (bT G ra ma rda ++ (bV G ma mda ++ (bP G pa tpa ++ (bH G sd hha ++ (bY G yd td tha ++ (bK G td tra ++ []))))))))))) s0.heap.size) s0 _ _ (((bV G na nwa ++ (bV G ka kpa ++ []))) ++ (bO G oa na ka aa ra pa sd yd td owa ++ (bA G aa wa aha ++ (bV G wa awa ++ (bT G ra ma rda ++ (bV G ma mda ++ (bP G pa tpa ++ (bH G sd hha ++ (bY G yd td tha ++ (bK G td tra ++ [])))))))))) := I.perm ((((List.Perm.append_left _ (List.Perm.refl _)).trans (List.perm_append_comm_assoc _ _ _)).trans (List.Perm.append_left _ ((List.Perm.append_left _ (List.Perm.refl _)).trans (List.perm_append_comm_assoc _ _ _)))).trans pasc2)
    refine call_v (X := []) (wc := ((bV G na nwa ++ (bV G ka kpa ++ [])))) (Y := (bO G oa na ka aa ra pa sd yd td owa ++ (bA G aa wa aha ++ (bV G wa awa ++ (bT G ra ma rda ++ (bV G ma mda ++ (bP G pa tpa ++ (bH G sd hha ++ (bY G yd td tha ++ (bK G td tra ++ [])))))))))) (rest := []) XX I hl.1 (c_VV_copyFrom l G OK na ka fu nwa kpa s1 q2) kV_X11_120 RC rfl rfl (Nat.le_of_ble_eq_true rfl) ⟨rfl, rfl, Nat.le_of_ble_eq_true rfl, Nat.le_of_ble_eq_true rfl⟩ ⟨Nat.zero_le _, Nat.zero_le _⟩ dX11_again_18 (fun H locs I => ?_)
    replace I : Iv G (va_A (bO G oa na ka aa ra pa sd yd td owa ++ (bV G na nwa ++ (bV G ka kpa ++ (bA G aa wa aha ++ (bV G wa awa ++ (bT G ra ma rda ++ (bV G ma mda ++ (bP G pa tpa ++ (bH G sd hha ++ (bY G yd td tha ++ (bK G td tra ++ []))))))))))) s0.heap.size) s0 H locs (bO G oa na ka aa ra pa sd yd td owa ++ (bV G na s1 ++ (bV G ka kpa ++ (bA G aa wa aha ++ (bV G wa awa ++ (bT G ra ma rda ++ (bV G ma mda ++ (bP G pa tpa ++ (bH G sd hha ++ (bY G yd td tha ++ (bK G td tra ++ []))))))))))) := Iv.perm (w := ((bV G na s1 ++ (bV G ka kpa ++ []))) ++ (bO G oa na ka aa ra pa sd yd td owa ++ (bA G aa wa aha ++ (bV G wa awa ++ (bT G ra ma rda ++ (bV G ma mda ++ (bP G pa tpa ++ (bH G sd hha ++ (bY G yd td tha ++ (bK G td tra ++ [])))))))))) I (((((List.Perm.append_left _ (List.Perm.refl _)).trans (List.perm_append_comm_assoc _ _ _)).trans (List.Perm.append_left _ ((List.Perm.append_left _ (List.Perm.refl _)).trans (List.perm_append_comm_assoc _ _ _)))).trans pasc2).symm)
    refine lv_aload_n hx hb dX11_again_21 rfl (lv_at hl 0 rfl) ?_
    refine gO_X11_o0_now XX I dX11_again_22 ?_
    refine gO_X11_o1_people XX I dX11_again_25 ?_
    obtain ⟨rfl, rfl⟩ := some2 h
    exact e_i rfl XX hr I rfl dX11_again_28
  · replace h := if_t h c1
    refine lv_bipush (v := (-3)) hx hb dX11_again_7 (by decide) ?_
    obtain ⟨rfl, rfl⟩ := some2 h
    exact e_i rfl XX hr I rfl dX11_again_9
