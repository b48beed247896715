set_option maxHeartbeats 4000000 in
set_option maxRecDepth 100000 in
theorem c_Y_isUnder_y3 (l : Launch) (G : g_G) (OK : EOk G.2.2) (hXI : HXI G) (yd : Nat → Nat) (td : Nat → Nat) (tha : g_St) (tra : g_St) (x1 : Int32) (r : Int32) (h : f_Y_isUnder_y3 x1 = r) : HI l G yX11_isUnder (Cond.code yX11_isUnder cX11_isUnder 2 (some .boolean) :: gT) { frames := 0, cells := 0, slots := 0, locals := 0 } .boolean [.ref (yd 3), .int x1] (bY G yd td tha ++ (bK G td tra ++ [])) r (bY G yd td tha ++ (bK G td tra ++ [])) := by
  refine HI.mk (lv := [(0, .ref (yd 3)), (1, .int x1)]) OK (by decide) (Nat.le_of_ble_eq_true rfl) rfl ?_
  intro p e s0 m args below meth c ls XX hr I hl
  have hx := XX.x
  have hb := XX.b
  have E2 := hXI _ _ _ XX.E
  unfold f_Y_isUnder_y3 at h
  refine lv_iload_n hx hb dX11_isUnder_0 rfl (lv_at hl 1 rfl) ?_
  by_cases q0 : x1 = (0 : Int32)
  · replace h := if_t h q0
    refine lv_tableIn (tgt := 40) (off := 39) hx hb dX11_isUnder_1 (by rw [q0]; decide) (by rw [q0]; decide) (by rw [q0]; rfl) (by decide) ?_
    refine lv_iconst (v := 1) hx hb dX11_isUnder_40 (by decide) ?_
    subst h
    exact e_z XX hr I rfl rfl dX11_isUnder_41
  replace h := if_f h q0
  by_cases q1 : x1 = (1 : Int32)
  · replace h := if_t h q1
    refine lv_tableIn (tgt := 42) (off := 41) hx hb dX11_isUnder_1 (by rw [q1]; decide) (by rw [q1]; decide) (by rw [q1]; rfl) (by decide) ?_
    refine lv_aload_n hx hb dX11_isUnder_42 rfl (lv_at hl 0 rfl) ?_
    refine va_instNo hx hb XX.o (XX.t _ wd_235) (E2.2.2 _ (List.mem_of_getElem? (i := 13) rfl)) (Rc.mk XX I (q0 := 3) (ci := 10) rfl rfl) dX11_isUnder_43 ?_
    subst h
    exact e_z XX hr I rfl rfl dX11_isUnder_46
  replace h := if_f h q1
  by_cases q2 : x1 = (2 : Int32)
  · replace h := if_t h q2
    refine lv_tableIn (tgt := 47) (off := 46) hx hb dX11_isUnder_1 (by rw [q2]; decide) (by rw [q2]; decide) (by rw [q2]; rfl) (by decide) ?_
    refine lv_aload_n hx hb dX11_isUnder_47 rfl (lv_at hl 0 rfl) ?_
    refine va_instY hx hb XX.o (XX.t _ wd_245) E2.2.1 (Rc.mk XX I (q0 := 3) (ci := 10) rfl rfl) dX11_isUnder_48 ?_
    subst h
    exact e_z XX hr I rfl rfl dX11_isUnder_51
  replace h := if_f h q2
  by_cases q3 : x1 = (3 : Int32)
  · replace h := if_t h q3
    refine lv_tableIn (tgt := 52) (off := 51) hx hb dX11_isUnder_1 (by rw [q3]; decide) (by rw [q3]; decide) (by rw [q3]; rfl) (by decide) ?_
    refine lv_aload_n hx hb dX11_isUnder_52 rfl (lv_at hl 0 rfl) ?_
    refine va_instS hx hb XX.o (XX.t _ wd_255) (XX.at 10 rfl) (Rc.mk XX I (q0 := 3) (ci := 10) rfl rfl) dX11_isUnder_53 ?_
    subst h
    exact e_z XX hr I rfl rfl dX11_isUnder_56
  replace h := if_f h q3
  by_cases q4 : x1 = (4 : Int32)
  · replace h := if_t h q4
    refine lv_tableIn (tgt := 57) (off := 56) hx hb dX11_isUnder_1 (by rw [q4]; decide) (by rw [q4]; decide) (by rw [q4]; rfl) (by decide) ?_
    refine lv_aload_n hx hb dX11_isUnder_57 rfl (lv_at hl 0 rfl) ?_
    refine va_instNo hx hb XX.o (XX.t _ wd_265) (E2.2.2 _ (List.mem_of_getElem? (i := 14) rfl)) (Rc.mk XX I (q0 := 3) (ci := 10) rfl rfl) dX11_isUnder_58 ?_
    subst h
    exact e_z XX hr I rfl rfl dX11_isUnder_61
  replace h := if_f h q4
  by_cases q5 : x1 = (5 : Int32)
  · replace h := if_t h q5
    refine lv_tableIn (tgt := 62) (off := 61) hx hb dX11_isUnder_1 (by rw [q5]; decide) (by rw [q5]; decide) (by rw [q5]; rfl) (by decide) ?_
    refine lv_aload_n hx hb dX11_isUnder_62 rfl (lv_at hl 0 rfl) ?_
    refine va_instNo hx hb XX.o (XX.t _ wd_275) (E2.2.2 _ (List.mem_of_getElem? (i := 15) rfl)) (Rc.mk XX I (q0 := 3) (ci := 10) rfl rfl) dX11_isUnder_63 ?_
    subst h
    exact e_z XX hr I rfl rfl dX11_isUnder_66
  replace h := if_f h q5
  refine lv_tableOut (tgt := 67) hx hb dX11_isUnder_1 (tab_out (lo := 0) (hi := 5) (fun k k1 k2 => by rcases (show k = 0 ∨ k = 1 ∨ k = 2 ∨ k = 3 ∨ k = 4 ∨ k = 5 by omega) with rfl | rfl | rfl | rfl | rfl | rfl <;> assumption)) (by decide) ?_
  refine lv_iconst (v := 0) hx hb dX11_isUnder_67 (by decide) ?_
  subst h
  exact e_z XX hr I rfl rfl dX11_isUnder_68
set_option maxHeartbeats 4000000 in
set_option maxRecDepth 100000 in
theorem c_Y_isUnder_y4 (l : Launch) (G : g_G) (OK : EOk G.2.2) (hXI : HXI G) (yd : Nat → Nat) (td : Nat → Nat) (tha : g_St) (tra : g_St) (x1 : Int32) (r : Int32) (h : f_Y_isUnder_y4 x1 = r) : HI l G yX11_isUnder (Cond.code yX11_isUnder cX11_isUnder 2 (some .boolean) :: gT) { frames := 0, cells := 0, slots := 0, locals := 0 } .boolean [.ref (yd 4), .int x1] (bY G yd td tha ++ (bK G td tra ++ [])) r (bY G yd td tha ++ (bK G td tra ++ [])) := by
  refine HI.mk (lv := [(0, .ref (yd 4)), (1, .int x1)]) OK (by decide) (Nat.le_of_ble_eq_true rfl) rfl ?_
  intro p e s0 m args below meth c ls XX hr I hl
  have hx := XX.x
  have hb := XX.b
  have E2 := hXI _ _ _ XX.E
  unfold f_Y_isUnder_y4 at h
  refine lv_iload_n hx hb dX11_isUnder_0 rfl (lv_at hl 1 rfl) ?_
  by_cases q0 : x1 = (0 : Int32)
  · replace h := if_t h q0
    refine lv_tableIn (tgt := 40) (off := 39) hx hb dX11_isUnder_1 (by rw [q0]; decide) (by rw [q0]; decide) (by rw [q0]; rfl) (by decide) ?_
    refine lv_iconst (v := 1) hx hb dX11_isUnder_40 (by decide) ?_
    subst h
    exact e_z XX hr I rfl rfl dX11_isUnder_41
  replace h := if_f h q0
  by_cases q1 : x1 = (1 : Int32)
  · replace h := if_t h q1
    refine lv_tableIn (tgt := 42) (off := 41) hx hb dX11_isUnder_1 (by rw [q1]; decide) (by rw [q1]; decide) (by rw [q1]; rfl) (by decide) ?_
    refine lv_aload_n hx hb dX11_isUnder_42 rfl (lv_at hl 0 rfl) ?_
    refine va_instY hx hb XX.o (XX.t _ wd_235) E2.1 (Rc.mk XX I (q0 := 4) (ci := 2) rfl rfl) dX11_isUnder_43 ?_
    subst h
    exact e_z XX hr I rfl rfl dX11_isUnder_46
  replace h := if_f h q1
  by_cases q2 : x1 = (2 : Int32)
  · replace h := if_t h q2
    refine lv_tableIn (tgt := 47) (off := 46) hx hb dX11_isUnder_1 (by rw [q2]; decide) (by rw [q2]; decide) (by rw [q2]; rfl) (by decide) ?_
    refine lv_aload_n hx hb dX11_isUnder_47 rfl (lv_at hl 0 rfl) ?_
    refine va_instNo hx hb XX.o (XX.t _ wd_245) (E2.2.2 _ (List.mem_of_getElem? (i := 16) rfl)) (Rc.mk XX I (q0 := 4) (ci := 2) rfl rfl) dX11_isUnder_48 ?_
    subst h
    exact e_z XX hr I rfl rfl dX11_isUnder_51
  replace h := if_f h q2
  by_cases q3 : x1 = (3 : Int32)
  · replace h := if_t h q3
    refine lv_tableIn (tgt := 52) (off := 51) hx hb dX11_isUnder_1 (by rw [q3]; decide) (by rw [q3]; decide) (by rw [q3]; rfl) (by decide) ?_
    refine lv_aload_n hx hb dX11_isUnder_52 rfl (lv_at hl 0 rfl) ?_
    refine va_instNo hx hb XX.o (XX.t _ wd_255) (E2.2.2 _ (List.mem_of_getElem? (i := 17) rfl)) (Rc.mk XX I (q0 := 4) (ci := 2) rfl rfl) dX11_isUnder_53 ?_
    subst h
    exact e_z XX hr I rfl rfl dX11_isUnder_56
  replace h := if_f h q3
  by_cases q4 : x1 = (4 : Int32)
  · replace h := if_t h q4
    refine lv_tableIn (tgt := 57) (off := 56) hx hb dX11_isUnder_1 (by rw [q4]; decide) (by rw [q4]; decide) (by rw [q4]; rfl) (by decide) ?_
    refine lv_aload_n hx hb dX11_isUnder_57 rfl (lv_at hl 0 rfl) ?_
    refine va_instS hx hb XX.o (XX.t _ wd_265) (XX.at 2 rfl) (Rc.mk XX I (q0 := 4) (ci := 2) rfl rfl) dX11_isUnder_58 ?_
    subst h
    exact e_z XX hr I rfl rfl dX11_isUnder_61
  replace h := if_f h q4
  by_cases q5 : x1 = (5 : Int32)
  · replace h := if_t h q5
    refine lv_tableIn (tgt := 62) (off := 61) hx hb dX11_isUnder_1 (by rw [q5]; decide) (by rw [q5]; decide) (by rw [q5]; rfl) (by decide) ?_
    refine lv_aload_n hx hb dX11_isUnder_62 rfl (lv_at hl 0 rfl) ?_
    refine va_instNo hx hb XX.o (XX.t _ wd_275) (E2.2.2 _ (List.mem_of_getElem? (i := 18) rfl)) (Rc.mk XX I (q0 := 4) (ci := 2) rfl rfl) dX11_isUnder_63 ?_
    subst h
    exact e_z XX hr I rfl rfl dX11_isUnder_66
  replace h := if_f h q5
  refine lv_tableOut (tgt := 67) hx hb dX11_isUnder_1 (tab_out (lo := 0) (hi := 5) (fun k k1 k2 => by rcases (show k = 0 ∨ k = 1 ∨ k = 2 ∨ k = 3 ∨ k = 4 ∨ k = 5 by omega) with rfl | rfl | rfl | rfl | rfl | rfl <;> assumption)) (by decide) ?_
  refine lv_iconst (v := 0) hx hb dX11_isUnder_67 (by decide) ?_
  subst h
  exact e_z XX hr I rfl rfl dX11_isUnder_68
set_option maxHeartbeats 4000000 in
set_option maxRecDepth 100000 in
theorem c_Y_isUnder_y5 (l : Launch) (G : g_G) (OK : EOk G.2.2) (hXI : HXI G) (yd : Nat → Nat) (td : Nat → Nat) (tha : g_St) (tra : g_St) (x1 : Int32) (r : Int32) (h : f_Y_isUnder_y5 x1 = r) : HI l G yX11_isUnder (Cond.code yX11_isUnder cX11_isUnder 2 (some .boolean) :: gT) { frames := 0, cells := 0, slots := 0, locals := 0 } .boolean [.ref (yd 5), .int x1] (bY G yd td tha ++ (bK G td tra ++ [])) r (bY G yd td tha ++ (bK G td tra ++ [])) := by
  refine HI.mk (lv := [(0, .ref (yd 5)), (1, .int x1)]) OK (by decide) (Nat.le_of_ble_eq_true rfl) rfl ?_
  intro p e s0 m args below meth c ls XX hr I hl
  have hx := XX.x
  have hb := XX.b
  have E2 := hXI _ _ _ XX.E
  unfold f_Y_isUnder_y5 at h
  refine lv_iload_n hx hb dX11_isUnder_0 rfl (lv_at hl 1 rfl) ?_
  by_cases q0 : x1 = (0 : Int32)
  · replace h := if_t h q0
    refine lv_tableIn (tgt := 40) (off := 39) hx hb dX11_isUnder_1 (by rw [q0]; decide) (by rw [q0]; decide) (by rw [q0]; rfl) (by decide) ?_
    refine lv_iconst (v := 1) hx hb dX11_isUnder_40 (by decide) ?_
    subst h
    exact e_z XX hr I rfl rfl dX11_isUnder_41
  replace h := if_f h q0
  by_cases q1 : x1 = (1 : Int32)
  · replace h := if_t h q1
    refine lv_tableIn (tgt := 42) (off := 41) hx hb dX11_isUnder_1 (by rw [q1]; decide) (by rw [q1]; decide) (by rw [q1]; rfl) (by decide) ?_
    refine lv_aload_n hx hb dX11_isUnder_42 rfl (lv_at hl 0 rfl) ?_
    refine va_instNo hx hb XX.o (XX.t _ wd_235) (E2.2.2 _ (List.mem_of_getElem? (i := 19) rfl)) (Rc.mk XX I (q0 := 5) (ci := 7) rfl rfl) dX11_isUnder_43 ?_
    subst h
    exact e_z XX hr I rfl rfl dX11_isUnder_46
  replace h := if_f h q1
  by_cases q2 : x1 = (2 : Int32)
  · replace h := if_t h q2
    refine lv_tableIn (tgt := 47) (off := 46) hx hb dX11_isUnder_1 (by rw [q2]; decide) (by rw [q2]; decide) (by rw [q2]; rfl) (by decide) ?_
    refine lv_aload_n hx hb dX11_isUnder_47 rfl (lv_at hl 0 rfl) ?_
    refine va_instNo hx hb XX.o (XX.t _ wd_245) (E2.2.2 _ (List.mem_of_getElem? (i := 20) rfl)) (Rc.mk XX I (q0 := 5) (ci := 7) rfl rfl) dX11_isUnder_48 ?_
    subst h
    exact e_z XX hr I rfl rfl dX11_isUnder_51
  replace h := if_f h q2
  by_cases q3 : x1 = (3 : Int32)
  · replace h := if_t h q3
    refine lv_tableIn (tgt := 52) (off := 51) hx hb dX11_isUnder_1 (by rw [q3]; decide) (by rw [q3]; decide) (by rw [q3]; rfl) (by decide) ?_
    refine lv_aload_n hx hb dX11_isUnder_52 rfl (lv_at hl 0 rfl) ?_
    refine va_instNo hx hb XX.o (XX.t _ wd_255) (E2.2.2 _ (List.mem_of_getElem? (i := 21) rfl)) (Rc.mk XX I (q0 := 5) (ci := 7) rfl rfl) dX11_isUnder_53 ?_
    subst h
    exact e_z XX hr I rfl rfl dX11_isUnder_56
  replace h := if_f h q3
  by_cases q4 : x1 = (4 : Int32)
  · replace h := if_t h q4
    refine lv_tableIn (tgt := 57) (off := 56) hx hb dX11_isUnder_1 (by rw [q4]; decide) (by rw [q4]; decide) (by rw [q4]; rfl) (by decide) ?_
    refine lv_aload_n hx hb dX11_isUnder_57 rfl (lv_at hl 0 rfl) ?_
    refine va_instNo hx hb XX.o (XX.t _ wd_265) (E2.2.2 _ (List.mem_of_getElem? (i := 22) rfl)) (Rc.mk XX I (q0 := 5) (ci := 7) rfl rfl) dX11_isUnder_58 ?_
    subst h
    exact e_z XX hr I rfl rfl dX11_isUnder_61
  replace h := if_f h q4
  by_cases q5 : x1 = (5 : Int32)
  · replace h := if_t h q5
    refine lv_tableIn (tgt := 62) (off := 61) hx hb dX11_isUnder_1 (by rw [q5]; decide) (by rw [q5]; decide) (by rw [q5]; rfl) (by decide) ?_
    refine lv_aload_n hx hb dX11_isUnder_62 rfl (lv_at hl 0 rfl) ?_
    refine va_instS hx hb XX.o (XX.t _ wd_275) (XX.at 7 rfl) (Rc.mk XX I (q0 := 5) (ci := 7) rfl rfl) dX11_isUnder_63 ?_
    subst h
    exact e_z XX hr I rfl rfl dX11_isUnder_66
  replace h := if_f h q5
  refine lv_tableOut (tgt := 67) hx hb dX11_isUnder_1 (tab_out (lo := 0) (hi := 5) (fun k k1 k2 => by rcases (show k = 0 ∨ k = 1 ∨ k = 2 ∨ k = 3 ∨ k = 4 ∨ k = 5 by omega) with rfl | rfl | rfl | rfl | rfl | rfl <;> assumption)) (by decide) ?_
  refine lv_iconst (v := 0) hx hb dX11_isUnder_67 (by decide) ?_
  subst h
  exact e_z XX hr I rfl rfl dX11_isUnder_68
set_option maxRecDepth 100000 in
theorem kV_X11_272 : KV RX11 272 RX11 yX11_thingOn cX11_thingOn 4 (some (.object "LifeNoes$Sayer")) 1 := KV.mk wd_826 wd_828 wd_1607 wd_1 wd_829 (by decide +kernel)
set_option maxRecDepth 100000 in
theorem kS_X11_276 : KS RX11 276 yX11_isUnder cX11_isUnder 2 (some .boolean) 2 := KS.mk wd_830 wd_831 wd_1 wd_832 (by decide +kernel)
set_option maxRecDepth 100000 in
theorem gO_X11_y09_n {p : Program} {l : Launch} {e : Env} {R : Room} {s0 : State} {m : MethodId} {args : Array Value} {below : List Frame} {meth : Method} {c : Code} {H : Heap} {locs : List Loc} {cells slots : Nat} {Q : State → Prop} {cc : ByteArray} {nL pc : Nat} {ls : Array Slot} {rest : List Value} {G : g_G} {A : Nat → Prop} {oa : Nat → Nat} {na : Nat → Nat} {ka : Nat → Nat} {aa : Nat → Nat} {wa : Nat → Nat} {ra : Nat → Nat} {ma : Nat → Nat} {pa : Nat → Nat} {sd : Nat → Nat → Nat} {yd : Nat → Nat} {td : Nat → Nat} {ow : g_St} {nw : g_St} {kp : g_St} {ah : g_St} {aw : g_St} {rd : g_St} {md : g_St} {tp : g_St} {hh : g_Sf} {th : g_St} {tr : g_St} (XX : Cx G A p s0 m meth c cc nL RX11 args) (I : Iv G A s0 H locs (bO G oa na ka aa ra pa sd yd td ow ++ (bV G na nw ++ (bV G ka kp ++ (bA G aa wa ah ++ (bV G wa aw ++ (bT G ra ma rd ++ (bV G ma md ++ (bP G pa tp ++ (bH G sd hh ++ (bY G yd td th ++ (bK G td tr ++ [])))))))))))) (hdg : decode cc pc = .ok (.getfield 280, 3)) (kk : W p l e R s0 m args below meth c H locs cells slots Q (F0 m (pc + 3) ls (.int (gi th 0) :: rest))) : W p l e R s0 m args below meth c H locs cells slots Q (F0 m pc ls (.ref (yd 0) :: rest)) := r_get kfX4 XX I 113 rfl 1 (Nat.le_of_ble_eq_true rfl) wd_221 rfl hdg kk
set_option maxRecDepth 100000 in
theorem gO_X11_y19_n {p : Program} {l : Launch} {e : Env} {R : Room} {s0 : State} {m : MethodId} {args : Array Value} {below : List Frame} {meth : Method} {c : Code} {H : Heap} {locs : List Loc} {cells slots : Nat} {Q : State → Prop} {cc : ByteArray} {nL pc : Nat} {ls : Array Slot} {rest : List Value} {G : g_G} {A : Nat → Prop} {oa : Nat → Nat} {na : Nat → Nat} {ka : Nat → Nat} {aa : Nat → Nat} {wa : Nat → Nat} {ra : Nat → Nat} {ma : Nat → Nat} {pa : Nat → Nat} {sd : Nat → Nat → Nat} {yd : Nat → Nat} {td : Nat → Nat} {ow : g_St} {nw : g_St} {kp : g_St} {ah : g_St} {aw : g_St} {rd : g_St} {md : g_St} {tp : g_St} {hh : g_Sf} {th : g_St} {tr : g_St} (XX : Cx G A p s0 m meth c cc nL RX11 args) (I : Iv G A s0 H locs (bO G oa na ka aa ra pa sd yd td ow ++ (bV G na nw ++ (bV G ka kp ++ (bA G aa wa ah ++ (bV G wa aw ++ (bT G ra ma rd ++ (bV G ma md ++ (bP G pa tp ++ (bH G sd hh ++ (bY G yd td th ++ (bK G td tr ++ [])))))))))))) (hdg : decode cc pc = .ok (.getfield 280, 3)) (kk : W p l e R s0 m args below meth c H locs cells slots Q (F0 m (pc + 3) ls (.int (gi th 1) :: rest))) : W p l e R s0 m args below meth c H locs cells slots Q (F0 m pc ls (.ref (yd 1) :: rest)) := r_get kfX3 XX I 114 rfl 1 (Nat.le_of_ble_eq_true rfl) wd_221 rfl hdg kk
set_option maxRecDepth 100000 in
theorem gO_X11_y29_n {p : Program} {l : Launch} {e : Env} {R : Room} {s0 : State} {m : MethodId} {args : Array Value} {below : List Frame} {meth : Method} {c : Code} {H : Heap} {locs : List Loc} {cells slots : Nat} {Q : State → Prop} {cc : ByteArray} {nL pc : Nat} {ls : Array Slot} {rest : List Value} {G : g_G} {A : Nat → Prop} {oa : Nat → Nat} {na : Nat → Nat} {ka : Nat → Nat} {aa : Nat → Nat} {wa : Nat → Nat} {ra : Nat → Nat} {ma : Nat → Nat} {pa : Nat → Nat} {sd : Nat → Nat → Nat} {yd : Nat → Nat} {td : Nat → Nat} {ow : g_St} {nw : g_St} {kp : g_St} {ah : g_St} {aw : g_St} {rd : g_St} {md : g_St} {tp : g_St} {hh : g_Sf} {th : g_St} {tr : g_St} (XX : Cx G A p s0 m meth c cc nL RX11 args) (I : Iv G A s0 H locs (bO G oa na ka aa ra pa sd yd td ow ++ (bV G na nw ++ (bV G ka kp ++ (bA G aa wa ah ++ (bV G wa aw ++ (bT G ra ma rd ++ (bV G ma md ++ (bP G pa tp ++ (bH G sd hh ++ (bY G yd td th ++ (bK G td tr ++ [])))))))))))) (hdg : decode cc pc = .ok (.getfield 280, 3)) (kk : W p l e R s0 m args below meth c H locs cells slots Q (F0 m (pc + 3) ls (.int (gi th 2) :: rest))) : W p l e R s0 m args below meth c H locs cells slots Q (F0 m pc ls (.ref (yd 2) :: rest)) := r_get kfX1 XX I 115 rfl 1 (Nat.le_of_ble_eq_true rfl) wd_221 rfl hdg kk
set_option maxRecDepth 100000 in
theorem gO_X11_y39_n {p : Program} {l : Launch} {e : Env} {R : Room} {s0 : State} {m : MethodId} {args : Array Value} {below : List Frame} {meth : Method} {c : Code} {H : Heap} {locs : List Loc} {cells slots : Nat} {Q : State → Prop} {cc : ByteArray} {nL pc : Nat} {ls : Array Slot} {rest : List Value} {G : g_G} {A : Nat → Prop} {oa : Nat → Nat} {na : Nat → Nat} {ka : Nat → Nat} {aa : Nat → Nat} {wa : Nat → Nat} {ra : Nat → Nat} {ma : Nat → Nat} {pa : Nat → Nat} {sd : Nat → Nat → Nat} {yd : Nat → Nat} {td : Nat → Nat} {ow : g_St} {nw : g_St} {kp : g_St} {ah : g_St} {aw : g_St} {rd : g_St} {md : g_St} {tp : g_St} {hh : g_Sf} {th : g_St} {tr : g_St} (XX : Cx G A p s0 m meth c cc nL RX11 args) (I : Iv G A s0 H locs (bO G oa na ka aa ra pa sd yd td ow ++ (bV G na nw ++ (bV G ka kp ++ (bA G aa wa ah ++ (bV G wa aw ++ (bT G ra ma rd ++ (bV G ma md ++ (bP G pa tp ++ (bH G sd hh ++ (bY G yd td th ++ (bK G td tr ++ [])))))))))))) (hdg : decode cc pc = .ok (.getfield 280, 3)) (kk : W p l e R s0 m args below meth c H locs cells slots Q (F0 m (pc + 3) ls (.int (gi th 3) :: rest))) : W p l e R s0 m args below meth c H locs cells slots Q (F0 m pc ls (.ref (yd 3) :: rest)) := r_get kfX10 XX I 116 rfl 1 (Nat.le_of_ble_eq_true rfl) wd_221 rfl hdg kk
set_option maxRecDepth 100000 in
theorem gO_X11_y49_n {p : Program} {l : Launch} {e : Env} {R : Room} {s0 : State} {m : MethodId} {args : Array Value} {below : List Frame} {meth : Method} {c : Code} {H : Heap} {locs : List Loc} {cells slots : Nat} {Q : State → Prop} {cc : ByteArray} {nL pc : Nat} {ls : Array Slot} {rest : List Value} {G : g_G} {A : Nat → Prop} {oa : Nat → Nat} {na : Nat → Nat} {ka : Nat → Nat} {aa : Nat → Nat} {wa : Nat → Nat} {ra : Nat → Nat} {ma : Nat → Nat} {pa : Nat → Nat} {sd : Nat → Nat → Nat} {yd : Nat → Nat} {td : Nat → Nat} {ow : g_St} {nw : g_St} {kp : g_St} {ah : g_St} {aw : g_St} {rd : g_St} {md : g_St} {tp : g_St} {hh : g_Sf} {th : g_St} {tr : g_St} (XX : Cx G A p s0 m meth c cc nL RX11 args) (I : Iv G A s0 H locs (bO G oa na ka aa ra pa sd yd td ow ++ (bV G na nw ++ (bV G ka kp ++ (bA G aa wa ah ++ (bV G wa aw ++ (bT G ra ma rd ++ (bV G ma md ++ (bP G pa tp ++ (bH G sd hh ++ (bY G yd td th ++ (bK G td tr ++ [])))))))))))) (hdg : decode cc pc = .ok (.getfield 280, 3)) (kk : W p l e R s0 m args below meth c H locs cells slots Q (F0 m (pc + 3) ls (.int (gi th 4) :: rest))) : W p l e R s0 m args below meth c H locs cells slots Q (F0 m pc ls (.ref (yd 4) :: rest)) := r_get kfX2 XX I 117 rfl 1 (Nat.le_of_ble_eq_true rfl) wd_221 rfl hdg kk
set_option maxRecDepth 100000 in
theorem gO_X11_y59_n {p : Program} {l : Launch} {e : Env} {R : Room} {s0 : State} {m : MethodId} {args : Array Value} {below : List Frame} {meth : Method} {c : Code} {H : Heap} {locs : List Loc} {cells slots : Nat} {Q : State → Prop} {cc : ByteArray} {nL pc : Nat} {ls : Array Slot} {rest : List Value} {G : g_G} {A : Nat → Prop} {oa : Nat → Nat} {na : Nat → Nat} {ka : Nat → Nat} {aa : Nat → Nat} {wa : Nat → Nat} {ra : Nat → Nat} {ma : Nat → Nat} {pa : Nat → Nat} {sd : Nat → Nat → Nat} {yd : Nat → Nat} {td : Nat → Nat} {ow : g_St} {nw : g_St} {kp : g_St} {ah : g_St} {aw : g_St} {rd : g_St} {md : g_St} {tp : g_St} {hh : g_Sf} {th : g_St} {tr : g_St} (XX : Cx G A p s0 m meth c cc nL RX11 args) (I : Iv G A s0 H locs (bO G oa na ka aa ra pa sd yd td ow ++ (bV G na nw ++ (bV G ka kp ++ (bA G aa wa ah ++ (bV G wa aw ++ (bT G ra ma rd ++ (bV G ma md ++ (bP G pa tp ++ (bH G sd hh ++ (bY G yd td th ++ (bK G td tr ++ [])))))))))))) (hdg : decode cc pc = .ok (.getfield 280, 3)) (kk : W p l e R s0 m args below meth c H locs cells slots Q (F0 m (pc + 3) ls (.int (gi th 5) :: rest))) : W p l e R s0 m args below meth c H locs cells slots Q (F0 m pc ls (.ref (yd 5) :: rest)) := r_get kfX7 XX I 118 rfl 1 (Nat.le_of_ble_eq_true rfl) wd_221 rfl hdg kk
set_option maxHeartbeats 4000000 in
set_option maxRecDepth 100000 in
theorem c_O_taken (l : Launch) (G : g_G) (OK : EOk G.2.2) (hXI : HXI G) (oa : Nat → Nat) (na : Nat → Nat) (ka : Nat → Nat) (aa : Nat → Nat) (wa : Nat → Nat) (ra : Nat → Nat) (ma : Nat → Nat) (pa : Nat → Nat) (sd : Nat → Nat → Nat) (yd : Nat → Nat) (td : Nat → Nat) (owa : g_St) (nwa : g_St) (kpa : g_St) (aha : g_St) (awa : g_St) (rda : g_St) (mda : g_St) (tpa : g_St) (hha : g_Sf) (tha : g_St) (tra : g_St) (x1 : Int32) (x2 : Int32) (r : Int32) (tth : g_St) (h : f_O_taken owa nwa tha x1 x2 = some (r, tth)) : HI l G yX11_taken (Cond.code yX11_taken cX11_taken 4 (some .int) :: gT) { frames := 2, cells := 0, slots := 0, locals := 45 } .int [.ref (oa 0), .int x1, .int x2] (bO G oa na ka aa ra pa sd yd td owa ++ (bV G na nwa ++ (bV G ka kpa ++ (bA G aa wa aha ++ (bV G wa awa ++ (bT G ra ma rda ++ (bV G ma mda ++ (bP G pa tpa ++ (bH G sd hha ++ (bY G yd td tha ++ (bK G td tra ++ []))))))))))) r (bO G oa na ka aa ra pa sd yd td owa ++ (bV G na nwa ++ (bV G ka kpa ++ (bA G aa wa aha ++ (bV G wa awa ++ (bT G ra ma rda ++ (bV G ma mda ++ (bP G pa tpa ++ (bH G sd hha ++ (bY G yd td tth ++ (bK G td tra ++ []))))))))))) := by
  refine HI.mk (lv := [(0, .ref (oa 0)), (1, .int x1), (2, .int x2)]) OK (by decide) (Nat.le_of_ble_eq_true rfl) rfl ?_
  intro p e s0 m args below meth c ls XX hr I hl
  have hx := XX.x
  have hb := XX.b
  have E2 := hXI _ _ _ XX.E
  have C33 : ∀ (th : g_St) (v1 : Int32) (v2 : Int32), f_O_taken_L33 owa nwa th v1 v2 = some (r, tth) → ∀ (H : Heap) (locs : List Loc), Iv G (va_A (bO G oa na ka aa ra pa sd yd td owa ++ (bV G na nwa ++ (bV G ka kpa ++ (bA G aa wa aha ++ (bV G wa awa ++ (bT G ra ma rda ++ (bV G ma mda ++ (bP G pa tpa ++ (bH G sd hha ++ (bY G yd td tha ++ (bK G td tra ++ []))))))))))) s0.heap.size) s0 H locs (bO G oa na ka aa ra pa sd yd td owa ++ (bV G na nwa ++ (bV G ka kpa ++ (bA G aa wa aha ++ (bV G wa awa ++ (bT G ra ma rda ++ (bV G ma mda ++ (bP G pa tpa ++ (bH G sd hha ++ (bY G yd td th ++ (bK G td tra ++ []))))))))))) → ∀ ls, lv_has ls 4 [(0, .ref (oa 0)), (1, .int v1), (2, .int v2)] → W p l e { frames := 2, cells := 0, slots := 0, locals := 45 } s0 m args below meth c H locs 0 0 (QI G below .int r (bO G oa na ka aa ra pa sd yd td owa ++ (bV G na nwa ++ (bV G ka kpa ++ (bA G aa wa aha ++ (bV G wa awa ++ (bT G ra ma rda ++ (bV G ma mda ++ (bP G pa tpa ++ (bH G sd hha ++ (bY G yd td tha ++ (bK G td tra ++ []))))))))))) (bO G oa na ka aa ra pa sd yd td owa ++ (bV G na nwa ++ (bV G ka kpa ++ (bA G aa wa aha ++ (bV G wa awa ++ (bT G ra ma rda ++ (bV G ma mda ++ (bP G pa tpa ++ (bH G sd hha ++ (bY G yd td tth ++ (bK G td tra ++ []))))))))))) args s0) (F0 m 33 ls []) := by
    skip
    intro th v1 v2 h H locs I ls hl
    unfold f_O_taken_L33 at h
    refine lv_aload_n hx hb dX11_taken_33 rfl (lv_at hl 0 rfl) ?_
    refine gO_X11_o0_shelfHolds XX I dX11_taken_34 ?_
    refine lv_iload_n hx hb dX11_taken_37 rfl (lv_at hl 1 rfl) ?_
    obtain ⟨g4, h⟩ := gd_some h
    refine r_iald XX I 4 (aO_shelfHolds0) g4 dX11_taken_38 ?_
    refine lv_iconst (v := 1) hx hb dX11_taken_39 (by decide) ?_
    refine lv_icmp_ne (tgt := 68) hx hb dX11_taken_40 (by decide) (fun c1 => ?_) (fun c1 => ?_)
    · replace h := if_f h c1
      refine lv_aload_n hx hb dX11_taken_68 rfl (lv_at hl 0 rfl) ?_
      refine lv_iload_n hx hb dX11_taken_69 rfl (lv_at hl 1 rfl) ?_
      obtain ⟨r5, s6, q7, h⟩ := bd2_some h
      replace I := I.whole
      refine call_q (X := []) (wc := (bO G oa na ka aa ra pa sd yd td owa ++ (bV G na nwa ++ (bV G ka kpa ++ (bA G aa wa aha ++ (bV G wa awa ++ (bT G ra ma rda ++ (bV G ma mda ++ (bP G pa tpa ++ (bH G sd hha ++ (bY G yd td th ++ (bK G td tra ++ [])))))))))))) (Y := []) (rest := []) XX I hl.1 (c_O_thingOn l G OK oa na ka aa wa ra ma pa sd yd td owa nwa kpa aha awa rda mda tpa hha th tra v1 r5 s6 q7) kV_X11_272 (Rc.mk XX I (q0 := 0) (ci := 11) rfl rfl) rfl rfl (Nat.le_of_ble_eq_true rfl) ⟨rfl, rfl, Nat.le_of_ble_eq_true rfl, Nat.le_of_ble_eq_true rfl⟩ ⟨Nat.zero_le _, Nat.zero_le _⟩ dX11_taken_70 (fun H locs I => ?_)
      replace I : Iv G (va_A (bO G oa na ka aa ra pa sd yd td owa ++ (bV G na nwa ++ (bV G ka kpa ++ (bA G aa wa aha ++ (bV G wa awa ++ (bT G ra ma rda ++ (bV G ma mda ++ (bP G pa tpa ++ (bH G sd hha ++ (bY G yd td tha ++ (bK G td tra ++ []))))))))))) s0.heap.size) s0 H locs (bO G oa na ka aa ra pa sd yd td owa ++ (bV G na nwa ++ (bV G ka kpa ++ (bA G aa wa aha ++ (bV G wa awa ++ (bT G ra ma rda ++ (bV G ma mda ++ (bP G pa tpa ++ (bH G sd hha ++ (bY G yd td s6 ++ (bK G td tra ++ []))))))))))) := I.unw
      by_cases qn : r5 = (none : Option Nat)
      · replace h := if_t h qn
        subst qn
        refine W.eq (g2 := F0 m 73 ls [.null]) rfl ?_
        refine lv_astore_nN (lv' := [(3, .null), (0, .ref (oa 0)), (1, .int v1), (2, .int v2)]) hx hb dX11_taken_73 rfl hl (by decide) rfl (fun ls hl => ?_)
        refine lv_aload_nN hx hb dX11_taken_74 rfl (lv_at hl 0 rfl) ?_
        refine lv_ifnonnullN hx hb dX11_taken_75 ?_
        refine lv_bipush (v := (-11)) hx hb dX11_taken_78 (by decide) ?_
        obtain ⟨rfl, rfl⟩ := some2 h
        exact e_i rfl XX hr I rfl dX11_taken_80
      replace h := if_f h qn
      by_cases qn0 : r5 = (some 0 : Option Nat)
      · replace h := if_t h qn0
        subst qn0
        refine W.eq (g2 := F0 m 73 ls [.ref (yd 0)]) rfl ?_
        refine lv_astore_n (lv' := [(3, .ref (yd 0)), (0, .ref (oa 0)), (1, .int v1), (2, .int v2)]) hx hb dX11_taken_73 rfl hl (by decide) rfl (fun ls hl => ?_)
        refine lv_aload_n hx hb dX11_taken_74 rfl (lv_at hl 0 rfl) ?_
        refine lv_ifnonnull (tgt := 81) hx hb dX11_taken_75 (by decide) ?_
        refine lv_aload_n hx hb dX11_taken_81 rfl (lv_at hl 0 rfl) ?_
        refine lv_iload_n hx hb dX11_taken_82 rfl (lv_at hl 3 rfl) ?_
        replace I : Iv G (va_A (bO G oa na ka aa ra pa sd yd td owa ++ (bV G na nwa ++ (bV G ka kpa ++ (bA G aa wa aha ++ (bV G wa awa ++ (bT G ra ma rda ++ (bV G ma mda ++ (bP G pa tpa ++ (bH G sd hha ++ (bY G yd td tha ++ (bK G td tra ++ []))))))))))) s0.heap.size) s0 _ _ (((bY G yd td s6 ++ (bK G td tra ++ []))) ++ (bO G oa na ka aa ra pa sd yd td owa ++ (bV G na nwa ++ (bV G ka kpa ++ (bA G aa wa aha ++ (bV G wa awa ++ (bT G ra ma rda ++ (bV G ma mda ++ (bP G pa tpa ++ (bH G sd hha ++ [])))))))))) := I.perm ((((List.Perm.append_left _ ((List.Perm.append_left _ ((List.Perm.append_left _ ((List.Perm.append_left _ ((List.Perm.append_left _ ((List.Perm.append_left _ ((List.Perm.append_left _ ((List.Perm.append_left _ ((List.Perm.append_left _ (List.Perm.refl _)).trans (List.perm_append_comm_assoc _ _ _))).trans (List.perm_append_comm_assoc _ _ _))).trans (List.perm_append_comm_assoc _ _ _))).trans (List.perm_append_comm_assoc _ _ _))).trans (List.perm_append_comm_assoc _ _ _))).trans (List.perm_append_comm_assoc _ _ _))).trans (List.perm_append_comm_assoc _ _ _))).trans (List.perm_append_comm_assoc _ _ _))).trans (List.perm_append_comm_assoc _ _ _)).trans (List.Perm.append_left _ ((List.Perm.append_left _ ((List.Perm.append_left _ ((List.Perm.append_left _ ((List.Perm.append_left _ ((List.Perm.append_left _ ((List.Perm.append_left _ ((List.Perm.append_left _ ((List.Perm.append_left _ ((List.Perm.append_left _ (List.Perm.refl _)).trans (List.perm_append_comm_assoc _ _ _))).trans (List.perm_append_comm_assoc _ _ _))).trans (List.perm_append_comm_assoc _ _ _))).trans (List.perm_append_comm_assoc _ _ _))).trans (List.perm_append_comm_assoc _ _ _))).trans (List.perm_append_comm_assoc _ _ _))).trans (List.perm_append_comm_assoc _ _ _))).trans (List.perm_append_comm_assoc _ _ _))).trans (List.perm_append_comm_assoc _ _ _)))).trans pasc2)
        refine swcall_i (X := []) (wc := (bY G yd td s6 ++ (bK G td tra ++ []))) (Y := (bO G oa na ka aa ra pa sd yd td owa ++ (bV G na nwa ++ (bV G ka kpa ++ (bA G aa wa aha ++ (bV G wa awa ++ (bT G ra ma rda ++ (bV G ma mda ++ (bP G pa tpa ++ (bH G sd hha ++ [])))))))))) (rest := []) XX I hl.1 (c_Y_isUnder_y0 l G OK hXI yd td s6 tra v2 _ rfl) kS_X11_276 rfl rfl (Nat.le_of_ble_eq_true rfl) ⟨rfl, rfl, Nat.le_of_ble_eq_true rfl, Nat.le_of_ble_eq_true rfl⟩ ⟨Nat.zero_le _, Nat.zero_le _⟩ dX11_taken_83 (fun H locs hz8 I => ?_)
        replace I : Iv G (va_A (bO G oa na ka aa ra pa sd yd td owa ++ (bV G na nwa ++ (bV G ka kpa ++ (bA G aa wa aha ++ (bV G wa awa ++ (bT G ra ma rda ++ (bV G ma mda ++ (bP G pa tpa ++ (bH G sd hha ++ (bY G yd td tha ++ (bK G td tra ++ []))))))))))) s0.heap.size) s0 H locs (bO G oa na ka aa ra pa sd yd td owa ++ (bV G na nwa ++ (bV G ka kpa ++ (bA G aa wa aha ++ (bV G wa awa ++ (bT G ra ma rda ++ (bV G ma mda ++ (bP G pa tpa ++ (bH G sd hha ++ (bY G yd td s6 ++ (bK G td tra ++ []))))))))))) := Iv.perm (w := ((bY G yd td s6 ++ (bK G td tra ++ []))) ++ (bO G oa na ka aa ra pa sd yd td owa ++ (bV G na nwa ++ (bV G ka kpa ++ (bA G aa wa aha ++ (bV G wa awa ++ (bT G ra ma rda ++ (bV G ma mda ++ (bP G pa tpa ++ (bH G sd hha ++ [])))))))))) I (((((List.Perm.append_left _ ((List.Perm.append_left _ ((List.Perm.append_left _ ((List.Perm.append_left _ ((List.Perm.append_left _ ((List.Perm.append_left _ ((List.Perm.append_left _ ((List.Perm.append_left _ ((List.Perm.append_left _ (List.Perm.refl _)).trans (List.perm_append_comm_assoc _ _ _))).trans (List.perm_append_comm_assoc _ _ _))).trans (List.perm_append_comm_assoc _ _ _))).trans (List.perm_append_comm_assoc _ _ _))).trans (List.perm_append_comm_assoc _ _ _))).trans (List.perm_append_comm_assoc _ _ _))).trans (List.perm_append_comm_assoc _ _ _))).trans (List.perm_append_comm_assoc _ _ _))).trans (List.perm_append_comm_assoc _ _ _)).trans (List.Perm.append_left _ ((List.Perm.append_left _ ((List.Perm.append_left _ ((List.Perm.append_left _ ((List.Perm.append_left _ ((List.Perm.append_left _ ((List.Perm.append_left _ ((List.Perm.append_left _ ((List.Perm.append_left _ ((List.Perm.append_left _ (List.Perm.refl _)).trans (List.perm_append_comm_assoc _ _ _))).trans (List.perm_append_comm_assoc _ _ _))).trans (List.perm_append_comm_assoc _ _ _))).trans (List.perm_append_comm_assoc _ _ _))).trans (List.perm_append_comm_assoc _ _ _))).trans (List.perm_append_comm_assoc _ _ _))).trans (List.perm_append_comm_assoc _ _ _))).trans (List.perm_append_comm_assoc _ _ _))).trans (List.perm_append_comm_assoc _ _ _)))).trans pasc2).symm)
        refine lv_if_eq (tgt := 96) hx hb dX11_taken_86 (by decide) (fun c1 => ?_) (fun c1 => ?_)
        · replace h := if_t h c1
          refine lv_bipush (v := (-13)) hx hb dX11_taken_96 (by decide) ?_
          obtain ⟨rfl, rfl⟩ := some2 h
          exact e_i rfl XX hr I rfl dX11_taken_98
        · replace h := if_f h c1
          refine lv_aload_n hx hb dX11_taken_89 rfl (lv_at hl 0 rfl) ?_
          refine gO_X11_y09_n XX I dX11_taken_90 ?_
          refine lv_goto (tgt := 98) hx hb dX11_taken_93 (by decide) ?_
          obtain ⟨rfl, rfl⟩ := some2 h
          exact e_i rfl XX hr I rfl dX11_taken_98
      replace h := if_f h qn0
      by_cases qn1 : r5 = (some 1 : Option Nat)
      · replace h := if_t h qn1
        subst qn1
        refine W.eq (g2 := F0 m 73 ls [.ref (yd 1)]) rfl ?_
        refine lv_astore_n (lv' := [(3, .ref (yd 1)), (0, .ref (oa 0)), (1, .int v1), (2, .int v2)]) hx hb dX11_taken_73 rfl hl (by decide) rfl (fun ls hl => ?_)
        refine lv_aload_n hx hb dX11_taken_74 rfl (lv_at hl 0 rfl) ?_
        refine lv_ifnonnull (tgt := 81) hx hb dX11_taken_75 (by decide) ?_
        refine lv_aload_n hx hb dX11_taken_81 rfl (lv_at hl 0 rfl) ?_
        refine lv_iload_n hx hb dX11_taken_82 rfl (lv_at hl 3 rfl) ?_
        replace I : Iv G (va_A (bO G oa na ka aa ra pa sd yd td owa ++ (bV G na nwa ++ (bV G ka kpa ++ (bA G aa wa aha ++ (bV G wa awa ++ (bT G ra ma rda ++ (bV G ma mda ++ (bP G pa tpa ++ (bH G sd hha ++ (bY G yd td tha ++ (bK G td tra ++ []))))))))))) s0.heap.size) s0 _ _ (((bY G yd td s6 ++ (bK G td tra ++ []))) ++ (bO G oa na ka aa ra pa sd yd td owa ++ (bV G na nwa ++ (bV G ka kpa ++ (bA G aa wa aha ++ (bV G wa awa ++ (bT G ra ma rda ++ (bV G ma mda ++ (bP G pa tpa ++ (bH G sd hha ++ [])))))))))) := I.perm ((((List.Perm.append_left _ ((List.Perm.append_left _ ((List.Perm.append_left _ ((List.Perm.append_left _ ((List.Perm.append_left _ ((List.Perm.append_left _ ((List.Perm.append_left _ ((List.Perm.append_left _ ((List.Perm.append_left _ (List.Perm.refl _)).trans (List.perm_append_comm_assoc _ _ _))).trans (List.perm_append_comm_assoc _ _ _))).trans (List.perm_append_comm_assoc _ _ _))).trans (List.perm_append_comm_assoc _ _ _))).trans (List.perm_append_comm_assoc _ _ _))).trans (List.perm_append_comm_assoc _ _ _))).trans (List.perm_append_comm_assoc _ _ _))).trans (List.perm_append_comm_assoc _ _ _))).trans (List.perm_append_comm_assoc _ _ _)).trans (List.Perm.append_left _ ((List.Perm.append_left _ ((List.Perm.append_left _ ((List.Perm.append_left _ ((List.Perm.append_left _ ((List.Perm.append_left _ ((List.Perm.append_left _ ((List.Perm.append_left _ ((List.Perm.append_left _ ((List.Perm.append_left _ (List.Perm.refl _)).trans (List.perm_append_comm_assoc _ _ _))).trans (List.perm_append_comm_assoc _ _ _))).trans (List.perm_append_comm_assoc _ _ _))).trans (List.perm_append_comm_assoc _ _ _))).trans (List.perm_append_comm_assoc _ _ _))).trans (List.perm_append_comm_assoc _ _ _))).trans (List.perm_append_comm_assoc _ _ _))).trans (List.perm_append_comm_assoc _ _ _))).trans (List.perm_append_comm_assoc _ _ _)))).trans pasc2)
        refine swcall_i (X := []) (wc := (bY G yd td s6 ++ (bK G td tra ++ []))) (Y := (bO G oa na ka aa ra pa sd yd td owa ++ (bV G na nwa ++ (bV G ka kpa ++ (bA G aa wa aha ++ (bV G wa awa ++ (bT G ra ma rda ++ (bV G ma mda ++ (bP G pa tpa ++ (bH G sd hha ++ [])))))))))) (rest := []) XX I hl.1 (c_Y_isUnder_y1 l G OK hXI yd td s6 tra v2 _ rfl) kS_X11_276 rfl rfl (Nat.le_of_ble_eq_true rfl) ⟨rfl, rfl, Nat.le_of_ble_eq_true rfl, Nat.le_of_ble_eq_true rfl⟩ ⟨Nat.zero_le _, Nat.zero_le _⟩ dX11_taken_83 (fun H locs hz9 I => ?_)
        replace I : Iv G (va_A (bO G oa na ka aa ra pa sd yd td owa ++ (bV G na nwa ++ (bV G ka kpa ++ (bA G aa wa aha ++ (bV G wa awa ++ (bT G ra ma rda ++ (bV G ma mda ++ (bP G pa tpa ++ (bH G sd hha ++ (bY G yd td tha ++ (bK G td tra ++ []))))))))))) s0.heap.size) s0 H locs (bO G oa na ka aa ra pa sd yd td owa ++ (bV G na nwa ++ (bV G ka kpa ++ (bA G aa wa aha ++ (bV G wa awa ++ (bT G ra ma rda ++ (bV G ma mda ++ (bP G pa tpa ++ (bH G sd hha ++ (bY G yd td s6 ++ (bK G td tra ++ []))))))))))) := Iv.perm (w := ((bY G yd td s6 ++ (bK G td tra ++ []))) ++ (bO G oa na ka aa ra pa sd yd td owa ++ (bV G na nwa ++ (bV G ka kpa ++ (bA G aa wa aha ++ (bV G wa awa ++ (bT G ra ma rda ++ (bV G ma mda ++ (bP G pa tpa ++ (bH G sd hha ++ [])))))))))) I (((((List.Perm.append_left _ ((List.Perm.append_left _ ((List.Perm.append_left _ ((List.Perm.append_left _ ((List.Perm.append_left _ ((List.Perm.append_left _ ((List.Perm.append_left _ ((List.Perm.append_left _ ((List.Perm.append_left _ (List.Perm.refl _)).trans (List.perm_append_comm_assoc _ _ _))).trans (List.perm_append_comm_assoc _ _ _))).trans (List.perm_append_comm_assoc _ _ _))).trans (List.perm_append_comm_assoc _ _ _))).trans (List.perm_append_comm_assoc _ _ _))).trans (List.perm_append_comm_assoc _ _ _))).trans (List.perm_append_comm_assoc _ _ _))).trans (List.perm_append_comm_assoc _ _ _))).trans (List.perm_append_comm_assoc _ _ _)).trans (List.Perm.append_left _ ((List.Perm.append_left _ ((List.Perm.append_left _ ((List.Perm.append_left _ ((List.Perm.append_left _ ((List.Perm.append_left _ ((List.Perm.append_left _ ((List.Perm.append_left _ ((List.Perm.append_left _ ((List.Perm.append_left _ (List.Perm.refl _)).trans (List.perm_append_comm_assoc _ _ _))).trans (List.perm_append_comm_assoc _ _ _))).trans (List.perm_append_comm_assoc _ _ _))).trans (List.perm_append_comm_assoc _ _ _))).trans (List.perm_append_comm_assoc _ _ _))).trans (List.perm_append_comm_assoc _ _ _))).trans (List.perm_append_comm_assoc _ _ _))).trans (List.perm_append_comm_assoc _ _ _))).trans (List.perm_append_comm_assoc _ _ _)))).trans pasc2).symm)
        refine lv_if_eq (tgt := 96) hx hb dX11_taken_86 (by decide) (fun c1 => ?_) (fun c1 => ?_)
        · replace h := if_t h c1
          refine lv_bipush (v := (-13)) hx hb dX11_taken_96 (by decide) ?_
          obtain ⟨rfl, rfl⟩ := some2 h
          exact e_i rfl XX hr I rfl dX11_taken_98
        · replace h := if_f h c1
          refine lv_aload_n hx hb dX11_taken_89 rfl (lv_at hl 0 rfl) ?_
          refine gO_X11_y19_n XX I dX11_taken_90 ?_
          refine lv_goto (tgt := 98) hx hb dX11_taken_93 (by decide) ?_
          obtain ⟨rfl, rfl⟩ := some2 h
          exact e_i rfl XX hr I rfl dX11_taken_98
      replace h := if_f h qn1
      by_cases qn2 : r5 = (some 2 : Option Nat)
      · replace h := if_t h qn2
        subst qn2
        refine W.eq (g2 := F0 m 73 ls [.ref (yd 2)]) rfl ?_
        refine lv_astore_n (lv' := [(3, .ref (yd 2)), (0, .ref (oa 0)), (1, .int v1), (2, .int v2)]) hx hb dX11_taken_73 rfl hl (by decide) rfl (fun ls hl => ?_)
        refine lv_aload_n hx hb dX11_taken_74 rfl (lv_at hl 0 rfl) ?_
        refine lv_ifnonnull (tgt := 81) hx hb dX11_taken_75 (by decide) ?_
        refine lv_aload_n hx hb dX11_taken_81 rfl (lv_at hl 0 rfl) ?_
        refine lv_iload_n hx hb dX11_taken_82 rfl (lv_at hl 3 rfl) ?_
        replace I : Iv G (va_A (bO G oa na ka aa ra pa sd yd td owa ++ (bV G na nwa ++ (bV G ka kpa ++ (bA G aa wa aha ++ (bV G wa awa ++ (bT G ra ma rda ++ (bV G ma mda ++ (bP G pa tpa ++ (bH G sd hha ++ (bY G yd td tha ++ (bK G td tra ++ []))))))))))) s0.heap.size) s0 _ _ (((bY G yd td s6 ++ (bK G td tra ++ []))) ++ (bO G oa na ka aa ra pa sd yd td owa ++ (bV G na nwa ++ (bV G ka kpa ++ (bA G aa wa aha ++ (bV G wa awa ++ (bT G ra ma rda ++ (bV G ma mda ++ (bP G pa tpa ++ (bH G sd hha ++ [])))))))))) := I.perm ((((List.Perm.append_left _ ((List.Perm.append_left _ ((List.Perm.append_left _ ((List.Perm.append_left _ ((List.Perm.append_left _ ((List.Perm.append_left _ ((List.Perm.append_left _ ((List.Perm.append_left _ ((List.Perm.append_left _ (List.Perm.refl _)).trans (List.perm_append_comm_assoc _ _ _))).trans (List.perm_append_comm_assoc _ _ _))).trans (List.perm_append_comm_assoc _ _ _))).trans (List.perm_append_comm_assoc _ _ _))).trans (List.perm_append_comm_assoc _ _ _))).trans (List.perm_append_comm_assoc _ _ _))).trans (List.perm_append_comm_assoc _ _ _))).trans (List.perm_append_comm_assoc _ _ _))).trans (List.perm_append_comm_assoc _ _ _)).trans (List.Perm.append_left _ ((List.Perm.append_left _ ((List.Perm.append_left _ ((List.Perm.append_left _ ((List.Perm.append_left _ ((List.Perm.append_left _ ((List.Perm.append_left _ ((List.Perm.append_left _ ((List.Perm.append_left _ ((List.Perm.append_left _ (List.Perm.refl _)).trans (List.perm_append_comm_assoc _ _ _))).trans (List.perm_append_comm_assoc _ _ _))).trans (List.perm_append_comm_assoc _ _ _))).trans (List.perm_append_comm_assoc _ _ _))).trans (List.perm_append_comm_assoc _ _ _))).trans (List.perm_append_comm_assoc _ _ _))).trans (List.perm_append_comm_assoc _ _ _))).trans (List.perm_append_comm_assoc _ _ _))).trans (List.perm_append_comm_assoc _ _ _)))).trans pasc2)
        refine swcall_i (X := []) (wc := (bY G yd td s6 ++ (bK G td tra ++ []))) (Y := (bO G oa na ka aa ra pa sd yd td owa ++ (bV G na nwa ++ (bV G ka kpa ++ (bA G aa wa aha ++ (bV G wa awa ++ (bT G ra ma rda ++ (bV G ma mda ++ (bP G pa tpa ++ (bH G sd hha ++ [])))))))))) (rest := []) XX I hl.1 (c_Y_isUnder_y2 l G OK hXI yd td s6 tra v2 _ rfl) kS_X11_276 rfl rfl (Nat.le_of_ble_eq_true rfl) ⟨rfl, rfl, Nat.le_of_ble_eq_true rfl, Nat.le_of_ble_eq_true rfl⟩ ⟨Nat.zero_le _, Nat.zero_le _⟩ dX11_taken_83 (fun H locs hz10 I => ?_)
        replace I : Iv G (va_A (bO G oa na ka aa ra pa sd yd td owa ++ (bV G na nwa ++ (bV G ka kpa ++ (bA G aa wa aha ++ (bV G wa awa ++ (bT G ra ma rda ++ (bV G ma mda ++ (bP G pa tpa ++ (bH G sd hha ++ (bY G yd td tha ++ (bK G td tra ++ []))))))))))) s0.heap.size) s0 H locs (bO G oa na ka aa ra pa sd yd td owa ++ (bV G na nwa ++ (bV G ka kpa ++ (bA G aa wa aha ++ (bV G wa awa ++ (bT G ra ma rda ++ (bV G ma mda ++ (bP G pa tpa ++ (bH G sd hha ++ (bY G yd td s6 ++ (bK G td tra ++ []))))))))))) := Iv.perm (w := ((bY G yd td s6 ++ (bK G td tra ++ []))) ++ (bO G oa na ka aa ra pa sd yd td owa ++ (bV G na nwa ++ (bV G ka kpa ++ (bA G aa wa aha ++ (bV G wa awa ++ (bT G ra ma rda ++ (bV G ma mda ++ (bP G pa tpa ++ (bH G sd hha ++ [])))))))))) I (((((List.Perm.append_left _ ((List.Perm.append_left _ ((List.Perm.append_left _ ((List.Perm.append_left _ ((List.Perm.append_left _ ((List.Perm.append_left _ ((List.Perm.append_left _ ((List.Perm.append_left _ ((List.Perm.append_left _ (List.Perm.refl _)).trans (List.perm_append_comm_assoc _ _ _))).trans (List.perm_append_comm_assoc _ _ _))).trans (List.perm_append_comm_assoc _ _ _))).trans (List.perm_append_comm_assoc _ _ _))).trans (List.perm_append_comm_assoc _ _ _))).trans (List.perm_append_comm_assoc _ _ _))).trans (List.perm_append_comm_assoc _ _ _))).trans (List.perm_append_comm_assoc _ _ _))).trans (List.perm_append_comm_assoc _ _ _)).trans (List.Perm.append_left _ ((List.Perm.append_left _ ((List.Perm.append_left _ ((List.Perm.append_left _ ((List.Perm.append_left _ ((List.Perm.append_left _ ((List.Perm.append_left _ ((List.Perm.append_left _ ((List.Perm.append_left _ ((List.Perm.append_left _ (List.Perm.refl _)).trans (List.perm_append_comm_assoc _ _ _))).trans (List.perm_append_comm_assoc _ _ _))).trans (List.perm_append_comm_assoc _ _ _))).trans (List.perm_append_comm_assoc _ _ _))).trans (List.perm_append_comm_assoc _ _ _))).trans (List.perm_append_comm_assoc _ _ _))).trans (List.perm_append_comm_assoc _ _ _))).trans (List.perm_append_comm_assoc _ _ _))).trans (List.perm_append_comm_assoc _ _ _)))).trans pasc2).symm)
        refine lv_if_eq (tgt := 96) hx hb dX11_taken_86 (by decide) (fun c1 => ?_) (fun c1 => ?_)
        · replace h := if_t h c1
          refine lv_bipush (v := (-13)) hx hb dX11_taken_96 (by decide) ?_
          obtain ⟨rfl, rfl⟩ := some2 h
          exact e_i rfl XX hr I rfl dX11_taken_98
        · replace h := if_f h c1
          refine lv_aload_n hx hb dX11_taken_89 rfl (lv_at hl 0 rfl) ?_
          refine gO_X11_y29_n XX I dX11_taken_90 ?_
          refine lv_goto (tgt := 98) hx hb dX11_taken_93 (by decide) ?_
          obtain ⟨rfl, rfl⟩ := some2 h
          exact e_i rfl XX hr I rfl dX11_taken_98
      replace h := if_f h qn2
      by_cases qn3 : r5 = (some 3 : Option Nat)
      · replace h := if_t h qn3
        subst qn3
        refine W.eq (g2 := F0 m 73 ls [.ref (yd 3)]) rfl ?_
        refine lv_astore_n (lv' := [(3, .ref (yd 3)), (0, .ref (oa 0)), (1, .int v1), (2, .int v2)]) hx hb dX11_taken_73 rfl hl (by decide) rfl (fun ls hl => ?_)
        refine lv_aload_n hx hb dX11_taken_74 rfl (lv_at hl 0 rfl) ?_
        refine lv_ifnonnull (tgt := 81) hx hb dX11_taken_75 (by decide) ?_
        refine lv_aload_n hx hb dX11_taken_81 rfl (lv_at hl 0 rfl) ?_
        refine lv_iload_n hx hb dX11_taken_82 rfl (lv_at hl 3 rfl) ?_
        replace I : Iv G (va_A (bO G oa na ka aa ra pa sd yd td owa ++ (bV G na nwa ++ (bV G ka kpa ++ (bA G aa wa aha ++ (bV G wa awa ++ (bT G ra ma rda ++ (bV G ma mda ++ (bP G pa tpa ++ (bH G sd hha ++ (bY G yd td tha ++ (bK G td tra ++ []))))))))))) s0.heap.size) s0 _ _ (((bY G yd td s6 ++ (bK G td tra ++ []))) ++ (bO G oa na ka aa ra pa sd yd td owa ++ (bV G na nwa ++ (bV G ka kpa ++ (bA G aa wa aha ++ (bV G wa awa ++ (bT G ra ma rda ++ (bV G ma mda ++ (bP G pa tpa ++ (bH G sd hha ++ [])))))))))) := I.perm ((((List.Perm.append_left _ ((List.Perm.append_left _ ((List.Perm.append_left _ ((List.Perm.append_left _ ((List.Perm.append_left _ ((List.Perm.append_left _ ((List.Perm.append_left _ ((List.Perm.append_left _ ((List.Perm.append_left _ (List.Perm.refl _)).trans (List.perm_append_comm_assoc _ _ _))).trans (List.perm_append_comm_assoc _ _ _))).trans (List.perm_append_comm_assoc _ _ _))).trans (List.perm_append_comm_assoc _ _ _))).trans (List.perm_append_comm_assoc _ _ _))).trans (List.perm_append_comm_assoc _ _ _))).trans (List.perm_append_comm_assoc _ _ _))).trans (List.perm_append_comm_assoc _ _ _))).trans (List.perm_append_comm_assoc _ _ _)).trans (List.Perm.append_left _ ((List.Perm.append_left _ ((List.Perm.append_left _ ((List.Perm.append_left _ ((List.Perm.append_left _ ((List.Perm.append_left _ ((List.Perm.append_left _ ((List.Perm.append_left _ ((List.Perm.append_left _ ((List.Perm.append_left _ (List.Perm.refl _)).trans (List.perm_append_comm_assoc _ _ _))).trans (List.perm_append_comm_assoc _ _ _))).trans (List.perm_append_comm_assoc _ _ _))).trans (List.perm_append_comm_assoc _ _ _))).trans (List.perm_append_comm_assoc _ _ _))).trans (List.perm_append_comm_assoc _ _ _))).trans (List.perm_append_comm_assoc _ _ _))).trans (List.perm_append_comm_assoc _ _ _))).trans (List.perm_append_comm_assoc _ _ _)))).trans pasc2)
        refine swcall_i (X := []) (wc := (bY G yd td s6 ++ (bK G td tra ++ []))) (Y := (bO G oa na ka aa ra pa sd yd td owa ++ (bV G na nwa ++ (bV G ka kpa ++ (bA G aa wa aha ++ (bV G wa awa ++ (bT G ra ma rda ++ (bV G ma mda ++ (bP G pa tpa ++ (bH G sd hha ++ [])))))))))) (rest := []) XX I hl.1 (c_Y_isUnder_y3 l G OK hXI yd td s6 tra v2 _ rfl) kS_X11_276 rfl rfl (Nat.le_of_ble_eq_true rfl) ⟨rfl, rfl, Nat.le_of_ble_eq_true rfl, Nat.le_of_ble_eq_true rfl⟩ ⟨Nat.zero_le _, Nat.zero_le _⟩ dX11_taken_83 (fun H locs hz11 I => ?_)
        replace I : Iv G (va_A (bO G oa na ka aa ra pa sd yd td owa ++ (bV G na nwa ++ (bV G ka kpa ++ (bA G aa wa aha ++ (bV G wa awa ++ (bT G ra ma rda ++ (bV G ma mda ++ (bP G pa tpa ++ (bH G sd hha ++ (bY G yd td tha ++ (bK G td tra ++ []))))))))))) s0.heap.size) s0 H locs (bO G oa na ka aa ra pa sd yd td owa ++ (bV G na nwa ++ (bV G ka kpa ++ (bA G aa wa aha ++ (bV G wa awa ++ (bT G ra ma rda ++ (bV G ma mda ++ (bP G pa tpa ++ (bH G sd hha ++ (bY G yd td s6 ++ (bK G td tra ++ []))))))))))) := Iv.perm (w := ((bY G yd td s6 ++ (bK G td tra ++ []))) ++ (bO G oa na ka aa ra pa sd yd td owa ++ (bV G na nwa ++ (bV G ka kpa ++ (bA G aa wa aha ++ (bV G wa awa ++ (bT G ra ma rda ++ (bV G ma mda ++ (bP G pa tpa ++ (bH G sd hha ++ [])))))))))) I (((((List.Perm.append_left _ ((List.Perm.append_left _ ((List.Perm.append_left _ ((List.Perm.append_left _ ((List.Perm.append_left _ ((List.Perm.append_left _ ((List.Perm.append_left _ ((List.Perm.append_left _ ((List.Perm.append_left _ (List.Perm.refl _)).trans (List.perm_append_comm_assoc _ _ _))).trans (List.perm_append_comm_assoc _ _ _))).trans (List.perm_append_comm_assoc _ _ _))).trans (List.perm_append_comm_assoc _ _ _))).trans (List.perm_append_comm_assoc _ _ _))).trans (List.perm_append_comm_assoc _ _ _))).trans (List.perm_append_comm_assoc _ _ _))).trans (List.perm_append_comm_assoc _ _ _))).trans (List.perm_append_comm_assoc _ _ _)).trans (List.Perm.append_left _ ((List.Perm.append_left _ ((List.Perm.append_left _ ((List.Perm.append_left _ ((List.Perm.append_left _ ((List.Perm.append_left _ ((List.Perm.append_left _ ((List.Perm.append_left _ ((List.Perm.append_left _ ((List.Perm.append_left _ (List.Perm.refl _)).trans (List.perm_append_comm_assoc _ _ _))).trans (List.perm_append_comm_assoc _ _ _))).trans (List.perm_append_comm_assoc _ _ _))).trans (List.perm_append_comm_assoc _ _ _))).trans (List.perm_append_comm_assoc _ _ _))).trans (List.perm_append_comm_assoc _ _ _))).trans (List.perm_append_comm_assoc _ _ _))).trans (List.perm_append_comm_assoc _ _ _))).trans (List.perm_append_comm_assoc _ _ _)))).trans pasc2).symm)
        refine lv_if_eq (tgt := 96) hx hb dX11_taken_86 (by decide) (fun c1 => ?_) (fun c1 => ?_)
        · replace h := if_t h c1
          refine lv_bipush (v := (-13)) hx hb dX11_taken_96 (by decide) ?_
          obtain ⟨rfl, rfl⟩ := some2 h
          exact e_i rfl XX hr I rfl dX11_taken_98
        · replace h := if_f h c1
          refine lv_aload_n hx hb dX11_taken_89 rfl (lv_at hl 0 rfl) ?_
          refine gO_X11_y39_n XX I dX11_taken_90 ?_
          refine lv_goto (tgt := 98) hx hb dX11_taken_93 (by decide) ?_
          obtain ⟨rfl, rfl⟩ := some2 h
          exact e_i rfl XX hr I rfl dX11_taken_98
      replace h := if_f h qn3
      by_cases qn4 : r5 = (some 4 : Option Nat)
      · replace h := if_t h qn4
        subst qn4
        refine W.eq (g2 := F0 m 73 ls [.ref (yd 4)]) rfl ?_
        refine lv_astore_n (lv' := [(3, .ref (yd 4)), (0, .ref (oa 0)), (1, .int v1), (2, .int v2)]) hx hb dX11_taken_73 rfl hl (by decide) rfl (fun ls hl => ?_)
        refine lv_aload_n hx hb dX11_taken_74 rfl (lv_at hl 0 rfl) ?_
        refine lv_ifnonnull (tgt := 81) hx hb dX11_taken_75 (by decide) ?_
        refine lv_aload_n hx hb dX11_taken_81 rfl (lv_at hl 0 rfl) ?_
        refine lv_iload_n hx hb dX11_taken_82 rfl (lv_at hl 3 rfl) ?_
        replace I : Iv G (va_A (bO G oa na ka aa ra pa sd yd td owa ++ (bV G na nwa ++ (bV G ka kpa ++ (bA G aa wa aha ++ (bV G wa awa ++ (bT G ra ma rda ++ (bV G ma mda ++ (bP G pa tpa ++ (bH G sd hha ++ (bY G yd td tha ++ (bK G td tra ++ []))))))))))) s0.heap.size) s0 _ _ (((bY G yd td s6 ++ (bK G td tra ++ []))) ++ (bO G oa na ka aa ra pa sd yd td owa ++ (bV G na nwa ++ (bV G ka kpa ++ (bA G aa wa aha ++ (bV G wa awa ++ (bT G ra ma rda ++ (bV G ma mda ++ (bP G pa tpa ++ (bH G sd hha ++ [])))))))))) := I.perm ((((List.Perm.append_left _ ((List.Perm.append_left _ ((List.Perm.append_left _ ((List.Perm.append_left _ ((List.Perm.append_left _ ((List.Perm.append_left _ ((List.Perm.append_left _ ((List.Perm.append_left _ ((List.Perm.append_left _ (List.Perm.refl _)).trans (List.perm_append_comm_assoc _ _ _))).trans (List.perm_append_comm_assoc _ _ _))).trans (List.perm_append_comm_assoc _ _ _))).trans (List.perm_append_comm_assoc _ _ _))).trans (List.perm_append_comm_assoc _ _ _))).trans (List.perm_append_comm_assoc _ _ _))).trans (List.perm_append_comm_assoc _ _ _))).trans (List.perm_append_comm_assoc _ _ _))).trans (List.perm_append_comm_assoc _ _ _)).trans (List.Perm.append_left _ ((List.Perm.append_left _ ((List.Perm.append_left _ ((List.Perm.append_left _ ((List.Perm.append_left _ ((List.Perm.append_left _ ((List.Perm.append_left _ ((List.Perm.append_left _ ((List.Perm.append_left _ ((List.Perm.append_left _ (List.Perm.refl _)).trans (List.perm_append_comm_assoc _ _ _))).trans (List.perm_append_comm_assoc _ _ _))).trans (List.perm_append_comm_assoc _ _ _))).trans (List.perm_append_comm_assoc _ _ _))).trans (List.perm_append_comm_assoc _ _ _))).trans (List.perm_append_comm_assoc _ _ _))).trans (List.perm_append_comm_assoc _ _ _))).trans (List.perm_append_comm_assoc _ _ _))).trans (List.perm_append_comm_assoc _ _ _)))).trans pasc2)
        refine swcall_i (X := []) (wc := (bY G yd td s6 ++ (bK G td tra ++ []))) (Y := (bO G oa na ka aa ra pa sd yd td owa ++ (bV G na nwa ++ (bV G ka kpa ++ (bA G aa wa aha ++ (bV G wa awa ++ (bT G ra ma rda ++ (bV G ma mda ++ (bP G pa tpa ++ (bH G sd hha ++ [])))))))))) (rest := []) XX I hl.1 (c_Y_isUnder_y4 l G OK hXI yd td s6 tra v2 _ rfl) kS_X11_276 rfl rfl (Nat.le_of_ble_eq_true rfl) ⟨rfl, rfl, Nat.le_of_ble_eq_true rfl, Nat.le_of_ble_eq_true rfl⟩ ⟨Nat.zero_le _, Nat.zero_le _⟩ dX11_taken_83 (fun H locs hz12 I => ?_)
        replace I : Iv G (va_A (bO G oa na ka aa ra pa sd yd td owa ++ (bV G na nwa ++ (bV G ka kpa ++ (bA G aa wa aha ++ (bV G wa awa ++ (bT G ra ma rda ++ (bV G ma mda ++ (bP G pa tpa ++ (bH G sd hha ++ (bY G yd td tha ++ (bK G td tra ++ []))))))))))) s0.heap.size) s0 H locs (bO G oa na ka aa ra pa sd yd td owa ++ (bV G na nwa ++ (bV G ka kpa ++ (bA G aa wa aha ++ (bV G wa awa ++ (bT G ra ma rda ++ (bV G ma mda ++ (bP G pa tpa ++ (bH G sd hha ++ (bY G yd td s6 ++ (bK G td tra ++ []))))))))))) := Iv.perm (w := ((bY G yd td s6 ++ (bK G td tra ++ []))) ++ (bO G oa na ka aa ra pa sd yd td owa ++ (bV G na nwa ++ (bV G ka kpa ++ (bA G aa wa aha ++ (bV G wa awa ++ (bT G ra ma rda ++ (bV G ma mda ++ (bP G pa tpa ++ (bH G sd hha ++ [])))))))))) I (((((List.Perm.append_left _ ((List.Perm.append_left _ ((List.Perm.append_left _ ((List.Perm.append_left _ ((List.Perm.append_left _ ((List.Perm.append_left _ ((List.Perm.append_left _ ((List.Perm.append_left _ ((List.Perm.append_left _ (List.Perm.refl _)).trans (List.perm_append_comm_assoc _ _ _))).trans (List.perm_append_comm_assoc _ _ _))).trans (List.perm_append_comm_assoc _ _ _))).trans (List.perm_append_comm_assoc _ _ _))).trans (List.perm_append_comm_assoc _ _ _))).trans (List.perm_append_comm_assoc _ _ _))).trans (List.perm_append_comm_assoc _ _ _))).trans (List.perm_append_comm_assoc _ _ _))).trans (List.perm_append_comm_assoc _ _ _)).trans (List.Perm.append_left _ ((List.Perm.append_left _ ((List.Perm.append_left _ ((List.Perm.append_left _ ((List.Perm.append_left _ ((List.Perm.append_left _ ((List.Perm.append_left _ ((List.Perm.append_left _ ((List.Perm.append_left _ ((List.Perm.append_left _ (List.Perm.refl _)).trans (List.perm_append_comm_assoc _ _ _))).trans (List.perm_append_comm_assoc _ _ _))).trans (List.perm_append_comm_assoc _ _ _))).trans (List.perm_append_comm_assoc _ _ _))).trans (List.perm_append_comm_assoc _ _ _))).trans (List.perm_append_comm_assoc _ _ _))).trans (List.perm_append_comm_assoc _ _ _))).trans (List.perm_append_comm_assoc _ _ _))).trans (List.perm_append_comm_assoc _ _ _)))).trans pasc2).symm)
        refine lv_if_eq (tgt := 96) hx hb dX11_taken_86 (by decide) (fun c1 => ?_) (fun c1 => ?_)
        · replace h := if_t h c1
          refine lv_bipush (v := (-13)) hx hb dX11_taken_96 (by decide) ?_
          obtain ⟨rfl, rfl⟩ := some2 h
          exact e_i rfl XX hr I rfl dX11_taken_98
        · replace h := if_f h c1
          refine lv_aload_n hx hb dX11_taken_89 rfl (lv_at hl 0 rfl) ?_
          refine gO_X11_y49_n XX I dX11_taken_90 ?_
          refine lv_goto (tgt := 98) hx hb dX11_taken_93 (by decide) ?_
          obtain ⟨rfl, rfl⟩ := some2 h
          exact e_i rfl XX hr I rfl dX11_taken_98
      replace h := if_f h qn4
      by_cases qn5 : r5 = (some 5 : Option Nat)
      · replace h := if_t h qn5
        subst qn5
        refine W.eq (g2 := F0 m 73 ls [.ref (yd 5)]) rfl ?_
        refine lv_astore_n (lv' := [(3, .ref (yd 5)), (0, .ref (oa 0)), (1, .int v1), (2, .int v2)]) hx hb dX11_taken_73 rfl hl (by decide) rfl (fun ls hl => ?_)
        refine lv_aload_n hx hb dX11_taken_74 rfl (lv_at hl 0 rfl) ?_
        refine lv_ifnonnull (tgt := 81) hx hb dX11_taken_75 (by decide) ?_
        refine lv_aload_n hx hb dX11_taken_81 rfl (lv_at hl 0 rfl) ?_
        refine lv_iload_n hx hb dX11_taken_82 rfl (lv_at hl 3 rfl) ?_
        replace I : Iv G (va_A (bO G oa na ka aa ra pa sd yd td owa ++ (bV G na nwa ++ (bV G ka kpa ++ (bA G aa wa aha ++ (bV G wa awa ++ (bT G ra ma rda ++ (bV G ma mda ++ (bP G pa tpa ++ (bH G sd hha ++ (bY G yd td tha ++ (bK G td tra ++ []))))))))))) s0.heap.size) s0 _ _ (((bY G yd td s6 ++ (bK G td tra ++ []))) ++ (bO G oa na ka aa ra pa sd yd td owa ++ (bV G na nwa ++ (bV G ka kpa ++ (bA G aa wa aha ++ (bV G wa awa ++ (bT G ra ma rda ++ (bV G ma mda ++ (bP G pa tpa ++ (bH G sd hha ++ [])))))))))) := I.perm ((((List.Perm.append_left _ ((List.Perm.append_left _ ((List.Perm.append_left _ ((List.Perm.append_left _ ((List.Perm.append_left _ ((List.Perm.append_left _ ((List.Perm.append_left _ ((List.Perm.append_left _ ((List.Perm.append_left _ (List.Perm.refl _)).trans (List.perm_append_comm_assoc _ _ _))).trans (List.perm_append_comm_assoc _ _ _))).trans (List.perm_append_comm_assoc _ _ _))).trans (List.perm_append_comm_assoc _ _ _))).trans (List.perm_append_comm_assoc _ _ _))).trans (List.perm_append_comm_assoc _ _ _))).trans (List.perm_append_comm_assoc _ _ _))).trans (List.perm_append_comm_assoc _ _ _))).trans (List.perm_append_comm_assoc _ _ _)).trans (List.Perm.append_left _ ((List.Perm.append_left _ ((List.Perm.append_left _ ((List.Perm.append_left _ ((List.Perm.append_left _ ((List.Perm.append_left _ ((List.Perm.append_left _ ((List.Perm.append_left _ ((List.Perm.append_left _ ((List.Perm.append_left _ (List.Perm.refl _)).trans (List.perm_append_comm_assoc _ _ _))).trans (List.perm_append_comm_assoc _ _ _))).trans (List.perm_append_comm_assoc _ _ _))).trans (List.perm_append_comm_assoc _ _ _))).trans (List.perm_append_comm_assoc _ _ _))).trans (List.perm_append_comm_assoc _ _ _))).trans (List.perm_append_comm_assoc _ _ _))).trans (List.perm_append_comm_assoc _ _ _))).trans (List.perm_append_comm_assoc _ _ _)))).trans pasc2)
        refine swcall_i (X := []) (wc := (bY G yd td s6 ++ (bK G td tra ++ []))) (Y := (bO G oa na ka aa ra pa sd yd td owa ++ (bV G na nwa ++ (bV G ka kpa ++ (bA G aa wa aha ++ (bV G wa awa ++ (bT G ra ma rda ++ (bV G ma mda ++ (bP G pa tpa ++ (bH G sd hha ++ [])))))))))) (rest := []) XX I hl.1 (c_Y_isUnder_y5 l G OK hXI yd td s6 tra v2 _ rfl) kS_X11_276 rfl rfl (Nat.le_of_ble_eq_true rfl) ⟨rfl, rfl, Nat.le_of_ble_eq_true rfl, Nat.le_of_ble_eq_true rfl⟩ ⟨Nat.zero_le _, Nat.zero_le _⟩ dX11_taken_83 (fun H locs hz13 I => ?_)
        replace I : Iv G (va_A (bO G oa na ka aa ra pa sd yd td owa ++ (bV G na nwa ++ (bV G ka kpa ++ (bA G aa wa aha ++ (bV G wa awa ++ (bT G ra ma rda ++ (bV G ma mda ++ (bP G pa tpa ++ (bH G sd hha ++ (bY G yd td tha ++ (bK G td tra ++ []))))))))))) s0.heap.size) s0 H locs (bO G oa na ka aa ra pa sd yd td owa ++ (bV G na nwa ++ (bV G ka kpa ++ (bA G aa wa aha ++ (bV G wa awa ++ (bT G ra ma rda ++ (bV G ma mda ++ (bP G pa tpa ++ (bH G sd hha ++ (bY G yd td s6 ++ (bK G td tra ++ []))))))))))) := Iv.perm (w := ((bY G yd td s6 ++ (bK G td tra ++ []))) ++ (bO G oa na ka aa ra pa sd yd td owa ++ (bV G na nwa ++ (bV G ka kpa ++ (bA G aa wa aha ++ (bV G wa awa ++ (bT G ra ma rda ++ (bV G ma mda ++ (bP G pa tpa ++ (bH G sd hha ++ [])))))))))) I (((((List.Perm.append_left _ ((List.Perm.append_left _ ((List.Perm.append_left _ ((List.Perm.append_left _ ((List.Perm.append_left _ ((List.Perm.append_left _ ((List.Perm.append_left _ ((List.Perm.append_left _ ((List.Perm.append_left _ (List.Perm.refl _)).trans (List.perm_append_comm_assoc _ _ _))).trans (List.perm_append_comm_assoc _ _ _))).trans (List.perm_append_comm_assoc _ _ _))).trans (List.perm_append_comm_assoc _ _ _))).trans (List.perm_append_comm_assoc _ _ _))).trans (List.perm_append_comm_assoc _ _ _))).trans (List.perm_append_comm_assoc _ _ _))).trans (List.perm_append_comm_assoc _ _ _))).trans (List.perm_append_comm_assoc _ _ _)).trans (List.Perm.append_left _ ((List.Perm.append_left _ ((List.Perm.append_left _ ((List.Perm.append_left _ ((List.Perm.append_left _ ((List.Perm.append_left _ ((List.Perm.append_left _ ((List.Perm.append_left _ ((List.Perm.append_left _ ((List.Perm.append_left _ (List.Perm.refl _)).trans (List.perm_append_comm_assoc _ _ _))).trans (List.perm_append_comm_assoc _ _ _))).trans (List.perm_append_comm_assoc _ _ _))).trans (List.perm_append_comm_assoc _ _ _))).trans (List.perm_append_comm_assoc _ _ _))).trans (List.perm_append_comm_assoc _ _ _))).trans (List.perm_append_comm_assoc _ _ _))).trans (List.perm_append_comm_assoc _ _ _))).trans (List.perm_append_comm_assoc _ _ _)))).trans pasc2).symm)
        refine lv_if_eq (tgt := 96) hx hb dX11_taken_86 (by decide) (fun c1 => ?_) (fun c1 => ?_)
        · replace h := if_t h c1
          refine lv_bipush (v := (-13)) hx hb dX11_taken_96 (by decide) ?_
          obtain ⟨rfl, rfl⟩ := some2 h
          exact e_i rfl XX hr I rfl dX11_taken_98
        · replace h := if_f h c1
          refine lv_aload_n hx hb dX11_taken_89 rfl (lv_at hl 0 rfl) ?_
          refine gO_X11_y59_n XX I dX11_taken_90 ?_
          refine lv_goto (tgt := 98) hx hb dX11_taken_93 (by decide) ?_
          obtain ⟨rfl, rfl⟩ := some2 h
          exact e_i rfl XX hr I rfl dX11_taken_98
      replace h := if_f h qn5
      exact absurd h (fun q => by cases q)
    · replace h := if_t h c1
      refine lv_aload_n hx hb dX11_taken_43 rfl (lv_at hl 0 rfl) ?_
      refine gO_X11_o0_shelfNumber XX I dX11_taken_44 ?_
      refine lv_iload_n hx hb dX11_taken_47 rfl (lv_at hl 1 rfl) ?_
      obtain ⟨g14, h⟩ := gd_some h
      refine r_iald XX I 5 (aO_shelfNumber0) g14 dX11_taken_48 ?_
      refine lv_iload_n hx hb dX11_taken_49 rfl (lv_at hl 2 rfl) ?_
      refine lv_bipush (v := 10) hx hb dX11_taken_50 (by decide) ?_
      refine lv_isub hx hb dX11_taken_52 ?_
      refine lv_icmp_ne (tgt := 65) hx hb dX11_taken_53 (by decide) (fun c1 => ?_) (fun c1 => ?_)
      · replace h := if_f h c1
        refine lv_bipush (v := (-13)) hx hb dX11_taken_65 (by decide) ?_
        obtain ⟨rfl, rfl⟩ := some2 h
        exact e_i rfl XX hr I rfl dX11_taken_67
      · replace h := if_t h c1
        refine lv_aload_n hx hb dX11_taken_56 rfl (lv_at hl 0 rfl) ?_
        refine gO_X11_o0_shelfLength XX I dX11_taken_57 ?_
        refine lv_iload_n hx hb dX11_taken_60 rfl (lv_at hl 1 rfl) ?_
        obtain ⟨g15, h⟩ := gd_some h
        refine r_iald XX I 6 (aO_shelfLength0) g15 dX11_taken_61 ?_
        refine lv_goto (tgt := 67) hx hb dX11_taken_62 (by decide) ?_
        obtain ⟨rfl, rfl⟩ := some2 h
        exact e_i rfl XX hr I rfl dX11_taken_67
  unfold f_O_taken at h
  refine lv_iload_n hx hb dX11_taken_0 rfl (lv_at hl 1 rfl) ?_
  refine lv_iconst (v := 0) hx hb dX11_taken_1 (by decide) ?_
  refine lv_iconst (v := 3) hx hb dX11_taken_2 (by decide) ?_
  refine scall_i (rest := []) XX I hl.1 (c_S_within l G OK x1 (0 : Int32) (3 : Int32) _ rfl) kS_X11_103 rfl rfl (Nat.le_of_ble_eq_true rfl) ⟨rfl, rfl, Nat.le_of_ble_eq_true rfl, Nat.le_of_ble_eq_true rfl⟩ ⟨Nat.zero_le _, Nat.zero_le _⟩ dX11_taken_3 (fun H locs hz1 I => ?_)
  refine lv_if_ne (tgt := 11) hx hb dX11_taken_6 (by decide) (fun c1 => ?_) (fun c1 => ?_)
  · replace h := if_f h c1
    refine lv_iload_n hx hb dX11_taken_11 rfl (lv_at hl 2 rfl) ?_
    refine lv_iconst (v := 0) hx hb dX11_taken_12 (by decide) ?_
    refine lv_iconst (v := 5) hx hb dX11_taken_13 (by decide) ?_
    refine scall_i (rest := []) XX I hl.1 (c_S_within l G OK x2 (0 : Int32) (5 : Int32) _ rfl) kS_X11_103 rfl rfl (Nat.le_of_ble_eq_true rfl) ⟨rfl, rfl, Nat.le_of_ble_eq_true rfl, Nat.le_of_ble_eq_true rfl⟩ ⟨Nat.zero_le _, Nat.zero_le _⟩ dX11_taken_14 (fun H locs hz2 I => ?_)
    refine lv_if_ne (tgt := 33) hx hb dX11_taken_17 (by decide) (fun c1 => ?_) (fun c1 => ?_)
    · replace h := if_f h c1
      exact C33 _ _ _ h _ _ I ls (lv_sub hl [0, 1, 2] rfl)
    · replace h := if_t h c1
      refine lv_iload_n hx hb dX11_taken_20 rfl (lv_at hl 2 rfl) ?_
      refine lv_bipush (v := 10) hx hb dX11_taken_21 (by decide) ?_
      refine lv_bipush (v := 13) hx hb dX11_taken_23 (by decide) ?_
      refine scall_i (rest := []) XX I hl.1 (c_S_within l G OK x2 (10 : Int32) (13 : Int32) _ rfl) kS_X11_103 rfl rfl (Nat.le_of_ble_eq_true rfl) ⟨rfl, rfl, Nat.le_of_ble_eq_true rfl, Nat.le_of_ble_eq_true rfl⟩ ⟨Nat.zero_le _, Nat.zero_le _⟩ dX11_taken_25 (fun H locs hz3 I => ?_)
      refine lv_if_ne (tgt := 33) hx hb dX11_taken_28 (by decide) (fun c1 => ?_) (fun c1 => ?_)
      · replace h := if_f h c1
        exact C33 _ _ _ h _ _ I ls (lv_sub hl [0, 1, 2] rfl)
      · replace h := if_t h c1
        refine lv_iconst (v := (-1)) hx hb dX11_taken_31 (by decide) ?_
        obtain ⟨rfl, rfl⟩ := some2 h
        exact e_i rfl XX hr I rfl dX11_taken_32
  · replace h := if_t h c1
    refine lv_iconst (v := (-1)) hx hb dX11_taken_9 (by decide) ?_
    obtain ⟨rfl, rfl⟩ := some2 h
    exact e_i rfl XX hr I rfl dX11_taken_10
set_option maxRecDepth 100000 in
theorem kU_X11_325_X4 : KU RX11 325 RX4 RX4 ⟨"LifeNoes$Sayer", "bars", "(I)I"⟩ yX4_bars cX4_bars 2 (some .int) 1 := KU.mkU wd_844 wd_847 wd_846 wd_845 wd_7 wd_870 rfl (by decide +kernel)
set_option maxRecDepth 100000 in
theorem kU_X11_328_X4 : KU RX11 328 RX4 RX4 ⟨"LifeNoes$Sayer", "waits", "(I)I"⟩ yX4_waits cX4_waits 2 (some .int) 1 := KU.mkU wd_872 wd_875 wd_874 wd_873 wd_7 wd_891 rfl (by decide +kernel)
set_option maxRecDepth 100000 in
theorem kU_X11_331_X4 : KU RX11 331 RX4 RX4 ⟨"LifeNoes$Sayer", "shares", "(I)I"⟩ yX4_shares cX4_shares 2 (some .int) 1 := KU.mkU wd_893 wd_896 wd_895 wd_894 wd_7 wd_914 rfl (by decide +kernel)
set_option maxRecDepth 100000 in
theorem kU_X11_334_X4 : KU RX11 334 RX4 RX4 ⟨"LifeNoes$Sayer", "tells", "(I)I"⟩ yX4_tells cX4_tells 2 (some .int) 1 := KU.mkU wd_915 wd_918 wd_917 wd_916 wd_7 wd_934 rfl (by decide +kernel)
set_option maxHeartbeats 4000000 in
set_option maxRecDepth 100000 in
theorem c_Y_answerOf_y0 (l : Launch) (G : g_G) (OK : EOk G.2.2) (yd : Nat → Nat) (td : Nat → Nat) (tha : g_St) (tra : g_St) (x1 : Int32) (x2 : Int32) (r : Int32) (ttr : g_St) (h : f_Y_answerOf_y0 tha tra x1 x2 = some (r, ttr)) : HI l G yX11_answerOf (Cond.code yX11_answerOf cX11_answerOf 3 (some .int) :: gT) { frames := 4, cells := 0, slots := 0, locals := 84 } .int [.ref (yd 0), .int x1, .int x2] (bY G yd td tha ++ (bK G td tra ++ [])) r (bY G yd td tha ++ (bK G td ttr ++ [])) := by
  refine HI.mk (lv := [(0, .ref (yd 0)), (1, .int x1), (2, .int x2)]) OK (by decide) (Nat.le_of_ble_eq_true rfl) rfl ?_
  intro p e s0 m args below meth c ls XX hr I hl
  have hx := XX.x
  have hb := XX.b
  unfold f_Y_answerOf_y0 at h
  refine lv_iload_n hx hb dX11_answerOf_0 rfl (lv_at hl 1 rfl) ?_
  by_cases q0 : x1 = (0 : Int32)
  · replace h := if_t h q0
    refine lv_tableIn (tgt := 28) (off := 27) hx hb dX11_answerOf_1 (by rw [q0]; decide) (by rw [q0]; decide) (by rw [q0]; rfl) (by decide) ?_
    refine lv_aload_n hx hb dX11_answerOf_28 rfl (lv_at hl 0 rfl) ?_
    refine lv_iload_n hx hb dX11_answerOf_29 rfl (lv_at hl 2 rfl) ?_
    obtain ⟨r1, s2, q3, h⟩ := bd2_some h
    have RC := (Rc.mk XX I (q0 := 0) (ci := 4) rfl rfl)
    replace I : Iv G (va_A (bY G yd td tha ++ (bK G td tra ++ [])) s0.heap.size) s0 _ _ (((bY G yd td tha ++ (bK G td tra ++ []))) ++ []) := I.perm pasc2
    refine ucall_i (X := []) (wc := (bY G yd td tha ++ (bK G td tra ++ []))) (Y := []) (rest := []) XX I hl.1 (c_Y0_Sayer_bars l G OK yd td tha tra x2 r1 s2 q3) kU_X11_325_X4 RC rfl rfl (Nat.le_of_ble_eq_true rfl) ⟨rfl, rfl, Nat.le_of_ble_eq_true rfl, Nat.le_of_ble_eq_true rfl⟩ ⟨Nat.zero_le _, Nat.zero_le _⟩ dX11_answerOf_30 (fun H locs hz4 I => ?_)
    replace I : Iv G (va_A (bY G yd td tha ++ (bK G td tra ++ [])) s0.heap.size) s0 H locs (bY G yd td tha ++ (bK G td s2 ++ [])) := Iv.perm (w := ((bY G yd td tha ++ (bK G td s2 ++ []))) ++ []) I (pasc2.symm)
    obtain ⟨rfl, rfl⟩ := some2 h
    exact e_i rfl XX hr I rfl dX11_answerOf_33
  replace h := if_f h q0
  by_cases q1 : x1 = (1 : Int32)
  · replace h := if_t h q1
    refine lv_tableIn (tgt := 34) (off := 33) hx hb dX11_answerOf_1 (by rw [q1]; decide) (by rw [q1]; decide) (by rw [q1]; rfl) (by decide) ?_
    refine lv_aload_n hx hb dX11_answerOf_34 rfl (lv_at hl 0 rfl) ?_
    refine lv_iload_n hx hb dX11_answerOf_35 rfl (lv_at hl 2 rfl) ?_
    obtain ⟨r5, s6, q7, h⟩ := bd2_some h
    have RC := (Rc.mk XX I (q0 := 0) (ci := 4) rfl rfl)
    replace I : Iv G (va_A (bY G yd td tha ++ (bK G td tra ++ [])) s0.heap.size) s0 _ _ (((bY G yd td tha ++ (bK G td tra ++ []))) ++ []) := I.perm pasc2
    refine ucall_i (X := []) (wc := (bY G yd td tha ++ (bK G td tra ++ []))) (Y := []) (rest := []) XX I hl.1 (c_Y0_Sayer_waits l G OK yd td tha tra x2 r5 s6 q7) kU_X11_328_X4 RC rfl rfl (Nat.le_of_ble_eq_true rfl) ⟨rfl, rfl, Nat.le_of_ble_eq_true rfl, Nat.le_of_ble_eq_true rfl⟩ ⟨Nat.zero_le _, Nat.zero_le _⟩ dX11_answerOf_36 (fun H locs hz8 I => ?_)
    replace I : Iv G (va_A (bY G yd td tha ++ (bK G td tra ++ [])) s0.heap.size) s0 H locs (bY G yd td tha ++ (bK G td s6 ++ [])) := Iv.perm (w := ((bY G yd td tha ++ (bK G td s6 ++ []))) ++ []) I (pasc2.symm)
    obtain ⟨rfl, rfl⟩ := some2 h
    exact e_i rfl XX hr I rfl dX11_answerOf_39
  replace h := if_f h q1
  by_cases q2 : x1 = (2 : Int32)
  · replace h := if_t h q2
    refine lv_tableIn (tgt := 40) (off := 39) hx hb dX11_answerOf_1 (by rw [q2]; decide) (by rw [q2]; decide) (by rw [q2]; rfl) (by decide) ?_
    refine lv_aload_n hx hb dX11_answerOf_40 rfl (lv_at hl 0 rfl) ?_
    refine lv_iload_n hx hb dX11_answerOf_41 rfl (lv_at hl 2 rfl) ?_
    obtain ⟨r9, s10, q11, h⟩ := bd2_some h
    have RC := (Rc.mk XX I (q0 := 0) (ci := 4) rfl rfl)
    replace I : Iv G (va_A (bY G yd td tha ++ (bK G td tra ++ [])) s0.heap.size) s0 _ _ (((bY G yd td tha ++ (bK G td tra ++ []))) ++ []) := I.perm pasc2
    refine ucall_i (X := []) (wc := (bY G yd td tha ++ (bK G td tra ++ []))) (Y := []) (rest := []) XX I hl.1 (c_Y0_Sayer_shares l G OK yd td tha tra x2 r9 s10 q11) kU_X11_331_X4 RC rfl rfl (Nat.le_of_ble_eq_true rfl) ⟨rfl, rfl, Nat.le_of_ble_eq_true rfl, Nat.le_of_ble_eq_true rfl⟩ ⟨Nat.zero_le _, Nat.zero_le _⟩ dX11_answerOf_42 (fun H locs hz12 I => ?_)
    replace I : Iv G (va_A (bY G yd td tha ++ (bK G td tra ++ [])) s0.heap.size) s0 H locs (bY G yd td tha ++ (bK G td s10 ++ [])) := Iv.perm (w := ((bY G yd td tha ++ (bK G td s10 ++ []))) ++ []) I (pasc2.symm)
    obtain ⟨rfl, rfl⟩ := some2 h
    exact e_i rfl XX hr I rfl dX11_answerOf_45
  replace h := if_f h q2
  refine lv_tableOut (tgt := 46) hx hb dX11_answerOf_1 (tab_out (lo := 0) (hi := 2) (fun k k1 k2 => by rcases (show k = 0 ∨ k = 1 ∨ k = 2 by omega) with rfl | rfl | rfl <;> assumption)) (by decide) ?_
  refine lv_aload_n hx hb dX11_answerOf_46 rfl (lv_at hl 0 rfl) ?_
  refine lv_iload_n hx hb dX11_answerOf_47 rfl (lv_at hl 2 rfl) ?_
  obtain ⟨r13, s14, q15, h⟩ := bd2_some h
  have RC := (Rc.mk XX I (q0 := 0) (ci := 4) rfl rfl)
  replace I : Iv G (va_A (bY G yd td tha ++ (bK G td tra ++ [])) s0.heap.size) s0 _ _ (((bY G yd td tha ++ (bK G td tra ++ []))) ++ []) := I.perm pasc2
  refine ucall_i (X := []) (wc := (bY G yd td tha ++ (bK G td tra ++ []))) (Y := []) (rest := []) XX I hl.1 (c_Y0_Sayer_tells l G OK yd td tha tra x2 r13 s14 q15) kU_X11_334_X4 RC rfl rfl (Nat.le_of_ble_eq_true rfl) ⟨rfl, rfl, Nat.le_of_ble_eq_true rfl, Nat.le_of_ble_eq_true rfl⟩ ⟨Nat.zero_le _, Nat.zero_le _⟩ dX11_answerOf_48 (fun H locs hz16 I => ?_)
  replace I : Iv G (va_A (bY G yd td tha ++ (bK G td tra ++ [])) s0.heap.size) s0 H locs (bY G yd td tha ++ (bK G td s14 ++ [])) := Iv.perm (w := ((bY G yd td tha ++ (bK G td s14 ++ []))) ++ []) I (pasc2.symm)
  obtain ⟨rfl, rfl⟩ := some2 h
  exact e_i rfl XX hr I rfl dX11_answerOf_51
set_option maxRecDepth 100000 in
theorem kU_X11_325_X3 : KU RX11 325 RX3 RX4 ⟨"LifeNoes$Sayer", "bars", "(I)I"⟩ yX4_bars cX4_bars 2 (some .int) 1 := KU.mkU wd_844 wd_847 wd_863 wd_845 wd_7 wd_870 rfl (by decide +kernel)
set_option maxRecDepth 100000 in
theorem kU_X11_328_X3 : KU RX11 328 RX3 RX4 ⟨"LifeNoes$Sayer", "waits", "(I)I"⟩ yX3_waits cX3_waits 2 (some .int) 1 := KU.mkO wd_872 wd_875 wd_882 wd_878 wd_8 wd_879 wd_873 wd_891 (by decide +kernel)
set_option maxRecDepth 100000 in
theorem kU_X11_331_X3 : KU RX11 331 RX3 RX4 ⟨"LifeNoes$Sayer", "shares", "(I)I"⟩ yX4_shares cX4_shares 2 (some .int) 1 := KU.mkU wd_893 wd_896 wd_904 wd_894 wd_7 wd_914 rfl (by decide +kernel)
set_option maxRecDepth 100000 in
theorem kU_X11_334_X3 : KU RX11 334 RX3 RX4 ⟨"LifeNoes$Sayer", "tells", "(I)I"⟩ yX4_tells cX4_tells 2 (some .int) 1 := KU.mkU wd_915 wd_918 wd_928 wd_916 wd_7 wd_934 rfl (by decide +kernel)
set_option maxHeartbeats 4000000 in
set_option maxRecDepth 100000 in
theorem c_Y_answerOf_y1 (l : Launch) (G : g_G) (OK : EOk G.2.2) (yd : Nat → Nat) (td : Nat → Nat) (tha : g_St) (tra : g_St) (x1 : Int32) (x2 : Int32) (r : Int32) (ttr : g_St) (h : f_Y_answerOf_y1 tha tra x1 x2 = some (r, ttr)) : HI l G yX11_answerOf (Cond.code yX11_answerOf cX11_answerOf 3 (some .int) :: gT) { frames := 5, cells := 0, slots := 0, locals := 105 } .int [.ref (yd 1), .int x1, .int x2] (bY G yd td tha ++ (bK G td tra ++ [])) r (bY G yd td tha ++ (bK G td ttr ++ [])) := by
  refine HI.mk (lv := [(0, .ref (yd 1)), (1, .int x1), (2, .int x2)]) OK (by decide) (Nat.le_of_ble_eq_true rfl) rfl ?_
  intro p e s0 m args below meth c ls XX hr I hl
  have hx := XX.x
  have hb := XX.b
  unfold f_Y_answerOf_y1 at h
  refine lv_iload_n hx hb dX11_answerOf_0 rfl (lv_at hl 1 rfl) ?_
  by_cases q0 : x1 = (0 : Int32)
  · replace h := if_t h q0
    refine lv_tableIn (tgt := 28) (off := 27) hx hb dX11_answerOf_1 (by rw [q0]; decide) (by rw [q0]; decide) (by rw [q0]; rfl) (by decide) ?_
    refine lv_aload_n hx hb dX11_answerOf_28 rfl (lv_at hl 0 rfl) ?_
    refine lv_iload_n hx hb dX11_answerOf_29 rfl (lv_at hl 2 rfl) ?_
    obtain ⟨r1, s2, q3, h⟩ := bd2_some h
    have RC := (Rc.mk XX I (q0 := 1) (ci := 3) rfl rfl)
    replace I : Iv G (va_A (bY G yd td tha ++ (bK G td tra ++ [])) s0.heap.size) s0 _ _ (((bY G yd td tha ++ (bK G td tra ++ []))) ++ []) := I.perm pasc2
    refine ucall_i (X := []) (wc := (bY G yd td tha ++ (bK G td tra ++ []))) (Y := []) (rest := []) XX I hl.1 (c_Y1_Sayer_bars l G OK yd td tha tra x2 r1 s2 q3) kU_X11_325_X3 RC rfl rfl (Nat.le_of_ble_eq_true rfl) ⟨rfl, rfl, Nat.le_of_ble_eq_true rfl, Nat.le_of_ble_eq_true rfl⟩ ⟨Nat.zero_le _, Nat.zero_le _⟩ dX11_answerOf_30 (fun H locs hz4 I => ?_)
    replace I : Iv G (va_A (bY G yd td tha ++ (bK G td tra ++ [])) s0.heap.size) s0 H locs (bY G yd td tha ++ (bK G td s2 ++ [])) := Iv.perm (w := ((bY G yd td tha ++ (bK G td s2 ++ []))) ++ []) I (pasc2.symm)
    obtain ⟨rfl, rfl⟩ := some2 h
    exact e_i rfl XX hr I rfl dX11_answerOf_33
  replace h := if_f h q0
  by_cases q1 : x1 = (1 : Int32)
  · replace h := if_t h q1
    refine lv_tableIn (tgt := 34) (off := 33) hx hb dX11_answerOf_1 (by rw [q1]; decide) (by rw [q1]; decide) (by rw [q1]; rfl) (by decide) ?_
    refine lv_aload_n hx hb dX11_answerOf_34 rfl (lv_at hl 0 rfl) ?_
    refine lv_iload_n hx hb dX11_answerOf_35 rfl (lv_at hl 2 rfl) ?_
    obtain ⟨r5, s6, q7, h⟩ := bd2_some h
    have RC := (Rc.mk XX I (q0 := 1) (ci := 3) rfl rfl)
    replace I : Iv G (va_A (bY G yd td tha ++ (bK G td tra ++ [])) s0.heap.size) s0 _ _ (((bY G yd td tha ++ (bK G td tra ++ []))) ++ []) := I.perm pasc2
    refine ucall_i (X := []) (wc := (bY G yd td tha ++ (bK G td tra ++ []))) (Y := []) (rest := []) XX I hl.1 (c_Y1_Quick_waits l G OK yd td tha tra x2 r5 s6 q7) kU_X11_328_X3 RC rfl rfl (Nat.le_of_ble_eq_true rfl) ⟨rfl, rfl, Nat.le_of_ble_eq_true rfl, Nat.le_of_ble_eq_true rfl⟩ ⟨Nat.zero_le _, Nat.zero_le _⟩ dX11_answerOf_36 (fun H locs hz8 I => ?_)
    replace I : Iv G (va_A (bY G yd td tha ++ (bK G td tra ++ [])) s0.heap.size) s0 H locs (bY G yd td tha ++ (bK G td s6 ++ [])) := Iv.perm (w := ((bY G yd td tha ++ (bK G td s6 ++ []))) ++ []) I (pasc2.symm)
    obtain ⟨rfl, rfl⟩ := some2 h
    exact e_i rfl XX hr I rfl dX11_answerOf_39
  replace h := if_f h q1
  by_cases q2 : x1 = (2 : Int32)
  · replace h := if_t h q2
    refine lv_tableIn (tgt := 40) (off := 39) hx hb dX11_answerOf_1 (by rw [q2]; decide) (by rw [q2]; decide) (by rw [q2]; rfl) (by decide) ?_
    refine lv_aload_n hx hb dX11_answerOf_40 rfl (lv_at hl 0 rfl) ?_
    refine lv_iload_n hx hb dX11_answerOf_41 rfl (lv_at hl 2 rfl) ?_
    obtain ⟨r9, s10, q11, h⟩ := bd2_some h
    have RC := (Rc.mk XX I (q0 := 1) (ci := 3) rfl rfl)
    replace I : Iv G (va_A (bY G yd td tha ++ (bK G td tra ++ [])) s0.heap.size) s0 _ _ (((bY G yd td tha ++ (bK G td tra ++ []))) ++ []) := I.perm pasc2
    refine ucall_i (X := []) (wc := (bY G yd td tha ++ (bK G td tra ++ []))) (Y := []) (rest := []) XX I hl.1 (c_Y1_Sayer_shares l G OK yd td tha tra x2 r9 s10 q11) kU_X11_331_X3 RC rfl rfl (Nat.le_of_ble_eq_true rfl) ⟨rfl, rfl, Nat.le_of_ble_eq_true rfl, Nat.le_of_ble_eq_true rfl⟩ ⟨Nat.zero_le _, Nat.zero_le _⟩ dX11_answerOf_42 (fun H locs hz12 I => ?_)
    replace I : Iv G (va_A (bY G yd td tha ++ (bK G td tra ++ [])) s0.heap.size) s0 H locs (bY G yd td tha ++ (bK G td s10 ++ [])) := Iv.perm (w := ((bY G yd td tha ++ (bK G td s10 ++ []))) ++ []) I (pasc2.symm)
    obtain ⟨rfl, rfl⟩ := some2 h
    exact e_i rfl XX hr I rfl dX11_answerOf_45
  replace h := if_f h q2
  refine lv_tableOut (tgt := 46) hx hb dX11_answerOf_1 (tab_out (lo := 0) (hi := 2) (fun k k1 k2 => by rcases (show k = 0 ∨ k = 1 ∨ k = 2 by omega) with rfl | rfl | rfl <;> assumption)) (by decide) ?_
  refine lv_aload_n hx hb dX11_answerOf_46 rfl (lv_at hl 0 rfl) ?_
  refine lv_iload_n hx hb dX11_answerOf_47 rfl (lv_at hl 2 rfl) ?_
  obtain ⟨r13, s14, q15, h⟩ := bd2_some h
  have RC := (Rc.mk XX I (q0 := 1) (ci := 3) rfl rfl)
  replace I : Iv G (va_A (bY G yd td tha ++ (bK G td tra ++ [])) s0.heap.size) s0 _ _ (((bY G yd td tha ++ (bK G td tra ++ []))) ++ []) := I.perm pasc2
  refine ucall_i (X := []) (wc := (bY G yd td tha ++ (bK G td tra ++ []))) (Y := []) (rest := []) XX I hl.1 (c_Y1_Sayer_tells l G OK yd td tha tra x2 r13 s14 q15) kU_X11_334_X3 RC rfl rfl (Nat.le_of_ble_eq_true rfl) ⟨rfl, rfl, Nat.le_of_ble_eq_true rfl, Nat.le_of_ble_eq_true rfl⟩ ⟨Nat.zero_le _, Nat.zero_le _⟩ dX11_answerOf_48 (fun H locs hz16 I => ?_)
  replace I : Iv G (va_A (bY G yd td tha ++ (bK G td tra ++ [])) s0.heap.size) s0 H locs (bY G yd td tha ++ (bK G td s14 ++ [])) := Iv.perm (w := ((bY G yd td tha ++ (bK G td s14 ++ []))) ++ []) I (pasc2.symm)
  obtain ⟨rfl, rfl⟩ := some2 h
  exact e_i rfl XX hr I rfl dX11_answerOf_51
set_option maxRecDepth 100000 in
theorem kU_X11_325_X1 : KU RX11 325 RX1 RX4 ⟨"LifeNoes$Sayer", "bars", "(I)I"⟩ yX1_bars cX1_bars 2 (some .int) 1 := KU.mkO wd_844 wd_847 wd_848 wd_849 wd_9 wd_850 wd_845 wd_870 (by decide +kernel)
set_option maxRecDepth 100000 in
theorem kU_X11_328_X1 : KU RX11 328 RX1 RX4 ⟨"LifeNoes$Sayer", "waits", "(I)I"⟩ yX4_waits cX4_waits 2 (some .int) 1 := KU.mkU wd_872 wd_875 wd_876 wd_873 wd_7 wd_891 rfl (by decide +kernel)
set_option maxRecDepth 100000 in
theorem kU_X11_331_X1 : KU RX11 331 RX1 RX4 ⟨"LifeNoes$Sayer", "shares", "(I)I"⟩ yX4_shares cX4_shares 2 (some .int) 1 := KU.mkU wd_893 wd_896 wd_897 wd_894 wd_7 wd_914 rfl (by decide +kernel)
set_option maxRecDepth 100000 in
theorem kU_X11_334_X1 : KU RX11 334 RX1 RX4 ⟨"LifeNoes$Sayer", "tells", "(I)I"⟩ yX1_tells cX1_tells 2 (some .int) 1 := KU.mkO wd_915 wd_918 wd_919 wd_920 wd_9 wd_921 wd_916 wd_934 (by decide +kernel)
set_option maxHeartbeats 4000000 in
set_option maxRecDepth 100000 in
theorem c_Y_answerOf_y2 (l : Launch) (G : g_G) (OK : EOk G.2.2) (yd : Nat → Nat) (td : Nat → Nat) (tha : g_St) (tra : g_St) (x1 : Int32) (x2 : Int32) (r : Int32) (ttr : g_St) (h : f_Y_answerOf_y2 tha tra x1 x2 = some (r, ttr)) : HI l G yX11_answerOf (Cond.code yX11_answerOf cX11_answerOf 3 (some .int) :: gT) { frames := 6, cells := 0, slots := 0, locals := 126 } .int [.ref (yd 2), .int x1, .int x2] (bY G yd td tha ++ (bK G td tra ++ [])) r (bY G yd td tha ++ (bK G td ttr ++ [])) := by
  refine HI.mk (lv := [(0, .ref (yd 2)), (1, .int x1), (2, .int x2)]) OK (by decide) (Nat.le_of_ble_eq_true rfl) rfl ?_
  intro p e s0 m args below meth c ls XX hr I hl
  have hx := XX.x
  have hb := XX.b
  unfold f_Y_answerOf_y2 at h
  refine lv_iload_n hx hb dX11_answerOf_0 rfl (lv_at hl 1 rfl) ?_
  by_cases q0 : x1 = (0 : Int32)
  · replace h := if_t h q0
    refine lv_tableIn (tgt := 28) (off := 27) hx hb dX11_answerOf_1 (by rw [q0]; decide) (by rw [q0]; decide) (by rw [q0]; rfl) (by decide) ?_
    refine lv_aload_n hx hb dX11_answerOf_28 rfl (lv_at hl 0 rfl) ?_
    refine lv_iload_n hx hb dX11_answerOf_29 rfl (lv_at hl 2 rfl) ?_
    obtain ⟨r1, s2, q3, h⟩ := bd2_some h
    have RC := (Rc.mk XX I (q0 := 2) (ci := 1) rfl rfl)
    replace I : Iv G (va_A (bY G yd td tha ++ (bK G td tra ++ [])) s0.heap.size) s0 _ _ (((bY G yd td tha ++ (bK G td tra ++ []))) ++ []) := I.perm pasc2
    refine ucall_i (X := []) (wc := (bY G yd td tha ++ (bK G td tra ++ []))) (Y := []) (rest := []) XX I hl.1 (c_Y2_Bar_bars l G OK yd td tha tra x2 r1 s2 q3) kU_X11_325_X1 RC rfl rfl (Nat.le_of_ble_eq_true rfl) ⟨rfl, rfl, Nat.le_of_ble_eq_true rfl, Nat.le_of_ble_eq_true rfl⟩ ⟨Nat.zero_le _, Nat.zero_le _⟩ dX11_answerOf_30 (fun H locs hz4 I => ?_)
    replace I : Iv G (va_A (bY G yd td tha ++ (bK G td tra ++ [])) s0.heap.size) s0 H locs (bY G yd td tha ++ (bK G td s2 ++ [])) := Iv.perm (w := ((bY G yd td tha ++ (bK G td s2 ++ []))) ++ []) I (pasc2.symm)
    obtain ⟨rfl, rfl⟩ := some2 h
    exact e_i rfl XX hr I rfl dX11_answerOf_33
  replace h := if_f h q0
  by_cases q1 : x1 = (1 : Int32)
  · replace h := if_t h q1
    refine lv_tableIn (tgt := 34) (off := 33) hx hb dX11_answerOf_1 (by rw [q1]; decide) (by rw [q1]; decide) (by rw [q1]; rfl) (by decide) ?_
    refine lv_aload_n hx hb dX11_answerOf_34 rfl (lv_at hl 0 rfl) ?_
    refine lv_iload_n hx hb dX11_answerOf_35 rfl (lv_at hl 2 rfl) ?_
    obtain ⟨r5, s6, q7, h⟩ := bd2_some h
    have RC := (Rc.mk XX I (q0 := 2) (ci := 1) rfl rfl)
    replace I : Iv G (va_A (bY G yd td tha ++ (bK G td tra ++ [])) s0.heap.size) s0 _ _ (((bY G yd td tha ++ (bK G td tra ++ []))) ++ []) := I.perm pasc2
    refine ucall_i (X := []) (wc := (bY G yd td tha ++ (bK G td tra ++ []))) (Y := []) (rest := []) XX I hl.1 (c_Y2_Sayer_waits l G OK yd td tha tra x2 r5 s6 q7) kU_X11_328_X1 RC rfl rfl (Nat.le_of_ble_eq_true rfl) ⟨rfl, rfl, Nat.le_of_ble_eq_true rfl, Nat.le_of_ble_eq_true rfl⟩ ⟨Nat.zero_le _, Nat.zero_le _⟩ dX11_answerOf_36 (fun H locs hz8 I => ?_)
    replace I : Iv G (va_A (bY G yd td tha ++ (bK G td tra ++ [])) s0.heap.size) s0 H locs (bY G yd td tha ++ (bK G td s6 ++ [])) := Iv.perm (w := ((bY G yd td tha ++ (bK G td s6 ++ []))) ++ []) I (pasc2.symm)
    obtain ⟨rfl, rfl⟩ := some2 h
    exact e_i rfl XX hr I rfl dX11_answerOf_39
  replace h := if_f h q1
  by_cases q2 : x1 = (2 : Int32)
  · replace h := if_t h q2
    refine lv_tableIn (tgt := 40) (off := 39) hx hb dX11_answerOf_1 (by rw [q2]; decide) (by rw [q2]; decide) (by rw [q2]; rfl) (by decide) ?_
    refine lv_aload_n hx hb dX11_answerOf_40 rfl (lv_at hl 0 rfl) ?_
    refine lv_iload_n hx hb dX11_answerOf_41 rfl (lv_at hl 2 rfl) ?_
    obtain ⟨r9, s10, q11, h⟩ := bd2_some h
    have RC := (Rc.mk XX I (q0 := 2) (ci := 1) rfl rfl)
    replace I : Iv G (va_A (bY G yd td tha ++ (bK G td tra ++ [])) s0.heap.size) s0 _ _ (((bY G yd td tha ++ (bK G td tra ++ []))) ++ []) := I.perm pasc2
    refine ucall_i (X := []) (wc := (bY G yd td tha ++ (bK G td tra ++ []))) (Y := []) (rest := []) XX I hl.1 (c_Y2_Sayer_shares l G OK yd td tha tra x2 r9 s10 q11) kU_X11_331_X1 RC rfl rfl (Nat.le_of_ble_eq_true rfl) ⟨rfl, rfl, Nat.le_of_ble_eq_true rfl, Nat.le_of_ble_eq_true rfl⟩ ⟨Nat.zero_le _, Nat.zero_le _⟩ dX11_answerOf_42 (fun H locs hz12 I => ?_)
    replace I : Iv G (va_A (bY G yd td tha ++ (bK G td tra ++ [])) s0.heap.size) s0 H locs (bY G yd td tha ++ (bK G td s10 ++ [])) := Iv.perm (w := ((bY G yd td tha ++ (bK G td s10 ++ []))) ++ []) I (pasc2.symm)
    obtain ⟨rfl, rfl⟩ := some2 h
    exact e_i rfl XX hr I rfl dX11_answerOf_45
  replace h := if_f h q2
  refine lv_tableOut (tgt := 46) hx hb dX11_answerOf_1 (tab_out (lo := 0) (hi := 2) (fun k k1 k2 => by rcases (show k = 0 ∨ k = 1 ∨ k = 2 by omega) with rfl | rfl | rfl <;> assumption)) (by decide) ?_
  refine lv_aload_n hx hb dX11_answerOf_46 rfl (lv_at hl 0 rfl) ?_
  refine lv_iload_n hx hb dX11_answerOf_47 rfl (lv_at hl 2 rfl) ?_
  obtain ⟨r13, s14, q15, h⟩ := bd2_some h
  have RC := (Rc.mk XX I (q0 := 2) (ci := 1) rfl rfl)
  replace I : Iv G (va_A (bY G yd td tha ++ (bK G td tra ++ [])) s0.heap.size) s0 _ _ (((bY G yd td tha ++ (bK G td tra ++ []))) ++ []) := I.perm pasc2
  refine ucall_i (X := []) (wc := (bY G yd td tha ++ (bK G td tra ++ []))) (Y := []) (rest := []) XX I hl.1 (c_Y2_Bar_tells l G OK yd td tha tra x2 r13 s14 q15) kU_X11_334_X1 RC rfl rfl (Nat.le_of_ble_eq_true rfl) ⟨rfl, rfl, Nat.le_of_ble_eq_true rfl, Nat.le_of_ble_eq_true rfl⟩ ⟨Nat.zero_le _, Nat.zero_le _⟩ dX11_answerOf_48 (fun H locs hz16 I => ?_)
  replace I : Iv G (va_A (bY G yd td tha ++ (bK G td tra ++ [])) s0.heap.size) s0 H locs (bY G yd td tha ++ (bK G td s14 ++ [])) := Iv.perm (w := ((bY G yd td tha ++ (bK G td s14 ++ []))) ++ []) I (pasc2.symm)
  obtain ⟨rfl, rfl⟩ := some2 h
  exact e_i rfl XX hr I rfl dX11_answerOf_51
set_option maxRecDepth 100000 in
theorem kU_X11_325_X10 : KU RX11 325 RX10 RX4 ⟨"LifeNoes$Sayer", "bars", "(I)I"⟩ yX10_bars cX10_bars 2 (some .int) 1 := KU.mkO wd_844 wd_847 wd_865 wd_866 wd_10 wd_867 wd_845 wd_870 (by decide +kernel)
set_option maxRecDepth 100000 in
theorem kU_X11_328_X10 : KU RX11 328 RX10 RX4 ⟨"LifeNoes$Sayer", "waits", "(I)I"⟩ yX10_waits cX10_waits 2 (some .int) 1 := KU.mkO wd_872 wd_875 wd_884 wd_885 wd_10 wd_886 wd_873 wd_891 (by decide +kernel)
set_option maxRecDepth 100000 in
theorem kU_X11_331_X10 : KU RX11 331 RX10 RX4 ⟨"LifeNoes$Sayer", "shares", "(I)I"⟩ yX4_shares cX4_shares 2 (some .int) 1 := KU.mkU wd_893 wd_896 wd_913 wd_894 wd_7 wd_914 rfl (by decide +kernel)
set_option maxRecDepth 100000 in
theorem kU_X11_334_X10 : KU RX11 334 RX10 RX4 ⟨"LifeNoes$Sayer", "tells", "(I)I"⟩ yX1_tells cX1_tells 2 (some .int) 1 := KU.mkO wd_915 wd_918 wd_933 wd_920 wd_9 wd_921 wd_916 wd_934 (by decide +kernel)
set_option maxHeartbeats 4000000 in
set_option maxRecDepth 100000 in
theorem c_Y_answerOf_y3 (l : Launch) (G : g_G) (OK : EOk G.2.2) (yd : Nat → Nat) (td : Nat → Nat) (tha : g_St) (tra : g_St) (x1 : Int32) (x2 : Int32) (r : Int32) (ttr : g_St) (h : f_Y_answerOf_y3 tha tra x1 x2 = some (r, ttr)) : HI l G yX11_answerOf (Cond.code yX11_answerOf cX11_answerOf 3 (some .int) :: gT) { frames := 8, cells := 0, slots := 0, locals := 168 } .int [.ref (yd 3), .int x1, .int x2] (bY G yd td tha ++ (bK G td tra ++ [])) r (bY G yd td tha ++ (bK G td ttr ++ [])) := by
  refine HI.mk (lv := [(0, .ref (yd 3)), (1, .int x1), (2, .int x2)]) OK (by decide) (Nat.le_of_ble_eq_true rfl) rfl ?_
  intro p e s0 m args below meth c ls XX hr I hl
  have hx := XX.x
  have hb := XX.b
  unfold f_Y_answerOf_y3 at h
  refine lv_iload_n hx hb dX11_answerOf_0 rfl (lv_at hl 1 rfl) ?_
  by_cases q0 : x1 = (0 : Int32)
  · replace h := if_t h q0
    refine lv_tableIn (tgt := 28) (off := 27) hx hb dX11_answerOf_1 (by rw [q0]; decide) (by rw [q0]; decide) (by rw [q0]; rfl) (by decide) ?_
    refine lv_aload_n hx hb dX11_answerOf_28 rfl (lv_at hl 0 rfl) ?_
    refine lv_iload_n hx hb dX11_answerOf_29 rfl (lv_at hl 2 rfl) ?_
    obtain ⟨r1, s2, q3, h⟩ := bd2_some h
    have RC := (Rc.mk XX I (q0 := 3) (ci := 10) rfl rfl)
    replace I : Iv G (va_A (bY G yd td tha ++ (bK G td tra ++ [])) s0.heap.size) s0 _ _ (((bY G yd td tha ++ (bK G td tra ++ []))) ++ []) := I.perm pasc2
    refine ucall_i (X := []) (wc := (bY G yd td tha ++ (bK G td tra ++ []))) (Y := []) (rest := []) XX I hl.1 (c_Y3_Wait_bars l G OK yd td tha tra x2 r1 s2 q3) kU_X11_325_X10 RC rfl rfl (Nat.le_of_ble_eq_true rfl) ⟨rfl, rfl, Nat.le_of_ble_eq_true rfl, Nat.le_of_ble_eq_true rfl⟩ ⟨Nat.zero_le _, Nat.zero_le _⟩ dX11_answerOf_30 (fun H locs hz4 I => ?_)
    replace I : Iv G (va_A (bY G yd td tha ++ (bK G td tra ++ [])) s0.heap.size) s0 H locs (bY G yd td tha ++ (bK G td s2 ++ [])) := Iv.perm (w := ((bY G yd td tha ++ (bK G td s2 ++ []))) ++ []) I (pasc2.symm)
    obtain ⟨rfl, rfl⟩ := some2 h
    exact e_i rfl XX hr I rfl dX11_answerOf_33
  replace h := if_f h q0
  by_cases q1 : x1 = (1 : Int32)
  · replace h := if_t h q1
    refine lv_tableIn (tgt := 34) (off := 33) hx hb dX11_answerOf_1 (by rw [q1]; decide) (by rw [q1]; decide) (by rw [q1]; rfl) (by decide) ?_
    refine lv_aload_n hx hb dX11_answerOf_34 rfl (lv_at hl 0 rfl) ?_
    refine lv_iload_n hx hb dX11_answerOf_35 rfl (lv_at hl 2 rfl) ?_
    obtain ⟨r5, s6, q7, h⟩ := bd2_some h
    have RC := (Rc.mk XX I (q0 := 3) (ci := 10) rfl rfl)
    replace I : Iv G (va_A (bY G yd td tha ++ (bK G td tra ++ [])) s0.heap.size) s0 _ _ (((bY G yd td tha ++ (bK G td tra ++ []))) ++ []) := I.perm pasc2
    refine ucall_i (X := []) (wc := (bY G yd td tha ++ (bK G td tra ++ []))) (Y := []) (rest := []) XX I hl.1 (c_Y3_Wait_waits l G OK yd td tha tra x2 r5 s6 q7) kU_X11_328_X10 RC rfl rfl (Nat.le_of_ble_eq_true rfl) ⟨rfl, rfl, Nat.le_of_ble_eq_true rfl, Nat.le_of_ble_eq_true rfl⟩ ⟨Nat.zero_le _, Nat.zero_le _⟩ dX11_answerOf_36 (fun H locs hz8 I => ?_)
    replace I : Iv G (va_A (bY G yd td tha ++ (bK G td tra ++ [])) s0.heap.size) s0 H locs (bY G yd td tha ++ (bK G td s6 ++ [])) := Iv.perm (w := ((bY G yd td tha ++ (bK G td s6 ++ []))) ++ []) I (pasc2.symm)
    obtain ⟨rfl, rfl⟩ := some2 h
    exact e_i rfl XX hr I rfl dX11_answerOf_39
  replace h := if_f h q1
  by_cases q2 : x1 = (2 : Int32)
  · replace h := if_t h q2
    refine lv_tableIn (tgt := 40) (off := 39) hx hb dX11_answerOf_1 (by rw [q2]; decide) (by rw [q2]; decide) (by rw [q2]; rfl) (by decide) ?_
    refine lv_aload_n hx hb dX11_answerOf_40 rfl (lv_at hl 0 rfl) ?_
    refine lv_iload_n hx hb dX11_answerOf_41 rfl (lv_at hl 2 rfl) ?_
    obtain ⟨r9, s10, q11, h⟩ := bd2_some h
    have RC := (Rc.mk XX I (q0 := 3) (ci := 10) rfl rfl)
    replace I : Iv G (va_A (bY G yd td tha ++ (bK G td tra ++ [])) s0.heap.size) s0 _ _ (((bY G yd td tha ++ (bK G td tra ++ []))) ++ []) := I.perm pasc2
    refine ucall_i (X := []) (wc := (bY G yd td tha ++ (bK G td tra ++ []))) (Y := []) (rest := []) XX I hl.1 (c_Y3_Sayer_shares l G OK yd td tha tra x2 r9 s10 q11) kU_X11_331_X10 RC rfl rfl (Nat.le_of_ble_eq_true rfl) ⟨rfl, rfl, Nat.le_of_ble_eq_true rfl, Nat.le_of_ble_eq_true rfl⟩ ⟨Nat.zero_le _, Nat.zero_le _⟩ dX11_answerOf_42 (fun H locs hz12 I => ?_)
    replace I : Iv G (va_A (bY G yd td tha ++ (bK G td tra ++ [])) s0.heap.size) s0 H locs (bY G yd td tha ++ (bK G td s10 ++ [])) := Iv.perm (w := ((bY G yd td tha ++ (bK G td s10 ++ []))) ++ []) I (pasc2.symm)
    obtain ⟨rfl, rfl⟩ := some2 h
    exact e_i rfl XX hr I rfl dX11_answerOf_45
  replace h := if_f h q2
  refine lv_tableOut (tgt := 46) hx hb dX11_answerOf_1 (tab_out (lo := 0) (hi := 2) (fun k k1 k2 => by rcases (show k = 0 ∨ k = 1 ∨ k = 2 by omega) with rfl | rfl | rfl <;> assumption)) (by decide) ?_
  refine lv_aload_n hx hb dX11_answerOf_46 rfl (lv_at hl 0 rfl) ?_
  refine lv_iload_n hx hb dX11_answerOf_47 rfl (lv_at hl 2 rfl) ?_
  obtain ⟨r13, s14, q15, h⟩ := bd2_some h
  have RC := (Rc.mk XX I (q0 := 3) (ci := 10) rfl rfl)
  replace I : Iv G (va_A (bY G yd td tha ++ (bK G td tra ++ [])) s0.heap.size) s0 _ _ (((bY G yd td tha ++ (bK G td tra ++ []))) ++ []) := I.perm pasc2
  refine ucall_i (X := []) (wc := (bY G yd td tha ++ (bK G td tra ++ []))) (Y := []) (rest := []) XX I hl.1 (c_Y3_Bar_tells l G OK yd td tha tra x2 r13 s14 q15) kU_X11_334_X10 RC rfl rfl (Nat.le_of_ble_eq_true rfl) ⟨rfl, rfl, Nat.le_of_ble_eq_true rfl, Nat.le_of_ble_eq_true rfl⟩ ⟨Nat.zero_le _, Nat.zero_le _⟩ dX11_answerOf_48 (fun H locs hz16 I => ?_)
  replace I : Iv G (va_A (bY G yd td tha ++ (bK G td tra ++ [])) s0.heap.size) s0 H locs (bY G yd td tha ++ (bK G td s14 ++ [])) := Iv.perm (w := ((bY G yd td tha ++ (bK G td s14 ++ []))) ++ []) I (pasc2.symm)
  obtain ⟨rfl, rfl⟩ := some2 h
  exact e_i rfl XX hr I rfl dX11_answerOf_51
set_option maxRecDepth 100000 in
theorem kU_X11_325_X2 : KU RX11 325 RX2 RX4 ⟨"LifeNoes$Sayer", "bars", "(I)I"⟩ yX2_bars cX2_bars 2 (some .int) 1 := KU.mkO wd_844 wd_847 wd_856 wd_857 wd_11 wd_858 wd_845 wd_870 (by decide +kernel)
set_option maxRecDepth 100000 in
theorem kU_X11_328_X2 : KU RX11 328 RX2 RX4 ⟨"LifeNoes$Sayer", "waits", "(I)I"⟩ yX3_waits cX3_waits 2 (some .int) 1 := KU.mkO wd_872 wd_875 wd_877 wd_878 wd_8 wd_879 wd_873 wd_891 (by decide +kernel)
set_option maxRecDepth 100000 in
theorem kU_X11_331_X2 : KU RX11 331 RX2 RX4 ⟨"LifeNoes$Sayer", "shares", "(I)I"⟩ yX2_shares cX2_shares 2 (some .int) 1 := KU.mkO wd_893 wd_896 wd_898 wd_899 wd_11 wd_900 wd_894 wd_914 (by decide +kernel)
set_option maxRecDepth 100000 in
theorem kU_X11_334_X2 : KU RX11 334 RX2 RX4 ⟨"LifeNoes$Sayer", "tells", "(I)I"⟩ yX4_tells cX4_tells 2 (some .int) 1 := KU.mkU wd_915 wd_918 wd_927 wd_916 wd_7 wd_934 rfl (by decide +kernel)
set_option maxHeartbeats 4000000 in
set_option maxRecDepth 100000 in
theorem c_Y_answerOf_y4 (l : Launch) (G : g_G) (OK : EOk G.2.2) (yd : Nat → Nat) (td : Nat → Nat) (tha : g_St) (tra : g_St) (x1 : Int32) (x2 : Int32) (r : Int32) (ttr : g_St) (h : f_Y_answerOf_y4 tha tra x1 x2 = some (r, ttr)) : HI l G yX11_answerOf (Cond.code yX11_answerOf cX11_answerOf 3 (some .int) :: gT) { frames := 6, cells := 0, slots := 0, locals := 126 } .int [.ref (yd 4), .int x1, .int x2] (bY G yd td tha ++ (bK G td tra ++ [])) r (bY G yd td tha ++ (bK G td ttr ++ [])) := by
  refine HI.mk (lv := [(0, .ref (yd 4)), (1, .int x1), (2, .int x2)]) OK (by decide) (Nat.le_of_ble_eq_true rfl) rfl ?_
  intro p e s0 m args below meth c ls XX hr I hl
  have hx := XX.x
  have hb := XX.b
  unfold f_Y_answerOf_y4 at h
  refine lv_iload_n hx hb dX11_answerOf_0 rfl (lv_at hl 1 rfl) ?_
  by_cases q0 : x1 = (0 : Int32)
  · replace h := if_t h q0
    refine lv_tableIn (tgt := 28) (off := 27) hx hb dX11_answerOf_1 (by rw [q0]; decide) (by rw [q0]; decide) (by rw [q0]; rfl) (by decide) ?_
    refine lv_aload_n hx hb dX11_answerOf_28 rfl (lv_at hl 0 rfl) ?_
    refine lv_iload_n hx hb dX11_answerOf_29 rfl (lv_at hl 2 rfl) ?_
    obtain ⟨r1, s2, q3, h⟩ := bd2_some h
    have RC := (Rc.mk XX I (q0 := 4) (ci := 2) rfl rfl)
    replace I : Iv G (va_A (bY G yd td tha ++ (bK G td tra ++ [])) s0.heap.size) s0 _ _ (((bY G yd td tha ++ (bK G td tra ++ []))) ++ []) := I.perm pasc2
    refine ucall_i (X := []) (wc := (bY G yd td tha ++ (bK G td tra ++ []))) (Y := []) (rest := []) XX I hl.1 (c_Y4_League_bars l G OK yd td tha tra x2 r1 s2 q3) kU_X11_325_X2 RC rfl rfl (Nat.le_of_ble_eq_true rfl) ⟨rfl, rfl, Nat.le_of_ble_eq_true rfl, Nat.le_of_ble_eq_true rfl⟩ ⟨Nat.zero_le _, Nat.zero_le _⟩ dX11_answerOf_30 (fun H locs hz4 I => ?_)
    replace I : Iv G (va_A (bY G yd td tha ++ (bK G td tra ++ [])) s0.heap.size) s0 H locs (bY G yd td tha ++ (bK G td s2 ++ [])) := Iv.perm (w := ((bY G yd td tha ++ (bK G td s2 ++ []))) ++ []) I (pasc2.symm)
    obtain ⟨rfl, rfl⟩ := some2 h
    exact e_i rfl XX hr I rfl dX11_answerOf_33
  replace h := if_f h q0
  by_cases q1 : x1 = (1 : Int32)
  · replace h := if_t h q1
    refine lv_tableIn (tgt := 34) (off := 33) hx hb dX11_answerOf_1 (by rw [q1]; decide) (by rw [q1]; decide) (by rw [q1]; rfl) (by decide) ?_
    refine lv_aload_n hx hb dX11_answerOf_34 rfl (lv_at hl 0 rfl) ?_
    refine lv_iload_n hx hb dX11_answerOf_35 rfl (lv_at hl 2 rfl) ?_
    obtain ⟨r5, s6, q7, h⟩ := bd2_some h
    have RC := (Rc.mk XX I (q0 := 4) (ci := 2) rfl rfl)
    replace I : Iv G (va_A (bY G yd td tha ++ (bK G td tra ++ [])) s0.heap.size) s0 _ _ (((bY G yd td tha ++ (bK G td tra ++ []))) ++ []) := I.perm pasc2
    refine ucall_i (X := []) (wc := (bY G yd td tha ++ (bK G td tra ++ []))) (Y := []) (rest := []) XX I hl.1 (c_Y4_Quick_waits l G OK yd td tha tra x2 r5 s6 q7) kU_X11_328_X2 RC rfl rfl (Nat.le_of_ble_eq_true rfl) ⟨rfl, rfl, Nat.le_of_ble_eq_true rfl, Nat.le_of_ble_eq_true rfl⟩ ⟨Nat.zero_le _, Nat.zero_le _⟩ dX11_answerOf_36 (fun H locs hz8 I => ?_)
    replace I : Iv G (va_A (bY G yd td tha ++ (bK G td tra ++ [])) s0.heap.size) s0 H locs (bY G yd td tha ++ (bK G td s6 ++ [])) := Iv.perm (w := ((bY G yd td tha ++ (bK G td s6 ++ []))) ++ []) I (pasc2.symm)
    obtain ⟨rfl, rfl⟩ := some2 h
    exact e_i rfl XX hr I rfl dX11_answerOf_39
  replace h := if_f h q1
  by_cases q2 : x1 = (2 : Int32)
  · replace h := if_t h q2
    refine lv_tableIn (tgt := 40) (off := 39) hx hb dX11_answerOf_1 (by rw [q2]; decide) (by rw [q2]; decide) (by rw [q2]; rfl) (by decide) ?_
    refine lv_aload_n hx hb dX11_answerOf_40 rfl (lv_at hl 0 rfl) ?_
    refine lv_iload_n hx hb dX11_answerOf_41 rfl (lv_at hl 2 rfl) ?_
    obtain ⟨r9, s10, q11, h⟩ := bd2_some h
    have RC := (Rc.mk XX I (q0 := 4) (ci := 2) rfl rfl)
    replace I : Iv G (va_A (bY G yd td tha ++ (bK G td tra ++ [])) s0.heap.size) s0 _ _ (((bY G yd td tha ++ (bK G td tra ++ []))) ++ []) := I.perm pasc2
    refine ucall_i (X := []) (wc := (bY G yd td tha ++ (bK G td tra ++ []))) (Y := []) (rest := []) XX I hl.1 (c_Y4_League_shares l G OK yd td tha tra x2 r9 s10 q11) kU_X11_331_X2 RC rfl rfl (Nat.le_of_ble_eq_true rfl) ⟨rfl, rfl, Nat.le_of_ble_eq_true rfl, Nat.le_of_ble_eq_true rfl⟩ ⟨Nat.zero_le _, Nat.zero_le _⟩ dX11_answerOf_42 (fun H locs hz12 I => ?_)
    replace I : Iv G (va_A (bY G yd td tha ++ (bK G td tra ++ [])) s0.heap.size) s0 H locs (bY G yd td tha ++ (bK G td s10 ++ [])) := Iv.perm (w := ((bY G yd td tha ++ (bK G td s10 ++ []))) ++ []) I (pasc2.symm)
    obtain ⟨rfl, rfl⟩ := some2 h
    exact e_i rfl XX hr I rfl dX11_answerOf_45
  replace h := if_f h q2
  refine lv_tableOut (tgt := 46) hx hb dX11_answerOf_1 (tab_out (lo := 0) (hi := 2) (fun k k1 k2 => by rcases (show k = 0 ∨ k = 1 ∨ k = 2 by omega) with rfl | rfl | rfl <;> assumption)) (by decide) ?_
  refine lv_aload_n hx hb dX11_answerOf_46 rfl (lv_at hl 0 rfl) ?_
  refine lv_iload_n hx hb dX11_answerOf_47 rfl (lv_at hl 2 rfl) ?_
  obtain ⟨r13, s14, q15, h⟩ := bd2_some h
  have RC := (Rc.mk XX I (q0 := 4) (ci := 2) rfl rfl)
  replace I : Iv G (va_A (bY G yd td tha ++ (bK G td tra ++ [])) s0.heap.size) s0 _ _ (((bY G yd td tha ++ (bK G td tra ++ []))) ++ []) := I.perm pasc2
  refine ucall_i (X := []) (wc := (bY G yd td tha ++ (bK G td tra ++ []))) (Y := []) (rest := []) XX I hl.1 (c_Y4_Sayer_tells l G OK yd td tha tra x2 r13 s14 q15) kU_X11_334_X2 RC rfl rfl (Nat.le_of_ble_eq_true rfl) ⟨rfl, rfl, Nat.le_of_ble_eq_true rfl, Nat.le_of_ble_eq_true rfl⟩ ⟨Nat.zero_le _, Nat.zero_le _⟩ dX11_answerOf_48 (fun H locs hz16 I => ?_)
  replace I : Iv G (va_A (bY G yd td tha ++ (bK G td tra ++ [])) s0.heap.size) s0 H locs (bY G yd td tha ++ (bK G td s14 ++ [])) := Iv.perm (w := ((bY G yd td tha ++ (bK G td s14 ++ []))) ++ []) I (pasc2.symm)
  obtain ⟨rfl, rfl⟩ := some2 h
  exact e_i rfl XX hr I rfl dX11_answerOf_51
set_option maxRecDepth 100000 in
theorem kU_X11_325_X7 : KU RX11 325 RX7 RX4 ⟨"LifeNoes$Sayer", "bars", "(I)I"⟩ yX4_bars cX4_bars 2 (some .int) 1 := KU.mkU wd_844 wd_847 wd_864 wd_845 wd_7 wd_870 rfl (by decide +kernel)
set_option maxRecDepth 100000 in
theorem kU_X11_328_X7 : KU RX11 328 RX7 RX4 ⟨"LifeNoes$Sayer", "waits", "(I)I"⟩ yX4_waits cX4_waits 2 (some .int) 1 := KU.mkU wd_872 wd_875 wd_883 wd_873 wd_7 wd_891 rfl (by decide +kernel)
set_option maxRecDepth 100000 in
theorem kU_X11_331_X7 : KU RX11 331 RX7 RX4 ⟨"LifeNoes$Sayer", "shares", "(I)I"⟩ yX7_shares cX7_shares 3 (some .int) 1 := KU.mkO wd_893 wd_896 wd_905 wd_906 wd_12 wd_907 wd_894 wd_914 (by decide +kernel)
set_option maxRecDepth 100000 in
theorem kU_X11_334_X7 : KU RX11 334 RX7 RX4 ⟨"LifeNoes$Sayer", "tells", "(I)I"⟩ yX7_tells cX7_tells 2 (some .int) 1 := KU.mkO wd_915 wd_918 wd_929 wd_930 wd_12 wd_931 wd_916 wd_934 (by decide +kernel)
set_option maxHeartbeats 4000000 in
set_option maxRecDepth 100000 in
theorem c_Y_answerOf_y5 (l : Launch) (G : g_G) (OK : EOk G.2.2) (yd : Nat → Nat) (td : Nat → Nat) (tha : g_St) (tra : g_St) (x1 : Int32) (x2 : Int32) (r : Int32) (ttr : g_St) (h : f_Y_answerOf_y5 tha tra x1 x2 = some (r, ttr)) : HI l G yX11_answerOf (Cond.code yX11_answerOf cX11_answerOf 3 (some .int) :: gT) { frames := 5, cells := 0, slots := 0, locals := 105 } .int [.ref (yd 5), .int x1, .int x2] (bY G yd td tha ++ (bK G td tra ++ [])) r (bY G yd td tha ++ (bK G td ttr ++ [])) := by
  refine HI.mk (lv := [(0, .ref (yd 5)), (1, .int x1), (2, .int x2)]) OK (by decide) (Nat.le_of_ble_eq_true rfl) rfl ?_
  intro p e s0 m args below meth c ls XX hr I hl
  have hx := XX.x
  have hb := XX.b
  unfold f_Y_answerOf_y5 at h
  refine lv_iload_n hx hb dX11_answerOf_0 rfl (lv_at hl 1 rfl) ?_
  by_cases q0 : x1 = (0 : Int32)
  · replace h := if_t h q0
    refine lv_tableIn (tgt := 28) (off := 27) hx hb dX11_answerOf_1 (by rw [q0]; decide) (by rw [q0]; decide) (by rw [q0]; rfl) (by decide) ?_
    refine lv_aload_n hx hb dX11_answerOf_28 rfl (lv_at hl 0 rfl) ?_
    refine lv_iload_n hx hb dX11_answerOf_29 rfl (lv_at hl 2 rfl) ?_
    obtain ⟨r1, s2, q3, h⟩ := bd2_some h
    have RC := (Rc.mk XX I (q0 := 5) (ci := 7) rfl rfl)
    replace I : Iv G (va_A (bY G yd td tha ++ (bK G td tra ++ [])) s0.heap.size) s0 _ _ (((bY G yd td tha ++ (bK G td tra ++ []))) ++ []) := I.perm pasc2
    refine ucall_i (X := []) (wc := (bY G yd td tha ++ (bK G td tra ++ []))) (Y := []) (rest := []) XX I hl.1 (c_Y5_Sayer_bars l G OK yd td tha tra x2 r1 s2 q3) kU_X11_325_X7 RC rfl rfl (Nat.le_of_ble_eq_true rfl) ⟨rfl, rfl, Nat.le_of_ble_eq_true rfl, Nat.le_of_ble_eq_true rfl⟩ ⟨Nat.zero_le _, Nat.zero_le _⟩ dX11_answerOf_30 (fun H locs hz4 I => ?_)
    replace I : Iv G (va_A (bY G yd td tha ++ (bK G td tra ++ [])) s0.heap.size) s0 H locs (bY G yd td tha ++ (bK G td s2 ++ [])) := Iv.perm (w := ((bY G yd td tha ++ (bK G td s2 ++ []))) ++ []) I (pasc2.symm)
    obtain ⟨rfl, rfl⟩ := some2 h
    exact e_i rfl XX hr I rfl dX11_answerOf_33
  replace h := if_f h q0
  by_cases q1 : x1 = (1 : Int32)
  · replace h := if_t h q1
    refine lv_tableIn (tgt := 34) (off := 33) hx hb dX11_answerOf_1 (by rw [q1]; decide) (by rw [q1]; decide) (by rw [q1]; rfl) (by decide) ?_
    refine lv_aload_n hx hb dX11_answerOf_34 rfl (lv_at hl 0 rfl) ?_
    refine lv_iload_n hx hb dX11_answerOf_35 rfl (lv_at hl 2 rfl) ?_
    obtain ⟨r5, s6, q7, h⟩ := bd2_some h
    have RC := (Rc.mk XX I (q0 := 5) (ci := 7) rfl rfl)
    replace I : Iv G (va_A (bY G yd td tha ++ (bK G td tra ++ [])) s0.heap.size) s0 _ _ (((bY G yd td tha ++ (bK G td tra ++ []))) ++ []) := I.perm pasc2
    refine ucall_i (X := []) (wc := (bY G yd td tha ++ (bK G td tra ++ []))) (Y := []) (rest := []) XX I hl.1 (c_Y5_Sayer_waits l G OK yd td tha tra x2 r5 s6 q7) kU_X11_328_X7 RC rfl rfl (Nat.le_of_ble_eq_true rfl) ⟨rfl, rfl, Nat.le_of_ble_eq_true rfl, Nat.le_of_ble_eq_true rfl⟩ ⟨Nat.zero_le _, Nat.zero_le _⟩ dX11_answerOf_36 (fun H locs hz8 I => ?_)
    replace I : Iv G (va_A (bY G yd td tha ++ (bK G td tra ++ [])) s0.heap.size) s0 H locs (bY G yd td tha ++ (bK G td s6 ++ [])) := Iv.perm (w := ((bY G yd td tha ++ (bK G td s6 ++ []))) ++ []) I (pasc2.symm)
    obtain ⟨rfl, rfl⟩ := some2 h
    exact e_i rfl XX hr I rfl dX11_answerOf_39
  replace h := if_f h q1
  by_cases q2 : x1 = (2 : Int32)
  · replace h := if_t h q2
    refine lv_tableIn (tgt := 40) (off := 39) hx hb dX11_answerOf_1 (by rw [q2]; decide) (by rw [q2]; decide) (by rw [q2]; rfl) (by decide) ?_
    refine lv_aload_n hx hb dX11_answerOf_40 rfl (lv_at hl 0 rfl) ?_
    refine lv_iload_n hx hb dX11_answerOf_41 rfl (lv_at hl 2 rfl) ?_
    obtain ⟨r9, s10, q11, h⟩ := bd2_some h
    have RC := (Rc.mk XX I (q0 := 5) (ci := 7) rfl rfl)
    replace I : Iv G (va_A (bY G yd td tha ++ (bK G td tra ++ [])) s0.heap.size) s0 _ _ (((bY G yd td tha ++ (bK G td tra ++ []))) ++ []) := I.perm pasc2
    refine ucall_i (X := []) (wc := (bY G yd td tha ++ (bK G td tra ++ []))) (Y := []) (rest := []) XX I hl.1 (c_Y5_Told_shares l G OK yd td tha tra x2 r9 s10 q11) kU_X11_331_X7 RC rfl rfl (Nat.le_of_ble_eq_true rfl) ⟨rfl, rfl, Nat.le_of_ble_eq_true rfl, Nat.le_of_ble_eq_true rfl⟩ ⟨Nat.zero_le _, Nat.zero_le _⟩ dX11_answerOf_42 (fun H locs hz12 I => ?_)
    replace I : Iv G (va_A (bY G yd td tha ++ (bK G td tra ++ [])) s0.heap.size) s0 H locs (bY G yd td tha ++ (bK G td s10 ++ [])) := Iv.perm (w := ((bY G yd td tha ++ (bK G td s10 ++ []))) ++ []) I (pasc2.symm)
    obtain ⟨rfl, rfl⟩ := some2 h
    exact e_i rfl XX hr I rfl dX11_answerOf_45
  replace h := if_f h q2
  refine lv_tableOut (tgt := 46) hx hb dX11_answerOf_1 (tab_out (lo := 0) (hi := 2) (fun k k1 k2 => by rcases (show k = 0 ∨ k = 1 ∨ k = 2 by omega) with rfl | rfl | rfl <;> assumption)) (by decide) ?_
  refine lv_aload_n hx hb dX11_answerOf_46 rfl (lv_at hl 0 rfl) ?_
  refine lv_iload_n hx hb dX11_answerOf_47 rfl (lv_at hl 2 rfl) ?_
  obtain ⟨r13, s14, q15, h⟩ := bd2_some h
  have RC := (Rc.mk XX I (q0 := 5) (ci := 7) rfl rfl)
  replace I : Iv G (va_A (bY G yd td tha ++ (bK G td tra ++ [])) s0.heap.size) s0 _ _ (((bY G yd td tha ++ (bK G td tra ++ []))) ++ []) := I.perm pasc2
  refine ucall_i (X := []) (wc := (bY G yd td tha ++ (bK G td tra ++ []))) (Y := []) (rest := []) XX I hl.1 (c_Y5_Told_tells l G OK yd td tha tra x2 r13 s14 q15) kU_X11_334_X7 RC rfl rfl (Nat.le_of_ble_eq_true rfl) ⟨rfl, rfl, Nat.le_of_ble_eq_true rfl, Nat.le_of_ble_eq_true rfl⟩ ⟨Nat.zero_le _, Nat.zero_le _⟩ dX11_answerOf_48 (fun H locs hz16 I => ?_)
  replace I : Iv G (va_A (bY G yd td tha ++ (bK G td tra ++ [])) s0.heap.size) s0 H locs (bY G yd td tha ++ (bK G td s14 ++ [])) := Iv.perm (w := ((bY G yd td tha ++ (bK G td s14 ++ []))) ++ []) I (pasc2.symm)
  obtain ⟨rfl, rfl⟩ := some2 h
  exact e_i rfl XX hr I rfl dX11_answerOf_51
set_option maxRecDepth 100000 in
theorem kV_X11_283 : KV RX11 283 RX8 yX8_clear cX8_clear 1 none 0 := KV.mk wd_837 wd_838 wd_839 wd_6 wd_840 (by decide +kernel)
set_option maxRecDepth 100000 in
theorem kS_X11_286 : KS RX11 286 yX11_answerOf cX11_answerOf 3 (some .int) 3 := KS.mk wd_841 wd_842 wd_1 wd_843 (by decide +kernel)
set_option maxRecDepth 100000 in
theorem gO_X11_o0_bodies {p : Program} {l : Launch} {e : Env} {R : Room} {s0 : State} {m : MethodId} {args : Array Value} {below : List Frame} {meth : Method} {c : Code} {H : Heap} {locs : List Loc} {cells slots : Nat} {Q : State → Prop} {cc : ByteArray} {nL pc : Nat} {ls : Array Slot} {rest : List Value} {G : g_G} {A : Nat → Prop} {oa : Nat → Nat} {na : Nat → Nat} {ka : Nat → Nat} {aa : Nat → Nat} {wa : Nat → Nat} {ra : Nat → Nat} {ma : Nat → Nat} {pa : Nat → Nat} {sd : Nat → Nat → Nat} {yd : Nat → Nat} {td : Nat → Nat} {ow : g_St} {nw : g_St} {kp : g_St} {ah : g_St} {aw : g_St} {rd : g_St} {md : g_St} {tp : g_St} {hh : g_Sf} {th : g_St} {tr : g_St} (XX : Cx G A p s0 m meth c cc nL RX11 args) (I : Iv G A s0 H locs (bO G oa na ka aa ra pa sd yd td ow ++ (bV G na nw ++ (bV G ka kp ++ (bA G aa wa ah ++ (bV G wa aw ++ (bT G ra ma rd ++ (bV G ma md ++ (bP G pa tp ++ (bH G sd hh ++ (bY G yd td th ++ (bK G td tr ++ [])))))))))))) (hdg : decode cc pc = .ok (.getfield 99, 3)) (kk : W p l e R s0 m args below meth c H locs cells slots Q (F0 m (pc + 3) ls (.ref (td 0) :: rest))) : W p l e R s0 m args below meth c H locs cells slots Q (F0 m pc ls (.ref (oa 0) :: rest)) := r_get kfX11 XX I 0 rfl 15 (Nat.le_of_ble_eq_true rfl) wd_300 rfl hdg kk
set_option maxRecDepth 100000 in
theorem gO_X11_o10_parted {p : Program} {l : Launch} {e : Env} {R : Room} {s0 : State} {m : MethodId} {args : Array Value} {below : List Frame} {meth : Method} {c : Code} {H : Heap} {locs : List Loc} {cells slots : Nat} {Q : State → Prop} {cc : ByteArray} {nL pc : Nat} {ls : Array Slot} {rest : List Value} {G : g_G} {A : Nat → Prop} {oa : Nat → Nat} {na : Nat → Nat} {ka : Nat → Nat} {aa : Nat → Nat} {wa : Nat → Nat} {ra : Nat → Nat} {ma : Nat → Nat} {pa : Nat → Nat} {sd : Nat → Nat → Nat} {yd : Nat → Nat} {td : Nat → Nat} {ow : g_St} {nw : g_St} {kp : g_St} {ah : g_St} {aw : g_St} {rd : g_St} {md : g_St} {tp : g_St} {hh : g_Sf} {th : g_St} {tr : g_St} (XX : Cx G A p s0 m meth c cc nL RX11 args) (I : Iv G A s0 H locs (bO G oa na ka aa ra pa sd yd td ow ++ (bV G na nw ++ (bV G ka kp ++ (bA G aa wa ah ++ (bV G wa aw ++ (bT G ra ma rd ++ (bV G ma md ++ (bP G pa tp ++ (bH G sd hh ++ (bY G yd td th ++ (bK G td tr ++ [])))))))))))) (hdg : decode cc pc = .ok (.getfield 290, 3)) (kk : W p l e R s0 m args below meth c H locs cells slots Q (F0 m (pc + 3) ls (.int (gi tr 2) :: rest))) : W p l e R s0 m args below meth c H locs cells slots Q (F0 m pc ls (.ref (td 0) :: rest)) := r_get kfX8 XX I 119 rfl 2 (Nat.le_of_ble_eq_true rfl) wd_190 rfl hdg kk
set_option maxHeartbeats 4000000 in
set_option maxRecDepth 100000 in
theorem c_O_act (l : Launch) (G : g_G) (OK : EOk G.2.2) (oa : Nat → Nat) (na : Nat → Nat) (ka : Nat → Nat) (aa : Nat → Nat) (wa : Nat → Nat) (ra : Nat → Nat) (ma : Nat → Nat) (pa : Nat → Nat) (sd : Nat → Nat → Nat) (yd : Nat → Nat) (td : Nat → Nat) (owa : g_St) (nwa : g_St) (kpa : g_St) (aha : g_St) (awa : g_St) (rda : g_St) (mda : g_St) (tpa : g_St) (hha : g_Sf) (tha : g_St) (tra : g_St) (x1 : Int32) (x2 : Int32) (x3 : Int32) (r : Int32) (tth : g_St) (ttr : g_St) (h : f_O_act owa nwa tha tra x1 x2 x3 = some (r, tth, ttr)) : HI l G yX11_act (Cond.code yX11_act cX11_act 6 (some .int) :: gT) { frames := 9, cells := 0, slots := 0, locals := 190 } .int [.ref (oa 0), .int x1, .int x2, .int x3] (bO G oa na ka aa ra pa sd yd td owa ++ (bV G na nwa ++ (bV G ka kpa ++ (bA G aa wa aha ++ (bV G wa awa ++ (bT G ra ma rda ++ (bV G ma mda ++ (bP G pa tpa ++ (bH G sd hha ++ (bY G yd td tha ++ (bK G td tra ++ []))))))))))) r (bO G oa na ka aa ra pa sd yd td owa ++ (bV G na nwa ++ (bV G ka kpa ++ (bA G aa wa aha ++ (bV G wa awa ++ (bT G ra ma rda ++ (bV G ma mda ++ (bP G pa tpa ++ (bH G sd hha ++ (bY G yd td tth ++ (bK G td ttr ++ []))))))))))) := by
  refine HI.mk (lv := [(0, .ref (oa 0)), (1, .int x1), (2, .int x2), (3, .int x3)]) OK (by decide) (Nat.le_of_ble_eq_true rfl) rfl ?_
  intro p e s0 m args below meth c ls XX hr I hl
  have hx := XX.x
  have hb := XX.b
  unfold f_O_act at h
  refine lv_aload_n hx hb dX11_act_0 rfl (lv_at hl 0 rfl) ?_
  refine gO_X11_o0_bodies XX I dX11_act_1 ?_
  obtain ⟨q1, eq1⟩ : ∃ z, z = f_K_clear tra := ⟨_, rfl⟩
  replace h := lt_e h eq1
  have RC := (Rc.mk XX I (q0 := 119) (ci := 8) rfl rfl)
  replace I : Iv G (va_A (bO G oa na ka aa ra pa sd yd td owa ++ (bV G na nwa ++ (bV G ka kpa ++ (bA G aa wa aha ++ (bV G wa awa ++ (bT G ra ma rda ++ (bV G ma mda ++ (bP G pa tpa ++ (bH G sd hha ++ (bY G yd td tha ++ (bK G td tra ++ []))))))))))) s0.heap.size) s0 _ _ ((bK G td tra) ++ (bO G oa na ka aa ra pa sd yd td owa ++ (bV G na nwa ++ (bV G ka kpa ++ (bA G aa wa aha ++ (bV G wa awa ++ (bT G ra ma rda ++ (bV G ma mda ++ (bP G pa tpa ++ (bH G sd hha ++ (bY G yd td tha ++ []))))))))))) := I.perm ((List.Perm.append_left _ ((List.Perm.append_left _ ((List.Perm.append_left _ ((List.Perm.append_left _ ((List.Perm.append_left _ ((List.Perm.append_left _ ((List.Perm.append_left _ ((List.Perm.append_left _ ((List.Perm.append_left _ ((List.Perm.append_left _ (List.Perm.refl _)).trans (List.perm_append_comm_assoc _ _ _))).trans (List.perm_append_comm_assoc _ _ _))).trans (List.perm_append_comm_assoc _ _ _))).trans (List.perm_append_comm_assoc _ _ _))).trans (List.perm_append_comm_assoc _ _ _))).trans (List.perm_append_comm_assoc _ _ _))).trans (List.perm_append_comm_assoc _ _ _))).trans (List.perm_append_comm_assoc _ _ _))).trans (List.perm_append_comm_assoc _ _ _))).trans (List.perm_append_comm_assoc _ _ _))
  refine call_v (X := []) (wc := (bK G td tra)) (Y := (bO G oa na ka aa ra pa sd yd td owa ++ (bV G na nwa ++ (bV G ka kpa ++ (bA G aa wa aha ++ (bV G wa awa ++ (bT G ra ma rda ++ (bV G ma mda ++ (bP G pa tpa ++ (bH G sd hha ++ (bY G yd td tha ++ []))))))))))) (rest := []) XX I hl.1 (c_K_clear l G OK td tra q1 eq1.symm) kV_X11_283 RC rfl rfl (Nat.le_of_ble_eq_true rfl) ⟨rfl, rfl, Nat.le_of_ble_eq_true rfl, Nat.le_of_ble_eq_true rfl⟩ ⟨Nat.zero_le _, Nat.zero_le _⟩ dX11_act_4 (fun H locs I => ?_)
  replace I : Iv G (va_A (bO G oa na ka aa ra pa sd yd td owa ++ (bV G na nwa ++ (bV G ka kpa ++ (bA G aa wa aha ++ (bV G wa awa ++ (bT G ra ma rda ++ (bV G ma mda ++ (bP G pa tpa ++ (bH G sd hha ++ (bY G yd td tha ++ (bK G td tra ++ []))))))))))) s0.heap.size) s0 H locs (bO G oa na ka aa ra pa sd yd td owa ++ (bV G na nwa ++ (bV G ka kpa ++ (bA G aa wa aha ++ (bV G wa awa ++ (bT G ra ma rda ++ (bV G ma mda ++ (bP G pa tpa ++ (bH G sd hha ++ (bY G yd td tha ++ (bK G td q1 ++ []))))))))))) := Iv.perm (w := (bK G td q1) ++ (bO G oa na ka aa ra pa sd yd td owa ++ (bV G na nwa ++ (bV G ka kpa ++ (bA G aa wa aha ++ (bV G wa awa ++ (bT G ra ma rda ++ (bV G ma mda ++ (bP G pa tpa ++ (bH G sd hha ++ (bY G yd td tha ++ []))))))))))) I (((List.Perm.append_left _ ((List.Perm.append_left _ ((List.Perm.append_left _ ((List.Perm.append_left _ ((List.Perm.append_left _ ((List.Perm.append_left _ ((List.Perm.append_left _ ((List.Perm.append_left _ ((List.Perm.append_left _ ((List.Perm.append_left _ (List.Perm.refl _)).trans (List.perm_append_comm_assoc _ _ _))).trans (List.perm_append_comm_assoc _ _ _))).trans (List.perm_append_comm_assoc _ _ _))).trans (List.perm_append_comm_assoc _ _ _))).trans (List.perm_append_comm_assoc _ _ _))).trans (List.perm_append_comm_assoc _ _ _))).trans (List.perm_append_comm_assoc _ _ _))).trans (List.perm_append_comm_assoc _ _ _))).trans (List.perm_append_comm_assoc _ _ _))).trans (List.perm_append_comm_assoc _ _ _)).symm)
  refine lv_iload_n hx hb dX11_act_7 rfl (lv_at hl 1 rfl) ?_
  refine lv_iconst (v := 0) hx hb dX11_act_8 (by decide) ?_
  refine lv_iconst (v := 3) hx hb dX11_act_9 (by decide) ?_
  refine scall_i (rest := []) XX I hl.1 (c_S_within l G OK x1 (0 : Int32) (3 : Int32) _ rfl) kS_X11_103 rfl rfl (Nat.le_of_ble_eq_true rfl) ⟨rfl, rfl, Nat.le_of_ble_eq_true rfl, Nat.le_of_ble_eq_true rfl⟩ ⟨Nat.zero_le _, Nat.zero_le _⟩ dX11_act_10 (fun H locs hz3 I => ?_)
  refine lv_if_eq (tgt := 25) hx hb dX11_act_13 (by decide) (fun c1 => ?_) (fun c1 => ?_)
  · replace h := if_t h c1
    refine lv_iconst (v := 0) hx hb dX11_act_25 (by decide) ?_
    obtain ⟨rfl, h9⟩ := some2 h
    obtain ⟨rfl, rfl⟩ := pair2 h9
    exact e_i rfl XX hr I rfl dX11_act_26
  · replace h := if_f h c1
    refine lv_iload_n hx hb dX11_act_16 rfl (lv_at hl 2 rfl) ?_
    refine lv_iconst (v := 0) hx hb dX11_act_17 (by decide) ?_
    refine lv_iconst (v := 3) hx hb dX11_act_18 (by decide) ?_
    refine scall_i (rest := []) XX I hl.1 (c_S_within l G OK x2 (0 : Int32) (3 : Int32) _ rfl) kS_X11_103 rfl rfl (Nat.le_of_ble_eq_true rfl) ⟨rfl, rfl, Nat.le_of_ble_eq_true rfl, Nat.le_of_ble_eq_true rfl⟩ ⟨Nat.zero_le _, Nat.zero_le _⟩ dX11_act_19 (fun H locs hz4 I => ?_)
    refine lv_if_ne (tgt := 27) hx hb dX11_act_22 (by decide) (fun c1 => ?_) (fun c1 => ?_)
    · replace h := if_f h c1
      refine lv_aload_n hx hb dX11_act_27 rfl (lv_at hl 0 rfl) ?_
      refine lv_iload_n hx hb dX11_act_28 rfl (lv_at hl 1 rfl) ?_
      obtain ⟨r5, s6, q7, h⟩ := bd2_some h
      replace I := I.whole
      refine call_q (X := []) (wc := (bO G oa na ka aa ra pa sd yd td owa ++ (bV G na nwa ++ (bV G ka kpa ++ (bA G aa wa aha ++ (bV G wa awa ++ (bT G ra ma rda ++ (bV G ma mda ++ (bP G pa tpa ++ (bH G sd hha ++ (bY G yd td tha ++ (bK G td q1 ++ [])))))))))))) (Y := []) (rest := []) XX I hl.1 (c_O_thingOn l G OK oa na ka aa wa ra ma pa sd yd td owa nwa kpa aha awa rda mda tpa hha tha q1 x1 r5 s6 q7) kV_X11_272 (Rc.mk XX I (q0 := 0) (ci := 11) rfl rfl) rfl rfl (Nat.le_of_ble_eq_true rfl) ⟨rfl, rfl, Nat.le_of_ble_eq_true rfl, Nat.le_of_ble_eq_true rfl⟩ ⟨Nat.zero_le _, Nat.zero_le _⟩ dX11_act_29 (fun H locs I => ?_)
      replace I : Iv G (va_A (bO G oa na ka aa ra pa sd yd td owa ++ (bV G na nwa ++ (bV G ka kpa ++ (bA G aa wa aha ++ (bV G wa awa ++ (bT G ra ma rda ++ (bV G ma mda ++ (bP G pa tpa ++ (bH G sd hha ++ (bY G yd td tha ++ (bK G td tra ++ []))))))))))) s0.heap.size) s0 H locs (bO G oa na ka aa ra pa sd yd td owa ++ (bV G na nwa ++ (bV G ka kpa ++ (bA G aa wa aha ++ (bV G wa awa ++ (bT G ra ma rda ++ (bV G ma mda ++ (bP G pa tpa ++ (bH G sd hha ++ (bY G yd td s6 ++ (bK G td q1 ++ []))))))))))) := I.unw
      by_cases qn : r5 = (none : Option Nat)
      · replace h := if_t h qn
        subst qn
        refine W.eq (g2 := F0 m 32 ls [.null]) rfl ?_
        refine lv_astoreN (lv' := [(4, .null), (0, .ref (oa 0)), (1, .int x1), (2, .int x2), (3, .int x3)]) hx hb dX11_act_32 hl (by decide) rfl (fun ls hl => ?_)
        refine lv_aloadN hx hb dX11_act_34 (lv_at hl 0 rfl) ?_
        refine lv_ifnonnullN hx hb dX11_act_36 ?_
        refine lv_iconst (v := 0) hx hb dX11_act_39 (by decide) ?_
        obtain ⟨rfl, h9⟩ := some2 h
        obtain ⟨rfl, rfl⟩ := pair2 h9
        exact e_i rfl XX hr I rfl dX11_act_40
      replace h := if_f h qn
      by_cases qn0 : r5 = (some 0 : Option Nat)
      · replace h := if_t h qn0
        subst qn0
        refine W.eq (g2 := F0 m 32 ls [.ref (yd 0)]) rfl ?_
        refine lv_astore (lv' := [(4, .ref (yd 0)), (0, .ref (oa 0)), (1, .int x1), (2, .int x2), (3, .int x3)]) hx hb dX11_act_32 hl (by decide) rfl (fun ls hl => ?_)
        refine lv_aload hx hb dX11_act_34 (lv_at hl 0 rfl) ?_
        refine lv_ifnonnull (tgt := 41) hx hb dX11_act_36 (by decide) ?_
        refine lv_aload hx hb dX11_act_41 (lv_at hl 0 rfl) ?_
        refine lv_iload_n hx hb dX11_act_43 rfl (lv_at hl 3 rfl) ?_
        refine lv_iload_n hx hb dX11_act_44 rfl (lv_at hl 4 rfl) ?_
        obtain ⟨r8, s9, q10, h⟩ := bd2_some h
        replace I : Iv G (va_A (bO G oa na ka aa ra pa sd yd td owa ++ (bV G na nwa ++ (bV G ka kpa ++ (bA G aa wa aha ++ (bV G wa awa ++ (bT G ra ma rda ++ (bV G ma mda ++ (bP G pa tpa ++ (bH G sd hha ++ (bY G yd td tha ++ (bK G td tra ++ []))))))))))) s0.heap.size) s0 _ _ (((bY G yd td s6 ++ (bK G td q1 ++ []))) ++ (bO G oa na ka aa ra pa sd yd td owa ++ (bV G na nwa ++ (bV G ka kpa ++ (bA G aa wa aha ++ (bV G wa awa ++ (bT G ra ma rda ++ (bV G ma mda ++ (bP G pa tpa ++ (bH G sd hha ++ [])))))))))) := I.perm ((((List.Perm.append_left _ ((List.Perm.append_left _ ((List.Perm.append_left _ ((List.Perm.append_left _ ((List.Perm.append_left _ ((List.Perm.append_left _ ((List.Perm.append_left _ ((List.Perm.append_left _ ((List.Perm.append_left _ (List.Perm.refl _)).trans (List.perm_append_comm_assoc _ _ _))).trans (List.perm_append_comm_assoc _ _ _))).trans (List.perm_append_comm_assoc _ _ _))).trans (List.perm_append_comm_assoc _ _ _))).trans (List.perm_append_comm_assoc _ _ _))).trans (List.perm_append_comm_assoc _ _ _))).trans (List.perm_append_comm_assoc _ _ _))).trans (List.perm_append_comm_assoc _ _ _))).trans (List.perm_append_comm_assoc _ _ _)).trans (List.Perm.append_left _ ((List.Perm.append_left _ ((List.Perm.append_left _ ((List.Perm.append_left _ ((List.Perm.append_left _ ((List.Perm.append_left _ ((List.Perm.append_left _ ((List.Perm.append_left _ ((List.Perm.append_left _ ((List.Perm.append_left _ (List.Perm.refl _)).trans (List.perm_append_comm_assoc _ _ _))).trans (List.perm_append_comm_assoc _ _ _))).trans (List.perm_append_comm_assoc _ _ _))).trans (List.perm_append_comm_assoc _ _ _))).trans (List.perm_append_comm_assoc _ _ _))).trans (List.perm_append_comm_assoc _ _ _))).trans (List.perm_append_comm_assoc _ _ _))).trans (List.perm_append_comm_assoc _ _ _))).trans (List.perm_append_comm_assoc _ _ _)))).trans pasc2)
        refine swcall_i (X := []) (wc := (bY G yd td s6 ++ (bK G td q1 ++ []))) (Y := (bO G oa na ka aa ra pa sd yd td owa ++ (bV G na nwa ++ (bV G ka kpa ++ (bA G aa wa aha ++ (bV G wa awa ++ (bT G ra ma rda ++ (bV G ma mda ++ (bP G pa tpa ++ (bH G sd hha ++ [])))))))))) (rest := []) XX I hl.1 (c_Y_answerOf_y0 l G OK yd td s6 q1 x2 x3 r8 s9 q10) kS_X11_286 rfl rfl (Nat.le_of_ble_eq_true rfl) ⟨rfl, rfl, Nat.le_of_ble_eq_true rfl, Nat.le_of_ble_eq_true rfl⟩ ⟨Nat.zero_le _, Nat.zero_le _⟩ dX11_act_45 (fun H locs hz11 I => ?_)
        replace I : Iv G (va_A (bO G oa na ka aa ra pa sd yd td owa ++ (bV G na nwa ++ (bV G ka kpa ++ (bA G aa wa aha ++ (bV G wa awa ++ (bT G ra ma rda ++ (bV G ma mda ++ (bP G pa tpa ++ (bH G sd hha ++ (bY G yd td tha ++ (bK G td tra ++ []))))))))))) s0.heap.size) s0 H locs (bO G oa na ka aa ra pa sd yd td owa ++ (bV G na nwa ++ (bV G ka kpa ++ (bA G aa wa aha ++ (bV G wa awa ++ (bT G ra ma rda ++ (bV G ma mda ++ (bP G pa tpa ++ (bH G sd hha ++ (bY G yd td s6 ++ (bK G td s9 ++ []))))))))))) := Iv.perm (w := ((bY G yd td s6 ++ (bK G td s9 ++ []))) ++ (bO G oa na ka aa ra pa sd yd td owa ++ (bV G na nwa ++ (bV G ka kpa ++ (bA G aa wa aha ++ (bV G wa awa ++ (bT G ra ma rda ++ (bV G ma mda ++ (bP G pa tpa ++ (bH G sd hha ++ [])))))))))) I (((((List.Perm.append_left _ ((List.Perm.append_left _ ((List.Perm.append_left _ ((List.Perm.append_left _ ((List.Perm.append_left _ ((List.Perm.append_left _ ((List.Perm.append_left _ ((List.Perm.append_left _ ((List.Perm.append_left _ (List.Perm.refl _)).trans (List.perm_append_comm_assoc _ _ _))).trans (List.perm_append_comm_assoc _ _ _))).trans (List.perm_append_comm_assoc _ _ _))).trans (List.perm_append_comm_assoc _ _ _))).trans (List.perm_append_comm_assoc _ _ _))).trans (List.perm_append_comm_assoc _ _ _))).trans (List.perm_append_comm_assoc _ _ _))).trans (List.perm_append_comm_assoc _ _ _))).trans (List.perm_append_comm_assoc _ _ _)).trans (List.Perm.append_left _ ((List.Perm.append_left _ ((List.Perm.append_left _ ((List.Perm.append_left _ ((List.Perm.append_left _ ((List.Perm.append_left _ ((List.Perm.append_left _ ((List.Perm.append_left _ ((List.Perm.append_left _ ((List.Perm.append_left _ (List.Perm.refl _)).trans (List.perm_append_comm_assoc _ _ _))).trans (List.perm_append_comm_assoc _ _ _))).trans (List.perm_append_comm_assoc _ _ _))).trans (List.perm_append_comm_assoc _ _ _))).trans (List.perm_append_comm_assoc _ _ _))).trans (List.perm_append_comm_assoc _ _ _))).trans (List.perm_append_comm_assoc _ _ _))).trans (List.perm_append_comm_assoc _ _ _))).trans (List.perm_append_comm_assoc _ _ _)))).trans pasc2).symm)
        refine lv_istore (lv' := [(5, .int r8), (4, .ref (yd 0)), (0, .ref (oa 0)), (1, .int x1), (2, .int x2), (3, .int x3)]) hx hb dX11_act_48 hl (by decide) rfl (fun ls hl => ?_)
        refine lv_aload_n hx hb dX11_act_50 rfl (lv_at hl 2 rfl) ?_
        refine gO_X11_o0_bodies XX I dX11_act_51 ?_
        refine gO_X11_o10_parted XX I dX11_act_54 ?_
        refine lv_if_eq (tgt := 65) hx hb dX11_act_57 (by decide) (fun c1 => ?_) (fun c1 => ?_)
        · replace h := if_t h c1
          refine lv_iload hx hb dX11_act_65 (lv_at hl 0 rfl) ?_
          obtain ⟨rfl, h9⟩ := some2 h
          obtain ⟨rfl, rfl⟩ := pair2 h9
          exact e_i rfl XX hr I rfl dX11_act_67
        · replace h := if_f h c1
          refine lv_bipush (v := (-15)) hx hb dX11_act_60 (by decide) ?_
          refine lv_goto (tgt := 67) hx hb dX11_act_62 (by decide) ?_
          obtain ⟨rfl, h9⟩ := some2 h
          obtain ⟨rfl, rfl⟩ := pair2 h9
          exact e_i rfl XX hr I rfl dX11_act_67
      replace h := if_f h qn0
      by_cases qn1 : r5 = (some 1 : Option Nat)
      · replace h := if_t h qn1
        subst qn1
        refine W.eq (g2 := F0 m 32 ls [.ref (yd 1)]) rfl ?_
        refine lv_astore (lv' := [(4, .ref (yd 1)), (0, .ref (oa 0)), (1, .int x1), (2, .int x2), (3, .int x3)]) hx hb dX11_act_32 hl (by decide) rfl (fun ls hl => ?_)
        refine lv_aload hx hb dX11_act_34 (lv_at hl 0 rfl) ?_
        refine lv_ifnonnull (tgt := 41) hx hb dX11_act_36 (by decide) ?_
        refine lv_aload hx hb dX11_act_41 (lv_at hl 0 rfl) ?_
        refine lv_iload_n hx hb dX11_act_43 rfl (lv_at hl 3 rfl) ?_
        refine lv_iload_n hx hb dX11_act_44 rfl (lv_at hl 4 rfl) ?_
        obtain ⟨r12, s13, q14, h⟩ := bd2_some h
        replace I : Iv G (va_A (bO G oa na ka aa ra pa sd yd td owa ++ (bV G na nwa ++ (bV G ka kpa ++ (bA G aa wa aha ++ (bV G wa awa ++ (bT G ra ma rda ++ (bV G ma mda ++ (bP G pa tpa ++ (bH G sd hha ++ (bY G yd td tha ++ (bK G td tra ++ []))))))))))) s0.heap.size) s0 _ _ (((bY G yd td s6 ++ (bK G td q1 ++ []))) ++ (bO G oa na ka aa ra pa sd yd td owa ++ (bV G na nwa ++ (bV G ka kpa ++ (bA G aa wa aha ++ (bV G wa awa ++ (bT G ra ma rda ++ (bV G ma mda ++ (bP G pa tpa ++ (bH G sd hha ++ [])))))))))) := I.perm ((((List.Perm.append_left _ ((List.Perm.append_left _ ((List.Perm.append_left _ ((List.Perm.append_left _ ((List.Perm.append_left _ ((List.Perm.append_left _ ((List.Perm.append_left _ ((List.Perm.append_left _ ((List.Perm.append_left _ (List.Perm.refl _)).trans (List.perm_append_comm_assoc _ _ _))).trans (List.perm_append_comm_assoc _ _ _))).trans (List.perm_append_comm_assoc _ _ _))).trans (List.perm_append_comm_assoc _ _ _))).trans (List.perm_append_comm_assoc _ _ _))).trans (List.perm_append_comm_assoc _ _ _))).trans (List.perm_append_comm_assoc _ _ _))).trans (List.perm_append_comm_assoc _ _ _))).trans (List.perm_append_comm_assoc _ _ _)).trans (List.Perm.append_left _ ((List.Perm.append_left _ ((List.Perm.append_left _ ((List.Perm.append_left _ ((List.Perm.append_left _ ((List.Perm.append_left _ ((List.Perm.append_left _ ((List.Perm.append_left _ ((List.Perm.append_left _ ((List.Perm.append_left _ (List.Perm.refl _)).trans (List.perm_append_comm_assoc _ _ _))).trans (List.perm_append_comm_assoc _ _ _))).trans (List.perm_append_comm_assoc _ _ _))).trans (List.perm_append_comm_assoc _ _ _))).trans (List.perm_append_comm_assoc _ _ _))).trans (List.perm_append_comm_assoc _ _ _))).trans (List.perm_append_comm_assoc _ _ _))).trans (List.perm_append_comm_assoc _ _ _))).trans (List.perm_append_comm_assoc _ _ _)))).trans pasc2)
        refine swcall_i (X := []) (wc := (bY G yd td s6 ++ (bK G td q1 ++ []))) (Y := (bO G oa na ka aa ra pa sd yd td owa ++ (bV G na nwa ++ (bV G ka kpa ++ (bA G aa wa aha ++ (bV G wa awa ++ (bT G ra ma rda ++ (bV G ma mda ++ (bP G pa tpa ++ (bH G sd hha ++ [])))))))))) (rest := []) XX I hl.1 (c_Y_answerOf_y1 l G OK yd td s6 q1 x2 x3 r12 s13 q14) kS_X11_286 rfl rfl (Nat.le_of_ble_eq_true rfl) ⟨rfl, rfl, Nat.le_of_ble_eq_true rfl, Nat.le_of_ble_eq_true rfl⟩ ⟨Nat.zero_le _, Nat.zero_le _⟩ dX11_act_45 (fun H locs hz15 I => ?_)
        replace I : Iv G (va_A (bO G oa na ka aa ra pa sd yd td owa ++ (bV G na nwa ++ (bV G ka kpa ++ (bA G aa wa aha ++ (bV G wa awa ++ (bT G ra ma rda ++ (bV G ma mda ++ (bP G pa tpa ++ (bH G sd hha ++ (bY G yd td tha ++ (bK G td tra ++ []))))))))))) s0.heap.size) s0 H locs (bO G oa na ka aa ra pa sd yd td owa ++ (bV G na nwa ++ (bV G ka kpa ++ (bA G aa wa aha ++ (bV G wa awa ++ (bT G ra ma rda ++ (bV G ma mda ++ (bP G pa tpa ++ (bH G sd hha ++ (bY G yd td s6 ++ (bK G td s13 ++ []))))))))))) := Iv.perm (w := ((bY G yd td s6 ++ (bK G td s13 ++ []))) ++ (bO G oa na ka aa ra pa sd yd td owa ++ (bV G na nwa ++ (bV G ka kpa ++ (bA G aa wa aha ++ (bV G wa awa ++ (bT G ra ma rda ++ (bV G ma mda ++ (bP G pa tpa ++ (bH G sd hha ++ [])))))))))) I (((((List.Perm.append_left _ ((List.Perm.append_left _ ((List.Perm.append_left _ ((List.Perm.append_left _ ((List.Perm.append_left _ ((List.Perm.append_left _ ((List.Perm.append_left _ ((List.Perm.append_left _ ((List.Perm.append_left _ (List.Perm.refl _)).trans (List.perm_append_comm_assoc _ _ _))).trans (List.perm_append_comm_assoc _ _ _))).trans (List.perm_append_comm_assoc _ _ _))).trans (List.perm_append_comm_assoc _ _ _))).trans (List.perm_append_comm_assoc _ _ _))).trans (List.perm_append_comm_assoc _ _ _))).trans (List.perm_append_comm_assoc _ _ _))).trans (List.perm_append_comm_assoc _ _ _))).trans (List.perm_append_comm_assoc _ _ _)).trans (List.Perm.append_left _ ((List.Perm.append_left _ ((List.Perm.append_left _ ((List.Perm.append_left _ ((List.Perm.append_left _ ((List.Perm.append_left _ ((List.Perm.append_left _ ((List.Perm.append_left _ ((List.Perm.append_left _ ((List.Perm.append_left _ (List.Perm.refl _)).trans (List.perm_append_comm_assoc _ _ _))).trans (List.perm_append_comm_assoc _ _ _))).trans (List.perm_append_comm_assoc _ _ _))).trans (List.perm_append_comm_assoc _ _ _))).trans (List.perm_append_comm_assoc _ _ _))).trans (List.perm_append_comm_assoc _ _ _))).trans (List.perm_append_comm_assoc _ _ _))).trans (List.perm_append_comm_assoc _ _ _))).trans (List.perm_append_comm_assoc _ _ _)))).trans pasc2).symm)
        refine lv_istore (lv' := [(5, .int r12), (4, .ref (yd 1)), (0, .ref (oa 0)), (1, .int x1), (2, .int x2), (3, .int x3)]) hx hb dX11_act_48 hl (by decide) rfl (fun ls hl => ?_)
        refine lv_aload_n hx hb dX11_act_50 rfl (lv_at hl 2 rfl) ?_
        refine gO_X11_o0_bodies XX I dX11_act_51 ?_
        refine gO_X11_o10_parted XX I dX11_act_54 ?_
        refine lv_if_eq (tgt := 65) hx hb dX11_act_57 (by decide) (fun c1 => ?_) (fun c1 => ?_)
        · replace h := if_t h c1
          refine lv_iload hx hb dX11_act_65 (lv_at hl 0 rfl) ?_
          obtain ⟨rfl, h9⟩ := some2 h
          obtain ⟨rfl, rfl⟩ := pair2 h9
          exact e_i rfl XX hr I rfl dX11_act_67
        · replace h := if_f h c1
          refine lv_bipush (v := (-15)) hx hb dX11_act_60 (by decide) ?_
          refine lv_goto (tgt := 67) hx hb dX11_act_62 (by decide) ?_
          obtain ⟨rfl, h9⟩ := some2 h
          obtain ⟨rfl, rfl⟩ := pair2 h9
          exact e_i rfl XX hr I rfl dX11_act_67
      replace h := if_f h qn1
      by_cases qn2 : r5 = (some 2 : Option Nat)
      · replace h := if_t h qn2
        subst qn2
        refine W.eq (g2 := F0 m 32 ls [.ref (yd 2)]) rfl ?_
        refine lv_astore (lv' := [(4, .ref (yd 2)), (0, .ref (oa 0)), (1, .int x1), (2, .int x2), (3, .int x3)]) hx hb dX11_act_32 hl (by decide) rfl (fun ls hl => ?_)
        refine lv_aload hx hb dX11_act_34 (lv_at hl 0 rfl) ?_
        refine lv_ifnonnull (tgt := 41) hx hb dX11_act_36 (by decide) ?_
        refine lv_aload hx hb dX11_act_41 (lv_at hl 0 rfl) ?_
        refine lv_iload_n hx hb dX11_act_43 rfl (lv_at hl 3 rfl) ?_
        refine lv_iload_n hx hb dX11_act_44 rfl (lv_at hl 4 rfl) ?_
        obtain ⟨r16, s17, q18, h⟩ := bd2_some h
        replace I : Iv G (va_A (bO G oa na ka aa ra pa sd yd td owa ++ (bV G na nwa ++ (bV G ka kpa ++ (bA G aa wa aha ++ (bV G wa awa ++ (bT G ra ma rda ++ (bV G ma mda ++ (bP G pa tpa ++ (bH G sd hha ++ (bY G yd td tha ++ (bK G td tra ++ []))))))))))) s0.heap.size) s0 _ _ (((bY G yd td s6 ++ (bK G td q1 ++ []))) ++ (bO G oa na ka aa ra pa sd yd td owa ++ (bV G na nwa ++ (bV G ka kpa ++ (bA G aa wa aha ++ (bV G wa awa ++ (bT G ra ma rda ++ (bV G ma mda ++ (bP G pa tpa ++ (bH G sd hha ++ [])))))))))) := I.perm ((((List.Perm.append_left _ ((List.Perm.append_left _ ((List.Perm.append_left _ ((List.Perm.append_left _ ((List.Perm.append_left _ ((List.Perm.append_left _ ((List.Perm.append_left _ ((List.Perm.append_left _ ((List.Perm.append_left _ (List.Perm.refl _)).trans (List.perm_append_comm_assoc _ _ _))).trans (List.perm_append_comm_assoc _ _ _))).trans (List.perm_append_comm_assoc _ _ _))).trans (List.perm_append_comm_assoc _ _ _))).trans (List.perm_append_comm_assoc _ _ _))).trans (List.perm_append_comm_assoc _ _ _))).trans (List.perm_append_comm_assoc _ _ _))).trans (List.perm_append_comm_assoc _ _ _))).trans (List.perm_append_comm_assoc _ _ _)).trans (List.Perm.append_left _ ((List.Perm.append_left _ ((List.Perm.append_left _ ((List.Perm.append_left _ ((List.Perm.append_left _ ((List.Perm.append_left _ ((List.Perm.append_left _ ((List.Perm.append_left _ ((List.Perm.append_left _ ((List.Perm.append_left _ (List.Perm.refl _)).trans (List.perm_append_comm_assoc _ _ _))).trans (List.perm_append_comm_assoc _ _ _))).trans (List.perm_append_comm_assoc _ _ _))).trans (List.perm_append_comm_assoc _ _ _))).trans (List.perm_append_comm_assoc _ _ _))).trans (List.perm_append_comm_assoc _ _ _))).trans (List.perm_append_comm_assoc _ _ _))).trans (List.perm_append_comm_assoc _ _ _))).trans (List.perm_append_comm_assoc _ _ _)))).trans pasc2)
        refine swcall_i (X := []) (wc := (bY G yd td s6 ++ (bK G td q1 ++ []))) (Y := (bO G oa na ka aa ra pa sd yd td owa ++ (bV G na nwa ++ (bV G ka kpa ++ (bA G aa wa aha ++ (bV G wa awa ++ (bT G ra ma rda ++ (bV G ma mda ++ (bP G pa tpa ++ (bH G sd hha ++ [])))))))))) (rest := []) XX I hl.1 (c_Y_answerOf_y2 l G OK yd td s6 q1 x2 x3 r16 s17 q18) kS_X11_286 rfl rfl (Nat.le_of_ble_eq_true rfl) ⟨rfl, rfl, Nat.le_of_ble_eq_true rfl, Nat.le_of_ble_eq_true rfl⟩ ⟨Nat.zero_le _, Nat.zero_le _⟩ dX11_act_45 (fun H locs hz19 I => ?_)
        replace I : Iv G (va_A (bO G oa na ka aa ra pa sd yd td owa ++ (bV G na nwa ++ (bV G ka kpa ++ (bA G aa wa aha ++ (bV G wa awa ++ (bT G ra ma rda ++ (bV G ma mda ++ (bP G pa tpa ++ (bH G sd hha ++ (bY G yd td tha ++ (bK G td tra ++ []))))))))))) s0.heap.size) s0 H locs (bO G oa na ka aa ra pa sd yd td owa ++ (bV G na nwa ++ (bV G ka kpa ++ (bA G aa wa aha ++ (bV G wa awa ++ (bT G ra ma rda ++ (bV G ma mda ++ (bP G pa tpa ++ (bH G sd hha ++ (bY G yd td s6 ++ (bK G td s17 ++ []))))))))))) := Iv.perm (w := ((bY G yd td s6 ++ (bK G td s17 ++ []))) ++ (bO G oa na ka aa ra pa sd yd td owa ++ (bV G na nwa ++ (bV G ka kpa ++ (bA G aa wa aha ++ (bV G wa awa ++ (bT G ra ma rda ++ (bV G ma mda ++ (bP G pa tpa ++ (bH G sd hha ++ [])))))))))) I (((((List.Perm.append_left _ ((List.Perm.append_left _ ((List.Perm.append_left _ ((List.Perm.append_left _ ((List.Perm.append_left _ ((List.Perm.append_left _ ((List.Perm.append_left _ ((List.Perm.append_left _ ((List.Perm.append_left _ (List.Perm.refl _)).trans (List.perm_append_comm_assoc _ _ _))).trans (List.perm_append_comm_assoc _ _ _))).trans (List.perm_append_comm_assoc _ _ _))).trans (List.perm_append_comm_assoc _ _ _))).trans (List.perm_append_comm_assoc _ _ _))).trans (List.perm_append_comm_assoc _ _ _))).trans (List.perm_append_comm_assoc _ _ _))).trans (List.perm_append_comm_assoc _ _ _))).trans (List.perm_append_comm_assoc _ _ _)).trans (List.Perm.append_left _ ((List.Perm.append_left _ ((List.Perm.append_left _ ((List.Perm.append_left _ ((List.Perm.append_left _ ((List.Perm.append_left _ ((List.Perm.append_left _ ((List.Perm.append_left _ ((List.Perm.append_left _ ((List.Perm.append_left _ (List.Perm.refl _)).trans (List.perm_append_comm_assoc _ _ _))).trans (List.perm_append_comm_assoc _ _ _))).trans (List.perm_append_comm_assoc _ _ _))).trans (List.perm_append_comm_assoc _ _ _))).trans (List.perm_append_comm_assoc _ _ _))).trans (List.perm_append_comm_assoc _ _ _))).trans (List.perm_append_comm_assoc _ _ _))).trans (List.perm_append_comm_assoc _ _ _))).trans (List.perm_append_comm_assoc _ _ _)))).trans pasc2).symm)
        refine lv_istore (lv' := [(5, .int r16), (4, .ref (yd 2)), (0, .ref (oa 0)), (1, .int x1), (2, .int x2), (3, .int x3)]) hx hb dX11_act_48 hl (by decide) rfl (fun ls hl => ?_)
        refine lv_aload_n hx hb dX11_act_50 rfl (lv_at hl 2 rfl) ?_
        refine gO_X11_o0_bodies XX I dX11_act_51 ?_
        refine gO_X11_o10_parted XX I dX11_act_54 ?_
        refine lv_if_eq (tgt := 65) hx hb dX11_act_57 (by decide) (fun c1 => ?_) (fun c1 => ?_)
        · replace h := if_t h c1
          refine lv_iload hx hb dX11_act_65 (lv_at hl 0 rfl) ?_
          obtain ⟨rfl, h9⟩ := some2 h
          obtain ⟨rfl, rfl⟩ := pair2 h9
          exact e_i rfl XX hr I rfl dX11_act_67
        · replace h := if_f h c1
          refine lv_bipush (v := (-15)) hx hb dX11_act_60 (by decide) ?_
          refine lv_goto (tgt := 67) hx hb dX11_act_62 (by decide) ?_
          obtain ⟨rfl, h9⟩ := some2 h
          obtain ⟨rfl, rfl⟩ := pair2 h9
          exact e_i rfl XX hr I rfl dX11_act_67
      replace h := if_f h qn2
      by_cases qn3 : r5 = (some 3 : Option Nat)
      · replace h := if_t h qn3
        subst qn3
        refine W.eq (g2 := F0 m 32 ls [.ref (yd 3)]) rfl ?_
        refine lv_astore (lv' := [(4, .ref (yd 3)), (0, .ref (oa 0)), (1, .int x1), (2, .int x2), (3, .int x3)]) hx hb dX11_act_32 hl (by decide) rfl (fun ls hl => ?_)
        refine lv_aload hx hb dX11_act_34 (lv_at hl 0 rfl) ?_
        refine lv_ifnonnull (tgt := 41) hx hb dX11_act_36 (by decide) ?_
        refine lv_aload hx hb dX11_act_41 (lv_at hl 0 rfl) ?_
        refine lv_iload_n hx hb dX11_act_43 rfl (lv_at hl 3 rfl) ?_
        refine lv_iload_n hx hb dX11_act_44 rfl (lv_at hl 4 rfl) ?_
        obtain ⟨r20, s21, q22, h⟩ := bd2_some h
        replace I : Iv G (va_A (bO G oa na ka aa ra pa sd yd td owa ++ (bV G na nwa ++ (bV G ka kpa ++ (bA G aa wa aha ++ (bV G wa awa ++ (bT G ra ma rda ++ (bV G ma mda ++ (bP G pa tpa ++ (bH G sd hha ++ (bY G yd td tha ++ (bK G td tra ++ []))))))))))) s0.heap.size) s0 _ _ (((bY G yd td s6 ++ (bK G td q1 ++ []))) ++ (bO G oa na ka aa ra pa sd yd td owa ++ (bV G na nwa ++ (bV G ka kpa ++ (bA G aa wa aha ++ (bV G wa awa ++ (bT G ra ma rda ++ (bV G ma mda ++ (bP G pa tpa ++ (bH G sd hha ++ [])))))))))) := I.perm ((((List.Perm.append_left _ ((List.Perm.append_left _ ((List.Perm.append_left _ ((List.Perm.append_left _ ((List.Perm.append_left _ ((List.Perm.append_left _ ((List.Perm.append_left _ ((List.Perm.append_left _ ((List.Perm.append_left _ (List.Perm.refl _)).trans (List.perm_append_comm_assoc _ _ _))).trans (List.perm_append_comm_assoc _ _ _))).trans (List.perm_append_comm_assoc _ _ _))).trans (List.perm_append_comm_assoc _ _ _))).trans (List.perm_append_comm_assoc _ _ _))).trans (List.perm_append_comm_assoc _ _ _))).trans (List.perm_append_comm_assoc _ _ _))).trans (List.perm_append_comm_assoc _ _ _))).trans (List.perm_append_comm_assoc _ _ _)).trans (List.Perm.append_left _ ((List.Perm.append_left _ ((List.Perm.append_left _ ((List.Perm.append_left _ ((List.Perm.append_left _ ((List.Perm.append_left _ ((List.Perm.append_left _ ((List.Perm.append_left _ ((List.Perm.append_left _ ((List.Perm.append_left _ (List.Perm.refl _)).trans (List.perm_append_comm_assoc _ _ _))).trans (List.perm_append_comm_assoc _ _ _))).trans (List.perm_append_comm_assoc _ _ _))).trans (List.perm_append_comm_assoc _ _ _))).trans (List.perm_append_comm_assoc _ _ _))).trans (List.perm_append_comm_assoc _ _ _))).trans (List.perm_append_comm_assoc _ _ _))).trans (List.perm_append_comm_assoc _ _ _))).trans (List.perm_append_comm_assoc _ _ _)))).trans pasc2)
        refine swcall_i (X := []) (wc := (bY G yd td s6 ++ (bK G td q1 ++ []))) (Y := (bO G oa na ka aa ra pa sd yd td owa ++ (bV G na nwa ++ (bV G ka kpa ++ (bA G aa wa aha ++ (bV G wa awa ++ (bT G ra ma rda ++ (bV G ma mda ++ (bP G pa tpa ++ (bH G sd hha ++ [])))))))))) (rest := []) XX I hl.1 (c_Y_answerOf_y3 l G OK yd td s6 q1 x2 x3 r20 s21 q22) kS_X11_286 rfl rfl (Nat.le_of_ble_eq_true rfl) ⟨rfl, rfl, Nat.le_of_ble_eq_true rfl, Nat.le_of_ble_eq_true rfl⟩ ⟨Nat.zero_le _, Nat.zero_le _⟩ dX11_act_45 (fun H locs hz23 I => ?_)
        replace I : Iv G (va_A (bO G oa na ka aa ra pa sd yd td owa ++ (bV G na nwa ++ (bV G ka kpa ++ (bA G aa wa aha ++ (bV G wa awa ++ (bT G ra ma rda ++ (bV G ma mda ++ (bP G pa tpa ++ (bH G sd hha ++ (bY G yd td tha ++ (bK G td tra ++ []))))))))))) s0.heap.size) s0 H locs (bO G oa na ka aa ra pa sd yd td owa ++ (bV G na nwa ++ (bV G ka kpa ++ (bA G aa wa aha ++ (bV G wa awa ++ (bT G ra ma rda ++ (bV G ma mda ++ (bP G pa tpa ++ (bH G sd hha ++ (bY G yd td s6 ++ (bK G td s21 ++ []))))))))))) := Iv.perm (w := ((bY G yd td s6 ++ (bK G td s21 ++ []))) ++ (bO G oa na ka aa ra pa sd yd td owa ++ (bV G na nwa ++ (bV G ka kpa ++ (bA G aa wa aha ++ (bV G wa awa ++ (bT G ra ma rda ++ (bV G ma mda ++ (bP G pa tpa ++ (bH G sd hha ++ [])))))))))) I (((((List.Perm.append_left _ ((List.Perm.append_left _ ((List.Perm.append_left _ ((List.Perm.append_left _ ((List.Perm.append_left _ ((List.Perm.append_left _ ((List.Perm.append_left _ ((List.Perm.append_left _ ((List.Perm.append_left _ (List.Perm.refl _)).trans (List.perm_append_comm_assoc _ _ _))).trans (List.perm_append_comm_assoc _ _ _))).trans (List.perm_append_comm_assoc _ _ _))).trans (List.perm_append_comm_assoc _ _ _))).trans (List.perm_append_comm_assoc _ _ _))).trans (List.perm_append_comm_assoc _ _ _))).trans (List.perm_append_comm_assoc _ _ _))).trans (List.perm_append_comm_assoc _ _ _))).trans (List.perm_append_comm_assoc _ _ _)).trans (List.Perm.append_left _ ((List.Perm.append_left _ ((List.Perm.append_left _ ((List.Perm.append_left _ ((List.Perm.append_left _ ((List.Perm.append_left _ ((List.Perm.append_left _ ((List.Perm.append_left _ ((List.Perm.append_left _ ((List.Perm.append_left _ (List.Perm.refl _)).trans (List.perm_append_comm_assoc _ _ _))).trans (List.perm_append_comm_assoc _ _ _))).trans (List.perm_append_comm_assoc _ _ _))).trans (List.perm_append_comm_assoc _ _ _))).trans (List.perm_append_comm_assoc _ _ _))).trans (List.perm_append_comm_assoc _ _ _))).trans (List.perm_append_comm_assoc _ _ _))).trans (List.perm_append_comm_assoc _ _ _))).trans (List.perm_append_comm_assoc _ _ _)))).trans pasc2).symm)
        refine lv_istore (lv' := [(5, .int r20), (4, .ref (yd 3)), (0, .ref (oa 0)), (1, .int x1), (2, .int x2), (3, .int x3)]) hx hb dX11_act_48 hl (by decide) rfl (fun ls hl => ?_)
        refine lv_aload_n hx hb dX11_act_50 rfl (lv_at hl 2 rfl) ?_
        refine gO_X11_o0_bodies XX I dX11_act_51 ?_
        refine gO_X11_o10_parted XX I dX11_act_54 ?_
        refine lv_if_eq (tgt := 65) hx hb dX11_act_57 (by decide) (fun c1 => ?_) (fun c1 => ?_)
        · replace h := if_t h c1
          refine lv_iload hx hb dX11_act_65 (lv_at hl 0 rfl) ?_
          obtain ⟨rfl, h9⟩ := some2 h
          obtain ⟨rfl, rfl⟩ := pair2 h9
          exact e_i rfl XX hr I rfl dX11_act_67
        · replace h := if_f h c1
          refine lv_bipush (v := (-15)) hx hb dX11_act_60 (by decide) ?_
          refine lv_goto (tgt := 67) hx hb dX11_act_62 (by decide) ?_
          obtain ⟨rfl, h9⟩ := some2 h
          obtain ⟨rfl, rfl⟩ := pair2 h9
          exact e_i rfl XX hr I rfl dX11_act_67
      replace h := if_f h qn3
      by_cases qn4 : r5 = (some 4 : Option Nat)
      · replace h := if_t h qn4
        subst qn4
        refine W.eq (g2 := F0 m 32 ls [.ref (yd 4)]) rfl ?_
        refine lv_astore (lv' := [(4, .ref (yd 4)), (0, .ref (oa 0)), (1, .int x1), (2, .int x2), (3, .int x3)]) hx hb dX11_act_32 hl (by decide) rfl (fun ls hl => ?_)
        refine lv_aload hx hb dX11_act_34 (lv_at hl 0 rfl) ?_
        refine lv_ifnonnull (tgt := 41) hx hb dX11_act_36 (by decide) ?_
        refine lv_aload hx hb dX11_act_41 (lv_at hl 0 rfl) ?_
        refine lv_iload_n hx hb dX11_act_43 rfl (lv_at hl 3 rfl) ?_
        refine lv_iload_n hx hb dX11_act_44 rfl (lv_at hl 4 rfl) ?_
        obtain ⟨r24, s25, q26, h⟩ := bd2_some h
        replace I : Iv G (va_A (bO G oa na ka aa ra pa sd yd td owa ++ (bV G na nwa ++ (bV G ka kpa ++ (bA G aa wa aha ++ (bV G wa awa ++ (bT G ra ma rda ++ (bV G ma mda ++ (bP G pa tpa ++ (bH G sd hha ++ (bY G yd td tha ++ (bK G td tra ++ []))))))))))) s0.heap.size) s0 _ _ (((bY G yd td s6 ++ (bK G td q1 ++ []))) ++ (bO G oa na ka aa ra pa sd yd td owa ++ (bV G na nwa ++ (bV G ka kpa ++ (bA G aa wa aha ++ (bV G wa awa ++ (bT G ra ma rda ++ (bV G ma mda ++ (bP G pa tpa ++ (bH G sd hha ++ [])))))))))) := I.perm ((((List.Perm.append_left _ ((List.Perm.append_left _ ((List.Perm.append_left _ ((List.Perm.append_left _ ((List.Perm.append_left _ ((List.Perm.append_left _ ((List.Perm.append_left _ ((List.Perm.append_left _ ((List.Perm.append_left _ (List.Perm.refl _)).trans (List.perm_append_comm_assoc _ _ _))).trans (List.perm_append_comm_assoc _ _ _))).trans (List.perm_append_comm_assoc _ _ _))).trans (List.perm_append_comm_assoc _ _ _))).trans (List.perm_append_comm_assoc _ _ _))).trans (List.perm_append_comm_assoc _ _ _))).trans (List.perm_append_comm_assoc _ _ _))).trans (List.perm_append_comm_assoc _ _ _))).trans (List.perm_append_comm_assoc _ _ _)).trans (List.Perm.append_left _ ((List.Perm.append_left _ ((List.Perm.append_left _ ((List.Perm.append_left _ ((List.Perm.append_left _ ((List.Perm.append_left _ ((List.Perm.append_left _ ((List.Perm.append_left _ ((List.Perm.append_left _ ((List.Perm.append_left _ (List.Perm.refl _)).trans (List.perm_append_comm_assoc _ _ _))).trans (List.perm_append_comm_assoc _ _ _))).trans (List.perm_append_comm_assoc _ _ _))).trans (List.perm_append_comm_assoc _ _ _))).trans (List.perm_append_comm_assoc _ _ _))).trans (List.perm_append_comm_assoc _ _ _))).trans (List.perm_append_comm_assoc _ _ _))).trans (List.perm_append_comm_assoc _ _ _))).trans (List.perm_append_comm_assoc _ _ _)))).trans pasc2)
        refine swcall_i (X := []) (wc := (bY G yd td s6 ++ (bK G td q1 ++ []))) (Y := (bO G oa na ka aa ra pa sd yd td owa ++ (bV G na nwa ++ (bV G ka kpa ++ (bA G aa wa aha ++ (bV G wa awa ++ (bT G ra ma rda ++ (bV G ma mda ++ (bP G pa tpa ++ (bH G sd hha ++ [])))))))))) (rest := []) XX I hl.1 (c_Y_answerOf_y4 l G OK yd td s6 q1 x2 x3 r24 s25 q26) kS_X11_286 rfl rfl (Nat.le_of_ble_eq_true rfl) ⟨rfl, rfl, Nat.le_of_ble_eq_true rfl, Nat.le_of_ble_eq_true rfl⟩ ⟨Nat.zero_le _, Nat.zero_le _⟩ dX11_act_45 (fun H locs hz27 I => ?_)
        replace I : Iv G (va_A (bO G oa na ka aa ra pa sd yd td owa ++ (bV G na nwa ++ (bV G ka kpa ++ (bA G aa wa aha ++ (bV G wa awa ++ (bT G ra ma rda ++ (bV G ma mda ++ (bP G pa tpa ++ (bH G sd hha ++ (bY G yd td tha ++ (bK G td tra ++ []))))))))))) s0.heap.size) s0 H locs (bO G oa na ka aa ra pa sd yd td owa ++ (bV G na nwa ++ (bV G ka kpa ++ (bA G aa wa aha ++ (bV G wa awa ++ (bT G ra ma rda ++ (bV G ma mda ++ (bP G pa tpa ++ (bH G sd hha ++ (bY G yd td s6 ++ (bK G td s25 ++ []))))))))))) := Iv.perm (w := ((bY G yd td s6 ++ (bK G td s25 ++ []))) ++ (bO G oa na ka aa ra pa sd yd td owa ++ (bV G na nwa ++ (bV G ka kpa ++ (bA G aa wa aha ++ (bV G wa awa ++ (bT G ra ma rda ++ (bV G ma mda ++ (bP G pa tpa ++ (bH G sd hha ++ [])))))))))) I (((((List.Perm.append_left _ ((List.Perm.append_left _ ((List.Perm.append_left _ ((List.Perm.append_left _ ((List.Perm.append_left _ ((List.Perm.append_left _ ((List.Perm.append_left _ ((List.Perm.append_left _ ((List.Perm.append_left _ (List.Perm.refl _)).trans (List.perm_append_comm_assoc _ _ _))).trans (List.perm_append_comm_assoc _ _ _))).trans (List.perm_append_comm_assoc _ _ _))).trans (List.perm_append_comm_assoc _ _ _))).trans (List.perm_append_comm_assoc _ _ _))).trans (List.perm_append_comm_assoc _ _ _))).trans (List.perm_append_comm_assoc _ _ _))).trans (List.perm_append_comm_assoc _ _ _))).trans (List.perm_append_comm_assoc _ _ _)).trans (List.Perm.append_left _ ((List.Perm.append_left _ ((List.Perm.append_left _ ((List.Perm.append_left _ ((List.Perm.append_left _ ((List.Perm.append_left _ ((List.Perm.append_left _ ((List.Perm.append_left _ ((List.Perm.append_left _ ((List.Perm.append_left _ (List.Perm.refl _)).trans (List.perm_append_comm_assoc _ _ _))).trans (List.perm_append_comm_assoc _ _ _))).trans (List.perm_append_comm_assoc _ _ _))).trans (List.perm_append_comm_assoc _ _ _))).trans (List.perm_append_comm_assoc _ _ _))).trans (List.perm_append_comm_assoc _ _ _))).trans (List.perm_append_comm_assoc _ _ _))).trans (List.perm_append_comm_assoc _ _ _))).trans (List.perm_append_comm_assoc _ _ _)))).trans pasc2).symm)
        refine lv_istore (lv' := [(5, .int r24), (4, .ref (yd 4)), (0, .ref (oa 0)), (1, .int x1), (2, .int x2), (3, .int x3)]) hx hb dX11_act_48 hl (by decide) rfl (fun ls hl => ?_)
        refine lv_aload_n hx hb dX11_act_50 rfl (lv_at hl 2 rfl) ?_
        refine gO_X11_o0_bodies XX I dX11_act_51 ?_
        refine gO_X11_o10_parted XX I dX11_act_54 ?_
        refine lv_if_eq (tgt := 65) hx hb dX11_act_57 (by decide) (fun c1 => ?_) (fun c1 => ?_)
        · replace h := if_t h c1
          refine lv_iload hx hb dX11_act_65 (lv_at hl 0 rfl) ?_
          obtain ⟨rfl, h9⟩ := some2 h
          obtain ⟨rfl, rfl⟩ := pair2 h9
          exact e_i rfl XX hr I rfl dX11_act_67
        · replace h := if_f h c1
          refine lv_bipush (v := (-15)) hx hb dX11_act_60 (by decide) ?_
          refine lv_goto (tgt := 67) hx hb dX11_act_62 (by decide) ?_
          obtain ⟨rfl, h9⟩ := some2 h
          obtain ⟨rfl, rfl⟩ := pair2 h9
          exact e_i rfl XX hr I rfl dX11_act_67
      replace h := if_f h qn4
      by_cases qn5 : r5 = (some 5 : Option Nat)
      · replace h := if_t h qn5
        subst qn5
        refine W.eq (g2 := F0 m 32 ls [.ref (yd 5)]) rfl ?_
        refine lv_astore (lv' := [(4, .ref (yd 5)), (0, .ref (oa 0)), (1, .int x1), (2, .int x2), (3, .int x3)]) hx hb dX11_act_32 hl (by decide) rfl (fun ls hl => ?_)
        refine lv_aload hx hb dX11_act_34 (lv_at hl 0 rfl) ?_
        refine lv_ifnonnull (tgt := 41) hx hb dX11_act_36 (by decide) ?_
        refine lv_aload hx hb dX11_act_41 (lv_at hl 0 rfl) ?_
        refine lv_iload_n hx hb dX11_act_43 rfl (lv_at hl 3 rfl) ?_
        refine lv_iload_n hx hb dX11_act_44 rfl (lv_at hl 4 rfl) ?_
        obtain ⟨r28, s29, q30, h⟩ := bd2_some h
        replace I : Iv G (va_A (bO G oa na ka aa ra pa sd yd td owa ++ (bV G na nwa ++ (bV G ka kpa ++ (bA G aa wa aha ++ (bV G wa awa ++ (bT G ra ma rda ++ (bV G ma mda ++ (bP G pa tpa ++ (bH G sd hha ++ (bY G yd td tha ++ (bK G td tra ++ []))))))))))) s0.heap.size) s0 _ _ (((bY G yd td s6 ++ (bK G td q1 ++ []))) ++ (bO G oa na ka aa ra pa sd yd td owa ++ (bV G na nwa ++ (bV G ka kpa ++ (bA G aa wa aha ++ (bV G wa awa ++ (bT G ra ma rda ++ (bV G ma mda ++ (bP G pa tpa ++ (bH G sd hha ++ [])))))))))) := I.perm ((((List.Perm.append_left _ ((List.Perm.append_left _ ((List.Perm.append_left _ ((List.Perm.append_left _ ((List.Perm.append_left _ ((List.Perm.append_left _ ((List.Perm.append_left _ ((List.Perm.append_left _ ((List.Perm.append_left _ (List.Perm.refl _)).trans (List.perm_append_comm_assoc _ _ _))).trans (List.perm_append_comm_assoc _ _ _))).trans (List.perm_append_comm_assoc _ _ _))).trans (List.perm_append_comm_assoc _ _ _))).trans (List.perm_append_comm_assoc _ _ _))).trans (List.perm_append_comm_assoc _ _ _))).trans (List.perm_append_comm_assoc _ _ _))).trans (List.perm_append_comm_assoc _ _ _))).trans (List.perm_append_comm_assoc _ _ _)).trans (List.Perm.append_left _ ((List.Perm.append_left _ ((List.Perm.append_left _ ((List.Perm.append_left _ ((List.Perm.append_left _ ((List.Perm.append_left _ ((List.Perm.append_left _ ((List.Perm.append_left _ ((List.Perm.append_left _ ((List.Perm.append_left _ (List.Perm.refl _)).trans (List.perm_append_comm_assoc _ _ _))).trans (List.perm_append_comm_assoc _ _ _))).trans (List.perm_append_comm_assoc _ _ _))).trans (List.perm_append_comm_assoc _ _ _))).trans (List.perm_append_comm_assoc _ _ _))).trans (List.perm_append_comm_assoc _ _ _))).trans (List.perm_append_comm_assoc _ _ _))).trans (List.perm_append_comm_assoc _ _ _))).trans (List.perm_append_comm_assoc _ _ _)))).trans pasc2)
        refine swcall_i (X := []) (wc := (bY G yd td s6 ++ (bK G td q1 ++ []))) (Y := (bO G oa na ka aa ra pa sd yd td owa ++ (bV G na nwa ++ (bV G ka kpa ++ (bA G aa wa aha ++ (bV G wa awa ++ (bT G ra ma rda ++ (bV G ma mda ++ (bP G pa tpa ++ (bH G sd hha ++ [])))))))))) (rest := []) XX I hl.1 (c_Y_answerOf_y5 l G OK yd td s6 q1 x2 x3 r28 s29 q30) kS_X11_286 rfl rfl (Nat.le_of_ble_eq_true rfl) ⟨rfl, rfl, Nat.le_of_ble_eq_true rfl, Nat.le_of_ble_eq_true rfl⟩ ⟨Nat.zero_le _, Nat.zero_le _⟩ dX11_act_45 (fun H locs hz31 I => ?_)
        replace I : Iv G (va_A (bO G oa na ka aa ra pa sd yd td owa ++ (bV G na nwa ++ (bV G ka kpa ++ (bA G aa wa aha ++ (bV G wa awa ++ (bT G ra ma rda ++ (bV G ma mda ++ (bP G pa tpa ++ (bH G sd hha ++ (bY G yd td tha ++ (bK G td tra ++ []))))))))))) s0.heap.size) s0 H locs (bO G oa na ka aa ra pa sd yd td owa ++ (bV G na nwa ++ (bV G ka kpa ++ (bA G aa wa aha ++ (bV G wa awa ++ (bT G ra ma rda ++ (bV G ma mda ++ (bP G pa tpa ++ (bH G sd hha ++ (bY G yd td s6 ++ (bK G td s29 ++ []))))))))))) := Iv.perm (w := ((bY G yd td s6 ++ (bK G td s29 ++ []))) ++ (bO G oa na ka aa ra pa sd yd td owa ++ (bV G na nwa ++ (bV G ka kpa ++ (bA G aa wa aha ++ (bV G wa awa ++ (bT G ra ma rda ++ (bV G ma mda ++ (bP G pa tpa ++ (bH G sd hha ++ [])))))))))) I (((((List.Perm.append_left _ ((List.Perm.append_left _ ((List.Perm.append_left _ ((List.Perm.append_left _ ((List.Perm.append_left _ ((List.Perm.append_left _ ((List.Perm.append_left _ ((List.Perm.append_left _ ((List.Perm.append_left _ (List.Perm.refl _)).trans (List.perm_append_comm_assoc _ _ _))).trans (List.perm_append_comm_assoc _ _ _))).trans (List.perm_append_comm_assoc _ _ _))).trans (List.perm_append_comm_assoc _ _ _))).trans (List.perm_append_comm_assoc _ _ _))).trans (List.perm_append_comm_assoc _ _ _))).trans (List.perm_append_comm_assoc _ _ _))).trans (List.perm_append_comm_assoc _ _ _))).trans (List.perm_append_comm_assoc _ _ _)).trans (List.Perm.append_left _ ((List.Perm.append_left _ ((List.Perm.append_left _ ((List.Perm.append_left _ ((List.Perm.append_left _ ((List.Perm.append_left _ ((List.Perm.append_left _ ((List.Perm.append_left _ ((List.Perm.append_left _ ((List.Perm.append_left _ (List.Perm.refl _)).trans (List.perm_append_comm_assoc _ _ _))).trans (List.perm_append_comm_assoc _ _ _))).trans (List.perm_append_comm_assoc _ _ _))).trans (List.perm_append_comm_assoc _ _ _))).trans (List.perm_append_comm_assoc _ _ _))).trans (List.perm_append_comm_assoc _ _ _))).trans (List.perm_append_comm_assoc _ _ _))).trans (List.perm_append_comm_assoc _ _ _))).trans (List.perm_append_comm_assoc _ _ _)))).trans pasc2).symm)
        refine lv_istore (lv' := [(5, .int r28), (4, .ref (yd 5)), (0, .ref (oa 0)), (1, .int x1), (2, .int x2), (3, .int x3)]) hx hb dX11_act_48 hl (by decide) rfl (fun ls hl => ?_)
        refine lv_aload_n hx hb dX11_act_50 rfl (lv_at hl 2 rfl) ?_
        refine gO_X11_o0_bodies XX I dX11_act_51 ?_
        refine gO_X11_o10_parted XX I dX11_act_54 ?_
        refine lv_if_eq (tgt := 65) hx hb dX11_act_57 (by decide) (fun c1 => ?_) (fun c1 => ?_)
        · replace h := if_t h c1
          refine lv_iload hx hb dX11_act_65 (lv_at hl 0 rfl) ?_
          obtain ⟨rfl, h9⟩ := some2 h
          obtain ⟨rfl, rfl⟩ := pair2 h9
          exact e_i rfl XX hr I rfl dX11_act_67
        · replace h := if_f h c1
          refine lv_bipush (v := (-15)) hx hb dX11_act_60 (by decide) ?_
          refine lv_goto (tgt := 67) hx hb dX11_act_62 (by decide) ?_
          obtain ⟨rfl, h9⟩ := some2 h
          obtain ⟨rfl, rfl⟩ := pair2 h9
          exact e_i rfl XX hr I rfl dX11_act_67
      replace h := if_f h qn5
      exact absurd h (fun q => by cases q)
    · replace h := if_t h c1
      refine lv_iconst (v := 0) hx hb dX11_act_25 (by decide) ?_
      obtain ⟨rfl, h9⟩ := some2 h
      obtain ⟨rfl, rfl⟩ := pair2 h9
      exact e_i rfl XX hr I rfl dX11_act_26
