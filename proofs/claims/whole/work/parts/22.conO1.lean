set_option maxRecDepth 100000 in
theorem gO_X11_o0_tapeLength {p : Program} {l : Launch} {e : Env} {R : Room} {s0 : State} {m : MethodId} {args : Array Value} {below : List Frame} {meth : Method} {c : Code} {H : Heap} {locs : List Loc} {cells slots : Nat} {Q : State → Prop} {cc : ByteArray} {nL pc : Nat} {ls : Array Slot} {rest : List Value} {G : g_G} {A : Nat → Prop} {oa : Nat → Nat} {na : Nat → Nat} {ka : Nat → Nat} {aa : Nat → Nat} {wa : Nat → Nat} {ra : Nat → Nat} {ma : Nat → Nat} {pa : Nat → Nat} {sd : Nat → Nat → Nat} {yd : Nat → Nat} {td : Nat → Nat} {ow : g_St} {nw : g_St} {kp : g_St} {ah : g_St} {aw : g_St} {rd : g_St} {md : g_St} {tp : g_St} {hh : g_Sf} {th : g_St} {tr : g_St} (XX : Cx G A p s0 m meth c cc nL RX11 args) (I : Iv G A s0 H locs (bO G oa na ka aa ra pa sd yd td ow ++ (bV G na nw ++ (bV G ka kp ++ (bA G aa wa ah ++ (bV G wa aw ++ (bT G ra ma rd ++ (bV G ma md ++ (bP G pa tp ++ (bH G sd hh ++ (bY G yd td th ++ (bK G td tr ++ [])))))))))))) (hdg : decode cc pc = .ok (.getfield 41, 3)) (kk : W p l e R s0 m args below meth c H locs cells slots Q (F0 m (pc + 3) ls (.int (gi ow 6) :: rest))) : W p l e R s0 m args below meth c H locs cells slots Q (F0 m pc ls (.ref (oa 0) :: rest)) := r_get kfX11 XX I 0 rfl 6 (Nat.le_of_ble_eq_true rfl) wd_291 rfl hdg kk
set_option maxRecDepth 100000 in
theorem pO_X11_o0_tapeLength {p : Program} {l : Launch} {e : Env} {R : Room} {s0 : State} {m : MethodId} {args : Array Value} {below : List Frame} {meth : Method} {c : Code} {H : Heap} {locs : List Loc} {cells slots : Nat} {Q : State → Prop} {cc : ByteArray} {nL pc : Nat} {ls : Array Slot} {rest : List Value} {G : g_G} {A : Nat → Prop} {oa : Nat → Nat} {na : Nat → Nat} {ka : Nat → Nat} {aa : Nat → Nat} {wa : Nat → Nat} {ra : Nat → Nat} {ma : Nat → Nat} {pa : Nat → Nat} {sd : Nat → Nat → Nat} {yd : Nat → Nat} {td : Nat → Nat} {ow : g_St} {nw : g_St} {kp : g_St} {ah : g_St} {aw : g_St} {rd : g_St} {md : g_St} {tp : g_St} {hh : g_Sf} {th : g_St} {tr : g_St} {val : Int32} (XX : Cx G A p s0 m meth c cc nL RX11 args) (I : Iv G A s0 H locs (bO G oa na ka aa ra pa sd yd td ow ++ (bV G na nw ++ (bV G ka kp ++ (bA G aa wa ah ++ (bV G wa aw ++ (bT G ra ma rd ++ (bV G ma md ++ (bP G pa tp ++ (bH G sd hh ++ (bY G yd td th ++ (bK G td tr ++ [])))))))))))) (hdg : decode cc pc = .ok (.putfield 41, 3)) (kk : ∀ (H1 : Heap) (locs1 : List Loc), Iv G A s0 H1 locs1 (bO G oa na ka aa ra pa sd yd td (si ow 6 val) ++ (bV G na nw ++ (bV G ka kp ++ (bA G aa wa ah ++ (bV G wa aw ++ (bT G ra ma rd ++ (bV G ma md ++ (bP G pa tp ++ (bH G sd hh ++ (bY G yd td th ++ (bK G td tr ++ []))))))))))) → W p l e R s0 m args below meth c H1 locs1 cells slots Q (F0 m (pc + 3) ls rest)) : W p l e R s0 m args below meth c H locs cells slots Q (F0 m pc ls (.int val :: .ref (oa 0) :: rest)) := r_put kfX11 XX I 0 rfl 6 (Nat.le_of_ble_eq_true rfl) wd_291 rfl (vp_nar_int val) rfl (Nat.le_of_ble_eq_true rfl) rfl hdg kk
set_option maxRecDepth 100000 in
theorem gO_X11_o0_tape {p : Program} {l : Launch} {e : Env} {R : Room} {s0 : State} {m : MethodId} {args : Array Value} {below : List Frame} {meth : Method} {c : Code} {H : Heap} {locs : List Loc} {cells slots : Nat} {Q : State → Prop} {cc : ByteArray} {nL pc : Nat} {ls : Array Slot} {rest : List Value} {G : g_G} {A : Nat → Prop} {oa : Nat → Nat} {na : Nat → Nat} {ka : Nat → Nat} {aa : Nat → Nat} {wa : Nat → Nat} {ra : Nat → Nat} {ma : Nat → Nat} {pa : Nat → Nat} {sd : Nat → Nat → Nat} {yd : Nat → Nat} {td : Nat → Nat} {ow : g_St} {nw : g_St} {kp : g_St} {ah : g_St} {aw : g_St} {rd : g_St} {md : g_St} {tp : g_St} {hh : g_Sf} {th : g_St} {tr : g_St} (XX : Cx G A p s0 m meth c cc nL RX11 args) (I : Iv G A s0 H locs (bO G oa na ka aa ra pa sd yd td ow ++ (bV G na nw ++ (bV G ka kp ++ (bA G aa wa ah ++ (bV G wa aw ++ (bT G ra ma rd ++ (bV G ma md ++ (bP G pa tp ++ (bH G sd hh ++ (bY G yd td th ++ (bK G td tr ++ [])))))))))))) (hdg : decode cc pc = .ok (.getfield 37, 3)) (kk : W p l e R s0 m args below meth c H locs cells slots Q (F0 m (pc + 3) ls (.ref (pa 0) :: rest))) : W p l e R s0 m args below meth c H locs cells slots Q (F0 m pc ls (.ref (oa 0) :: rest)) := r_get kfX11 XX I 0 rfl 5 (Nat.le_of_ble_eq_true rfl) wd_290 rfl hdg kk
set_option maxRecDepth 100000 in
theorem aO_tape7 {G : g_G} {oa : Nat → Nat} {na : Nat → Nat} {ka : Nat → Nat} {aa : Nat → Nat} {wa : Nat → Nat} {ra : Nat → Nat} {ma : Nat → Nat} {pa : Nat → Nat} {sd : Nat → Nat → Nat} {yd : Nat → Nat} {td : Nat → Nat} {ow : g_St} {nw : g_St} {kp : g_St} {ah : g_St} {aw : g_St} {rd : g_St} {md : g_St} {tp : g_St} {hh : g_Sf} {th : g_St} {tr : g_St} : (bO G oa na ka aa ra pa sd yd td ow ++ (bV G na nw ++ (bV G ka kp ++ (bA G aa wa ah ++ (bV G wa aw ++ (bT G ra ma rd ++ (bV G ma md ++ (bP G pa tp ++ (bH G sd hh ++ (bY G yd td th ++ (bK G td tr ++ [])))))))))))[104]? = some (pa 0, .inl (G.2.1 0, 240, .inl (gr tp 0))) := rfl
set_option maxRecDepth 100000 in
theorem sO_tape7 {G : g_G} {oa : Nat → Nat} {na : Nat → Nat} {ka : Nat → Nat} {aa : Nat → Nat} {wa : Nat → Nat} {ra : Nat → Nat} {ma : Nat → Nat} {pa : Nat → Nat} {sd : Nat → Nat → Nat} {yd : Nat → Nat} {td : Nat → Nat} {ow : g_St} {nw : g_St} {kp : g_St} {ah : g_St} {aw : g_St} {rd : g_St} {md : g_St} {tp : g_St} {hh : g_Sf} {th : g_St} {tr : g_St} {i : Int32} {x : Int32} : (bO G oa na ka aa ra pa sd yd td ow ++ (bV G na nw ++ (bV G ka kp ++ (bA G aa wa ah ++ (bV G wa aw ++ (bT G ra ma rd ++ (bV G ma md ++ (bP G pa tp ++ (bH G sd hh ++ (bY G yd td th ++ (bK G td tr ++ []))))))))))).set 104 (pa 0, .inl (G.2.1 0, 240, .inl (upd (gr tp 0) i.toNatClampNeg x))) = (bO G oa na ka aa ra pa sd yd td ow ++ (bV G na nw ++ (bV G ka kp ++ (bA G aa wa ah ++ (bV G wa aw ++ (bT G ra ma rd ++ (bV G ma md ++ (bP G pa (sr tp 0 i x) ++ (bH G sd hh ++ (bY G yd td th ++ (bK G td tr ++ []))))))))))) := rfl
set_option maxHeartbeats 4000000 in
set_option maxRecDepth 100000 in
theorem c_O_feed (l : Launch) (G : g_G) (OK : EOk G.2.2) (oa : Nat → Nat) (na : Nat → Nat) (ka : Nat → Nat) (aa : Nat → Nat) (wa : Nat → Nat) (ra : Nat → Nat) (ma : Nat → Nat) (pa : Nat → Nat) (sd : Nat → Nat → Nat) (yd : Nat → Nat) (td : Nat → Nat) (fu : Nat) (owa : g_St) (nwa : g_St) (kpa : g_St) (aha : g_St) (awa : g_St) (rda : g_St) (mda : g_St) (tpa : g_St) (hha : g_Sf) (tha : g_St) (tra : g_St) (x1 : Int64) (x3 : Int32) (r : Int32) (tow : g_St) (ttp : g_St) (h : f_O_feed fu owa tpa x1 x3 = some (r, tow, ttp)) : HI l G yX11_feed (Cond.code yX11_feed cX11_feed 5 (some .int) :: gT) { frames := 1, cells := 0, slots := 0, locals := 22 } .int [.ref (oa 0), .long x1, .int x3] (bO G oa na ka aa ra pa sd yd td owa ++ (bV G na nwa ++ (bV G ka kpa ++ (bA G aa wa aha ++ (bV G wa awa ++ (bT G ra ma rda ++ (bV G ma mda ++ (bP G pa tpa ++ (bH G sd hha ++ (bY G yd td tha ++ (bK G td tra ++ []))))))))))) r (bO G oa na ka aa ra pa sd yd td tow ++ (bV G na nwa ++ (bV G ka kpa ++ (bA G aa wa aha ++ (bV G wa awa ++ (bT G ra ma rda ++ (bV G ma mda ++ (bP G pa ttp ++ (bH G sd hha ++ (bY G yd td tha ++ (bK G td tra ++ []))))))))))) := by
  refine HI.mk (lv := [(0, .ref (oa 0)), (1, .long x1), (3, .int x3)]) OK (by decide) (Nat.le_of_ble_eq_true rfl) rfl ?_
  intro p e s0 m args below meth c ls XX hr I hl
  have hx := XX.x
  have hb := XX.b
  have C30 : ∀ n : Nat, ∀ (ow : g_St) (tp : g_St) (v1 : Int64) (v3 : Int32) (v4 : Int32), f_O_feed_L30 fu n ow tp v1 v3 v4 = some (r, tow, ttp) → ∀ (H : Heap) (locs : List Loc), Iv G (va_A (bO G oa na ka aa ra pa sd yd td owa ++ (bV G na nwa ++ (bV G ka kpa ++ (bA G aa wa aha ++ (bV G wa awa ++ (bT G ra ma rda ++ (bV G ma mda ++ (bP G pa tpa ++ (bH G sd hha ++ (bY G yd td tha ++ (bK G td tra ++ []))))))))))) s0.heap.size) s0 H locs (bO G oa na ka aa ra pa sd yd td ow ++ (bV G na nwa ++ (bV G ka kpa ++ (bA G aa wa aha ++ (bV G wa awa ++ (bT G ra ma rda ++ (bV G ma mda ++ (bP G pa tp ++ (bH G sd hha ++ (bY G yd td tha ++ (bK G td tra ++ []))))))))))) → ∀ ls, lv_has ls 5 [(0, .ref (oa 0)), (1, .long v1), (3, .int v3), (4, .int v4)] → W p l e { frames := 1, cells := 0, slots := 0, locals := 22 } s0 m args below meth c H locs 0 0 (QI G below .int r (bO G oa na ka aa ra pa sd yd td owa ++ (bV G na nwa ++ (bV G ka kpa ++ (bA G aa wa aha ++ (bV G wa awa ++ (bT G ra ma rda ++ (bV G ma mda ++ (bP G pa tpa ++ (bH G sd hha ++ (bY G yd td tha ++ (bK G td tra ++ []))))))))))) (bO G oa na ka aa ra pa sd yd td tow ++ (bV G na nwa ++ (bV G ka kpa ++ (bA G aa wa aha ++ (bV G wa awa ++ (bT G ra ma rda ++ (bV G ma mda ++ (bP G pa ttp ++ (bH G sd hha ++ (bY G yd td tha ++ (bK G td tra ++ []))))))))))) args s0) (F0 m 30 ls []) := by
    intro n
    induction n with
    | zero => intro ow tp v1 v3 v4 h; exact absurd h (fun q => by cases q)
    | succ n ih =>
      intro ow tp v1 v3 v4 h H locs I ls hl
      rw [f_O_feed_L30] at h
      refine lv_iload hx hb dX11_feed_30 (lv_at hl 3 rfl) ?_
      refine lv_iload_n hx hb dX11_feed_32 rfl (lv_at hl 2 rfl) ?_
      refine lv_icmp_ge (tgt := 66) hx hb dX11_feed_33 (by decide) (fun c1 => ?_) (fun c1 => ?_)
      · replace h := if_t h c1
        refine lv_aload_n hx hb dX11_feed_66 rfl (lv_at hl 0 rfl) ?_
        refine lv_dup hx hb dX11_feed_67 rfl ?_
        refine gO_X11_o0_tapeLength XX I dX11_feed_68 ?_
        refine lv_iload_n hx hb dX11_feed_71 rfl (lv_at hl 2 rfl) ?_
        refine lv_iadd hx hb dX11_feed_72 ?_
        refine lv_topi (fun y2 ey2 => ?_)
        replace h := lt_e h ey2
        refine pO_X11_o0_tapeLength XX I dX11_feed_73 (fun H locs I => ?_)
        obtain ⟨s3, es3⟩ : ∃ z, z = si ow 6 y2 := ⟨_, rfl⟩
        replace h := lt_e h es3
        replace I : Iv G (va_A (bO G oa na ka aa ra pa sd yd td owa ++ (bV G na nwa ++ (bV G ka kpa ++ (bA G aa wa aha ++ (bV G wa awa ++ (bT G ra ma rda ++ (bV G ma mda ++ (bP G pa tpa ++ (bH G sd hha ++ (bY G yd td tha ++ (bK G td tra ++ []))))))))))) s0.heap.size) s0 H locs (bO G oa na ka aa ra pa sd yd td s3 ++ (bV G na nwa ++ (bV G ka kpa ++ (bA G aa wa aha ++ (bV G wa awa ++ (bT G ra ma rda ++ (bV G ma mda ++ (bP G pa tp ++ (bH G sd hha ++ (bY G yd td tha ++ (bK G td tra ++ []))))))))))) := by rw [es3]; exact I
        refine lv_aload_n hx hb dX11_feed_76 rfl (lv_at hl 0 rfl) ?_
        refine gO_X11_o0_tapeLength XX I dX11_feed_77 ?_
        obtain ⟨rfl, h9⟩ := some2 h
        obtain ⟨rfl, rfl⟩ := pair2 h9
        exact e_i rfl XX hr I rfl dX11_feed_80
      · replace h := if_f h c1
        refine lv_aload_n hx hb dX11_feed_36 rfl (lv_at hl 0 rfl) ?_
        refine gO_X11_o0_tape XX I dX11_feed_37 ?_
        refine lv_aload_n hx hb dX11_feed_40 rfl (lv_at hl 0 rfl) ?_
        refine gO_X11_o0_tapeLength XX I dX11_feed_41 ?_
        refine lv_iload hx hb dX11_feed_44 (lv_at hl 3 rfl) ?_
        refine lv_iadd hx hb dX11_feed_46 ?_
        refine lv_lload_n hx hb dX11_feed_47 rfl (lv_at hl 1 rfl) ?_
        refine lv_bipush (v := 8) hx hb dX11_feed_48 (by decide) ?_
        refine lv_iload hx hb dX11_feed_50 (lv_at hl 3 rfl) ?_
        refine lv_imul hx hb dX11_feed_52 ?_
        refine lv_lushr hx hb dX11_feed_53 rfl ?_
        refine lv_l2i hx hb dX11_feed_54 rfl ?_
        refine lv_sipush (v := 255) hx hb dX11_feed_55 (by decide) ?_
        refine lv_iand hx hb dX11_feed_58 ?_
        refine lv_topi (fun y4 ey4 => ?_)
        replace h := lt_e h ey4
        obtain ⟨g5, h⟩ := gd_some h
        refine r_iast XX I 104 (aO_tape7) (sO_tape7) g5 dX11_feed_59 (fun H locs I => ?_)
        obtain ⟨s6, es6⟩ : ∃ z, z = sr tp 0 ((gi ow 6) + v4) y4 := ⟨_, rfl⟩
        replace h := lt_e h es6
        replace I : Iv G (va_A (bO G oa na ka aa ra pa sd yd td owa ++ (bV G na nwa ++ (bV G ka kpa ++ (bA G aa wa aha ++ (bV G wa awa ++ (bT G ra ma rda ++ (bV G ma mda ++ (bP G pa tpa ++ (bH G sd hha ++ (bY G yd td tha ++ (bK G td tra ++ []))))))))))) s0.heap.size) s0 H locs (bO G oa na ka aa ra pa sd yd td ow ++ (bV G na nwa ++ (bV G ka kpa ++ (bA G aa wa aha ++ (bV G wa awa ++ (bT G ra ma rda ++ (bV G ma mda ++ (bP G pa s6 ++ (bH G sd hha ++ (bY G yd td tha ++ (bK G td tra ++ []))))))))))) := by rw [es6]; exact I
        obtain ⟨y7, ey7⟩ : ∃ z : Int32, z = v4 + (1 : Int32) := ⟨_, rfl⟩
        replace h := lt_e h ey7
        refine lv_iinc (v := y7) (lv' := [(4, .int y7), (0, .ref (oa 0)), (1, .long v1), (3, .int v3)]) hx hb dX11_feed_60 hl (k := 3) rfl (by rw [ey7]; rfl) (by decide) rfl (fun ls hl => ?_)
        refine lv_goto (tgt := 30) hx hb dX11_feed_63 (by decide) ?_
        exact ih _ _ _ _ _ h _ _ I ls (lv_sub hl [1, 2, 3, 0] rfl)
  unfold f_O_feed at h
  refine lv_iload_n hx hb dX11_feed_0 rfl (lv_at hl 2 rfl) ?_
  refine lv_iconst (v := 1) hx hb dX11_feed_1 (by decide) ?_
  refine lv_bipush (v := 8) hx hb dX11_feed_2 (by decide) ?_
  refine scall_i (rest := []) XX I hl.1 (c_S_within l G OK x3 (1 : Int32) (8 : Int32) _ rfl) kS_X11_103 rfl rfl (Nat.le_of_ble_eq_true rfl) ⟨rfl, rfl, Nat.le_of_ble_eq_true rfl, Nat.le_of_ble_eq_true rfl⟩ ⟨Nat.zero_le _, Nat.zero_le _⟩ dX11_feed_4 (fun H locs hz1 I => ?_)
  refine lv_if_ne (tgt := 12) hx hb dX11_feed_7 (by decide) (fun c1 => ?_) (fun c1 => ?_)
  · replace h := if_f h c1
    refine lv_aload_n hx hb dX11_feed_12 rfl (lv_at hl 0 rfl) ?_
    refine gO_X11_o0_tapeLength XX I dX11_feed_13 ?_
    refine lv_iload_n hx hb dX11_feed_16 rfl (lv_at hl 2 rfl) ?_
    refine lv_iadd hx hb dX11_feed_17 ?_
    refine lv_sipush (v := 240) hx hb dX11_feed_18 (by decide) ?_
    refine lv_icmp_le (tgt := 27) hx hb dX11_feed_21 (by decide) (fun c1 => ?_) (fun c1 => ?_)
    · replace h := if_t h c1
      refine lv_iconst (v := 0) hx hb dX11_feed_27 (by decide) ?_
      refine lv_istore (lv' := [(4, .int (0 : Int32)), (0, .ref (oa 0)), (1, .long x1), (3, .int x3)]) hx hb dX11_feed_28 hl (by decide) rfl (fun ls hl => ?_)
      exact C30 fu _ _ _ _ _ h _ _ I ls (lv_sub hl [1, 2, 3, 0] rfl)
    · replace h := if_f h c1
      refine lv_bipush (v := (-2)) hx hb dX11_feed_24 (by decide) ?_
      obtain ⟨rfl, h9⟩ := some2 h
      obtain ⟨rfl, rfl⟩ := pair2 h9
      exact e_i rfl XX hr I rfl dX11_feed_26
  · replace h := if_t h c1
    refine lv_iconst (v := (-1)) hx hb dX11_feed_10 (by decide) ?_
    obtain ⟨rfl, h9⟩ := some2 h
    obtain ⟨rfl, rfl⟩ := pair2 h9
    exact e_i rfl XX hr I rfl dX11_feed_11
set_option maxRecDepth 100000 in
theorem kV_X11_107 : KV RX11 107 RX6 yX6_readText cX6_readText 4 (some .boolean) 2 := KV.mk wd_345 wd_346 wd_347 wd_4 wd_348 (by decide +kernel)
set_option maxRecDepth 100000 in
theorem kV_X11_120 : KV RX11 120 RX9 yX9_copyFrom cX9_copyFrom 3 none 1 := KV.mk wd_480 wd_481 wd_482 wd_2 wd_483 (by decide +kernel)
set_option maxRecDepth 100000 in
theorem gO_X11_o0_reader {p : Program} {l : Launch} {e : Env} {R : Room} {s0 : State} {m : MethodId} {args : Array Value} {below : List Frame} {meth : Method} {c : Code} {H : Heap} {locs : List Loc} {cells slots : Nat} {Q : State → Prop} {cc : ByteArray} {nL pc : Nat} {ls : Array Slot} {rest : List Value} {G : g_G} {A : Nat → Prop} {oa : Nat → Nat} {na : Nat → Nat} {ka : Nat → Nat} {aa : Nat → Nat} {wa : Nat → Nat} {ra : Nat → Nat} {ma : Nat → Nat} {pa : Nat → Nat} {sd : Nat → Nat → Nat} {yd : Nat → Nat} {td : Nat → Nat} {ow : g_St} {nw : g_St} {kp : g_St} {ah : g_St} {aw : g_St} {rd : g_St} {md : g_St} {tp : g_St} {hh : g_Sf} {th : g_St} {tr : g_St} (XX : Cx G A p s0 m meth c cc nL RX11 args) (I : Iv G A s0 H locs (bO G oa na ka aa ra pa sd yd td ow ++ (bV G na nw ++ (bV G ka kp ++ (bA G aa wa ah ++ (bV G wa aw ++ (bT G ra ma rd ++ (bV G ma md ++ (bP G pa tp ++ (bH G sd hh ++ (bY G yd td th ++ (bK G td tr ++ [])))))))))))) (hdg : decode cc pc = .ok (.getfield 33, 3)) (kk : W p l e R s0 m args below meth c H locs cells slots Q (F0 m (pc + 3) ls (.ref (ra 0) :: rest))) : W p l e R s0 m args below meth c H locs cells slots Q (F0 m pc ls (.ref (oa 0) :: rest)) := r_get kfX11 XX I 0 rfl 4 (Nat.le_of_ble_eq_true rfl) wd_289 rfl hdg kk
set_option maxRecDepth 100000 in
theorem gO_X11_o0_now {p : Program} {l : Launch} {e : Env} {R : Room} {s0 : State} {m : MethodId} {args : Array Value} {below : List Frame} {meth : Method} {c : Code} {H : Heap} {locs : List Loc} {cells slots : Nat} {Q : State → Prop} {cc : ByteArray} {nL pc : Nat} {ls : Array Slot} {rest : List Value} {G : g_G} {A : Nat → Prop} {oa : Nat → Nat} {na : Nat → Nat} {ka : Nat → Nat} {aa : Nat → Nat} {wa : Nat → Nat} {ra : Nat → Nat} {ma : Nat → Nat} {pa : Nat → Nat} {sd : Nat → Nat → Nat} {yd : Nat → Nat} {td : Nat → Nat} {ow : g_St} {nw : g_St} {kp : g_St} {ah : g_St} {aw : g_St} {rd : g_St} {md : g_St} {tp : g_St} {hh : g_Sf} {th : g_St} {tr : g_St} (XX : Cx G A p s0 m meth c cc nL RX11 args) (I : Iv G A s0 H locs (bO G oa na ka aa ra pa sd yd td ow ++ (bV G na nw ++ (bV G ka kp ++ (bA G aa wa ah ++ (bV G wa aw ++ (bT G ra ma rd ++ (bV G ma md ++ (bP G pa tp ++ (bH G sd hh ++ (bY G yd td th ++ (bK G td tr ++ [])))))))))))) (hdg : decode cc pc = .ok (.getfield 10, 3)) (kk : W p l e R s0 m args below meth c H locs cells slots Q (F0 m (pc + 3) ls (.ref (na 0) :: rest))) : W p l e R s0 m args below meth c H locs cells slots Q (F0 m pc ls (.ref (oa 0) :: rest)) := r_get kfX11 XX I 0 rfl 0 (Nat.le_of_ble_eq_true rfl) wd_285 rfl hdg kk
set_option maxRecDepth 100000 in
theorem gO_X11_o1_z {p : Program} {l : Launch} {e : Env} {R : Room} {s0 : State} {m : MethodId} {args : Array Value} {below : List Frame} {meth : Method} {c : Code} {H : Heap} {locs : List Loc} {cells slots : Nat} {Q : State → Prop} {cc : ByteArray} {nL pc : Nat} {ls : Array Slot} {rest : List Value} {G : g_G} {A : Nat → Prop} {oa : Nat → Nat} {na : Nat → Nat} {ka : Nat → Nat} {aa : Nat → Nat} {wa : Nat → Nat} {ra : Nat → Nat} {ma : Nat → Nat} {pa : Nat → Nat} {sd : Nat → Nat → Nat} {yd : Nat → Nat} {td : Nat → Nat} {ow : g_St} {nw : g_St} {kp : g_St} {ah : g_St} {aw : g_St} {rd : g_St} {md : g_St} {tp : g_St} {hh : g_Sf} {th : g_St} {tr : g_St} (XX : Cx G A p s0 m meth c cc nL RX11 args) (I : Iv G A s0 H locs (bO G oa na ka aa ra pa sd yd td ow ++ (bV G na nw ++ (bV G ka kp ++ (bA G aa wa ah ++ (bV G wa aw ++ (bT G ra ma rd ++ (bV G ma md ++ (bP G pa tp ++ (bH G sd hh ++ (bY G yd td th ++ (bK G td tr ++ [])))))))))))) (hdg : decode cc pc = .ok (.getfield 114, 3)) (kk : W p l e R s0 m args below meth c H locs cells slots Q (F0 m (pc + 3) ls (.int (gi nw 10) :: rest))) : W p l e R s0 m args below meth c H locs cells slots Q (F0 m pc ls (.ref (na 0) :: rest)) := r_get kfX9 XX I 32 rfl 10 (Nat.le_of_ble_eq_true rfl) wd_69 rfl hdg kk
set_option maxRecDepth 100000 in
theorem gO_X11_o5_made {p : Program} {l : Launch} {e : Env} {R : Room} {s0 : State} {m : MethodId} {args : Array Value} {below : List Frame} {meth : Method} {c : Code} {H : Heap} {locs : List Loc} {cells slots : Nat} {Q : State → Prop} {cc : ByteArray} {nL pc : Nat} {ls : Array Slot} {rest : List Value} {G : g_G} {A : Nat → Prop} {oa : Nat → Nat} {na : Nat → Nat} {ka : Nat → Nat} {aa : Nat → Nat} {wa : Nat → Nat} {ra : Nat → Nat} {ma : Nat → Nat} {pa : Nat → Nat} {sd : Nat → Nat → Nat} {yd : Nat → Nat} {td : Nat → Nat} {ow : g_St} {nw : g_St} {kp : g_St} {ah : g_St} {aw : g_St} {rd : g_St} {md : g_St} {tp : g_St} {hh : g_Sf} {th : g_St} {tr : g_St} (XX : Cx G A p s0 m meth c cc nL RX11 args) (I : Iv G A s0 H locs (bO G oa na ka aa ra pa sd yd td ow ++ (bV G na nw ++ (bV G ka kp ++ (bA G aa wa ah ++ (bV G wa aw ++ (bT G ra ma rd ++ (bV G ma md ++ (bP G pa tp ++ (bH G sd hh ++ (bY G yd td th ++ (bK G td tr ++ [])))))))))))) (hdg : decode cc pc = .ok (.getfield 117, 3)) (kk : W p l e R s0 m args below meth c H locs cells slots Q (F0 m (pc + 3) ls (.ref (ma 0) :: rest))) : W p l e R s0 m args below meth c H locs cells slots Q (F0 m pc ls (.ref (ra 0) :: rest)) := r_get kfX6 XX I 85 rfl 0 (Nat.le_of_ble_eq_true rfl) wd_131 rfl hdg kk
set_option maxRecDepth 100000 in
theorem pO_X11_o1_z {p : Program} {l : Launch} {e : Env} {R : Room} {s0 : State} {m : MethodId} {args : Array Value} {below : List Frame} {meth : Method} {c : Code} {H : Heap} {locs : List Loc} {cells slots : Nat} {Q : State → Prop} {cc : ByteArray} {nL pc : Nat} {ls : Array Slot} {rest : List Value} {G : g_G} {A : Nat → Prop} {oa : Nat → Nat} {na : Nat → Nat} {ka : Nat → Nat} {aa : Nat → Nat} {wa : Nat → Nat} {ra : Nat → Nat} {ma : Nat → Nat} {pa : Nat → Nat} {sd : Nat → Nat → Nat} {yd : Nat → Nat} {td : Nat → Nat} {ow : g_St} {nw : g_St} {kp : g_St} {ah : g_St} {aw : g_St} {rd : g_St} {md : g_St} {tp : g_St} {hh : g_Sf} {th : g_St} {tr : g_St} {val : Int32} (XX : Cx G A p s0 m meth c cc nL RX11 args) (I : Iv G A s0 H locs (bO G oa na ka aa ra pa sd yd td ow ++ (bV G na nw ++ (bV G ka kp ++ (bA G aa wa ah ++ (bV G wa aw ++ (bT G ra ma rd ++ (bV G ma md ++ (bP G pa tp ++ (bH G sd hh ++ (bY G yd td th ++ (bK G td tr ++ [])))))))))))) (hdg : decode cc pc = .ok (.putfield 114, 3)) (kk : ∀ (H1 : Heap) (locs1 : List Loc), Iv G A s0 H1 locs1 (bO G oa na ka aa ra pa sd yd td ow ++ (bV G na (si nw 10 val) ++ (bV G ka kp ++ (bA G aa wa ah ++ (bV G wa aw ++ (bT G ra ma rd ++ (bV G ma md ++ (bP G pa tp ++ (bH G sd hh ++ (bY G yd td th ++ (bK G td tr ++ []))))))))))) → W p l e R s0 m args below meth c H1 locs1 cells slots Q (F0 m (pc + 3) ls rest)) : W p l e R s0 m args below meth c H locs cells slots Q (F0 m pc ls (.int val :: .ref (na 0) :: rest)) := r_put kfX9 XX I 32 rfl 10 (Nat.le_of_ble_eq_true rfl) wd_69 rfl (vp_nar_int val) rfl (Nat.le_of_ble_eq_true rfl) rfl hdg kk
set_option maxRecDepth 100000 in
theorem pO_X11_o0_rowCount {p : Program} {l : Launch} {e : Env} {R : Room} {s0 : State} {m : MethodId} {args : Array Value} {below : List Frame} {meth : Method} {c : Code} {H : Heap} {locs : List Loc} {cells slots : Nat} {Q : State → Prop} {cc : ByteArray} {nL pc : Nat} {ls : Array Slot} {rest : List Value} {G : g_G} {A : Nat → Prop} {oa : Nat → Nat} {na : Nat → Nat} {ka : Nat → Nat} {aa : Nat → Nat} {wa : Nat → Nat} {ra : Nat → Nat} {ma : Nat → Nat} {pa : Nat → Nat} {sd : Nat → Nat → Nat} {yd : Nat → Nat} {td : Nat → Nat} {ow : g_St} {nw : g_St} {kp : g_St} {ah : g_St} {aw : g_St} {rd : g_St} {md : g_St} {tp : g_St} {hh : g_Sf} {th : g_St} {tr : g_St} {val : Int32} (XX : Cx G A p s0 m meth c cc nL RX11 args) (I : Iv G A s0 H locs (bO G oa na ka aa ra pa sd yd td ow ++ (bV G na nw ++ (bV G ka kp ++ (bA G aa wa ah ++ (bV G wa aw ++ (bT G ra ma rd ++ (bV G ma md ++ (bP G pa tp ++ (bH G sd hh ++ (bY G yd td th ++ (bK G td tr ++ [])))))))))))) (hdg : decode cc pc = .ok (.putfield 53, 3)) (kk : ∀ (H1 : Heap) (locs1 : List Loc), Iv G A s0 H1 locs1 (bO G oa na ka aa ra pa sd yd td (si ow 9 val) ++ (bV G na nw ++ (bV G ka kp ++ (bA G aa wa ah ++ (bV G wa aw ++ (bT G ra ma rd ++ (bV G ma md ++ (bP G pa tp ++ (bH G sd hh ++ (bY G yd td th ++ (bK G td tr ++ []))))))))))) → W p l e R s0 m args below meth c H1 locs1 cells slots Q (F0 m (pc + 3) ls rest)) : W p l e R s0 m args below meth c H locs cells slots Q (F0 m pc ls (.int val :: .ref (oa 0) :: rest)) := r_put kfX11 XX I 0 rfl 9 (Nat.le_of_ble_eq_true rfl) wd_294 rfl (vp_nar_int val) rfl (Nat.le_of_ble_eq_true rfl) rfl hdg kk
set_option maxRecDepth 100000 in
theorem gO_X11_o1_people {p : Program} {l : Launch} {e : Env} {R : Room} {s0 : State} {m : MethodId} {args : Array Value} {below : List Frame} {meth : Method} {c : Code} {H : Heap} {locs : List Loc} {cells slots : Nat} {Q : State → Prop} {cc : ByteArray} {nL pc : Nat} {ls : Array Slot} {rest : List Value} {G : g_G} {A : Nat → Prop} {oa : Nat → Nat} {na : Nat → Nat} {ka : Nat → Nat} {aa : Nat → Nat} {wa : Nat → Nat} {ra : Nat → Nat} {ma : Nat → Nat} {pa : Nat → Nat} {sd : Nat → Nat → Nat} {yd : Nat → Nat} {td : Nat → Nat} {ow : g_St} {nw : g_St} {kp : g_St} {ah : g_St} {aw : g_St} {rd : g_St} {md : g_St} {tp : g_St} {hh : g_Sf} {th : g_St} {tr : g_St} (XX : Cx G A p s0 m meth c cc nL RX11 args) (I : Iv G A s0 H locs (bO G oa na ka aa ra pa sd yd td ow ++ (bV G na nw ++ (bV G ka kp ++ (bA G aa wa ah ++ (bV G wa aw ++ (bT G ra ma rd ++ (bV G ma md ++ (bP G pa tp ++ (bH G sd hh ++ (bY G yd td th ++ (bK G td tr ++ [])))))))))))) (hdg : decode cc pc = .ok (.getfield 124, 3)) (kk : W p l e R s0 m args below meth c H locs cells slots Q (F0 m (pc + 3) ls (.int (gi nw 0) :: rest))) : W p l e R s0 m args below meth c H locs cells slots Q (F0 m pc ls (.ref (na 0) :: rest)) := r_get kfX9 XX I 32 rfl 0 (Nat.le_of_ble_eq_true rfl) wd_38 rfl hdg kk
set_option maxRecDepth 100000 in
theorem gO_X11_o5_start {p : Program} {l : Launch} {e : Env} {R : Room} {s0 : State} {m : MethodId} {args : Array Value} {below : List Frame} {meth : Method} {c : Code} {H : Heap} {locs : List Loc} {cells slots : Nat} {Q : State → Prop} {cc : ByteArray} {nL pc : Nat} {ls : Array Slot} {rest : List Value} {G : g_G} {A : Nat → Prop} {oa : Nat → Nat} {na : Nat → Nat} {ka : Nat → Nat} {aa : Nat → Nat} {wa : Nat → Nat} {ra : Nat → Nat} {ma : Nat → Nat} {pa : Nat → Nat} {sd : Nat → Nat → Nat} {yd : Nat → Nat} {td : Nat → Nat} {ow : g_St} {nw : g_St} {kp : g_St} {ah : g_St} {aw : g_St} {rd : g_St} {md : g_St} {tp : g_St} {hh : g_Sf} {th : g_St} {tr : g_St} (XX : Cx G A p s0 m meth c cc nL RX11 args) (I : Iv G A s0 H locs (bO G oa na ka aa ra pa sd yd td ow ++ (bV G na nw ++ (bV G ka kp ++ (bA G aa wa ah ++ (bV G wa aw ++ (bT G ra ma rd ++ (bV G ma md ++ (bP G pa tp ++ (bH G sd hh ++ (bY G yd td th ++ (bK G td tr ++ [])))))))))))) (hdg : decode cc pc = .ok (.getfield 111, 3)) (kk : W p l e R s0 m args below meth c H locs cells slots Q (F0 m (pc + 3) ls (.int (gi rd 5) :: rest))) : W p l e R s0 m args below meth c H locs cells slots Q (F0 m pc ls (.ref (ra 0) :: rest)) := r_get kfX6 XX I 85 rfl 5 (Nat.le_of_ble_eq_true rfl) wd_137 rfl hdg kk
set_option maxHeartbeats 4000000 in
set_option maxRecDepth 100000 in
theorem c_O_village (l : Launch) (G : g_G) (OK : EOk G.2.2) (adK adV : Nat → Nat) (hX : HX G adK adV) (oa : Nat → Nat) (na : Nat → Nat) (ka : Nat → Nat) (aa : Nat → Nat) (wa : Nat → Nat) (ra : Nat → Nat) (ma : Nat → Nat) (pa : Nat → Nat) (sd : Nat → Nat → Nat) (yd : Nat → Nat) (td : Nat → Nat) (fu : Nat) (owa : g_St) (nwa : g_St) (kpa : g_St) (aha : g_St) (awa : g_St) (rda : g_St) (mda : g_St) (tpa : g_St) (hha : g_Sf) (tha : g_St) (tra : g_St) (r : Int32) (tow : g_St) (tnw : g_St) (trd : g_St) (tmd : g_St) (h : f_O_village fu owa nwa rda mda tpa = some (r, tow, tnw, trd, tmd)) : HI l G yX11_village (Cond.code yX11_village cX11_village 3 (some .int) :: gT) { frames := 8, cells := 0, slots := 0, locals := 175 } .int [.ref (oa 0)] (bO G oa na ka aa ra pa sd yd td owa ++ (bV G na nwa ++ (bV G ka kpa ++ (bA G aa wa aha ++ (bV G wa awa ++ (bT G ra ma rda ++ (bV G ma mda ++ (bP G pa tpa ++ (bH G sd hha ++ (bY G yd td tha ++ (bK G td tra ++ []))))))))))) r (bO G oa na ka aa ra pa sd yd td tow ++ (bV G na tnw ++ (bV G ka kpa ++ (bA G aa wa aha ++ (bV G wa awa ++ (bT G ra ma trd ++ (bV G ma tmd ++ (bP G pa tpa ++ (bH G sd hha ++ (bY G yd td tha ++ (bK G td tra ++ []))))))))))) := by
  refine HI.mk (lv := [(0, .ref (oa 0))]) OK (by decide) (Nat.le_of_ble_eq_true rfl) rfl ?_
  intro p e s0 m args below meth c ls XX hr I hl
  have hx := XX.x
  have hb := XX.b
  have E := hX _ _ _ XX.E
  unfold f_O_village at h
  refine lv_aload_n hx hb dX11_village_0 rfl (lv_at hl 0 rfl) ?_
  refine gO_X11_o0_reader XX I dX11_village_1 ?_
  refine lv_aload_n hx hb dX11_village_4 rfl (lv_at hl 0 rfl) ?_
  refine gO_X11_o0_tape XX I dX11_village_5 ?_
  refine lv_aload_n hx hb dX11_village_8 rfl (lv_at hl 0 rfl) ?_
  refine gO_X11_o0_tapeLength XX I dX11_village_9 ?_
  obtain ⟨r1, s2, s3, q4, h⟩ := bd3_some h
  have RC := (Rc.mk XX I (q0 := 85) (ci := 6) rfl rfl)
  replace I : Iv G (va_A (bO G oa na ka aa ra pa sd yd td owa ++ (bV G na nwa ++ (bV G ka kpa ++ (bA G aa wa aha ++ (bV G wa awa ++ (bT G ra ma rda ++ (bV G ma mda ++ (bP G pa tpa ++ (bH G sd hha ++ (bY G yd td tha ++ (bK G td tra ++ []))))))))))) s0.heap.size) s0 _ _ (((bT G ra ma rda ++ (bV G ma mda ++ (bP G pa tpa ++ [])))) ++ (bO G oa na ka aa ra pa sd yd td owa ++ (bV G na nwa ++ (bV G ka kpa ++ (bA G aa wa aha ++ (bV G wa awa ++ (bH G sd hha ++ (bY G yd td tha ++ (bK G td tra ++ []))))))))) := I.perm (((((List.Perm.append_left _ ((List.Perm.append_left _ ((List.Perm.append_left _ ((List.Perm.append_left _ ((List.Perm.append_left _ (List.Perm.refl _)).trans (List.perm_append_comm_assoc _ _ _))).trans (List.perm_append_comm_assoc _ _ _))).trans (List.perm_append_comm_assoc _ _ _))).trans (List.perm_append_comm_assoc _ _ _))).trans (List.perm_append_comm_assoc _ _ _)).trans (List.Perm.append_left _ ((List.Perm.append_left _ ((List.Perm.append_left _ ((List.Perm.append_left _ ((List.Perm.append_left _ ((List.Perm.append_left _ (List.Perm.refl _)).trans (List.perm_append_comm_assoc _ _ _))).trans (List.perm_append_comm_assoc _ _ _))).trans (List.perm_append_comm_assoc _ _ _))).trans (List.perm_append_comm_assoc _ _ _))).trans (List.perm_append_comm_assoc _ _ _)))).trans (List.Perm.append_left _ (List.Perm.append_left _ ((List.Perm.append_left _ ((List.Perm.append_left _ ((List.Perm.append_left _ ((List.Perm.append_left _ ((List.Perm.append_left _ (List.Perm.refl _)).trans (List.perm_append_comm_assoc _ _ _))).trans (List.perm_append_comm_assoc _ _ _))).trans (List.perm_append_comm_assoc _ _ _))).trans (List.perm_append_comm_assoc _ _ _))).trans (List.perm_append_comm_assoc _ _ _))))).trans pasc3)
  refine call_i (X := []) (wc := ((bT G ra ma rda ++ (bV G ma mda ++ (bP G pa tpa ++ []))))) (Y := (bO G oa na ka aa ra pa sd yd td owa ++ (bV G na nwa ++ (bV G ka kpa ++ (bA G aa wa aha ++ (bV G wa awa ++ (bH G sd hha ++ (bY G yd td tha ++ (bK G td tra ++ []))))))))) (rest := []) XX I hl.1 (c_TP_readText l G OK adK adV hX ra ma pa fu rda mda tpa (gi owa 6) r1 s2 s3 q4) kV_X11_107 RC rfl rfl (Nat.le_of_ble_eq_true rfl) ⟨rfl, rfl, Nat.le_of_ble_eq_true rfl, Nat.le_of_ble_eq_true rfl⟩ ⟨Nat.zero_le _, Nat.zero_le _⟩ dX11_village_12 (fun H locs hz5 I => ?_)
  replace I : Iv G (va_A (bO G oa na ka aa ra pa sd yd td owa ++ (bV G na nwa ++ (bV G ka kpa ++ (bA G aa wa aha ++ (bV G wa awa ++ (bT G ra ma rda ++ (bV G ma mda ++ (bP G pa tpa ++ (bH G sd hha ++ (bY G yd td tha ++ (bK G td tra ++ []))))))))))) s0.heap.size) s0 H locs (bO G oa na ka aa ra pa sd yd td owa ++ (bV G na nwa ++ (bV G ka kpa ++ (bA G aa wa aha ++ (bV G wa awa ++ (bT G ra ma s2 ++ (bV G ma s3 ++ (bP G pa tpa ++ (bH G sd hha ++ (bY G yd td tha ++ (bK G td tra ++ []))))))))))) := Iv.perm (w := ((bT G ra ma s2 ++ (bV G ma s3 ++ (bP G pa tpa ++ [])))) ++ (bO G oa na ka aa ra pa sd yd td owa ++ (bV G na nwa ++ (bV G ka kpa ++ (bA G aa wa aha ++ (bV G wa awa ++ (bH G sd hha ++ (bY G yd td tha ++ (bK G td tra ++ []))))))))) I ((((((List.Perm.append_left _ ((List.Perm.append_left _ ((List.Perm.append_left _ ((List.Perm.append_left _ ((List.Perm.append_left _ (List.Perm.refl _)).trans (List.perm_append_comm_assoc _ _ _))).trans (List.perm_append_comm_assoc _ _ _))).trans (List.perm_append_comm_assoc _ _ _))).trans (List.perm_append_comm_assoc _ _ _))).trans (List.perm_append_comm_assoc _ _ _)).trans (List.Perm.append_left _ ((List.Perm.append_left _ ((List.Perm.append_left _ ((List.Perm.append_left _ ((List.Perm.append_left _ ((List.Perm.append_left _ (List.Perm.refl _)).trans (List.perm_append_comm_assoc _ _ _))).trans (List.perm_append_comm_assoc _ _ _))).trans (List.perm_append_comm_assoc _ _ _))).trans (List.perm_append_comm_assoc _ _ _))).trans (List.perm_append_comm_assoc _ _ _)))).trans (List.Perm.append_left _ (List.Perm.append_left _ ((List.Perm.append_left _ ((List.Perm.append_left _ ((List.Perm.append_left _ ((List.Perm.append_left _ ((List.Perm.append_left _ (List.Perm.refl _)).trans (List.perm_append_comm_assoc _ _ _))).trans (List.perm_append_comm_assoc _ _ _))).trans (List.perm_append_comm_assoc _ _ _))).trans (List.perm_append_comm_assoc _ _ _))).trans (List.perm_append_comm_assoc _ _ _))))).trans pasc3).symm)
  refine lv_istore_n (lv' := [(1, .int r1), (0, .ref (oa 0))]) hx hb dX11_village_15 rfl hl (by decide) rfl (fun ls hl => ?_)
  refine lv_aload_n hx hb dX11_village_16 rfl (lv_at hl 1 rfl) ?_
  refine lv_iconst (v := 0) hx hb dX11_village_17 (by decide) ?_
  refine pO_X11_o0_tapeLength XX I dX11_village_18 (fun H locs I => ?_)
  obtain ⟨s6, es6⟩ : ∃ z, z = si owa 6 (0 : Int32) := ⟨_, rfl⟩
  replace h := lt_e h es6
  replace I : Iv G (va_A (bO G oa na ka aa ra pa sd yd td owa ++ (bV G na nwa ++ (bV G ka kpa ++ (bA G aa wa aha ++ (bV G wa awa ++ (bT G ra ma rda ++ (bV G ma mda ++ (bP G pa tpa ++ (bH G sd hha ++ (bY G yd td tha ++ (bK G td tra ++ []))))))))))) s0.heap.size) s0 H locs (bO G oa na ka aa ra pa sd yd td s6 ++ (bV G na nwa ++ (bV G ka kpa ++ (bA G aa wa aha ++ (bV G wa awa ++ (bT G ra ma s2 ++ (bV G ma s3 ++ (bP G pa tpa ++ (bH G sd hha ++ (bY G yd td tha ++ (bK G td tra ++ []))))))))))) := by rw [es6]; exact I
  refine lv_iload_n hx hb dX11_village_21 rfl (lv_at hl 0 rfl) ?_
  refine lv_if_ne (tgt := 36) hx hb dX11_village_22 (by decide) (fun c1 => ?_) (fun c1 => ?_)
  · replace h := if_f h c1
    refine lv_aload_n hx hb dX11_village_36 rfl (lv_at hl 1 rfl) ?_
    refine gO_X11_o0_now XX I dX11_village_37 ?_
    refine gO_X11_o1_z XX I dX11_village_40 ?_
    refine lv_topi (fun y7 ey7 => ?_)
    replace h := lt_e h ey7
    refine lv_istore_n (lv' := [(2, .int y7), (1, .int r1), (0, .ref (oa 0))]) hx hb dX11_village_43 rfl hl (by decide) rfl (fun ls hl => ?_)
    refine lv_aload_n hx hb dX11_village_44 rfl (lv_at hl 2 rfl) ?_
    refine gO_X11_o0_now XX I dX11_village_45 ?_
    refine lv_aload_n hx hb dX11_village_48 rfl (lv_at hl 2 rfl) ?_
    refine gO_X11_o0_reader XX I dX11_village_49 ?_
    refine gO_X11_o5_made XX I dX11_village_52 ?_
    obtain ⟨s8, q9, h⟩ := bd1_some h
    have RC := (Rc.mk XX I (q0 := 32) (ci := 9) rfl rfl)
    replace I : Iv G (va_A (bO G oa na ka aa ra pa sd yd td owa ++ (bV G na nwa ++ (bV G ka kpa ++ (bA G aa wa aha ++ (bV G wa awa ++ (bT G ra ma rda ++ (bV G ma mda ++ (bP G pa tpa ++ (bH G sd hha ++ (bY G yd td tha ++ (bK G td tra ++ []))))))))))) s0.heap.size) s0 _ _ (((bV G na nwa ++ (bV G ma s3 ++ []))) ++ (bO G oa na ka aa ra pa sd yd td s6 ++ (bV G ka kpa ++ (bA G aa wa aha ++ (bV G wa awa ++ (bT G ra ma s2 ++ (bP G pa tpa ++ (bH G sd hha ++ (bY G yd td tha ++ (bK G td tra ++ [])))))))))) := I.perm ((((List.Perm.append_left _ (List.Perm.refl _)).trans (List.perm_append_comm_assoc _ _ _)).trans (List.Perm.append_left _ ((List.Perm.append_left _ ((List.Perm.append_left _ ((List.Perm.append_left _ ((List.Perm.append_left _ ((List.Perm.append_left _ (List.Perm.refl _)).trans (List.perm_append_comm_assoc _ _ _))).trans (List.perm_append_comm_assoc _ _ _))).trans (List.perm_append_comm_assoc _ _ _))).trans (List.perm_append_comm_assoc _ _ _))).trans (List.perm_append_comm_assoc _ _ _)))).trans pasc2)
    refine call_v (X := []) (wc := ((bV G na nwa ++ (bV G ma s3 ++ [])))) (Y := (bO G oa na ka aa ra pa sd yd td s6 ++ (bV G ka kpa ++ (bA G aa wa aha ++ (bV G wa awa ++ (bT G ra ma s2 ++ (bP G pa tpa ++ (bH G sd hha ++ (bY G yd td tha ++ (bK G td tra ++ [])))))))))) (rest := []) XX I hl.1 (c_VV_copyFrom l G OK na ma fu nwa s3 s8 q9) kV_X11_120 RC rfl rfl (Nat.le_of_ble_eq_true rfl) ⟨rfl, rfl, Nat.le_of_ble_eq_true rfl, Nat.le_of_ble_eq_true rfl⟩ ⟨Nat.zero_le _, Nat.zero_le _⟩ dX11_village_55 (fun H locs I => ?_)
    replace I : Iv G (va_A (bO G oa na ka aa ra pa sd yd td owa ++ (bV G na nwa ++ (bV G ka kpa ++ (bA G aa wa aha ++ (bV G wa awa ++ (bT G ra ma rda ++ (bV G ma mda ++ (bP G pa tpa ++ (bH G sd hha ++ (bY G yd td tha ++ (bK G td tra ++ []))))))))))) s0.heap.size) s0 H locs (bO G oa na ka aa ra pa sd yd td s6 ++ (bV G na s8 ++ (bV G ka kpa ++ (bA G aa wa aha ++ (bV G wa awa ++ (bT G ra ma s2 ++ (bV G ma s3 ++ (bP G pa tpa ++ (bH G sd hha ++ (bY G yd td tha ++ (bK G td tra ++ []))))))))))) := Iv.perm (w := ((bV G na s8 ++ (bV G ma s3 ++ []))) ++ (bO G oa na ka aa ra pa sd yd td s6 ++ (bV G ka kpa ++ (bA G aa wa aha ++ (bV G wa awa ++ (bT G ra ma s2 ++ (bP G pa tpa ++ (bH G sd hha ++ (bY G yd td tha ++ (bK G td tra ++ [])))))))))) I (((((List.Perm.append_left _ (List.Perm.refl _)).trans (List.perm_append_comm_assoc _ _ _)).trans (List.Perm.append_left _ ((List.Perm.append_left _ ((List.Perm.append_left _ ((List.Perm.append_left _ ((List.Perm.append_left _ ((List.Perm.append_left _ (List.Perm.refl _)).trans (List.perm_append_comm_assoc _ _ _))).trans (List.perm_append_comm_assoc _ _ _))).trans (List.perm_append_comm_assoc _ _ _))).trans (List.perm_append_comm_assoc _ _ _))).trans (List.perm_append_comm_assoc _ _ _)))).trans pasc2).symm)
    refine lv_aload_n hx hb dX11_village_58 rfl (lv_at hl 2 rfl) ?_
    refine gO_X11_o0_now XX I dX11_village_59 ?_
    refine lv_iload_n hx hb dX11_village_62 rfl (lv_at hl 0 rfl) ?_
    refine pO_X11_o1_z XX I dX11_village_63 (fun H locs I => ?_)
    obtain ⟨s11, es11⟩ : ∃ z, z = si s8 10 y7 := ⟨_, rfl⟩
    replace h := lt_e h es11
    replace I : Iv G (va_A (bO G oa na ka aa ra pa sd yd td owa ++ (bV G na nwa ++ (bV G ka kpa ++ (bA G aa wa aha ++ (bV G wa awa ++ (bT G ra ma rda ++ (bV G ma mda ++ (bP G pa tpa ++ (bH G sd hha ++ (bY G yd td tha ++ (bK G td tra ++ []))))))))))) s0.heap.size) s0 H locs (bO G oa na ka aa ra pa sd yd td s6 ++ (bV G na s11 ++ (bV G ka kpa ++ (bA G aa wa aha ++ (bV G wa awa ++ (bT G ra ma s2 ++ (bV G ma s3 ++ (bP G pa tpa ++ (bH G sd hha ++ (bY G yd td tha ++ (bK G td tra ++ []))))))))))) := by rw [es11]; exact I
    refine lv_aload_n hx hb dX11_village_66 rfl (lv_at hl 2 rfl) ?_
    refine lv_iconst (v := 0) hx hb dX11_village_67 (by decide) ?_
    refine pO_X11_o0_rowCount XX I dX11_village_68 (fun H locs I => ?_)
    obtain ⟨s12, es12⟩ : ∃ z, z = si s6 9 (0 : Int32) := ⟨_, rfl⟩
    replace h := lt_e h es12
    replace I : Iv G (va_A (bO G oa na ka aa ra pa sd yd td owa ++ (bV G na nwa ++ (bV G ka kpa ++ (bA G aa wa aha ++ (bV G wa awa ++ (bT G ra ma rda ++ (bV G ma mda ++ (bP G pa tpa ++ (bH G sd hha ++ (bY G yd td tha ++ (bK G td tra ++ []))))))))))) s0.heap.size) s0 H locs (bO G oa na ka aa ra pa sd yd td s12 ++ (bV G na s11 ++ (bV G ka kpa ++ (bA G aa wa aha ++ (bV G wa awa ++ (bT G ra ma s2 ++ (bV G ma s3 ++ (bP G pa tpa ++ (bH G sd hha ++ (bY G yd td tha ++ (bK G td tra ++ []))))))))))) := by rw [es12]; exact I
    refine lv_aload_n hx hb dX11_village_71 rfl (lv_at hl 2 rfl) ?_
    refine gO_X11_o0_now XX I dX11_village_72 ?_
    refine gO_X11_o1_people XX I dX11_village_75 ?_
    obtain ⟨rfl, h9⟩ := some2 h
    obtain ⟨rfl, h10⟩ := pair2 h9
    obtain ⟨rfl, h11⟩ := pair2 h10
    obtain ⟨rfl, rfl⟩ := pair2 h11
    exact e_i rfl XX hr I rfl dX11_village_78
  · replace h := if_t h c1
    refine lv_bipush (v := (-100)) hx hb dX11_village_25 (by decide) ?_
    refine lv_aload_n hx hb dX11_village_27 rfl (lv_at hl 1 rfl) ?_
    refine gO_X11_o0_reader XX I dX11_village_28 ?_
    refine gO_X11_o5_start XX I dX11_village_31 ?_
    refine lv_isub hx hb dX11_village_34 ?_
    obtain ⟨rfl, h9⟩ := some2 h
    obtain ⟨rfl, h10⟩ := pair2 h9
    obtain ⟨rfl, h11⟩ := pair2 h10
    obtain ⟨rfl, rfl⟩ := pair2 h11
    exact e_i rfl XX hr I rfl dX11_village_35
set_option maxRecDepth 100000 in
theorem kV_X11_127 : KV RX11 127 RX9 yX9_addPerson cX9_addPerson 7 (some .int) 4 := KV.mk wd_490 wd_448 wd_449 wd_2 wd_450 (by decide +kernel)
set_option maxHeartbeats 4000000 in
set_option maxRecDepth 100000 in
theorem c_O_person (l : Launch) (G : g_G) (OK : EOk G.2.2) (oa : Nat → Nat) (na : Nat → Nat) (ka : Nat → Nat) (aa : Nat → Nat) (wa : Nat → Nat) (ra : Nat → Nat) (ma : Nat → Nat) (pa : Nat → Nat) (sd : Nat → Nat → Nat) (yd : Nat → Nat) (td : Nat → Nat) (fu : Nat) (owa : g_St) (nwa : g_St) (kpa : g_St) (aha : g_St) (awa : g_St) (rda : g_St) (mda : g_St) (tpa : g_St) (hha : g_Sf) (tha : g_St) (tra : g_St) (x1 : Int32) (x2 : Int32) (x3 : Int32) (x4 : Int32) (r : Int32) (tnw : g_St) (h : f_O_person fu nwa x1 x2 x3 x4 = some (r, tnw)) : HI l G yX11_person (Cond.code yX11_person cX11_person 5 (some .int) :: gT) { frames := 1, cells := 0, slots := 0, locals := 26 } .int [.ref (oa 0), .int x1, .int x2, .int x3, .int x4] (bO G oa na ka aa ra pa sd yd td owa ++ (bV G na nwa ++ (bV G ka kpa ++ (bA G aa wa aha ++ (bV G wa awa ++ (bT G ra ma rda ++ (bV G ma mda ++ (bP G pa tpa ++ (bH G sd hha ++ (bY G yd td tha ++ (bK G td tra ++ []))))))))))) r (bO G oa na ka aa ra pa sd yd td owa ++ (bV G na tnw ++ (bV G ka kpa ++ (bA G aa wa aha ++ (bV G wa awa ++ (bT G ra ma rda ++ (bV G ma mda ++ (bP G pa tpa ++ (bH G sd hha ++ (bY G yd td tha ++ (bK G td tra ++ []))))))))))) := by
  refine HI.mk (lv := [(0, .ref (oa 0)), (1, .int x1), (2, .int x2), (3, .int x3), (4, .int x4)]) OK (by decide) (Nat.le_of_ble_eq_true rfl) rfl ?_
  intro p e s0 m args below meth c ls XX hr I hl
  have hx := XX.x
  have hb := XX.b
  unfold f_O_person at h
  refine lv_iload_n hx hb dX11_person_0 rfl (lv_at hl 1 rfl) ?_
  refine lv_iconst (v := 0) hx hb dX11_person_1 (by decide) ?_
  refine lv_iconst (v := 5) hx hb dX11_person_2 (by decide) ?_
  refine scall_i (rest := []) XX I hl.1 (c_S_within l G OK x1 (0 : Int32) (5 : Int32) _ rfl) kS_X11_103 rfl rfl (Nat.le_of_ble_eq_true rfl) ⟨rfl, rfl, Nat.le_of_ble_eq_true rfl, Nat.le_of_ble_eq_true rfl⟩ ⟨Nat.zero_le _, Nat.zero_le _⟩ dX11_person_3 (fun H locs hz1 I => ?_)
  refine lv_if_eq (tgt := 20) hx hb dX11_person_6 (by decide) (fun c1 => ?_) (fun c1 => ?_)
  · replace h := if_t h c1
    refine lv_iconst (v := (-1)) hx hb dX11_person_20 (by decide) ?_
    obtain ⟨rfl, rfl⟩ := some2 h
    exact e_i rfl XX hr I rfl dX11_person_21
  · replace h := if_f h c1
    refine lv_iload_n hx hb dX11_person_9 rfl (lv_at hl 2 rfl) ?_
    refine lv_iconst (v := 0) hx hb dX11_person_10 (by decide) ?_
    refine lv_sipush (v := 255) hx hb dX11_person_11 (by decide) ?_
    refine scall_i (rest := []) XX I hl.1 (c_S_within l G OK x2 (0 : Int32) (255 : Int32) _ rfl) kS_X11_103 rfl rfl (Nat.le_of_ble_eq_true rfl) ⟨rfl, rfl, Nat.le_of_ble_eq_true rfl, Nat.le_of_ble_eq_true rfl⟩ ⟨Nat.zero_le _, Nat.zero_le _⟩ dX11_person_14 (fun H locs hz2 I => ?_)
    refine lv_if_ne (tgt := 22) hx hb dX11_person_17 (by decide) (fun c1 => ?_) (fun c1 => ?_)
    · replace h := if_f h c1
      refine lv_iload_n hx hb dX11_person_22 rfl (lv_at hl 3 rfl) ?_
      refine lv_iconst (v := 0) hx hb dX11_person_23 (by decide) ?_
      refine lv_bipush (v := 99) hx hb dX11_person_24 (by decide) ?_
      refine scall_i (rest := []) XX I hl.1 (c_S_within l G OK x3 (0 : Int32) (99 : Int32) _ rfl) kS_X11_103 rfl rfl (Nat.le_of_ble_eq_true rfl) ⟨rfl, rfl, Nat.le_of_ble_eq_true rfl, Nat.le_of_ble_eq_true rfl⟩ ⟨Nat.zero_le _, Nat.zero_le _⟩ dX11_person_26 (fun H locs hz3 I => ?_)
      refine lv_if_eq (tgt := 43) hx hb dX11_person_29 (by decide) (fun c1 => ?_) (fun c1 => ?_)
      · replace h := if_t h c1
        refine lv_iconst (v := (-1)) hx hb dX11_person_43 (by decide) ?_
        obtain ⟨rfl, rfl⟩ := some2 h
        exact e_i rfl XX hr I rfl dX11_person_44
      · replace h := if_f h c1
        refine lv_iload hx hb dX11_person_32 (lv_at hl 4 rfl) ?_
        refine lv_iconst (v := 0) hx hb dX11_person_34 (by decide) ?_
        refine lv_bipush (v := 9) hx hb dX11_person_35 (by decide) ?_
        refine scall_i (rest := []) XX I hl.1 (c_S_within l G OK x4 (0 : Int32) (9 : Int32) _ rfl) kS_X11_103 rfl rfl (Nat.le_of_ble_eq_true rfl) ⟨rfl, rfl, Nat.le_of_ble_eq_true rfl, Nat.le_of_ble_eq_true rfl⟩ ⟨Nat.zero_le _, Nat.zero_le _⟩ dX11_person_37 (fun H locs hz4 I => ?_)
        refine lv_if_ne (tgt := 45) hx hb dX11_person_40 (by decide) (fun c1 => ?_) (fun c1 => ?_)
        · replace h := if_f h c1
          refine lv_aload_n hx hb dX11_person_45 rfl (lv_at hl 0 rfl) ?_
          refine gO_X11_o0_now XX I dX11_person_46 ?_
          refine gO_X11_o1_people XX I dX11_person_49 ?_
          refine lv_bipush (v := 6) hx hb dX11_person_52 (by decide) ?_
          refine lv_icmp_lt (tgt := 60) hx hb dX11_person_54 (by decide) (fun c1 => ?_) (fun c1 => ?_)
          · replace h := if_t h c1
            refine lv_aload_n hx hb dX11_person_60 rfl (lv_at hl 0 rfl) ?_
            refine gO_X11_o0_now XX I dX11_person_61 ?_
            refine lv_iload_n hx hb dX11_person_64 rfl (lv_at hl 1 rfl) ?_
            refine lv_iload_n hx hb dX11_person_65 rfl (lv_at hl 2 rfl) ?_
            refine lv_iload_n hx hb dX11_person_66 rfl (lv_at hl 3 rfl) ?_
            refine lv_iload hx hb dX11_person_67 (lv_at hl 4 rfl) ?_
            obtain ⟨r5, s6, q7, h⟩ := bd2_some h
            have RC := (Rc.mk XX I (q0 := 32) (ci := 9) rfl rfl)
            replace I : Iv G (va_A (bO G oa na ka aa ra pa sd yd td owa ++ (bV G na nwa ++ (bV G ka kpa ++ (bA G aa wa aha ++ (bV G wa awa ++ (bT G ra ma rda ++ (bV G ma mda ++ (bP G pa tpa ++ (bH G sd hha ++ (bY G yd td tha ++ (bK G td tra ++ []))))))))))) s0.heap.size) s0 _ _ ((bV G na nwa) ++ (bO G oa na ka aa ra pa sd yd td owa ++ (bV G ka kpa ++ (bA G aa wa aha ++ (bV G wa awa ++ (bT G ra ma rda ++ (bV G ma mda ++ (bP G pa tpa ++ (bH G sd hha ++ (bY G yd td tha ++ (bK G td tra ++ []))))))))))) := I.perm ((List.Perm.append_left _ (List.Perm.refl _)).trans (List.perm_append_comm_assoc _ _ _))
            refine call_i (X := []) (wc := (bV G na nwa)) (Y := (bO G oa na ka aa ra pa sd yd td owa ++ (bV G ka kpa ++ (bA G aa wa aha ++ (bV G wa awa ++ (bT G ra ma rda ++ (bV G ma mda ++ (bP G pa tpa ++ (bH G sd hha ++ (bY G yd td tha ++ (bK G td tra ++ []))))))))))) (rest := []) XX I hl.1 (c_V_addPerson l G OK na fu nwa x1 x2 x3 x4 r5 s6 q7) kV_X11_127 RC rfl rfl (Nat.le_of_ble_eq_true rfl) ⟨rfl, rfl, Nat.le_of_ble_eq_true rfl, Nat.le_of_ble_eq_true rfl⟩ ⟨Nat.zero_le _, Nat.zero_le _⟩ dX11_person_69 (fun H locs hz8 I => ?_)
            replace I : Iv G (va_A (bO G oa na ka aa ra pa sd yd td owa ++ (bV G na nwa ++ (bV G ka kpa ++ (bA G aa wa aha ++ (bV G wa awa ++ (bT G ra ma rda ++ (bV G ma mda ++ (bP G pa tpa ++ (bH G sd hha ++ (bY G yd td tha ++ (bK G td tra ++ []))))))))))) s0.heap.size) s0 H locs (bO G oa na ka aa ra pa sd yd td owa ++ (bV G na s6 ++ (bV G ka kpa ++ (bA G aa wa aha ++ (bV G wa awa ++ (bT G ra ma rda ++ (bV G ma mda ++ (bP G pa tpa ++ (bH G sd hha ++ (bY G yd td tha ++ (bK G td tra ++ []))))))))))) := Iv.perm (w := (bV G na s6) ++ (bO G oa na ka aa ra pa sd yd td owa ++ (bV G ka kpa ++ (bA G aa wa aha ++ (bV G wa awa ++ (bT G ra ma rda ++ (bV G ma mda ++ (bP G pa tpa ++ (bH G sd hha ++ (bY G yd td tha ++ (bK G td tra ++ []))))))))))) I (((List.Perm.append_left _ (List.Perm.refl _)).trans (List.perm_append_comm_assoc _ _ _)).symm)
            obtain ⟨rfl, rfl⟩ := some2 h
            exact e_i rfl XX hr I rfl dX11_person_72
          · replace h := if_f h c1
            refine lv_bipush (v := (-2)) hx hb dX11_person_57 (by decide) ?_
            obtain ⟨rfl, rfl⟩ := some2 h
            exact e_i rfl XX hr I rfl dX11_person_59
        · replace h := if_t h c1
          refine lv_iconst (v := (-1)) hx hb dX11_person_43 (by decide) ?_
          obtain ⟨rfl, rfl⟩ := some2 h
          exact e_i rfl XX hr I rfl dX11_person_44
    · replace h := if_t h c1
      refine lv_iconst (v := (-1)) hx hb dX11_person_20 (by decide) ?_
      obtain ⟨rfl, rfl⟩ := some2 h
      exact e_i rfl XX hr I rfl dX11_person_21
set_option maxHeartbeats 4000000 in
set_option maxRecDepth 100000 in
theorem c_O_isPerson (l : Launch) (G : g_G) (OK : EOk G.2.2) (oa : Nat → Nat) (na : Nat → Nat) (ka : Nat → Nat) (aa : Nat → Nat) (wa : Nat → Nat) (ra : Nat → Nat) (ma : Nat → Nat) (pa : Nat → Nat) (sd : Nat → Nat → Nat) (yd : Nat → Nat) (td : Nat → Nat) (owa : g_St) (nwa : g_St) (kpa : g_St) (aha : g_St) (awa : g_St) (rda : g_St) (mda : g_St) (tpa : g_St) (hha : g_Sf) (tha : g_St) (tra : g_St) (x1 : Int32) (r : Int32) (h : f_O_isPerson nwa x1 = r) : HI l G yX11_isPerson (Cond.code yX11_isPerson cX11_isPerson 2 (some .boolean) :: gT) { frames := 0, cells := 0, slots := 0, locals := 0 } .boolean [.ref (oa 0), .int x1] (bO G oa na ka aa ra pa sd yd td owa ++ (bV G na nwa ++ (bV G ka kpa ++ (bA G aa wa aha ++ (bV G wa awa ++ (bT G ra ma rda ++ (bV G ma mda ++ (bP G pa tpa ++ (bH G sd hha ++ (bY G yd td tha ++ (bK G td tra ++ []))))))))))) r (bO G oa na ka aa ra pa sd yd td owa ++ (bV G na nwa ++ (bV G ka kpa ++ (bA G aa wa aha ++ (bV G wa awa ++ (bT G ra ma rda ++ (bV G ma mda ++ (bP G pa tpa ++ (bH G sd hha ++ (bY G yd td tha ++ (bK G td tra ++ []))))))))))) := by
  refine HI.mk (lv := [(0, .ref (oa 0)), (1, .int x1)]) OK (by decide) (Nat.le_of_ble_eq_true rfl) rfl ?_
  intro p e s0 m args below meth c ls XX hr I hl
  have hx := XX.x
  have hb := XX.b
  unfold f_O_isPerson at h
  refine lv_iload_n hx hb dX11_isPerson_0 rfl (lv_at hl 1 rfl) ?_
  refine lv_if_lt (tgt := 19) hx hb dX11_isPerson_1 (by decide) (fun c1 => ?_) (fun c1 => ?_)
  · replace h := if_t h c1
    refine lv_iconst (v := 0) hx hb dX11_isPerson_19 (by decide) ?_
    subst h
    exact e_z XX hr I rfl rfl dX11_isPerson_20
  · replace h := if_f h c1
    refine lv_iload_n hx hb dX11_isPerson_4 rfl (lv_at hl 1 rfl) ?_
    refine lv_aload_n hx hb dX11_isPerson_5 rfl (lv_at hl 0 rfl) ?_
    refine gO_X11_o0_now XX I dX11_isPerson_6 ?_
    refine gO_X11_o1_people XX I dX11_isPerson_9 ?_
    refine lv_icmp_ge (tgt := 19) hx hb dX11_isPerson_12 (by decide) (fun c1 => ?_) (fun c1 => ?_)
    · replace h := if_t h c1
      refine lv_iconst (v := 0) hx hb dX11_isPerson_19 (by decide) ?_
      subst h
      exact e_z XX hr I rfl rfl dX11_isPerson_20
    · replace h := if_f h c1
      refine lv_iconst (v := 1) hx hb dX11_isPerson_15 (by decide) ?_
      refine lv_goto (tgt := 20) hx hb dX11_isPerson_16 (by decide) ?_
      subst h
      exact e_z XX hr I rfl rfl dX11_isPerson_20
set_option maxRecDepth 100000 in
theorem kV_X11_131 : KV RX11 131 RX11 yX11_isPerson cX11_isPerson 2 (some .boolean) 1 := KV.mk wd_495 wd_497 wd_1590 wd_1 wd_498 (by decide +kernel)
set_option maxRecDepth 100000 in
theorem gO_X11_o1_kind {p : Program} {l : Launch} {e : Env} {R : Room} {s0 : State} {m : MethodId} {args : Array Value} {below : List Frame} {meth : Method} {c : Code} {H : Heap} {locs : List Loc} {cells slots : Nat} {Q : State → Prop} {cc : ByteArray} {nL pc : Nat} {ls : Array Slot} {rest : List Value} {G : g_G} {A : Nat → Prop} {oa : Nat → Nat} {na : Nat → Nat} {ka : Nat → Nat} {aa : Nat → Nat} {wa : Nat → Nat} {ra : Nat → Nat} {ma : Nat → Nat} {pa : Nat → Nat} {sd : Nat → Nat → Nat} {yd : Nat → Nat} {td : Nat → Nat} {ow : g_St} {nw : g_St} {kp : g_St} {ah : g_St} {aw : g_St} {rd : g_St} {md : g_St} {tp : g_St} {hh : g_Sf} {th : g_St} {tr : g_St} (XX : Cx G A p s0 m meth c cc nL RX11 args) (I : Iv G A s0 H locs (bO G oa na ka aa ra pa sd yd td ow ++ (bV G na nw ++ (bV G ka kp ++ (bA G aa wa ah ++ (bV G wa aw ++ (bT G ra ma rd ++ (bV G ma md ++ (bP G pa tp ++ (bH G sd hh ++ (bY G yd td th ++ (bK G td tr ++ [])))))))))))) (hdg : decode cc pc = .ok (.getfield 135, 3)) (kk : W p l e R s0 m args below meth c H locs cells slots Q (F0 m (pc + 3) ls (.ref (na 2) :: rest))) : W p l e R s0 m args below meth c H locs cells slots Q (F0 m pc ls (.ref (na 0) :: rest)) := r_get kfX9 XX I 32 rfl 1 (Nat.le_of_ble_eq_true rfl) wd_42 rfl hdg kk
set_option maxRecDepth 100000 in
theorem aO_kind1 {G : g_G} {oa : Nat → Nat} {na : Nat → Nat} {ka : Nat → Nat} {aa : Nat → Nat} {wa : Nat → Nat} {ra : Nat → Nat} {ma : Nat → Nat} {pa : Nat → Nat} {sd : Nat → Nat → Nat} {yd : Nat → Nat} {td : Nat → Nat} {ow : g_St} {nw : g_St} {kp : g_St} {ah : g_St} {aw : g_St} {rd : g_St} {md : g_St} {tp : g_St} {hh : g_Sf} {th : g_St} {tr : g_St} : (bO G oa na ka aa ra pa sd yd td ow ++ (bV G na nw ++ (bV G ka kp ++ (bA G aa wa ah ++ (bV G wa aw ++ (bT G ra ma rd ++ (bV G ma md ++ (bP G pa tp ++ (bH G sd hh ++ (bY G yd td th ++ (bK G td tr ++ [])))))))))))[33]? = some (na 2, .inl (G.2.1 0, 6, .inl (gr nw 1))) := rfl
set_option maxRecDepth 100000 in
theorem sO_kind1 {G : g_G} {oa : Nat → Nat} {na : Nat → Nat} {ka : Nat → Nat} {aa : Nat → Nat} {wa : Nat → Nat} {ra : Nat → Nat} {ma : Nat → Nat} {pa : Nat → Nat} {sd : Nat → Nat → Nat} {yd : Nat → Nat} {td : Nat → Nat} {ow : g_St} {nw : g_St} {kp : g_St} {ah : g_St} {aw : g_St} {rd : g_St} {md : g_St} {tp : g_St} {hh : g_Sf} {th : g_St} {tr : g_St} {i : Int32} {x : Int32} : (bO G oa na ka aa ra pa sd yd td ow ++ (bV G na nw ++ (bV G ka kp ++ (bA G aa wa ah ++ (bV G wa aw ++ (bT G ra ma rd ++ (bV G ma md ++ (bP G pa tp ++ (bH G sd hh ++ (bY G yd td th ++ (bK G td tr ++ []))))))))))).set 33 (na 2, .inl (G.2.1 0, 6, .inl (upd (gr nw 1) i.toNatClampNeg x))) = (bO G oa na ka aa ra pa sd yd td ow ++ (bV G na (sr nw 1 i x) ++ (bV G ka kp ++ (bA G aa wa ah ++ (bV G wa aw ++ (bT G ra ma rd ++ (bV G ma md ++ (bP G pa tp ++ (bH G sd hh ++ (bY G yd td th ++ (bK G td tr ++ []))))))))))) := rfl
set_option maxRecDepth 100000 in
theorem gO_X11_o1_a {p : Program} {l : Launch} {e : Env} {R : Room} {s0 : State} {m : MethodId} {args : Array Value} {below : List Frame} {meth : Method} {c : Code} {H : Heap} {locs : List Loc} {cells slots : Nat} {Q : State → Prop} {cc : ByteArray} {nL pc : Nat} {ls : Array Slot} {rest : List Value} {G : g_G} {A : Nat → Prop} {oa : Nat → Nat} {na : Nat → Nat} {ka : Nat → Nat} {aa : Nat → Nat} {wa : Nat → Nat} {ra : Nat → Nat} {ma : Nat → Nat} {pa : Nat → Nat} {sd : Nat → Nat → Nat} {yd : Nat → Nat} {td : Nat → Nat} {ow : g_St} {nw : g_St} {kp : g_St} {ah : g_St} {aw : g_St} {rd : g_St} {md : g_St} {tp : g_St} {hh : g_Sf} {th : g_St} {tr : g_St} (XX : Cx G A p s0 m meth c cc nL RX11 args) (I : Iv G A s0 H locs (bO G oa na ka aa ra pa sd yd td ow ++ (bV G na nw ++ (bV G ka kp ++ (bA G aa wa ah ++ (bV G wa aw ++ (bT G ra ma rd ++ (bV G ma md ++ (bP G pa tp ++ (bH G sd hh ++ (bY G yd td th ++ (bK G td tr ++ [])))))))))))) (hdg : decode cc pc = .ok (.getfield 138, 3)) (kk : W p l e R s0 m args below meth c H locs cells slots Q (F0 m (pc + 3) ls (.ref (na 3) :: rest))) : W p l e R s0 m args below meth c H locs cells slots Q (F0 m pc ls (.ref (na 0) :: rest)) := r_get kfX9 XX I 32 rfl 2 (Nat.le_of_ble_eq_true rfl) wd_45 rfl hdg kk
set_option maxRecDepth 100000 in
theorem aO_a1 {G : g_G} {oa : Nat → Nat} {na : Nat → Nat} {ka : Nat → Nat} {aa : Nat → Nat} {wa : Nat → Nat} {ra : Nat → Nat} {ma : Nat → Nat} {pa : Nat → Nat} {sd : Nat → Nat → Nat} {yd : Nat → Nat} {td : Nat → Nat} {ow : g_St} {nw : g_St} {kp : g_St} {ah : g_St} {aw : g_St} {rd : g_St} {md : g_St} {tp : g_St} {hh : g_Sf} {th : g_St} {tr : g_St} : (bO G oa na ka aa ra pa sd yd td ow ++ (bV G na nw ++ (bV G ka kp ++ (bA G aa wa ah ++ (bV G wa aw ++ (bT G ra ma rd ++ (bV G ma md ++ (bP G pa tp ++ (bH G sd hh ++ (bY G yd td th ++ (bK G td tr ++ [])))))))))))[34]? = some (na 3, .inl (G.2.1 0, 6, .inl (gr nw 2))) := rfl
set_option maxRecDepth 100000 in
theorem sO_a1 {G : g_G} {oa : Nat → Nat} {na : Nat → Nat} {ka : Nat → Nat} {aa : Nat → Nat} {wa : Nat → Nat} {ra : Nat → Nat} {ma : Nat → Nat} {pa : Nat → Nat} {sd : Nat → Nat → Nat} {yd : Nat → Nat} {td : Nat → Nat} {ow : g_St} {nw : g_St} {kp : g_St} {ah : g_St} {aw : g_St} {rd : g_St} {md : g_St} {tp : g_St} {hh : g_Sf} {th : g_St} {tr : g_St} {i : Int32} {x : Int32} : (bO G oa na ka aa ra pa sd yd td ow ++ (bV G na nw ++ (bV G ka kp ++ (bA G aa wa ah ++ (bV G wa aw ++ (bT G ra ma rd ++ (bV G ma md ++ (bP G pa tp ++ (bH G sd hh ++ (bY G yd td th ++ (bK G td tr ++ []))))))))))).set 34 (na 3, .inl (G.2.1 0, 6, .inl (upd (gr nw 2) i.toNatClampNeg x))) = (bO G oa na ka aa ra pa sd yd td ow ++ (bV G na (sr nw 2 i x) ++ (bV G ka kp ++ (bA G aa wa ah ++ (bV G wa aw ++ (bT G ra ma rd ++ (bV G ma md ++ (bP G pa tp ++ (bH G sd hh ++ (bY G yd td th ++ (bK G td tr ++ []))))))))))) := rfl
set_option maxRecDepth 100000 in
theorem gO_X11_o1_age {p : Program} {l : Launch} {e : Env} {R : Room} {s0 : State} {m : MethodId} {args : Array Value} {below : List Frame} {meth : Method} {c : Code} {H : Heap} {locs : List Loc} {cells slots : Nat} {Q : State → Prop} {cc : ByteArray} {nL pc : Nat} {ls : Array Slot} {rest : List Value} {G : g_G} {A : Nat → Prop} {oa : Nat → Nat} {na : Nat → Nat} {ka : Nat → Nat} {aa : Nat → Nat} {wa : Nat → Nat} {ra : Nat → Nat} {ma : Nat → Nat} {pa : Nat → Nat} {sd : Nat → Nat → Nat} {yd : Nat → Nat} {td : Nat → Nat} {ow : g_St} {nw : g_St} {kp : g_St} {ah : g_St} {aw : g_St} {rd : g_St} {md : g_St} {tp : g_St} {hh : g_Sf} {th : g_St} {tr : g_St} (XX : Cx G A p s0 m meth c cc nL RX11 args) (I : Iv G A s0 H locs (bO G oa na ka aa ra pa sd yd td ow ++ (bV G na nw ++ (bV G ka kp ++ (bA G aa wa ah ++ (bV G wa aw ++ (bT G ra ma rd ++ (bV G ma md ++ (bP G pa tp ++ (bH G sd hh ++ (bY G yd td th ++ (bK G td tr ++ [])))))))))))) (hdg : decode cc pc = .ok (.getfield 141, 3)) (kk : W p l e R s0 m args below meth c H locs cells slots Q (F0 m (pc + 3) ls (.ref (na 4) :: rest))) : W p l e R s0 m args below meth c H locs cells slots Q (F0 m pc ls (.ref (na 0) :: rest)) := r_get kfX9 XX I 32 rfl 3 (Nat.le_of_ble_eq_true rfl) wd_48 rfl hdg kk
set_option maxRecDepth 100000 in
theorem aO_age1 {G : g_G} {oa : Nat → Nat} {na : Nat → Nat} {ka : Nat → Nat} {aa : Nat → Nat} {wa : Nat → Nat} {ra : Nat → Nat} {ma : Nat → Nat} {pa : Nat → Nat} {sd : Nat → Nat → Nat} {yd : Nat → Nat} {td : Nat → Nat} {ow : g_St} {nw : g_St} {kp : g_St} {ah : g_St} {aw : g_St} {rd : g_St} {md : g_St} {tp : g_St} {hh : g_Sf} {th : g_St} {tr : g_St} : (bO G oa na ka aa ra pa sd yd td ow ++ (bV G na nw ++ (bV G ka kp ++ (bA G aa wa ah ++ (bV G wa aw ++ (bT G ra ma rd ++ (bV G ma md ++ (bP G pa tp ++ (bH G sd hh ++ (bY G yd td th ++ (bK G td tr ++ [])))))))))))[35]? = some (na 4, .inl (G.2.1 0, 6, .inl (gr nw 3))) := rfl
set_option maxRecDepth 100000 in
theorem sO_age1 {G : g_G} {oa : Nat → Nat} {na : Nat → Nat} {ka : Nat → Nat} {aa : Nat → Nat} {wa : Nat → Nat} {ra : Nat → Nat} {ma : Nat → Nat} {pa : Nat → Nat} {sd : Nat → Nat → Nat} {yd : Nat → Nat} {td : Nat → Nat} {ow : g_St} {nw : g_St} {kp : g_St} {ah : g_St} {aw : g_St} {rd : g_St} {md : g_St} {tp : g_St} {hh : g_Sf} {th : g_St} {tr : g_St} {i : Int32} {x : Int32} : (bO G oa na ka aa ra pa sd yd td ow ++ (bV G na nw ++ (bV G ka kp ++ (bA G aa wa ah ++ (bV G wa aw ++ (bT G ra ma rd ++ (bV G ma md ++ (bP G pa tp ++ (bH G sd hh ++ (bY G yd td th ++ (bK G td tr ++ []))))))))))).set 35 (na 4, .inl (G.2.1 0, 6, .inl (upd (gr nw 3) i.toNatClampNeg x))) = (bO G oa na ka aa ra pa sd yd td ow ++ (bV G na (sr nw 3 i x) ++ (bV G ka kp ++ (bA G aa wa ah ++ (bV G wa aw ++ (bT G ra ma rd ++ (bV G ma md ++ (bP G pa tp ++ (bH G sd hh ++ (bY G yd td th ++ (bK G td tr ++ []))))))))))) := rfl
set_option maxRecDepth 100000 in
theorem gO_X11_o1_noes {p : Program} {l : Launch} {e : Env} {R : Room} {s0 : State} {m : MethodId} {args : Array Value} {below : List Frame} {meth : Method} {c : Code} {H : Heap} {locs : List Loc} {cells slots : Nat} {Q : State → Prop} {cc : ByteArray} {nL pc : Nat} {ls : Array Slot} {rest : List Value} {G : g_G} {A : Nat → Prop} {oa : Nat → Nat} {na : Nat → Nat} {ka : Nat → Nat} {aa : Nat → Nat} {wa : Nat → Nat} {ra : Nat → Nat} {ma : Nat → Nat} {pa : Nat → Nat} {sd : Nat → Nat → Nat} {yd : Nat → Nat} {td : Nat → Nat} {ow : g_St} {nw : g_St} {kp : g_St} {ah : g_St} {aw : g_St} {rd : g_St} {md : g_St} {tp : g_St} {hh : g_Sf} {th : g_St} {tr : g_St} (XX : Cx G A p s0 m meth c cc nL RX11 args) (I : Iv G A s0 H locs (bO G oa na ka aa ra pa sd yd td ow ++ (bV G na nw ++ (bV G ka kp ++ (bA G aa wa ah ++ (bV G wa aw ++ (bT G ra ma rd ++ (bV G ma md ++ (bP G pa tp ++ (bH G sd hh ++ (bY G yd td th ++ (bK G td tr ++ [])))))))))))) (hdg : decode cc pc = .ok (.getfield 144, 3)) (kk : W p l e R s0 m args below meth c H locs cells slots Q (F0 m (pc + 3) ls (.ref (na 5) :: rest))) : W p l e R s0 m args below meth c H locs cells slots Q (F0 m pc ls (.ref (na 0) :: rest)) := r_get kfX9 XX I 32 rfl 4 (Nat.le_of_ble_eq_true rfl) wd_50 rfl hdg kk
set_option maxRecDepth 100000 in
theorem aO_noes1 {G : g_G} {oa : Nat → Nat} {na : Nat → Nat} {ka : Nat → Nat} {aa : Nat → Nat} {wa : Nat → Nat} {ra : Nat → Nat} {ma : Nat → Nat} {pa : Nat → Nat} {sd : Nat → Nat → Nat} {yd : Nat → Nat} {td : Nat → Nat} {ow : g_St} {nw : g_St} {kp : g_St} {ah : g_St} {aw : g_St} {rd : g_St} {md : g_St} {tp : g_St} {hh : g_Sf} {th : g_St} {tr : g_St} : (bO G oa na ka aa ra pa sd yd td ow ++ (bV G na nw ++ (bV G ka kp ++ (bA G aa wa ah ++ (bV G wa aw ++ (bT G ra ma rd ++ (bV G ma md ++ (bP G pa tp ++ (bH G sd hh ++ (bY G yd td th ++ (bK G td tr ++ [])))))))))))[36]? = some (na 5, .inl (G.2.1 0, 6, .inl (gr nw 4))) := rfl
set_option maxRecDepth 100000 in
theorem sO_noes1 {G : g_G} {oa : Nat → Nat} {na : Nat → Nat} {ka : Nat → Nat} {aa : Nat → Nat} {wa : Nat → Nat} {ra : Nat → Nat} {ma : Nat → Nat} {pa : Nat → Nat} {sd : Nat → Nat → Nat} {yd : Nat → Nat} {td : Nat → Nat} {ow : g_St} {nw : g_St} {kp : g_St} {ah : g_St} {aw : g_St} {rd : g_St} {md : g_St} {tp : g_St} {hh : g_Sf} {th : g_St} {tr : g_St} {i : Int32} {x : Int32} : (bO G oa na ka aa ra pa sd yd td ow ++ (bV G na nw ++ (bV G ka kp ++ (bA G aa wa ah ++ (bV G wa aw ++ (bT G ra ma rd ++ (bV G ma md ++ (bP G pa tp ++ (bH G sd hh ++ (bY G yd td th ++ (bK G td tr ++ []))))))))))).set 36 (na 5, .inl (G.2.1 0, 6, .inl (upd (gr nw 4) i.toNatClampNeg x))) = (bO G oa na ka aa ra pa sd yd td ow ++ (bV G na (sr nw 4 i x) ++ (bV G ka kp ++ (bA G aa wa ah ++ (bV G wa aw ++ (bT G ra ma rd ++ (bV G ma md ++ (bP G pa tp ++ (bH G sd hh ++ (bY G yd td th ++ (bK G td tr ++ []))))))))))) := rfl
set_option maxHeartbeats 4000000 in
set_option maxRecDepth 100000 in
theorem c_O_personOf (l : Launch) (G : g_G) (OK : EOk G.2.2) (oa : Nat → Nat) (na : Nat → Nat) (ka : Nat → Nat) (aa : Nat → Nat) (wa : Nat → Nat) (ra : Nat → Nat) (ma : Nat → Nat) (pa : Nat → Nat) (sd : Nat → Nat → Nat) (yd : Nat → Nat) (td : Nat → Nat) (owa : g_St) (nwa : g_St) (kpa : g_St) (aha : g_St) (awa : g_St) (rda : g_St) (mda : g_St) (tpa : g_St) (hha : g_Sf) (tha : g_St) (tra : g_St) (x1 : Int32) (x2 : Int32) (r : Int32) (h : f_O_personOf nwa x1 x2 = some r) : HI l G yX11_personOf (Cond.code yX11_personOf cX11_personOf 3 (some .int) :: gT) { frames := 1, cells := 0, slots := 0, locals := 21 } .int [.ref (oa 0), .int x1, .int x2] (bO G oa na ka aa ra pa sd yd td owa ++ (bV G na nwa ++ (bV G ka kpa ++ (bA G aa wa aha ++ (bV G wa awa ++ (bT G ra ma rda ++ (bV G ma mda ++ (bP G pa tpa ++ (bH G sd hha ++ (bY G yd td tha ++ (bK G td tra ++ []))))))))))) r (bO G oa na ka aa ra pa sd yd td owa ++ (bV G na nwa ++ (bV G ka kpa ++ (bA G aa wa aha ++ (bV G wa awa ++ (bT G ra ma rda ++ (bV G ma mda ++ (bP G pa tpa ++ (bH G sd hha ++ (bY G yd td tha ++ (bK G td tra ++ []))))))))))) := by
  refine HI.mk (lv := [(0, .ref (oa 0)), (1, .int x1), (2, .int x2)]) OK (by decide) (Nat.le_of_ble_eq_true rfl) rfl ?_
  intro p e s0 m args below meth c ls XX hr I hl
  have hx := XX.x
  have hb := XX.b
  unfold f_O_personOf at h
  refine lv_aload_n hx hb dX11_personOf_0 rfl (lv_at hl 0 rfl) ?_
  refine lv_iload_n hx hb dX11_personOf_1 rfl (lv_at hl 1 rfl) ?_
  refine wcall_i (rest := []) XX I hl.1 (c_O_isPerson l G OK oa na ka aa wa ra ma pa sd yd td owa nwa kpa aha awa rda mda tpa hha tha tra x1 _ rfl) kV_X11_131 (Rc.mk XX I (q0 := 0) (ci := 11) rfl rfl) rfl rfl (Nat.le_of_ble_eq_true rfl) ⟨rfl, rfl, Nat.le_of_ble_eq_true rfl, Nat.le_of_ble_eq_true rfl⟩ ⟨Nat.zero_le _, Nat.zero_le _⟩ dX11_personOf_2 (fun H locs hz1 I => ?_)
  refine lv_if_ne (tgt := 10) hx hb dX11_personOf_5 (by decide) (fun c1 => ?_) (fun c1 => ?_)
  · replace h := if_f h c1
    refine lv_iload_n hx hb dX11_personOf_10 rfl (lv_at hl 2 rfl) ?_
    by_cases q0 : x2 = (0 : Int32)
    · replace h := if_t h q0
      refine lv_tableIn (tgt := 40) (off := 29) hx hb dX11_personOf_11 (by rw [q0]; decide) (by rw [q0]; decide) (by rw [q0]; rfl) (by decide) ?_
      refine lv_aload_n hx hb dX11_personOf_40 rfl (lv_at hl 0 rfl) ?_
      refine gO_X11_o0_now XX I dX11_personOf_41 ?_
      refine gO_X11_o1_kind XX I dX11_personOf_44 ?_
      refine lv_iload_n hx hb dX11_personOf_47 rfl (lv_at hl 1 rfl) ?_
      obtain ⟨g2, h⟩ := gd_some h
      refine r_iald XX I 33 (aO_kind1) g2 dX11_personOf_48 ?_
      obtain rfl := some1 h
      exact e_i rfl XX hr I rfl dX11_personOf_49
    replace h := if_f h q0
    by_cases q1 : x2 = (1 : Int32)
    · replace h := if_t h q1
      refine lv_tableIn (tgt := 50) (off := 39) hx hb dX11_personOf_11 (by rw [q1]; decide) (by rw [q1]; decide) (by rw [q1]; rfl) (by decide) ?_
      refine lv_aload_n hx hb dX11_personOf_50 rfl (lv_at hl 0 rfl) ?_
      refine gO_X11_o0_now XX I dX11_personOf_51 ?_
      refine gO_X11_o1_a XX I dX11_personOf_54 ?_
      refine lv_iload_n hx hb dX11_personOf_57 rfl (lv_at hl 1 rfl) ?_
      obtain ⟨g3, h⟩ := gd_some h
      refine r_iald XX I 34 (aO_a1) g3 dX11_personOf_58 ?_
      obtain rfl := some1 h
      exact e_i rfl XX hr I rfl dX11_personOf_59
    replace h := if_f h q1
    by_cases q2 : x2 = (2 : Int32)
    · replace h := if_t h q2
      refine lv_tableIn (tgt := 60) (off := 49) hx hb dX11_personOf_11 (by rw [q2]; decide) (by rw [q2]; decide) (by rw [q2]; rfl) (by decide) ?_
      refine lv_aload_n hx hb dX11_personOf_60 rfl (lv_at hl 0 rfl) ?_
      refine gO_X11_o0_now XX I dX11_personOf_61 ?_
      refine gO_X11_o1_age XX I dX11_personOf_64 ?_
      refine lv_iload_n hx hb dX11_personOf_67 rfl (lv_at hl 1 rfl) ?_
      obtain ⟨g4, h⟩ := gd_some h
      refine r_iald XX I 35 (aO_age1) g4 dX11_personOf_68 ?_
      obtain rfl := some1 h
      exact e_i rfl XX hr I rfl dX11_personOf_69
    replace h := if_f h q2
    by_cases q3 : x2 = (3 : Int32)
    · replace h := if_t h q3
      refine lv_tableIn (tgt := 70) (off := 59) hx hb dX11_personOf_11 (by rw [q3]; decide) (by rw [q3]; decide) (by rw [q3]; rfl) (by decide) ?_
      refine lv_aload_n hx hb dX11_personOf_70 rfl (lv_at hl 0 rfl) ?_
      refine gO_X11_o0_now XX I dX11_personOf_71 ?_
      refine gO_X11_o1_noes XX I dX11_personOf_74 ?_
      refine lv_iload_n hx hb dX11_personOf_77 rfl (lv_at hl 1 rfl) ?_
      obtain ⟨g5, h⟩ := gd_some h
      refine r_iald XX I 36 (aO_noes1) g5 dX11_personOf_78 ?_
      obtain rfl := some1 h
      exact e_i rfl XX hr I rfl dX11_personOf_79
    replace h := if_f h q3
    refine lv_tableOut (tgt := 80) hx hb dX11_personOf_11 (tab_out (lo := 0) (hi := 3) (fun k k1 k2 => by rcases (show k = 0 ∨ k = 1 ∨ k = 2 ∨ k = 3 by omega) with rfl | rfl | rfl | rfl <;> assumption)) (by decide) ?_
    refine lv_iconst (v := (-1)) hx hb dX11_personOf_80 (by decide) ?_
    obtain rfl := some1 h
    exact e_i rfl XX hr I rfl dX11_personOf_81
  · replace h := if_t h c1
    refine lv_iconst (v := (-1)) hx hb dX11_personOf_8 (by decide) ?_
    obtain rfl := some1 h
    exact e_i rfl XX hr I rfl dX11_personOf_9
set_option maxRecDepth 100000 in
theorem kV_X11_147 : KV RX11 147 RX9 yX9_removePerson cX9_removePerson 4 none 1 := KV.mk wd_503 wd_504 wd_505 wd_2 wd_506 (by decide +kernel)
set_option maxHeartbeats 4000000 in
set_option maxRecDepth 100000 in
theorem c_O_leave (l : Launch) (G : g_G) (OK : EOk G.2.2) (oa : Nat → Nat) (na : Nat → Nat) (ka : Nat → Nat) (aa : Nat → Nat) (wa : Nat → Nat) (ra : Nat → Nat) (ma : Nat → Nat) (pa : Nat → Nat) (sd : Nat → Nat → Nat) (yd : Nat → Nat) (td : Nat → Nat) (fu : Nat) (owa : g_St) (nwa : g_St) (kpa : g_St) (aha : g_St) (awa : g_St) (rda : g_St) (mda : g_St) (tpa : g_St) (hha : g_Sf) (tha : g_St) (tra : g_St) (x1 : Int32) (r : Int32) (tnw : g_St) (h : f_O_leave fu nwa x1 = some (r, tnw)) : HI l G yX11_leave (Cond.code yX11_leave cX11_leave 2 (some .int) :: gT) { frames := 2, cells := 0, slots := 0, locals := 83 } .int [.ref (oa 0), .int x1] (bO G oa na ka aa ra pa sd yd td owa ++ (bV G na nwa ++ (bV G ka kpa ++ (bA G aa wa aha ++ (bV G wa awa ++ (bT G ra ma rda ++ (bV G ma mda ++ (bP G pa tpa ++ (bH G sd hha ++ (bY G yd td tha ++ (bK G td tra ++ []))))))))))) r (bO G oa na ka aa ra pa sd yd td owa ++ (bV G na tnw ++ (bV G ka kpa ++ (bA G aa wa aha ++ (bV G wa awa ++ (bT G ra ma rda ++ (bV G ma mda ++ (bP G pa tpa ++ (bH G sd hha ++ (bY G yd td tha ++ (bK G td tra ++ []))))))))))) := by
  refine HI.mk (lv := [(0, .ref (oa 0)), (1, .int x1)]) OK (by decide) (Nat.le_of_ble_eq_true rfl) rfl ?_
  intro p e s0 m args below meth c ls XX hr I hl
  have hx := XX.x
  have hb := XX.b
  unfold f_O_leave at h
  refine lv_aload_n hx hb dX11_leave_0 rfl (lv_at hl 0 rfl) ?_
  refine lv_iload_n hx hb dX11_leave_1 rfl (lv_at hl 1 rfl) ?_
  refine wcall_i (rest := []) XX I hl.1 (c_O_isPerson l G OK oa na ka aa wa ra ma pa sd yd td owa nwa kpa aha awa rda mda tpa hha tha tra x1 _ rfl) kV_X11_131 (Rc.mk XX I (q0 := 0) (ci := 11) rfl rfl) rfl rfl (Nat.le_of_ble_eq_true rfl) ⟨rfl, rfl, Nat.le_of_ble_eq_true rfl, Nat.le_of_ble_eq_true rfl⟩ ⟨Nat.zero_le _, Nat.zero_le _⟩ dX11_leave_2 (fun H locs hz1 I => ?_)
  refine lv_if_ne (tgt := 10) hx hb dX11_leave_5 (by decide) (fun c1 => ?_) (fun c1 => ?_)
  · replace h := if_f h c1
    refine lv_aload_n hx hb dX11_leave_10 rfl (lv_at hl 0 rfl) ?_
    refine gO_X11_o0_now XX I dX11_leave_11 ?_
    refine lv_iload_n hx hb dX11_leave_14 rfl (lv_at hl 1 rfl) ?_
    obtain ⟨s2, q3, h⟩ := bd1_some h
    have RC := (Rc.mk XX I (q0 := 32) (ci := 9) rfl rfl)
    replace I : Iv G (va_A (bO G oa na ka aa ra pa sd yd td owa ++ (bV G na nwa ++ (bV G ka kpa ++ (bA G aa wa aha ++ (bV G wa awa ++ (bT G ra ma rda ++ (bV G ma mda ++ (bP G pa tpa ++ (bH G sd hha ++ (bY G yd td tha ++ (bK G td tra ++ []))))))))))) s0.heap.size) s0 _ _ ((bV G na nwa) ++ (bO G oa na ka aa ra pa sd yd td owa ++ (bV G ka kpa ++ (bA G aa wa aha ++ (bV G wa awa ++ (bT G ra ma rda ++ (bV G ma mda ++ (bP G pa tpa ++ (bH G sd hha ++ (bY G yd td tha ++ (bK G td tra ++ []))))))))))) := I.perm ((List.Perm.append_left _ (List.Perm.refl _)).trans (List.perm_append_comm_assoc _ _ _))
    refine call_v (X := []) (wc := (bV G na nwa)) (Y := (bO G oa na ka aa ra pa sd yd td owa ++ (bV G ka kpa ++ (bA G aa wa aha ++ (bV G wa awa ++ (bT G ra ma rda ++ (bV G ma mda ++ (bP G pa tpa ++ (bH G sd hha ++ (bY G yd td tha ++ (bK G td tra ++ []))))))))))) (rest := []) XX I hl.1 (c_V_removePerson l G OK na fu nwa x1 s2 q3) kV_X11_147 RC rfl rfl (Nat.le_of_ble_eq_true rfl) ⟨rfl, rfl, Nat.le_of_ble_eq_true rfl, Nat.le_of_ble_eq_true rfl⟩ ⟨Nat.zero_le _, Nat.zero_le _⟩ dX11_leave_15 (fun H locs I => ?_)
    replace I : Iv G (va_A (bO G oa na ka aa ra pa sd yd td owa ++ (bV G na nwa ++ (bV G ka kpa ++ (bA G aa wa aha ++ (bV G wa awa ++ (bT G ra ma rda ++ (bV G ma mda ++ (bP G pa tpa ++ (bH G sd hha ++ (bY G yd td tha ++ (bK G td tra ++ []))))))))))) s0.heap.size) s0 H locs (bO G oa na ka aa ra pa sd yd td owa ++ (bV G na s2 ++ (bV G ka kpa ++ (bA G aa wa aha ++ (bV G wa awa ++ (bT G ra ma rda ++ (bV G ma mda ++ (bP G pa tpa ++ (bH G sd hha ++ (bY G yd td tha ++ (bK G td tra ++ []))))))))))) := Iv.perm (w := (bV G na s2) ++ (bO G oa na ka aa ra pa sd yd td owa ++ (bV G ka kpa ++ (bA G aa wa aha ++ (bV G wa awa ++ (bT G ra ma rda ++ (bV G ma mda ++ (bP G pa tpa ++ (bH G sd hha ++ (bY G yd td tha ++ (bK G td tra ++ []))))))))))) I (((List.Perm.append_left _ (List.Perm.refl _)).trans (List.perm_append_comm_assoc _ _ _)).symm)
    refine lv_aload_n hx hb dX11_leave_18 rfl (lv_at hl 0 rfl) ?_
    refine gO_X11_o0_now XX I dX11_leave_19 ?_
    refine gO_X11_o1_people XX I dX11_leave_22 ?_
    obtain ⟨rfl, rfl⟩ := some2 h
    exact e_i rfl XX hr I rfl dX11_leave_25
  · replace h := if_t h c1
    refine lv_iconst (v := (-1)) hx hb dX11_leave_8 (by decide) ?_
    obtain ⟨rfl, rfl⟩ := some2 h
    exact e_i rfl XX hr I rfl dX11_leave_9
set_option maxHeartbeats 4000000 in
set_option maxRecDepth 100000 in
theorem c_O_mind (l : Launch) (G : g_G) (OK : EOk G.2.2) (oa : Nat → Nat) (na : Nat → Nat) (ka : Nat → Nat) (aa : Nat → Nat) (wa : Nat → Nat) (ra : Nat → Nat) (ma : Nat → Nat) (pa : Nat → Nat) (sd : Nat → Nat → Nat) (yd : Nat → Nat) (td : Nat → Nat) (owa : g_St) (nwa : g_St) (kpa : g_St) (aha : g_St) (awa : g_St) (rda : g_St) (mda : g_St) (tpa : g_St) (hha : g_Sf) (tha : g_St) (tra : g_St) (x1 : Int32) (x2 : Int32) (x3 : Int32) (r : Int32) (tnw : g_St) (h : f_O_mind nwa x1 x2 x3 = some (r, tnw)) : HI l G yX11_mind (Cond.code yX11_mind cX11_mind 5 (some .int) :: gT) { frames := 1, cells := 0, slots := 0, locals := 22 } .int [.ref (oa 0), .int x1, .int x2, .int x3] (bO G oa na ka aa ra pa sd yd td owa ++ (bV G na nwa ++ (bV G ka kpa ++ (bA G aa wa aha ++ (bV G wa awa ++ (bT G ra ma rda ++ (bV G ma mda ++ (bP G pa tpa ++ (bH G sd hha ++ (bY G yd td tha ++ (bK G td tra ++ []))))))))))) r (bO G oa na ka aa ra pa sd yd td owa ++ (bV G na tnw ++ (bV G ka kpa ++ (bA G aa wa aha ++ (bV G wa awa ++ (bT G ra ma rda ++ (bV G ma mda ++ (bP G pa tpa ++ (bH G sd hha ++ (bY G yd td tha ++ (bK G td tra ++ []))))))))))) := by
  refine HI.mk (lv := [(0, .ref (oa 0)), (1, .int x1), (2, .int x2), (3, .int x3)]) OK (by decide) (Nat.le_of_ble_eq_true rfl) rfl ?_
  intro p e s0 m args below meth c ls XX hr I hl
  have hx := XX.x
  have hb := XX.b
  unfold f_O_mind at h
  refine lv_aload_n hx hb dX11_mind_0 rfl (lv_at hl 0 rfl) ?_
  refine lv_iload_n hx hb dX11_mind_1 rfl (lv_at hl 1 rfl) ?_
  refine wcall_i (rest := []) XX I hl.1 (c_O_isPerson l G OK oa na ka aa wa ra ma pa sd yd td owa nwa kpa aha awa rda mda tpa hha tha tra x1 _ rfl) kV_X11_131 (Rc.mk XX I (q0 := 0) (ci := 11) rfl rfl) rfl rfl (Nat.le_of_ble_eq_true rfl) ⟨rfl, rfl, Nat.le_of_ble_eq_true rfl, Nat.le_of_ble_eq_true rfl⟩ ⟨Nat.zero_le _, Nat.zero_le _⟩ dX11_mind_2 (fun H locs hz1 I => ?_)
  refine lv_if_eq (tgt := 28) hx hb dX11_mind_5 (by decide) (fun c1 => ?_) (fun c1 => ?_)
  · replace h := if_t h c1
    refine lv_iconst (v := (-1)) hx hb dX11_mind_28 (by decide) ?_
    obtain ⟨rfl, rfl⟩ := some2 h
    exact e_i rfl XX hr I rfl dX11_mind_29
  · replace h := if_f h c1
    refine lv_iload_n hx hb dX11_mind_8 rfl (lv_at hl 2 rfl) ?_
    refine lv_iconst (v := 0) hx hb dX11_mind_9 (by decide) ?_
    refine lv_iconst (v := 5) hx hb dX11_mind_10 (by decide) ?_
    refine scall_i (rest := []) XX I hl.1 (c_S_within l G OK x2 (0 : Int32) (5 : Int32) _ rfl) kS_X11_103 rfl rfl (Nat.le_of_ble_eq_true rfl) ⟨rfl, rfl, Nat.le_of_ble_eq_true rfl, Nat.le_of_ble_eq_true rfl⟩ ⟨Nat.zero_le _, Nat.zero_le _⟩ dX11_mind_11 (fun H locs hz2 I => ?_)
    refine lv_if_eq (tgt := 28) hx hb dX11_mind_14 (by decide) (fun c1 => ?_) (fun c1 => ?_)
    · replace h := if_t h c1
      refine lv_iconst (v := (-1)) hx hb dX11_mind_28 (by decide) ?_
      obtain ⟨rfl, rfl⟩ := some2 h
      exact e_i rfl XX hr I rfl dX11_mind_29
    · replace h := if_f h c1
      refine lv_iload_n hx hb dX11_mind_17 rfl (lv_at hl 3 rfl) ?_
      refine lv_iconst (v := 0) hx hb dX11_mind_18 (by decide) ?_
      refine lv_sipush (v := 255) hx hb dX11_mind_19 (by decide) ?_
      refine scall_i (rest := []) XX I hl.1 (c_S_within l G OK x3 (0 : Int32) (255 : Int32) _ rfl) kS_X11_103 rfl rfl (Nat.le_of_ble_eq_true rfl) ⟨rfl, rfl, Nat.le_of_ble_eq_true rfl, Nat.le_of_ble_eq_true rfl⟩ ⟨Nat.zero_le _, Nat.zero_le _⟩ dX11_mind_22 (fun H locs hz3 I => ?_)
      refine lv_if_ne (tgt := 30) hx hb dX11_mind_25 (by decide) (fun c1 => ?_) (fun c1 => ?_)
      · replace h := if_f h c1
        refine lv_aload_n hx hb dX11_mind_30 rfl (lv_at hl 0 rfl) ?_
        refine gO_X11_o0_now XX I dX11_mind_31 ?_
        refine gO_X11_o1_kind XX I dX11_mind_34 ?_
        refine lv_iload_n hx hb dX11_mind_37 rfl (lv_at hl 1 rfl) ?_
        obtain ⟨g4, h⟩ := gd_some h
        refine r_iald XX I 33 (aO_kind1) g4 dX11_mind_38 ?_
        refine lv_topi (fun y5 ey5 => ?_)
        replace h := lt_e h ey5
        refine lv_istore (lv' := [(4, .int y5), (0, .ref (oa 0)), (1, .int x1), (2, .int x2), (3, .int x3)]) hx hb dX11_mind_39 hl (by decide) rfl (fun ls hl => ?_)
        refine lv_aload_n hx hb dX11_mind_41 rfl (lv_at hl 1 rfl) ?_
        refine gO_X11_o0_now XX I dX11_mind_42 ?_
        refine gO_X11_o1_kind XX I dX11_mind_45 ?_
        refine lv_iload_n hx hb dX11_mind_48 rfl (lv_at hl 2 rfl) ?_
        refine lv_iload_n hx hb dX11_mind_49 rfl (lv_at hl 3 rfl) ?_
        obtain ⟨g6, h⟩ := gd_some h
        refine r_iast XX I 33 (aO_kind1) (sO_kind1) g6 dX11_mind_50 (fun H locs I => ?_)
        obtain ⟨s7, es7⟩ : ∃ z, z = sr nwa 1 x1 x2 := ⟨_, rfl⟩
        replace h := lt_e h es7
        replace I : Iv G (va_A (bO G oa na ka aa ra pa sd yd td owa ++ (bV G na nwa ++ (bV G ka kpa ++ (bA G aa wa aha ++ (bV G wa awa ++ (bT G ra ma rda ++ (bV G ma mda ++ (bP G pa tpa ++ (bH G sd hha ++ (bY G yd td tha ++ (bK G td tra ++ []))))))))))) s0.heap.size) s0 H locs (bO G oa na ka aa ra pa sd yd td owa ++ (bV G na s7 ++ (bV G ka kpa ++ (bA G aa wa aha ++ (bV G wa awa ++ (bT G ra ma rda ++ (bV G ma mda ++ (bP G pa tpa ++ (bH G sd hha ++ (bY G yd td tha ++ (bK G td tra ++ []))))))))))) := by rw [es7]; exact I
        refine lv_aload_n hx hb dX11_mind_51 rfl (lv_at hl 1 rfl) ?_
        refine gO_X11_o0_now XX I dX11_mind_52 ?_
        refine gO_X11_o1_a XX I dX11_mind_55 ?_
        refine lv_iload_n hx hb dX11_mind_58 rfl (lv_at hl 2 rfl) ?_
        refine lv_iload_n hx hb dX11_mind_59 rfl (lv_at hl 4 rfl) ?_
        obtain ⟨g8, h⟩ := gd_some h
        refine r_iast XX I 34 (aO_a1) (sO_a1) g8 dX11_mind_60 (fun H locs I => ?_)
        obtain ⟨s9, es9⟩ : ∃ z, z = sr s7 2 x1 x3 := ⟨_, rfl⟩
        replace h := lt_e h es9
        replace I : Iv G (va_A (bO G oa na ka aa ra pa sd yd td owa ++ (bV G na nwa ++ (bV G ka kpa ++ (bA G aa wa aha ++ (bV G wa awa ++ (bT G ra ma rda ++ (bV G ma mda ++ (bP G pa tpa ++ (bH G sd hha ++ (bY G yd td tha ++ (bK G td tra ++ []))))))))))) s0.heap.size) s0 H locs (bO G oa na ka aa ra pa sd yd td owa ++ (bV G na s9 ++ (bV G ka kpa ++ (bA G aa wa aha ++ (bV G wa awa ++ (bT G ra ma rda ++ (bV G ma mda ++ (bP G pa tpa ++ (bH G sd hha ++ (bY G yd td tha ++ (bK G td tra ++ []))))))))))) := by rw [es9]; exact I
        refine lv_iload hx hb dX11_mind_61 (lv_at hl 0 rfl) ?_
        obtain ⟨rfl, rfl⟩ := some2 h
        exact e_i rfl XX hr I rfl dX11_mind_63
      · replace h := if_t h c1
        refine lv_iconst (v := (-1)) hx hb dX11_mind_28 (by decide) ?_
        obtain ⟨rfl, rfl⟩ := some2 h
        exact e_i rfl XX hr I rfl dX11_mind_29
set_option maxHeartbeats 4000000 in
set_option maxRecDepth 100000 in
theorem c_O_give (l : Launch) (G : g_G) (OK : EOk G.2.2) (oa : Nat → Nat) (na : Nat → Nat) (ka : Nat → Nat) (aa : Nat → Nat) (wa : Nat → Nat) (ra : Nat → Nat) (ma : Nat → Nat) (pa : Nat → Nat) (sd : Nat → Nat → Nat) (yd : Nat → Nat) (td : Nat → Nat) (owa : g_St) (nwa : g_St) (kpa : g_St) (aha : g_St) (awa : g_St) (rda : g_St) (mda : g_St) (tpa : g_St) (hha : g_Sf) (tha : g_St) (tra : g_St) (x1 : Int32) (x2 : Int32) (r : Int32) (tnw : g_St) (h : f_O_give nwa x1 x2 = some (r, tnw)) : HI l G yX11_give (Cond.code yX11_give cX11_give 3 (some .int) :: gT) { frames := 1, cells := 0, slots := 0, locals := 21 } .int [.ref (oa 0), .int x1, .int x2] (bO G oa na ka aa ra pa sd yd td owa ++ (bV G na nwa ++ (bV G ka kpa ++ (bA G aa wa aha ++ (bV G wa awa ++ (bT G ra ma rda ++ (bV G ma mda ++ (bP G pa tpa ++ (bH G sd hha ++ (bY G yd td tha ++ (bK G td tra ++ []))))))))))) r (bO G oa na ka aa ra pa sd yd td owa ++ (bV G na tnw ++ (bV G ka kpa ++ (bA G aa wa aha ++ (bV G wa awa ++ (bT G ra ma rda ++ (bV G ma mda ++ (bP G pa tpa ++ (bH G sd hha ++ (bY G yd td tha ++ (bK G td tra ++ []))))))))))) := by
  refine HI.mk (lv := [(0, .ref (oa 0)), (1, .int x1), (2, .int x2)]) OK (by decide) (Nat.le_of_ble_eq_true rfl) rfl ?_
  intro p e s0 m args below meth c ls XX hr I hl
  have hx := XX.x
  have hb := XX.b
  unfold f_O_give at h
  refine lv_aload_n hx hb dX11_give_0 rfl (lv_at hl 0 rfl) ?_
  refine lv_iload_n hx hb dX11_give_1 rfl (lv_at hl 1 rfl) ?_
  refine wcall_i (rest := []) XX I hl.1 (c_O_isPerson l G OK oa na ka aa wa ra ma pa sd yd td owa nwa kpa aha awa rda mda tpa hha tha tra x1 _ rfl) kV_X11_131 (Rc.mk XX I (q0 := 0) (ci := 11) rfl rfl) rfl rfl (Nat.le_of_ble_eq_true rfl) ⟨rfl, rfl, Nat.le_of_ble_eq_true rfl, Nat.le_of_ble_eq_true rfl⟩ ⟨Nat.zero_le _, Nat.zero_le _⟩ dX11_give_2 (fun H locs hz1 I => ?_)
  refine lv_if_eq (tgt := 21) hx hb dX11_give_5 (by decide) (fun c1 => ?_) (fun c1 => ?_)
  · replace h := if_t h c1
    refine lv_iconst (v := (-1)) hx hb dX11_give_21 (by decide) ?_
    obtain ⟨rfl, rfl⟩ := some2 h
    exact e_i rfl XX hr I rfl dX11_give_22
  · replace h := if_f h c1
    refine lv_aload_n hx hb dX11_give_8 rfl (lv_at hl 0 rfl) ?_
    refine lv_iload_n hx hb dX11_give_9 rfl (lv_at hl 2 rfl) ?_
    refine wcall_i (rest := []) XX I hl.1 (c_O_isPerson l G OK oa na ka aa wa ra ma pa sd yd td owa nwa kpa aha awa rda mda tpa hha tha tra x2 _ rfl) kV_X11_131 (Rc.mk XX I (q0 := 0) (ci := 11) rfl rfl) rfl rfl (Nat.le_of_ble_eq_true rfl) ⟨rfl, rfl, Nat.le_of_ble_eq_true rfl, Nat.le_of_ble_eq_true rfl⟩ ⟨Nat.zero_le _, Nat.zero_le _⟩ dX11_give_10 (fun H locs hz2 I => ?_)
    refine lv_if_eq (tgt := 21) hx hb dX11_give_13 (by decide) (fun c1 => ?_) (fun c1 => ?_)
    · replace h := if_t h c1
      refine lv_iconst (v := (-1)) hx hb dX11_give_21 (by decide) ?_
      obtain ⟨rfl, rfl⟩ := some2 h
      exact e_i rfl XX hr I rfl dX11_give_22
    · replace h := if_f h c1
      refine lv_iload_n hx hb dX11_give_16 rfl (lv_at hl 1 rfl) ?_
      refine lv_iload_n hx hb dX11_give_17 rfl (lv_at hl 2 rfl) ?_
      refine lv_icmp_ne (tgt := 23) hx hb dX11_give_18 (by decide) (fun c1 => ?_) (fun c1 => ?_)
      · replace h := if_f h c1
        refine lv_aload_n hx hb dX11_give_23 rfl (lv_at hl 0 rfl) ?_
        refine gO_X11_o0_now XX I dX11_give_24 ?_
        refine gO_X11_o1_noes XX I dX11_give_27 ?_
        refine lv_iload_n hx hb dX11_give_30 rfl (lv_at hl 1 rfl) ?_
        obtain ⟨g3, h⟩ := gd_some h
        refine r_iald XX I 36 (aO_noes1) g3 dX11_give_31 ?_
        refine lv_if_ne (tgt := 38) hx hb dX11_give_32 (by decide) (fun c1 => ?_) (fun c1 => ?_)
        · replace h := if_f h c1
          refine lv_aload_n hx hb dX11_give_38 rfl (lv_at hl 0 rfl) ?_
          refine gO_X11_o0_now XX I dX11_give_39 ?_
          refine gO_X11_o1_noes XX I dX11_give_42 ?_
          refine lv_iload_n hx hb dX11_give_45 rfl (lv_at hl 2 rfl) ?_
          obtain ⟨g4, h⟩ := gd_some h
          refine r_iald XX I 36 (aO_noes1) g4 dX11_give_46 ?_
          refine lv_bipush (v := 9) hx hb dX11_give_47 (by decide) ?_
          refine lv_icmp_lt (tgt := 55) hx hb dX11_give_49 (by decide) (fun c1 => ?_) (fun c1 => ?_)
          · replace h := if_t h c1
            refine lv_aload_n hx hb dX11_give_55 rfl (lv_at hl 0 rfl) ?_
            refine gO_X11_o0_now XX I dX11_give_56 ?_
            refine gO_X11_o1_noes XX I dX11_give_59 ?_
            refine lv_iload_n hx hb dX11_give_62 rfl (lv_at hl 1 rfl) ?_
            refine lv_dup2_11 hx hb dX11_give_63 rfl rfl ?_
            obtain ⟨g5, h⟩ := gd_some h
            refine r_iald XX I 36 (aO_noes1) g5 dX11_give_64 ?_
            refine lv_iconst (v := 1) hx hb dX11_give_65 (by decide) ?_
            refine lv_isub hx hb dX11_give_66 ?_
            refine lv_topi (fun y6 ey6 => ?_)
            replace h := lt_e h ey6
            obtain ⟨g7, h⟩ := gd_some h
            refine r_iast XX I 36 (aO_noes1) (sO_noes1) g7 dX11_give_67 (fun H locs I => ?_)
            obtain ⟨s8, es8⟩ : ∃ z, z = sr nwa 4 x1 y6 := ⟨_, rfl⟩
            replace h := lt_e h es8
            replace I : Iv G (va_A (bO G oa na ka aa ra pa sd yd td owa ++ (bV G na nwa ++ (bV G ka kpa ++ (bA G aa wa aha ++ (bV G wa awa ++ (bT G ra ma rda ++ (bV G ma mda ++ (bP G pa tpa ++ (bH G sd hha ++ (bY G yd td tha ++ (bK G td tra ++ []))))))))))) s0.heap.size) s0 H locs (bO G oa na ka aa ra pa sd yd td owa ++ (bV G na s8 ++ (bV G ka kpa ++ (bA G aa wa aha ++ (bV G wa awa ++ (bT G ra ma rda ++ (bV G ma mda ++ (bP G pa tpa ++ (bH G sd hha ++ (bY G yd td tha ++ (bK G td tra ++ []))))))))))) := by rw [es8]; exact I
            refine lv_aload_n hx hb dX11_give_68 rfl (lv_at hl 0 rfl) ?_
            refine gO_X11_o0_now XX I dX11_give_69 ?_
            refine gO_X11_o1_noes XX I dX11_give_72 ?_
            refine lv_iload_n hx hb dX11_give_75 rfl (lv_at hl 2 rfl) ?_
            refine lv_dup2_11 hx hb dX11_give_76 rfl rfl ?_
            obtain ⟨g9, h⟩ := gd_some h
            refine r_iald XX I 36 (aO_noes1) g9 dX11_give_77 ?_
            refine lv_iconst (v := 1) hx hb dX11_give_78 (by decide) ?_
            refine lv_iadd hx hb dX11_give_79 ?_
            refine lv_topi (fun y10 ey10 => ?_)
            replace h := lt_e h ey10
            obtain ⟨g11, h⟩ := gd_some h
            refine r_iast XX I 36 (aO_noes1) (sO_noes1) g11 dX11_give_80 (fun H locs I => ?_)
            obtain ⟨s12, es12⟩ : ∃ z, z = sr s8 4 x2 y10 := ⟨_, rfl⟩
            replace h := lt_e h es12
            replace I : Iv G (va_A (bO G oa na ka aa ra pa sd yd td owa ++ (bV G na nwa ++ (bV G ka kpa ++ (bA G aa wa aha ++ (bV G wa awa ++ (bT G ra ma rda ++ (bV G ma mda ++ (bP G pa tpa ++ (bH G sd hha ++ (bY G yd td tha ++ (bK G td tra ++ []))))))))))) s0.heap.size) s0 H locs (bO G oa na ka aa ra pa sd yd td owa ++ (bV G na s12 ++ (bV G ka kpa ++ (bA G aa wa aha ++ (bV G wa awa ++ (bT G ra ma rda ++ (bV G ma mda ++ (bP G pa tpa ++ (bH G sd hha ++ (bY G yd td tha ++ (bK G td tra ++ []))))))))))) := by rw [es12]; exact I
            refine lv_aload_n hx hb dX11_give_81 rfl (lv_at hl 0 rfl) ?_
            refine gO_X11_o0_now XX I dX11_give_82 ?_
            refine gO_X11_o1_noes XX I dX11_give_85 ?_
            refine lv_iload_n hx hb dX11_give_88 rfl (lv_at hl 2 rfl) ?_
            obtain ⟨g13, h⟩ := gd_some h
            refine r_iald XX I 36 (aO_noes1) g13 dX11_give_89 ?_
            obtain ⟨rfl, rfl⟩ := some2 h
            exact e_i rfl XX hr I rfl dX11_give_90
          · replace h := if_f h c1
            refine lv_bipush (v := (-2)) hx hb dX11_give_52 (by decide) ?_
            obtain ⟨rfl, rfl⟩ := some2 h
            exact e_i rfl XX hr I rfl dX11_give_54
        · replace h := if_t h c1
          refine lv_bipush (v := (-3)) hx hb dX11_give_35 (by decide) ?_
          obtain ⟨rfl, rfl⟩ := some2 h
          exact e_i rfl XX hr I rfl dX11_give_37
      · replace h := if_t h c1
        refine lv_iconst (v := (-1)) hx hb dX11_give_21 (by decide) ?_
        obtain ⟨rfl, rfl⟩ := some2 h
        exact e_i rfl XX hr I rfl dX11_give_22
set_option maxHeartbeats 4000000 in
set_option maxRecDepth 100000 in
theorem c_O_noes (l : Launch) (G : g_G) (OK : EOk G.2.2) (oa : Nat → Nat) (na : Nat → Nat) (ka : Nat → Nat) (aa : Nat → Nat) (wa : Nat → Nat) (ra : Nat → Nat) (ma : Nat → Nat) (pa : Nat → Nat) (sd : Nat → Nat → Nat) (yd : Nat → Nat) (td : Nat → Nat) (owa : g_St) (nwa : g_St) (kpa : g_St) (aha : g_St) (awa : g_St) (rda : g_St) (mda : g_St) (tpa : g_St) (hha : g_Sf) (tha : g_St) (tra : g_St) (x1 : Int32) (x2 : Int32) (r : Int32) (tnw : g_St) (h : f_O_noes nwa x1 x2 = some (r, tnw)) : HI l G yX11_noes (Cond.code yX11_noes cX11_noes 4 (some .int) :: gT) { frames := 1, cells := 0, slots := 0, locals := 22 } .int [.ref (oa 0), .int x1, .int x2] (bO G oa na ka aa ra pa sd yd td owa ++ (bV G na nwa ++ (bV G ka kpa ++ (bA G aa wa aha ++ (bV G wa awa ++ (bT G ra ma rda ++ (bV G ma mda ++ (bP G pa tpa ++ (bH G sd hha ++ (bY G yd td tha ++ (bK G td tra ++ []))))))))))) r (bO G oa na ka aa ra pa sd yd td owa ++ (bV G na tnw ++ (bV G ka kpa ++ (bA G aa wa aha ++ (bV G wa awa ++ (bT G ra ma rda ++ (bV G ma mda ++ (bP G pa tpa ++ (bH G sd hha ++ (bY G yd td tha ++ (bK G td tra ++ []))))))))))) := by
  refine HI.mk (lv := [(0, .ref (oa 0)), (1, .int x1), (2, .int x2)]) OK (by decide) (Nat.le_of_ble_eq_true rfl) rfl ?_
  intro p e s0 m args below meth c ls XX hr I hl
  have hx := XX.x
  have hb := XX.b
  unfold f_O_noes at h
  refine lv_aload_n hx hb dX11_noes_0 rfl (lv_at hl 0 rfl) ?_
  refine lv_iload_n hx hb dX11_noes_1 rfl (lv_at hl 1 rfl) ?_
  refine wcall_i (rest := []) XX I hl.1 (c_O_isPerson l G OK oa na ka aa wa ra ma pa sd yd td owa nwa kpa aha awa rda mda tpa hha tha tra x1 _ rfl) kV_X11_131 (Rc.mk XX I (q0 := 0) (ci := 11) rfl rfl) rfl rfl (Nat.le_of_ble_eq_true rfl) ⟨rfl, rfl, Nat.le_of_ble_eq_true rfl, Nat.le_of_ble_eq_true rfl⟩ ⟨Nat.zero_le _, Nat.zero_le _⟩ dX11_noes_2 (fun H locs hz1 I => ?_)
  refine lv_if_eq (tgt := 18) hx hb dX11_noes_5 (by decide) (fun c1 => ?_) (fun c1 => ?_)
  · replace h := if_t h c1
    refine lv_iconst (v := (-1)) hx hb dX11_noes_18 (by decide) ?_
    obtain ⟨rfl, rfl⟩ := some2 h
    exact e_i rfl XX hr I rfl dX11_noes_19
  · replace h := if_f h c1
    refine lv_iload_n hx hb dX11_noes_8 rfl (lv_at hl 2 rfl) ?_
    refine lv_iconst (v := 0) hx hb dX11_noes_9 (by decide) ?_
    refine lv_bipush (v := 9) hx hb dX11_noes_10 (by decide) ?_
    refine scall_i (rest := []) XX I hl.1 (c_S_within l G OK x2 (0 : Int32) (9 : Int32) _ rfl) kS_X11_103 rfl rfl (Nat.le_of_ble_eq_true rfl) ⟨rfl, rfl, Nat.le_of_ble_eq_true rfl, Nat.le_of_ble_eq_true rfl⟩ ⟨Nat.zero_le _, Nat.zero_le _⟩ dX11_noes_12 (fun H locs hz2 I => ?_)
    refine lv_if_ne (tgt := 20) hx hb dX11_noes_15 (by decide) (fun c1 => ?_) (fun c1 => ?_)
    · replace h := if_f h c1
      refine lv_aload_n hx hb dX11_noes_20 rfl (lv_at hl 0 rfl) ?_
      refine gO_X11_o0_now XX I dX11_noes_21 ?_
      refine gO_X11_o1_noes XX I dX11_noes_24 ?_
      refine lv_iload_n hx hb dX11_noes_27 rfl (lv_at hl 1 rfl) ?_
      obtain ⟨g3, h⟩ := gd_some h
      refine r_iald XX I 36 (aO_noes1) g3 dX11_noes_28 ?_
      refine lv_topi (fun y4 ey4 => ?_)
      replace h := lt_e h ey4
      refine lv_istore_n (lv' := [(3, .int y4), (0, .ref (oa 0)), (1, .int x1), (2, .int x2)]) hx hb dX11_noes_29 rfl hl (by decide) rfl (fun ls hl => ?_)
      refine lv_aload_n hx hb dX11_noes_30 rfl (lv_at hl 1 rfl) ?_
      refine gO_X11_o0_now XX I dX11_noes_31 ?_
      refine gO_X11_o1_noes XX I dX11_noes_34 ?_
      refine lv_iload_n hx hb dX11_noes_37 rfl (lv_at hl 2 rfl) ?_
      refine lv_iload_n hx hb dX11_noes_38 rfl (lv_at hl 3 rfl) ?_
      obtain ⟨g5, h⟩ := gd_some h
      refine r_iast XX I 36 (aO_noes1) (sO_noes1) g5 dX11_noes_39 (fun H locs I => ?_)
      obtain ⟨s6, es6⟩ : ∃ z, z = sr nwa 4 x1 x2 := ⟨_, rfl⟩
      replace h := lt_e h es6
      replace I : Iv G (va_A (bO G oa na ka aa ra pa sd yd td owa ++ (bV G na nwa ++ (bV G ka kpa ++ (bA G aa wa aha ++ (bV G wa awa ++ (bT G ra ma rda ++ (bV G ma mda ++ (bP G pa tpa ++ (bH G sd hha ++ (bY G yd td tha ++ (bK G td tra ++ []))))))))))) s0.heap.size) s0 H locs (bO G oa na ka aa ra pa sd yd td owa ++ (bV G na s6 ++ (bV G ka kpa ++ (bA G aa wa aha ++ (bV G wa awa ++ (bT G ra ma rda ++ (bV G ma mda ++ (bP G pa tpa ++ (bH G sd hha ++ (bY G yd td tha ++ (bK G td tra ++ []))))))))))) := by rw [es6]; exact I
      refine lv_iload_n hx hb dX11_noes_40 rfl (lv_at hl 0 rfl) ?_
      obtain ⟨rfl, rfl⟩ := some2 h
      exact e_i rfl XX hr I rfl dX11_noes_41
    · replace h := if_t h c1
      refine lv_iconst (v := (-1)) hx hb dX11_noes_18 (by decide) ?_
      obtain ⟨rfl, rfl⟩ := some2 h
      exact e_i rfl XX hr I rfl dX11_noes_19
set_option maxRecDepth 100000 in
theorem kV_X11_154 : KV RX11 154 RX9 yX9_addProposal cX9_addProposal 4 (some .int) 1 := KV.mk wd_523 wd_465 wd_466 wd_2 wd_467 (by decide +kernel)
set_option maxRecDepth 100000 in
theorem gO_X11_o1_proposals {p : Program} {l : Launch} {e : Env} {R : Room} {s0 : State} {m : MethodId} {args : Array Value} {below : List Frame} {meth : Method} {c : Code} {H : Heap} {locs : List Loc} {cells slots : Nat} {Q : State → Prop} {cc : ByteArray} {nL pc : Nat} {ls : Array Slot} {rest : List Value} {G : g_G} {A : Nat → Prop} {oa : Nat → Nat} {na : Nat → Nat} {ka : Nat → Nat} {aa : Nat → Nat} {wa : Nat → Nat} {ra : Nat → Nat} {ma : Nat → Nat} {pa : Nat → Nat} {sd : Nat → Nat → Nat} {yd : Nat → Nat} {td : Nat → Nat} {ow : g_St} {nw : g_St} {kp : g_St} {ah : g_St} {aw : g_St} {rd : g_St} {md : g_St} {tp : g_St} {hh : g_Sf} {th : g_St} {tr : g_St} (XX : Cx G A p s0 m meth c cc nL RX11 args) (I : Iv G A s0 H locs (bO G oa na ka aa ra pa sd yd td ow ++ (bV G na nw ++ (bV G ka kp ++ (bA G aa wa ah ++ (bV G wa aw ++ (bT G ra ma rd ++ (bV G ma md ++ (bP G pa tp ++ (bH G sd hh ++ (bY G yd td th ++ (bK G td tr ++ [])))))))))))) (hdg : decode cc pc = .ok (.getfield 151, 3)) (kk : W p l e R s0 m args below meth c H locs cells slots Q (F0 m (pc + 3) ls (.int (gi nw 6) :: rest))) : W p l e R s0 m args below meth c H locs cells slots Q (F0 m pc ls (.ref (na 0) :: rest)) := r_get kfX9 XX I 32 rfl 6 (Nat.le_of_ble_eq_true rfl) wd_56 rfl hdg kk
set_option maxHeartbeats 4000000 in
set_option maxRecDepth 100000 in
theorem c_O_proposal (l : Launch) (G : g_G) (OK : EOk G.2.2) (oa : Nat → Nat) (na : Nat → Nat) (ka : Nat → Nat) (aa : Nat → Nat) (wa : Nat → Nat) (ra : Nat → Nat) (ma : Nat → Nat) (pa : Nat → Nat) (sd : Nat → Nat → Nat) (yd : Nat → Nat) (td : Nat → Nat) (fu : Nat) (owa : g_St) (nwa : g_St) (kpa : g_St) (aha : g_St) (awa : g_St) (rda : g_St) (mda : g_St) (tpa : g_St) (hha : g_Sf) (tha : g_St) (tra : g_St) (x1 : Int32) (r : Int32) (tnw : g_St) (h : f_O_proposal fu nwa x1 = some (r, tnw)) : HI l G yX11_proposal (Cond.code yX11_proposal cX11_proposal 2 (some .int) :: gT) { frames := 1, cells := 0, slots := 0, locals := 23 } .int [.ref (oa 0), .int x1] (bO G oa na ka aa ra pa sd yd td owa ++ (bV G na nwa ++ (bV G ka kpa ++ (bA G aa wa aha ++ (bV G wa awa ++ (bT G ra ma rda ++ (bV G ma mda ++ (bP G pa tpa ++ (bH G sd hha ++ (bY G yd td tha ++ (bK G td tra ++ []))))))))))) r (bO G oa na ka aa ra pa sd yd td owa ++ (bV G na tnw ++ (bV G ka kpa ++ (bA G aa wa aha ++ (bV G wa awa ++ (bT G ra ma rda ++ (bV G ma mda ++ (bP G pa tpa ++ (bH G sd hha ++ (bY G yd td tha ++ (bK G td tra ++ []))))))))))) := by
  refine HI.mk (lv := [(0, .ref (oa 0)), (1, .int x1)]) OK (by decide) (Nat.le_of_ble_eq_true rfl) rfl ?_
  intro p e s0 m args below meth c ls XX hr I hl
  have hx := XX.x
  have hb := XX.b
  unfold f_O_proposal at h
  refine lv_iload_n hx hb dX11_proposal_0 rfl (lv_at hl 1 rfl) ?_
  refine lv_iconst (v := 0) hx hb dX11_proposal_1 (by decide) ?_
  refine lv_bipush (v := 9) hx hb dX11_proposal_2 (by decide) ?_
  refine scall_i (rest := []) XX I hl.1 (c_S_within l G OK x1 (0 : Int32) (9 : Int32) _ rfl) kS_X11_103 rfl rfl (Nat.le_of_ble_eq_true rfl) ⟨rfl, rfl, Nat.le_of_ble_eq_true rfl, Nat.le_of_ble_eq_true rfl⟩ ⟨Nat.zero_le _, Nat.zero_le _⟩ dX11_proposal_4 (fun H locs hz1 I => ?_)
  refine lv_if_ne (tgt := 12) hx hb dX11_proposal_7 (by decide) (fun c1 => ?_) (fun c1 => ?_)
  · replace h := if_f h c1
    refine lv_aload_n hx hb dX11_proposal_12 rfl (lv_at hl 0 rfl) ?_
    refine gO_X11_o0_now XX I dX11_proposal_13 ?_
    refine gO_X11_o1_proposals XX I dX11_proposal_16 ?_
    refine lv_bipush (v := 8) hx hb dX11_proposal_19 (by decide) ?_
    refine lv_icmp_lt (tgt := 27) hx hb dX11_proposal_21 (by decide) (fun c1 => ?_) (fun c1 => ?_)
    · replace h := if_t h c1
      refine lv_aload_n hx hb dX11_proposal_27 rfl (lv_at hl 0 rfl) ?_
      refine gO_X11_o0_now XX I dX11_proposal_28 ?_
      refine lv_iload_n hx hb dX11_proposal_31 rfl (lv_at hl 1 rfl) ?_
      obtain ⟨r2, s3, q4, h⟩ := bd2_some h
      have RC := (Rc.mk XX I (q0 := 32) (ci := 9) rfl rfl)
      replace I : Iv G (va_A (bO G oa na ka aa ra pa sd yd td owa ++ (bV G na nwa ++ (bV G ka kpa ++ (bA G aa wa aha ++ (bV G wa awa ++ (bT G ra ma rda ++ (bV G ma mda ++ (bP G pa tpa ++ (bH G sd hha ++ (bY G yd td tha ++ (bK G td tra ++ []))))))))))) s0.heap.size) s0 _ _ ((bV G na nwa) ++ (bO G oa na ka aa ra pa sd yd td owa ++ (bV G ka kpa ++ (bA G aa wa aha ++ (bV G wa awa ++ (bT G ra ma rda ++ (bV G ma mda ++ (bP G pa tpa ++ (bH G sd hha ++ (bY G yd td tha ++ (bK G td tra ++ []))))))))))) := I.perm ((List.Perm.append_left _ (List.Perm.refl _)).trans (List.perm_append_comm_assoc _ _ _))
      refine call_i (X := []) (wc := (bV G na nwa)) (Y := (bO G oa na ka aa ra pa sd yd td owa ++ (bV G ka kpa ++ (bA G aa wa aha ++ (bV G wa awa ++ (bT G ra ma rda ++ (bV G ma mda ++ (bP G pa tpa ++ (bH G sd hha ++ (bY G yd td tha ++ (bK G td tra ++ []))))))))))) (rest := []) XX I hl.1 (c_V_addProposal l G OK na fu nwa x1 r2 s3 q4) kV_X11_154 RC rfl rfl (Nat.le_of_ble_eq_true rfl) ⟨rfl, rfl, Nat.le_of_ble_eq_true rfl, Nat.le_of_ble_eq_true rfl⟩ ⟨Nat.zero_le _, Nat.zero_le _⟩ dX11_proposal_32 (fun H locs hz5 I => ?_)
      replace I : Iv G (va_A (bO G oa na ka aa ra pa sd yd td owa ++ (bV G na nwa ++ (bV G ka kpa ++ (bA G aa wa aha ++ (bV G wa awa ++ (bT G ra ma rda ++ (bV G ma mda ++ (bP G pa tpa ++ (bH G sd hha ++ (bY G yd td tha ++ (bK G td tra ++ []))))))))))) s0.heap.size) s0 H locs (bO G oa na ka aa ra pa sd yd td owa ++ (bV G na s3 ++ (bV G ka kpa ++ (bA G aa wa aha ++ (bV G wa awa ++ (bT G ra ma rda ++ (bV G ma mda ++ (bP G pa tpa ++ (bH G sd hha ++ (bY G yd td tha ++ (bK G td tra ++ []))))))))))) := Iv.perm (w := (bV G na s3) ++ (bO G oa na ka aa ra pa sd yd td owa ++ (bV G ka kpa ++ (bA G aa wa aha ++ (bV G wa awa ++ (bT G ra ma rda ++ (bV G ma mda ++ (bP G pa tpa ++ (bH G sd hha ++ (bY G yd td tha ++ (bK G td tra ++ []))))))))))) I (((List.Perm.append_left _ (List.Perm.refl _)).trans (List.perm_append_comm_assoc _ _ _)).symm)
      obtain ⟨rfl, rfl⟩ := some2 h
      exact e_i rfl XX hr I rfl dX11_proposal_35
    · replace h := if_f h c1
      refine lv_bipush (v := (-2)) hx hb dX11_proposal_24 (by decide) ?_
      obtain ⟨rfl, rfl⟩ := some2 h
      exact e_i rfl XX hr I rfl dX11_proposal_26
  · replace h := if_t h c1
    refine lv_iconst (v := (-1)) hx hb dX11_proposal_10 (by decide) ?_
    obtain ⟨rfl, rfl⟩ := some2 h
    exact e_i rfl XX hr I rfl dX11_proposal_11
set_option maxHeartbeats 4000000 in
set_option maxRecDepth 100000 in
theorem c_O_isProposal (l : Launch) (G : g_G) (OK : EOk G.2.2) (oa : Nat → Nat) (na : Nat → Nat) (ka : Nat → Nat) (aa : Nat → Nat) (wa : Nat → Nat) (ra : Nat → Nat) (ma : Nat → Nat) (pa : Nat → Nat) (sd : Nat → Nat → Nat) (yd : Nat → Nat) (td : Nat → Nat) (owa : g_St) (nwa : g_St) (kpa : g_St) (aha : g_St) (awa : g_St) (rda : g_St) (mda : g_St) (tpa : g_St) (hha : g_Sf) (tha : g_St) (tra : g_St) (x1 : Int32) (r : Int32) (h : f_O_isProposal nwa x1 = r) : HI l G yX11_isProposal (Cond.code yX11_isProposal cX11_isProposal 2 (some .boolean) :: gT) { frames := 0, cells := 0, slots := 0, locals := 0 } .boolean [.ref (oa 0), .int x1] (bO G oa na ka aa ra pa sd yd td owa ++ (bV G na nwa ++ (bV G ka kpa ++ (bA G aa wa aha ++ (bV G wa awa ++ (bT G ra ma rda ++ (bV G ma mda ++ (bP G pa tpa ++ (bH G sd hha ++ (bY G yd td tha ++ (bK G td tra ++ []))))))))))) r (bO G oa na ka aa ra pa sd yd td owa ++ (bV G na nwa ++ (bV G ka kpa ++ (bA G aa wa aha ++ (bV G wa awa ++ (bT G ra ma rda ++ (bV G ma mda ++ (bP G pa tpa ++ (bH G sd hha ++ (bY G yd td tha ++ (bK G td tra ++ []))))))))))) := by
  refine HI.mk (lv := [(0, .ref (oa 0)), (1, .int x1)]) OK (by decide) (Nat.le_of_ble_eq_true rfl) rfl ?_
  intro p e s0 m args below meth c ls XX hr I hl
  have hx := XX.x
  have hb := XX.b
  unfold f_O_isProposal at h
  refine lv_iload_n hx hb dX11_isProposal_0 rfl (lv_at hl 1 rfl) ?_
  refine lv_if_lt (tgt := 19) hx hb dX11_isProposal_1 (by decide) (fun c1 => ?_) (fun c1 => ?_)
  · replace h := if_t h c1
    refine lv_iconst (v := 0) hx hb dX11_isProposal_19 (by decide) ?_
    subst h
    exact e_z XX hr I rfl rfl dX11_isProposal_20
  · replace h := if_f h c1
    refine lv_iload_n hx hb dX11_isProposal_4 rfl (lv_at hl 1 rfl) ?_
    refine lv_aload_n hx hb dX11_isProposal_5 rfl (lv_at hl 0 rfl) ?_
    refine gO_X11_o0_now XX I dX11_isProposal_6 ?_
    refine gO_X11_o1_proposals XX I dX11_isProposal_9 ?_
    refine lv_icmp_ge (tgt := 19) hx hb dX11_isProposal_12 (by decide) (fun c1 => ?_) (fun c1 => ?_)
    · replace h := if_t h c1
      refine lv_iconst (v := 0) hx hb dX11_isProposal_19 (by decide) ?_
      subst h
      exact e_z XX hr I rfl rfl dX11_isProposal_20
    · replace h := if_f h c1
      refine lv_iconst (v := 1) hx hb dX11_isProposal_15 (by decide) ?_
      refine lv_goto (tgt := 20) hx hb dX11_isProposal_16 (by decide) ?_
      subst h
      exact e_z XX hr I rfl rfl dX11_isProposal_20
set_option maxRecDepth 100000 in
theorem kV_X11_158 : KV RX11 158 RX11 yX11_isProposal cX11_isProposal 2 (some .boolean) 1 := KV.mk wd_528 wd_530 wd_1591 wd_1 wd_531 (by decide +kernel)
set_option maxRecDepth 100000 in
theorem gO_X11_o1_weight {p : Program} {l : Launch} {e : Env} {R : Room} {s0 : State} {m : MethodId} {args : Array Value} {below : List Frame} {meth : Method} {c : Code} {H : Heap} {locs : List Loc} {cells slots : Nat} {Q : State → Prop} {cc : ByteArray} {nL pc : Nat} {ls : Array Slot} {rest : List Value} {G : g_G} {A : Nat → Prop} {oa : Nat → Nat} {na : Nat → Nat} {ka : Nat → Nat} {aa : Nat → Nat} {wa : Nat → Nat} {ra : Nat → Nat} {ma : Nat → Nat} {pa : Nat → Nat} {sd : Nat → Nat → Nat} {yd : Nat → Nat} {td : Nat → Nat} {ow : g_St} {nw : g_St} {kp : g_St} {ah : g_St} {aw : g_St} {rd : g_St} {md : g_St} {tp : g_St} {hh : g_Sf} {th : g_St} {tr : g_St} (XX : Cx G A p s0 m meth c cc nL RX11 args) (I : Iv G A s0 H locs (bO G oa na ka aa ra pa sd yd td ow ++ (bV G na nw ++ (bV G ka kp ++ (bA G aa wa ah ++ (bV G wa aw ++ (bT G ra ma rd ++ (bV G ma md ++ (bP G pa tp ++ (bH G sd hh ++ (bY G yd td th ++ (bK G td tr ++ [])))))))))))) (hdg : decode cc pc = .ok (.getfield 161, 3)) (kk : W p l e R s0 m args below meth c H locs cells slots Q (F0 m (pc + 3) ls (.ref (na 8) :: rest))) : W p l e R s0 m args below meth c H locs cells slots Q (F0 m pc ls (.ref (na 0) :: rest)) := r_get kfX9 XX I 32 rfl 7 (Nat.le_of_ble_eq_true rfl) wd_59 rfl hdg kk
set_option maxRecDepth 100000 in
theorem aO_weight1 {G : g_G} {oa : Nat → Nat} {na : Nat → Nat} {ka : Nat → Nat} {aa : Nat → Nat} {wa : Nat → Nat} {ra : Nat → Nat} {ma : Nat → Nat} {pa : Nat → Nat} {sd : Nat → Nat → Nat} {yd : Nat → Nat} {td : Nat → Nat} {ow : g_St} {nw : g_St} {kp : g_St} {ah : g_St} {aw : g_St} {rd : g_St} {md : g_St} {tp : g_St} {hh : g_Sf} {th : g_St} {tr : g_St} : (bO G oa na ka aa ra pa sd yd td ow ++ (bV G na nw ++ (bV G ka kp ++ (bA G aa wa ah ++ (bV G wa aw ++ (bT G ra ma rd ++ (bV G ma md ++ (bP G pa tp ++ (bH G sd hh ++ (bY G yd td th ++ (bK G td tr ++ [])))))))))))[38]? = some (na 8, .inl (G.2.1 0, 8, .inl (gr nw 7))) := rfl
set_option maxRecDepth 100000 in
theorem sO_weight1 {G : g_G} {oa : Nat → Nat} {na : Nat → Nat} {ka : Nat → Nat} {aa : Nat → Nat} {wa : Nat → Nat} {ra : Nat → Nat} {ma : Nat → Nat} {pa : Nat → Nat} {sd : Nat → Nat → Nat} {yd : Nat → Nat} {td : Nat → Nat} {ow : g_St} {nw : g_St} {kp : g_St} {ah : g_St} {aw : g_St} {rd : g_St} {md : g_St} {tp : g_St} {hh : g_Sf} {th : g_St} {tr : g_St} {i : Int32} {x : Int32} : (bO G oa na ka aa ra pa sd yd td ow ++ (bV G na nw ++ (bV G ka kp ++ (bA G aa wa ah ++ (bV G wa aw ++ (bT G ra ma rd ++ (bV G ma md ++ (bP G pa tp ++ (bH G sd hh ++ (bY G yd td th ++ (bK G td tr ++ []))))))))))).set 38 (na 8, .inl (G.2.1 0, 8, .inl (upd (gr nw 7) i.toNatClampNeg x))) = (bO G oa na ka aa ra pa sd yd td ow ++ (bV G na (sr nw 7 i x) ++ (bV G ka kp ++ (bA G aa wa ah ++ (bV G wa aw ++ (bT G ra ma rd ++ (bV G ma md ++ (bP G pa tp ++ (bH G sd hh ++ (bY G yd td th ++ (bK G td tr ++ []))))))))))) := rfl
set_option maxHeartbeats 4000000 in
set_option maxRecDepth 100000 in
theorem c_O_weigh (l : Launch) (G : g_G) (OK : EOk G.2.2) (oa : Nat → Nat) (na : Nat → Nat) (ka : Nat → Nat) (aa : Nat → Nat) (wa : Nat → Nat) (ra : Nat → Nat) (ma : Nat → Nat) (pa : Nat → Nat) (sd : Nat → Nat → Nat) (yd : Nat → Nat) (td : Nat → Nat) (owa : g_St) (nwa : g_St) (kpa : g_St) (aha : g_St) (awa : g_St) (rda : g_St) (mda : g_St) (tpa : g_St) (hha : g_Sf) (tha : g_St) (tra : g_St) (x1 : Int32) (x2 : Int32) (r : Int32) (tnw : g_St) (h : f_O_weigh nwa x1 x2 = some (r, tnw)) : HI l G yX11_weigh (Cond.code yX11_weigh cX11_weigh 4 (some .int) :: gT) { frames := 1, cells := 0, slots := 0, locals := 22 } .int [.ref (oa 0), .int x1, .int x2] (bO G oa na ka aa ra pa sd yd td owa ++ (bV G na nwa ++ (bV G ka kpa ++ (bA G aa wa aha ++ (bV G wa awa ++ (bT G ra ma rda ++ (bV G ma mda ++ (bP G pa tpa ++ (bH G sd hha ++ (bY G yd td tha ++ (bK G td tra ++ []))))))))))) r (bO G oa na ka aa ra pa sd yd td owa ++ (bV G na tnw ++ (bV G ka kpa ++ (bA G aa wa aha ++ (bV G wa awa ++ (bT G ra ma rda ++ (bV G ma mda ++ (bP G pa tpa ++ (bH G sd hha ++ (bY G yd td tha ++ (bK G td tra ++ []))))))))))) := by
  refine HI.mk (lv := [(0, .ref (oa 0)), (1, .int x1), (2, .int x2)]) OK (by decide) (Nat.le_of_ble_eq_true rfl) rfl ?_
  intro p e s0 m args below meth c ls XX hr I hl
  have hx := XX.x
  have hb := XX.b
  unfold f_O_weigh at h
  refine lv_aload_n hx hb dX11_weigh_0 rfl (lv_at hl 0 rfl) ?_
  refine lv_iload_n hx hb dX11_weigh_1 rfl (lv_at hl 1 rfl) ?_
  refine wcall_i (rest := []) XX I hl.1 (c_O_isProposal l G OK oa na ka aa wa ra ma pa sd yd td owa nwa kpa aha awa rda mda tpa hha tha tra x1 _ rfl) kV_X11_158 (Rc.mk XX I (q0 := 0) (ci := 11) rfl rfl) rfl rfl (Nat.le_of_ble_eq_true rfl) ⟨rfl, rfl, Nat.le_of_ble_eq_true rfl, Nat.le_of_ble_eq_true rfl⟩ ⟨Nat.zero_le _, Nat.zero_le _⟩ dX11_weigh_2 (fun H locs hz1 I => ?_)
  refine lv_if_eq (tgt := 18) hx hb dX11_weigh_5 (by decide) (fun c1 => ?_) (fun c1 => ?_)
  · replace h := if_t h c1
    refine lv_iconst (v := (-1)) hx hb dX11_weigh_18 (by decide) ?_
    obtain ⟨rfl, rfl⟩ := some2 h
    exact e_i rfl XX hr I rfl dX11_weigh_19
  · replace h := if_f h c1
    refine lv_iload_n hx hb dX11_weigh_8 rfl (lv_at hl 2 rfl) ?_
    refine lv_iconst (v := 0) hx hb dX11_weigh_9 (by decide) ?_
    refine lv_bipush (v := 9) hx hb dX11_weigh_10 (by decide) ?_
    refine scall_i (rest := []) XX I hl.1 (c_S_within l G OK x2 (0 : Int32) (9 : Int32) _ rfl) kS_X11_103 rfl rfl (Nat.le_of_ble_eq_true rfl) ⟨rfl, rfl, Nat.le_of_ble_eq_true rfl, Nat.le_of_ble_eq_true rfl⟩ ⟨Nat.zero_le _, Nat.zero_le _⟩ dX11_weigh_12 (fun H locs hz2 I => ?_)
    refine lv_if_ne (tgt := 20) hx hb dX11_weigh_15 (by decide) (fun c1 => ?_) (fun c1 => ?_)
    · replace h := if_f h c1
      refine lv_aload_n hx hb dX11_weigh_20 rfl (lv_at hl 0 rfl) ?_
      refine gO_X11_o0_now XX I dX11_weigh_21 ?_
      refine gO_X11_o1_weight XX I dX11_weigh_24 ?_
      refine lv_iload_n hx hb dX11_weigh_27 rfl (lv_at hl 1 rfl) ?_
      obtain ⟨g3, h⟩ := gd_some h
      refine r_iald XX I 38 (aO_weight1) g3 dX11_weigh_28 ?_
      refine lv_topi (fun y4 ey4 => ?_)
      replace h := lt_e h ey4
      refine lv_istore_n (lv' := [(3, .int y4), (0, .ref (oa 0)), (1, .int x1), (2, .int x2)]) hx hb dX11_weigh_29 rfl hl (by decide) rfl (fun ls hl => ?_)
      refine lv_aload_n hx hb dX11_weigh_30 rfl (lv_at hl 1 rfl) ?_
      refine gO_X11_o0_now XX I dX11_weigh_31 ?_
      refine gO_X11_o1_weight XX I dX11_weigh_34 ?_
      refine lv_iload_n hx hb dX11_weigh_37 rfl (lv_at hl 2 rfl) ?_
      refine lv_iload_n hx hb dX11_weigh_38 rfl (lv_at hl 3 rfl) ?_
      obtain ⟨g5, h⟩ := gd_some h
      refine r_iast XX I 38 (aO_weight1) (sO_weight1) g5 dX11_weigh_39 (fun H locs I => ?_)
      obtain ⟨s6, es6⟩ : ∃ z, z = sr nwa 7 x1 x2 := ⟨_, rfl⟩
      replace h := lt_e h es6
      replace I : Iv G (va_A (bO G oa na ka aa ra pa sd yd td owa ++ (bV G na nwa ++ (bV G ka kpa ++ (bA G aa wa aha ++ (bV G wa awa ++ (bT G ra ma rda ++ (bV G ma mda ++ (bP G pa tpa ++ (bH G sd hha ++ (bY G yd td tha ++ (bK G td tra ++ []))))))))))) s0.heap.size) s0 H locs (bO G oa na ka aa ra pa sd yd td owa ++ (bV G na s6 ++ (bV G ka kpa ++ (bA G aa wa aha ++ (bV G wa awa ++ (bT G ra ma rda ++ (bV G ma mda ++ (bP G pa tpa ++ (bH G sd hha ++ (bY G yd td tha ++ (bK G td tra ++ []))))))))))) := by rw [es6]; exact I
      refine lv_iload_n hx hb dX11_weigh_40 rfl (lv_at hl 0 rfl) ?_
      obtain ⟨rfl, rfl⟩ := some2 h
      exact e_i rfl XX hr I rfl dX11_weigh_41
    · replace h := if_t h c1
      refine lv_iconst (v := (-1)) hx hb dX11_weigh_18 (by decide) ?_
      obtain ⟨rfl, rfl⟩ := some2 h
      exact e_i rfl XX hr I rfl dX11_weigh_19
set_option maxRecDepth 100000 in
theorem gO_X11_o1_worth {p : Program} {l : Launch} {e : Env} {R : Room} {s0 : State} {m : MethodId} {args : Array Value} {below : List Frame} {meth : Method} {c : Code} {H : Heap} {locs : List Loc} {cells slots : Nat} {Q : State → Prop} {cc : ByteArray} {nL pc : Nat} {ls : Array Slot} {rest : List Value} {G : g_G} {A : Nat → Prop} {oa : Nat → Nat} {na : Nat → Nat} {ka : Nat → Nat} {aa : Nat → Nat} {wa : Nat → Nat} {ra : Nat → Nat} {ma : Nat → Nat} {pa : Nat → Nat} {sd : Nat → Nat → Nat} {yd : Nat → Nat} {td : Nat → Nat} {ow : g_St} {nw : g_St} {kp : g_St} {ah : g_St} {aw : g_St} {rd : g_St} {md : g_St} {tp : g_St} {hh : g_Sf} {th : g_St} {tr : g_St} (XX : Cx G A p s0 m meth c cc nL RX11 args) (I : Iv G A s0 H locs (bO G oa na ka aa ra pa sd yd td ow ++ (bV G na nw ++ (bV G ka kp ++ (bA G aa wa ah ++ (bV G wa aw ++ (bT G ra ma rd ++ (bV G ma md ++ (bP G pa tp ++ (bH G sd hh ++ (bY G yd td th ++ (bK G td tr ++ [])))))))))))) (hdg : decode cc pc = .ok (.getfield 164, 3)) (kk : W p l e R s0 m args below meth c H locs cells slots Q (F0 m (pc + 3) ls (.ref (na 9) :: rest))) : W p l e R s0 m args below meth c H locs cells slots Q (F0 m pc ls (.ref (na 0) :: rest)) := r_get kfX9 XX I 32 rfl 8 (Nat.le_of_ble_eq_true rfl) wd_63 rfl hdg kk
set_option maxRecDepth 100000 in
theorem aO_row1 {G : g_G} {oa : Nat → Nat} {na : Nat → Nat} {ka : Nat → Nat} {aa : Nat → Nat} {wa : Nat → Nat} {ra : Nat → Nat} {ma : Nat → Nat} {pa : Nat → Nat} {sd : Nat → Nat → Nat} {yd : Nat → Nat} {td : Nat → Nat} {ow : g_St} {nw : g_St} {kp : g_St} {ah : g_St} {aw : g_St} {rd : g_St} {md : g_St} {tp : g_St} {hh : g_Sf} {th : g_St} {tr : g_St} {q : Nat} (hq : q < 8) : (bO G oa na ka aa ra pa sd yd td ow ++ (bV G na nw ++ (bV G ka kp ++ (bA G aa wa ah ++ (bV G wa aw ++ (bT G ra ma rd ++ (bV G ma md ++ (bP G pa tp ++ (bH G sd hh ++ (bY G yd td th ++ (bK G td tr ++ [])))))))))))[41 + q]? = some (na (20 + q), .inl (G.2.1 0, 6, .inl (gr nw (20 + q)))) := by rcases (show q = 0 ∨ q = 1 ∨ q = 2 ∨ q = 3 ∨ q = 4 ∨ q = 5 ∨ q = 6 ∨ q = 7 by omega) with rfl | rfl | rfl | rfl | rfl | rfl | rfl | rfl <;> rfl
set_option maxRecDepth 100000 in
theorem sO_row1 {G : g_G} {oa : Nat → Nat} {na : Nat → Nat} {ka : Nat → Nat} {aa : Nat → Nat} {wa : Nat → Nat} {ra : Nat → Nat} {ma : Nat → Nat} {pa : Nat → Nat} {sd : Nat → Nat → Nat} {yd : Nat → Nat} {td : Nat → Nat} {ow : g_St} {nw : g_St} {kp : g_St} {ah : g_St} {aw : g_St} {rd : g_St} {md : g_St} {tp : g_St} {hh : g_Sf} {th : g_St} {tr : g_St} {q : Nat} (hq : q < 8) {i x : Int32} : (bO G oa na ka aa ra pa sd yd td ow ++ (bV G na nw ++ (bV G ka kp ++ (bA G aa wa ah ++ (bV G wa aw ++ (bT G ra ma rd ++ (bV G ma md ++ (bP G pa tp ++ (bH G sd hh ++ (bY G yd td th ++ (bK G td tr ++ []))))))))))).set (41 + q) (na (20 + q), .inl (G.2.1 0, 6, .inl (upd (gr nw (20 + q)) i.toNatClampNeg x))) = (bO G oa na ka aa ra pa sd yd td ow ++ (bV G na (sr nw (20 + q) i x) ++ (bV G ka kp ++ (bA G aa wa ah ++ (bV G wa aw ++ (bT G ra ma rd ++ (bV G ma md ++ (bP G pa tp ++ (bH G sd hh ++ (bY G yd td th ++ (bK G td tr ++ []))))))))))) := by rcases (show q = 0 ∨ q = 1 ∨ q = 2 ∨ q = 3 ∨ q = 4 ∨ q = 5 ∨ q = 6 ∨ q = 7 by omega) with rfl | rfl | rfl | rfl | rfl | rfl | rfl | rfl <;> rfl
set_option maxHeartbeats 4000000 in
set_option maxRecDepth 100000 in
theorem c_O_worth (l : Launch) (G : g_G) (OK : EOk G.2.2) (oa : Nat → Nat) (na : Nat → Nat) (ka : Nat → Nat) (aa : Nat → Nat) (wa : Nat → Nat) (ra : Nat → Nat) (ma : Nat → Nat) (pa : Nat → Nat) (sd : Nat → Nat → Nat) (yd : Nat → Nat) (td : Nat → Nat) (owa : g_St) (nwa : g_St) (kpa : g_St) (aha : g_St) (awa : g_St) (rda : g_St) (mda : g_St) (tpa : g_St) (hha : g_Sf) (tha : g_St) (tra : g_St) (x1 : Int32) (x2 : Int32) (x3 : Int32) (r : Int32) (tnw : g_St) (h : f_O_worth nwa x1 x2 x3 = some (r, tnw)) : HI l G yX11_worth (Cond.code yX11_worth cX11_worth 5 (some .int) :: gT) { frames := 1, cells := 0, slots := 0, locals := 22 } .int [.ref (oa 0), .int x1, .int x2, .int x3] (bO G oa na ka aa ra pa sd yd td owa ++ (bV G na nwa ++ (bV G ka kpa ++ (bA G aa wa aha ++ (bV G wa awa ++ (bT G ra ma rda ++ (bV G ma mda ++ (bP G pa tpa ++ (bH G sd hha ++ (bY G yd td tha ++ (bK G td tra ++ []))))))))))) r (bO G oa na ka aa ra pa sd yd td owa ++ (bV G na tnw ++ (bV G ka kpa ++ (bA G aa wa aha ++ (bV G wa awa ++ (bT G ra ma rda ++ (bV G ma mda ++ (bP G pa tpa ++ (bH G sd hha ++ (bY G yd td tha ++ (bK G td tra ++ []))))))))))) := by
  refine HI.mk (lv := [(0, .ref (oa 0)), (1, .int x1), (2, .int x2), (3, .int x3)]) OK (by decide) (Nat.le_of_ble_eq_true rfl) rfl ?_
  intro p e s0 m args below meth c ls XX hr I hl
  have hx := XX.x
  have hb := XX.b
  unfold f_O_worth at h
  refine lv_aload_n hx hb dX11_worth_0 rfl (lv_at hl 0 rfl) ?_
  refine lv_iload_n hx hb dX11_worth_1 rfl (lv_at hl 1 rfl) ?_
  refine wcall_i (rest := []) XX I hl.1 (c_O_isProposal l G OK oa na ka aa wa ra ma pa sd yd td owa nwa kpa aha awa rda mda tpa hha tha tra x1 _ rfl) kV_X11_158 (Rc.mk XX I (q0 := 0) (ci := 11) rfl rfl) rfl rfl (Nat.le_of_ble_eq_true rfl) ⟨rfl, rfl, Nat.le_of_ble_eq_true rfl, Nat.le_of_ble_eq_true rfl⟩ ⟨Nat.zero_le _, Nat.zero_le _⟩ dX11_worth_2 (fun H locs hz1 I => ?_)
  refine lv_if_eq (tgt := 27) hx hb dX11_worth_5 (by decide) (fun c1 => ?_) (fun c1 => ?_)
  · replace h := if_t h c1
    refine lv_iconst (v := (-1)) hx hb dX11_worth_27 (by decide) ?_
    obtain ⟨rfl, rfl⟩ := some2 h
    exact e_i rfl XX hr I rfl dX11_worth_28
  · replace h := if_f h c1
    refine lv_aload_n hx hb dX11_worth_8 rfl (lv_at hl 0 rfl) ?_
    refine lv_iload_n hx hb dX11_worth_9 rfl (lv_at hl 2 rfl) ?_
    refine wcall_i (rest := []) XX I hl.1 (c_O_isPerson l G OK oa na ka aa wa ra ma pa sd yd td owa nwa kpa aha awa rda mda tpa hha tha tra x2 _ rfl) kV_X11_131 (Rc.mk XX I (q0 := 0) (ci := 11) rfl rfl) rfl rfl (Nat.le_of_ble_eq_true rfl) ⟨rfl, rfl, Nat.le_of_ble_eq_true rfl, Nat.le_of_ble_eq_true rfl⟩ ⟨Nat.zero_le _, Nat.zero_le _⟩ dX11_worth_10 (fun H locs hz2 I => ?_)
    refine lv_if_eq (tgt := 27) hx hb dX11_worth_13 (by decide) (fun c1 => ?_) (fun c1 => ?_)
    · replace h := if_t h c1
      refine lv_iconst (v := (-1)) hx hb dX11_worth_27 (by decide) ?_
      obtain ⟨rfl, rfl⟩ := some2 h
      exact e_i rfl XX hr I rfl dX11_worth_28
    · replace h := if_f h c1
      refine lv_iload_n hx hb dX11_worth_16 rfl (lv_at hl 3 rfl) ?_
      refine lv_bipush (v := (-9)) hx hb dX11_worth_17 (by decide) ?_
      refine lv_bipush (v := 9) hx hb dX11_worth_19 (by decide) ?_
      refine scall_i (rest := []) XX I hl.1 (c_S_within l G OK x3 ((-9) : Int32) (9 : Int32) _ rfl) kS_X11_103 rfl rfl (Nat.le_of_ble_eq_true rfl) ⟨rfl, rfl, Nat.le_of_ble_eq_true rfl, Nat.le_of_ble_eq_true rfl⟩ ⟨Nat.zero_le _, Nat.zero_le _⟩ dX11_worth_21 (fun H locs hz3 I => ?_)
      refine lv_if_ne (tgt := 29) hx hb dX11_worth_24 (by decide) (fun c1 => ?_) (fun c1 => ?_)
      · replace h := if_f h c1
        refine lv_aload_n hx hb dX11_worth_29 rfl (lv_at hl 0 rfl) ?_
        refine gO_X11_o0_now XX I dX11_worth_30 ?_
        refine gO_X11_o1_worth XX I dX11_worth_33 ?_
        refine lv_iload_n hx hb dX11_worth_36 rfl (lv_at hl 1 rfl) ?_
        obtain ⟨g4, h⟩ := gd_some h
        refine r_aaldI XX I 39 rfl (v := .ref (na (20 + x1.toNatClampNeg))) rfl g4 dX11_worth_37 ?_
        refine lv_iload_n hx hb dX11_worth_38 rfl (lv_at hl 2 rfl) ?_
        obtain ⟨g5, h⟩ := gd_some h
        refine r_iald XX I (41 + x1.toNatClampNeg) (aO_row1 (vin_lt g4)) g5 dX11_worth_39 ?_
        refine lv_topi (fun y6 ey6 => ?_)
        replace h := lt_e h ey6
        refine lv_istore (lv' := [(4, .int y6), (0, .ref (oa 0)), (1, .int x1), (2, .int x2), (3, .int x3)]) hx hb dX11_worth_40 hl (by decide) rfl (fun ls hl => ?_)
        refine lv_aload_n hx hb dX11_worth_42 rfl (lv_at hl 1 rfl) ?_
        refine gO_X11_o0_now XX I dX11_worth_43 ?_
        refine gO_X11_o1_worth XX I dX11_worth_46 ?_
        refine lv_iload_n hx hb dX11_worth_49 rfl (lv_at hl 2 rfl) ?_
        obtain ⟨g7, h⟩ := gd_some h
        refine r_aaldI XX I 39 rfl (v := .ref (na (20 + x1.toNatClampNeg))) rfl g7 dX11_worth_50 ?_
        refine lv_iload_n hx hb dX11_worth_51 rfl (lv_at hl 3 rfl) ?_
        refine lv_iload_n hx hb dX11_worth_52 rfl (lv_at hl 4 rfl) ?_
        obtain ⟨g8, h⟩ := gd_some h
        refine r_iast XX I (41 + x1.toNatClampNeg) (aO_row1 (vin_lt g7)) (sO_row1 (vin_lt g7)) g8 dX11_worth_53 (fun H locs I => ?_)
        obtain ⟨s9, es9⟩ : ∃ z, z = sr nwa (20 + x1.toNatClampNeg) x2 x3 := ⟨_, rfl⟩
        replace h := lt_e h es9
        replace I : Iv G (va_A (bO G oa na ka aa ra pa sd yd td owa ++ (bV G na nwa ++ (bV G ka kpa ++ (bA G aa wa aha ++ (bV G wa awa ++ (bT G ra ma rda ++ (bV G ma mda ++ (bP G pa tpa ++ (bH G sd hha ++ (bY G yd td tha ++ (bK G td tra ++ []))))))))))) s0.heap.size) s0 H locs (bO G oa na ka aa ra pa sd yd td owa ++ (bV G na s9 ++ (bV G ka kpa ++ (bA G aa wa aha ++ (bV G wa awa ++ (bT G ra ma rda ++ (bV G ma mda ++ (bP G pa tpa ++ (bH G sd hha ++ (bY G yd td tha ++ (bK G td tra ++ []))))))))))) := by rw [es9]; exact I
        refine lv_iload hx hb dX11_worth_54 (lv_at hl 0 rfl) ?_
        refine lv_bipush (v := 10) hx hb dX11_worth_56 (by decide) ?_
        refine lv_iadd hx hb dX11_worth_58 ?_
        obtain ⟨rfl, rfl⟩ := some2 h
        exact e_i rfl XX hr I rfl dX11_worth_59
      · replace h := if_t h c1
        refine lv_iconst (v := (-1)) hx hb dX11_worth_27 (by decide) ?_
        obtain ⟨rfl, rfl⟩ := some2 h
        exact e_i rfl XX hr I rfl dX11_worth_28
set_option maxHeartbeats 4000000 in
set_option maxRecDepth 100000 in
theorem c_O_proposalOf (l : Launch) (G : g_G) (OK : EOk G.2.2) (oa : Nat → Nat) (na : Nat → Nat) (ka : Nat → Nat) (aa : Nat → Nat) (wa : Nat → Nat) (ra : Nat → Nat) (ma : Nat → Nat) (pa : Nat → Nat) (sd : Nat → Nat → Nat) (yd : Nat → Nat) (td : Nat → Nat) (owa : g_St) (nwa : g_St) (kpa : g_St) (aha : g_St) (awa : g_St) (rda : g_St) (mda : g_St) (tpa : g_St) (hha : g_Sf) (tha : g_St) (tra : g_St) (x1 : Int32) (x2 : Int32) (r : Int32) (h : f_O_proposalOf nwa x1 x2 = some r) : HI l G yX11_proposalOf (Cond.code yX11_proposalOf cX11_proposalOf 3 (some .int) :: gT) { frames := 1, cells := 0, slots := 0, locals := 21 } .int [.ref (oa 0), .int x1, .int x2] (bO G oa na ka aa ra pa sd yd td owa ++ (bV G na nwa ++ (bV G ka kpa ++ (bA G aa wa aha ++ (bV G wa awa ++ (bT G ra ma rda ++ (bV G ma mda ++ (bP G pa tpa ++ (bH G sd hha ++ (bY G yd td tha ++ (bK G td tra ++ []))))))))))) r (bO G oa na ka aa ra pa sd yd td owa ++ (bV G na nwa ++ (bV G ka kpa ++ (bA G aa wa aha ++ (bV G wa awa ++ (bT G ra ma rda ++ (bV G ma mda ++ (bP G pa tpa ++ (bH G sd hha ++ (bY G yd td tha ++ (bK G td tra ++ []))))))))))) := by
  refine HI.mk (lv := [(0, .ref (oa 0)), (1, .int x1), (2, .int x2)]) OK (by decide) (Nat.le_of_ble_eq_true rfl) rfl ?_
  intro p e s0 m args below meth c ls XX hr I hl
  have hx := XX.x
  have hb := XX.b
  unfold f_O_proposalOf at h
  refine lv_aload_n hx hb dX11_proposalOf_0 rfl (lv_at hl 0 rfl) ?_
  refine lv_iload_n hx hb dX11_proposalOf_1 rfl (lv_at hl 1 rfl) ?_
  refine wcall_i (rest := []) XX I hl.1 (c_O_isProposal l G OK oa na ka aa wa ra ma pa sd yd td owa nwa kpa aha awa rda mda tpa hha tha tra x1 _ rfl) kV_X11_158 (Rc.mk XX I (q0 := 0) (ci := 11) rfl rfl) rfl rfl (Nat.le_of_ble_eq_true rfl) ⟨rfl, rfl, Nat.le_of_ble_eq_true rfl, Nat.le_of_ble_eq_true rfl⟩ ⟨Nat.zero_le _, Nat.zero_le _⟩ dX11_proposalOf_2 (fun H locs hz1 I => ?_)
  refine lv_if_ne (tgt := 10) hx hb dX11_proposalOf_5 (by decide) (fun c1 => ?_) (fun c1 => ?_)
  · replace h := if_f h c1
    refine lv_iload_n hx hb dX11_proposalOf_10 rfl (lv_at hl 2 rfl) ?_
    refine lv_iconst (v := (-1)) hx hb dX11_proposalOf_11 (by decide) ?_
    refine lv_icmp_ne (tgt := 25) hx hb dX11_proposalOf_12 (by decide) (fun c1 => ?_) (fun c1 => ?_)
    · replace h := if_f h c1
      refine lv_aload_n hx hb dX11_proposalOf_25 rfl (lv_at hl 0 rfl) ?_
      refine lv_iload_n hx hb dX11_proposalOf_26 rfl (lv_at hl 2 rfl) ?_
      refine wcall_i (rest := []) XX I hl.1 (c_O_isPerson l G OK oa na ka aa wa ra ma pa sd yd td owa nwa kpa aha awa rda mda tpa hha tha tra x2 _ rfl) kV_X11_131 (Rc.mk XX I (q0 := 0) (ci := 11) rfl rfl) rfl rfl (Nat.le_of_ble_eq_true rfl) ⟨rfl, rfl, Nat.le_of_ble_eq_true rfl, Nat.le_of_ble_eq_true rfl⟩ ⟨Nat.zero_le _, Nat.zero_le _⟩ dX11_proposalOf_27 (fun H locs hz2 I => ?_)
      refine lv_if_ne (tgt := 35) hx hb dX11_proposalOf_30 (by decide) (fun c1 => ?_) (fun c1 => ?_)
      · replace h := if_f h c1
        refine lv_aload_n hx hb dX11_proposalOf_35 rfl (lv_at hl 0 rfl) ?_
        refine gO_X11_o0_now XX I dX11_proposalOf_36 ?_
        refine gO_X11_o1_worth XX I dX11_proposalOf_39 ?_
        refine lv_iload_n hx hb dX11_proposalOf_42 rfl (lv_at hl 1 rfl) ?_
        obtain ⟨g3, h⟩ := gd_some h
        refine r_aaldI XX I 39 rfl (v := .ref (na (20 + x1.toNatClampNeg))) rfl g3 dX11_proposalOf_43 ?_
        refine lv_iload_n hx hb dX11_proposalOf_44 rfl (lv_at hl 2 rfl) ?_
        obtain ⟨g4, h⟩ := gd_some h
        refine r_iald XX I (41 + x1.toNatClampNeg) (aO_row1 (vin_lt g3)) g4 dX11_proposalOf_45 ?_
        refine lv_bipush (v := 10) hx hb dX11_proposalOf_46 (by decide) ?_
        refine lv_iadd hx hb dX11_proposalOf_48 ?_
        obtain rfl := some1 h
        exact e_i rfl XX hr I rfl dX11_proposalOf_49
      · replace h := if_t h c1
        refine lv_iconst (v := (-1)) hx hb dX11_proposalOf_33 (by decide) ?_
        obtain rfl := some1 h
        exact e_i rfl XX hr I rfl dX11_proposalOf_34
    · replace h := if_t h c1
      refine lv_aload_n hx hb dX11_proposalOf_15 rfl (lv_at hl 0 rfl) ?_
      refine gO_X11_o0_now XX I dX11_proposalOf_16 ?_
      refine gO_X11_o1_weight XX I dX11_proposalOf_19 ?_
      refine lv_iload_n hx hb dX11_proposalOf_22 rfl (lv_at hl 1 rfl) ?_
      obtain ⟨g5, h⟩ := gd_some h
      refine r_iald XX I 38 (aO_weight1) g5 dX11_proposalOf_23 ?_
      obtain rfl := some1 h
      exact e_i rfl XX hr I rfl dX11_proposalOf_24
  · replace h := if_t h c1
    refine lv_iconst (v := (-1)) hx hb dX11_proposalOf_8 (by decide) ?_
    obtain rfl := some1 h
    exact e_i rfl XX hr I rfl dX11_proposalOf_9
set_option maxRecDepth 100000 in
theorem kS_X11_167 : KS RX11 167 yX11_mayBeLaw cX11_mayBeLaw 2 (some .boolean) 2 := KS.mk wd_544 wd_545 wd_1 wd_546 (by decide +kernel)
set_option maxRecDepth 100000 in
theorem gO_X11_o1_law {p : Program} {l : Launch} {e : Env} {R : Room} {s0 : State} {m : MethodId} {args : Array Value} {below : List Frame} {meth : Method} {c : Code} {H : Heap} {locs : List Loc} {cells slots : Nat} {Q : State → Prop} {cc : ByteArray} {nL pc : Nat} {ls : Array Slot} {rest : List Value} {G : g_G} {A : Nat → Prop} {oa : Nat → Nat} {na : Nat → Nat} {ka : Nat → Nat} {aa : Nat → Nat} {wa : Nat → Nat} {ra : Nat → Nat} {ma : Nat → Nat} {pa : Nat → Nat} {sd : Nat → Nat → Nat} {yd : Nat → Nat} {td : Nat → Nat} {ow : g_St} {nw : g_St} {kp : g_St} {ah : g_St} {aw : g_St} {rd : g_St} {md : g_St} {tp : g_St} {hh : g_Sf} {th : g_St} {tr : g_St} (XX : Cx G A p s0 m meth c cc nL RX11 args) (I : Iv G A s0 H locs (bO G oa na ka aa ra pa sd yd td ow ++ (bV G na nw ++ (bV G ka kp ++ (bA G aa wa ah ++ (bV G wa aw ++ (bT G ra ma rd ++ (bV G ma md ++ (bP G pa tp ++ (bH G sd hh ++ (bY G yd td th ++ (bK G td tr ++ [])))))))))))) (hdg : decode cc pc = .ok (.getfield 171, 3)) (kk : W p l e R s0 m args below meth c H locs cells slots Q (F0 m (pc + 3) ls (.ref (na 10) :: rest))) : W p l e R s0 m args below meth c H locs cells slots Q (F0 m pc ls (.ref (na 0) :: rest)) := r_get kfX9 XX I 32 rfl 9 (Nat.le_of_ble_eq_true rfl) wd_67 rfl hdg kk
set_option maxRecDepth 100000 in
theorem aO_law1 {G : g_G} {oa : Nat → Nat} {na : Nat → Nat} {ka : Nat → Nat} {aa : Nat → Nat} {wa : Nat → Nat} {ra : Nat → Nat} {ma : Nat → Nat} {pa : Nat → Nat} {sd : Nat → Nat → Nat} {yd : Nat → Nat} {td : Nat → Nat} {ow : g_St} {nw : g_St} {kp : g_St} {ah : g_St} {aw : g_St} {rd : g_St} {md : g_St} {tp : g_St} {hh : g_Sf} {th : g_St} {tr : g_St} : (bO G oa na ka aa ra pa sd yd td ow ++ (bV G na nw ++ (bV G ka kp ++ (bA G aa wa ah ++ (bV G wa aw ++ (bT G ra ma rd ++ (bV G ma md ++ (bP G pa tp ++ (bH G sd hh ++ (bY G yd td th ++ (bK G td tr ++ [])))))))))))[40]? = some (na 10, .inl (G.2.1 0, 4, .inl (gr nw 9))) := rfl
set_option maxRecDepth 100000 in
theorem sO_law1 {G : g_G} {oa : Nat → Nat} {na : Nat → Nat} {ka : Nat → Nat} {aa : Nat → Nat} {wa : Nat → Nat} {ra : Nat → Nat} {ma : Nat → Nat} {pa : Nat → Nat} {sd : Nat → Nat → Nat} {yd : Nat → Nat} {td : Nat → Nat} {ow : g_St} {nw : g_St} {kp : g_St} {ah : g_St} {aw : g_St} {rd : g_St} {md : g_St} {tp : g_St} {hh : g_Sf} {th : g_St} {tr : g_St} {i : Int32} {x : Int32} : (bO G oa na ka aa ra pa sd yd td ow ++ (bV G na nw ++ (bV G ka kp ++ (bA G aa wa ah ++ (bV G wa aw ++ (bT G ra ma rd ++ (bV G ma md ++ (bP G pa tp ++ (bH G sd hh ++ (bY G yd td th ++ (bK G td tr ++ []))))))))))).set 40 (na 10, .inl (G.2.1 0, 4, .inl (upd (gr nw 9) i.toNatClampNeg x))) = (bO G oa na ka aa ra pa sd yd td ow ++ (bV G na (sr nw 9 i x) ++ (bV G ka kp ++ (bA G aa wa ah ++ (bV G wa aw ++ (bT G ra ma rd ++ (bV G ma md ++ (bP G pa tp ++ (bH G sd hh ++ (bY G yd td th ++ (bK G td tr ++ []))))))))))) := rfl
set_option maxHeartbeats 4000000 in
set_option maxRecDepth 100000 in
theorem c_O_set (l : Launch) (G : g_G) (OK : EOk G.2.2) (oa : Nat → Nat) (na : Nat → Nat) (ka : Nat → Nat) (aa : Nat → Nat) (wa : Nat → Nat) (ra : Nat → Nat) (ma : Nat → Nat) (pa : Nat → Nat) (sd : Nat → Nat → Nat) (yd : Nat → Nat) (td : Nat → Nat) (owa : g_St) (nwa : g_St) (kpa : g_St) (aha : g_St) (awa : g_St) (rda : g_St) (mda : g_St) (tpa : g_St) (hha : g_Sf) (tha : g_St) (tra : g_St) (x1 : Int32) (x2 : Int32) (r : Int32) (tnw : g_St) (h : f_O_set nwa x1 x2 = some (r, tnw)) : HI l G yX11_set (Cond.code yX11_set cX11_set 4 (some .int) :: gT) { frames := 2, cells := 0, slots := 0, locals := 43 } .int [.ref (oa 0), .int x1, .int x2] (bO G oa na ka aa ra pa sd yd td owa ++ (bV G na nwa ++ (bV G ka kpa ++ (bA G aa wa aha ++ (bV G wa awa ++ (bT G ra ma rda ++ (bV G ma mda ++ (bP G pa tpa ++ (bH G sd hha ++ (bY G yd td tha ++ (bK G td tra ++ []))))))))))) r (bO G oa na ka aa ra pa sd yd td owa ++ (bV G na tnw ++ (bV G ka kpa ++ (bA G aa wa aha ++ (bV G wa awa ++ (bT G ra ma rda ++ (bV G ma mda ++ (bP G pa tpa ++ (bH G sd hha ++ (bY G yd td tha ++ (bK G td tra ++ []))))))))))) := by
  refine HI.mk (lv := [(0, .ref (oa 0)), (1, .int x1), (2, .int x2)]) OK (by decide) (Nat.le_of_ble_eq_true rfl) rfl ?_
  intro p e s0 m args below meth c ls XX hr I hl
  have hx := XX.x
  have hb := XX.b
  unfold f_O_set at h
  refine lv_iload_n hx hb dX11_set_0 rfl (lv_at hl 1 rfl) ?_
  refine lv_iload_n hx hb dX11_set_1 rfl (lv_at hl 2 rfl) ?_
  refine scall_i (rest := []) XX I hl.1 (c_S_mayBeLaw l G OK x1 x2 _ rfl) kS_X11_167 rfl rfl (Nat.le_of_ble_eq_true rfl) ⟨rfl, rfl, Nat.le_of_ble_eq_true rfl, Nat.le_of_ble_eq_true rfl⟩ ⟨Nat.zero_le _, Nat.zero_le _⟩ dX11_set_2 (fun H locs hz1 I => ?_)
  refine lv_if_ne (tgt := 10) hx hb dX11_set_5 (by decide) (fun c1 => ?_) (fun c1 => ?_)
  · replace h := if_f h c1
    refine lv_aload_n hx hb dX11_set_10 rfl (lv_at hl 0 rfl) ?_
    refine gO_X11_o0_now XX I dX11_set_11 ?_
    refine gO_X11_o1_law XX I dX11_set_14 ?_
    refine lv_iload_n hx hb dX11_set_17 rfl (lv_at hl 1 rfl) ?_
    obtain ⟨g2, h⟩ := gd_some h
    refine r_iald XX I 40 (aO_law1) g2 dX11_set_18 ?_
    refine lv_topi (fun y3 ey3 => ?_)
    replace h := lt_e h ey3
    refine lv_istore_n (lv' := [(3, .int y3), (0, .ref (oa 0)), (1, .int x1), (2, .int x2)]) hx hb dX11_set_19 rfl hl (by decide) rfl (fun ls hl => ?_)
    refine lv_aload_n hx hb dX11_set_20 rfl (lv_at hl 1 rfl) ?_
    refine gO_X11_o0_now XX I dX11_set_21 ?_
    refine gO_X11_o1_law XX I dX11_set_24 ?_
    refine lv_iload_n hx hb dX11_set_27 rfl (lv_at hl 2 rfl) ?_
    refine lv_iload_n hx hb dX11_set_28 rfl (lv_at hl 3 rfl) ?_
    obtain ⟨g4, h⟩ := gd_some h
    refine r_iast XX I 40 (aO_law1) (sO_law1) g4 dX11_set_29 (fun H locs I => ?_)
    obtain ⟨s5, es5⟩ : ∃ z, z = sr nwa 9 x1 x2 := ⟨_, rfl⟩
    replace h := lt_e h es5
    replace I : Iv G (va_A (bO G oa na ka aa ra pa sd yd td owa ++ (bV G na nwa ++ (bV G ka kpa ++ (bA G aa wa aha ++ (bV G wa awa ++ (bT G ra ma rda ++ (bV G ma mda ++ (bP G pa tpa ++ (bH G sd hha ++ (bY G yd td tha ++ (bK G td tra ++ []))))))))))) s0.heap.size) s0 H locs (bO G oa na ka aa ra pa sd yd td owa ++ (bV G na s5 ++ (bV G ka kpa ++ (bA G aa wa aha ++ (bV G wa awa ++ (bT G ra ma rda ++ (bV G ma mda ++ (bP G pa tpa ++ (bH G sd hha ++ (bY G yd td tha ++ (bK G td tra ++ []))))))))))) := by rw [es5]; exact I
    refine lv_iload_n hx hb dX11_set_30 rfl (lv_at hl 0 rfl) ?_
    obtain ⟨rfl, rfl⟩ := some2 h
    exact e_i rfl XX hr I rfl dX11_set_31
  · replace h := if_t h c1
    refine lv_iconst (v := (-1)) hx hb dX11_set_8 (by decide) ?_
    obtain ⟨rfl, rfl⟩ := some2 h
    exact e_i rfl XX hr I rfl dX11_set_9
set_option maxHeartbeats 4000000 in
set_option maxRecDepth 100000 in
theorem c_O_law (l : Launch) (G : g_G) (OK : EOk G.2.2) (oa : Nat → Nat) (na : Nat → Nat) (ka : Nat → Nat) (aa : Nat → Nat) (wa : Nat → Nat) (ra : Nat → Nat) (ma : Nat → Nat) (pa : Nat → Nat) (sd : Nat → Nat → Nat) (yd : Nat → Nat) (td : Nat → Nat) (owa : g_St) (nwa : g_St) (kpa : g_St) (aha : g_St) (awa : g_St) (rda : g_St) (mda : g_St) (tpa : g_St) (hha : g_Sf) (tha : g_St) (tra : g_St) (x1 : Int32) (r : Int32) (h : f_O_law nwa x1 = some r) : HI l G yX11_law (Cond.code yX11_law cX11_law 2 (some .int) :: gT) { frames := 1, cells := 0, slots := 0, locals := 22 } .int [.ref (oa 0), .int x1] (bO G oa na ka aa ra pa sd yd td owa ++ (bV G na nwa ++ (bV G ka kpa ++ (bA G aa wa aha ++ (bV G wa awa ++ (bT G ra ma rda ++ (bV G ma mda ++ (bP G pa tpa ++ (bH G sd hha ++ (bY G yd td tha ++ (bK G td tra ++ []))))))))))) r (bO G oa na ka aa ra pa sd yd td owa ++ (bV G na nwa ++ (bV G ka kpa ++ (bA G aa wa aha ++ (bV G wa awa ++ (bT G ra ma rda ++ (bV G ma mda ++ (bP G pa tpa ++ (bH G sd hha ++ (bY G yd td tha ++ (bK G td tra ++ []))))))))))) := by
  refine HI.mk (lv := [(0, .ref (oa 0)), (1, .int x1)]) OK (by decide) (Nat.le_of_ble_eq_true rfl) rfl ?_
  intro p e s0 m args below meth c ls XX hr I hl
  have hx := XX.x
  have hb := XX.b
  unfold f_O_law at h
  refine lv_iload_n hx hb dX11_law_0 rfl (lv_at hl 1 rfl) ?_
  refine lv_iconst (v := 0) hx hb dX11_law_1 (by decide) ?_
  refine lv_iconst (v := 3) hx hb dX11_law_2 (by decide) ?_
  refine scall_i (rest := []) XX I hl.1 (c_S_within l G OK x1 (0 : Int32) (3 : Int32) _ rfl) kS_X11_103 rfl rfl (Nat.le_of_ble_eq_true rfl) ⟨rfl, rfl, Nat.le_of_ble_eq_true rfl, Nat.le_of_ble_eq_true rfl⟩ ⟨Nat.zero_le _, Nat.zero_le _⟩ dX11_law_3 (fun H locs hz1 I => ?_)
  refine lv_if_eq (tgt := 21) hx hb dX11_law_6 (by decide) (fun c1 => ?_) (fun c1 => ?_)
  · replace h := if_t h c1
    refine lv_iconst (v := (-1)) hx hb dX11_law_21 (by decide) ?_
    obtain rfl := some1 h
    exact e_i rfl XX hr I rfl dX11_law_22
  · replace h := if_f h c1
    refine lv_aload_n hx hb dX11_law_9 rfl (lv_at hl 0 rfl) ?_
    refine gO_X11_o0_now XX I dX11_law_10 ?_
    refine gO_X11_o1_law XX I dX11_law_13 ?_
    refine lv_iload_n hx hb dX11_law_16 rfl (lv_at hl 1 rfl) ?_
    obtain ⟨g2, h⟩ := gd_some h
    refine r_iald XX I 40 (aO_law1) g2 dX11_law_17 ?_
    refine lv_goto (tgt := 22) hx hb dX11_law_18 (by decide) ?_
    obtain rfl := some1 h
    exact e_i rfl XX hr I rfl dX11_law_22
set_option maxRecDepth 100000 in
theorem kV_X11_174 : KV RX11 174 RX9 yX9_packedNoes cX9_packedNoes 3 (some .int) 0 := KV.mk wd_555 wd_556 wd_557 wd_2 wd_558 (by decide +kernel)
set_option maxRecDepth 100000 in
theorem kV_X11_178 : KV RX11 178 RX9 yX9_whoWould cX9_whoWould 8 (some .int) 3 := KV.mk wd_559 wd_560 wd_561 wd_2 wd_562 (by decide +kernel)
set_option maxHeartbeats 4000000 in
set_option maxRecDepth 100000 in
theorem c_O_would (l : Launch) (G : g_G) (OK : EOk G.2.2) (oa : Nat → Nat) (na : Nat → Nat) (ka : Nat → Nat) (aa : Nat → Nat) (wa : Nat → Nat) (ra : Nat → Nat) (ma : Nat → Nat) (pa : Nat → Nat) (sd : Nat → Nat → Nat) (yd : Nat → Nat) (td : Nat → Nat) (fu : Nat) (owa : g_St) (nwa : g_St) (kpa : g_St) (aha : g_St) (awa : g_St) (rda : g_St) (mda : g_St) (tpa : g_St) (hha : g_Sf) (tha : g_St) (tra : g_St) (x1 : Int32) (r : Int32) (h : f_O_would fu nwa x1 = some r) : HI l G yX11_would (Cond.code yX11_would cX11_would 2 (some .int) :: gT) { frames := 3, cells := 0, slots := 0, locals := 76 } .int [.ref (oa 0), .int x1] (bO G oa na ka aa ra pa sd yd td owa ++ (bV G na nwa ++ (bV G ka kpa ++ (bA G aa wa aha ++ (bV G wa awa ++ (bT G ra ma rda ++ (bV G ma mda ++ (bP G pa tpa ++ (bH G sd hha ++ (bY G yd td tha ++ (bK G td tra ++ []))))))))))) r (bO G oa na ka aa ra pa sd yd td owa ++ (bV G na nwa ++ (bV G ka kpa ++ (bA G aa wa aha ++ (bV G wa awa ++ (bT G ra ma rda ++ (bV G ma mda ++ (bP G pa tpa ++ (bH G sd hha ++ (bY G yd td tha ++ (bK G td tra ++ []))))))))))) := by
  refine HI.mk (lv := [(0, .ref (oa 0)), (1, .int x1)]) OK (by decide) (Nat.le_of_ble_eq_true rfl) rfl ?_
  intro p e s0 m args below meth c ls XX hr I hl
  have hx := XX.x
  have hb := XX.b
  unfold f_O_would at h
  refine lv_aload_n hx hb dX11_would_0 rfl (lv_at hl 0 rfl) ?_
  refine lv_iload_n hx hb dX11_would_1 rfl (lv_at hl 1 rfl) ?_
  refine wcall_i (rest := []) XX I hl.1 (c_O_isProposal l G OK oa na ka aa wa ra ma pa sd yd td owa nwa kpa aha awa rda mda tpa hha tha tra x1 _ rfl) kV_X11_158 (Rc.mk XX I (q0 := 0) (ci := 11) rfl rfl) rfl rfl (Nat.le_of_ble_eq_true rfl) ⟨rfl, rfl, Nat.le_of_ble_eq_true rfl, Nat.le_of_ble_eq_true rfl⟩ ⟨Nat.zero_le _, Nat.zero_le _⟩ dX11_would_2 (fun H locs hz1 I => ?_)
  refine lv_if_ne (tgt := 10) hx hb dX11_would_5 (by decide) (fun c1 => ?_) (fun c1 => ?_)
  · replace h := if_f h c1
    refine lv_aload_n hx hb dX11_would_10 rfl (lv_at hl 0 rfl) ?_
    refine gO_X11_o0_now XX I dX11_would_11 ?_
    refine lv_iload_n hx hb dX11_would_14 rfl (lv_at hl 1 rfl) ?_
    refine lv_aload_n hx hb dX11_would_15 rfl (lv_at hl 0 rfl) ?_
    refine gO_X11_o0_now XX I dX11_would_16 ?_
    refine gO_X11_o1_law XX I dX11_would_19 ?_
    refine lv_iconst (v := 3) hx hb dX11_would_22 (by decide) ?_
    refine r_iald XX I 40 (aO_law1) (by unfold vp_in; decide) dX11_would_23 ?_
    refine lv_aload_n hx hb dX11_would_24 rfl (lv_at hl 0 rfl) ?_
    refine gO_X11_o0_now XX I dX11_would_25 ?_
    obtain ⟨r2, q3, h⟩ := bd1_some h
    have RC := (Rc.mk XX I (q0 := 32) (ci := 9) rfl rfl)
    replace I : Iv G (va_A (bO G oa na ka aa ra pa sd yd td owa ++ (bV G na nwa ++ (bV G ka kpa ++ (bA G aa wa aha ++ (bV G wa awa ++ (bT G ra ma rda ++ (bV G ma mda ++ (bP G pa tpa ++ (bH G sd hha ++ (bY G yd td tha ++ (bK G td tra ++ []))))))))))) s0.heap.size) s0 _ _ ((bV G na nwa) ++ (bO G oa na ka aa ra pa sd yd td owa ++ (bV G ka kpa ++ (bA G aa wa aha ++ (bV G wa awa ++ (bT G ra ma rda ++ (bV G ma mda ++ (bP G pa tpa ++ (bH G sd hha ++ (bY G yd td tha ++ (bK G td tra ++ []))))))))))) := I.perm ((List.Perm.append_left _ (List.Perm.refl _)).trans (List.perm_append_comm_assoc _ _ _))
    refine call_i (X := []) (wc := (bV G na nwa)) (Y := (bO G oa na ka aa ra pa sd yd td owa ++ (bV G ka kpa ++ (bA G aa wa aha ++ (bV G wa awa ++ (bT G ra ma rda ++ (bV G ma mda ++ (bP G pa tpa ++ (bH G sd hha ++ (bY G yd td tha ++ (bK G td tra ++ []))))))))))) (rest := [.int (gr nwa 9 (3 : Int32).toNatClampNeg), .int x1, .ref (na 0)]) XX I hl.1 (c_V_packedNoes l G OK na fu nwa r2 q3) kV_X11_174 RC rfl rfl (Nat.le_of_ble_eq_true rfl) ⟨rfl, rfl, Nat.le_of_ble_eq_true rfl, Nat.le_of_ble_eq_true rfl⟩ ⟨Nat.zero_le _, Nat.zero_le _⟩ dX11_would_28 (fun H locs hz4 I => ?_)
    replace I : Iv G (va_A (bO G oa na ka aa ra pa sd yd td owa ++ (bV G na nwa ++ (bV G ka kpa ++ (bA G aa wa aha ++ (bV G wa awa ++ (bT G ra ma rda ++ (bV G ma mda ++ (bP G pa tpa ++ (bH G sd hha ++ (bY G yd td tha ++ (bK G td tra ++ []))))))))))) s0.heap.size) s0 H locs (bO G oa na ka aa ra pa sd yd td owa ++ (bV G na nwa ++ (bV G ka kpa ++ (bA G aa wa aha ++ (bV G wa awa ++ (bT G ra ma rda ++ (bV G ma mda ++ (bP G pa tpa ++ (bH G sd hha ++ (bY G yd td tha ++ (bK G td tra ++ []))))))))))) := Iv.perm (w := (bV G na nwa) ++ (bO G oa na ka aa ra pa sd yd td owa ++ (bV G ka kpa ++ (bA G aa wa aha ++ (bV G wa awa ++ (bT G ra ma rda ++ (bV G ma mda ++ (bP G pa tpa ++ (bH G sd hha ++ (bY G yd td tha ++ (bK G td tra ++ []))))))))))) I (((List.Perm.append_left _ (List.Perm.refl _)).trans (List.perm_append_comm_assoc _ _ _)).symm)
    obtain ⟨r5, q6, h⟩ := bd1_some h
    have RC := (Rc.mk XX I (q0 := 32) (ci := 9) rfl rfl)
    replace I : Iv G (va_A (bO G oa na ka aa ra pa sd yd td owa ++ (bV G na nwa ++ (bV G ka kpa ++ (bA G aa wa aha ++ (bV G wa awa ++ (bT G ra ma rda ++ (bV G ma mda ++ (bP G pa tpa ++ (bH G sd hha ++ (bY G yd td tha ++ (bK G td tra ++ []))))))))))) s0.heap.size) s0 _ _ ((bV G na nwa) ++ (bO G oa na ka aa ra pa sd yd td owa ++ (bV G ka kpa ++ (bA G aa wa aha ++ (bV G wa awa ++ (bT G ra ma rda ++ (bV G ma mda ++ (bP G pa tpa ++ (bH G sd hha ++ (bY G yd td tha ++ (bK G td tra ++ []))))))))))) := I.perm ((List.Perm.append_left _ (List.Perm.refl _)).trans (List.perm_append_comm_assoc _ _ _))
    refine call_i (X := []) (wc := (bV G na nwa)) (Y := (bO G oa na ka aa ra pa sd yd td owa ++ (bV G ka kpa ++ (bA G aa wa aha ++ (bV G wa awa ++ (bT G ra ma rda ++ (bV G ma mda ++ (bP G pa tpa ++ (bH G sd hha ++ (bY G yd td tha ++ (bK G td tra ++ []))))))))))) (rest := []) XX I hl.1 (c_V_whoWould l G OK na fu nwa x1 (gr nwa 9 (3 : Int32).toNatClampNeg) r2 r5 q6) kV_X11_178 RC rfl rfl (Nat.le_of_ble_eq_true rfl) ⟨rfl, rfl, Nat.le_of_ble_eq_true rfl, Nat.le_of_ble_eq_true rfl⟩ ⟨Nat.zero_le _, Nat.zero_le _⟩ dX11_would_31 (fun H locs hz7 I => ?_)
    replace I : Iv G (va_A (bO G oa na ka aa ra pa sd yd td owa ++ (bV G na nwa ++ (bV G ka kpa ++ (bA G aa wa aha ++ (bV G wa awa ++ (bT G ra ma rda ++ (bV G ma mda ++ (bP G pa tpa ++ (bH G sd hha ++ (bY G yd td tha ++ (bK G td tra ++ []))))))))))) s0.heap.size) s0 H locs (bO G oa na ka aa ra pa sd yd td owa ++ (bV G na nwa ++ (bV G ka kpa ++ (bA G aa wa aha ++ (bV G wa awa ++ (bT G ra ma rda ++ (bV G ma mda ++ (bP G pa tpa ++ (bH G sd hha ++ (bY G yd td tha ++ (bK G td tra ++ []))))))))))) := Iv.perm (w := (bV G na nwa) ++ (bO G oa na ka aa ra pa sd yd td owa ++ (bV G ka kpa ++ (bA G aa wa aha ++ (bV G wa awa ++ (bT G ra ma rda ++ (bV G ma mda ++ (bP G pa tpa ++ (bH G sd hha ++ (bY G yd td tha ++ (bK G td tra ++ []))))))))))) I (((List.Perm.append_left _ (List.Perm.refl _)).trans (List.perm_append_comm_assoc _ _ _)).symm)
    obtain rfl := some1 h
    exact e_i rfl XX hr I rfl dX11_would_34
  · replace h := if_t h c1
    refine lv_iconst (v := (-1)) hx hb dX11_would_8 (by decide) ?_
    obtain rfl := some1 h
    exact e_i rfl XX hr I rfl dX11_would_9
set_option maxRecDepth 100000 in
theorem kV_X11_182 : KV RX11 182 RX9 yX9_whoSays cX9_whoSays 4 (some .int) 3 := KV.mk wd_590 wd_591 wd_592 wd_2 wd_593 (by decide +kernel)
set_option maxHeartbeats 4000000 in
set_option maxRecDepth 100000 in
theorem c_O_says (l : Launch) (G : g_G) (OK : EOk G.2.2) (oa : Nat → Nat) (na : Nat → Nat) (ka : Nat → Nat) (aa : Nat → Nat) (wa : Nat → Nat) (ra : Nat → Nat) (ma : Nat → Nat) (pa : Nat → Nat) (sd : Nat → Nat → Nat) (yd : Nat → Nat) (td : Nat → Nat) (fu : Nat) (owa : g_St) (nwa : g_St) (kpa : g_St) (aha : g_St) (awa : g_St) (rda : g_St) (mda : g_St) (tpa : g_St) (hha : g_Sf) (tha : g_St) (tra : g_St) (x1 : Int32) (r : Int32) (h : f_O_says fu nwa x1 = some r) : HI l G yX11_says (Cond.code yX11_says cX11_says 2 (some .int) :: gT) { frames := 4, cells := 0, slots := 0, locals := 99 } .int [.ref (oa 0), .int x1] (bO G oa na ka aa ra pa sd yd td owa ++ (bV G na nwa ++ (bV G ka kpa ++ (bA G aa wa aha ++ (bV G wa awa ++ (bT G ra ma rda ++ (bV G ma mda ++ (bP G pa tpa ++ (bH G sd hha ++ (bY G yd td tha ++ (bK G td tra ++ []))))))))))) r (bO G oa na ka aa ra pa sd yd td owa ++ (bV G na nwa ++ (bV G ka kpa ++ (bA G aa wa aha ++ (bV G wa awa ++ (bT G ra ma rda ++ (bV G ma mda ++ (bP G pa tpa ++ (bH G sd hha ++ (bY G yd td tha ++ (bK G td tra ++ []))))))))))) := by
  refine HI.mk (lv := [(0, .ref (oa 0)), (1, .int x1)]) OK (by decide) (Nat.le_of_ble_eq_true rfl) rfl ?_
  intro p e s0 m args below meth c ls XX hr I hl
  have hx := XX.x
  have hb := XX.b
  unfold f_O_says at h
  refine lv_aload_n hx hb dX11_says_0 rfl (lv_at hl 0 rfl) ?_
  refine lv_iload_n hx hb dX11_says_1 rfl (lv_at hl 1 rfl) ?_
  refine wcall_i (rest := []) XX I hl.1 (c_O_isProposal l G OK oa na ka aa wa ra ma pa sd yd td owa nwa kpa aha awa rda mda tpa hha tha tra x1 _ rfl) kV_X11_158 (Rc.mk XX I (q0 := 0) (ci := 11) rfl rfl) rfl rfl (Nat.le_of_ble_eq_true rfl) ⟨rfl, rfl, Nat.le_of_ble_eq_true rfl, Nat.le_of_ble_eq_true rfl⟩ ⟨Nat.zero_le _, Nat.zero_le _⟩ dX11_says_2 (fun H locs hz1 I => ?_)
  refine lv_if_ne (tgt := 10) hx hb dX11_says_5 (by decide) (fun c1 => ?_) (fun c1 => ?_)
  · replace h := if_f h c1
    refine lv_aload_n hx hb dX11_says_10 rfl (lv_at hl 0 rfl) ?_
    refine gO_X11_o0_now XX I dX11_says_11 ?_
    refine lv_iload_n hx hb dX11_says_14 rfl (lv_at hl 1 rfl) ?_
    refine lv_aload_n hx hb dX11_says_15 rfl (lv_at hl 0 rfl) ?_
    refine gO_X11_o0_now XX I dX11_says_16 ?_
    refine gO_X11_o1_law XX I dX11_says_19 ?_
    refine lv_iconst (v := 3) hx hb dX11_says_22 (by decide) ?_
    refine r_iald XX I 40 (aO_law1) (by unfold vp_in; decide) dX11_says_23 ?_
    refine lv_aload_n hx hb dX11_says_24 rfl (lv_at hl 0 rfl) ?_
    refine gO_X11_o0_now XX I dX11_says_25 ?_
    obtain ⟨r2, q3, h⟩ := bd1_some h
    have RC := (Rc.mk XX I (q0 := 32) (ci := 9) rfl rfl)
    replace I : Iv G (va_A (bO G oa na ka aa ra pa sd yd td owa ++ (bV G na nwa ++ (bV G ka kpa ++ (bA G aa wa aha ++ (bV G wa awa ++ (bT G ra ma rda ++ (bV G ma mda ++ (bP G pa tpa ++ (bH G sd hha ++ (bY G yd td tha ++ (bK G td tra ++ []))))))))))) s0.heap.size) s0 _ _ ((bV G na nwa) ++ (bO G oa na ka aa ra pa sd yd td owa ++ (bV G ka kpa ++ (bA G aa wa aha ++ (bV G wa awa ++ (bT G ra ma rda ++ (bV G ma mda ++ (bP G pa tpa ++ (bH G sd hha ++ (bY G yd td tha ++ (bK G td tra ++ []))))))))))) := I.perm ((List.Perm.append_left _ (List.Perm.refl _)).trans (List.perm_append_comm_assoc _ _ _))
    refine call_i (X := []) (wc := (bV G na nwa)) (Y := (bO G oa na ka aa ra pa sd yd td owa ++ (bV G ka kpa ++ (bA G aa wa aha ++ (bV G wa awa ++ (bT G ra ma rda ++ (bV G ma mda ++ (bP G pa tpa ++ (bH G sd hha ++ (bY G yd td tha ++ (bK G td tra ++ []))))))))))) (rest := [.int (gr nwa 9 (3 : Int32).toNatClampNeg), .int x1, .ref (na 0)]) XX I hl.1 (c_V_packedNoes l G OK na fu nwa r2 q3) kV_X11_174 RC rfl rfl (Nat.le_of_ble_eq_true rfl) ⟨rfl, rfl, Nat.le_of_ble_eq_true rfl, Nat.le_of_ble_eq_true rfl⟩ ⟨Nat.zero_le _, Nat.zero_le _⟩ dX11_says_28 (fun H locs hz4 I => ?_)
    replace I : Iv G (va_A (bO G oa na ka aa ra pa sd yd td owa ++ (bV G na nwa ++ (bV G ka kpa ++ (bA G aa wa aha ++ (bV G wa awa ++ (bT G ra ma rda ++ (bV G ma mda ++ (bP G pa tpa ++ (bH G sd hha ++ (bY G yd td tha ++ (bK G td tra ++ []))))))))))) s0.heap.size) s0 H locs (bO G oa na ka aa ra pa sd yd td owa ++ (bV G na nwa ++ (bV G ka kpa ++ (bA G aa wa aha ++ (bV G wa awa ++ (bT G ra ma rda ++ (bV G ma mda ++ (bP G pa tpa ++ (bH G sd hha ++ (bY G yd td tha ++ (bK G td tra ++ []))))))))))) := Iv.perm (w := (bV G na nwa) ++ (bO G oa na ka aa ra pa sd yd td owa ++ (bV G ka kpa ++ (bA G aa wa aha ++ (bV G wa awa ++ (bT G ra ma rda ++ (bV G ma mda ++ (bP G pa tpa ++ (bH G sd hha ++ (bY G yd td tha ++ (bK G td tra ++ []))))))))))) I (((List.Perm.append_left _ (List.Perm.refl _)).trans (List.perm_append_comm_assoc _ _ _)).symm)
    obtain ⟨r5, q6, h⟩ := bd1_some h
    have RC := (Rc.mk XX I (q0 := 32) (ci := 9) rfl rfl)
    replace I : Iv G (va_A (bO G oa na ka aa ra pa sd yd td owa ++ (bV G na nwa ++ (bV G ka kpa ++ (bA G aa wa aha ++ (bV G wa awa ++ (bT G ra ma rda ++ (bV G ma mda ++ (bP G pa tpa ++ (bH G sd hha ++ (bY G yd td tha ++ (bK G td tra ++ []))))))))))) s0.heap.size) s0 _ _ ((bV G na nwa) ++ (bO G oa na ka aa ra pa sd yd td owa ++ (bV G ka kpa ++ (bA G aa wa aha ++ (bV G wa awa ++ (bT G ra ma rda ++ (bV G ma mda ++ (bP G pa tpa ++ (bH G sd hha ++ (bY G yd td tha ++ (bK G td tra ++ []))))))))))) := I.perm ((List.Perm.append_left _ (List.Perm.refl _)).trans (List.perm_append_comm_assoc _ _ _))
    refine call_i (X := []) (wc := (bV G na nwa)) (Y := (bO G oa na ka aa ra pa sd yd td owa ++ (bV G ka kpa ++ (bA G aa wa aha ++ (bV G wa awa ++ (bT G ra ma rda ++ (bV G ma mda ++ (bP G pa tpa ++ (bH G sd hha ++ (bY G yd td tha ++ (bK G td tra ++ []))))))))))) (rest := []) XX I hl.1 (c_V_whoSays l G OK na fu nwa x1 (gr nwa 9 (3 : Int32).toNatClampNeg) r2 r5 q6) kV_X11_182 RC rfl rfl (Nat.le_of_ble_eq_true rfl) ⟨rfl, rfl, Nat.le_of_ble_eq_true rfl, Nat.le_of_ble_eq_true rfl⟩ ⟨Nat.zero_le _, Nat.zero_le _⟩ dX11_says_31 (fun H locs hz7 I => ?_)
    replace I : Iv G (va_A (bO G oa na ka aa ra pa sd yd td owa ++ (bV G na nwa ++ (bV G ka kpa ++ (bA G aa wa aha ++ (bV G wa awa ++ (bT G ra ma rda ++ (bV G ma mda ++ (bP G pa tpa ++ (bH G sd hha ++ (bY G yd td tha ++ (bK G td tra ++ []))))))))))) s0.heap.size) s0 H locs (bO G oa na ka aa ra pa sd yd td owa ++ (bV G na nwa ++ (bV G ka kpa ++ (bA G aa wa aha ++ (bV G wa awa ++ (bT G ra ma rda ++ (bV G ma mda ++ (bP G pa tpa ++ (bH G sd hha ++ (bY G yd td tha ++ (bK G td tra ++ []))))))))))) := Iv.perm (w := (bV G na nwa) ++ (bO G oa na ka aa ra pa sd yd td owa ++ (bV G ka kpa ++ (bA G aa wa aha ++ (bV G wa awa ++ (bT G ra ma rda ++ (bV G ma mda ++ (bP G pa tpa ++ (bH G sd hha ++ (bY G yd td tha ++ (bK G td tra ++ []))))))))))) I (((List.Perm.append_left _ (List.Perm.refl _)).trans (List.perm_append_comm_assoc _ _ _)).symm)
    obtain rfl := some1 h
    exact e_i rfl XX hr I rfl dX11_says_34
  · replace h := if_t h c1
    refine lv_iconst (v := (-1)) hx hb dX11_says_8 (by decide) ?_
    obtain rfl := some1 h
    exact e_i rfl XX hr I rfl dX11_says_9
set_option maxRecDepth 100000 in
theorem kV_X11_185 : KV RX11 185 RX9 yX9_passYear cX9_passYear 7 (some .boolean) 1 := KV.mk wd_608 wd_609 wd_610 wd_2 wd_611 (by decide +kernel)
set_option maxHeartbeats 4000000 in
set_option maxRecDepth 100000 in
theorem c_O_comes (l : Launch) (G : g_G) (OK : EOk G.2.2) (oa : Nat → Nat) (na : Nat → Nat) (ka : Nat → Nat) (aa : Nat → Nat) (wa : Nat → Nat) (ra : Nat → Nat) (ma : Nat → Nat) (pa : Nat → Nat) (sd : Nat → Nat → Nat) (yd : Nat → Nat) (td : Nat → Nat) (fu : Nat) (owa : g_St) (nwa : g_St) (kpa : g_St) (aha : g_St) (awa : g_St) (rda : g_St) (mda : g_St) (tpa : g_St) (hha : g_Sf) (tha : g_St) (tra : g_St) (x1 : Int32) (r : Int32) (tnw : g_St) (h : f_O_comes fu nwa x1 = some (r, tnw)) : HI l G yX11_comes (Cond.code yX11_comes cX11_comes 2 (some .int) :: gT) { frames := 5, cells := 0, slots := 0, locals := 125 } .int [.ref (oa 0), .int x1] (bO G oa na ka aa ra pa sd yd td owa ++ (bV G na nwa ++ (bV G ka kpa ++ (bA G aa wa aha ++ (bV G wa awa ++ (bT G ra ma rda ++ (bV G ma mda ++ (bP G pa tpa ++ (bH G sd hha ++ (bY G yd td tha ++ (bK G td tra ++ []))))))))))) r (bO G oa na ka aa ra pa sd yd td owa ++ (bV G na tnw ++ (bV G ka kpa ++ (bA G aa wa aha ++ (bV G wa awa ++ (bT G ra ma rda ++ (bV G ma mda ++ (bP G pa tpa ++ (bH G sd hha ++ (bY G yd td tha ++ (bK G td tra ++ []))))))))))) := by
  refine HI.mk (lv := [(0, .ref (oa 0)), (1, .int x1)]) OK (by decide) (Nat.le_of_ble_eq_true rfl) rfl ?_
  intro p e s0 m args below meth c ls XX hr I hl
  have hx := XX.x
  have hb := XX.b
  unfold f_O_comes at h
  refine lv_aload_n hx hb dX11_comes_0 rfl (lv_at hl 0 rfl) ?_
  refine lv_iload_n hx hb dX11_comes_1 rfl (lv_at hl 1 rfl) ?_
  refine wcall_i (rest := []) XX I hl.1 (c_O_isProposal l G OK oa na ka aa wa ra ma pa sd yd td owa nwa kpa aha awa rda mda tpa hha tha tra x1 _ rfl) kV_X11_158 (Rc.mk XX I (q0 := 0) (ci := 11) rfl rfl) rfl rfl (Nat.le_of_ble_eq_true rfl) ⟨rfl, rfl, Nat.le_of_ble_eq_true rfl, Nat.le_of_ble_eq_true rfl⟩ ⟨Nat.zero_le _, Nat.zero_le _⟩ dX11_comes_2 (fun H locs hz1 I => ?_)
  refine lv_if_ne (tgt := 10) hx hb dX11_comes_5 (by decide) (fun c1 => ?_) (fun c1 => ?_)
  · replace h := if_f h c1
    refine lv_aload_n hx hb dX11_comes_10 rfl (lv_at hl 0 rfl) ?_
    refine gO_X11_o0_now XX I dX11_comes_11 ?_
    refine gO_X11_o1_law XX I dX11_comes_14 ?_
    refine lv_iconst (v := 3) hx hb dX11_comes_17 (by decide) ?_
    refine r_iald XX I 40 (aO_law1) (by unfold vp_in; decide) dX11_comes_18 ?_
    refine lv_sipush (v := 999) hx hb dX11_comes_19 (by decide) ?_
    refine lv_icmp_lt (tgt := 28) hx hb dX11_comes_22 (by decide) (fun c1 => ?_) (fun c1 => ?_)
    · replace h := if_t h c1
      refine lv_aload_n hx hb dX11_comes_28 rfl (lv_at hl 0 rfl) ?_
      refine gO_X11_o0_now XX I dX11_comes_29 ?_
      refine lv_iload_n hx hb dX11_comes_32 rfl (lv_at hl 1 rfl) ?_
      obtain ⟨r2, s3, q4, h⟩ := bd2_some h
      have RC := (Rc.mk XX I (q0 := 32) (ci := 9) rfl rfl)
      replace I : Iv G (va_A (bO G oa na ka aa ra pa sd yd td owa ++ (bV G na nwa ++ (bV G ka kpa ++ (bA G aa wa aha ++ (bV G wa awa ++ (bT G ra ma rda ++ (bV G ma mda ++ (bP G pa tpa ++ (bH G sd hha ++ (bY G yd td tha ++ (bK G td tra ++ []))))))))))) s0.heap.size) s0 _ _ ((bV G na nwa) ++ (bO G oa na ka aa ra pa sd yd td owa ++ (bV G ka kpa ++ (bA G aa wa aha ++ (bV G wa awa ++ (bT G ra ma rda ++ (bV G ma mda ++ (bP G pa tpa ++ (bH G sd hha ++ (bY G yd td tha ++ (bK G td tra ++ []))))))))))) := I.perm ((List.Perm.append_left _ (List.Perm.refl _)).trans (List.perm_append_comm_assoc _ _ _))
      refine call_i (X := []) (wc := (bV G na nwa)) (Y := (bO G oa na ka aa ra pa sd yd td owa ++ (bV G ka kpa ++ (bA G aa wa aha ++ (bV G wa awa ++ (bT G ra ma rda ++ (bV G ma mda ++ (bP G pa tpa ++ (bH G sd hha ++ (bY G yd td tha ++ (bK G td tra ++ []))))))))))) (rest := []) XX I hl.1 (c_V_passYear l G OK na fu nwa x1 r2 s3 q4) kV_X11_185 RC rfl rfl (Nat.le_of_ble_eq_true rfl) ⟨rfl, rfl, Nat.le_of_ble_eq_true rfl, Nat.le_of_ble_eq_true rfl⟩ ⟨Nat.zero_le _, Nat.zero_le _⟩ dX11_comes_33 (fun H locs hz5 I => ?_)
      replace I : Iv G (va_A (bO G oa na ka aa ra pa sd yd td owa ++ (bV G na nwa ++ (bV G ka kpa ++ (bA G aa wa aha ++ (bV G wa awa ++ (bT G ra ma rda ++ (bV G ma mda ++ (bP G pa tpa ++ (bH G sd hha ++ (bY G yd td tha ++ (bK G td tra ++ []))))))))))) s0.heap.size) s0 H locs (bO G oa na ka aa ra pa sd yd td owa ++ (bV G na s3 ++ (bV G ka kpa ++ (bA G aa wa aha ++ (bV G wa awa ++ (bT G ra ma rda ++ (bV G ma mda ++ (bP G pa tpa ++ (bH G sd hha ++ (bY G yd td tha ++ (bK G td tra ++ []))))))))))) := Iv.perm (w := (bV G na s3) ++ (bO G oa na ka aa ra pa sd yd td owa ++ (bV G ka kpa ++ (bA G aa wa aha ++ (bV G wa awa ++ (bT G ra ma rda ++ (bV G ma mda ++ (bP G pa tpa ++ (bH G sd hha ++ (bY G yd td tha ++ (bK G td tra ++ []))))))))))) I (((List.Perm.append_left _ (List.Perm.refl _)).trans (List.perm_append_comm_assoc _ _ _)).symm)
      refine lv_if_eq (tgt := 43) hx hb dX11_comes_36 (by decide) (fun c1 => ?_) (fun c1 => ?_)
      · replace h := if_t h c1
        refine lv_iconst (v := 0) hx hb dX11_comes_43 (by decide) ?_
        obtain ⟨rfl, rfl⟩ := some2 h
        exact e_i rfl XX hr I rfl dX11_comes_44
      · replace h := if_f h c1
        refine lv_iconst (v := 1) hx hb dX11_comes_39 (by decide) ?_
        refine lv_goto (tgt := 44) hx hb dX11_comes_40 (by decide) ?_
        obtain ⟨rfl, rfl⟩ := some2 h
        exact e_i rfl XX hr I rfl dX11_comes_44
    · replace h := if_f h c1
      refine lv_bipush (v := (-4)) hx hb dX11_comes_25 (by decide) ?_
      obtain ⟨rfl, rfl⟩ := some2 h
      exact e_i rfl XX hr I rfl dX11_comes_27
  · replace h := if_t h c1
    refine lv_iconst (v := (-1)) hx hb dX11_comes_8 (by decide) ?_
    obtain ⟨rfl, rfl⟩ := some2 h
    exact e_i rfl XX hr I rfl dX11_comes_9
