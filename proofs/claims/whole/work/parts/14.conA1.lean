theorem gA_X0_o0_v {p : Program} {l : Launch} {e : Env} {R : Room} {s0 : State} {m : MethodId} {args : Array Value} {below : List Frame} {meth : Method} {c : Code} {H : Heap} {locs : List Loc} {cells slots : Nat} {Q : State → Prop} {cc : ByteArray} {nL pc : Nat} {ls : Array Slot} {rest : List Value} {G : g_G} {A : Nat → Prop} {ad bd : Nat → Nat} {a v : g_St} (XX : Cx G A p s0 m meth c cc nL RX0 args) (I : Iv G A s0 H locs (bA G ad bd a ++ (bV G bd v ++ []))) (hdg : decode cc pc = .ok (.getfield 12, 3)) (kk : W p l e R s0 m args below meth c H locs cells slots Q (F0 m (pc + 3) ls (.ref (bd 0) :: rest))) : W p l e R s0 m args below meth c H locs cells slots Q (F0 m pc ls (.ref (ad 0) :: rest)) := r_get kfX0 XX I 0 rfl 0 (Nat.le_of_ble_eq_true rfl) wd_110 rfl hdg kk
theorem gA_X0_o1_people {p : Program} {l : Launch} {e : Env} {R : Room} {s0 : State} {m : MethodId} {args : Array Value} {below : List Frame} {meth : Method} {c : Code} {H : Heap} {locs : List Loc} {cells slots : Nat} {Q : State → Prop} {cc : ByteArray} {nL pc : Nat} {ls : Array Slot} {rest : List Value} {G : g_G} {A : Nat → Prop} {ad bd : Nat → Nat} {a v : g_St} (XX : Cx G A p s0 m meth c cc nL RX0 args) (I : Iv G A s0 H locs (bA G ad bd a ++ (bV G bd v ++ []))) (hdg : decode cc pc = .ok (.getfield 79, 3)) (kk : W p l e R s0 m args below meth c H locs cells slots Q (F0 m (pc + 3) ls (.int (gi v 0) :: rest))) : W p l e R s0 m args below meth c H locs cells slots Q (F0 m pc ls (.ref (bd 0) :: rest)) := r_get kfX9 XX I 2 rfl 0 (Nat.le_of_ble_eq_true rfl) wd_40 rfl hdg kk
theorem gA_X0_o1_worth {p : Program} {l : Launch} {e : Env} {R : Room} {s0 : State} {m : MethodId} {args : Array Value} {below : List Frame} {meth : Method} {c : Code} {H : Heap} {locs : List Loc} {cells slots : Nat} {Q : State → Prop} {cc : ByteArray} {nL pc : Nat} {ls : Array Slot} {rest : List Value} {G : g_G} {A : Nat → Prop} {ad bd : Nat → Nat} {a v : g_St} (XX : Cx G A p s0 m meth c cc nL RX0 args) (I : Iv G A s0 H locs (bA G ad bd a ++ (bV G bd v ++ []))) (hdg : decode cc pc = .ok (.getfield 75, 3)) (kk : W p l e R s0 m args below meth c H locs cells slots Q (F0 m (pc + 3) ls (.ref (bd 9) :: rest))) : W p l e R s0 m args below meth c H locs cells slots Q (F0 m pc ls (.ref (bd 0) :: rest)) := r_get kfX9 XX I 2 rfl 8 (Nat.le_of_ble_eq_true rfl) wd_61 rfl hdg kk
theorem aA_row1 {G : g_G} {ad bd : Nat → Nat} {a v : g_St} {q : Nat} (hq : q < 8) : (bA G ad bd a ++ (bV G bd v ++ []))[11 + q]? = some (bd (20 + q), .inl (G.2.1 0, 6, .inl (gr v (20 + q)))) := by rcases (show q = 0 ∨ q = 1 ∨ q = 2 ∨ q = 3 ∨ q = 4 ∨ q = 5 ∨ q = 6 ∨ q = 7 by omega) with rfl | rfl | rfl | rfl | rfl | rfl | rfl | rfl <;> rfl
theorem sA_row1 {G : g_G} {ad bd : Nat → Nat} {a v : g_St} {q : Nat} (hq : q < 8) {i x : Int32} : (bA G ad bd a ++ (bV G bd v ++ [])).set (11 + q) (bd (20 + q), .inl (G.2.1 0, 6, .inl (upd (gr v (20 + q)) i.toNatClampNeg x))) = (bA G ad bd a ++ (bV G bd (sr v (20 + q) i x) ++ [])) := by rcases (show q = 0 ∨ q = 1 ∨ q = 2 ∨ q = 3 ∨ q = 4 ∨ q = 5 ∨ q = 6 ∨ q = 7 by omega) with rfl | rfl | rfl | rfl | rfl | rfl | rfl | rfl <;> rfl
set_option maxHeartbeats 4000000 in
set_option maxRecDepth 100000 in
theorem c_A_isLikedByAllButOne (l : Launch) (G : g_G) (OK : EOk G.2.2) (ad : Nat → Nat) (bd : Nat → Nat) (fu : Nat) (aa : g_St) (va : g_St) (x1 : Int32) (r : Int32) (h : f_A_isLikedByAllButOne fu va x1 = some r) : HI l G yX0_isLikedByAllButOne (Cond.code yX0_isLikedByAllButOne cX0_isLikedByAllButOne 4 (some .boolean) :: gT) { frames := 0, cells := 0, slots := 0, locals := 0 } .boolean [.ref (ad 0), .int x1] (bA G ad bd aa ++ (bV G bd va ++ [])) r (bA G ad bd aa ++ (bV G bd va ++ [])) := by
  refine HI.mk (lv := [(0, .ref (ad 0)), (1, .int x1)]) OK (by decide) (Nat.le_of_ble_eq_true rfl) rfl ?_
  intro p e s0 m args below meth c ls XX hr I hl
  have hx := XX.x
  have hb := XX.b
  have C4 : ∀ n : Nat, ∀ (v1 : Int32) (v2 : Int32) (v3 : Int32), f_A_isLikedByAllButOne_L4 fu n va v1 v2 v3 = some r → ∀ (H : Heap) (locs : List Loc), Iv G (va_A (bA G ad bd aa ++ (bV G bd va ++ [])) s0.heap.size) s0 H locs (bA G ad bd aa ++ (bV G bd va ++ [])) → ∀ ls, lv_has ls 4 [(0, .ref (ad 0)), (1, .int v1), (2, .int v2), (3, .int v3)] → W p l e { frames := 0, cells := 0, slots := 0, locals := 0 } s0 m args below meth c H locs 0 0 (QI G below .boolean r (bA G ad bd aa ++ (bV G bd va ++ [])) (bA G ad bd aa ++ (bV G bd va ++ [])) args s0) (F0 m 4 ls []) := by
    intro n
    induction n with
    | zero => intro v1 v2 v3 h; exact absurd h (fun q => by cases q)
    | succ n ih =>
      intro v1 v2 v3 h H locs I ls hl
      rw [f_A_isLikedByAllButOne_L4] at h
      refine lv_iload_n hx hb dX0_isLikedByAllButOne_4 rfl (lv_at hl 3 rfl) ?_
      refine lv_aload_n hx hb dX0_isLikedByAllButOne_5 rfl (lv_at hl 0 rfl) ?_
      refine gA_X0_o0_v XX I dX0_isLikedByAllButOne_6 ?_
      refine gA_X0_o1_people XX I dX0_isLikedByAllButOne_9 ?_
      refine lv_icmp_ge (tgt := 38) hx hb dX0_isLikedByAllButOne_12 (by decide) (fun c1 => ?_) (fun c1 => ?_)
      · replace h := if_t h c1
        refine lv_iload_n hx hb dX0_isLikedByAllButOne_38 rfl (lv_at hl 2 rfl) ?_
        refine lv_aload_n hx hb dX0_isLikedByAllButOne_39 rfl (lv_at hl 0 rfl) ?_
        refine gA_X0_o0_v XX I dX0_isLikedByAllButOne_40 ?_
        refine gA_X0_o1_people XX I dX0_isLikedByAllButOne_43 ?_
        refine lv_iconst (v := 1) hx hb dX0_isLikedByAllButOne_46 (by decide) ?_
        refine lv_isub hx hb dX0_isLikedByAllButOne_47 ?_
        refine lv_icmp_ne (tgt := 55) hx hb dX0_isLikedByAllButOne_48 (by decide) (fun c1 => ?_) (fun c1 => ?_)
        · replace h := if_f h c1
          refine lv_iconst (v := 0) hx hb dX0_isLikedByAllButOne_55 (by decide) ?_
          obtain rfl := some1 h
          exact e_z XX hr I rfl rfl dX0_isLikedByAllButOne_56
        · replace h := if_t h c1
          refine lv_iconst (v := 1) hx hb dX0_isLikedByAllButOne_51 (by decide) ?_
          refine lv_goto (tgt := 56) hx hb dX0_isLikedByAllButOne_52 (by decide) ?_
          obtain rfl := some1 h
          exact e_z XX hr I rfl rfl dX0_isLikedByAllButOne_56
      · replace h := if_f h c1
        refine lv_aload_n hx hb dX0_isLikedByAllButOne_15 rfl (lv_at hl 0 rfl) ?_
        refine gA_X0_o0_v XX I dX0_isLikedByAllButOne_16 ?_
        refine gA_X0_o1_worth XX I dX0_isLikedByAllButOne_19 ?_
        refine lv_iload_n hx hb dX0_isLikedByAllButOne_22 rfl (lv_at hl 1 rfl) ?_
        obtain ⟨g1, h⟩ := gd_some h
        refine r_aaldI XX I 9 rfl (v := .ref (bd (20 + v1.toNatClampNeg))) rfl g1 dX0_isLikedByAllButOne_23 ?_
        refine lv_iload_n hx hb dX0_isLikedByAllButOne_24 rfl (lv_at hl 3 rfl) ?_
        obtain ⟨g2, h⟩ := gd_some h
        refine r_iald XX I (11 + v1.toNatClampNeg) (aA_row1 (vin_lt g1)) g2 dX0_isLikedByAllButOne_25 ?_
        refine lv_if_le (tgt := 32) hx hb dX0_isLikedByAllButOne_26 (by decide) (fun c1 => ?_) (fun c1 => ?_)
        · replace h := if_t h c1
          obtain ⟨y3, ey3⟩ : ∃ z : Int32, z = v3 + (1 : Int32) := ⟨_, rfl⟩
          replace h := lt_e h ey3
          refine lv_iinc (v := y3) (lv' := [(3, .int y3), (0, .ref (ad 0)), (1, .int v1), (2, .int v2)]) hx hb dX0_isLikedByAllButOne_32 hl (k := 3) rfl (by rw [ey3]; rfl) (by decide) rfl (fun ls hl => ?_)
          refine lv_goto (tgt := 4) hx hb dX0_isLikedByAllButOne_35 (by decide) ?_
          exact ih _ _ _ h _ _ I ls (lv_sub hl [1, 2, 3, 0] rfl)
        · replace h := if_f h c1
          obtain ⟨y4, ey4⟩ : ∃ z : Int32, z = v2 + (1 : Int32) := ⟨_, rfl⟩
          replace h := lt_e h ey4
          refine lv_iinc (v := y4) (lv' := [(2, .int y4), (0, .ref (ad 0)), (1, .int v1), (3, .int v3)]) hx hb dX0_isLikedByAllButOne_29 hl (k := 2) rfl (by rw [ey4]; rfl) (by decide) rfl (fun ls hl => ?_)
          obtain ⟨y5, ey5⟩ : ∃ z : Int32, z = v3 + (1 : Int32) := ⟨_, rfl⟩
          replace h := lt_e h ey5
          refine lv_iinc (v := y5) (lv' := [(3, .int y5), (2, .int y4), (0, .ref (ad 0)), (1, .int v1)]) hx hb dX0_isLikedByAllButOne_32 hl (k := 3) rfl (by rw [ey5]; rfl) (by decide) rfl (fun ls hl => ?_)
          refine lv_goto (tgt := 4) hx hb dX0_isLikedByAllButOne_35 (by decide) ?_
          exact ih _ _ _ h _ _ I ls (lv_sub hl [2, 3, 1, 0] rfl)
  unfold f_A_isLikedByAllButOne at h
  refine lv_iconst (v := 0) hx hb dX0_isLikedByAllButOne_0 (by decide) ?_
  refine lv_istore_n (lv' := [(2, .int (0 : Int32)), (0, .ref (ad 0)), (1, .int x1)]) hx hb dX0_isLikedByAllButOne_1 rfl hl (by decide) rfl (fun ls hl => ?_)
  refine lv_iconst (v := 0) hx hb dX0_isLikedByAllButOne_2 (by decide) ?_
  refine lv_istore_n (lv' := [(3, .int (0 : Int32)), (2, .int (0 : Int32)), (0, .ref (ad 0)), (1, .int x1)]) hx hb dX0_isLikedByAllButOne_3 rfl hl (by decide) rfl (fun ls hl => ?_)
  exact C4 fu _ _ _ h _ _ I ls (lv_sub hl [2, 3, 1, 0] rfl)
theorem kV_X0_72 : KV RX0 72 RX0 yX0_isLikedByAllButOne cX0_isLikedByAllButOne 4 (some .boolean) 1 := KV.mk wd_681 wd_683 wd_1600 wd_3 wd_684 (by decide +kernel)
theorem gA_X0_o0_measure {p : Program} {l : Launch} {e : Env} {R : Room} {s0 : State} {m : MethodId} {args : Array Value} {below : List Frame} {meth : Method} {c : Code} {H : Heap} {locs : List Loc} {cells slots : Nat} {Q : State → Prop} {cc : ByteArray} {nL pc : Nat} {ls : Array Slot} {rest : List Value} {G : g_G} {A : Nat → Prop} {ad bd : Nat → Nat} {a v : g_St} (XX : Cx G A p s0 m meth c cc nL RX0 args) (I : Iv G A s0 H locs (bA G ad bd a ++ (bV G bd v ++ []))) (hdg : decode cc pc = .ok (.getfield 22, 3)) (kk : W p l e R s0 m args below meth c H locs cells slots Q (F0 m (pc + 3) ls (.int (gi a 2) :: rest))) : W p l e R s0 m args below meth c H locs cells slots Q (F0 m pc ls (.ref (ad 0) :: rest)) := r_get kfX0 XX I 0 rfl 2 (Nat.le_of_ble_eq_true rfl) wd_113 rfl hdg kk
set_option maxHeartbeats 4000000 in
set_option maxRecDepth 100000 in
theorem c_A_gain (l : Launch) (G : g_G) (OK : EOk G.2.2) (ad : Nat → Nat) (bd : Nat → Nat) (fu : Nat) (aa : g_St) (va : g_St) (x1 : Int32) (x2 : Int32) (r : Int64) (h : f_A_gain fu aa va x1 x2 = some r) : HL l G yX0_gain (Cond.code yX0_gain cX0_gain 6 (some .long) :: gT) { frames := 1, cells := 0, slots := 0, locals := 23 } [.ref (ad 0), .int x1, .int x2] (bA G ad bd aa ++ (bV G bd va ++ [])) r (bA G ad bd aa ++ (bV G bd va ++ [])) := by
  refine HL.mk (lv := [(0, .ref (ad 0)), (1, .int x1), (2, .int x2)]) OK (by decide) (Nat.le_of_ble_eq_true rfl) rfl ?_
  intro p e s0 m args below meth c ls XX hr I hl
  have hx := XX.x
  have hb := XX.b
  have C70 : ∀ n : Nat, ∀ (v1 : Int32) (v3 : Int64) (v5 : Int32), f_A_gain_L70 fu n aa va v1 v3 v5 = some r → ∀ (H : Heap) (locs : List Loc), Iv G (va_A (bA G ad bd aa ++ (bV G bd va ++ [])) s0.heap.size) s0 H locs (bA G ad bd aa ++ (bV G bd va ++ [])) → ∀ ls, lv_has ls 6 [(0, .ref (ad 0)), (1, .int v1), (3, .long v3), (5, .int v5)] → W p l e { frames := 1, cells := 0, slots := 0, locals := 23 } s0 m args below meth c H locs 0 0 (QL G below r (bA G ad bd aa ++ (bV G bd va ++ [])) (bA G ad bd aa ++ (bV G bd va ++ [])) args s0) (F0 m 70 ls []) := by
    intro n
    induction n with
    | zero => intro v1 v3 v5 h; exact absurd h (fun q => by cases q)
    | succ n ih =>
      intro v1 v3 v5 h H locs I ls hl
      rw [f_A_gain_L70] at h
      refine lv_iload hx hb dX0_gain_70 (lv_at hl 3 rfl) ?_
      refine lv_aload_n hx hb dX0_gain_72 rfl (lv_at hl 0 rfl) ?_
      refine gA_X0_o0_v XX I dX0_gain_73 ?_
      refine gA_X0_o1_people XX I dX0_gain_76 ?_
      refine lv_icmp_ge (tgt := 104) hx hb dX0_gain_79 (by decide) (fun c1 => ?_) (fun c1 => ?_)
      · replace h := if_t h c1
        refine lv_lload_n hx hb dX0_gain_104 rfl (lv_at hl 2 rfl) ?_
        obtain rfl := some1 h
        exact e_l XX hr I rfl dX0_gain_105
      · replace h := if_f h c1
        refine lv_lload_n hx hb dX0_gain_82 rfl (lv_at hl 2 rfl) ?_
        refine lv_aload_n hx hb dX0_gain_83 rfl (lv_at hl 0 rfl) ?_
        refine gA_X0_o0_v XX I dX0_gain_84 ?_
        refine gA_X0_o1_worth XX I dX0_gain_87 ?_
        refine lv_iload_n hx hb dX0_gain_90 rfl (lv_at hl 1 rfl) ?_
        obtain ⟨g6, h⟩ := gd_some h
        refine r_aaldI XX I 9 rfl (v := .ref (bd (20 + v1.toNatClampNeg))) rfl g6 dX0_gain_91 ?_
        refine lv_iload hx hb dX0_gain_92 (lv_at hl 3 rfl) ?_
        obtain ⟨g7, h⟩ := gd_some h
        refine r_iald XX I (11 + v1.toNatClampNeg) (aA_row1 (vin_lt g6)) g7 dX0_gain_94 ?_
        refine lv_i2l hx hb dX0_gain_95 rfl ?_
        refine lv_ladd hx hb dX0_gain_96 ?_
        refine lv_topl (fun y8 ey8 => ?_)
        replace h := lt_e h ey8
        refine lv_lstore_n (lv' := [(3, .long y8), (0, .ref (ad 0)), (1, .int v1), (5, .int v5)]) hx hb dX0_gain_97 rfl hl (by decide) rfl (fun ls hl => ?_)
        obtain ⟨y9, ey9⟩ : ∃ z : Int32, z = v5 + (1 : Int32) := ⟨_, rfl⟩
        replace h := lt_e h ey9
        refine lv_iinc (v := y9) (lv' := [(5, .int y9), (3, .long y8), (0, .ref (ad 0)), (1, .int v1)]) hx hb dX0_gain_98 hl (k := 3) rfl (by rw [ey9]; rfl) (by decide) rfl (fun ls hl => ?_)
        refine lv_goto (tgt := 70) hx hb dX0_gain_101 (by decide) ?_
        exact ih _ _ _ h _ _ I ls (lv_sub hl [2, 3, 1, 0] rfl)
  unfold f_A_gain at h
  refine lv_aload_n hx hb dX0_gain_0 rfl (lv_at hl 0 rfl) ?_
  refine gA_X0_o0_measure XX I dX0_gain_1 ?_
  refine lv_bipush (v := (-2)) hx hb dX0_gain_4 (by decide) ?_
  refine lv_icmp_ne (tgt := 27) hx hb dX0_gain_6 (by decide) (fun c1 => ?_) (fun c1 => ?_)
  · replace h := if_f h c1
    refine lv_iload_n hx hb dX0_gain_27 rfl (lv_at hl 2 rfl) ?_
    refine lv_if_eq (tgt := 33) hx hb dX0_gain_28 (by decide) (fun c1 => ?_) (fun c1 => ?_)
    · replace h := if_t h c1
      refine lv_aload_n hx hb dX0_gain_33 rfl (lv_at hl 0 rfl) ?_
      refine gA_X0_o0_measure XX I dX0_gain_34 ?_
      refine lv_if_lt (tgt := 65) hx hb dX0_gain_37 (by decide) (fun c1 => ?_) (fun c1 => ?_)
      · replace h := if_t h c1
        refine lv_lconst (v := 0) hx hb dX0_gain_65 (by decide) ?_
        refine lv_lstore_n (lv' := [(3, .long (0 : Int64)), (0, .ref (ad 0)), (1, .int x1), (2, .int x2)]) hx hb dX0_gain_66 rfl hl (by decide) rfl (fun ls hl => ?_)
        refine lv_iconst (v := 0) hx hb dX0_gain_67 (by decide) ?_
        refine lv_istore (lv' := [(5, .int (0 : Int32)), (3, .long (0 : Int64)), (0, .ref (ad 0)), (1, .int x1), (2, .int x2)]) hx hb dX0_gain_68 hl (by decide) rfl (fun ls hl => ?_)
        exact C70 fu _ _ _ h _ _ I ls (lv_sub hl [2, 3, 1, 0] rfl)
      · replace h := if_f h c1
        refine lv_aload_n hx hb dX0_gain_40 rfl (lv_at hl 0 rfl) ?_
        refine gA_X0_o0_measure XX I dX0_gain_41 ?_
        refine lv_bipush (v := 6) hx hb dX0_gain_44 (by decide) ?_
        refine lv_icmp_ge (tgt := 65) hx hb dX0_gain_46 (by decide) (fun c1 => ?_) (fun c1 => ?_)
        · replace h := if_t h c1
          refine lv_lconst (v := 0) hx hb dX0_gain_65 (by decide) ?_
          refine lv_lstore_n (lv' := [(3, .long (0 : Int64)), (0, .ref (ad 0)), (1, .int x1), (2, .int x2)]) hx hb dX0_gain_66 rfl hl (by decide) rfl (fun ls hl => ?_)
          refine lv_iconst (v := 0) hx hb dX0_gain_67 (by decide) ?_
          refine lv_istore (lv' := [(5, .int (0 : Int32)), (3, .long (0 : Int64)), (0, .ref (ad 0)), (1, .int x1), (2, .int x2)]) hx hb dX0_gain_68 hl (by decide) rfl (fun ls hl => ?_)
          exact C70 fu _ _ _ h _ _ I ls (lv_sub hl [2, 3, 1, 0] rfl)
        · replace h := if_f h c1
          refine lv_aload_n hx hb dX0_gain_49 rfl (lv_at hl 0 rfl) ?_
          refine gA_X0_o0_v XX I dX0_gain_50 ?_
          refine gA_X0_o1_worth XX I dX0_gain_53 ?_
          refine lv_iload_n hx hb dX0_gain_56 rfl (lv_at hl 1 rfl) ?_
          obtain ⟨g1, h⟩ := gd_some h
          refine r_aaldI XX I 9 rfl (v := .ref (bd (20 + x1.toNatClampNeg))) rfl g1 dX0_gain_57 ?_
          refine lv_aload_n hx hb dX0_gain_58 rfl (lv_at hl 0 rfl) ?_
          refine gA_X0_o0_measure XX I dX0_gain_59 ?_
          obtain ⟨g2, h⟩ := gd_some h
          refine r_iald XX I (11 + x1.toNatClampNeg) (aA_row1 (vin_lt g1)) g2 dX0_gain_62 ?_
          refine lv_i2l hx hb dX0_gain_63 rfl ?_
          obtain rfl := some1 h
          exact e_l XX hr I rfl dX0_gain_64
    · replace h := if_f h c1
      refine lv_lconst (v := 0) hx hb dX0_gain_31 (by decide) ?_
      obtain rfl := some1 h
      exact e_l XX hr I rfl dX0_gain_32
  · replace h := if_t h c1
    refine lv_iload_n hx hb dX0_gain_9 rfl (lv_at hl 2 rfl) ?_
    refine lv_if_eq (tgt := 25) hx hb dX0_gain_10 (by decide) (fun c1 => ?_) (fun c1 => ?_)
    · replace h := if_t h c1
      refine lv_lconst (v := 0) hx hb dX0_gain_25 (by decide) ?_
      obtain rfl := some1 h
      exact e_l XX hr I rfl dX0_gain_26
    · replace h := if_f h c1
      refine lv_aload_n hx hb dX0_gain_13 rfl (lv_at hl 0 rfl) ?_
      refine lv_iload_n hx hb dX0_gain_14 rfl (lv_at hl 1 rfl) ?_
      obtain ⟨r3, q4, h⟩ := bd1_some h
      refine wcall_i (rest := []) XX I hl.1 (c_A_isLikedByAllButOne l G OK ad bd fu aa va x1 r3 q4) kV_X0_72 (Rc.mk XX I (q0 := 0) (ci := 0) rfl rfl) rfl rfl (Nat.le_of_ble_eq_true rfl) ⟨rfl, rfl, Nat.le_of_ble_eq_true rfl, Nat.le_of_ble_eq_true rfl⟩ ⟨Nat.zero_le _, Nat.zero_le _⟩ dX0_gain_15 (fun H locs hz5 I => ?_)
      refine lv_if_eq (tgt := 25) hx hb dX0_gain_18 (by decide) (fun c1 => ?_) (fun c1 => ?_)
      · replace h := if_t h c1
        refine lv_lconst (v := 0) hx hb dX0_gain_25 (by decide) ?_
        obtain rfl := some1 h
        exact e_l XX hr I rfl dX0_gain_26
      · replace h := if_f h c1
        refine lv_lconst (v := 1) hx hb dX0_gain_21 (by decide) ?_
        refine lv_goto (tgt := 26) hx hb dX0_gain_22 (by decide) ?_
        obtain rfl := some1 h
        exact e_l XX hr I rfl dX0_gain_26
set_option maxHeartbeats 4000000 in
set_option maxRecDepth 100000 in
theorem c_A_ownBit (l : Launch) (G : g_G) (OK : EOk G.2.2) (ad : Nat → Nat) (bd : Nat → Nat) (aa : g_St) (va : g_St) (r : Int32) (h : f_A_ownBit aa = r) : HI l G yX0_ownBit (Cond.code yX0_ownBit cX0_ownBit 1 (some .int) :: gT) { frames := 0, cells := 0, slots := 0, locals := 0 } .int [.ref (ad 0)] (bA G ad bd aa ++ (bV G bd va ++ [])) r (bA G ad bd aa ++ (bV G bd va ++ [])) := by
  refine HI.mk (lv := [(0, .ref (ad 0))]) OK (by decide) (Nat.le_of_ble_eq_true rfl) rfl ?_
  intro p e s0 m args below meth c ls XX hr I hl
  have hx := XX.x
  have hb := XX.b
  unfold f_A_ownBit at h
  refine lv_iconst (v := 1) hx hb dX0_ownBit_0 (by decide) ?_
  refine lv_aload_n hx hb dX0_ownBit_1 rfl (lv_at hl 0 rfl) ?_
  refine gA_X0_o0_measure XX I dX0_ownBit_2 ?_
  refine lv_ishl hx hb dX0_ownBit_5 ?_
  subst h
  exact e_i rfl XX hr I rfl dX0_ownBit_6
theorem kV_X0_57 : KV RX0 57 RX9 yX9_whoSays cX9_whoSays 4 (some .int) 3 := KV.mk wd_675 wd_591 wd_592 wd_2 wd_593 (by decide +kernel)
theorem kV_X0_61 : KV RX0 61 RX9 yX9_isFall cX9_isFall 2 (some .boolean) 1 := KV.mk wd_676 wd_615 wd_616 wd_2 wd_617 (by decide +kernel)
theorem kV_X0_65 : KV RX0 65 RX0 yX0_gain cX0_gain 6 (some .long) 2 := KV.mk wd_677 wd_679 wd_1599 wd_3 wd_680 (by decide +kernel)
theorem kV_X0_69 : KV RX0 69 RX9 yX9_noesAfter cX9_noesAfter 8 (some .int) 3 := KV.mk wd_685 wd_625 wd_626 wd_2 wd_627 (by decide +kernel)
theorem kV_X0_47 : KV RX0 47 RX0 yX0_sumFrom cX0_sumFrom 10 (some .long) 3 := KV.mk wd_671 wd_673 wd_1598 wd_3 wd_674 (by decide +kernel)
theorem gA_X0_o1_proposals {p : Program} {l : Launch} {e : Env} {R : Room} {s0 : State} {m : MethodId} {args : Array Value} {below : List Frame} {meth : Method} {c : Code} {H : Heap} {locs : List Loc} {cells slots : Nat} {Q : State → Prop} {cc : ByteArray} {nL pc : Nat} {ls : Array Slot} {rest : List Value} {G : g_G} {A : Nat → Prop} {ad bd : Nat → Nat} {a v : g_St} (XX : Cx G A p s0 m meth c cc nL RX0 args) (I : Iv G A s0 H locs (bA G ad bd a ++ (bV G bd v ++ []))) (hdg : decode cc pc = .ok (.getfield 51, 3)) (kk : W p l e R s0 m args below meth c H locs cells slots Q (F0 m (pc + 3) ls (.int (gi v 6) :: rest))) : W p l e R s0 m args below meth c H locs cells slots Q (F0 m pc ls (.ref (bd 0) :: rest)) := r_get kfX9 XX I 2 rfl 6 (Nat.le_of_ble_eq_true rfl) wd_54 rfl hdg kk
theorem gA_X0_o1_weight {p : Program} {l : Launch} {e : Env} {R : Room} {s0 : State} {m : MethodId} {args : Array Value} {below : List Frame} {meth : Method} {c : Code} {H : Heap} {locs : List Loc} {cells slots : Nat} {Q : State → Prop} {cc : ByteArray} {nL pc : Nat} {ls : Array Slot} {rest : List Value} {G : g_G} {A : Nat → Prop} {ad bd : Nat → Nat} {a v : g_St} (XX : Cx G A p s0 m meth c cc nL RX0 args) (I : Iv G A s0 H locs (bA G ad bd a ++ (bV G bd v ++ []))) (hdg : decode cc pc = .ok (.getfield 54, 3)) (kk : W p l e R s0 m args below meth c H locs cells slots Q (F0 m (pc + 3) ls (.ref (bd 8) :: rest))) : W p l e R s0 m args below meth c H locs cells slots Q (F0 m pc ls (.ref (bd 0) :: rest)) := r_get kfX9 XX I 2 rfl 7 (Nat.le_of_ble_eq_true rfl) wd_58 rfl hdg kk
theorem aA_weight1 {G : g_G} {ad bd : Nat → Nat} {a v : g_St} : (bA G ad bd a ++ (bV G bd v ++ []))[8]? = some (bd 8, .inl (G.2.1 0, 8, .inl (gr v 7))) := rfl
theorem sA_weight1 {G : g_G} {ad bd : Nat → Nat} {a v : g_St} {i : Int32} {x : Int32} : (bA G ad bd a ++ (bV G bd v ++ [])).set 8 (bd 8, .inl (G.2.1 0, 8, .inl (upd (gr v 7) i.toNatClampNeg x))) = (bA G ad bd a ++ (bV G bd (sr v 7 i x) ++ [])) := rfl
theorem gA_X0_o0_power {p : Program} {l : Launch} {e : Env} {R : Room} {s0 : State} {m : MethodId} {args : Array Value} {below : List Frame} {meth : Method} {c : Code} {H : Heap} {locs : List Loc} {cells slots : Nat} {Q : State → Prop} {cc : ByteArray} {nL pc : Nat} {ls : Array Slot} {rest : List Value} {G : g_G} {A : Nat → Prop} {ad bd : Nat → Nat} {a v : g_St} (XX : Cx G A p s0 m meth c cc nL RX0 args) (I : Iv G A s0 H locs (bA G ad bd a ++ (bV G bd v ++ []))) (hdg : decode cc pc = .ok (.getfield 18, 3)) (kk : W p l e R s0 m args below meth c H locs cells slots Q (F0 m (pc + 3) ls (.ref (ad 2) :: rest))) : W p l e R s0 m args below meth c H locs cells slots Q (F0 m pc ls (.ref (ad 0) :: rest)) := r_get kfX0 XX I 0 rfl 1 (Nat.le_of_ble_eq_true rfl) wd_111 rfl hdg kk
theorem aA_power0 {G : g_G} {ad bd : Nat → Nat} {a v : g_St} : (bA G ad bd a ++ (bV G bd v ++ []))[1]? = some (ad 2, .inl (G.2.1 1, 4, .inr (.inl (gt a 1)))) := rfl
theorem sA_power0 {G : g_G} {ad bd : Nat → Nat} {a v : g_St} {i : Int32} {x : Int64} : (bA G ad bd a ++ (bV G bd v ++ [])).set 1 (ad 2, .inl (G.2.1 1, 4, .inr (.inl (vp_updL (gt a 1) i.toNatClampNeg x)))) = (bA G ad bd (st a 1 i x) ++ (bV G bd v ++ [])) := rfl
set_option maxHeartbeats 4000000 in
set_option maxRecDepth 100000 in
theorem c_A_sumFrom_B (l : Launch) (G : g_G) (OK : EOk G.2.2) (ad : Nat → Nat) (bd : Nat → Nat) (fu : Nat) (rc : g_St → g_St → Int32 → Int32 → Int32 → Option (Int64)) (RB : Room) (hRB : RB.cells = 0 ∧ RB.slots = 0) (hrc : ∀ (aa : g_St) (va : g_St) (x1 : Int32) (x2 : Int32) (x3 : Int32) (r : Int64), rc aa va x1 x2 x3 = some r → HL l G yX0_sumFrom (Cond.code yX0_sumFrom cX0_sumFrom 10 (some .long) :: gT) RB [.ref (ad 0), .int x1, .int x2, .int x3] (bA G ad bd aa ++ (bV G bd va ++ [])) r (bA G ad bd aa ++ (bV G bd va ++ []))) (aa : g_St) (va : g_St) (x1 : Int32) (x2 : Int32) (x3 : Int32) (r : Int64) (h : f_A_sumFrom_B fu rc aa va x1 x2 x3 = some r) : HL l G yX0_sumFrom (Cond.code yX0_sumFrom cX0_sumFrom 10 (some .long) :: gT) { frames := RB.frames + 4, cells := 0, slots := 0, locals := RB.locals + 99 } [.ref (ad 0), .int x1, .int x2, .int x3] (bA G ad bd aa ++ (bV G bd va ++ [])) r (bA G ad bd aa ++ (bV G bd va ++ [])) := by
  refine HL.mk (lv := [(0, .ref (ad 0)), (1, .int x1), (2, .int x2), (3, .int x3)]) OK (by decide) (Nat.le_of_ble_eq_true rfl) rfl ?_
  intro p e s0 m args below meth c ls XX hr I hl
  have hx := XX.x
  have hb := XX.b
  have C115 : ∀ (k17 : g_St → g_St → Int32 → Int32 → Int32 → Int64 → Int32 → Option (Int64)), (∀ (v1 : Int32) (v2 : Int32) (v3 : Int32) (v4 : Int64) (v6 : Int32), k17 aa va v1 v2 v3 v4 v6 = some r → ∀ (H : Heap) (locs : List Loc), Iv G (va_A (bA G ad bd aa ++ (bV G bd va ++ [])) s0.heap.size) s0 H locs (bA G ad bd aa ++ (bV G bd va ++ [])) → ∀ ls, lv_has ls 10 [(0, .ref (ad 0)), (1, .int v1), (2, .int v2), (3, .int v3), (4, .long v4), (6, .int v6)] → W p l e { frames := RB.frames + 4, cells := 0, slots := 0, locals := RB.locals + 99 } s0 m args below meth c H locs 0 0 (QL G below r (bA G ad bd aa ++ (bV G bd va ++ [])) (bA G ad bd aa ++ (bV G bd va ++ [])) args s0) (F0 m 17 ls [])) → ∀ (v1 : Int32) (v2 : Int32) (v3 : Int32) (v4 : Int64) (v6 : Int32) (v8 : Int64), f_A_sumFrom_B_L115 fu rc k17 aa va v1 v2 v3 v4 v6 v8 = some r → ∀ (H : Heap) (locs : List Loc), Iv G (va_A (bA G ad bd aa ++ (bV G bd va ++ [])) s0.heap.size) s0 H locs (bA G ad bd aa ++ (bV G bd va ++ [])) → ∀ ls, lv_has ls 10 [(0, .ref (ad 0)), (1, .int v1), (2, .int v2), (3, .int v3), (4, .long v4), (6, .int v6), (8, .long v8)] → W p l e { frames := RB.frames + 4, cells := 0, slots := 0, locals := RB.locals + 99 } s0 m args below meth c H locs 0 0 (QL G below r (bA G ad bd aa ++ (bV G bd va ++ [])) (bA G ad bd aa ++ (bV G bd va ++ [])) args s0) (F0 m 115 ls []) := by
    intro k17 hk17
    intro v1 v2 v3 v4 v6 v8 h H locs I ls hl
    unfold f_A_sumFrom_B_L115 at h
    refine lv_lload hx hb dX0_sumFrom_115 (lv_at hl 4 rfl) ?_
    refine lv_aload_n hx hb dX0_sumFrom_117 rfl (lv_at hl 0 rfl) ?_
    refine gA_X0_o0_v XX I dX0_sumFrom_118 ?_
    refine gA_X0_o1_weight XX I dX0_sumFrom_121 ?_
    refine lv_iload hx hb dX0_sumFrom_124 (lv_at hl 5 rfl) ?_
    obtain ⟨g19, h⟩ := gd_some h
    refine r_iald XX I 8 (aA_weight1) g19 dX0_sumFrom_126 ?_
    refine lv_i2l hx hb dX0_sumFrom_127 rfl ?_
    refine lv_lload hx hb dX0_sumFrom_128 (lv_at hl 6 rfl) ?_
    refine lv_lmul hx hb dX0_sumFrom_130 ?_
    refine lv_ladd hx hb dX0_sumFrom_131 ?_
    refine lv_topl (fun y20 ey20 => ?_)
    replace h := lt_e h ey20
    refine lv_lstore (lv' := [(4, .long y20), (0, .ref (ad 0)), (1, .int v1), (2, .int v2), (3, .int v3), (6, .int v6), (8, .long v8)]) hx hb dX0_sumFrom_132 hl (by decide) rfl (fun ls hl => ?_)
    obtain ⟨y21, ey21⟩ : ∃ z : Int32, z = v6 + (1 : Int32) := ⟨_, rfl⟩
    replace h := lt_e h ey21
    refine lv_iinc (v := y21) (lv' := [(6, .int y21), (4, .long y20), (0, .ref (ad 0)), (1, .int v1), (2, .int v2), (3, .int v3), (8, .long v8)]) hx hb dX0_sumFrom_134 hl (k := 5) rfl (by rw [ey21]; rfl) (by decide) rfl (fun ls hl => ?_)
    refine lv_goto (tgt := 17) hx hb dX0_sumFrom_137 (by decide) ?_
    exact hk17 _ _ _ _ _ h _ _ I ls (lv_sub hl [2, 3, 4, 5, 1, 0] rfl)
  have C17 : ∀ n : Nat, ∀ (v1 : Int32) (v2 : Int32) (v3 : Int32) (v4 : Int64) (v6 : Int32), f_A_sumFrom_B_L17 fu rc n aa va v1 v2 v3 v4 v6 = some r → ∀ (H : Heap) (locs : List Loc), Iv G (va_A (bA G ad bd aa ++ (bV G bd va ++ [])) s0.heap.size) s0 H locs (bA G ad bd aa ++ (bV G bd va ++ [])) → ∀ ls, lv_has ls 10 [(0, .ref (ad 0)), (1, .int v1), (2, .int v2), (3, .int v3), (4, .long v4), (6, .int v6)] → W p l e { frames := RB.frames + 4, cells := 0, slots := 0, locals := RB.locals + 99 } s0 m args below meth c H locs 0 0 (QL G below r (bA G ad bd aa ++ (bV G bd va ++ [])) (bA G ad bd aa ++ (bV G bd va ++ [])) args s0) (F0 m 17 ls []) := by
    intro n
    induction n with
    | zero => intro v1 v2 v3 v4 v6 h; exact absurd h (fun q => by cases q)
    | succ n ih =>
      intro v1 v2 v3 v4 v6 h H locs I ls hl
      rw [f_A_sumFrom_B_L17] at h
      refine lv_iload hx hb dX0_sumFrom_17 (lv_at hl 5 rfl) ?_
      refine lv_aload_n hx hb dX0_sumFrom_19 rfl (lv_at hl 0 rfl) ?_
      refine gA_X0_o0_v XX I dX0_sumFrom_20 ?_
      refine gA_X0_o1_proposals XX I dX0_sumFrom_23 ?_
      refine lv_icmp_ge (tgt := 140) hx hb dX0_sumFrom_26 (by decide) (fun c1 => ?_) (fun c1 => ?_)
      · replace h := if_t h c1
        refine lv_lload hx hb dX0_sumFrom_140 (lv_at hl 4 rfl) ?_
        obtain rfl := some1 h
        exact e_l XX hr I rfl dX0_sumFrom_142
      · replace h := if_f h c1
        refine lv_aload_n hx hb dX0_sumFrom_29 rfl (lv_at hl 0 rfl) ?_
        refine gA_X0_o0_v XX I dX0_sumFrom_30 ?_
        refine gA_X0_o1_weight XX I dX0_sumFrom_33 ?_
        refine lv_iload hx hb dX0_sumFrom_36 (lv_at hl 5 rfl) ?_
        obtain ⟨g1, h⟩ := gd_some h
        refine r_iald XX I 8 (aA_weight1) g1 dX0_sumFrom_38 ?_
        refine lv_if_ne (tgt := 45) hx hb dX0_sumFrom_39 (by decide) (fun c1 => ?_) (fun c1 => ?_)
        · replace h := if_f h c1
          refine lv_aload_n hx hb dX0_sumFrom_45 rfl (lv_at hl 0 rfl) ?_
          refine gA_X0_o0_v XX I dX0_sumFrom_46 ?_
          refine lv_iload hx hb dX0_sumFrom_49 (lv_at hl 5 rfl) ?_
          refine lv_iload_n hx hb dX0_sumFrom_51 rfl (lv_at hl 2 rfl) ?_
          refine lv_iload_n hx hb dX0_sumFrom_52 rfl (lv_at hl 3 rfl) ?_
          obtain ⟨r2, q3, h⟩ := bd1_some h
          have RC := (Rc.mk XX I (q0 := 2) (ci := 9) rfl rfl)
          replace I : Iv G (va_A (bA G ad bd aa ++ (bV G bd va ++ [])) s0.heap.size) s0 _ _ ((bV G bd va) ++ (bA G ad bd aa ++ [])) := I.perm ((List.Perm.append_left _ (List.Perm.refl _)).trans (List.perm_append_comm_assoc _ _ _))
          refine call_i (X := []) (wc := (bV G bd va)) (Y := (bA G ad bd aa ++ [])) (rest := []) XX I hl.1 (c_V_whoSays l G OK bd fu va v6 v2 v3 r2 q3) kV_X0_57 RC rfl rfl (Nat.le_of_ble_eq_true rfl) ⟨rfl, rfl, (by dsimp only; omega), (by dsimp only; omega)⟩ ⟨Nat.zero_le _, Nat.zero_le _⟩ dX0_sumFrom_53 (fun H locs hz4 I => ?_)
          replace I : Iv G (va_A (bA G ad bd aa ++ (bV G bd va ++ [])) s0.heap.size) s0 H locs (bA G ad bd aa ++ (bV G bd va ++ [])) := Iv.perm (w := (bV G bd va) ++ (bA G ad bd aa ++ [])) I (((List.Perm.append_left _ (List.Perm.refl _)).trans (List.perm_append_comm_assoc _ _ _)).symm)
          refine lv_istore (lv' := [(7, .int r2), (0, .ref (ad 0)), (1, .int v1), (2, .int v2), (3, .int v3), (4, .long v4), (6, .int v6)]) hx hb dX0_sumFrom_56 hl (by decide) rfl (fun ls hl => ?_)
          refine lv_aload_n hx hb dX0_sumFrom_58 rfl (lv_at hl 1 rfl) ?_
          refine lv_iload hx hb dX0_sumFrom_59 (lv_at hl 6 rfl) ?_
          refine lv_aload_n hx hb dX0_sumFrom_61 rfl (lv_at hl 1 rfl) ?_
          refine gA_X0_o0_v XX I dX0_sumFrom_62 ?_
          refine lv_iload hx hb dX0_sumFrom_65 (lv_at hl 0 rfl) ?_
          have RC := (Rc.mk XX I (q0 := 2) (ci := 9) rfl rfl)
          replace I : Iv G (va_A (bA G ad bd aa ++ (bV G bd va ++ [])) s0.heap.size) s0 _ _ ((bV G bd va) ++ (bA G ad bd aa ++ [])) := I.perm ((List.Perm.append_left _ (List.Perm.refl _)).trans (List.perm_append_comm_assoc _ _ _))
          refine call_i (X := []) (wc := (bV G bd va)) (Y := (bA G ad bd aa ++ [])) (rest := [.int v6, .ref (ad 0)]) XX I hl.1 (c_V_isFall l G OK bd va r2 _ rfl) kV_X0_61 RC rfl rfl (Nat.le_of_ble_eq_true rfl) ⟨rfl, rfl, (by dsimp only; omega), (by dsimp only; omega)⟩ ⟨Nat.zero_le _, Nat.zero_le _⟩ dX0_sumFrom_67 (fun H locs hz5 I => ?_)
          replace I : Iv G (va_A (bA G ad bd aa ++ (bV G bd va ++ [])) s0.heap.size) s0 H locs (bA G ad bd aa ++ (bV G bd va ++ [])) := Iv.perm (w := (bV G bd va) ++ (bA G ad bd aa ++ [])) I (((List.Perm.append_left _ (List.Perm.refl _)).trans (List.perm_append_comm_assoc _ _ _)).symm)
          obtain ⟨r6, q7, h⟩ := bd1_some h
          refine wcall_l (rest := []) XX I hl.1 (c_A_gain l G OK ad bd fu aa va v6 (f_V_isFall va r2) r6 q7) kV_X0_65 (Rc.mk XX I (q0 := 0) (ci := 0) rfl rfl) rfl rfl (Nat.le_of_ble_eq_true rfl) ⟨rfl, rfl, (by dsimp only; omega), (by dsimp only; omega)⟩ ⟨Nat.zero_le _, Nat.zero_le _⟩ dX0_sumFrom_70 (fun H locs I => ?_)
          refine lv_aload_n hx hb dX0_sumFrom_73 rfl (lv_at hl 1 rfl) ?_
          refine gA_X0_o0_power XX I dX0_sumFrom_74 ?_
          refine lv_iload_n hx hb dX0_sumFrom_77 rfl (lv_at hl 2 rfl) ?_
          refine lv_iconst (v := 1) hx hb dX0_sumFrom_78 (by decide) ?_
          refine lv_isub hx hb dX0_sumFrom_79 ?_
          obtain ⟨g9, h⟩ := gd_some h
          refine r_lald XX I 1 (aA_power0) g9 dX0_sumFrom_80 ?_
          refine lv_lmul hx hb dX0_sumFrom_81 ?_
          refine lv_topl (fun y10 ey10 => ?_)
          replace h := lt_e h ey10
          refine lv_lstore (lv' := [(8, .long y10), (7, .int r2), (0, .ref (ad 0)), (1, .int v1), (2, .int v2), (3, .int v3), (4, .long v4), (6, .int v6)]) hx hb dX0_sumFrom_82 hl (by decide) rfl (fun ls hl => ?_)
          refine lv_iload_n hx hb dX0_sumFrom_84 rfl (lv_at hl 3 rfl) ?_
          refine lv_iconst (v := 1) hx hb dX0_sumFrom_85 (by decide) ?_
          refine lv_icmp_le (tgt := 115) hx hb dX0_sumFrom_86 (by decide) (fun c1 => ?_) (fun c1 => ?_)
          · replace h := if_t h c1
            exact C115 (f_A_sumFrom_B_L17 fu rc n) ih _ _ _ _ _ _ h _ _ I ls (lv_sub hl [2, 3, 4, 5, 6, 7, 0] rfl)
          · replace h := if_f h c1
            refine lv_lload hx hb dX0_sumFrom_89 (lv_at hl 0 rfl) ?_
            refine lv_aload_n hx hb dX0_sumFrom_91 rfl (lv_at hl 2 rfl) ?_
            refine lv_iload_n hx hb dX0_sumFrom_92 rfl (lv_at hl 3 rfl) ?_
            refine lv_iconst (v := 1) hx hb dX0_sumFrom_93 (by decide) ?_
            refine lv_isub hx hb dX0_sumFrom_94 ?_
            refine lv_iload_n hx hb dX0_sumFrom_95 rfl (lv_at hl 4 rfl) ?_
            refine lv_iconst (v := 1) hx hb dX0_sumFrom_96 (by decide) ?_
            refine lv_iadd hx hb dX0_sumFrom_97 ?_
            refine lv_aload_n hx hb dX0_sumFrom_98 rfl (lv_at hl 2 rfl) ?_
            refine gA_X0_o0_v XX I dX0_sumFrom_99 ?_
            refine lv_iload hx hb dX0_sumFrom_102 (lv_at hl 1 rfl) ?_
            refine lv_iload_n hx hb dX0_sumFrom_104 rfl (lv_at hl 4 rfl) ?_
            refine lv_iload_n hx hb dX0_sumFrom_105 rfl (lv_at hl 5 rfl) ?_
            obtain ⟨r11, q12, h⟩ := bd1_some h
            have RC := (Rc.mk XX I (q0 := 2) (ci := 9) rfl rfl)
            replace I : Iv G (va_A (bA G ad bd aa ++ (bV G bd va ++ [])) s0.heap.size) s0 _ _ ((bV G bd va) ++ (bA G ad bd aa ++ [])) := I.perm ((List.Perm.append_left _ (List.Perm.refl _)).trans (List.perm_append_comm_assoc _ _ _))
            refine call_i (X := []) (wc := (bV G bd va)) (Y := (bA G ad bd aa ++ [])) (rest := [.int (v2 + (1 : Int32)), .int (v1 - (1 : Int32)), .ref (ad 0), .long y10]) XX I hl.1 (c_V_noesAfter l G OK bd fu va r2 v2 v3 r11 q12) kV_X0_69 RC rfl rfl (Nat.le_of_ble_eq_true rfl) ⟨rfl, rfl, (by dsimp only; omega), (by dsimp only; omega)⟩ ⟨Nat.zero_le _, Nat.zero_le _⟩ dX0_sumFrom_106 (fun H locs hz13 I => ?_)
            replace I : Iv G (va_A (bA G ad bd aa ++ (bV G bd va ++ [])) s0.heap.size) s0 H locs (bA G ad bd aa ++ (bV G bd va ++ [])) := Iv.perm (w := (bV G bd va) ++ (bA G ad bd aa ++ [])) I (((List.Perm.append_left _ (List.Perm.refl _)).trans (List.perm_append_comm_assoc _ _ _)).symm)
            obtain ⟨r14, q15, h⟩ := bd1_some h
            refine wcall_l (rest := [.long y10]) XX I hl.1 (hrc aa va (v1 - (1 : Int32)) (v2 + (1 : Int32)) r11 r14 q15) kV_X0_47 (Rc.mk XX I (q0 := 0) (ci := 0) rfl rfl) rfl rfl (Nat.le_of_ble_eq_true rfl) ⟨hRB.1, hRB.2, (by dsimp only; omega), (by dsimp only; omega)⟩ ⟨Nat.zero_le _, Nat.zero_le _⟩ dX0_sumFrom_109 (fun H locs I => ?_)
            refine lv_ladd hx hb dX0_sumFrom_112 ?_
            refine lv_topl (fun y17 ey17 => ?_)
            replace h := lt_e h ey17
            refine lv_lstore (lv' := [(8, .long y17), (7, .int r2), (0, .ref (ad 0)), (1, .int v1), (2, .int v2), (3, .int v3), (4, .long v4), (6, .int v6)]) hx hb dX0_sumFrom_113 hl (by decide) rfl (fun ls hl => ?_)
            exact C115 (f_A_sumFrom_B_L17 fu rc n) ih _ _ _ _ _ _ h _ _ I ls (lv_sub hl [2, 3, 4, 5, 6, 7, 0] rfl)
        · replace h := if_t h c1
          refine lv_goto (tgt := 134) hx hb dX0_sumFrom_42 (by decide) ?_
          obtain ⟨y18, ey18⟩ : ∃ z : Int32, z = v6 + (1 : Int32) := ⟨_, rfl⟩
          replace h := lt_e h ey18
          refine lv_iinc (v := y18) (lv' := [(6, .int y18), (0, .ref (ad 0)), (1, .int v1), (2, .int v2), (3, .int v3), (4, .long v4)]) hx hb dX0_sumFrom_134 hl (k := 5) rfl (by rw [ey18]; rfl) (by decide) rfl (fun ls hl => ?_)
          refine lv_goto (tgt := 17) hx hb dX0_sumFrom_137 (by decide) ?_
          exact ih _ _ _ _ _ h _ _ I ls (lv_sub hl [1, 2, 3, 4, 5, 0] rfl)
  unfold f_A_sumFrom_B at h
  refine lv_iload_n hx hb dX0_sumFrom_0 rfl (lv_at hl 1 rfl) ?_
  refine lv_if_le (tgt := 9) hx hb dX0_sumFrom_1 (by decide) (fun c1 => ?_) (fun c1 => ?_)
  · replace h := if_t h c1
    refine lv_lconst (v := 0) hx hb dX0_sumFrom_9 (by decide) ?_
    obtain rfl := some1 h
    exact e_l XX hr I rfl dX0_sumFrom_10
  · replace h := if_f h c1
    refine lv_iload_n hx hb dX0_sumFrom_4 rfl (lv_at hl 1 rfl) ?_
    refine lv_iconst (v := 3) hx hb dX0_sumFrom_5 (by decide) ?_
    refine lv_icmp_le (tgt := 11) hx hb dX0_sumFrom_6 (by decide) (fun c1 => ?_) (fun c1 => ?_)
    · replace h := if_t h c1
      refine lv_lconst (v := 0) hx hb dX0_sumFrom_11 (by decide) ?_
      refine lv_lstore (lv' := [(4, .long (0 : Int64)), (0, .ref (ad 0)), (1, .int x1), (2, .int x2), (3, .int x3)]) hx hb dX0_sumFrom_12 hl (by decide) rfl (fun ls hl => ?_)
      refine lv_iconst (v := 0) hx hb dX0_sumFrom_14 (by decide) ?_
      refine lv_istore (lv' := [(6, .int (0 : Int32)), (4, .long (0 : Int64)), (0, .ref (ad 0)), (1, .int x1), (2, .int x2), (3, .int x3)]) hx hb dX0_sumFrom_15 hl (by decide) rfl (fun ls hl => ?_)
      exact C17 fu _ _ _ _ _ h _ _ I ls (lv_sub hl [2, 3, 4, 5, 1, 0] rfl)
    · replace h := if_f h c1
      refine lv_lconst (v := 0) hx hb dX0_sumFrom_9 (by decide) ?_
      obtain rfl := some1 h
      exact e_l XX hr I rfl dX0_sumFrom_10
theorem c_A_sumFrom (l : Launch) (G : g_G) (OK : EOk G.2.2) (ad : Nat → Nat) (bd : Nat → Nat) (fu : Nat) (d : Nat) : ∀ (aa : g_St) (va : g_St) (x1 : Int32) (x2 : Int32) (x3 : Int32) (r : Int64), f_A_sumFrom fu d aa va x1 x2 x3 = some r → HL l G yX0_sumFrom (Cond.code yX0_sumFrom cX0_sumFrom 10 (some .long) :: gT) { frames := 4 * d, cells := 0, slots := 0, locals := 99 * d } [.ref (ad 0), .int x1, .int x2, .int x3] (bA G ad bd aa ++ (bV G bd va ++ [])) r (bA G ad bd aa ++ (bV G bd va ++ [])) := by
  induction d with
  | zero => intro aa va x1 x2 x3 r h; exact absurd h (fun q => by cases q)
  | succ d ih =>
    intro aa va x1 x2 x3 r h
    have k := c_A_sumFrom_B l G OK ad bd fu (f_A_sumFrom fu d) { frames := 4 * d, cells := 0, slots := 0, locals := 99 * d } ⟨rfl, rfl⟩ ih aa va x1 x2 x3 r (by rw [f_A_sumFrom] at h; exact h)
    exact k
theorem kV_X0_82 : KV RX0 82 RX0 yX0_bestSumFrom cX0_bestSumFrom 7 (some .long) 3 := KV.mk wd_703 wd_705 wd_1601 wd_3 wd_706 (by decide +kernel)
set_option maxHeartbeats 4000000 in
set_option maxRecDepth 100000 in
theorem c_A_withSayers (l : Launch) (G : g_G) (OK : EOk G.2.2) (ad : Nat → Nat) (bd : Nat → Nat) (fu : Nat) (rc : g_St → g_St → Int32 → Int32 → Int32 → Option (Int64)) (RB : Room) (hRB : RB.cells = 0 ∧ RB.slots = 0) (hrc : ∀ (aa : g_St) (va : g_St) (x1 : Int32) (x2 : Int32) (x3 : Int32) (r : Int64), rc aa va x1 x2 x3 = some r → HL l G yX0_bestSumFrom (Cond.code yX0_bestSumFrom cX0_bestSumFrom 7 (some .long) :: gT) RB [.ref (ad 0), .int x1, .int x2, .int x3] (bA G ad bd aa ++ (bV G bd va ++ [])) r (bA G ad bd aa ++ (bV G bd va ++ []))) (aa : g_St) (va : g_St) (x1 : Int32) (x2 : Int32) (x3 : Int32) (x4 : Int32) (x5 : Int32) (r : Int64) (h : f_A_withSayers fu rc aa va x1 x2 x3 x4 x5 = some r) : HL l G yX0_withSayers (Cond.code yX0_withSayers cX0_withSayers 8 (some .long) :: gT) { frames := RB.frames + 2, cells := 0, slots := 0, locals := RB.locals + 48 } [.ref (ad 0), .int x1, .int x2, .int x3, .int x4, .int x5] (bA G ad bd aa ++ (bV G bd va ++ [])) r (bA G ad bd aa ++ (bV G bd va ++ [])) := by
  refine HL.mk (lv := [(0, .ref (ad 0)), (1, .int x1), (2, .int x2), (3, .int x3), (4, .int x4), (5, .int x5)]) OK (by decide) (Nat.le_of_ble_eq_true rfl) rfl ?_
  intro p e s0 m args below meth c ls XX hr I hl
  have hx := XX.x
  have hb := XX.b
  unfold f_A_withSayers at h
  refine lv_iload_n hx hb dX0_withSayers_0 rfl (lv_at hl 3 rfl) ?_
  refine lv_if_le (tgt := 9) hx hb dX0_withSayers_1 (by decide) (fun c1 => ?_) (fun c1 => ?_)
  · replace h := if_t h c1
    refine lv_lconst (v := 0) hx hb dX0_withSayers_9 (by decide) ?_
    obtain rfl := some1 h
    exact e_l XX hr I rfl dX0_withSayers_10
  · replace h := if_f h c1
    refine lv_iload_n hx hb dX0_withSayers_4 rfl (lv_at hl 3 rfl) ?_
    refine lv_iconst (v := 3) hx hb dX0_withSayers_5 (by decide) ?_
    refine lv_icmp_le (tgt := 11) hx hb dX0_withSayers_6 (by decide) (fun c1 => ?_) (fun c1 => ?_)
    · replace h := if_t h c1
      refine lv_aload_n hx hb dX0_withSayers_11 rfl (lv_at hl 0 rfl) ?_
      refine lv_iload_n hx hb dX0_withSayers_12 rfl (lv_at hl 2 rfl) ?_
      refine lv_aload_n hx hb dX0_withSayers_13 rfl (lv_at hl 0 rfl) ?_
      refine gA_X0_o0_v XX I dX0_withSayers_14 ?_
      refine lv_iload_n hx hb dX0_withSayers_17 rfl (lv_at hl 1 rfl) ?_
      have RC := (Rc.mk XX I (q0 := 2) (ci := 9) rfl rfl)
      replace I : Iv G (va_A (bA G ad bd aa ++ (bV G bd va ++ [])) s0.heap.size) s0 _ _ ((bV G bd va) ++ (bA G ad bd aa ++ [])) := I.perm ((List.Perm.append_left _ (List.Perm.refl _)).trans (List.perm_append_comm_assoc _ _ _))
      refine call_i (X := []) (wc := (bV G bd va)) (Y := (bA G ad bd aa ++ [])) (rest := [.int x2, .ref (ad 0)]) XX I hl.1 (c_V_isFall l G OK bd va x1 _ rfl) kV_X0_61 RC rfl rfl (Nat.le_of_ble_eq_true rfl) ⟨rfl, rfl, (by dsimp only; omega), (by dsimp only; omega)⟩ ⟨Nat.zero_le _, Nat.zero_le _⟩ dX0_withSayers_18 (fun H locs hz1 I => ?_)
      replace I : Iv G (va_A (bA G ad bd aa ++ (bV G bd va ++ [])) s0.heap.size) s0 H locs (bA G ad bd aa ++ (bV G bd va ++ [])) := Iv.perm (w := (bV G bd va) ++ (bA G ad bd aa ++ [])) I (((List.Perm.append_left _ (List.Perm.refl _)).trans (List.perm_append_comm_assoc _ _ _)).symm)
      obtain ⟨r2, q3, h⟩ := bd1_some h
      refine wcall_l (rest := []) XX I hl.1 (c_A_gain l G OK ad bd fu aa va x2 (f_V_isFall va x1) r2 q3) kV_X0_65 (Rc.mk XX I (q0 := 0) (ci := 0) rfl rfl) rfl rfl (Nat.le_of_ble_eq_true rfl) ⟨rfl, rfl, (by dsimp only; omega), (by dsimp only; omega)⟩ ⟨Nat.zero_le _, Nat.zero_le _⟩ dX0_withSayers_21 (fun H locs I => ?_)
      refine lv_aload_n hx hb dX0_withSayers_24 rfl (lv_at hl 0 rfl) ?_
      refine gA_X0_o0_power XX I dX0_withSayers_25 ?_
      refine lv_iload_n hx hb dX0_withSayers_28 rfl (lv_at hl 3 rfl) ?_
      refine lv_iconst (v := 1) hx hb dX0_withSayers_29 (by decide) ?_
      refine lv_isub hx hb dX0_withSayers_30 ?_
      obtain ⟨g5, h⟩ := gd_some h
      refine r_lald XX I 1 (aA_power0) g5 dX0_withSayers_31 ?_
      refine lv_lmul hx hb dX0_withSayers_32 ?_
      refine lv_topl (fun y6 ey6 => ?_)
      replace h := lt_e h ey6
      refine lv_lstore (lv' := [(6, .long y6), (0, .ref (ad 0)), (1, .int x1), (2, .int x2), (3, .int x3), (4, .int x4), (5, .int x5)]) hx hb dX0_withSayers_33 hl (by decide) rfl (fun ls hl => ?_)
      refine lv_iload_n hx hb dX0_withSayers_35 rfl (lv_at hl 4 rfl) ?_
      refine lv_iconst (v := 1) hx hb dX0_withSayers_36 (by decide) ?_
      refine lv_icmp_ne (tgt := 43) hx hb dX0_withSayers_37 (by decide) (fun c1 => ?_) (fun c1 => ?_)
      · replace h := if_f h c1
        refine lv_lload hx hb dX0_withSayers_43 (lv_at hl 0 rfl) ?_
        refine lv_aload_n hx hb dX0_withSayers_45 rfl (lv_at hl 1 rfl) ?_
        refine lv_iload_n hx hb dX0_withSayers_46 rfl (lv_at hl 4 rfl) ?_
        refine lv_iconst (v := 1) hx hb dX0_withSayers_47 (by decide) ?_
        refine lv_isub hx hb dX0_withSayers_48 ?_
        refine lv_iload hx hb dX0_withSayers_49 (lv_at hl 5 rfl) ?_
        refine lv_iconst (v := 1) hx hb dX0_withSayers_51 (by decide) ?_
        refine lv_iadd hx hb dX0_withSayers_52 ?_
        refine lv_aload_n hx hb dX0_withSayers_53 rfl (lv_at hl 1 rfl) ?_
        refine gA_X0_o0_v XX I dX0_withSayers_54 ?_
        refine lv_iload_n hx hb dX0_withSayers_57 rfl (lv_at hl 2 rfl) ?_
        refine lv_iload hx hb dX0_withSayers_58 (lv_at hl 5 rfl) ?_
        refine lv_iload hx hb dX0_withSayers_60 (lv_at hl 6 rfl) ?_
        obtain ⟨r7, q8, h⟩ := bd1_some h
        have RC := (Rc.mk XX I (q0 := 2) (ci := 9) rfl rfl)
        replace I : Iv G (va_A (bA G ad bd aa ++ (bV G bd va ++ [])) s0.heap.size) s0 _ _ ((bV G bd va) ++ (bA G ad bd aa ++ [])) := I.perm ((List.Perm.append_left _ (List.Perm.refl _)).trans (List.perm_append_comm_assoc _ _ _))
        refine call_i (X := []) (wc := (bV G bd va)) (Y := (bA G ad bd aa ++ [])) (rest := [.int (x4 + (1 : Int32)), .int (x3 - (1 : Int32)), .ref (ad 0), .long y6]) XX I hl.1 (c_V_noesAfter l G OK bd fu va x1 x4 x5 r7 q8) kV_X0_69 RC rfl rfl (Nat.le_of_ble_eq_true rfl) ⟨rfl, rfl, (by dsimp only; omega), (by dsimp only; omega)⟩ ⟨Nat.zero_le _, Nat.zero_le _⟩ dX0_withSayers_62 (fun H locs hz9 I => ?_)
        replace I : Iv G (va_A (bA G ad bd aa ++ (bV G bd va ++ [])) s0.heap.size) s0 H locs (bA G ad bd aa ++ (bV G bd va ++ [])) := Iv.perm (w := (bV G bd va) ++ (bA G ad bd aa ++ [])) I (((List.Perm.append_left _ (List.Perm.refl _)).trans (List.perm_append_comm_assoc _ _ _)).symm)
        obtain ⟨r10, q11, h⟩ := bd1_some h
        refine wcall_l (rest := [.long y6]) XX I hl.1 (hrc aa va (x3 - (1 : Int32)) (x4 + (1 : Int32)) r7 r10 q11) kV_X0_82 (Rc.mk XX I (q0 := 0) (ci := 0) rfl rfl) rfl rfl (Nat.le_of_ble_eq_true rfl) ⟨hRB.1, hRB.2, (by dsimp only; omega), (by dsimp only; omega)⟩ ⟨Nat.zero_le _, Nat.zero_le _⟩ dX0_withSayers_65 (fun H locs I => ?_)
        refine lv_ladd hx hb dX0_withSayers_68 ?_
        obtain rfl := some1 h
        exact e_l XX hr I rfl dX0_withSayers_69
      · replace h := if_t h c1
        refine lv_lload hx hb dX0_withSayers_40 (lv_at hl 0 rfl) ?_
        obtain rfl := some1 h
        exact e_l XX hr I rfl dX0_withSayers_42
    · replace h := if_f h c1
      refine lv_lconst (v := 0) hx hb dX0_withSayers_9 (by decide) ?_
      obtain rfl := some1 h
      exact e_l XX hr I rfl dX0_withSayers_10
theorem kV_X0_89 : KV RX0 89 RX9 yX9_whoWould cX9_whoWould 8 (some .int) 3 := KV.mk wd_711 wd_560 wd_561 wd_2 wd_562 (by decide +kernel)
theorem kV_X0_92 : KV RX0 92 RX0 yX0_ownBit cX0_ownBit 1 (some .int) 0 := KV.mk wd_712 wd_714 wd_1603 wd_3 wd_715 (by decide +kernel)
theorem kV_X0_95 : KV RX0 95 RX9 yX9_sayersOf cX9_sayersOf 6 (some .int) 1 := KV.mk wd_716 wd_596 wd_597 wd_2 wd_598 (by decide +kernel)
theorem kV_X0_99 : KV RX0 99 RX0 yX0_withSayers cX0_withSayers 8 (some .long) 5 := KV.mk wd_717 wd_719 wd_1604 wd_3 wd_720 (by decide +kernel)
theorem kS_X0_103 : KS RX0 103 yX9_noesIn cX9_noesIn 2 (some .int) 2 := KS.mk wd_721 wd_568 wd_2 wd_569 (by decide +kernel)
set_option maxHeartbeats 4000000 in
set_option maxRecDepth 100000 in
theorem c_A_bestOf (l : Launch) (G : g_G) (OK : EOk G.2.2) (ad : Nat → Nat) (bd : Nat → Nat) (fu : Nat) (rc : g_St → g_St → Int32 → Int32 → Int32 → Option (Int64)) (RB : Room) (hRB : RB.cells = 0 ∧ RB.slots = 0) (hrc : ∀ (aa : g_St) (va : g_St) (x1 : Int32) (x2 : Int32) (x3 : Int32) (r : Int64), rc aa va x1 x2 x3 = some r → HL l G yX0_bestSumFrom (Cond.code yX0_bestSumFrom cX0_bestSumFrom 7 (some .long) :: gT) RB [.ref (ad 0), .int x1, .int x2, .int x3] (bA G ad bd aa ++ (bV G bd va ++ [])) r (bA G ad bd aa ++ (bV G bd va ++ []))) (aa : g_St) (va : g_St) (x1 : Int32) (x2 : Int32) (x3 : Int32) (x4 : Int32) (r : Int64) (h : f_A_bestOf fu rc aa va x1 x2 x3 x4 = some r) : HL l G yX0_bestOf (Cond.code yX0_bestOf cX0_bestOf 10 (some .long) :: gT) { frames := RB.frames + 3, cells := 0, slots := 0, locals := RB.locals + 76 } [.ref (ad 0), .int x1, .int x2, .int x3, .int x4] (bA G ad bd aa ++ (bV G bd va ++ [])) r (bA G ad bd aa ++ (bV G bd va ++ [])) := by
  refine HL.mk (lv := [(0, .ref (ad 0)), (1, .int x1), (2, .int x2), (3, .int x3), (4, .int x4)]) OK (by decide) (Nat.le_of_ble_eq_true rfl) rfl ?_
  intro p e s0 m args below meth c ls XX hr I hl
  have hx := XX.x
  have hb := XX.b
  unfold f_A_bestOf at h
  refine lv_aload_n hx hb dX0_bestOf_0 rfl (lv_at hl 0 rfl) ?_
  refine gA_X0_o0_v XX I dX0_bestOf_1 ?_
  refine lv_iload_n hx hb dX0_bestOf_4 rfl (lv_at hl 1 rfl) ?_
  refine lv_iload_n hx hb dX0_bestOf_5 rfl (lv_at hl 3 rfl) ?_
  refine lv_iload hx hb dX0_bestOf_6 (lv_at hl 4 rfl) ?_
  obtain ⟨r1, q2, h⟩ := bd1_some h
  have RC := (Rc.mk XX I (q0 := 2) (ci := 9) rfl rfl)
  replace I : Iv G (va_A (bA G ad bd aa ++ (bV G bd va ++ [])) s0.heap.size) s0 _ _ ((bV G bd va) ++ (bA G ad bd aa ++ [])) := I.perm ((List.Perm.append_left _ (List.Perm.refl _)).trans (List.perm_append_comm_assoc _ _ _))
  refine call_i (X := []) (wc := (bV G bd va)) (Y := (bA G ad bd aa ++ [])) (rest := []) XX I hl.1 (c_V_whoWould l G OK bd fu va x1 x3 x4 r1 q2) kV_X0_89 RC rfl rfl (Nat.le_of_ble_eq_true rfl) ⟨rfl, rfl, (by dsimp only; omega), (by dsimp only; omega)⟩ ⟨Nat.zero_le _, Nat.zero_le _⟩ dX0_bestOf_8 (fun H locs hz3 I => ?_)
  replace I : Iv G (va_A (bA G ad bd aa ++ (bV G bd va ++ [])) s0.heap.size) s0 H locs (bA G ad bd aa ++ (bV G bd va ++ [])) := Iv.perm (w := (bV G bd va) ++ (bA G ad bd aa ++ [])) I (((List.Perm.append_left _ (List.Perm.refl _)).trans (List.perm_append_comm_assoc _ _ _)).symm)
  refine lv_istore (lv' := [(5, .int r1), (0, .ref (ad 0)), (1, .int x1), (2, .int x2), (3, .int x3), (4, .int x4)]) hx hb dX0_bestOf_11 hl (by decide) rfl (fun ls hl => ?_)
  refine lv_aload_n hx hb dX0_bestOf_13 rfl (lv_at hl 1 rfl) ?_
  refine gA_X0_o0_v XX I dX0_bestOf_14 ?_
  refine lv_iload hx hb dX0_bestOf_17 (lv_at hl 0 rfl) ?_
  refine lv_aload_n hx hb dX0_bestOf_19 rfl (lv_at hl 1 rfl) ?_
  refine wcall_i (rest := [.int r1, .ref (bd 0)]) XX I hl.1 (c_A_ownBit l G OK ad bd aa va _ rfl) kV_X0_92 (Rc.mk XX I (q0 := 0) (ci := 0) rfl rfl) rfl rfl (Nat.le_of_ble_eq_true rfl) ⟨rfl, rfl, (by dsimp only; omega), (by dsimp only; omega)⟩ ⟨Nat.zero_le _, Nat.zero_le _⟩ dX0_bestOf_20 (fun H locs hz4 I => ?_)
  refine lv_iconst (v := (-1)) hx hb dX0_bestOf_23 (by decide) ?_
  refine lv_ixor hx hb dX0_bestOf_24 ?_
  refine lv_iand hx hb dX0_bestOf_25 ?_
  obtain ⟨r5, q6, h⟩ := bd1_some h
  have RC := (Rc.mk XX I (q0 := 2) (ci := 9) rfl rfl)
  replace I : Iv G (va_A (bA G ad bd aa ++ (bV G bd va ++ [])) s0.heap.size) s0 _ _ ((bV G bd va) ++ (bA G ad bd aa ++ [])) := I.perm ((List.Perm.append_left _ (List.Perm.refl _)).trans (List.perm_append_comm_assoc _ _ _))
  refine call_i (X := []) (wc := (bV G bd va)) (Y := (bA G ad bd aa ++ [])) (rest := []) XX I hl.1 (c_V_sayersOf l G OK bd fu va (r1 &&& ((f_A_ownBit aa) ^^^ ((-1) : Int32))) r5 q6) kV_X0_95 RC rfl rfl (Nat.le_of_ble_eq_true rfl) ⟨rfl, rfl, (by dsimp only; omega), (by dsimp only; omega)⟩ ⟨Nat.zero_le _, Nat.zero_le _⟩ dX0_bestOf_26 (fun H locs hz7 I => ?_)
  replace I : Iv G (va_A (bA G ad bd aa ++ (bV G bd va ++ [])) s0.heap.size) s0 H locs (bA G ad bd aa ++ (bV G bd va ++ [])) := Iv.perm (w := (bV G bd va) ++ (bA G ad bd aa ++ [])) I (((List.Perm.append_left _ (List.Perm.refl _)).trans (List.perm_append_comm_assoc _ _ _)).symm)
  refine lv_istore (lv' := [(6, .int r5), (5, .int r1), (0, .ref (ad 0)), (1, .int x1), (2, .int x2), (3, .int x3), (4, .int x4)]) hx hb dX0_bestOf_29 hl (by decide) rfl (fun ls hl => ?_)
  refine lv_aload_n hx hb dX0_bestOf_31 rfl (lv_at hl 2 rfl) ?_
  refine lv_iload hx hb dX0_bestOf_32 (lv_at hl 0 rfl) ?_
  refine lv_iload_n hx hb dX0_bestOf_34 rfl (lv_at hl 3 rfl) ?_
  refine lv_iload_n hx hb dX0_bestOf_35 rfl (lv_at hl 4 rfl) ?_
  refine lv_iload_n hx hb dX0_bestOf_36 rfl (lv_at hl 5 rfl) ?_
  refine lv_iload hx hb dX0_bestOf_37 (lv_at hl 6 rfl) ?_
  obtain ⟨r8, q9, h⟩ := bd1_some h
  refine wcall_l (rest := []) XX I hl.1 (c_A_withSayers l G OK ad bd fu rc RB hRB hrc aa va r5 x1 x2 x3 x4 r8 q9) kV_X0_99 (Rc.mk XX I (q0 := 0) (ci := 0) rfl rfl) rfl rfl (Nat.le_of_ble_eq_true rfl) ⟨rfl, rfl, (by dsimp only; omega), (by dsimp only; omega)⟩ ⟨Nat.zero_le _, Nat.zero_le _⟩ dX0_bestOf_39 (fun H locs I => ?_)
  refine lv_lstore (lv' := [(7, .long r8), (6, .int r5), (5, .int r1), (0, .ref (ad 0)), (1, .int x1), (2, .int x2), (3, .int x3), (4, .int x4)]) hx hb dX0_bestOf_42 hl (by decide) rfl (fun ls hl => ?_)
  refine lv_iload hx hb dX0_bestOf_44 (lv_at hl 7 rfl) ?_
  refine lv_aload_n hx hb dX0_bestOf_46 rfl (lv_at hl 3 rfl) ?_
  refine gA_X0_o0_measure XX I dX0_bestOf_47 ?_
  refine scall_i (rest := []) XX I hl.1 (c_S_noesIn l G OK x4 (gi aa 2) _ rfl) kS_X0_103 rfl rfl (Nat.le_of_ble_eq_true rfl) ⟨rfl, rfl, (by dsimp only; omega), (by dsimp only; omega)⟩ ⟨Nat.zero_le _, Nat.zero_le _⟩ dX0_bestOf_50 (fun H locs hz11 I => ?_)
  refine lv_if_ne (tgt := 59) hx hb dX0_bestOf_53 (by decide) (fun c1 => ?_) (fun c1 => ?_)
  · replace h := if_f h c1
    refine lv_aload_n hx hb dX0_bestOf_59 rfl (lv_at hl 3 rfl) ?_
    refine gA_X0_o0_v XX I dX0_bestOf_60 ?_
    refine lv_iload hx hb dX0_bestOf_63 (lv_at hl 2 rfl) ?_
    refine lv_aload_n hx hb dX0_bestOf_65 rfl (lv_at hl 3 rfl) ?_
    refine wcall_i (rest := [.int r1, .ref (bd 0)]) XX I hl.1 (c_A_ownBit l G OK ad bd aa va _ rfl) kV_X0_92 (Rc.mk XX I (q0 := 0) (ci := 0) rfl rfl) rfl rfl (Nat.le_of_ble_eq_true rfl) ⟨rfl, rfl, (by dsimp only; omega), (by dsimp only; omega)⟩ ⟨Nat.zero_le _, Nat.zero_le _⟩ dX0_bestOf_66 (fun H locs hz12 I => ?_)
    refine lv_ior hx hb dX0_bestOf_69 ?_
    obtain ⟨r13, q14, h⟩ := bd1_some h
    have RC := (Rc.mk XX I (q0 := 2) (ci := 9) rfl rfl)
    replace I : Iv G (va_A (bA G ad bd aa ++ (bV G bd va ++ [])) s0.heap.size) s0 _ _ ((bV G bd va) ++ (bA G ad bd aa ++ [])) := I.perm ((List.Perm.append_left _ (List.Perm.refl _)).trans (List.perm_append_comm_assoc _ _ _))
    refine call_i (X := []) (wc := (bV G bd va)) (Y := (bA G ad bd aa ++ [])) (rest := []) XX I hl.1 (c_V_sayersOf l G OK bd fu va (r1 ||| (f_A_ownBit aa)) r13 q14) kV_X0_95 RC rfl rfl (Nat.le_of_ble_eq_true rfl) ⟨rfl, rfl, (by dsimp only; omega), (by dsimp only; omega)⟩ ⟨Nat.zero_le _, Nat.zero_le _⟩ dX0_bestOf_70 (fun H locs hz15 I => ?_)
    replace I : Iv G (va_A (bA G ad bd aa ++ (bV G bd va ++ [])) s0.heap.size) s0 H locs (bA G ad bd aa ++ (bV G bd va ++ [])) := Iv.perm (w := (bV G bd va) ++ (bA G ad bd aa ++ [])) I (((List.Perm.append_left _ (List.Perm.refl _)).trans (List.perm_append_comm_assoc _ _ _)).symm)
    refine lv_istore (lv' := [(9, .int r13), (7, .long r8), (6, .int r5), (5, .int r1), (0, .ref (ad 0)), (1, .int x1), (2, .int x2), (3, .int x3), (4, .int x4)]) hx hb dX0_bestOf_73 hl (by decide) rfl (fun ls hl => ?_)
    refine lv_iload hx hb dX0_bestOf_75 (lv_at hl 0 rfl) ?_
    refine lv_iload hx hb dX0_bestOf_77 (lv_at hl 2 rfl) ?_
    refine lv_icmp_ne (tgt := 85) hx hb dX0_bestOf_79 (by decide) (fun c1 => ?_) (fun c1 => ?_)
    · replace h := if_f h c1
      refine lv_lload hx hb dX0_bestOf_85 (lv_at hl 1 rfl) ?_
      refine lv_aload_n hx hb dX0_bestOf_87 rfl (lv_at hl 4 rfl) ?_
      refine lv_iload hx hb dX0_bestOf_88 (lv_at hl 0 rfl) ?_
      refine lv_iload_n hx hb dX0_bestOf_90 rfl (lv_at hl 5 rfl) ?_
      refine lv_iload_n hx hb dX0_bestOf_91 rfl (lv_at hl 6 rfl) ?_
      refine lv_iload_n hx hb dX0_bestOf_92 rfl (lv_at hl 7 rfl) ?_
      refine lv_iload hx hb dX0_bestOf_93 (lv_at hl 8 rfl) ?_
      obtain ⟨r16, q17, h⟩ := bd1_some h
      refine wcall_l (rest := [.long r8]) XX I hl.1 (c_A_withSayers l G OK ad bd fu rc RB hRB hrc aa va r13 x1 x2 x3 x4 r16 q17) kV_X0_99 (Rc.mk XX I (q0 := 0) (ci := 0) rfl rfl) rfl rfl (Nat.le_of_ble_eq_true rfl) ⟨rfl, rfl, (by dsimp only; omega), (by dsimp only; omega)⟩ ⟨Nat.zero_le _, Nat.zero_le _⟩ dX0_bestOf_95 (fun H locs I => ?_)
      refine r_maxL XX hl.1 wd_722 (Nat.le_of_ble_eq_true rfl) (Nat.le_of_ble_eq_true rfl) (Nat.zero_le _) (Nat.zero_le _) dX0_bestOf_98 ?_
      obtain rfl := some1 h
      exact e_l XX hr I rfl dX0_bestOf_101
    · replace h := if_t h c1
      refine lv_lload hx hb dX0_bestOf_82 (lv_at hl 1 rfl) ?_
      obtain rfl := some1 h
      exact e_l XX hr I rfl dX0_bestOf_84
  · replace h := if_t h c1
    refine lv_lload hx hb dX0_bestOf_56 (lv_at hl 0 rfl) ?_
    obtain rfl := some1 h
    exact e_l XX hr I rfl dX0_bestOf_58
theorem kV_X0_85 : KV RX0 85 RX0 yX0_bestOf cX0_bestOf 10 (some .long) 4 := KV.mk wd_707 wd_709 wd_1602 wd_3 wd_710 (by decide +kernel)
set_option maxHeartbeats 4000000 in
set_option maxRecDepth 100000 in
theorem c_A_bestSumFrom_B (l : Launch) (G : g_G) (OK : EOk G.2.2) (ad : Nat → Nat) (bd : Nat → Nat) (fu : Nat) (rc : g_St → g_St → Int32 → Int32 → Int32 → Option (Int64)) (RB : Room) (hRB : RB.cells = 0 ∧ RB.slots = 0) (hrc : ∀ (aa : g_St) (va : g_St) (x1 : Int32) (x2 : Int32) (x3 : Int32) (r : Int64), rc aa va x1 x2 x3 = some r → HL l G yX0_bestSumFrom (Cond.code yX0_bestSumFrom cX0_bestSumFrom 7 (some .long) :: gT) RB [.ref (ad 0), .int x1, .int x2, .int x3] (bA G ad bd aa ++ (bV G bd va ++ [])) r (bA G ad bd aa ++ (bV G bd va ++ []))) (aa : g_St) (va : g_St) (x1 : Int32) (x2 : Int32) (x3 : Int32) (r : Int64) (h : f_A_bestSumFrom_B fu rc aa va x1 x2 x3 = some r) : HL l G yX0_bestSumFrom (Cond.code yX0_bestSumFrom cX0_bestSumFrom 7 (some .long) :: gT) { frames := RB.frames + 4, cells := 0, slots := 0, locals := RB.locals + 105 } [.ref (ad 0), .int x1, .int x2, .int x3] (bA G ad bd aa ++ (bV G bd va ++ [])) r (bA G ad bd aa ++ (bV G bd va ++ [])) := by
  refine HL.mk (lv := [(0, .ref (ad 0)), (1, .int x1), (2, .int x2), (3, .int x3)]) OK (by decide) (Nat.le_of_ble_eq_true rfl) rfl ?_
  intro p e s0 m args below meth c ls XX hr I hl
  have hx := XX.x
  have hb := XX.b
  have C17 : ∀ n : Nat, ∀ (v1 : Int32) (v2 : Int32) (v3 : Int32) (v4 : Int64) (v6 : Int32), f_A_bestSumFrom_B_L17 fu rc n aa va v1 v2 v3 v4 v6 = some r → ∀ (H : Heap) (locs : List Loc), Iv G (va_A (bA G ad bd aa ++ (bV G bd va ++ [])) s0.heap.size) s0 H locs (bA G ad bd aa ++ (bV G bd va ++ [])) → ∀ ls, lv_has ls 7 [(0, .ref (ad 0)), (1, .int v1), (2, .int v2), (3, .int v3), (4, .long v4), (6, .int v6)] → W p l e { frames := RB.frames + 4, cells := 0, slots := 0, locals := RB.locals + 105 } s0 m args below meth c H locs 0 0 (QL G below r (bA G ad bd aa ++ (bV G bd va ++ [])) (bA G ad bd aa ++ (bV G bd va ++ [])) args s0) (F0 m 17 ls []) := by
    intro n
    induction n with
    | zero => intro v1 v2 v3 v4 v6 h; exact absurd h (fun q => by cases q)
    | succ n ih =>
      intro v1 v2 v3 v4 v6 h H locs I ls hl
      rw [f_A_bestSumFrom_B_L17] at h
      refine lv_iload hx hb dX0_bestSumFrom_17 (lv_at hl 5 rfl) ?_
      refine lv_aload_n hx hb dX0_bestSumFrom_19 rfl (lv_at hl 0 rfl) ?_
      refine gA_X0_o0_v XX I dX0_bestSumFrom_20 ?_
      refine gA_X0_o1_proposals XX I dX0_bestSumFrom_23 ?_
      refine lv_icmp_ge (tgt := 74) hx hb dX0_bestSumFrom_26 (by decide) (fun c1 => ?_) (fun c1 => ?_)
      · replace h := if_t h c1
        refine lv_lload hx hb dX0_bestSumFrom_74 (lv_at hl 4 rfl) ?_
        obtain rfl := some1 h
        exact e_l XX hr I rfl dX0_bestSumFrom_76
      · replace h := if_f h c1
        refine lv_aload_n hx hb dX0_bestSumFrom_29 rfl (lv_at hl 0 rfl) ?_
        refine gA_X0_o0_v XX I dX0_bestSumFrom_30 ?_
        refine gA_X0_o1_weight XX I dX0_bestSumFrom_33 ?_
        refine lv_iload hx hb dX0_bestSumFrom_36 (lv_at hl 5 rfl) ?_
        obtain ⟨g1, h⟩ := gd_some h
        refine r_iald XX I 8 (aA_weight1) g1 dX0_bestSumFrom_38 ?_
        refine lv_if_eq (tgt := 68) hx hb dX0_bestSumFrom_39 (by decide) (fun c1 => ?_) (fun c1 => ?_)
        · replace h := if_t h c1
          obtain ⟨y2, ey2⟩ : ∃ z : Int32, z = v6 + (1 : Int32) := ⟨_, rfl⟩
          replace h := lt_e h ey2
          refine lv_iinc (v := y2) (lv' := [(6, .int y2), (0, .ref (ad 0)), (1, .int v1), (2, .int v2), (3, .int v3), (4, .long v4)]) hx hb dX0_bestSumFrom_68 hl (k := 5) rfl (by rw [ey2]; rfl) (by decide) rfl (fun ls hl => ?_)
          refine lv_goto (tgt := 17) hx hb dX0_bestSumFrom_71 (by decide) ?_
          exact ih _ _ _ _ _ h _ _ I ls (lv_sub hl [1, 2, 3, 4, 5, 0] rfl)
        · replace h := if_f h c1
          refine lv_lload hx hb dX0_bestSumFrom_42 (lv_at hl 4 rfl) ?_
          refine lv_aload_n hx hb dX0_bestSumFrom_44 rfl (lv_at hl 0 rfl) ?_
          refine gA_X0_o0_v XX I dX0_bestSumFrom_45 ?_
          refine gA_X0_o1_weight XX I dX0_bestSumFrom_48 ?_
          refine lv_iload hx hb dX0_bestSumFrom_51 (lv_at hl 5 rfl) ?_
          obtain ⟨g3, h⟩ := gd_some h
          refine r_iald XX I 8 (aA_weight1) g3 dX0_bestSumFrom_53 ?_
          refine lv_i2l hx hb dX0_bestSumFrom_54 rfl ?_
          refine lv_aload_n hx hb dX0_bestSumFrom_55 rfl (lv_at hl 0 rfl) ?_
          refine lv_iload hx hb dX0_bestSumFrom_56 (lv_at hl 5 rfl) ?_
          refine lv_iload_n hx hb dX0_bestSumFrom_58 rfl (lv_at hl 1 rfl) ?_
          refine lv_iload_n hx hb dX0_bestSumFrom_59 rfl (lv_at hl 2 rfl) ?_
          refine lv_iload_n hx hb dX0_bestSumFrom_60 rfl (lv_at hl 3 rfl) ?_
          obtain ⟨r4, q5, h⟩ := bd1_some h
          refine wcall_l (rest := [.long ((gr va 7 v6.toNatClampNeg).toInt64), .long v4]) XX I hl.1 (c_A_bestOf l G OK ad bd fu rc RB hRB hrc aa va v6 v1 v2 v3 r4 q5) kV_X0_85 (Rc.mk XX I (q0 := 0) (ci := 0) rfl rfl) rfl rfl (Nat.le_of_ble_eq_true rfl) ⟨rfl, rfl, (by dsimp only; omega), (by dsimp only; omega)⟩ ⟨Nat.zero_le _, Nat.zero_le _⟩ dX0_bestSumFrom_61 (fun H locs I => ?_)
          refine lv_lmul hx hb dX0_bestSumFrom_64 ?_
          refine lv_ladd hx hb dX0_bestSumFrom_65 ?_
          refine lv_topl (fun y7 ey7 => ?_)
          replace h := lt_e h ey7
          refine lv_lstore (lv' := [(4, .long y7), (0, .ref (ad 0)), (1, .int v1), (2, .int v2), (3, .int v3), (6, .int v6)]) hx hb dX0_bestSumFrom_66 hl (by decide) rfl (fun ls hl => ?_)
          obtain ⟨y8, ey8⟩ : ∃ z : Int32, z = v6 + (1 : Int32) := ⟨_, rfl⟩
          replace h := lt_e h ey8
          refine lv_iinc (v := y8) (lv' := [(6, .int y8), (4, .long y7), (0, .ref (ad 0)), (1, .int v1), (2, .int v2), (3, .int v3)]) hx hb dX0_bestSumFrom_68 hl (k := 5) rfl (by rw [ey8]; rfl) (by decide) rfl (fun ls hl => ?_)
          refine lv_goto (tgt := 17) hx hb dX0_bestSumFrom_71 (by decide) ?_
          exact ih _ _ _ _ _ h _ _ I ls (lv_sub hl [2, 3, 4, 5, 1, 0] rfl)
  unfold f_A_bestSumFrom_B at h
  refine lv_iload_n hx hb dX0_bestSumFrom_0 rfl (lv_at hl 1 rfl) ?_
  refine lv_if_le (tgt := 9) hx hb dX0_bestSumFrom_1 (by decide) (fun c1 => ?_) (fun c1 => ?_)
  · replace h := if_t h c1
    refine lv_lconst (v := 0) hx hb dX0_bestSumFrom_9 (by decide) ?_
    obtain rfl := some1 h
    exact e_l XX hr I rfl dX0_bestSumFrom_10
  · replace h := if_f h c1
    refine lv_iload_n hx hb dX0_bestSumFrom_4 rfl (lv_at hl 1 rfl) ?_
    refine lv_iconst (v := 3) hx hb dX0_bestSumFrom_5 (by decide) ?_
    refine lv_icmp_le (tgt := 11) hx hb dX0_bestSumFrom_6 (by decide) (fun c1 => ?_) (fun c1 => ?_)
    · replace h := if_t h c1
      refine lv_lconst (v := 0) hx hb dX0_bestSumFrom_11 (by decide) ?_
      refine lv_lstore (lv' := [(4, .long (0 : Int64)), (0, .ref (ad 0)), (1, .int x1), (2, .int x2), (3, .int x3)]) hx hb dX0_bestSumFrom_12 hl (by decide) rfl (fun ls hl => ?_)
      refine lv_iconst (v := 0) hx hb dX0_bestSumFrom_14 (by decide) ?_
      refine lv_istore (lv' := [(6, .int (0 : Int32)), (4, .long (0 : Int64)), (0, .ref (ad 0)), (1, .int x1), (2, .int x2), (3, .int x3)]) hx hb dX0_bestSumFrom_15 hl (by decide) rfl (fun ls hl => ?_)
      exact C17 fu _ _ _ _ _ h _ _ I ls (lv_sub hl [2, 3, 4, 5, 1, 0] rfl)
    · replace h := if_f h c1
      refine lv_lconst (v := 0) hx hb dX0_bestSumFrom_9 (by decide) ?_
      obtain rfl := some1 h
      exact e_l XX hr I rfl dX0_bestSumFrom_10
theorem c_A_bestSumFrom (l : Launch) (G : g_G) (OK : EOk G.2.2) (ad : Nat → Nat) (bd : Nat → Nat) (fu : Nat) (d : Nat) : ∀ (aa : g_St) (va : g_St) (x1 : Int32) (x2 : Int32) (x3 : Int32) (r : Int64), f_A_bestSumFrom fu d aa va x1 x2 x3 = some r → HL l G yX0_bestSumFrom (Cond.code yX0_bestSumFrom cX0_bestSumFrom 7 (some .long) :: gT) { frames := 4 * d, cells := 0, slots := 0, locals := 105 * d } [.ref (ad 0), .int x1, .int x2, .int x3] (bA G ad bd aa ++ (bV G bd va ++ [])) r (bA G ad bd aa ++ (bV G bd va ++ [])) := by
  induction d with
  | zero => intro aa va x1 x2 x3 r h; exact absurd h (fun q => by cases q)
  | succ d ih =>
    intro aa va x1 x2 x3 r h
    have k := c_A_bestSumFrom_B l G OK ad bd fu (f_A_bestSumFrom fu d) { frames := 4 * d, cells := 0, slots := 0, locals := 105 * d } ⟨rfl, rfl⟩ ih aa va x1 x2 x3 r (by rw [f_A_bestSumFrom] at h; exact h)
    exact k
theorem kV_X0_119 : KV RX0 119 RX0 yX0_rowFrom cX0_rowFrom 8 (some .int) 4 := KV.mk wd_750 wd_752 wd_1605 wd_3 wd_753 (by decide +kernel)
set_option maxHeartbeats 4000000 in
set_option maxRecDepth 100000 in
theorem c_A_rowFrom_B (l : Launch) (G : g_G) (OK : EOk G.2.2) (ad : Nat → Nat) (bd : Nat → Nat) (fu : Nat) (rc : g_St → g_St → Int32 → Int32 → Int32 → Int32 → Option (Int32)) (RB : Room) (hRB : RB.cells = 0 ∧ RB.slots = 0) (hrc : ∀ (aa : g_St) (va : g_St) (x1 : Int32) (x2 : Int32) (x3 : Int32) (x4 : Int32) (r : Int32), rc aa va x1 x2 x3 x4 = some r → HI l G yX0_rowFrom (Cond.code yX0_rowFrom cX0_rowFrom 8 (some .int) :: gT) RB .int [.ref (ad 0), .int x1, .int x2, .int x3, .int x4] (bA G ad bd aa ++ (bV G bd va ++ [])) r (bA G ad bd aa ++ (bV G bd va ++ []))) (aa : g_St) (va : g_St) (x1 : Int32) (x2 : Int32) (x3 : Int32) (x4 : Int32) (r : Int32) (h : f_A_rowFrom_B fu rc aa va x1 x2 x3 x4 = some r) : HI l G yX0_rowFrom (Cond.code yX0_rowFrom cX0_rowFrom 8 (some .int) :: gT) { frames := RB.frames + 4, cells := 0, slots := 0, locals := RB.locals + 99 } .int [.ref (ad 0), .int x1, .int x2, .int x3, .int x4] (bA G ad bd aa ++ (bV G bd va ++ [])) r (bA G ad bd aa ++ (bV G bd va ++ [])) := by
  refine HI.mk (lv := [(0, .ref (ad 0)), (1, .int x1), (2, .int x2), (3, .int x3), (4, .int x4)]) OK (by decide) (Nat.le_of_ble_eq_true rfl) rfl ?_
  intro p e s0 m args below meth c ls XX hr I hl
  have hx := XX.x
  have hb := XX.b
  have C41 : ∀ n : Nat, ∀ (v1 : Int32) (v2 : Int32) (v3 : Int32) (v4 : Int32) (v5 : Int32), f_A_rowFrom_B_L41 fu rc n aa va v1 v2 v3 v4 v5 = some r → ∀ (H : Heap) (locs : List Loc), Iv G (va_A (bA G ad bd aa ++ (bV G bd va ++ [])) s0.heap.size) s0 H locs (bA G ad bd aa ++ (bV G bd va ++ [])) → ∀ ls, lv_has ls 8 [(0, .ref (ad 0)), (1, .int v1), (2, .int v2), (3, .int v3), (4, .int v4), (5, .int v5)] → W p l e { frames := RB.frames + 4, cells := 0, slots := 0, locals := RB.locals + 99 } s0 m args below meth c H locs 0 0 (QI G below .int r (bA G ad bd aa ++ (bV G bd va ++ [])) (bA G ad bd aa ++ (bV G bd va ++ [])) args s0) (F0 m 41 ls []) := by
    intro n
    induction n with
    | zero => intro v1 v2 v3 v4 v5 h; exact absurd h (fun q => by cases q)
    | succ n ih =>
      intro v1 v2 v3 v4 v5 h H locs I ls hl
      rw [f_A_rowFrom_B_L41] at h
      refine lv_iload hx hb dX0_rowFrom_41 (lv_at hl 5 rfl) ?_
      refine lv_aload_n hx hb dX0_rowFrom_43 rfl (lv_at hl 0 rfl) ?_
      refine gA_X0_o0_v XX I dX0_rowFrom_44 ?_
      refine gA_X0_o1_proposals XX I dX0_rowFrom_47 ?_
      refine lv_icmp_ge (tgt := 112) hx hb dX0_rowFrom_50 (by decide) (fun c1 => ?_) (fun c1 => ?_)
      · replace h := if_t h c1
        refine lv_iconst (v := (-1)) hx hb dX0_rowFrom_112 (by decide) ?_
        obtain rfl := some1 h
        exact e_i rfl XX hr I rfl dX0_rowFrom_113
      · replace h := if_f h c1
        refine lv_aload_n hx hb dX0_rowFrom_53 rfl (lv_at hl 0 rfl) ?_
        refine gA_X0_o0_v XX I dX0_rowFrom_54 ?_
        refine lv_aload_n hx hb dX0_rowFrom_57 rfl (lv_at hl 0 rfl) ?_
        refine gA_X0_o0_v XX I dX0_rowFrom_58 ?_
        refine lv_iload hx hb dX0_rowFrom_61 (lv_at hl 5 rfl) ?_
        refine lv_iload_n hx hb dX0_rowFrom_63 rfl (lv_at hl 3 rfl) ?_
        refine lv_iload hx hb dX0_rowFrom_64 (lv_at hl 4 rfl) ?_
        obtain ⟨r5, q6, h⟩ := bd1_some h
        have RC := (Rc.mk XX I (q0 := 2) (ci := 9) rfl rfl)
        replace I : Iv G (va_A (bA G ad bd aa ++ (bV G bd va ++ [])) s0.heap.size) s0 _ _ ((bV G bd va) ++ (bA G ad bd aa ++ [])) := I.perm ((List.Perm.append_left _ (List.Perm.refl _)).trans (List.perm_append_comm_assoc _ _ _))
        refine call_i (X := []) (wc := (bV G bd va)) (Y := (bA G ad bd aa ++ [])) (rest := [.ref (bd 0)]) XX I hl.1 (c_V_whoSays l G OK bd fu va v5 v3 v4 r5 q6) kV_X0_57 RC rfl rfl (Nat.le_of_ble_eq_true rfl) ⟨rfl, rfl, (by dsimp only; omega), (by dsimp only; omega)⟩ ⟨Nat.zero_le _, Nat.zero_le _⟩ dX0_rowFrom_66 (fun H locs hz7 I => ?_)
        replace I : Iv G (va_A (bA G ad bd aa ++ (bV G bd va ++ [])) s0.heap.size) s0 H locs (bA G ad bd aa ++ (bV G bd va ++ [])) := Iv.perm (w := (bV G bd va) ++ (bA G ad bd aa ++ [])) I (((List.Perm.append_left _ (List.Perm.refl _)).trans (List.perm_append_comm_assoc _ _ _)).symm)
        refine lv_iload_n hx hb dX0_rowFrom_69 rfl (lv_at hl 3 rfl) ?_
        refine lv_iload hx hb dX0_rowFrom_70 (lv_at hl 4 rfl) ?_
        obtain ⟨r8, q9, h⟩ := bd1_some h
        have RC := (Rc.mk XX I (q0 := 2) (ci := 9) rfl rfl)
        replace I : Iv G (va_A (bA G ad bd aa ++ (bV G bd va ++ [])) s0.heap.size) s0 _ _ ((bV G bd va) ++ (bA G ad bd aa ++ [])) := I.perm ((List.Perm.append_left _ (List.Perm.refl _)).trans (List.perm_append_comm_assoc _ _ _))
        refine call_i (X := []) (wc := (bV G bd va)) (Y := (bA G ad bd aa ++ [])) (rest := []) XX I hl.1 (c_V_noesAfter l G OK bd fu va r5 v3 v4 r8 q9) kV_X0_69 RC rfl rfl (Nat.le_of_ble_eq_true rfl) ⟨rfl, rfl, (by dsimp only; omega), (by dsimp only; omega)⟩ ⟨Nat.zero_le _, Nat.zero_le _⟩ dX0_rowFrom_72 (fun H locs hz10 I => ?_)
        replace I : Iv G (va_A (bA G ad bd aa ++ (bV G bd va ++ [])) s0.heap.size) s0 H locs (bA G ad bd aa ++ (bV G bd va ++ [])) := Iv.perm (w := (bV G bd va) ++ (bA G ad bd aa ++ [])) I (((List.Perm.append_left _ (List.Perm.refl _)).trans (List.perm_append_comm_assoc _ _ _)).symm)
        refine lv_istore (lv' := [(6, .int r8), (0, .ref (ad 0)), (1, .int v1), (2, .int v2), (3, .int v3), (4, .int v4), (5, .int v5)]) hx hb dX0_rowFrom_75 hl (by decide) rfl (fun ls hl => ?_)
        refine lv_aload_n hx hb dX0_rowFrom_77 rfl (lv_at hl 1 rfl) ?_
        refine lv_iload_n hx hb dX0_rowFrom_78 rfl (lv_at hl 2 rfl) ?_
        refine lv_iload_n hx hb dX0_rowFrom_79 rfl (lv_at hl 3 rfl) ?_
        refine lv_iconst (v := 1) hx hb dX0_rowFrom_80 (by decide) ?_
        refine lv_isub hx hb dX0_rowFrom_81 ?_
        refine lv_iload_n hx hb dX0_rowFrom_82 rfl (lv_at hl 4 rfl) ?_
        refine lv_iconst (v := 1) hx hb dX0_rowFrom_83 (by decide) ?_
        refine lv_iadd hx hb dX0_rowFrom_84 ?_
        refine lv_iload hx hb dX0_rowFrom_85 (lv_at hl 0 rfl) ?_
        obtain ⟨r11, q12, h⟩ := bd1_some h
        refine wcall_i (rest := []) XX I hl.1 (hrc aa va v1 (v2 - (1 : Int32)) (v3 + (1 : Int32)) r8 r11 q12) kV_X0_119 (Rc.mk XX I (q0 := 0) (ci := 0) rfl rfl) rfl rfl (Nat.le_of_ble_eq_true rfl) ⟨hRB.1, hRB.2, (by dsimp only; omega), (by dsimp only; omega)⟩ ⟨Nat.zero_le _, Nat.zero_le _⟩ dX0_rowFrom_87 (fun H locs hz13 I => ?_)
        refine lv_istore (lv' := [(7, .int r11), (6, .int r8), (0, .ref (ad 0)), (1, .int v1), (2, .int v2), (3, .int v3), (4, .int v4), (5, .int v5)]) hx hb dX0_rowFrom_90 hl (by decide) rfl (fun ls hl => ?_)
        refine lv_iload hx hb dX0_rowFrom_92 (lv_at hl 0 rfl) ?_
        refine lv_if_lt (tgt := 106) hx hb dX0_rowFrom_94 (by decide) (fun c1 => ?_) (fun c1 => ?_)
        · replace h := if_t h c1
          obtain ⟨y14, ey14⟩ : ∃ z : Int32, z = v5 + (1 : Int32) := ⟨_, rfl⟩
          replace h := lt_e h ey14
          refine lv_iinc (v := y14) (lv' := [(5, .int y14), (7, .int r11), (6, .int r8), (0, .ref (ad 0)), (1, .int v1), (2, .int v2), (3, .int v3), (4, .int v4)]) hx hb dX0_rowFrom_106 hl (k := 7) rfl (by rw [ey14]; rfl) (by decide) rfl (fun ls hl => ?_)
          refine lv_goto (tgt := 41) hx hb dX0_rowFrom_109 (by decide) ?_
          exact ih _ _ _ _ _ h _ _ I ls (lv_sub hl [3, 4, 5, 6, 7, 0] rfl)
        · replace h := if_f h c1
          refine lv_iload hx hb dX0_rowFrom_97 (lv_at hl 0 rfl) ?_
          refine lv_bipush (v := 8) hx hb dX0_rowFrom_99 (by decide) ?_
          refine lv_imul hx hb dX0_rowFrom_101 ?_
          refine lv_iload hx hb dX0_rowFrom_102 (lv_at hl 7 rfl) ?_
          refine lv_iadd hx hb dX0_rowFrom_104 ?_
          obtain rfl := some1 h
          exact e_i rfl XX hr I rfl dX0_rowFrom_105
  unfold f_A_rowFrom_B at h
  refine lv_iload_n hx hb dX0_rowFrom_0 rfl (lv_at hl 2 rfl) ?_
  refine lv_iconst (v := 3) hx hb dX0_rowFrom_1 (by decide) ?_
  refine lv_icmp_le (tgt := 7) hx hb dX0_rowFrom_2 (by decide) (fun c1 => ?_) (fun c1 => ?_)
  · replace h := if_t h c1
    refine lv_iload_n hx hb dX0_rowFrom_7 rfl (lv_at hl 2 rfl) ?_
    refine lv_if_gt (tgt := 38) hx hb dX0_rowFrom_8 (by decide) (fun c1 => ?_) (fun c1 => ?_)
    · replace h := if_t h c1
      refine lv_iconst (v := 0) hx hb dX0_rowFrom_38 (by decide) ?_
      refine lv_istore (lv' := [(5, .int (0 : Int32)), (0, .ref (ad 0)), (1, .int x1), (2, .int x2), (3, .int x3), (4, .int x4)]) hx hb dX0_rowFrom_39 hl (by decide) rfl (fun ls hl => ?_)
      exact C41 fu _ _ _ _ _ h _ _ I ls (lv_sub hl [1, 2, 3, 4, 5, 0] rfl)
    · replace h := if_f h c1
      refine lv_aload_n hx hb dX0_rowFrom_11 rfl (lv_at hl 0 rfl) ?_
      refine gA_X0_o0_v XX I dX0_rowFrom_12 ?_
      refine lv_aload_n hx hb dX0_rowFrom_15 rfl (lv_at hl 0 rfl) ?_
      refine gA_X0_o0_v XX I dX0_rowFrom_16 ?_
      refine lv_iload_n hx hb dX0_rowFrom_19 rfl (lv_at hl 1 rfl) ?_
      refine lv_iload_n hx hb dX0_rowFrom_20 rfl (lv_at hl 3 rfl) ?_
      refine lv_iload hx hb dX0_rowFrom_21 (lv_at hl 4 rfl) ?_
      obtain ⟨r1, q2, h⟩ := bd1_some h
      have RC := (Rc.mk XX I (q0 := 2) (ci := 9) rfl rfl)
      replace I : Iv G (va_A (bA G ad bd aa ++ (bV G bd va ++ [])) s0.heap.size) s0 _ _ ((bV G bd va) ++ (bA G ad bd aa ++ [])) := I.perm ((List.Perm.append_left _ (List.Perm.refl _)).trans (List.perm_append_comm_assoc _ _ _))
      refine call_i (X := []) (wc := (bV G bd va)) (Y := (bA G ad bd aa ++ [])) (rest := [.ref (bd 0)]) XX I hl.1 (c_V_whoSays l G OK bd fu va x1 x3 x4 r1 q2) kV_X0_57 RC rfl rfl (Nat.le_of_ble_eq_true rfl) ⟨rfl, rfl, (by dsimp only; omega), (by dsimp only; omega)⟩ ⟨Nat.zero_le _, Nat.zero_le _⟩ dX0_rowFrom_23 (fun H locs hz3 I => ?_)
      replace I : Iv G (va_A (bA G ad bd aa ++ (bV G bd va ++ [])) s0.heap.size) s0 H locs (bA G ad bd aa ++ (bV G bd va ++ [])) := Iv.perm (w := (bV G bd va) ++ (bA G ad bd aa ++ [])) I (((List.Perm.append_left _ (List.Perm.refl _)).trans (List.perm_append_comm_assoc _ _ _)).symm)
      have RC := (Rc.mk XX I (q0 := 2) (ci := 9) rfl rfl)
      replace I : Iv G (va_A (bA G ad bd aa ++ (bV G bd va ++ [])) s0.heap.size) s0 _ _ ((bV G bd va) ++ (bA G ad bd aa ++ [])) := I.perm ((List.Perm.append_left _ (List.Perm.refl _)).trans (List.perm_append_comm_assoc _ _ _))
      refine call_i (X := []) (wc := (bV G bd va)) (Y := (bA G ad bd aa ++ [])) (rest := []) XX I hl.1 (c_V_isFall l G OK bd va r1 _ rfl) kV_X0_61 RC rfl rfl (Nat.le_of_ble_eq_true rfl) ⟨rfl, rfl, (by dsimp only; omega), (by dsimp only; omega)⟩ ⟨Nat.zero_le _, Nat.zero_le _⟩ dX0_rowFrom_26 (fun H locs hz4 I => ?_)
      replace I : Iv G (va_A (bA G ad bd aa ++ (bV G bd va ++ [])) s0.heap.size) s0 H locs (bA G ad bd aa ++ (bV G bd va ++ [])) := Iv.perm (w := (bV G bd va) ++ (bA G ad bd aa ++ [])) I (((List.Perm.append_left _ (List.Perm.refl _)).trans (List.perm_append_comm_assoc _ _ _)).symm)
      refine lv_if_eq (tgt := 36) hx hb dX0_rowFrom_29 (by decide) (fun c1 => ?_) (fun c1 => ?_)
      · replace h := if_t h c1
        refine lv_iconst (v := 0) hx hb dX0_rowFrom_36 (by decide) ?_
        obtain rfl := some1 h
        exact e_i rfl XX hr I rfl dX0_rowFrom_37
      · replace h := if_f h c1
        refine lv_iconst (v := (-1)) hx hb dX0_rowFrom_32 (by decide) ?_
        refine lv_goto (tgt := 37) hx hb dX0_rowFrom_33 (by decide) ?_
        obtain rfl := some1 h
        exact e_i rfl XX hr I rfl dX0_rowFrom_37
  · replace h := if_f h c1
    refine lv_iconst (v := (-1)) hx hb dX0_rowFrom_5 (by decide) ?_
    obtain rfl := some1 h
    exact e_i rfl XX hr I rfl dX0_rowFrom_6
theorem c_A_rowFrom (l : Launch) (G : g_G) (OK : EOk G.2.2) (ad : Nat → Nat) (bd : Nat → Nat) (fu : Nat) (d : Nat) : ∀ (aa : g_St) (va : g_St) (x1 : Int32) (x2 : Int32) (x3 : Int32) (x4 : Int32) (r : Int32), f_A_rowFrom fu d aa va x1 x2 x3 x4 = some r → HI l G yX0_rowFrom (Cond.code yX0_rowFrom cX0_rowFrom 8 (some .int) :: gT) { frames := 4 * d, cells := 0, slots := 0, locals := 99 * d } .int [.ref (ad 0), .int x1, .int x2, .int x3, .int x4] (bA G ad bd aa ++ (bV G bd va ++ [])) r (bA G ad bd aa ++ (bV G bd va ++ [])) := by
  induction d with
  | zero => intro aa va x1 x2 x3 x4 r h; exact absurd h (fun q => by cases q)
  | succ d ih =>
    intro aa va x1 x2 x3 x4 r h
    have k := c_A_rowFrom_B l G OK ad bd fu (f_A_rowFrom fu d) { frames := 4 * d, cells := 0, slots := 0, locals := 99 * d } ⟨rfl, rfl⟩ ih aa va x1 x2 x3 x4 r (by rw [f_A_rowFrom] at h; exact h)
    exact k
theorem kV_X0_26 : KV RX0 26 RX9 yX9_copyFrom cX9_copyFrom 3 none 1 := KV.mk wd_663 wd_481 wd_482 wd_2 wd_483 (by decide +kernel)
theorem kV_X0_30 : KV RX0 30 RX9 yX9_allWeights cX9_allWeights 3 (some .int) 0 := KV.mk wd_664 wd_633 wd_634 wd_2 wd_635 (by decide +kernel)
theorem gAU_X0_o0_v {p : Program} {l : Launch} {e : Env} {R : Room} {s0 : State} {m : MethodId} {args : Array Value} {below : List Frame} {meth : Method} {c : Code} {H : Heap} {locs : List Loc} {cells slots : Nat} {Q : State → Prop} {cc : ByteArray} {nL pc : Nat} {ls : Array Slot} {rest : List Value} {G : g_G} {A : Nat → Prop} {ad bd cd : Nat → Nat} {a v u : g_St} (XX : Cx G A p s0 m meth c cc nL RX0 args) (I : Iv G A s0 H locs (bA G ad bd a ++ (bV G bd v ++ (bV G cd u ++ [])))) (hdg : decode cc pc = .ok (.getfield 12, 3)) (kk : W p l e R s0 m args below meth c H locs cells slots Q (F0 m (pc + 3) ls (.ref (bd 0) :: rest))) : W p l e R s0 m args below meth c H locs cells slots Q (F0 m pc ls (.ref (ad 0) :: rest)) := r_get kfX0 XX I 0 rfl 0 (Nat.le_of_ble_eq_true rfl) wd_110 rfl hdg kk
theorem pAU_X0_o0_measure {p : Program} {l : Launch} {e : Env} {R : Room} {s0 : State} {m : MethodId} {args : Array Value} {below : List Frame} {meth : Method} {c : Code} {H : Heap} {locs : List Loc} {cells slots : Nat} {Q : State → Prop} {cc : ByteArray} {nL pc : Nat} {ls : Array Slot} {rest : List Value} {G : g_G} {A : Nat → Prop} {ad bd cd : Nat → Nat} {a v u : g_St} {val : Int32} (XX : Cx G A p s0 m meth c cc nL RX0 args) (I : Iv G A s0 H locs (bA G ad bd a ++ (bV G bd v ++ (bV G cd u ++ [])))) (hdg : decode cc pc = .ok (.putfield 22, 3)) (kk : ∀ (H1 : Heap) (locs1 : List Loc), Iv G A s0 H1 locs1 (bA G ad bd (si a 2 val) ++ (bV G bd v ++ (bV G cd u ++ []))) → W p l e R s0 m args below meth c H1 locs1 cells slots Q (F0 m (pc + 3) ls rest)) : W p l e R s0 m args below meth c H locs cells slots Q (F0 m pc ls (.int val :: .ref (ad 0) :: rest)) := r_put kfX0 XX I 0 rfl 2 (Nat.le_of_ble_eq_true rfl) wd_113 rfl (vp_nar_int val) rfl (Nat.le_of_ble_eq_true rfl) rfl hdg kk
theorem gAU_X0_o0_power {p : Program} {l : Launch} {e : Env} {R : Room} {s0 : State} {m : MethodId} {args : Array Value} {below : List Frame} {meth : Method} {c : Code} {H : Heap} {locs : List Loc} {cells slots : Nat} {Q : State → Prop} {cc : ByteArray} {nL pc : Nat} {ls : Array Slot} {rest : List Value} {G : g_G} {A : Nat → Prop} {ad bd cd : Nat → Nat} {a v u : g_St} (XX : Cx G A p s0 m meth c cc nL RX0 args) (I : Iv G A s0 H locs (bA G ad bd a ++ (bV G bd v ++ (bV G cd u ++ [])))) (hdg : decode cc pc = .ok (.getfield 18, 3)) (kk : W p l e R s0 m args below meth c H locs cells slots Q (F0 m (pc + 3) ls (.ref (ad 2) :: rest))) : W p l e R s0 m args below meth c H locs cells slots Q (F0 m pc ls (.ref (ad 0) :: rest)) := r_get kfX0 XX I 0 rfl 1 (Nat.le_of_ble_eq_true rfl) wd_111 rfl hdg kk
theorem aAU_power0 {G : g_G} {ad bd cd : Nat → Nat} {a v u : g_St} : (bA G ad bd a ++ (bV G bd v ++ (bV G cd u ++ [])))[1]? = some (ad 2, .inl (G.2.1 1, 4, .inr (.inl (gt a 1)))) := rfl
theorem sAU_power0 {G : g_G} {ad bd cd : Nat → Nat} {a v u : g_St} {i : Int32} {x : Int64} : (bA G ad bd a ++ (bV G bd v ++ (bV G cd u ++ []))).set 1 (ad 2, .inl (G.2.1 1, 4, .inr (.inl (vp_updL (gt a 1) i.toNatClampNeg x)))) = (bA G ad bd (st a 1 i x) ++ (bV G bd v ++ (bV G cd u ++ []))) := rfl
set_option maxHeartbeats 4000000 in
set_option maxRecDepth 100000 in
theorem c_AU_look (l : Launch) (G : g_G) (OK : EOk G.2.2) (ad : Nat → Nat) (bd : Nat → Nat) (cd : Nat → Nat) (fu : Nat) (aa : g_St) (va : g_St) (ua : g_St) (x2 : Int32) (ta : g_St) (tv : g_St) (h : f_AU_look fu aa va ua x2 = some (ta, tv)) : HV l G yX0_look (Cond.code yX0_look cX0_look 4 none :: gT) { frames := 2, cells := 0, slots := 0, locals := 82 } [.ref (ad 0), .ref (cd 0), .int x2] (bA G ad bd aa ++ (bV G bd va ++ (bV G cd ua ++ []))) (bA G ad bd ta ++ (bV G bd tv ++ (bV G cd ua ++ []))) := by
  refine HV.mk (lv := [(0, .ref (ad 0)), (1, .ref (cd 0)), (2, .int x2)]) OK (by decide) (Nat.le_of_ble_eq_true rfl) rfl ?_
  intro p e s0 m args below meth c ls XX hr I hl
  have hx := XX.x
  have hb := XX.b
  have C22 : ∀ n : Nat, ∀ (a : g_St) (v : g_St) (v3 : Int32), f_AU_look_L22 fu n a v ua v3 = some (ta, tv) → ∀ (H : Heap) (locs : List Loc), Iv G (va_A (bA G ad bd aa ++ (bV G bd va ++ (bV G cd ua ++ []))) s0.heap.size) s0 H locs (bA G ad bd a ++ (bV G bd v ++ (bV G cd ua ++ []))) → ∀ ls, lv_has ls 4 [(0, .ref (ad 0)), (1, .ref (cd 0)), (3, .int v3)] → W p l e { frames := 2, cells := 0, slots := 0, locals := 82 } s0 m args below meth c H locs 0 0 (QV G below (bA G ad bd aa ++ (bV G bd va ++ (bV G cd ua ++ []))) (bA G ad bd ta ++ (bV G bd tv ++ (bV G cd ua ++ []))) args s0) (F0 m 22 ls []) := by
    intro n
    induction n with
    | zero => intro a v v3 h; exact absurd h (fun q => by cases q)
    | succ n ih =>
      intro a v v3 h H locs I ls hl
      rw [f_AU_look_L22] at h
      refine lv_iload_n hx hb dX0_look_22 rfl (lv_at hl 2 rfl) ?_
      refine lv_iconst (v := 3) hx hb dX0_look_23 (by decide) ?_
      refine lv_icmp_gt (tgt := 60) hx hb dX0_look_24 (by decide) (fun c1 => ?_) (fun c1 => ?_)
      · replace h := if_t h c1
        obtain ⟨rfl, rfl⟩ := some2 h
        exact e_v XX hr I dX0_look_60
      · replace h := if_f h c1
        refine lv_aload_n hx hb dX0_look_27 rfl (lv_at hl 0 rfl) ?_
        refine gAU_X0_o0_power XX I dX0_look_28 ?_
        refine lv_iload_n hx hb dX0_look_31 rfl (lv_at hl 2 rfl) ?_
        refine lv_aload_n hx hb dX0_look_32 rfl (lv_at hl 0 rfl) ?_
        refine gAU_X0_o0_power XX I dX0_look_33 ?_
        refine lv_iload_n hx hb dX0_look_36 rfl (lv_at hl 2 rfl) ?_
        refine lv_iconst (v := 1) hx hb dX0_look_37 (by decide) ?_
        refine lv_isub hx hb dX0_look_38 ?_
        obtain ⟨g6, h⟩ := gd_some h
        refine r_lald XX I 1 (aAU_power0) g6 dX0_look_39 ?_
        refine lv_iconst (v := 1) hx hb dX0_look_40 (by decide) ?_
        refine lv_aload_n hx hb dX0_look_41 rfl (lv_at hl 0 rfl) ?_
        refine gAU_X0_o0_v XX I dX0_look_42 ?_
        obtain ⟨r7, q8, h⟩ := bd1_some h
        have RC := (Rc.mk XX I (q0 := 2) (ci := 9) rfl rfl)
        replace I : Iv G (va_A (bA G ad bd aa ++ (bV G bd va ++ (bV G cd ua ++ []))) s0.heap.size) s0 _ _ ((bV G bd v) ++ (bA G ad bd a ++ (bV G cd ua ++ []))) := I.perm ((List.Perm.append_left _ (List.Perm.refl _)).trans (List.perm_append_comm_assoc _ _ _))
        refine call_i (X := []) (wc := (bV G bd v)) (Y := (bA G ad bd a ++ (bV G cd ua ++ []))) (rest := [.int (1 : Int32), .long (gt a 1 (v3 - (1 : Int32)).toNatClampNeg), .int v3, .ref (ad 2)]) XX I hl.1 (c_V_allWeights l G OK bd fu v r7 q8) kV_X0_30 RC rfl rfl (Nat.le_of_ble_eq_true rfl) ⟨rfl, rfl, Nat.le_of_ble_eq_true rfl, Nat.le_of_ble_eq_true rfl⟩ ⟨Nat.zero_le _, Nat.zero_le _⟩ dX0_look_45 (fun H locs hz9 I => ?_)
        replace I : Iv G (va_A (bA G ad bd aa ++ (bV G bd va ++ (bV G cd ua ++ []))) s0.heap.size) s0 H locs (bA G ad bd a ++ (bV G bd v ++ (bV G cd ua ++ []))) := Iv.perm (w := (bV G bd v) ++ (bA G ad bd a ++ (bV G cd ua ++ []))) I (((List.Perm.append_left _ (List.Perm.refl _)).trans (List.perm_append_comm_assoc _ _ _)).symm)
        refine r_max XX hl.1 wd_665 (Nat.le_of_ble_eq_true rfl) (Nat.le_of_ble_eq_true rfl) (Nat.zero_le _) (Nat.zero_le _) dX0_look_48 ?_
        refine lv_i2l hx hb dX0_look_51 rfl ?_
        refine lv_lmul hx hb dX0_look_52 ?_
        refine lv_topl (fun y10 ey10 => ?_)
        replace h := lt_e h ey10
        obtain ⟨g11, h⟩ := gd_some h
        refine r_last XX I 1 (aAU_power0) (sAU_power0) g11 dX0_look_53 (fun H locs I => ?_)
        obtain ⟨s12, es12⟩ : ∃ z, z = st a 1 v3 y10 := ⟨_, rfl⟩
        replace h := lt_e h es12
        replace I : Iv G (va_A (bA G ad bd aa ++ (bV G bd va ++ (bV G cd ua ++ []))) s0.heap.size) s0 H locs (bA G ad bd s12 ++ (bV G bd v ++ (bV G cd ua ++ []))) := by rw [es12]; exact I
        obtain ⟨y13, ey13⟩ : ∃ z : Int32, z = v3 + (1 : Int32) := ⟨_, rfl⟩
        replace h := lt_e h ey13
        refine lv_iinc (v := y13) (lv' := [(3, .int y13), (0, .ref (ad 0)), (1, .ref (cd 0))]) hx hb dX0_look_54 hl (k := 2) rfl (by rw [ey13]; rfl) (by decide) rfl (fun ls hl => ?_)
        refine lv_goto (tgt := 22) hx hb dX0_look_57 (by decide) ?_
        exact ih _ _ _ h _ _ I ls (lv_sub hl [1, 2, 0] rfl)
  unfold f_AU_look at h
  refine lv_aload_n hx hb dX0_look_0 rfl (lv_at hl 0 rfl) ?_
  refine gAU_X0_o0_v XX I dX0_look_1 ?_
  refine lv_aload_n hx hb dX0_look_4 rfl (lv_at hl 1 rfl) ?_
  obtain ⟨s1, q2, h⟩ := bd1_some h
  have RC := (Rc.mk XX I (q0 := 2) (ci := 9) rfl rfl)
  replace I : Iv G (va_A (bA G ad bd aa ++ (bV G bd va ++ (bV G cd ua ++ []))) s0.heap.size) s0 _ _ (((bV G bd va ++ (bV G cd ua ++ []))) ++ (bA G ad bd aa ++ [])) := I.perm ((((List.Perm.append_left _ (List.Perm.refl _)).trans (List.perm_append_comm_assoc _ _ _)).trans (List.Perm.append_left _ ((List.Perm.append_left _ (List.Perm.refl _)).trans (List.perm_append_comm_assoc _ _ _)))).trans pasc2)
  refine call_v (X := []) (wc := ((bV G bd va ++ (bV G cd ua ++ [])))) (Y := (bA G ad bd aa ++ [])) (rest := []) XX I hl.1 (c_VV_copyFrom l G OK bd cd fu va ua s1 q2) kV_X0_26 RC rfl rfl (Nat.le_of_ble_eq_true rfl) ⟨rfl, rfl, Nat.le_of_ble_eq_true rfl, Nat.le_of_ble_eq_true rfl⟩ ⟨Nat.zero_le _, Nat.zero_le _⟩ dX0_look_5 (fun H locs I => ?_)
  replace I : Iv G (va_A (bA G ad bd aa ++ (bV G bd va ++ (bV G cd ua ++ []))) s0.heap.size) s0 H locs (bA G ad bd aa ++ (bV G bd s1 ++ (bV G cd ua ++ []))) := Iv.perm (w := ((bV G bd s1 ++ (bV G cd ua ++ []))) ++ (bA G ad bd aa ++ [])) I (((((List.Perm.append_left _ (List.Perm.refl _)).trans (List.perm_append_comm_assoc _ _ _)).trans (List.Perm.append_left _ ((List.Perm.append_left _ (List.Perm.refl _)).trans (List.perm_append_comm_assoc _ _ _)))).trans pasc2).symm)
  refine lv_aload_n hx hb dX0_look_8 rfl (lv_at hl 0 rfl) ?_
  refine lv_iload_n hx hb dX0_look_9 rfl (lv_at hl 2 rfl) ?_
  refine pAU_X0_o0_measure XX I dX0_look_10 (fun H locs I => ?_)
  obtain ⟨s4, es4⟩ : ∃ z, z = si aa 2 x2 := ⟨_, rfl⟩
  replace h := lt_e h es4
  replace I : Iv G (va_A (bA G ad bd aa ++ (bV G bd va ++ (bV G cd ua ++ []))) s0.heap.size) s0 H locs (bA G ad bd s4 ++ (bV G bd s1 ++ (bV G cd ua ++ []))) := by rw [es4]; exact I
  refine lv_aload_n hx hb dX0_look_13 rfl (lv_at hl 0 rfl) ?_
  refine gAU_X0_o0_power XX I dX0_look_14 ?_
  refine lv_iconst (v := 0) hx hb dX0_look_17 (by decide) ?_
  refine lv_lconst (v := 1) hx hb dX0_look_18 (by decide) ?_
  refine r_last XX I 1 (aAU_power0) (sAU_power0) (by unfold vp_in; decide) dX0_look_19 (fun H locs I => ?_)
  obtain ⟨s5, es5⟩ : ∃ z, z = st s4 1 (0 : Int32) (1 : Int64) := ⟨_, rfl⟩
  replace h := lt_e h es5
  replace I : Iv G (va_A (bA G ad bd aa ++ (bV G bd va ++ (bV G cd ua ++ []))) s0.heap.size) s0 H locs (bA G ad bd s5 ++ (bV G bd s1 ++ (bV G cd ua ++ []))) := by rw [es5]; exact I
  refine lv_iconst (v := 1) hx hb dX0_look_20 (by decide) ?_
  refine lv_istore_n (lv' := [(3, .int (1 : Int32)), (0, .ref (ad 0)), (1, .ref (cd 0)), (2, .int x2)]) hx hb dX0_look_21 rfl hl (by decide) rfl (fun ls hl => ?_)
  exact C22 fu _ _ _ h _ _ I ls (lv_sub hl [1, 2, 0] rfl)
theorem kV_X0_44 : KV RX0 44 RX9 yX9_packedNoes cX9_packedNoes 3 (some .int) 0 := KV.mk wd_670 wd_556 wd_557 wd_2 wd_558 (by decide +kernel)
theorem gA_X0_o1_law {p : Program} {l : Launch} {e : Env} {R : Room} {s0 : State} {m : MethodId} {args : Array Value} {below : List Frame} {meth : Method} {c : Code} {H : Heap} {locs : List Loc} {cells slots : Nat} {Q : State → Prop} {cc : ByteArray} {nL pc : Nat} {ls : Array Slot} {rest : List Value} {G : g_G} {A : Nat → Prop} {ad bd : Nat → Nat} {a v : g_St} (XX : Cx G A p s0 m meth c cc nL RX0 args) (I : Iv G A s0 H locs (bA G ad bd a ++ (bV G bd v ++ []))) (hdg : decode cc pc = .ok (.getfield 40, 3)) (kk : W p l e R s0 m args below meth c H locs cells slots Q (F0 m (pc + 3) ls (.ref (bd 10) :: rest))) : W p l e R s0 m args below meth c H locs cells slots Q (F0 m pc ls (.ref (bd 0) :: rest)) := r_get kfX9 XX I 2 rfl 9 (Nat.le_of_ble_eq_true rfl) wd_65 rfl hdg kk
theorem aA_law1 {G : g_G} {ad bd : Nat → Nat} {a v : g_St} : (bA G ad bd a ++ (bV G bd v ++ []))[10]? = some (bd 10, .inl (G.2.1 0, 4, .inl (gr v 9))) := rfl
theorem sA_law1 {G : g_G} {ad bd : Nat → Nat} {a v : g_St} {i : Int32} {x : Int32} : (bA G ad bd a ++ (bV G bd v ++ [])).set 10 (bd 10, .inl (G.2.1 0, 4, .inl (upd (gr v 9) i.toNatClampNeg x))) = (bA G ad bd a ++ (bV G bd (sr v 9 i x) ++ [])) := rfl
set_option maxHeartbeats 4000000 in
set_option maxRecDepth 100000 in
theorem c_A_sum (l : Launch) (G : g_G) (OK : EOk G.2.2) (ad : Nat → Nat) (bd : Nat → Nat) (fu : Nat) (aa : g_St) (va : g_St) (x1 : Int32) (r : Int64) (h : f_A_sum fu aa va x1 = some r) : HL l G yX0_sum (Cond.code yX0_sum cX0_sum 2 (some .long) :: gT) { frames := 25, cells := 0, slots := 0, locals := 623 } [.ref (ad 0), .int x1] (bA G ad bd aa ++ (bV G bd va ++ [])) r (bA G ad bd aa ++ (bV G bd va ++ [])) := by
  refine HL.mk (lv := [(0, .ref (ad 0)), (1, .int x1)]) OK (by decide) (Nat.le_of_ble_eq_true rfl) rfl ?_
  intro p e s0 m args below meth c ls XX hr I hl
  have hx := XX.x
  have hb := XX.b
  unfold f_A_sum at h
  refine lv_aload_n hx hb dX0_sum_0 rfl (lv_at hl 0 rfl) ?_
  refine lv_iload_n hx hb dX0_sum_1 rfl (lv_at hl 1 rfl) ?_
  refine lv_aload_n hx hb dX0_sum_2 rfl (lv_at hl 0 rfl) ?_
  refine gA_X0_o0_v XX I dX0_sum_3 ?_
  refine gA_X0_o1_law XX I dX0_sum_6 ?_
  refine lv_iconst (v := 3) hx hb dX0_sum_9 (by decide) ?_
  refine r_iald XX I 10 (aA_law1) (by unfold vp_in; decide) dX0_sum_10 ?_
  refine lv_aload_n hx hb dX0_sum_11 rfl (lv_at hl 0 rfl) ?_
  refine gA_X0_o0_v XX I dX0_sum_12 ?_
  obtain ⟨r1, q2, h⟩ := bd1_some h
  have RC := (Rc.mk XX I (q0 := 2) (ci := 9) rfl rfl)
  replace I : Iv G (va_A (bA G ad bd aa ++ (bV G bd va ++ [])) s0.heap.size) s0 _ _ ((bV G bd va) ++ (bA G ad bd aa ++ [])) := I.perm ((List.Perm.append_left _ (List.Perm.refl _)).trans (List.perm_append_comm_assoc _ _ _))
  refine call_i (X := []) (wc := (bV G bd va)) (Y := (bA G ad bd aa ++ [])) (rest := [.int (gr va 9 (3 : Int32).toNatClampNeg), .int x1, .ref (ad 0)]) XX I hl.1 (c_V_packedNoes l G OK bd fu va r1 q2) kV_X0_44 RC rfl rfl (Nat.le_of_ble_eq_true rfl) ⟨rfl, rfl, Nat.le_of_ble_eq_true rfl, Nat.le_of_ble_eq_true rfl⟩ ⟨Nat.zero_le _, Nat.zero_le _⟩ dX0_sum_15 (fun H locs hz3 I => ?_)
  replace I : Iv G (va_A (bA G ad bd aa ++ (bV G bd va ++ [])) s0.heap.size) s0 H locs (bA G ad bd aa ++ (bV G bd va ++ [])) := Iv.perm (w := (bV G bd va) ++ (bA G ad bd aa ++ [])) I (((List.Perm.append_left _ (List.Perm.refl _)).trans (List.perm_append_comm_assoc _ _ _)).symm)
  obtain ⟨r4, q5, h⟩ := bd1_some h
  refine wcall_l (rest := []) XX I hl.1 (c_A_sumFrom l G OK ad bd fu 6 aa va x1 (gr va 9 (3 : Int32).toNatClampNeg) r1 r4 q5) kV_X0_47 (Rc.mk XX I (q0 := 0) (ci := 0) rfl rfl) rfl rfl (Nat.le_of_ble_eq_true rfl) ⟨rfl, rfl, Nat.le_of_ble_eq_true rfl, Nat.le_of_ble_eq_true rfl⟩ ⟨Nat.zero_le _, Nat.zero_le _⟩ dX0_sum_18 (fun H locs I => ?_)
  obtain rfl := some1 h
  exact e_l XX hr I rfl dX0_sum_21
set_option maxHeartbeats 4000000 in
set_option maxRecDepth 100000 in
theorem c_A_bestSum (l : Launch) (G : g_G) (OK : EOk G.2.2) (ad : Nat → Nat) (bd : Nat → Nat) (fu : Nat) (aa : g_St) (va : g_St) (x1 : Int32) (r : Int64) (h : f_A_bestSum fu aa va x1 = some r) : HL l G yX0_bestSum (Cond.code yX0_bestSum cX0_bestSum 2 (some .long) :: gT) { frames := 25, cells := 0, slots := 0, locals := 656 } [.ref (ad 0), .int x1] (bA G ad bd aa ++ (bV G bd va ++ [])) r (bA G ad bd aa ++ (bV G bd va ++ [])) := by
  refine HL.mk (lv := [(0, .ref (ad 0)), (1, .int x1)]) OK (by decide) (Nat.le_of_ble_eq_true rfl) rfl ?_
  intro p e s0 m args below meth c ls XX hr I hl
  have hx := XX.x
  have hb := XX.b
  unfold f_A_bestSum at h
  refine lv_aload_n hx hb dX0_bestSum_0 rfl (lv_at hl 0 rfl) ?_
  refine lv_iload_n hx hb dX0_bestSum_1 rfl (lv_at hl 1 rfl) ?_
  refine lv_aload_n hx hb dX0_bestSum_2 rfl (lv_at hl 0 rfl) ?_
  refine gA_X0_o0_v XX I dX0_bestSum_3 ?_
  refine gA_X0_o1_law XX I dX0_bestSum_6 ?_
  refine lv_iconst (v := 3) hx hb dX0_bestSum_9 (by decide) ?_
  refine r_iald XX I 10 (aA_law1) (by unfold vp_in; decide) dX0_bestSum_10 ?_
  refine lv_aload_n hx hb dX0_bestSum_11 rfl (lv_at hl 0 rfl) ?_
  refine gA_X0_o0_v XX I dX0_bestSum_12 ?_
  obtain ⟨r1, q2, h⟩ := bd1_some h
  have RC := (Rc.mk XX I (q0 := 2) (ci := 9) rfl rfl)
  replace I : Iv G (va_A (bA G ad bd aa ++ (bV G bd va ++ [])) s0.heap.size) s0 _ _ ((bV G bd va) ++ (bA G ad bd aa ++ [])) := I.perm ((List.Perm.append_left _ (List.Perm.refl _)).trans (List.perm_append_comm_assoc _ _ _))
  refine call_i (X := []) (wc := (bV G bd va)) (Y := (bA G ad bd aa ++ [])) (rest := [.int (gr va 9 (3 : Int32).toNatClampNeg), .int x1, .ref (ad 0)]) XX I hl.1 (c_V_packedNoes l G OK bd fu va r1 q2) kV_X0_44 RC rfl rfl (Nat.le_of_ble_eq_true rfl) ⟨rfl, rfl, Nat.le_of_ble_eq_true rfl, Nat.le_of_ble_eq_true rfl⟩ ⟨Nat.zero_le _, Nat.zero_le _⟩ dX0_bestSum_15 (fun H locs hz3 I => ?_)
  replace I : Iv G (va_A (bA G ad bd aa ++ (bV G bd va ++ [])) s0.heap.size) s0 H locs (bA G ad bd aa ++ (bV G bd va ++ [])) := Iv.perm (w := (bV G bd va) ++ (bA G ad bd aa ++ [])) I (((List.Perm.append_left _ (List.Perm.refl _)).trans (List.perm_append_comm_assoc _ _ _)).symm)
  obtain ⟨r4, q5, h⟩ := bd1_some h
  refine wcall_l (rest := []) XX I hl.1 (c_A_bestSumFrom l G OK ad bd fu 6 aa va x1 (gr va 9 (3 : Int32).toNatClampNeg) r1 r4 q5) kV_X0_82 (Rc.mk XX I (q0 := 0) (ci := 0) rfl rfl) rfl rfl (Nat.le_of_ble_eq_true rfl) ⟨rfl, rfl, Nat.le_of_ble_eq_true rfl, Nat.le_of_ble_eq_true rfl⟩ ⟨Nat.zero_le _, Nat.zero_le _⟩ dX0_bestSum_18 (fun H locs I => ?_)
  obtain rfl := some1 h
  exact e_l XX hr I rfl dX0_bestSum_21
set_option maxHeartbeats 4000000 in
set_option maxRecDepth 100000 in
theorem c_A_isNoBetter (l : Launch) (G : g_G) (OK : EOk G.2.2) (ad : Nat → Nat) (bd : Nat → Nat) (fu : Nat) (aa : g_St) (va : g_St) (x1 : Int32) (x2 : Int32) (r : Int32) (h : f_A_isNoBetter fu aa va x1 x2 = some r) : HI l G yX0_isNoBetter (Cond.code yX0_isNoBetter cX0_isNoBetter 8 (some .boolean) :: gT) { frames := 27, cells := 0, slots := 0, locals := 705 } .boolean [.ref (ad 0), .int x1, .int x2] (bA G ad bd aa ++ (bV G bd va ++ [])) r (bA G ad bd aa ++ (bV G bd va ++ [])) := by
  refine HI.mk (lv := [(0, .ref (ad 0)), (1, .int x1), (2, .int x2)]) OK (by decide) (Nat.le_of_ble_eq_true rfl) rfl ?_
  intro p e s0 m args below meth c ls XX hr I hl
  have hx := XX.x
  have hb := XX.b
  unfold f_A_isNoBetter at h
  refine lv_aload_n hx hb dX0_isNoBetter_0 rfl (lv_at hl 0 rfl) ?_
  refine gA_X0_o0_v XX I dX0_isNoBetter_1 ?_
  refine gA_X0_o1_law XX I dX0_isNoBetter_4 ?_
  refine lv_iconst (v := 3) hx hb dX0_isNoBetter_7 (by decide) ?_
  refine r_iald XX I 10 (aA_law1) (by unfold vp_in; decide) dX0_isNoBetter_8 ?_
  refine lv_topi (fun y1 ey1 => ?_)
  replace h := lt_e h ey1
  refine lv_istore_n (lv' := [(3, .int y1), (0, .ref (ad 0)), (1, .int x1), (2, .int x2)]) hx hb dX0_isNoBetter_9 rfl hl (by decide) rfl (fun ls hl => ?_)
  refine lv_aload_n hx hb dX0_isNoBetter_10 rfl (lv_at hl 1 rfl) ?_
  refine gA_X0_o0_v XX I dX0_isNoBetter_11 ?_
  obtain ⟨r2, q3, h⟩ := bd1_some h
  have RC := (Rc.mk XX I (q0 := 2) (ci := 9) rfl rfl)
  replace I : Iv G (va_A (bA G ad bd aa ++ (bV G bd va ++ [])) s0.heap.size) s0 _ _ ((bV G bd va) ++ (bA G ad bd aa ++ [])) := I.perm ((List.Perm.append_left _ (List.Perm.refl _)).trans (List.perm_append_comm_assoc _ _ _))
  refine call_i (X := []) (wc := (bV G bd va)) (Y := (bA G ad bd aa ++ [])) (rest := []) XX I hl.1 (c_V_packedNoes l G OK bd fu va r2 q3) kV_X0_44 RC rfl rfl (Nat.le_of_ble_eq_true rfl) ⟨rfl, rfl, Nat.le_of_ble_eq_true rfl, Nat.le_of_ble_eq_true rfl⟩ ⟨Nat.zero_le _, Nat.zero_le _⟩ dX0_isNoBetter_14 (fun H locs hz4 I => ?_)
  replace I : Iv G (va_A (bA G ad bd aa ++ (bV G bd va ++ [])) s0.heap.size) s0 H locs (bA G ad bd aa ++ (bV G bd va ++ [])) := Iv.perm (w := (bV G bd va) ++ (bA G ad bd aa ++ [])) I (((List.Perm.append_left _ (List.Perm.refl _)).trans (List.perm_append_comm_assoc _ _ _)).symm)
  refine lv_istore (lv' := [(4, .int r2), (3, .int y1), (0, .ref (ad 0)), (1, .int x1), (2, .int x2)]) hx hb dX0_isNoBetter_17 hl (by decide) rfl (fun ls hl => ?_)
  refine lv_aload_n hx hb dX0_isNoBetter_19 rfl (lv_at hl 2 rfl) ?_
  refine gA_X0_o0_v XX I dX0_isNoBetter_20 ?_
  refine lv_iload_n hx hb dX0_isNoBetter_23 rfl (lv_at hl 3 rfl) ?_
  refine lv_iload_n hx hb dX0_isNoBetter_24 rfl (lv_at hl 1 rfl) ?_
  refine lv_iload hx hb dX0_isNoBetter_25 (lv_at hl 0 rfl) ?_
  obtain ⟨r5, q6, h⟩ := bd1_some h
  have RC := (Rc.mk XX I (q0 := 2) (ci := 9) rfl rfl)
  replace I : Iv G (va_A (bA G ad bd aa ++ (bV G bd va ++ [])) s0.heap.size) s0 _ _ ((bV G bd va) ++ (bA G ad bd aa ++ [])) := I.perm ((List.Perm.append_left _ (List.Perm.refl _)).trans (List.perm_append_comm_assoc _ _ _))
  refine call_i (X := []) (wc := (bV G bd va)) (Y := (bA G ad bd aa ++ [])) (rest := []) XX I hl.1 (c_V_whoWould l G OK bd fu va x1 y1 r2 r5 q6) kV_X0_89 RC rfl rfl (Nat.le_of_ble_eq_true rfl) ⟨rfl, rfl, Nat.le_of_ble_eq_true rfl, Nat.le_of_ble_eq_true rfl⟩ ⟨Nat.zero_le _, Nat.zero_le _⟩ dX0_isNoBetter_27 (fun H locs hz7 I => ?_)
  replace I : Iv G (va_A (bA G ad bd aa ++ (bV G bd va ++ [])) s0.heap.size) s0 H locs (bA G ad bd aa ++ (bV G bd va ++ [])) := Iv.perm (w := (bV G bd va) ++ (bA G ad bd aa ++ [])) I (((List.Perm.append_left _ (List.Perm.refl _)).trans (List.perm_append_comm_assoc _ _ _)).symm)
  refine lv_istore (lv' := [(5, .int r5), (4, .int r2), (3, .int y1), (0, .ref (ad 0)), (1, .int x1), (2, .int x2)]) hx hb dX0_isNoBetter_30 hl (by decide) rfl (fun ls hl => ?_)
  refine lv_aload_n hx hb dX0_isNoBetter_32 rfl (lv_at hl 3 rfl) ?_
  refine gA_X0_o0_v XX I dX0_isNoBetter_33 ?_
  refine lv_iload hx hb dX0_isNoBetter_36 (lv_at hl 0 rfl) ?_
  refine lv_aload_n hx hb dX0_isNoBetter_38 rfl (lv_at hl 3 rfl) ?_
  refine wcall_i (rest := [.int r5, .ref (bd 0)]) XX I hl.1 (c_A_ownBit l G OK ad bd aa va _ rfl) kV_X0_92 (Rc.mk XX I (q0 := 0) (ci := 0) rfl rfl) rfl rfl (Nat.le_of_ble_eq_true rfl) ⟨rfl, rfl, Nat.le_of_ble_eq_true rfl, Nat.le_of_ble_eq_true rfl⟩ ⟨Nat.zero_le _, Nat.zero_le _⟩ dX0_isNoBetter_39 (fun H locs hz8 I => ?_)
  refine lv_ior hx hb dX0_isNoBetter_42 ?_
  obtain ⟨r9, q10, h⟩ := bd1_some h
  have RC := (Rc.mk XX I (q0 := 2) (ci := 9) rfl rfl)
  replace I : Iv G (va_A (bA G ad bd aa ++ (bV G bd va ++ [])) s0.heap.size) s0 _ _ ((bV G bd va) ++ (bA G ad bd aa ++ [])) := I.perm ((List.Perm.append_left _ (List.Perm.refl _)).trans (List.perm_append_comm_assoc _ _ _))
  refine call_i (X := []) (wc := (bV G bd va)) (Y := (bA G ad bd aa ++ [])) (rest := []) XX I hl.1 (c_V_sayersOf l G OK bd fu va (r5 ||| (f_A_ownBit aa)) r9 q10) kV_X0_95 RC rfl rfl (Nat.le_of_ble_eq_true rfl) ⟨rfl, rfl, Nat.le_of_ble_eq_true rfl, Nat.le_of_ble_eq_true rfl⟩ ⟨Nat.zero_le _, Nat.zero_le _⟩ dX0_isNoBetter_43 (fun H locs hz11 I => ?_)
  replace I : Iv G (va_A (bA G ad bd aa ++ (bV G bd va ++ [])) s0.heap.size) s0 H locs (bA G ad bd aa ++ (bV G bd va ++ [])) := Iv.perm (w := (bV G bd va) ++ (bA G ad bd aa ++ [])) I (((List.Perm.append_left _ (List.Perm.refl _)).trans (List.perm_append_comm_assoc _ _ _)).symm)
  refine lv_istore (lv' := [(6, .int r9), (5, .int r5), (4, .int r2), (3, .int y1), (0, .ref (ad 0)), (1, .int x1), (2, .int x2)]) hx hb dX0_isNoBetter_46 hl (by decide) rfl (fun ls hl => ?_)
  refine lv_aload_n hx hb dX0_isNoBetter_48 rfl (lv_at hl 4 rfl) ?_
  refine gA_X0_o0_v XX I dX0_isNoBetter_49 ?_
  refine lv_iload hx hb dX0_isNoBetter_52 (lv_at hl 1 rfl) ?_
  refine lv_aload_n hx hb dX0_isNoBetter_54 rfl (lv_at hl 4 rfl) ?_
  refine wcall_i (rest := [.int r5, .ref (bd 0)]) XX I hl.1 (c_A_ownBit l G OK ad bd aa va _ rfl) kV_X0_92 (Rc.mk XX I (q0 := 0) (ci := 0) rfl rfl) rfl rfl (Nat.le_of_ble_eq_true rfl) ⟨rfl, rfl, Nat.le_of_ble_eq_true rfl, Nat.le_of_ble_eq_true rfl⟩ ⟨Nat.zero_le _, Nat.zero_le _⟩ dX0_isNoBetter_55 (fun H locs hz12 I => ?_)
  refine lv_iconst (v := (-1)) hx hb dX0_isNoBetter_58 (by decide) ?_
  refine lv_ixor hx hb dX0_isNoBetter_59 ?_
  refine lv_iand hx hb dX0_isNoBetter_60 ?_
  obtain ⟨r13, q14, h⟩ := bd1_some h
  have RC := (Rc.mk XX I (q0 := 2) (ci := 9) rfl rfl)
  replace I : Iv G (va_A (bA G ad bd aa ++ (bV G bd va ++ [])) s0.heap.size) s0 _ _ ((bV G bd va) ++ (bA G ad bd aa ++ [])) := I.perm ((List.Perm.append_left _ (List.Perm.refl _)).trans (List.perm_append_comm_assoc _ _ _))
  refine call_i (X := []) (wc := (bV G bd va)) (Y := (bA G ad bd aa ++ [])) (rest := []) XX I hl.1 (c_V_sayersOf l G OK bd fu va (r5 &&& ((f_A_ownBit aa) ^^^ ((-1) : Int32))) r13 q14) kV_X0_95 RC rfl rfl (Nat.le_of_ble_eq_true rfl) ⟨rfl, rfl, Nat.le_of_ble_eq_true rfl, Nat.le_of_ble_eq_true rfl⟩ ⟨Nat.zero_le _, Nat.zero_le _⟩ dX0_isNoBetter_61 (fun H locs hz15 I => ?_)
  replace I : Iv G (va_A (bA G ad bd aa ++ (bV G bd va ++ [])) s0.heap.size) s0 H locs (bA G ad bd aa ++ (bV G bd va ++ [])) := Iv.perm (w := (bV G bd va) ++ (bA G ad bd aa ++ [])) I (((List.Perm.append_left _ (List.Perm.refl _)).trans (List.perm_append_comm_assoc _ _ _)).symm)
  refine lv_istore (lv' := [(7, .int r13), (6, .int r9), (5, .int r5), (4, .int r2), (3, .int y1), (0, .ref (ad 0)), (1, .int x1), (2, .int x2)]) hx hb dX0_isNoBetter_64 hl (by decide) rfl (fun ls hl => ?_)
  refine lv_iload hx hb dX0_isNoBetter_66 (lv_at hl 1 rfl) ?_
  refine lv_iload hx hb dX0_isNoBetter_68 (lv_at hl 0 rfl) ?_
  refine lv_icmp_ne (tgt := 75) hx hb dX0_isNoBetter_70 (by decide) (fun c1 => ?_) (fun c1 => ?_)
  · replace h := if_f h c1
    refine lv_aload_n hx hb dX0_isNoBetter_75 rfl (lv_at hl 5 rfl) ?_
    refine lv_iload hx hb dX0_isNoBetter_76 (lv_at hl 1 rfl) ?_
    refine lv_iload_n hx hb dX0_isNoBetter_78 rfl (lv_at hl 6 rfl) ?_
    refine lv_iload_n hx hb dX0_isNoBetter_79 rfl (lv_at hl 7 rfl) ?_
    refine lv_iload_n hx hb dX0_isNoBetter_80 rfl (lv_at hl 4 rfl) ?_
    refine lv_iload hx hb dX0_isNoBetter_81 (lv_at hl 3 rfl) ?_
    obtain ⟨r16, q17, h⟩ := bd1_some h
    refine wcall_l (rest := []) XX I hl.1 (c_A_withSayers l G OK ad bd fu (f_A_bestSumFrom fu 6) { frames := 24, cells := 0, slots := 0, locals := 630 } ⟨rfl, rfl⟩ (c_A_bestSumFrom l G OK ad bd fu 6) aa va r9 x1 x2 y1 r2 r16 q17) kV_X0_99 (Rc.mk XX I (q0 := 0) (ci := 0) rfl rfl) rfl rfl (Nat.le_of_ble_eq_true rfl) ⟨rfl, rfl, Nat.le_of_ble_eq_true rfl, Nat.le_of_ble_eq_true rfl⟩ ⟨Nat.zero_le _, Nat.zero_le _⟩ dX0_isNoBetter_83 (fun H locs I => ?_)
    refine lv_aload_n hx hb dX0_isNoBetter_86 rfl (lv_at hl 5 rfl) ?_
    refine lv_iload hx hb dX0_isNoBetter_87 (lv_at hl 0 rfl) ?_
    refine lv_iload_n hx hb dX0_isNoBetter_89 rfl (lv_at hl 6 rfl) ?_
    refine lv_iload_n hx hb dX0_isNoBetter_90 rfl (lv_at hl 7 rfl) ?_
    refine lv_iload_n hx hb dX0_isNoBetter_91 rfl (lv_at hl 4 rfl) ?_
    refine lv_iload hx hb dX0_isNoBetter_92 (lv_at hl 3 rfl) ?_
    obtain ⟨r19, q20, h⟩ := bd1_some h
    refine wcall_l (rest := [.long r16]) XX I hl.1 (c_A_withSayers l G OK ad bd fu (f_A_bestSumFrom fu 6) { frames := 24, cells := 0, slots := 0, locals := 630 } ⟨rfl, rfl⟩ (c_A_bestSumFrom l G OK ad bd fu 6) aa va r13 x1 x2 y1 r2 r19 q20) kV_X0_99 (Rc.mk XX I (q0 := 0) (ci := 0) rfl rfl) rfl rfl (Nat.le_of_ble_eq_true rfl) ⟨rfl, rfl, Nat.le_of_ble_eq_true rfl, Nat.le_of_ble_eq_true rfl⟩ ⟨Nat.zero_le _, Nat.zero_le _⟩ dX0_isNoBetter_94 (fun H locs I => ?_)
    refine W.lcmp hx hb dX0_isNoBetter_97 ?_
    refine lv_if_le (tgt := 105) hx hb dX0_isNoBetter_98 (by decide) (fun c1 => ?_) (fun c1 => ?_)
    · replace h := if_t h c1
      refine lv_iconst (v := 0) hx hb dX0_isNoBetter_105 (by decide) ?_
      obtain rfl := some1 h
      exact e_z XX hr I rfl rfl dX0_isNoBetter_106
    · replace h := if_f h c1
      refine lv_iconst (v := 1) hx hb dX0_isNoBetter_101 (by decide) ?_
      refine lv_goto (tgt := 106) hx hb dX0_isNoBetter_102 (by decide) ?_
      obtain rfl := some1 h
      exact e_z XX hr I rfl rfl dX0_isNoBetter_106
  · replace h := if_t h c1
    refine lv_iconst (v := 0) hx hb dX0_isNoBetter_73 (by decide) ?_
    obtain rfl := some1 h
    exact e_z XX hr I rfl rfl dX0_isNoBetter_74
theorem kV_X0_115 : KV RX0 115 RX0 yX0_sum cX0_sum 2 (some .long) 1 := KV.mk wd_741 wd_667 wd_668 wd_3 wd_669 (by decide +kernel)
theorem gA_X0_o1_kind {p : Program} {l : Launch} {e : Env} {R : Room} {s0 : State} {m : MethodId} {args : Array Value} {below : List Frame} {meth : Method} {c : Code} {H : Heap} {locs : List Loc} {cells slots : Nat} {Q : State → Prop} {cc : ByteArray} {nL pc : Nat} {ls : Array Slot} {rest : List Value} {G : g_G} {A : Nat → Prop} {ad bd : Nat → Nat} {a v : g_St} (XX : Cx G A p s0 m meth c cc nL RX0 args) (I : Iv G A s0 H locs (bA G ad bd a ++ (bV G bd v ++ []))) (hdg : decode cc pc = .ok (.getfield 109, 3)) (kk : W p l e R s0 m args below meth c H locs cells slots Q (F0 m (pc + 3) ls (.ref (bd 2) :: rest))) : W p l e R s0 m args below meth c H locs cells slots Q (F0 m pc ls (.ref (bd 0) :: rest)) := r_get kfX9 XX I 2 rfl 1 (Nat.le_of_ble_eq_true rfl) wd_43 rfl hdg kk
theorem aA_kind1 {G : g_G} {ad bd : Nat → Nat} {a v : g_St} : (bA G ad bd a ++ (bV G bd v ++ []))[3]? = some (bd 2, .inl (G.2.1 0, 6, .inl (gr v 1))) := rfl
theorem sA_kind1 {G : g_G} {ad bd : Nat → Nat} {a v : g_St} {i : Int32} {x : Int32} : (bA G ad bd a ++ (bV G bd v ++ [])).set 3 (bd 2, .inl (G.2.1 0, 6, .inl (upd (gr v 1) i.toNatClampNeg x))) = (bA G ad bd a ++ (bV G bd (sr v 1 i x) ++ [])) := rfl
theorem gA_X0_o1_a {p : Program} {l : Launch} {e : Env} {R : Room} {s0 : State} {m : MethodId} {args : Array Value} {below : List Frame} {meth : Method} {c : Code} {H : Heap} {locs : List Loc} {cells slots : Nat} {Q : State → Prop} {cc : ByteArray} {nL pc : Nat} {ls : Array Slot} {rest : List Value} {G : g_G} {A : Nat → Prop} {ad bd : Nat → Nat} {a v : g_St} (XX : Cx G A p s0 m meth c cc nL RX0 args) (I : Iv G A s0 H locs (bA G ad bd a ++ (bV G bd v ++ []))) (hdg : decode cc pc = .ok (.getfield 112, 3)) (kk : W p l e R s0 m args below meth c H locs cells slots Q (F0 m (pc + 3) ls (.ref (bd 3) :: rest))) : W p l e R s0 m args below meth c H locs cells slots Q (F0 m pc ls (.ref (bd 0) :: rest)) := r_get kfX9 XX I 2 rfl 2 (Nat.le_of_ble_eq_true rfl) wd_46 rfl hdg kk
theorem aA_a1 {G : g_G} {ad bd : Nat → Nat} {a v : g_St} : (bA G ad bd a ++ (bV G bd v ++ []))[4]? = some (bd 3, .inl (G.2.1 0, 6, .inl (gr v 2))) := rfl
theorem sA_a1 {G : g_G} {ad bd : Nat → Nat} {a v : g_St} {i : Int32} {x : Int32} : (bA G ad bd a ++ (bV G bd v ++ [])).set 4 (bd 3, .inl (G.2.1 0, 6, .inl (upd (gr v 2) i.toNatClampNeg x))) = (bA G ad bd a ++ (bV G bd (sr v 2 i x) ++ [])) := rfl
set_option maxHeartbeats 4000000 in
set_option maxRecDepth 100000 in
theorem c_A_bestBar (l : Launch) (G : g_G) (OK : EOk G.2.2) (ad : Nat → Nat) (bd : Nat → Nat) (fu : Nat) (aa : g_St) (va : g_St) (x1 : Int32) (x2 : Int32) (r : Int32) (tv : g_St) (h : f_A_bestBar fu aa va x1 x2 = some (r, tv)) : HI l G yX0_bestBar (Cond.code yX0_bestBar cX0_bestBar 9 (some .int) :: gT) { frames := 26, cells := 0, slots := 0, locals := 644 } .int [.ref (ad 0), .int x1, .int x2] (bA G ad bd aa ++ (bV G bd va ++ [])) r (bA G ad bd aa ++ (bV G bd tv ++ [])) := by
  refine HI.mk (lv := [(0, .ref (ad 0)), (1, .int x1), (2, .int x2)]) OK (by decide) (Nat.le_of_ble_eq_true rfl) rfl ?_
  intro p e s0 m args below meth c ls XX hr I hl
  have hx := XX.x
  have hb := XX.b
  have C18 : ∀ n : Nat, ∀ (v : g_St) (v1 : Int32) (v2 : Int32) (v3 : Int32) (v4 : Int64) (v6 : Int32), f_A_bestBar_L18 fu n aa v v1 v2 v3 v4 v6 = some (r, tv) → ∀ (H : Heap) (locs : List Loc), Iv G (va_A (bA G ad bd aa ++ (bV G bd va ++ [])) s0.heap.size) s0 H locs (bA G ad bd aa ++ (bV G bd v ++ [])) → ∀ ls, lv_has ls 9 [(0, .ref (ad 0)), (1, .int v1), (2, .int v2), (3, .int v3), (4, .long v4), (6, .int v6)] → W p l e { frames := 26, cells := 0, slots := 0, locals := 644 } s0 m args below meth c H locs 0 0 (QI G below .int r (bA G ad bd aa ++ (bV G bd va ++ [])) (bA G ad bd aa ++ (bV G bd tv ++ [])) args s0) (F0 m 18 ls []) := by
    intro n
    induction n with
    | zero => intro v v1 v2 v3 v4 v6 h; exact absurd h (fun q => by cases q)
    | succ n ih =>
      intro v v1 v2 v3 v4 v6 h H locs I ls hl
      rw [f_A_bestBar_L18] at h
      refine lv_iload hx hb dX0_bestBar_18 (lv_at hl 5 rfl) ?_
      refine lv_bipush (v := 9) hx hb dX0_bestBar_20 (by decide) ?_
      refine lv_icmp_gt (tgt := 69) hx hb dX0_bestBar_22 (by decide) (fun c1 => ?_) (fun c1 => ?_)
      · replace h := if_t h c1
        refine lv_iload_n hx hb dX0_bestBar_69 rfl (lv_at hl 3 rfl) ?_
        obtain ⟨rfl, rfl⟩ := some2 h
        exact e_i rfl XX hr I rfl dX0_bestBar_70
      · replace h := if_f h c1
        refine lv_aload_n hx hb dX0_bestBar_25 rfl (lv_at hl 0 rfl) ?_
        refine gA_X0_o0_v XX I dX0_bestBar_26 ?_
        refine gA_X0_o1_a XX I dX0_bestBar_29 ?_
        refine lv_iload_n hx hb dX0_bestBar_32 rfl (lv_at hl 1 rfl) ?_
        refine lv_iload hx hb dX0_bestBar_33 (lv_at hl 5 rfl) ?_
        obtain ⟨g3, h⟩ := gd_some h
        refine r_iast XX I 4 (aA_a1) (sA_a1) g3 dX0_bestBar_35 (fun H locs I => ?_)
        obtain ⟨s4, es4⟩ : ∃ z, z = sr v 2 v1 v6 := ⟨_, rfl⟩
        replace h := lt_e h es4
        replace I : Iv G (va_A (bA G ad bd aa ++ (bV G bd va ++ [])) s0.heap.size) s0 H locs (bA G ad bd aa ++ (bV G bd s4 ++ [])) := by rw [es4]; exact I
        refine lv_aload_n hx hb dX0_bestBar_36 rfl (lv_at hl 0 rfl) ?_
        refine lv_iload_n hx hb dX0_bestBar_37 rfl (lv_at hl 2 rfl) ?_
        obtain ⟨r5, q6, h⟩ := bd1_some h
        refine wcall_l (rest := []) XX I hl.1 (c_A_sum l G OK ad bd fu aa s4 v2 r5 q6) kV_X0_115 (Rc.mk XX I (q0 := 0) (ci := 0) rfl rfl) rfl rfl (Nat.le_of_ble_eq_true rfl) ⟨rfl, rfl, Nat.le_of_ble_eq_true rfl, Nat.le_of_ble_eq_true rfl⟩ ⟨Nat.zero_le _, Nat.zero_le _⟩ dX0_bestBar_38 (fun H locs I => ?_)
        refine lv_lstore (lv' := [(7, .long r5), (0, .ref (ad 0)), (1, .int v1), (2, .int v2), (3, .int v3), (4, .long v4), (6, .int v6)]) hx hb dX0_bestBar_41 hl (by decide) rfl (fun ls hl => ?_)
        refine lv_iload hx hb dX0_bestBar_43 (lv_at hl 6 rfl) ?_
        refine lv_if_eq (tgt := 56) hx hb dX0_bestBar_45 (by decide) (fun c1 => ?_) (fun c1 => ?_)
        · replace h := if_t h c1
          refine lv_lload hx hb dX0_bestBar_56 (lv_at hl 0 rfl) ?_
          refine lv_lstore (lv' := [(4, .long r5), (7, .long r5), (0, .ref (ad 0)), (1, .int v1), (2, .int v2), (3, .int v3), (6, .int v6)]) hx hb dX0_bestBar_58 hl (by decide) rfl (fun ls hl => ?_)
          refine lv_iload hx hb dX0_bestBar_60 (lv_at hl 6 rfl) ?_
          refine lv_istore_n (lv' := [(3, .int v6), (4, .long r5), (7, .long r5), (0, .ref (ad 0)), (1, .int v1), (2, .int v2), (6, .int v6)]) hx hb dX0_bestBar_62 rfl hl (by decide) rfl (fun ls hl => ?_)
          obtain ⟨y8, ey8⟩ : ∃ z : Int32, z = v6 + (1 : Int32) := ⟨_, rfl⟩
          replace h := lt_e h ey8
          refine lv_iinc (v := y8) (lv' := [(6, .int y8), (3, .int v6), (4, .long r5), (7, .long r5), (0, .ref (ad 0)), (1, .int v1), (2, .int v2)]) hx hb dX0_bestBar_63 hl (k := 6) rfl (by rw [ey8]; rfl) (by decide) rfl (fun ls hl => ?_)
          refine lv_goto (tgt := 18) hx hb dX0_bestBar_66 (by decide) ?_
          exact ih _ _ _ _ _ _ h _ _ I ls (lv_sub hl [4, 5, 6, 1, 2, 0] rfl)
        · replace h := if_f h c1
          refine lv_lload hx hb dX0_bestBar_48 (lv_at hl 0 rfl) ?_
          refine lv_lload hx hb dX0_bestBar_50 (lv_at hl 5 rfl) ?_
          refine W.lcmp hx hb dX0_bestBar_52 ?_
          refine lv_if_le (tgt := 63) hx hb dX0_bestBar_53 (by decide) (fun c1 => ?_) (fun c1 => ?_)
          · replace h := if_t h c1
            obtain ⟨y9, ey9⟩ : ∃ z : Int32, z = v6 + (1 : Int32) := ⟨_, rfl⟩
            replace h := lt_e h ey9
            refine lv_iinc (v := y9) (lv' := [(6, .int y9), (7, .long r5), (0, .ref (ad 0)), (1, .int v1), (2, .int v2), (3, .int v3), (4, .long v4)]) hx hb dX0_bestBar_63 hl (k := 6) rfl (by rw [ey9]; rfl) (by decide) rfl (fun ls hl => ?_)
            refine lv_goto (tgt := 18) hx hb dX0_bestBar_66 (by decide) ?_
            exact ih _ _ _ _ _ _ h _ _ I ls (lv_sub hl [2, 3, 4, 5, 6, 0] rfl)
          · replace h := if_f h c1
            refine lv_lload hx hb dX0_bestBar_56 (lv_at hl 0 rfl) ?_
            refine lv_lstore (lv' := [(4, .long r5), (7, .long r5), (0, .ref (ad 0)), (1, .int v1), (2, .int v2), (3, .int v3), (6, .int v6)]) hx hb dX0_bestBar_58 hl (by decide) rfl (fun ls hl => ?_)
            refine lv_iload hx hb dX0_bestBar_60 (lv_at hl 6 rfl) ?_
            refine lv_istore_n (lv' := [(3, .int v6), (4, .long r5), (7, .long r5), (0, .ref (ad 0)), (1, .int v1), (2, .int v2), (6, .int v6)]) hx hb dX0_bestBar_62 rfl hl (by decide) rfl (fun ls hl => ?_)
            obtain ⟨y10, ey10⟩ : ∃ z : Int32, z = v6 + (1 : Int32) := ⟨_, rfl⟩
            replace h := lt_e h ey10
            refine lv_iinc (v := y10) (lv' := [(6, .int y10), (3, .int v6), (4, .long r5), (7, .long r5), (0, .ref (ad 0)), (1, .int v1), (2, .int v2)]) hx hb dX0_bestBar_63 hl (k := 6) rfl (by rw [ey10]; rfl) (by decide) rfl (fun ls hl => ?_)
            refine lv_goto (tgt := 18) hx hb dX0_bestBar_66 (by decide) ?_
            exact ih _ _ _ _ _ _ h _ _ I ls (lv_sub hl [4, 5, 6, 1, 2, 0] rfl)
  unfold f_A_bestBar at h
  refine lv_aload_n hx hb dX0_bestBar_0 rfl (lv_at hl 0 rfl) ?_
  refine gA_X0_o0_v XX I dX0_bestBar_1 ?_
  refine gA_X0_o1_kind XX I dX0_bestBar_4 ?_
  refine lv_iload_n hx hb dX0_bestBar_7 rfl (lv_at hl 1 rfl) ?_
  refine lv_iconst (v := 2) hx hb dX0_bestBar_8 (by decide) ?_
  obtain ⟨g1, h⟩ := gd_some h
  refine r_iast XX I 3 (aA_kind1) (sA_kind1) g1 dX0_bestBar_9 (fun H locs I => ?_)
  obtain ⟨s2, es2⟩ : ∃ z, z = sr va 1 x1 (2 : Int32) := ⟨_, rfl⟩
  replace h := lt_e h es2
  replace I : Iv G (va_A (bA G ad bd aa ++ (bV G bd va ++ [])) s0.heap.size) s0 H locs (bA G ad bd aa ++ (bV G bd s2 ++ [])) := by rw [es2]; exact I
  refine lv_iconst (v := 0) hx hb dX0_bestBar_10 (by decide) ?_
  refine lv_istore_n (lv' := [(3, .int (0 : Int32)), (0, .ref (ad 0)), (1, .int x1), (2, .int x2)]) hx hb dX0_bestBar_11 rfl hl (by decide) rfl (fun ls hl => ?_)
  refine lv_lconst (v := 0) hx hb dX0_bestBar_12 (by decide) ?_
  refine lv_lstore (lv' := [(4, .long (0 : Int64)), (3, .int (0 : Int32)), (0, .ref (ad 0)), (1, .int x1), (2, .int x2)]) hx hb dX0_bestBar_13 hl (by decide) rfl (fun ls hl => ?_)
  refine lv_iconst (v := 0) hx hb dX0_bestBar_15 (by decide) ?_
  refine lv_istore (lv' := [(6, .int (0 : Int32)), (4, .long (0 : Int64)), (3, .int (0 : Int32)), (0, .ref (ad 0)), (1, .int x1), (2, .int x2)]) hx hb dX0_bestBar_16 hl (by decide) rfl (fun ls hl => ?_)
  exact C18 fu _ _ _ _ _ _ h _ _ I ls (lv_sub hl [3, 4, 5, 2, 1, 0] rfl)
set_option maxHeartbeats 4000000 in
set_option maxRecDepth 100000 in
theorem c_A_leastHarm (l : Launch) (G : g_G) (OK : EOk G.2.2) (ad : Nat → Nat) (bd : Nat → Nat) (fu : Nat) (aa : g_St) (va : g_St) (x1 : Int32) (r : Int32) (tv : g_St) (h : f_A_leastHarm fu aa va x1 = some (r, tv)) : HI l G yX0_leastHarm (Cond.code yX0_leastHarm cX0_leastHarm 9 (some .int) :: gT) { frames := 26, cells := 0, slots := 0, locals := 644 } .int [.ref (ad 0), .int x1] (bA G ad bd aa ++ (bV G bd va ++ [])) r (bA G ad bd aa ++ (bV G bd tv ++ [])) := by
  refine HI.mk (lv := [(0, .ref (ad 0)), (1, .int x1)]) OK (by decide) (Nat.le_of_ble_eq_true rfl) rfl ?_
  intro p e s0 m args below meth c ls XX hr I hl
  have hx := XX.x
  have hb := XX.b
  have C62 : ∀ (k7 : g_St → g_St → Int32 → Int32 → Int64 → Int32 → Option (Int32 × g_St)), (∀ (v : g_St) (v1 : Int32) (v2 : Int32) (v3 : Int64) (v5 : Int32), k7 aa v v1 v2 v3 v5 = some (r, tv) → ∀ (H : Heap) (locs : List Loc), Iv G (va_A (bA G ad bd aa ++ (bV G bd va ++ [])) s0.heap.size) s0 H locs (bA G ad bd aa ++ (bV G bd v ++ [])) → ∀ ls, lv_has ls 9 [(0, .ref (ad 0)), (1, .int v1), (2, .int v2), (3, .long v3), (5, .int v5)] → W p l e { frames := 26, cells := 0, slots := 0, locals := 644 } s0 m args below meth c H locs 0 0 (QI G below .int r (bA G ad bd aa ++ (bV G bd va ++ [])) (bA G ad bd aa ++ (bV G bd tv ++ [])) args s0) (F0 m 7 ls [])) → ∀ (k16 : g_St → g_St → Int32 → Int32 → Int64 → Int32 → Int32 → Option (Int32 × g_St)), (∀ (v : g_St) (v1 : Int32) (v2 : Int32) (v3 : Int64) (v5 : Int32) (v6 : Int32), k16 aa v v1 v2 v3 v5 v6 = some (r, tv) → ∀ (H : Heap) (locs : List Loc), Iv G (va_A (bA G ad bd aa ++ (bV G bd va ++ [])) s0.heap.size) s0 H locs (bA G ad bd aa ++ (bV G bd v ++ [])) → ∀ ls, lv_has ls 9 [(0, .ref (ad 0)), (1, .int v1), (2, .int v2), (3, .long v3), (5, .int v5), (6, .int v6)] → W p l e { frames := 26, cells := 0, slots := 0, locals := 644 } s0 m args below meth c H locs 0 0 (QI G below .int r (bA G ad bd aa ++ (bV G bd va ++ [])) (bA G ad bd aa ++ (bV G bd tv ++ [])) args s0) (F0 m 16 ls [])) → ∀ (v : g_St) (v1 : Int32) (v5 : Int32) (v6 : Int32) (v7 : Int64), f_A_leastHarm_L62 fu k7 k16 aa v v1 v5 v6 v7 = some (r, tv) → ∀ (H : Heap) (locs : List Loc), Iv G (va_A (bA G ad bd aa ++ (bV G bd va ++ [])) s0.heap.size) s0 H locs (bA G ad bd aa ++ (bV G bd v ++ [])) → ∀ ls, lv_has ls 9 [(0, .ref (ad 0)), (1, .int v1), (5, .int v5), (6, .int v6), (7, .long v7)] → W p l e { frames := 26, cells := 0, slots := 0, locals := 644 } s0 m args below meth c H locs 0 0 (QI G below .int r (bA G ad bd aa ++ (bV G bd va ++ [])) (bA G ad bd aa ++ (bV G bd tv ++ [])) args s0) (F0 m 62 ls []) := by
    intro k7 hk7 k16 hk16
    intro v v1 v5 v6 v7 h H locs I ls hl
    unfold f_A_leastHarm_L62 at h
    refine lv_lload hx hb dX0_leastHarm_62 (lv_at hl 4 rfl) ?_
    refine lv_lstore_n (lv' := [(3, .long v7), (0, .ref (ad 0)), (1, .int v1), (5, .int v5), (6, .int v6), (7, .long v7)]) hx hb dX0_leastHarm_64 rfl hl (by decide) rfl (fun ls hl => ?_)
    refine lv_bipush (v := 10) hx hb dX0_leastHarm_65 (by decide) ?_
    refine lv_iload hx hb dX0_leastHarm_67 (lv_at hl 3 rfl) ?_
    refine lv_imul hx hb dX0_leastHarm_69 ?_
    refine lv_iload hx hb dX0_leastHarm_70 (lv_at hl 4 rfl) ?_
    refine lv_iadd hx hb dX0_leastHarm_72 ?_
    refine lv_topi (fun y8 ey8 => ?_)
    replace h := lt_e h ey8
    refine lv_istore_n (lv' := [(2, .int y8), (3, .long v7), (0, .ref (ad 0)), (1, .int v1), (5, .int v5), (6, .int v6), (7, .long v7)]) hx hb dX0_leastHarm_73 rfl hl (by decide) rfl (fun ls hl => ?_)
    obtain ⟨y9, ey9⟩ : ∃ z : Int32, z = v6 + (1 : Int32) := ⟨_, rfl⟩
    replace h := lt_e h ey9
    refine lv_iinc (v := y9) (lv' := [(6, .int y9), (2, .int y8), (3, .long v7), (0, .ref (ad 0)), (1, .int v1), (5, .int v5), (7, .long v7)]) hx hb dX0_leastHarm_74 hl (k := 5) rfl (by rw [ey9]; rfl) (by decide) rfl (fun ls hl => ?_)
    refine lv_goto (tgt := 16) hx hb dX0_leastHarm_77 (by decide) ?_
    exact hk16 _ _ _ _ _ _ h _ _ I ls (lv_sub hl [3, 4, 1, 2, 5, 0] rfl)
  have C16 : ∀ (k7 : g_St → g_St → Int32 → Int32 → Int64 → Int32 → Option (Int32 × g_St)), (∀ (v : g_St) (v1 : Int32) (v2 : Int32) (v3 : Int64) (v5 : Int32), k7 aa v v1 v2 v3 v5 = some (r, tv) → ∀ (H : Heap) (locs : List Loc), Iv G (va_A (bA G ad bd aa ++ (bV G bd va ++ [])) s0.heap.size) s0 H locs (bA G ad bd aa ++ (bV G bd v ++ [])) → ∀ ls, lv_has ls 9 [(0, .ref (ad 0)), (1, .int v1), (2, .int v2), (3, .long v3), (5, .int v5)] → W p l e { frames := 26, cells := 0, slots := 0, locals := 644 } s0 m args below meth c H locs 0 0 (QI G below .int r (bA G ad bd aa ++ (bV G bd va ++ [])) (bA G ad bd aa ++ (bV G bd tv ++ [])) args s0) (F0 m 7 ls [])) → ∀ n : Nat, ∀ (v : g_St) (v1 : Int32) (v2 : Int32) (v3 : Int64) (v5 : Int32) (v6 : Int32), f_A_leastHarm_L16 fu k7 n aa v v1 v2 v3 v5 v6 = some (r, tv) → ∀ (H : Heap) (locs : List Loc), Iv G (va_A (bA G ad bd aa ++ (bV G bd va ++ [])) s0.heap.size) s0 H locs (bA G ad bd aa ++ (bV G bd v ++ [])) → ∀ ls, lv_has ls 9 [(0, .ref (ad 0)), (1, .int v1), (2, .int v2), (3, .long v3), (5, .int v5), (6, .int v6)] → W p l e { frames := 26, cells := 0, slots := 0, locals := 644 } s0 m args below meth c H locs 0 0 (QI G below .int r (bA G ad bd aa ++ (bV G bd va ++ [])) (bA G ad bd aa ++ (bV G bd tv ++ [])) args s0) (F0 m 16 ls []) := by
    intro k7 hk7 n
    induction n with
    | zero => intro v v1 v2 v3 v5 v6 h; exact absurd h (fun q => by cases q)
    | succ n ih =>
      intro v v1 v2 v3 v5 v6 h H locs I ls hl
      rw [f_A_leastHarm_L16] at h
      refine lv_iload hx hb dX0_leastHarm_16 (lv_at hl 5 rfl) ?_
      refine lv_iconst (v := 3) hx hb dX0_leastHarm_18 (by decide) ?_
      refine lv_icmp_gt (tgt := 80) hx hb dX0_leastHarm_19 (by decide) (fun c1 => ?_) (fun c1 => ?_)
      · replace h := if_t h c1
        obtain ⟨y1, ey1⟩ : ∃ z : Int32, z = v5 + (1 : Int32) := ⟨_, rfl⟩
        replace h := lt_e h ey1
        refine lv_iinc (v := y1) (lv' := [(5, .int y1), (0, .ref (ad 0)), (1, .int v1), (2, .int v2), (3, .long v3), (6, .int v6)]) hx hb dX0_leastHarm_80 hl (k := 4) rfl (by rw [ey1]; rfl) (by decide) rfl (fun ls hl => ?_)
        refine lv_goto (tgt := 7) hx hb dX0_leastHarm_83 (by decide) ?_
        exact hk7 _ _ _ _ _ h _ _ I ls (lv_sub hl [1, 2, 3, 4, 0] rfl)
      · replace h := if_f h c1
        refine lv_aload_n hx hb dX0_leastHarm_22 rfl (lv_at hl 0 rfl) ?_
        refine gA_X0_o0_v XX I dX0_leastHarm_23 ?_
        refine gA_X0_o1_law XX I dX0_leastHarm_26 ?_
        refine lv_iconst (v := 1) hx hb dX0_leastHarm_29 (by decide) ?_
        refine lv_iload hx hb dX0_leastHarm_30 (lv_at hl 4 rfl) ?_
        refine r_iast XX I 10 (aA_law1) (sA_law1) (by unfold vp_in; decide) dX0_leastHarm_32 (fun H locs I => ?_)
        obtain ⟨s2, es2⟩ : ∃ z, z = sr v 9 (1 : Int32) v5 := ⟨_, rfl⟩
        replace h := lt_e h es2
        replace I : Iv G (va_A (bA G ad bd aa ++ (bV G bd va ++ [])) s0.heap.size) s0 H locs (bA G ad bd aa ++ (bV G bd s2 ++ [])) := by rw [es2]; exact I
        refine lv_aload_n hx hb dX0_leastHarm_33 rfl (lv_at hl 0 rfl) ?_
        refine gA_X0_o0_v XX I dX0_leastHarm_34 ?_
        refine gA_X0_o1_law XX I dX0_leastHarm_37 ?_
        refine lv_iconst (v := 0) hx hb dX0_leastHarm_40 (by decide) ?_
        refine lv_iload hx hb dX0_leastHarm_41 (lv_at hl 5 rfl) ?_
        refine r_iast XX I 10 (aA_law1) (sA_law1) (by unfold vp_in; decide) dX0_leastHarm_43 (fun H locs I => ?_)
        obtain ⟨s3, es3⟩ : ∃ z, z = sr s2 9 (0 : Int32) v6 := ⟨_, rfl⟩
        replace h := lt_e h es3
        replace I : Iv G (va_A (bA G ad bd aa ++ (bV G bd va ++ [])) s0.heap.size) s0 H locs (bA G ad bd aa ++ (bV G bd s3 ++ [])) := by rw [es3]; exact I
        refine lv_aload_n hx hb dX0_leastHarm_44 rfl (lv_at hl 0 rfl) ?_
        refine lv_iload_n hx hb dX0_leastHarm_45 rfl (lv_at hl 1 rfl) ?_
        obtain ⟨r4, q5, h⟩ := bd1_some h
        refine wcall_l (rest := []) XX I hl.1 (c_A_sum l G OK ad bd fu aa s3 v1 r4 q5) kV_X0_115 (Rc.mk XX I (q0 := 0) (ci := 0) rfl rfl) rfl rfl (Nat.le_of_ble_eq_true rfl) ⟨rfl, rfl, Nat.le_of_ble_eq_true rfl, Nat.le_of_ble_eq_true rfl⟩ ⟨Nat.zero_le _, Nat.zero_le _⟩ dX0_leastHarm_46 (fun H locs I => ?_)
        refine lv_lstore (lv' := [(7, .long r4), (0, .ref (ad 0)), (1, .int v1), (2, .int v2), (3, .long v3), (5, .int v5), (6, .int v6)]) hx hb dX0_leastHarm_49 hl (by decide) rfl (fun ls hl => ?_)
        refine lv_iload_n hx hb dX0_leastHarm_51 rfl (lv_at hl 3 rfl) ?_
        refine lv_if_eq (tgt := 62) hx hb dX0_leastHarm_52 (by decide) (fun c1 => ?_) (fun c1 => ?_)
        · replace h := if_t h c1
          exact C62 k7 hk7 (f_A_leastHarm_L16 fu k7 n) ih _ _ _ _ _ h _ _ I ls (lv_sub hl [1, 2, 5, 6, 0] rfl)
        · replace h := if_f h c1
          refine lv_lload hx hb dX0_leastHarm_55 (lv_at hl 0 rfl) ?_
          refine lv_lload_n hx hb dX0_leastHarm_57 rfl (lv_at hl 4 rfl) ?_
          refine W.lcmp hx hb dX0_leastHarm_58 ?_
          refine lv_if_le (tgt := 74) hx hb dX0_leastHarm_59 (by decide) (fun c1 => ?_) (fun c1 => ?_)
          · replace h := if_t h c1
            obtain ⟨y7, ey7⟩ : ∃ z : Int32, z = v6 + (1 : Int32) := ⟨_, rfl⟩
            replace h := lt_e h ey7
            refine lv_iinc (v := y7) (lv' := [(6, .int y7), (7, .long r4), (0, .ref (ad 0)), (1, .int v1), (2, .int v2), (3, .long v3), (5, .int v5)]) hx hb dX0_leastHarm_74 hl (k := 6) rfl (by rw [ey7]; rfl) (by decide) rfl (fun ls hl => ?_)
            refine lv_goto (tgt := 16) hx hb dX0_leastHarm_77 (by decide) ?_
            exact ih _ _ _ _ _ _ h _ _ I ls (lv_sub hl [2, 3, 4, 5, 6, 0] rfl)
          · replace h := if_f h c1
            exact C62 k7 hk7 (f_A_leastHarm_L16 fu k7 n) ih _ _ _ _ _ h _ _ I ls (lv_sub hl [1, 2, 5, 6, 0] rfl)
  have C7 : ∀ n : Nat, ∀ (v : g_St) (v1 : Int32) (v2 : Int32) (v3 : Int64) (v5 : Int32), f_A_leastHarm_L7 fu n aa v v1 v2 v3 v5 = some (r, tv) → ∀ (H : Heap) (locs : List Loc), Iv G (va_A (bA G ad bd aa ++ (bV G bd va ++ [])) s0.heap.size) s0 H locs (bA G ad bd aa ++ (bV G bd v ++ [])) → ∀ ls, lv_has ls 9 [(0, .ref (ad 0)), (1, .int v1), (2, .int v2), (3, .long v3), (5, .int v5)] → W p l e { frames := 26, cells := 0, slots := 0, locals := 644 } s0 m args below meth c H locs 0 0 (QI G below .int r (bA G ad bd aa ++ (bV G bd va ++ [])) (bA G ad bd aa ++ (bV G bd tv ++ [])) args s0) (F0 m 7 ls []) := by
    intro n
    induction n with
    | zero => intro v v1 v2 v3 v5 h; exact absurd h (fun q => by cases q)
    | succ n ih =>
      intro v v1 v2 v3 v5 h H locs I ls hl
      rw [f_A_leastHarm_L7] at h
      refine lv_iload hx hb dX0_leastHarm_7 (lv_at hl 4 rfl) ?_
      refine lv_iconst (v := 1) hx hb dX0_leastHarm_9 (by decide) ?_
      refine lv_icmp_gt (tgt := 86) hx hb dX0_leastHarm_10 (by decide) (fun c1 => ?_) (fun c1 => ?_)
      · replace h := if_t h c1
        refine lv_iload_n hx hb dX0_leastHarm_86 rfl (lv_at hl 2 rfl) ?_
        obtain ⟨rfl, rfl⟩ := some2 h
        exact e_i rfl XX hr I rfl dX0_leastHarm_87
      · replace h := if_f h c1
        refine lv_iconst (v := 1) hx hb dX0_leastHarm_13 (by decide) ?_
        refine lv_istore (lv' := [(6, .int (1 : Int32)), (0, .ref (ad 0)), (1, .int v1), (2, .int v2), (3, .long v3), (5, .int v5)]) hx hb dX0_leastHarm_14 hl (by decide) rfl (fun ls hl => ?_)
        exact C16 (f_A_leastHarm_L7 fu n) ih fu _ _ _ _ _ _ h _ _ I ls (lv_sub hl [1, 2, 3, 4, 5, 0] rfl)
  unfold f_A_leastHarm at h
  refine lv_iconst (v := 0) hx hb dX0_leastHarm_0 (by decide) ?_
  refine lv_istore_n (lv' := [(2, .int (0 : Int32)), (0, .ref (ad 0)), (1, .int x1)]) hx hb dX0_leastHarm_1 rfl hl (by decide) rfl (fun ls hl => ?_)
  refine lv_lconst (v := 0) hx hb dX0_leastHarm_2 (by decide) ?_
  refine lv_lstore_n (lv' := [(3, .long (0 : Int64)), (2, .int (0 : Int32)), (0, .ref (ad 0)), (1, .int x1)]) hx hb dX0_leastHarm_3 rfl hl (by decide) rfl (fun ls hl => ?_)
  refine lv_iconst (v := 0) hx hb dX0_leastHarm_4 (by decide) ?_
  refine lv_istore (lv' := [(5, .int (0 : Int32)), (3, .long (0 : Int64)), (2, .int (0 : Int32)), (0, .ref (ad 0)), (1, .int x1)]) hx hb dX0_leastHarm_5 hl (by decide) rfl (fun ls hl => ?_)
  exact C7 fu _ _ _ _ _ h _ _ I ls (lv_sub hl [3, 4, 2, 1, 0] rfl)
set_option maxHeartbeats 4000000 in
set_option maxRecDepth 100000 in
theorem c_A_rowThatLets (l : Launch) (G : g_G) (OK : EOk G.2.2) (ad : Nat → Nat) (bd : Nat → Nat) (fu : Nat) (aa : g_St) (va : g_St) (x1 : Int32) (x2 : Int32) (r : Int32) (h : f_A_rowThatLets fu aa va x1 x2 = some r) : HI l G yX0_rowThatLets (Cond.code yX0_rowThatLets cX0_rowThatLets 3 (some .int) :: gT) { frames := 25, cells := 0, slots := 0, locals := 621 } .int [.ref (ad 0), .int x1, .int x2] (bA G ad bd aa ++ (bV G bd va ++ [])) r (bA G ad bd aa ++ (bV G bd va ++ [])) := by
  refine HI.mk (lv := [(0, .ref (ad 0)), (1, .int x1), (2, .int x2)]) OK (by decide) (Nat.le_of_ble_eq_true rfl) rfl ?_
  intro p e s0 m args below meth c ls XX hr I hl
  have hx := XX.x
  have hb := XX.b
  unfold f_A_rowThatLets at h
  refine lv_aload_n hx hb dX0_rowThatLets_0 rfl (lv_at hl 0 rfl) ?_
  refine lv_iload_n hx hb dX0_rowThatLets_1 rfl (lv_at hl 1 rfl) ?_
  refine lv_iload_n hx hb dX0_rowThatLets_2 rfl (lv_at hl 2 rfl) ?_
  refine lv_aload_n hx hb dX0_rowThatLets_3 rfl (lv_at hl 0 rfl) ?_
  refine gA_X0_o0_v XX I dX0_rowThatLets_4 ?_
  refine gA_X0_o1_law XX I dX0_rowThatLets_7 ?_
  refine lv_iconst (v := 3) hx hb dX0_rowThatLets_10 (by decide) ?_
  refine r_iald XX I 10 (aA_law1) (by unfold vp_in; decide) dX0_rowThatLets_11 ?_
  refine lv_aload_n hx hb dX0_rowThatLets_12 rfl (lv_at hl 0 rfl) ?_
  refine gA_X0_o0_v XX I dX0_rowThatLets_13 ?_
  obtain ⟨r1, q2, h⟩ := bd1_some h
  have RC := (Rc.mk XX I (q0 := 2) (ci := 9) rfl rfl)
  replace I : Iv G (va_A (bA G ad bd aa ++ (bV G bd va ++ [])) s0.heap.size) s0 _ _ ((bV G bd va) ++ (bA G ad bd aa ++ [])) := I.perm ((List.Perm.append_left _ (List.Perm.refl _)).trans (List.perm_append_comm_assoc _ _ _))
  refine call_i (X := []) (wc := (bV G bd va)) (Y := (bA G ad bd aa ++ [])) (rest := [.int (gr va 9 (3 : Int32).toNatClampNeg), .int x2, .int x1, .ref (ad 0)]) XX I hl.1 (c_V_packedNoes l G OK bd fu va r1 q2) kV_X0_44 RC rfl rfl (Nat.le_of_ble_eq_true rfl) ⟨rfl, rfl, Nat.le_of_ble_eq_true rfl, Nat.le_of_ble_eq_true rfl⟩ ⟨Nat.zero_le _, Nat.zero_le _⟩ dX0_rowThatLets_16 (fun H locs hz3 I => ?_)
  replace I : Iv G (va_A (bA G ad bd aa ++ (bV G bd va ++ [])) s0.heap.size) s0 H locs (bA G ad bd aa ++ (bV G bd va ++ [])) := Iv.perm (w := (bV G bd va) ++ (bA G ad bd aa ++ [])) I (((List.Perm.append_left _ (List.Perm.refl _)).trans (List.perm_append_comm_assoc _ _ _)).symm)
  obtain ⟨r4, q5, h⟩ := bd1_some h
  refine wcall_i (rest := []) XX I hl.1 (c_A_rowFrom l G OK ad bd fu 6 aa va x1 x2 (gr va 9 (3 : Int32).toNatClampNeg) r1 r4 q5) kV_X0_119 (Rc.mk XX I (q0 := 0) (ci := 0) rfl rfl) rfl rfl (Nat.le_of_ble_eq_true rfl) ⟨rfl, rfl, Nat.le_of_ble_eq_true rfl, Nat.le_of_ble_eq_true rfl⟩ ⟨Nat.zero_le _, Nat.zero_le _⟩ dX0_rowThatLets_19 (fun H locs hz6 I => ?_)
  obtain rfl := some1 h
  exact e_i rfl XX hr I rfl dX0_rowThatLets_22
