theorem gT_X6_o1_worth {p : Program} {l : Launch} {e : Env} {R : Room} {s0 : State} {m : MethodId} {args : Array Value} {below : List Frame} {meth : Method} {c : Code} {H : Heap} {locs : List Loc} {cells slots : Nat} {Q : State → Prop} {cc : ByteArray} {nL pc : Nat} {ls : Array Slot} {rest : List Value} {G : g_G} {A : Nat → Prop} {ra : Nat → Nat} {ma : Nat → Nat} {rd : g_St} {md : g_St} (XX : Cx G A p s0 m meth c cc nL RX6 args) (I : Iv G A s0 H locs (bT G ra ma rd ++ (bV G ma md ++ []))) (hdg : decode cc pc = .ok (.getfield 128, 3)) (kk : W p l e R s0 m args below meth c H locs cells slots Q (F0 m (pc + 3) ls (.ref (ma 9) :: rest))) : W p l e R s0 m args below meth c H locs cells slots Q (F0 m pc ls (.ref (ma 0) :: rest)) := r_get kfX9 XX I 2 rfl 8 (Nat.le_of_ble_eq_true rfl) wd_62 rfl hdg kk
theorem aT_row1 {G : g_G} {ra : Nat → Nat} {ma : Nat → Nat} {rd : g_St} {md : g_St} {q : Nat} (hq : q < 8) : (bT G ra ma rd ++ (bV G ma md ++ []))[11 + q]? = some (ma (20 + q), .inl (G.2.1 0, 6, .inl (gr md (20 + q)))) := by rcases (show q = 0 ∨ q = 1 ∨ q = 2 ∨ q = 3 ∨ q = 4 ∨ q = 5 ∨ q = 6 ∨ q = 7 by omega) with rfl | rfl | rfl | rfl | rfl | rfl | rfl | rfl <;> rfl
theorem sT_row1 {G : g_G} {ra : Nat → Nat} {ma : Nat → Nat} {rd : g_St} {md : g_St} {q : Nat} (hq : q < 8) {i x : Int32} : (bT G ra ma rd ++ (bV G ma md ++ [])).set (11 + q) (ma (20 + q), .inl (G.2.1 0, 6, .inl (upd (gr md (20 + q)) i.toNatClampNeg x))) = (bT G ra ma rd ++ (bV G ma (sr md (20 + q) i x) ++ [])) := by rcases (show q = 0 ∨ q = 1 ∨ q = 2 ∨ q = 3 ∨ q = 4 ∨ q = 5 ∨ q = 6 ∨ q = 7 by omega) with rfl | rfl | rfl | rfl | rfl | rfl | rfl | rfl <;> rfl
set_option maxHeartbeats 4000000 in
set_option maxRecDepth 100000 in
theorem c_T_readWorths (l : Launch) (G : g_G) (OK : EOk G.2.2) (adK adV : Nat → Nat) (hX : HX G adK adV) (ra : Nat → Nat) (ma : Nat → Nat) (fu : Nat) (rda : g_St) (mda : g_St) (x1 : Int32) (r : Int32) (trd : g_St) (tmd : g_St) (h : f_T_readWorths fu rda mda x1 = some (r, trd, tmd)) : HI l G yX6_readWorths (Cond.code yX6_readWorths cX6_readWorths 4 (some .boolean) :: gT) { frames := 2, cells := 0, slots := 0, locals := 44 } .boolean [.ref (ra 0), .int x1] (bT G ra ma rda ++ (bV G ma mda ++ [])) r (bT G ra ma trd ++ (bV G ma tmd ++ [])) := by
  refine HI.mk (lv := [(0, .ref (ra 0)), (1, .int x1)]) OK (by decide) (Nat.le_of_ble_eq_true rfl) rfl ?_
  intro p e s0 m args below meth c ls XX hr I hl
  have hx := XX.x
  have hb := XX.b
  have E := hX _ _ _ XX.E
  have C70 : ∀ (k2 : g_St → g_St → Int32 → Int32 → Option (Int32 × g_St × g_St)), (∀ (rd : g_St) (md : g_St) (v1 : Int32) (v2 : Int32), k2 rd md v1 v2 = some (r, trd, tmd) → ∀ (H : Heap) (locs : List Loc), Iv G (va_A (bT G ra ma rda ++ (bV G ma mda ++ [])) s0.heap.size) s0 H locs (bT G ra ma rd ++ (bV G ma md ++ [])) → ∀ ls, lv_has ls 4 [(0, .ref (ra 0)), (1, .int v1), (2, .int v2)] → W p l e { frames := 2, cells := 0, slots := 0, locals := 44 } s0 m args below meth c H locs 0 0 (QI G below .boolean r (bT G ra ma rda ++ (bV G ma mda ++ [])) (bT G ra ma trd ++ (bV G ma tmd ++ [])) args s0) (F0 m 2 ls [])) → ∀ (rd : g_St) (md : g_St) (v1 : Int32) (v2 : Int32) (z0 : Int32) (z1 : Int32) (ws2 : Int32), f_T_readWorths_L70 fu k2 rd md v1 v2 z0 z1 ws2 = some (r, trd, tmd) → ∀ (H : Heap) (locs : List Loc), Iv G (va_A (bT G ra ma rda ++ (bV G ma mda ++ [])) s0.heap.size) s0 H locs (bT G ra ma rd ++ (bV G ma md ++ [])) → ∀ ls, lv_has ls 4 [(0, .ref (ra 0)), (1, .int v1), (2, .int v2)] → vp_in ws2 8 → W p l e { frames := 2, cells := 0, slots := 0, locals := 44 } s0 m args below meth c H locs 0 0 (QI G below .boolean r (bT G ra ma rda ++ (bV G ma mda ++ [])) (bT G ra ma trd ++ (bV G ma tmd ++ [])) args s0) (F0 m 70 ls [.int z0, .int z1, .ref (ma (20 + ws2.toNatClampNeg))]) := by
    intro k2 hk2
    intro rd md v1 v2 z0 z1 ws2 h H locs I ls hl hws2
    unfold f_T_readWorths_L70 at h
    obtain ⟨g14, h⟩ := gd_some h
    refine r_iast XX I (11 + ws2.toNatClampNeg) (aT_row1 (vin_lt hws2)) (sT_row1 (vin_lt hws2)) g14 dX6_readWorths_70 (fun H locs I => ?_)
    obtain ⟨s15, es15⟩ : ∃ z, z = sr md (20 + ws2.toNatClampNeg) z1 z0 := ⟨_, rfl⟩
    replace h := lt_e h es15
    replace I : Iv G (va_A (bT G ra ma rda ++ (bV G ma mda ++ [])) s0.heap.size) s0 H locs (bT G ra ma rd ++ (bV G ma s15 ++ [])) := by rw [es15]; exact I
    refine lv_aload_n hx hb dX6_readWorths_71 rfl (lv_at hl 0 rfl) ?_
    obtain ⟨s16, q17, h⟩ := bd1_some h
    refine wcall_v (rest := []) XX I hl.1 (c_T_advance l G OK adK adV hX ra ma fu rd s15 s16 q17) kV_X6_56 (Rc.mk XX I (q0 := 0) (ci := 6) rfl rfl) rfl rfl (Nat.le_of_ble_eq_true rfl) ⟨rfl, rfl, Nat.le_of_ble_eq_true rfl, Nat.le_of_ble_eq_true rfl⟩ ⟨Nat.zero_le _, Nat.zero_le _⟩ dX6_readWorths_72 (fun H locs I => ?_)
    refine lv_aload_n hx hb dX6_readWorths_75 rfl (lv_at hl 0 rfl) ?_
    refine lv_bipush (v := 44) hx hb dX6_readWorths_76 (by decide) ?_
    refine wcall_i (rest := []) XX I hl.1 (c_T_isByte l G OK adK adV hX ra ma s16 s15 (44 : Int32) _ rfl) kV_X6_125 (Rc.mk XX I (q0 := 0) (ci := 6) rfl rfl) rfl rfl (Nat.le_of_ble_eq_true rfl) ⟨rfl, rfl, Nat.le_of_ble_eq_true rfl, Nat.le_of_ble_eq_true rfl⟩ ⟨Nat.zero_le _, Nat.zero_le _⟩ dX6_readWorths_78 (fun H locs hz19 I => ?_)
    refine lv_if_ne (tgt := 86) hx hb dX6_readWorths_81 (by decide) (fun c1 => ?_) (fun c1 => ?_)
    · replace h := if_f h c1
      obtain ⟨y20, ey20⟩ : ∃ z : Int32, z = v2 + (1 : Int32) := ⟨_, rfl⟩
      replace h := lt_e h ey20
      refine lv_iinc (v := y20) (lv' := [(2, .int y20), (0, .ref (ra 0)), (1, .int v1)]) hx hb dX6_readWorths_86 hl (k := 2) rfl (by rw [ey20]; rfl) (by decide) rfl (fun ls hl => ?_)
      refine lv_goto (tgt := 2) hx hb dX6_readWorths_89 (by decide) ?_
      exact hk2 _ _ _ _ h _ _ I ls (lv_sub hl [1, 2, 0] rfl)
    · replace h := if_t h c1
      refine lv_iconst (v := 1) hx hb dX6_readWorths_84 (by decide) ?_
      obtain ⟨rfl, h9⟩ := some2 h
      obtain ⟨rfl, rfl⟩ := pair2 h9
      exact e_z XX hr I rfl rfl dX6_readWorths_85
  have C32 : ∀ (k2 : g_St → g_St → Int32 → Int32 → Option (Int32 × g_St × g_St)), (∀ (rd : g_St) (md : g_St) (v1 : Int32) (v2 : Int32), k2 rd md v1 v2 = some (r, trd, tmd) → ∀ (H : Heap) (locs : List Loc), Iv G (va_A (bT G ra ma rda ++ (bV G ma mda ++ [])) s0.heap.size) s0 H locs (bT G ra ma rd ++ (bV G ma md ++ [])) → ∀ ls, lv_has ls 4 [(0, .ref (ra 0)), (1, .int v1), (2, .int v2)] → W p l e { frames := 2, cells := 0, slots := 0, locals := 44 } s0 m args below meth c H locs 0 0 (QI G below .boolean r (bT G ra ma rda ++ (bV G ma mda ++ [])) (bT G ra ma trd ++ (bV G ma tmd ++ [])) args s0) (F0 m 2 ls [])) → ∀ (rd : g_St) (md : g_St) (v1 : Int32) (v2 : Int32) (v3 : Int32), f_T_readWorths_L32 fu k2 rd md v1 v2 v3 = some (r, trd, tmd) → ∀ (H : Heap) (locs : List Loc), Iv G (va_A (bT G ra ma rda ++ (bV G ma mda ++ [])) s0.heap.size) s0 H locs (bT G ra ma rd ++ (bV G ma md ++ [])) → ∀ ls, lv_has ls 4 [(0, .ref (ra 0)), (1, .int v1), (2, .int v2), (3, .int v3)] → W p l e { frames := 2, cells := 0, slots := 0, locals := 44 } s0 m args below meth c H locs 0 0 (QI G below .boolean r (bT G ra ma rda ++ (bV G ma mda ++ [])) (bT G ra ma trd ++ (bV G ma tmd ++ [])) args s0) (F0 m 32 ls []) := by
    intro k2 hk2
    intro rd md v1 v2 v3 h H locs I ls hl
    unfold f_T_readWorths_L32 at h
    refine lv_aload_n hx hb dX6_readWorths_32 rfl (lv_at hl 0 rfl) ?_
    refine lv_iconst (v := 0) hx hb dX6_readWorths_33 (by decide) ?_
    refine lv_bipush (v := 9) hx hb dX6_readWorths_34 (by decide) ?_
    refine wcall_i (rest := []) XX I hl.1 (c_T_isNumber l G OK adK adV hX ra ma rd md (0 : Int32) (9 : Int32) _ rfl) kV_X6_101 (Rc.mk XX I (q0 := 0) (ci := 6) rfl rfl) rfl rfl (Nat.le_of_ble_eq_true rfl) ⟨rfl, rfl, Nat.le_of_ble_eq_true rfl, Nat.le_of_ble_eq_true rfl⟩ ⟨Nat.zero_le _, Nat.zero_le _⟩ dX6_readWorths_36 (fun H locs hz12 I => ?_)
    refine lv_if_ne (tgt := 44) hx hb dX6_readWorths_39 (by decide) (fun c1 => ?_) (fun c1 => ?_)
    · replace h := if_f h c1
      refine lv_aload_n hx hb dX6_readWorths_44 rfl (lv_at hl 0 rfl) ?_
      refine gT_X6_o0_made XX I dX6_readWorths_45 ?_
      refine gT_X6_o1_worth XX I dX6_readWorths_48 ?_
      refine lv_iload_n hx hb dX6_readWorths_51 rfl (lv_at hl 1 rfl) ?_
      obtain ⟨g13, h⟩ := gd_some h
      refine r_aaldI XX I 9 rfl (v := .ref (ma (20 + v1.toNatClampNeg))) rfl g13 dX6_readWorths_52 ?_
      refine lv_iload_n hx hb dX6_readWorths_53 rfl (lv_at hl 2 rfl) ?_
      refine lv_iload_n hx hb dX6_readWorths_54 rfl (lv_at hl 3 rfl) ?_
      refine lv_if_eq (tgt := 66) hx hb dX6_readWorths_55 (by decide) (fun c1 => ?_) (fun c1 => ?_)
      · replace h := if_t h c1
        refine lv_aload_n hx hb dX6_readWorths_66 rfl (lv_at hl 0 rfl) ?_
        refine gT_X6_o0_number XX I dX6_readWorths_67 ?_
        exact C70 k2 hk2 _ _ _ _ _ _ _ h _ _ I ls (lv_sub hl [0, 1, 2] rfl) (g13)
      · replace h := if_f h c1
        refine lv_aload_n hx hb dX6_readWorths_58 rfl (lv_at hl 0 rfl) ?_
        refine gT_X6_o0_number XX I dX6_readWorths_59 ?_
        refine lv_ineg hx hb dX6_readWorths_62 ?_
        refine lv_goto (tgt := 70) hx hb dX6_readWorths_63 (by decide) ?_
        exact C70 k2 hk2 _ _ _ _ _ _ _ h _ _ I ls (lv_sub hl [0, 1, 2] rfl) (g13)
    · replace h := if_t h c1
      refine lv_iconst (v := 0) hx hb dX6_readWorths_42 (by decide) ?_
      obtain ⟨rfl, h9⟩ := some2 h
      obtain ⟨rfl, rfl⟩ := pair2 h9
      exact e_z XX hr I rfl rfl dX6_readWorths_43
  have C2 : ∀ n : Nat, ∀ (rd : g_St) (md : g_St) (v1 : Int32) (v2 : Int32), f_T_readWorths_L2 fu n rd md v1 v2 = some (r, trd, tmd) → ∀ (H : Heap) (locs : List Loc), Iv G (va_A (bT G ra ma rda ++ (bV G ma mda ++ [])) s0.heap.size) s0 H locs (bT G ra ma rd ++ (bV G ma md ++ [])) → ∀ ls, lv_has ls 4 [(0, .ref (ra 0)), (1, .int v1), (2, .int v2)] → W p l e { frames := 2, cells := 0, slots := 0, locals := 44 } s0 m args below meth c H locs 0 0 (QI G below .boolean r (bT G ra ma rda ++ (bV G ma mda ++ [])) (bT G ra ma trd ++ (bV G ma tmd ++ [])) args s0) (F0 m 2 ls []) := by
    intro n
    induction n with
    | zero => intro rd md v1 v2 h; exact absurd h (fun q => by cases q)
    | succ n ih =>
      intro rd md v1 v2 h H locs I ls hl
      rw [f_T_readWorths_L2] at h
      refine lv_iload_n hx hb dX6_readWorths_2 rfl (lv_at hl 2 rfl) ?_
      refine lv_aload_n hx hb dX6_readWorths_3 rfl (lv_at hl 0 rfl) ?_
      refine gT_X6_o0_made XX I dX6_readWorths_4 ?_
      refine gT_X6_o1_people XX I dX6_readWorths_7 ?_
      refine lv_icmp_ge (tgt := 92) hx hb dX6_readWorths_10 (by decide) (fun c1 => ?_) (fun c1 => ?_)
      · replace h := if_t h c1
        refine lv_aload_n hx hb dX6_readWorths_92 rfl (lv_at hl 0 rfl) ?_
        obtain ⟨s1, q2, h⟩ := bd1_some h
        refine wcall_v (rest := []) XX I hl.1 (c_T_advance l G OK adK adV hX ra ma fu rd md s1 q2) kV_X6_56 (Rc.mk XX I (q0 := 0) (ci := 6) rfl rfl) rfl rfl (Nat.le_of_ble_eq_true rfl) ⟨rfl, rfl, Nat.le_of_ble_eq_true rfl, Nat.le_of_ble_eq_true rfl⟩ ⟨Nat.zero_le _, Nat.zero_le _⟩ dX6_readWorths_93 (fun H locs I => ?_)
        refine lv_iconst (v := 0) hx hb dX6_readWorths_96 (by decide) ?_
        obtain ⟨rfl, h9⟩ := some2 h
        obtain ⟨rfl, rfl⟩ := pair2 h9
        exact e_z XX hr I rfl rfl dX6_readWorths_97
      · replace h := if_f h c1
        refine lv_aload_n hx hb dX6_readWorths_13 rfl (lv_at hl 0 rfl) ?_
        obtain ⟨s4, q5, h⟩ := bd1_some h
        refine wcall_v (rest := []) XX I hl.1 (c_T_advance l G OK adK adV hX ra ma fu rd md s4 q5) kV_X6_56 (Rc.mk XX I (q0 := 0) (ci := 6) rfl rfl) rfl rfl (Nat.le_of_ble_eq_true rfl) ⟨rfl, rfl, Nat.le_of_ble_eq_true rfl, Nat.le_of_ble_eq_true rfl⟩ ⟨Nat.zero_le _, Nat.zero_le _⟩ dX6_readWorths_14 (fun H locs I => ?_)
        refine lv_aload_n hx hb dX6_readWorths_17 rfl (lv_at hl 0 rfl) ?_
        refine lv_bipush (v := 45) hx hb dX6_readWorths_18 (by decide) ?_
        refine wcall_i (rest := []) XX I hl.1 (c_T_isByte l G OK adK adV hX ra ma s4 md (45 : Int32) _ rfl) kV_X6_125 (Rc.mk XX I (q0 := 0) (ci := 6) rfl rfl) rfl rfl (Nat.le_of_ble_eq_true rfl) ⟨rfl, rfl, Nat.le_of_ble_eq_true rfl, Nat.le_of_ble_eq_true rfl⟩ ⟨Nat.zero_le _, Nat.zero_le _⟩ dX6_readWorths_20 (fun H locs hz7 I => ?_)
        refine lv_topi (fun y8 ey8 => ?_)
        replace h := lt_e h ey8
        have hz_y8 : narrow .boolean (.int y8) = .int y8 := by rw [ey8]; exact hz7
        refine lv_istore_n (lv' := [(3, .int y8), (0, .ref (ra 0)), (1, .int v1), (2, .int v2)]) hx hb dX6_readWorths_23 rfl hl (by decide) rfl (fun ls hl => ?_)
        refine lv_iload_n hx hb dX6_readWorths_24 rfl (lv_at hl 0 rfl) ?_
        refine lv_if_eq (tgt := 32) hx hb dX6_readWorths_25 (by decide) (fun c1 => ?_) (fun c1 => ?_)
        · replace h := if_t h c1
          exact C32 (f_T_readWorths_L2 fu n) ih _ _ _ _ _ h _ _ I ls (lv_sub hl [1, 2, 3, 0] rfl)
        · replace h := if_f h c1
          refine lv_aload_n hx hb dX6_readWorths_28 rfl (lv_at hl 1 rfl) ?_
          obtain ⟨s9, q10, h⟩ := bd1_some h
          refine wcall_v (rest := []) XX I hl.1 (c_T_advance l G OK adK adV hX ra ma fu s4 md s9 q10) kV_X6_56 (Rc.mk XX I (q0 := 0) (ci := 6) rfl rfl) rfl rfl (Nat.le_of_ble_eq_true rfl) ⟨rfl, rfl, Nat.le_of_ble_eq_true rfl, Nat.le_of_ble_eq_true rfl⟩ ⟨Nat.zero_le _, Nat.zero_le _⟩ dX6_readWorths_29 (fun H locs I => ?_)
          exact C32 (f_T_readWorths_L2 fu n) ih _ _ _ _ _ h _ _ I ls (lv_sub hl [1, 2, 3, 0] rfl)
  unfold f_T_readWorths at h
  refine lv_iconst (v := 0) hx hb dX6_readWorths_0 (by decide) ?_
  refine lv_istore_n (lv' := [(2, .int (0 : Int32)), (0, .ref (ra 0)), (1, .int x1)]) hx hb dX6_readWorths_1 rfl hl (by decide) rfl (fun ls hl => ?_)
  exact C2 fu _ _ _ _ h _ _ I ls (lv_sub hl [1, 2, 0] rfl)
theorem kV_X6_116 : KV RX6 116 RX9 yX9_addProposal cX9_addProposal 4 (some .int) 1 := KV.mk wd_464 wd_465 wd_466 wd_2 wd_467 (by decide +kernel)
theorem kV_X6_122 : KV RX6 122 RX6 yX6_readWorths cX6_readWorths 4 (some .boolean) 1 := KV.mk wd_469 wd_471 wd_1588 wd_4 wd_472 (by decide +kernel)
theorem gT_X6_o1_proposals {p : Program} {l : Launch} {e : Env} {R : Room} {s0 : State} {m : MethodId} {args : Array Value} {below : List Frame} {meth : Method} {c : Code} {H : Heap} {locs : List Loc} {cells slots : Nat} {Q : State → Prop} {cc : ByteArray} {nL pc : Nat} {ls : Array Slot} {rest : List Value} {G : g_G} {A : Nat → Prop} {ra : Nat → Nat} {ma : Nat → Nat} {rd : g_St} {md : g_St} (XX : Cx G A p s0 m meth c cc nL RX6 args) (I : Iv G A s0 H locs (bT G ra ma rd ++ (bV G ma md ++ []))) (hdg : decode cc pc = .ok (.getfield 113, 3)) (kk : W p l e R s0 m args below meth c H locs cells slots Q (F0 m (pc + 3) ls (.int (gi md 6) :: rest))) : W p l e R s0 m args below meth c H locs cells slots Q (F0 m pc ls (.ref (ma 0) :: rest)) := r_get kfX9 XX I 2 rfl 6 (Nat.le_of_ble_eq_true rfl) wd_55 rfl hdg kk
set_option maxHeartbeats 4000000 in
set_option maxRecDepth 100000 in
theorem c_T_readProposal (l : Launch) (G : g_G) (OK : EOk G.2.2) (adK adV : Nat → Nat) (hX : HX G adK adV) (ra : Nat → Nat) (ma : Nat → Nat) (fu : Nat) (rda : g_St) (mda : g_St) (r : Int32) (trd : g_St) (tmd : g_St) (h : f_T_readProposal fu rda mda = some (r, trd, tmd)) : HI l G yX6_readProposal (Cond.code yX6_readProposal cX6_readProposal 2 (some .boolean) :: gT) { frames := 5, cells := 0, slots := 0, locals := 107 } .boolean [.ref (ra 0)] (bT G ra ma rda ++ (bV G ma mda ++ [])) r (bT G ra ma trd ++ (bV G ma tmd ++ [])) := by
  refine HI.mk (lv := [(0, .ref (ra 0))]) OK (by decide) (Nat.le_of_ble_eq_true rfl) rfl ?_
  intro p e s0 m args below meth c ls XX hr I hl
  have hx := XX.x
  have hb := XX.b
  have E := hX _ _ _ XX.E
  unfold f_T_readProposal at h
  refine lv_aload_n hx hb dX6_readProposal_0 rfl (lv_at hl 0 rfl) ?_
  refine gT_X6_o0_made XX I dX6_readProposal_1 ?_
  refine gT_X6_o1_proposals XX I dX6_readProposal_4 ?_
  refine lv_bipush (v := 8) hx hb dX6_readProposal_7 (by decide) ?_
  refine lv_icmp_lt (tgt := 14) hx hb dX6_readProposal_9 (by decide) (fun c1 => ?_) (fun c1 => ?_)
  · replace h := if_t h c1
    refine lv_aload_n hx hb dX6_readProposal_14 rfl (lv_at hl 0 rfl) ?_
    obtain ⟨s1, q2, h⟩ := bd1_some h
    refine wcall_v (rest := []) XX I hl.1 (c_T_advance l G OK adK adV hX ra ma fu rda mda s1 q2) kV_X6_56 (Rc.mk XX I (q0 := 0) (ci := 6) rfl rfl) rfl rfl (Nat.le_of_ble_eq_true rfl) ⟨rfl, rfl, Nat.le_of_ble_eq_true rfl, Nat.le_of_ble_eq_true rfl⟩ ⟨Nat.zero_le _, Nat.zero_le _⟩ dX6_readProposal_15 (fun H locs I => ?_)
    refine lv_aload_n hx hb dX6_readProposal_18 rfl (lv_at hl 0 rfl) ?_
    refine lv_iconst (v := 0) hx hb dX6_readProposal_19 (by decide) ?_
    refine lv_bipush (v := 9) hx hb dX6_readProposal_20 (by decide) ?_
    refine wcall_i (rest := []) XX I hl.1 (c_T_isNumber l G OK adK adV hX ra ma s1 mda (0 : Int32) (9 : Int32) _ rfl) kV_X6_101 (Rc.mk XX I (q0 := 0) (ci := 6) rfl rfl) rfl rfl (Nat.le_of_ble_eq_true rfl) ⟨rfl, rfl, Nat.le_of_ble_eq_true rfl, Nat.le_of_ble_eq_true rfl⟩ ⟨Nat.zero_le _, Nat.zero_le _⟩ dX6_readProposal_22 (fun H locs hz4 I => ?_)
    refine lv_if_ne (tgt := 30) hx hb dX6_readProposal_25 (by decide) (fun c1 => ?_) (fun c1 => ?_)
    · replace h := if_f h c1
      refine lv_aload_n hx hb dX6_readProposal_30 rfl (lv_at hl 0 rfl) ?_
      refine gT_X6_o0_made XX I dX6_readProposal_31 ?_
      refine lv_aload_n hx hb dX6_readProposal_34 rfl (lv_at hl 0 rfl) ?_
      refine gT_X6_o0_number XX I dX6_readProposal_35 ?_
      obtain ⟨r5, s6, q7, h⟩ := bd2_some h
      have RC := (Rc.mk XX I (q0 := 2) (ci := 9) rfl rfl)
      replace I : Iv G (va_A (bT G ra ma rda ++ (bV G ma mda ++ [])) s0.heap.size) s0 _ _ ((bV G ma mda) ++ (bT G ra ma s1 ++ [])) := I.perm ((List.Perm.append_left _ (List.Perm.refl _)).trans (List.perm_append_comm_assoc _ _ _))
      refine call_i (X := []) (wc := (bV G ma mda)) (Y := (bT G ra ma s1 ++ [])) (rest := []) XX I hl.1 (c_V_addProposal l G OK ma fu mda (gi s1 6) r5 s6 q7) kV_X6_116 RC rfl rfl (Nat.le_of_ble_eq_true rfl) ⟨rfl, rfl, Nat.le_of_ble_eq_true rfl, Nat.le_of_ble_eq_true rfl⟩ ⟨Nat.zero_le _, Nat.zero_le _⟩ dX6_readProposal_38 (fun H locs hz8 I => ?_)
      replace I : Iv G (va_A (bT G ra ma rda ++ (bV G ma mda ++ [])) s0.heap.size) s0 H locs (bT G ra ma s1 ++ (bV G ma s6 ++ [])) := Iv.perm (w := (bV G ma s6) ++ (bT G ra ma s1 ++ [])) I (((List.Perm.append_left _ (List.Perm.refl _)).trans (List.perm_append_comm_assoc _ _ _)).symm)
      refine lv_istore_n (lv' := [(1, .int r5), (0, .ref (ra 0))]) hx hb dX6_readProposal_41 rfl hl (by decide) rfl (fun ls hl => ?_)
      refine lv_aload_n hx hb dX6_readProposal_42 rfl (lv_at hl 1 rfl) ?_
      obtain ⟨s9, q10, h⟩ := bd1_some h
      refine wcall_v (rest := []) XX I hl.1 (c_T_advance l G OK adK adV hX ra ma fu s1 s6 s9 q10) kV_X6_56 (Rc.mk XX I (q0 := 0) (ci := 6) rfl rfl) rfl rfl (Nat.le_of_ble_eq_true rfl) ⟨rfl, rfl, Nat.le_of_ble_eq_true rfl, Nat.le_of_ble_eq_true rfl⟩ ⟨Nat.zero_le _, Nat.zero_le _⟩ dX6_readProposal_43 (fun H locs I => ?_)
      refine lv_aload_n hx hb dX6_readProposal_46 rfl (lv_at hl 1 rfl) ?_
      refine va_ldcS hx hb XX.o (E.2.2.2.1 9 (by decide)) dX6_readProposal_47 ?_
      obtain ⟨r12, q13, h⟩ := bd1_some h
      refine wcall_i (rest := []) XX I hl.1 (c_T_isName_worth l G OK adK adV hX ra ma fu s9 s6 r12 q13) kV_X6_73 (Rc.mk XX I (q0 := 0) (ci := 6) rfl rfl) rfl rfl (Nat.le_of_ble_eq_true rfl) ⟨rfl, rfl, Nat.le_of_ble_eq_true rfl, Nat.le_of_ble_eq_true rfl⟩ ⟨Nat.zero_le _, Nat.zero_le _⟩ dX6_readProposal_49 (fun H locs hz14 I => ?_)
      refine lv_if_eq (tgt := 65) hx hb dX6_readProposal_52 (by decide) (fun c1 => ?_) (fun c1 => ?_)
      · replace h := if_t h c1
        refine lv_aload_n hx hb dX6_readProposal_65 rfl (lv_at hl 1 rfl) ?_
        obtain ⟨r15, s16, q17, h⟩ := bd2_some h
        refine wcall_i (rest := []) XX I hl.1 (c_T_readEnd l G OK adK adV hX ra ma fu s9 s6 r15 s16 q17) kV_X6_93 (Rc.mk XX I (q0 := 0) (ci := 6) rfl rfl) rfl rfl (Nat.le_of_ble_eq_true rfl) ⟨rfl, rfl, Nat.le_of_ble_eq_true rfl, Nat.le_of_ble_eq_true rfl⟩ ⟨Nat.zero_le _, Nat.zero_le _⟩ dX6_readProposal_66 (fun H locs hz18 I => ?_)
        obtain ⟨rfl, h9⟩ := some2 h
        obtain ⟨rfl, rfl⟩ := pair2 h9
        exact e_z XX hr I hz18 rfl dX6_readProposal_69
      · replace h := if_f h c1
        refine lv_aload_n hx hb dX6_readProposal_55 rfl (lv_at hl 1 rfl) ?_
        refine lv_iload_n hx hb dX6_readProposal_56 rfl (lv_at hl 0 rfl) ?_
        obtain ⟨r19, s20, s21, q22, h⟩ := bd3_some h
        refine wcall_i (rest := []) XX I hl.1 (c_T_readWorths l G OK adK adV hX ra ma fu s9 s6 r5 r19 s20 s21 q22) kV_X6_122 (Rc.mk XX I (q0 := 0) (ci := 6) rfl rfl) rfl rfl (Nat.le_of_ble_eq_true rfl) ⟨rfl, rfl, Nat.le_of_ble_eq_true rfl, Nat.le_of_ble_eq_true rfl⟩ ⟨Nat.zero_le _, Nat.zero_le _⟩ dX6_readProposal_57 (fun H locs hz23 I => ?_)
        refine lv_if_ne (tgt := 65) hx hb dX6_readProposal_60 (by decide) (fun c1 => ?_) (fun c1 => ?_)
        · replace h := if_f h c1
          refine lv_aload_n hx hb dX6_readProposal_65 rfl (lv_at hl 1 rfl) ?_
          obtain ⟨r24, s25, q26, h⟩ := bd2_some h
          refine wcall_i (rest := []) XX I hl.1 (c_T_readEnd l G OK adK adV hX ra ma fu s20 s21 r24 s25 q26) kV_X6_93 (Rc.mk XX I (q0 := 0) (ci := 6) rfl rfl) rfl rfl (Nat.le_of_ble_eq_true rfl) ⟨rfl, rfl, Nat.le_of_ble_eq_true rfl, Nat.le_of_ble_eq_true rfl⟩ ⟨Nat.zero_le _, Nat.zero_le _⟩ dX6_readProposal_66 (fun H locs hz27 I => ?_)
          obtain ⟨rfl, h9⟩ := some2 h
          obtain ⟨rfl, rfl⟩ := pair2 h9
          exact e_z XX hr I hz27 rfl dX6_readProposal_69
        · replace h := if_t h c1
          refine lv_iconst (v := 0) hx hb dX6_readProposal_63 (by decide) ?_
          obtain ⟨rfl, h9⟩ := some2 h
          obtain ⟨rfl, rfl⟩ := pair2 h9
          exact e_z XX hr I rfl rfl dX6_readProposal_64
    · replace h := if_t h c1
      refine lv_iconst (v := 0) hx hb dX6_readProposal_28 (by decide) ?_
      obtain ⟨rfl, h9⟩ := some2 h
      obtain ⟨rfl, rfl⟩ := pair2 h9
      exact e_z XX hr I rfl rfl dX6_readProposal_29
  · replace h := if_f h c1
    refine lv_iconst (v := 0) hx hb dX6_readProposal_12 (by decide) ?_
    obtain ⟨rfl, h9⟩ := some2 h
    obtain ⟨rfl, rfl⟩ := pair2 h9
    exact e_z XX hr I rfl rfl dX6_readProposal_13
theorem gT_X6_o1_law {p : Program} {l : Launch} {e : Env} {R : Room} {s0 : State} {m : MethodId} {args : Array Value} {below : List Frame} {meth : Method} {c : Code} {H : Heap} {locs : List Loc} {cells slots : Nat} {Q : State → Prop} {cc : ByteArray} {nL pc : Nat} {ls : Array Slot} {rest : List Value} {G : g_G} {A : Nat → Prop} {ra : Nat → Nat} {ma : Nat → Nat} {rd : g_St} {md : g_St} (XX : Cx G A p s0 m meth c cc nL RX6 args) (I : Iv G A s0 H locs (bT G ra ma rd ++ (bV G ma md ++ []))) (hdg : decode cc pc = .ok (.getfield 90, 3)) (kk : W p l e R s0 m args below meth c H locs cells slots Q (F0 m (pc + 3) ls (.ref (ma 10) :: rest))) : W p l e R s0 m args below meth c H locs cells slots Q (F0 m pc ls (.ref (ma 0) :: rest)) := r_get kfX9 XX I 2 rfl 9 (Nat.le_of_ble_eq_true rfl) wd_66 rfl hdg kk
theorem aT_law1 {G : g_G} {ra : Nat → Nat} {ma : Nat → Nat} {rd : g_St} {md : g_St} : (bT G ra ma rd ++ (bV G ma md ++ []))[10]? = some (ma 10, .inl (G.2.1 0, 4, .inl (gr md 9))) := rfl
theorem sT_law1 {G : g_G} {ra : Nat → Nat} {ma : Nat → Nat} {rd : g_St} {md : g_St} {i : Int32} {x : Int32} : (bT G ra ma rd ++ (bV G ma md ++ [])).set 10 (ma 10, .inl (G.2.1 0, 4, .inl (upd (gr md 9) i.toNatClampNeg x))) = (bT G ra ma rd ++ (bV G ma (sr md 9 i x) ++ [])) := rfl
set_option maxHeartbeats 4000000 in
set_option maxRecDepth 100000 in
theorem c_T_readLaw (l : Launch) (G : g_G) (OK : EOk G.2.2) (adK adV : Nat → Nat) (hX : HX G adK adV) (ra : Nat → Nat) (ma : Nat → Nat) (fu : Nat) (rda : g_St) (mda : g_St) (x1 : Int32) (x2 : Int32) (x3 : Int32) (r : Int32) (trd : g_St) (tmd : g_St) (h : f_T_readLaw fu rda mda x1 x2 x3 = some (r, trd, tmd)) : HI l G yX6_readLaw (Cond.code yX6_readLaw cX6_readLaw 4 (some .boolean) :: gT) { frames := 3, cells := 0, slots := 0, locals := 62 } .boolean [.ref (ra 0), .int x1, .int x2, .int x3] (bT G ra ma rda ++ (bV G ma mda ++ [])) r (bT G ra ma trd ++ (bV G ma tmd ++ [])) := by
  refine HI.mk (lv := [(0, .ref (ra 0)), (1, .int x1), (2, .int x2), (3, .int x3)]) OK (by decide) (Nat.le_of_ble_eq_true rfl) rfl ?_
  intro p e s0 m args below meth c ls XX hr I hl
  have hx := XX.x
  have hb := XX.b
  have E := hX _ _ _ XX.E
  unfold f_T_readLaw at h
  refine lv_aload_n hx hb dX6_readLaw_0 rfl (lv_at hl 0 rfl) ?_
  obtain ⟨s1, q2, h⟩ := bd1_some h
  refine wcall_v (rest := []) XX I hl.1 (c_T_advance l G OK adK adV hX ra ma fu rda mda s1 q2) kV_X6_56 (Rc.mk XX I (q0 := 0) (ci := 6) rfl rfl) rfl rfl (Nat.le_of_ble_eq_true rfl) ⟨rfl, rfl, Nat.le_of_ble_eq_true rfl, Nat.le_of_ble_eq_true rfl⟩ ⟨Nat.zero_le _, Nat.zero_le _⟩ dX6_readLaw_1 (fun H locs I => ?_)
  refine lv_aload_n hx hb dX6_readLaw_4 rfl (lv_at hl 0 rfl) ?_
  refine lv_iload_n hx hb dX6_readLaw_5 rfl (lv_at hl 2 rfl) ?_
  refine lv_iload_n hx hb dX6_readLaw_6 rfl (lv_at hl 3 rfl) ?_
  refine wcall_i (rest := []) XX I hl.1 (c_T_isNumber l G OK adK adV hX ra ma s1 mda x2 x3 _ rfl) kV_X6_101 (Rc.mk XX I (q0 := 0) (ci := 6) rfl rfl) rfl rfl (Nat.le_of_ble_eq_true rfl) ⟨rfl, rfl, Nat.le_of_ble_eq_true rfl, Nat.le_of_ble_eq_true rfl⟩ ⟨Nat.zero_le _, Nat.zero_le _⟩ dX6_readLaw_7 (fun H locs hz4 I => ?_)
  refine lv_if_ne (tgt := 15) hx hb dX6_readLaw_10 (by decide) (fun c1 => ?_) (fun c1 => ?_)
  · replace h := if_f h c1
    refine lv_aload_n hx hb dX6_readLaw_15 rfl (lv_at hl 0 rfl) ?_
    refine gT_X6_o0_made XX I dX6_readLaw_16 ?_
    refine gT_X6_o1_law XX I dX6_readLaw_19 ?_
    refine lv_iload_n hx hb dX6_readLaw_22 rfl (lv_at hl 1 rfl) ?_
    refine lv_aload_n hx hb dX6_readLaw_23 rfl (lv_at hl 0 rfl) ?_
    refine gT_X6_o0_number XX I dX6_readLaw_24 ?_
    refine lv_topi (fun y5 ey5 => ?_)
    replace h := lt_e h ey5
    obtain ⟨g6, h⟩ := gd_some h
    refine r_iast XX I 10 (aT_law1) (sT_law1) g6 dX6_readLaw_27 (fun H locs I => ?_)
    obtain ⟨s7, es7⟩ : ∃ z, z = sr mda 9 x1 y5 := ⟨_, rfl⟩
    replace h := lt_e h es7
    replace I : Iv G (va_A (bT G ra ma rda ++ (bV G ma mda ++ [])) s0.heap.size) s0 H locs (bT G ra ma s1 ++ (bV G ma s7 ++ [])) := by rw [es7]; exact I
    refine lv_aload_n hx hb dX6_readLaw_28 rfl (lv_at hl 0 rfl) ?_
    obtain ⟨s8, q9, h⟩ := bd1_some h
    refine wcall_v (rest := []) XX I hl.1 (c_T_advance l G OK adK adV hX ra ma fu s1 s7 s8 q9) kV_X6_56 (Rc.mk XX I (q0 := 0) (ci := 6) rfl rfl) rfl rfl (Nat.le_of_ble_eq_true rfl) ⟨rfl, rfl, Nat.le_of_ble_eq_true rfl, Nat.le_of_ble_eq_true rfl⟩ ⟨Nat.zero_le _, Nat.zero_le _⟩ dX6_readLaw_29 (fun H locs I => ?_)
    refine lv_aload_n hx hb dX6_readLaw_32 rfl (lv_at hl 0 rfl) ?_
    obtain ⟨r11, s12, q13, h⟩ := bd2_some h
    refine wcall_i (rest := []) XX I hl.1 (c_T_readEnd l G OK adK adV hX ra ma fu s8 s7 r11 s12 q13) kV_X6_93 (Rc.mk XX I (q0 := 0) (ci := 6) rfl rfl) rfl rfl (Nat.le_of_ble_eq_true rfl) ⟨rfl, rfl, Nat.le_of_ble_eq_true rfl, Nat.le_of_ble_eq_true rfl⟩ ⟨Nat.zero_le _, Nat.zero_le _⟩ dX6_readLaw_33 (fun H locs hz14 I => ?_)
    obtain ⟨rfl, h9⟩ := some2 h
    obtain ⟨rfl, rfl⟩ := pair2 h9
    exact e_z XX hr I hz14 rfl dX6_readLaw_36
  · replace h := if_t h c1
    refine lv_iconst (v := 0) hx hb dX6_readLaw_13 (by decide) ?_
    obtain ⟨rfl, h9⟩ := some2 h
    obtain ⟨rfl, rfl⟩ := pair2 h9
    exact e_z XX hr I rfl rfl dX6_readLaw_14
theorem kV_X6_63 : KV RX6 63 RX6 yX6_kindNamed cX6_kindNamed 1 (some .int) 0 := KV.mk wd_375 wd_377 wd_1581 wd_4 wd_378 (by decide +kernel)
theorem kV_X6_82 : KV RX6 82 RX6 yX6_readLaw cX6_readLaw 4 (some .boolean) 3 := KV.mk wd_474 wd_476 wd_1589 wd_4 wd_477 (by decide +kernel)
theorem kV_X6_77 : KV RX6 77 RX6 yX6_readProposal cX6_readProposal 2 (some .boolean) 0 := KV.mk wd_460 wd_462 wd_1587 wd_4 wd_463 (by decide +kernel)
theorem kV_X6_67 : KV RX6 67 RX6 yX6_readPerson cX6_readPerson 5 (some .boolean) 1 := KV.mk wd_437 wd_439 wd_1583 wd_4 wd_440 (by decide +kernel)
set_option maxHeartbeats 4000000 in
set_option maxRecDepth 100000 in
theorem c_T_readStatement (l : Launch) (G : g_G) (OK : EOk G.2.2) (adK adV : Nat → Nat) (hX : HX G adK adV) (ra : Nat → Nat) (ma : Nat → Nat) (fu : Nat) (rda : g_St) (mda : g_St) (r : Int32) (trd : g_St) (tmd : g_St) (h : f_T_readStatement fu rda mda = some (r, trd, tmd)) : HI l G yX6_readStatement (Cond.code yX6_readStatement cX6_readStatement 2 (some .boolean) :: gT) { frames := 6, cells := 0, slots := 0, locals := 131 } .boolean [.ref (ra 0)] (bT G ra ma rda ++ (bV G ma mda ++ [])) r (bT G ra ma trd ++ (bV G ma tmd ++ [])) := by
  refine HI.mk (lv := [(0, .ref (ra 0))]) OK (by decide) (Nat.le_of_ble_eq_true rfl) rfl ?_
  intro p e s0 m args below meth c ls XX hr I hl
  have hx := XX.x
  have hb := XX.b
  have E := hX _ _ _ XX.E
  unfold f_T_readStatement at h
  refine lv_aload_n hx hb dX6_readStatement_0 rfl (lv_at hl 0 rfl) ?_
  obtain ⟨r1, q2, h⟩ := bd1_some h
  refine wcall_i (rest := []) XX I hl.1 (c_T_kindNamed l G OK adK adV hX ra ma fu rda mda r1 q2) kV_X6_63 (Rc.mk XX I (q0 := 0) (ci := 6) rfl rfl) rfl rfl (Nat.le_of_ble_eq_true rfl) ⟨rfl, rfl, Nat.le_of_ble_eq_true rfl, Nat.le_of_ble_eq_true rfl⟩ ⟨Nat.zero_le _, Nat.zero_le _⟩ dX6_readStatement_1 (fun H locs hz3 I => ?_)
  refine lv_istore_n (lv' := [(1, .int r1), (0, .ref (ra 0))]) hx hb dX6_readStatement_4 rfl hl (by decide) rfl (fun ls hl => ?_)
  refine lv_iload_n hx hb dX6_readStatement_5 rfl (lv_at hl 0 rfl) ?_
  refine lv_if_lt (tgt := 15) hx hb dX6_readStatement_6 (by decide) (fun c1 => ?_) (fun c1 => ?_)
  · replace h := if_t h c1
    refine lv_aload_n hx hb dX6_readStatement_15 rfl (lv_at hl 1 rfl) ?_
    refine va_ldcS hx hb XX.o (E.2.2.2.1 8 (by decide)) dX6_readStatement_16 ?_
    obtain ⟨r4, q5, h⟩ := bd1_some h
    refine wcall_i (rest := []) XX I hl.1 (c_T_isName_proposal l G OK adK adV hX ra ma fu rda mda r4 q5) kV_X6_73 (Rc.mk XX I (q0 := 0) (ci := 6) rfl rfl) rfl rfl (Nat.le_of_ble_eq_true rfl) ⟨rfl, rfl, Nat.le_of_ble_eq_true rfl, Nat.le_of_ble_eq_true rfl⟩ ⟨Nat.zero_le _, Nat.zero_le _⟩ dX6_readStatement_18 (fun H locs hz6 I => ?_)
    refine lv_if_eq (tgt := 29) hx hb dX6_readStatement_21 (by decide) (fun c1 => ?_) (fun c1 => ?_)
    · replace h := if_t h c1
      refine lv_aload_n hx hb dX6_readStatement_29 rfl (lv_at hl 1 rfl) ?_
      refine va_ldcS hx hb XX.o (E.2.2.2.1 10 (by decide)) dX6_readStatement_30 ?_
      obtain ⟨r7, q8, h⟩ := bd1_some h
      refine wcall_i (rest := []) XX I hl.1 (c_T_isName_need l G OK adK adV hX ra ma fu rda mda r7 q8) kV_X6_73 (Rc.mk XX I (q0 := 0) (ci := 6) rfl rfl) rfl rfl (Nat.le_of_ble_eq_true rfl) ⟨rfl, rfl, Nat.le_of_ble_eq_true rfl, Nat.le_of_ble_eq_true rfl⟩ ⟨Nat.zero_le _, Nat.zero_le _⟩ dX6_readStatement_32 (fun H locs hz9 I => ?_)
      refine lv_if_eq (tgt := 46) hx hb dX6_readStatement_35 (by decide) (fun c1 => ?_) (fun c1 => ?_)
      · replace h := if_t h c1
        refine lv_aload_n hx hb dX6_readStatement_46 rfl (lv_at hl 1 rfl) ?_
        refine va_ldcS hx hb XX.o (E.2.2.2.1 11 (by decide)) dX6_readStatement_47 ?_
        obtain ⟨r10, q11, h⟩ := bd1_some h
        refine wcall_i (rest := []) XX I hl.1 (c_T_isName_grow l G OK adK adV hX ra ma fu rda mda r10 q11) kV_X6_73 (Rc.mk XX I (q0 := 0) (ci := 6) rfl rfl) rfl rfl (Nat.le_of_ble_eq_true rfl) ⟨rfl, rfl, Nat.le_of_ble_eq_true rfl, Nat.le_of_ble_eq_true rfl⟩ ⟨Nat.zero_le _, Nat.zero_le _⟩ dX6_readStatement_49 (fun H locs hz12 I => ?_)
        refine lv_if_eq (tgt := 64) hx hb dX6_readStatement_52 (by decide) (fun c1 => ?_) (fun c1 => ?_)
        · replace h := if_t h c1
          refine lv_aload_n hx hb dX6_readStatement_64 rfl (lv_at hl 1 rfl) ?_
          refine va_ldcS hx hb XX.o (E.2.2.2.1 12 (by decide)) dX6_readStatement_65 ?_
          obtain ⟨r13, q14, h⟩ := bd1_some h
          refine wcall_i (rest := []) XX I hl.1 (c_T_isName_turn l G OK adK adV hX ra ma fu rda mda r13 q14) kV_X6_73 (Rc.mk XX I (q0 := 0) (ci := 6) rfl rfl) rfl rfl (Nat.le_of_ble_eq_true rfl) ⟨rfl, rfl, Nat.le_of_ble_eq_true rfl, Nat.le_of_ble_eq_true rfl⟩ ⟨Nat.zero_le _, Nat.zero_le _⟩ dX6_readStatement_67 (fun H locs hz15 I => ?_)
          refine lv_if_ne (tgt := 75) hx hb dX6_readStatement_70 (by decide) (fun c1 => ?_) (fun c1 => ?_)
          · replace h := if_f h c1
            refine lv_aload_n hx hb dX6_readStatement_75 rfl (lv_at hl 1 rfl) ?_
            refine gT_X6_o0_made XX I dX6_readStatement_76 ?_
            refine gT_X6_o1_law XX I dX6_readStatement_79 ?_
            refine lv_iconst (v := 1) hx hb dX6_readStatement_82 (by decide) ?_
            refine lv_iconst (v := 1) hx hb dX6_readStatement_83 (by decide) ?_
            refine r_iast XX I 10 (aT_law1) (sT_law1) (by unfold vp_in; decide) dX6_readStatement_84 (fun H locs I => ?_)
            obtain ⟨s16, es16⟩ : ∃ z, z = sr mda 9 (1 : Int32) (1 : Int32) := ⟨_, rfl⟩
            replace h := lt_e h es16
            replace I : Iv G (va_A (bT G ra ma rda ++ (bV G ma mda ++ [])) s0.heap.size) s0 H locs (bT G ra ma rda ++ (bV G ma s16 ++ [])) := by rw [es16]; exact I
            refine lv_aload_n hx hb dX6_readStatement_85 rfl (lv_at hl 1 rfl) ?_
            obtain ⟨s17, q18, h⟩ := bd1_some h
            refine wcall_v (rest := []) XX I hl.1 (c_T_advance l G OK adK adV hX ra ma fu rda s16 s17 q18) kV_X6_56 (Rc.mk XX I (q0 := 0) (ci := 6) rfl rfl) rfl rfl (Nat.le_of_ble_eq_true rfl) ⟨rfl, rfl, Nat.le_of_ble_eq_true rfl, Nat.le_of_ble_eq_true rfl⟩ ⟨Nat.zero_le _, Nat.zero_le _⟩ dX6_readStatement_86 (fun H locs I => ?_)
            refine lv_aload_n hx hb dX6_readStatement_89 rfl (lv_at hl 1 rfl) ?_
            obtain ⟨r20, s21, q22, h⟩ := bd2_some h
            refine wcall_i (rest := []) XX I hl.1 (c_T_readEnd l G OK adK adV hX ra ma fu s17 s16 r20 s21 q22) kV_X6_93 (Rc.mk XX I (q0 := 0) (ci := 6) rfl rfl) rfl rfl (Nat.le_of_ble_eq_true rfl) ⟨rfl, rfl, Nat.le_of_ble_eq_true rfl, Nat.le_of_ble_eq_true rfl⟩ ⟨Nat.zero_le _, Nat.zero_le _⟩ dX6_readStatement_90 (fun H locs hz23 I => ?_)
            obtain ⟨rfl, h9⟩ := some2 h
            obtain ⟨rfl, rfl⟩ := pair2 h9
            exact e_z XX hr I hz23 rfl dX6_readStatement_93
          · replace h := if_t h c1
            refine lv_iconst (v := 0) hx hb dX6_readStatement_73 (by decide) ?_
            obtain ⟨rfl, h9⟩ := some2 h
            obtain ⟨rfl, rfl⟩ := pair2 h9
            exact e_z XX hr I rfl rfl dX6_readStatement_74
        · replace h := if_f h c1
          refine lv_aload_n hx hb dX6_readStatement_55 rfl (lv_at hl 1 rfl) ?_
          refine lv_iconst (v := 2) hx hb dX6_readStatement_56 (by decide) ?_
          refine lv_iconst (v := 0) hx hb dX6_readStatement_57 (by decide) ?_
          refine lv_bipush (v := 20) hx hb dX6_readStatement_58 (by decide) ?_
          obtain ⟨r24, s25, s26, q27, h⟩ := bd3_some h
          refine wcall_i (rest := []) XX I hl.1 (c_T_readLaw l G OK adK adV hX ra ma fu rda mda (2 : Int32) (0 : Int32) (20 : Int32) r24 s25 s26 q27) kV_X6_82 (Rc.mk XX I (q0 := 0) (ci := 6) rfl rfl) rfl rfl (Nat.le_of_ble_eq_true rfl) ⟨rfl, rfl, Nat.le_of_ble_eq_true rfl, Nat.le_of_ble_eq_true rfl⟩ ⟨Nat.zero_le _, Nat.zero_le _⟩ dX6_readStatement_60 (fun H locs hz28 I => ?_)
          obtain ⟨rfl, h9⟩ := some2 h
          obtain ⟨rfl, rfl⟩ := pair2 h9
          exact e_z XX hr I hz28 rfl dX6_readStatement_63
      · replace h := if_f h c1
        refine lv_aload_n hx hb dX6_readStatement_38 rfl (lv_at hl 1 rfl) ?_
        refine lv_iconst (v := 0) hx hb dX6_readStatement_39 (by decide) ?_
        refine lv_iconst (v := 1) hx hb dX6_readStatement_40 (by decide) ?_
        refine lv_iconst (v := 3) hx hb dX6_readStatement_41 (by decide) ?_
        obtain ⟨r29, s30, s31, q32, h⟩ := bd3_some h
        refine wcall_i (rest := []) XX I hl.1 (c_T_readLaw l G OK adK adV hX ra ma fu rda mda (0 : Int32) (1 : Int32) (3 : Int32) r29 s30 s31 q32) kV_X6_82 (Rc.mk XX I (q0 := 0) (ci := 6) rfl rfl) rfl rfl (Nat.le_of_ble_eq_true rfl) ⟨rfl, rfl, Nat.le_of_ble_eq_true rfl, Nat.le_of_ble_eq_true rfl⟩ ⟨Nat.zero_le _, Nat.zero_le _⟩ dX6_readStatement_42 (fun H locs hz33 I => ?_)
        obtain ⟨rfl, h9⟩ := some2 h
        obtain ⟨rfl, rfl⟩ := pair2 h9
        exact e_z XX hr I hz33 rfl dX6_readStatement_45
    · replace h := if_f h c1
      refine lv_aload_n hx hb dX6_readStatement_24 rfl (lv_at hl 1 rfl) ?_
      obtain ⟨r34, s35, s36, q37, h⟩ := bd3_some h
      refine wcall_i (rest := []) XX I hl.1 (c_T_readProposal l G OK adK adV hX ra ma fu rda mda r34 s35 s36 q37) kV_X6_77 (Rc.mk XX I (q0 := 0) (ci := 6) rfl rfl) rfl rfl (Nat.le_of_ble_eq_true rfl) ⟨rfl, rfl, Nat.le_of_ble_eq_true rfl, Nat.le_of_ble_eq_true rfl⟩ ⟨Nat.zero_le _, Nat.zero_le _⟩ dX6_readStatement_25 (fun H locs hz38 I => ?_)
      obtain ⟨rfl, h9⟩ := some2 h
      obtain ⟨rfl, rfl⟩ := pair2 h9
      exact e_z XX hr I hz38 rfl dX6_readStatement_28
  · replace h := if_f h c1
    refine lv_aload_n hx hb dX6_readStatement_9 rfl (lv_at hl 1 rfl) ?_
    refine lv_iload_n hx hb dX6_readStatement_10 rfl (lv_at hl 0 rfl) ?_
    obtain ⟨r39, s40, s41, q42, h⟩ := bd3_some h
    refine wcall_i (rest := []) XX I hl.1 (c_T_readPerson l G OK adK adV hX ra ma fu rda mda r1 r39 s40 s41 q42) kV_X6_67 (Rc.mk XX I (q0 := 0) (ci := 6) rfl rfl) rfl rfl (Nat.le_of_ble_eq_true rfl) ⟨rfl, rfl, Nat.le_of_ble_eq_true rfl, Nat.le_of_ble_eq_true rfl⟩ ⟨Nat.zero_le _, Nat.zero_le _⟩ dX6_readStatement_11 (fun H locs hz43 I => ?_)
    obtain ⟨rfl, h9⟩ := some2 h
    obtain ⟨rfl, rfl⟩ := pair2 h9
    exact e_z XX hr I hz43 rfl dX6_readStatement_14
theorem kV_X6_53 : KV RX6 53 RX9 yX9_empty cX9_empty 1 none 0 := KV.mk wd_358 wd_359 wd_360 wd_2 wd_361 (by decide +kernel)
theorem kV_X6_59 : KV RX6 59 RX6 yX6_readStatement cX6_readStatement 2 (some .boolean) 0 := KV.mk wd_371 wd_373 wd_1580 wd_4 wd_374 (by decide +kernel)
theorem pTP_X6_o0_length {p : Program} {l : Launch} {e : Env} {R : Room} {s0 : State} {m : MethodId} {args : Array Value} {below : List Frame} {meth : Method} {c : Code} {H : Heap} {locs : List Loc} {cells slots : Nat} {Q : State → Prop} {cc : ByteArray} {nL pc : Nat} {ls : Array Slot} {rest : List Value} {G : g_G} {A : Nat → Prop} {ra : Nat → Nat} {ma : Nat → Nat} {pa : Nat → Nat} {rd : g_St} {md : g_St} {tp : g_St} {val : Int32} (XX : Cx G A p s0 m meth c cc nL RX6 args) (I : Iv G A s0 H locs (bT G ra ma rd ++ (bV G ma md ++ (bP G pa tp ++ [])))) (hdg : decode cc pc = .ok (.putfield 22, 3)) (kk : ∀ (H1 : Heap) (locs1 : List Loc), Iv G A s0 H1 locs1 (bT G ra ma (si rd 2 val) ++ (bV G ma md ++ (bP G pa tp ++ []))) → W p l e R s0 m args below meth c H1 locs1 cells slots Q (F0 m (pc + 3) ls rest)) : W p l e R s0 m args below meth c H locs cells slots Q (F0 m pc ls (.int val :: .ref (ra 0) :: rest)) := r_put kfX6 XX I 0 rfl 2 (Nat.le_of_ble_eq_true rfl) wd_133 rfl (vp_nar_int val) rfl (Nat.le_of_ble_eq_true rfl) rfl hdg kk
theorem gTP_X6_o0_bytes {p : Program} {l : Launch} {e : Env} {R : Room} {s0 : State} {m : MethodId} {args : Array Value} {below : List Frame} {meth : Method} {c : Code} {H : Heap} {locs : List Loc} {cells slots : Nat} {Q : State → Prop} {cc : ByteArray} {nL pc : Nat} {ls : Array Slot} {rest : List Value} {G : g_G} {A : Nat → Prop} {ra : Nat → Nat} {ma : Nat → Nat} {pa : Nat → Nat} {rd : g_St} {md : g_St} {tp : g_St} (XX : Cx G A p s0 m meth c cc nL RX6 args) (I : Iv G A s0 H locs (bT G ra ma rd ++ (bV G ma md ++ (bP G pa tp ++ [])))) (hdg : decode cc pc = .ok (.getfield 18, 3)) (kk : W p l e R s0 m args below meth c H locs cells slots Q (F0 m (pc + 3) ls (.ref (ra 2) :: rest))) : W p l e R s0 m args below meth c H locs cells slots Q (F0 m pc ls (.ref (ra 0) :: rest)) := r_get kfX6 XX I 0 rfl 1 (Nat.le_of_ble_eq_true rfl) wd_132 rfl hdg kk
theorem gTP_X6_o0_length {p : Program} {l : Launch} {e : Env} {R : Room} {s0 : State} {m : MethodId} {args : Array Value} {below : List Frame} {meth : Method} {c : Code} {H : Heap} {locs : List Loc} {cells slots : Nat} {Q : State → Prop} {cc : ByteArray} {nL pc : Nat} {ls : Array Slot} {rest : List Value} {G : g_G} {A : Nat → Prop} {ra : Nat → Nat} {ma : Nat → Nat} {pa : Nat → Nat} {rd : g_St} {md : g_St} {tp : g_St} (XX : Cx G A p s0 m meth c cc nL RX6 args) (I : Iv G A s0 H locs (bT G ra ma rd ++ (bV G ma md ++ (bP G pa tp ++ [])))) (hdg : decode cc pc = .ok (.getfield 22, 3)) (kk : W p l e R s0 m args below meth c H locs cells slots Q (F0 m (pc + 3) ls (.int (gi rd 2) :: rest))) : W p l e R s0 m args below meth c H locs cells slots Q (F0 m pc ls (.ref (ra 0) :: rest)) := r_get kfX6 XX I 0 rfl 2 (Nat.le_of_ble_eq_true rfl) wd_133 rfl hdg kk
theorem aTP_tape2 {G : g_G} {ra : Nat → Nat} {ma : Nat → Nat} {pa : Nat → Nat} {rd : g_St} {md : g_St} {tp : g_St} : (bT G ra ma rd ++ (bV G ma md ++ (bP G pa tp ++ [])))[19]? = some (pa 0, .inl (G.2.1 0, 240, .inl (gr tp 0))) := rfl
theorem sTP_tape2 {G : g_G} {ra : Nat → Nat} {ma : Nat → Nat} {pa : Nat → Nat} {rd : g_St} {md : g_St} {tp : g_St} {i : Int32} {x : Int32} : (bT G ra ma rd ++ (bV G ma md ++ (bP G pa tp ++ []))).set 19 (pa 0, .inl (G.2.1 0, 240, .inl (upd (gr tp 0) i.toNatClampNeg x))) = (bT G ra ma rd ++ (bV G ma md ++ (bP G pa (sr tp 0 i x) ++ []))) := rfl
theorem aTP_bytes0 {G : g_G} {ra : Nat → Nat} {ma : Nat → Nat} {pa : Nat → Nat} {rd : g_St} {md : g_St} {tp : g_St} : (bT G ra ma rd ++ (bV G ma md ++ (bP G pa tp ++ [])))[1]? = some (ra 2, .inl (G.2.1 0, 240, .inl (gr rd 1))) := rfl
theorem sTP_bytes0 {G : g_G} {ra : Nat → Nat} {ma : Nat → Nat} {pa : Nat → Nat} {rd : g_St} {md : g_St} {tp : g_St} {i : Int32} {x : Int32} : (bT G ra ma rd ++ (bV G ma md ++ (bP G pa tp ++ []))).set 1 (ra 2, .inl (G.2.1 0, 240, .inl (upd (gr rd 1) i.toNatClampNeg x))) = (bT G ra ma (sr rd 1 i x) ++ (bV G ma md ++ (bP G pa tp ++ []))) := rfl
theorem pTP_X6_o0_at {p : Program} {l : Launch} {e : Env} {R : Room} {s0 : State} {m : MethodId} {args : Array Value} {below : List Frame} {meth : Method} {c : Code} {H : Heap} {locs : List Loc} {cells slots : Nat} {Q : State → Prop} {cc : ByteArray} {nL pc : Nat} {ls : Array Slot} {rest : List Value} {G : g_G} {A : Nat → Prop} {ra : Nat → Nat} {ma : Nat → Nat} {pa : Nat → Nat} {rd : g_St} {md : g_St} {tp : g_St} {val : Int32} (XX : Cx G A p s0 m meth c cc nL RX6 args) (I : Iv G A s0 H locs (bT G ra ma rd ++ (bV G ma md ++ (bP G pa tp ++ [])))) (hdg : decode cc pc = .ok (.putfield 26, 3)) (kk : ∀ (H1 : Heap) (locs1 : List Loc), Iv G A s0 H1 locs1 (bT G ra ma (si rd 3 val) ++ (bV G ma md ++ (bP G pa tp ++ []))) → W p l e R s0 m args below meth c H1 locs1 cells slots Q (F0 m (pc + 3) ls rest)) : W p l e R s0 m args below meth c H locs cells slots Q (F0 m pc ls (.int val :: .ref (ra 0) :: rest)) := r_put kfX6 XX I 0 rfl 3 (Nat.le_of_ble_eq_true rfl) wd_134 rfl (vp_nar_int val) rfl (Nat.le_of_ble_eq_true rfl) rfl hdg kk
theorem gTP_X6_o0_made {p : Program} {l : Launch} {e : Env} {R : Room} {s0 : State} {m : MethodId} {args : Array Value} {below : List Frame} {meth : Method} {c : Code} {H : Heap} {locs : List Loc} {cells slots : Nat} {Q : State → Prop} {cc : ByteArray} {nL pc : Nat} {ls : Array Slot} {rest : List Value} {G : g_G} {A : Nat → Prop} {ra : Nat → Nat} {ma : Nat → Nat} {pa : Nat → Nat} {rd : g_St} {md : g_St} {tp : g_St} (XX : Cx G A p s0 m meth c cc nL RX6 args) (I : Iv G A s0 H locs (bT G ra ma rd ++ (bV G ma md ++ (bP G pa tp ++ [])))) (hdg : decode cc pc = .ok (.getfield 12, 3)) (kk : W p l e R s0 m args below meth c H locs cells slots Q (F0 m (pc + 3) ls (.ref (ma 0) :: rest))) : W p l e R s0 m args below meth c H locs cells slots Q (F0 m pc ls (.ref (ra 0) :: rest)) := r_get kfX6 XX I 0 rfl 0 (Nat.le_of_ble_eq_true rfl) wd_130 rfl hdg kk
theorem gTP_X6_o0_token {p : Program} {l : Launch} {e : Env} {R : Room} {s0 : State} {m : MethodId} {args : Array Value} {below : List Frame} {meth : Method} {c : Code} {H : Heap} {locs : List Loc} {cells slots : Nat} {Q : State → Prop} {cc : ByteArray} {nL pc : Nat} {ls : Array Slot} {rest : List Value} {G : g_G} {A : Nat → Prop} {ra : Nat → Nat} {ma : Nat → Nat} {pa : Nat → Nat} {rd : g_St} {md : g_St} {tp : g_St} (XX : Cx G A p s0 m meth c cc nL RX6 args) (I : Iv G A s0 H locs (bT G ra ma rd ++ (bV G ma md ++ (bP G pa tp ++ [])))) (hdg : decode cc pc = .ok (.getfield 29, 3)) (kk : W p l e R s0 m args below meth c H locs cells slots Q (F0 m (pc + 3) ls (.int (gi rd 4) :: rest))) : W p l e R s0 m args below meth c H locs cells slots Q (F0 m pc ls (.ref (ra 0) :: rest)) := r_get kfX6 XX I 0 rfl 4 (Nat.le_of_ble_eq_true rfl) wd_135 rfl hdg kk
set_option maxHeartbeats 4000000 in
set_option maxRecDepth 100000 in
theorem c_TP_readText (l : Launch) (G : g_G) (OK : EOk G.2.2) (adK adV : Nat → Nat) (hX : HX G adK adV) (ra : Nat → Nat) (ma : Nat → Nat) (pa : Nat → Nat) (fu : Nat) (rda : g_St) (mda : g_St) (tpa : g_St) (x2 : Int32) (r : Int32) (trd : g_St) (tmd : g_St) (h : f_TP_readText fu rda mda tpa x2 = some (r, trd, tmd)) : HI l G yX6_readText (Cond.code yX6_readText cX6_readText 4 (some .boolean) :: gT) { frames := 7, cells := 0, slots := 0, locals := 152 } .boolean [.ref (ra 0), .ref (pa 0), .int x2] (bT G ra ma rda ++ (bV G ma mda ++ (bP G pa tpa ++ []))) r (bT G ra ma trd ++ (bV G ma tmd ++ (bP G pa tpa ++ []))) := by
  refine HI.mk (lv := [(0, .ref (ra 0)), (1, .ref (pa 0)), (2, .int x2)]) OK (by decide) (Nat.le_of_ble_eq_true rfl) rfl ?_
  intro p e s0 m args below meth c ls XX hr I hl
  have hx := XX.x
  have hb := XX.b
  have E := hX _ _ _ XX.E
  have C52 : ∀ n : Nat, ∀ (rd : g_St) (md : g_St) (v3 : Int32), f_TP_readText_L52 fu n rd md tpa v3 = some (r, trd, tmd) → ∀ (H : Heap) (locs : List Loc), Iv G (va_A (bT G ra ma rda ++ (bV G ma mda ++ (bP G pa tpa ++ []))) s0.heap.size) s0 H locs (bT G ra ma rd ++ (bV G ma md ++ (bP G pa tpa ++ []))) → ∀ ls, lv_has ls 4 [(0, .ref (ra 0)), (1, .ref (pa 0)), (3, .int v3)] → W p l e { frames := 7, cells := 0, slots := 0, locals := 152 } s0 m args below meth c H locs 0 0 (QI G below .boolean r (bT G ra ma rda ++ (bV G ma mda ++ (bP G pa tpa ++ []))) (bT G ra ma trd ++ (bV G ma tmd ++ (bP G pa tpa ++ []))) args s0) (F0 m 52 ls []) := by
    intro n
    induction n with
    | zero => intro rd md v3 h; exact absurd h (fun q => by cases q)
    | succ n ih =>
      intro rd md v3 h H locs I ls hl
      rw [f_TP_readText_L52] at h
      refine lv_iload_n hx hb dX6_readText_52 rfl (lv_at hl 2 rfl) ?_
      refine lv_aload_n hx hb dX6_readText_53 rfl (lv_at hl 0 rfl) ?_
      refine gTP_X6_o0_length XX I dX6_readText_54 ?_
      refine lv_icmp_gt (tgt := 82) hx hb dX6_readText_57 (by decide) (fun c1 => ?_) (fun c1 => ?_)
      · replace h := if_t h c1
        refine lv_iconst (v := 1) hx hb dX6_readText_82 (by decide) ?_
        obtain ⟨rfl, h9⟩ := some2 h
        obtain ⟨rfl, rfl⟩ := pair2 h9
        exact e_z XX hr I rfl rfl dX6_readText_83
      · replace h := if_f h c1
        refine lv_aload_n hx hb dX6_readText_60 rfl (lv_at hl 0 rfl) ?_
        refine gTP_X6_o0_token XX I dX6_readText_61 ?_
        refine lv_if_eq (tgt := 82) hx hb dX6_readText_64 (by decide) (fun c1 => ?_) (fun c1 => ?_)
        · replace h := if_t h c1
          refine lv_iconst (v := 1) hx hb dX6_readText_82 (by decide) ?_
          obtain ⟨rfl, h9⟩ := some2 h
          obtain ⟨rfl, rfl⟩ := pair2 h9
          exact e_z XX hr I rfl rfl dX6_readText_83
        · replace h := if_f h c1
          refine lv_aload_n hx hb dX6_readText_67 rfl (lv_at hl 0 rfl) ?_
          obtain ⟨r11, s12, s13, q14, h⟩ := bd3_some h
          have RC := (Rc.mk XX I (q0 := 0) (ci := 6) rfl rfl)
          replace I : Iv G (va_A (bT G ra ma rda ++ (bV G ma mda ++ (bP G pa tpa ++ []))) s0.heap.size) s0 _ _ (((bT G ra ma rd ++ (bV G ma md ++ []))) ++ (bP G pa tpa ++ [])) := I.perm pasc2
          refine call_i (X := []) (wc := ((bT G ra ma rd ++ (bV G ma md ++ [])))) (Y := (bP G pa tpa ++ [])) (rest := []) XX I hl.1 (c_T_readStatement l G OK adK adV hX ra ma fu rd md r11 s12 s13 q14) kV_X6_59 RC rfl rfl (Nat.le_of_ble_eq_true rfl) ⟨rfl, rfl, Nat.le_of_ble_eq_true rfl, Nat.le_of_ble_eq_true rfl⟩ ⟨Nat.zero_le _, Nat.zero_le _⟩ dX6_readText_68 (fun H locs hz15 I => ?_)
          replace I : Iv G (va_A (bT G ra ma rda ++ (bV G ma mda ++ (bP G pa tpa ++ []))) s0.heap.size) s0 H locs (bT G ra ma s12 ++ (bV G ma s13 ++ (bP G pa tpa ++ []))) := Iv.perm (w := ((bT G ra ma s12 ++ (bV G ma s13 ++ []))) ++ (bP G pa tpa ++ [])) I (pasc2.symm)
          refine lv_if_ne (tgt := 76) hx hb dX6_readText_71 (by decide) (fun c1 => ?_) (fun c1 => ?_)
          · replace h := if_f h c1
            obtain ⟨y16, ey16⟩ : ∃ z : Int32, z = v3 + (1 : Int32) := ⟨_, rfl⟩
            replace h := lt_e h ey16
            refine lv_iinc (v := y16) (lv' := [(3, .int y16), (0, .ref (ra 0)), (1, .ref (pa 0))]) hx hb dX6_readText_76 hl (k := 2) rfl (by rw [ey16]; rfl) (by decide) rfl (fun ls hl => ?_)
            refine lv_goto (tgt := 52) hx hb dX6_readText_79 (by decide) ?_
            exact ih _ _ _ h _ _ I ls (lv_sub hl [1, 2, 0] rfl)
          · replace h := if_t h c1
            refine lv_iconst (v := 0) hx hb dX6_readText_74 (by decide) ?_
            obtain ⟨rfl, h9⟩ := some2 h
            obtain ⟨rfl, rfl⟩ := pair2 h9
            exact e_z XX hr I rfl rfl dX6_readText_75
  unfold f_TP_readText at h
  refine lv_aload_n hx hb dX6_readText_0 rfl (lv_at hl 0 rfl) ?_
  refine lv_iconst (v := 0) hx hb dX6_readText_1 (by decide) ?_
  refine lv_iload_n hx hb dX6_readText_2 rfl (lv_at hl 2 rfl) ?_
  refine lv_sipush (v := 240) hx hb dX6_readText_3 (by decide) ?_
  refine r_min XX hl.1 wd_349 (Nat.le_of_ble_eq_true rfl) (Nat.le_of_ble_eq_true rfl) (Nat.zero_le _) (Nat.zero_le _) dX6_readText_6 ?_
  refine r_max XX hl.1 wd_352 (Nat.le_of_ble_eq_true rfl) (Nat.le_of_ble_eq_true rfl) (Nat.zero_le _) (Nat.zero_le _) dX6_readText_9 ?_
  refine lv_topi (fun y1 ey1 => ?_)
  replace h := lt_e h ey1
  refine pTP_X6_o0_length XX I dX6_readText_12 (fun H locs I => ?_)
  obtain ⟨s2, es2⟩ : ∃ z, z = si rda 2 y1 := ⟨_, rfl⟩
  replace h := lt_e h es2
  replace I : Iv G (va_A (bT G ra ma rda ++ (bV G ma mda ++ (bP G pa tpa ++ []))) s0.heap.size) s0 H locs (bT G ra ma s2 ++ (bV G ma mda ++ (bP G pa tpa ++ []))) := by rw [es2]; exact I
  refine lv_aload_n hx hb dX6_readText_15 rfl (lv_at hl 1 rfl) ?_
  refine lv_iconst (v := 0) hx hb dX6_readText_16 (by decide) ?_
  refine lv_aload_n hx hb dX6_readText_17 rfl (lv_at hl 0 rfl) ?_
  refine gTP_X6_o0_bytes XX I dX6_readText_18 ?_
  refine lv_iconst (v := 0) hx hb dX6_readText_21 (by decide) ?_
  refine lv_aload_n hx hb dX6_readText_22 rfl (lv_at hl 0 rfl) ?_
  refine gTP_X6_o0_length XX I dX6_readText_23 ?_
  refine lv_aload_n hx hb dX6_readText_26 rfl (lv_at hl 1 rfl) ?_
  refine r_alen (v := 240) XX I 19 0 rfl rfl rfl dX6_readText_27 ?_
  refine r_min XX hl.1 wd_349 (Nat.le_of_ble_eq_true rfl) (Nat.le_of_ble_eq_true rfl) (Nat.zero_le _) (Nat.zero_le _) dX6_readText_28 ?_
  obtain ⟨g3, h⟩ := gd_some h
  refine r_copy (w1 := (bT G ra ma (sra s2 1 (va_cpy (gr tpa 0) (gr s2 1) (0 : Int32).toNatClampNeg (0 : Int32).toNatClampNeg (if (240 : Int32) < (gi s2 2) then (240 : Int32) else (gi s2 2)).toNatClampNeg)) ++ (bV G ma mda ++ (bP G pa tpa ++ [])))) XX I hl.1 wd_355 19 1 (aTP_tape2) (aTP_bytes0) g3 rfl (Nat.le_of_ble_eq_true rfl) (Nat.le_of_ble_eq_true rfl) dX6_readText_31 (fun H locs I => ?_)
  obtain ⟨s4, es4⟩ : ∃ z, z = sra s2 1 (va_cpy (gr tpa 0) (gr s2 1) (0 : Int32).toNatClampNeg (0 : Int32).toNatClampNeg (if (240 : Int32) < (gi s2 2) then (240 : Int32) else (gi s2 2)).toNatClampNeg) := ⟨_, rfl⟩
  replace h := lt_e h es4
  replace I : Iv G (va_A (bT G ra ma rda ++ (bV G ma mda ++ (bP G pa tpa ++ []))) s0.heap.size) s0 H locs (bT G ra ma s4 ++ (bV G ma mda ++ (bP G pa tpa ++ []))) := by rw [es4]; exact I
  refine lv_aload_n hx hb dX6_readText_34 rfl (lv_at hl 0 rfl) ?_
  refine lv_iconst (v := 0) hx hb dX6_readText_35 (by decide) ?_
  refine pTP_X6_o0_at XX I dX6_readText_36 (fun H locs I => ?_)
  obtain ⟨s5, es5⟩ : ∃ z, z = si s4 3 (0 : Int32) := ⟨_, rfl⟩
  replace h := lt_e h es5
  replace I : Iv G (va_A (bT G ra ma rda ++ (bV G ma mda ++ (bP G pa tpa ++ []))) s0.heap.size) s0 H locs (bT G ra ma s5 ++ (bV G ma mda ++ (bP G pa tpa ++ []))) := by rw [es5]; exact I
  refine lv_aload_n hx hb dX6_readText_39 rfl (lv_at hl 0 rfl) ?_
  refine gTP_X6_o0_made XX I dX6_readText_40 ?_
  obtain ⟨q6, eq6⟩ : ∃ z, z = f_V_empty mda := ⟨_, rfl⟩
  replace h := lt_e h eq6
  have RC := (Rc.mk XX I (q0 := 2) (ci := 9) rfl rfl)
  replace I : Iv G (va_A (bT G ra ma rda ++ (bV G ma mda ++ (bP G pa tpa ++ []))) s0.heap.size) s0 _ _ ((bV G ma mda) ++ (bT G ra ma s5 ++ (bP G pa tpa ++ []))) := I.perm ((List.Perm.append_left _ (List.Perm.refl _)).trans (List.perm_append_comm_assoc _ _ _))
  refine call_v (X := []) (wc := (bV G ma mda)) (Y := (bT G ra ma s5 ++ (bP G pa tpa ++ []))) (rest := []) XX I hl.1 (c_V_empty l G OK ma mda q6 eq6.symm) kV_X6_53 RC rfl rfl (Nat.le_of_ble_eq_true rfl) ⟨rfl, rfl, Nat.le_of_ble_eq_true rfl, Nat.le_of_ble_eq_true rfl⟩ ⟨Nat.zero_le _, Nat.zero_le _⟩ dX6_readText_43 (fun H locs I => ?_)
  replace I : Iv G (va_A (bT G ra ma rda ++ (bV G ma mda ++ (bP G pa tpa ++ []))) s0.heap.size) s0 H locs (bT G ra ma s5 ++ (bV G ma q6 ++ (bP G pa tpa ++ []))) := Iv.perm (w := (bV G ma q6) ++ (bT G ra ma s5 ++ (bP G pa tpa ++ []))) I (((List.Perm.append_left _ (List.Perm.refl _)).trans (List.perm_append_comm_assoc _ _ _)).symm)
  refine lv_aload_n hx hb dX6_readText_46 rfl (lv_at hl 0 rfl) ?_
  obtain ⟨s8, q9, h⟩ := bd1_some h
  have RC := (Rc.mk XX I (q0 := 0) (ci := 6) rfl rfl)
  replace I : Iv G (va_A (bT G ra ma rda ++ (bV G ma mda ++ (bP G pa tpa ++ []))) s0.heap.size) s0 _ _ (((bT G ra ma s5 ++ (bV G ma q6 ++ []))) ++ (bP G pa tpa ++ [])) := I.perm pasc2
  refine call_v (X := []) (wc := ((bT G ra ma s5 ++ (bV G ma q6 ++ [])))) (Y := (bP G pa tpa ++ [])) (rest := []) XX I hl.1 (c_T_advance l G OK adK adV hX ra ma fu s5 q6 s8 q9) kV_X6_56 RC rfl rfl (Nat.le_of_ble_eq_true rfl) ⟨rfl, rfl, Nat.le_of_ble_eq_true rfl, Nat.le_of_ble_eq_true rfl⟩ ⟨Nat.zero_le _, Nat.zero_le _⟩ dX6_readText_47 (fun H locs I => ?_)
  replace I : Iv G (va_A (bT G ra ma rda ++ (bV G ma mda ++ (bP G pa tpa ++ []))) s0.heap.size) s0 H locs (bT G ra ma s8 ++ (bV G ma q6 ++ (bP G pa tpa ++ []))) := Iv.perm (w := ((bT G ra ma s8 ++ (bV G ma q6 ++ []))) ++ (bP G pa tpa ++ [])) I (pasc2.symm)
  refine lv_iconst (v := 0) hx hb dX6_readText_50 (by decide) ?_
  refine lv_istore_n (lv' := [(3, .int (0 : Int32)), (0, .ref (ra 0)), (1, .ref (pa 0)), (2, .int x2)]) hx hb dX6_readText_51 rfl hl (by decide) rfl (fun ls hl => ?_)
  exact C52 fu _ _ _ h _ _ I ls (lv_sub hl [1, 2, 0] rfl)
