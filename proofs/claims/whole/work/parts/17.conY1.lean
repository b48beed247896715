theorem pH_X5_fo0_sort {p : Program} {l : Launch} {e : Env} {R : Room} {s0 : State} {m : MethodId} {args : Array Value} {below : List Frame} {meth : Method} {c : Code} {H : Heap} {locs : List Loc} {cells slots : Nat} {Q : State → Prop} {cc : ByteArray} {nL pc : Nat} {ls : Array Slot} {rest : List Value} {G : g_G} {A : Nat → Prop} {sd : Nat → Nat → Nat} {hh : g_Sf} {q : Nat} {val : Int32} (hq : q < 4) (XX : Cx G A p s0 m meth c cc nL RX5 args) (I : Iv G A s0 H locs (bH G sd hh)) (hdg : decode cc pc = .ok (.putfield 9, 3)) (kk : ∀ (H1 : Heap) (locs1 : List Loc), Iv G A s0 H1 locs1 (bH G sd (ups hh q (si (hh q) 0 val))) → W p l e R s0 m args below meth c H1 locs1 cells slots Q (F0 m (pc + 3) ls rest)) : W p l e R s0 m args below meth c H locs cells slots Q (F0 m pc ls (.int val :: .ref (sd q 0) :: rest)) := r_put (fs := [.int (gi (hh q) 0), .int (gi (hh q) 1), .ref (sd q 2)]) kfX5 XX I (0 + 2 * q) (by rcases (show q = 0 ∨ q = 1 ∨ q = 2 ∨ q = 3 by omega) with rfl | rfl | rfl | rfl <;> rfl) 0 (Nat.le_of_ble_eq_true rfl) wd_164 rfl (vp_nar_int val) rfl (Nat.le_of_ble_eq_true rfl) (by rcases (show q = 0 ∨ q = 1 ∨ q = 2 ∨ q = 3 by omega) with rfl | rfl | rfl | rfl <;> rfl) hdg kk
theorem pH_X5_fo0_length {p : Program} {l : Launch} {e : Env} {R : Room} {s0 : State} {m : MethodId} {args : Array Value} {below : List Frame} {meth : Method} {c : Code} {H : Heap} {locs : List Loc} {cells slots : Nat} {Q : State → Prop} {cc : ByteArray} {nL pc : Nat} {ls : Array Slot} {rest : List Value} {G : g_G} {A : Nat → Prop} {sd : Nat → Nat → Nat} {hh : g_Sf} {q : Nat} {val : Int32} (hq : q < 4) (XX : Cx G A p s0 m meth c cc nL RX5 args) (I : Iv G A s0 H locs (bH G sd hh)) (hdg : decode cc pc = .ok (.putfield 15, 3)) (kk : ∀ (H1 : Heap) (locs1 : List Loc), Iv G A s0 H1 locs1 (bH G sd (ups hh q (si (hh q) 1 val))) → W p l e R s0 m args below meth c H1 locs1 cells slots Q (F0 m (pc + 3) ls rest)) : W p l e R s0 m args below meth c H locs cells slots Q (F0 m pc ls (.int val :: .ref (sd q 0) :: rest)) := r_put (fs := [.int (gi (hh q) 0), .int (gi (hh q) 1), .ref (sd q 2)]) kfX5 XX I (0 + 2 * q) (by rcases (show q = 0 ∨ q = 1 ∨ q = 2 ∨ q = 3 by omega) with rfl | rfl | rfl | rfl <;> rfl) 1 (Nat.le_of_ble_eq_true rfl) wd_166 rfl (vp_nar_int val) rfl (Nat.le_of_ble_eq_true rfl) (by rcases (show q = 0 ∨ q = 1 ∨ q = 2 ∨ q = 3 by omega) with rfl | rfl | rfl | rfl <;> rfl) hdg kk
theorem gH_X5_fo0_items {p : Program} {l : Launch} {e : Env} {R : Room} {s0 : State} {m : MethodId} {args : Array Value} {below : List Frame} {meth : Method} {c : Code} {H : Heap} {locs : List Loc} {cells slots : Nat} {Q : State → Prop} {cc : ByteArray} {nL pc : Nat} {ls : Array Slot} {rest : List Value} {G : g_G} {A : Nat → Prop} {sd : Nat → Nat → Nat} {hh : g_Sf} {q : Nat} (hq : q < 4) (XX : Cx G A p s0 m meth c cc nL RX5 args) (I : Iv G A s0 H locs (bH G sd hh)) (hdg : decode cc pc = .ok (.getfield 18, 3)) (kk : W p l e R s0 m args below meth c H locs cells slots Q (F0 m (pc + 3) ls (.ref (sd q 2) :: rest))) : W p l e R s0 m args below meth c H locs cells slots Q (F0 m pc ls (.ref (sd q 0) :: rest)) := r_get (fs := [.int (gi (hh q) 0), .int (gi (hh q) 1), .ref (sd q 2)]) kfX5 XX I (0 + 2 * q) (by rcases (show q = 0 ∨ q = 1 ∨ q = 2 ∨ q = 3 by omega) with rfl | rfl | rfl | rfl <;> rfl) 2 (Nat.le_of_ble_eq_true rfl) wd_168 rfl hdg kk
theorem aH_fitems0 {G : g_G} {sd : Nat → Nat → Nat} {hh : g_Sf} {q : Nat} (hq : q < 4) : (bH G sd hh)[1 + 2 * q]? = some (sd q 2, .inl (G.2.1 0, 40, .inl (gr (hh q) 2))) := by rcases (show q = 0 ∨ q = 1 ∨ q = 2 ∨ q = 3 by omega) with rfl | rfl | rfl | rfl <;> rfl
theorem sH_fitems0 {G : g_G} {sd : Nat → Nat → Nat} {hh : g_Sf} {q : Nat} (hq : q < 4) {i x : Int32} : (bH G sd hh).set (1 + 2 * q) (sd q 2, .inl (G.2.1 0, 40, .inl (upd (gr (hh q) 2) i.toNatClampNeg x))) = (bH G sd (ups hh q (sr (hh q) 2 i x))) := by rcases (show q = 0 ∨ q = 1 ∨ q = 2 ∨ q = 3 by omega) with rfl | rfl | rfl | rfl <;> rfl
set_option maxHeartbeats 4000000 in
set_option maxRecDepth 100000 in
theorem c_H_become (l : Launch) (G : g_G) (OK : EOk G.2.2) (sd : Nat → Nat → Nat) (q : Nat) (hq : q < 4) (fu : Nat) (hha : g_Sf) (x1 : Int32) (x2 : Int32) (thh : g_Sf) (h : f_H_become fu q hha x1 x2 = some thh) : HV l G yX5_become (Cond.code yX5_become cX5_become 4 none :: gT) { frames := 0, cells := 0, slots := 0, locals := 0 } [.ref (sd q 0), .int x1, .int x2] (bH G sd hha) (bH G sd thh) := by
  refine HV.mk (lv := [(0, .ref (sd q 0)), (1, .int x1), (2, .int x2)]) OK (by decide) (Nat.le_of_ble_eq_true rfl) rfl ?_
  intro p e s0 m args below meth c ls XX hr I hl
  have hx := XX.x
  have hb := XX.b
  have C12 : ∀ n : Nat, ∀ (hh : g_Sf) (w0 : Nat) (v3 : Int32), f_H_become_L12 fu q n hh w0 v3 = some thh → ∀ (H : Heap) (locs : List Loc), Iv G (va_A (bH G sd hha) s0.heap.size) s0 H locs (bH G sd hh) → ∀ ls, lv_has ls 4 [(0, .ref (sd w0 0)), (3, .int v3)] → w0 < 4 → W p l e { frames := 0, cells := 0, slots := 0, locals := 0 } s0 m args below meth c H locs 0 0 (QV G below (bH G sd hha) (bH G sd thh) args s0) (F0 m 12 ls []) := by
    intro n
    induction n with
    | zero => intro hh w0 v3 h; exact absurd h (fun q => by cases q)
    | succ n ih =>
      intro hh w0 v3 h H locs I ls hl hw0
      rw [f_H_become_L12] at h
      refine lv_iload_n hx hb dX5_become_12 rfl (lv_at hl 1 rfl) ?_
      refine lv_bipush (v := 40) hx hb dX5_become_13 (by decide) ?_
      refine lv_icmp_ge (tgt := 31) hx hb dX5_become_15 (by decide) (fun c1 => ?_) (fun c1 => ?_)
      · replace h := if_t h c1
        obtain rfl := some1 h
        exact e_v XX hr I dX5_become_31
      · replace h := if_f h c1
        refine lv_aload_n hx hb dX5_become_18 rfl (lv_at hl 0 rfl) ?_
        refine gH_X5_fo0_items hw0 XX I dX5_become_19 ?_
        refine lv_iload_n hx hb dX5_become_22 rfl (lv_at hl 1 rfl) ?_
        refine lv_iconst (v := 0) hx hb dX5_become_23 (by decide) ?_
        obtain ⟨g3, h⟩ := gd_some h
        refine r_iast XX I (1 + 2 * w0) (aH_fitems0 hw0) (sH_fitems0 hw0) g3 dX5_become_24 (fun H locs I => ?_)
        obtain ⟨s4, es4⟩ : ∃ z, z = ups hh w0 (sr (hh w0) 2 v3 (0 : Int32)) := ⟨_, rfl⟩
        replace h := lt_e h es4
        replace I : Iv G (va_A (bH G sd hha) s0.heap.size) s0 H locs (bH G sd s4) := by rw [es4]; exact I
        obtain ⟨y5, ey5⟩ : ∃ z : Int32, z = v3 + (1 : Int32) := ⟨_, rfl⟩
        replace h := lt_e h ey5
        refine lv_iinc (v := y5) (lv' := [(3, .int y5), (0, .ref (sd w0 0))]) hx hb dX5_become_25 hl (k := 1) rfl (by rw [ey5]; rfl) (by decide) rfl (fun ls hl => ?_)
        refine lv_goto (tgt := 12) hx hb dX5_become_28 (by decide) ?_
        exact ih _ _ _ h _ _ I ls (lv_sub hl [1, 0] rfl) (hw0)
  unfold f_H_become at h
  refine lv_aload_n hx hb dX5_become_0 rfl (lv_at hl 0 rfl) ?_
  refine lv_iload_n hx hb dX5_become_1 rfl (lv_at hl 1 rfl) ?_
  refine pH_X5_fo0_sort hq XX I dX5_become_2 (fun H locs I => ?_)
  obtain ⟨s1, es1⟩ : ∃ z, z = ups hha q (si (hha q) 0 x1) := ⟨_, rfl⟩
  replace h := lt_e h es1
  replace I : Iv G (va_A (bH G sd hha) s0.heap.size) s0 H locs (bH G sd s1) := by rw [es1]; exact I
  refine lv_aload_n hx hb dX5_become_5 rfl (lv_at hl 0 rfl) ?_
  refine lv_iload_n hx hb dX5_become_6 rfl (lv_at hl 2 rfl) ?_
  refine pH_X5_fo0_length hq XX I dX5_become_7 (fun H locs I => ?_)
  obtain ⟨s2, es2⟩ : ∃ z, z = ups s1 q (si (s1 q) 1 x2) := ⟨_, rfl⟩
  replace h := lt_e h es2
  replace I : Iv G (va_A (bH G sd hha) s0.heap.size) s0 H locs (bH G sd s2) := by rw [es2]; exact I
  refine lv_iconst (v := 0) hx hb dX5_become_10 (by decide) ?_
  refine lv_istore_n (lv' := [(3, .int (0 : Int32)), (0, .ref (sd q 0)), (1, .int x1), (2, .int x2)]) hx hb dX5_become_11 rfl hl (by decide) rfl (fun ls hl => ?_)
  exact C12 fu _ _ _ h _ _ I ls (lv_sub hl [1, 0] rfl) (hq)
theorem pK_X8_o0_count {p : Program} {l : Launch} {e : Env} {R : Room} {s0 : State} {m : MethodId} {args : Array Value} {below : List Frame} {meth : Method} {c : Code} {H : Heap} {locs : List Loc} {cells slots : Nat} {Q : State → Prop} {cc : ByteArray} {nL pc : Nat} {ls : Array Slot} {rest : List Value} {G : g_G} {A : Nat → Prop} {td : Nat → Nat} {tr : g_St} {val : Int32} (XX : Cx G A p s0 m meth c cc nL RX8 args) (I : Iv G A s0 H locs (bK G td tr)) (hdg : decode cc pc = .ok (.putfield 15, 3)) (kk : ∀ (H1 : Heap) (locs1 : List Loc), Iv G A s0 H1 locs1 (bK G td (si tr 1 val)) → W p l e R s0 m args below meth c H1 locs1 cells slots Q (F0 m (pc + 3) ls rest)) : W p l e R s0 m args below meth c H locs cells slots Q (F0 m pc ls (.int val :: .ref (td 0) :: rest)) := r_put kfX8 XX I 0 rfl 1 (Nat.le_of_ble_eq_true rfl) wd_185 rfl (vp_nar_int val) rfl (Nat.le_of_ble_eq_true rfl) rfl hdg kk
theorem pK_X8_o0_parted {p : Program} {l : Launch} {e : Env} {R : Room} {s0 : State} {m : MethodId} {args : Array Value} {below : List Frame} {meth : Method} {c : Code} {H : Heap} {locs : List Loc} {cells slots : Nat} {Q : State → Prop} {cc : ByteArray} {nL pc : Nat} {ls : Array Slot} {rest : List Value} {G : g_G} {A : Nat → Prop} {td : Nat → Nat} {tr : g_St} {val : Int32} (XX : Cx G A p s0 m meth c cc nL RX8 args) (I : Iv G A s0 H locs (bK G td tr)) (hz : narrow .boolean (.int val) = .int val) (hdg : decode cc pc = .ok (.putfield 19, 3)) (kk : ∀ (H1 : Heap) (locs1 : List Loc), Iv G A s0 H1 locs1 (bK G td (si tr 2 val)) → W p l e R s0 m args below meth c H1 locs1 cells slots Q (F0 m (pc + 3) ls rest)) : W p l e R s0 m args below meth c H locs cells slots Q (F0 m pc ls (.int val :: .ref (td 0) :: rest)) := r_put kfX8 XX I 0 rfl 2 (Nat.le_of_ble_eq_true rfl) wd_187 rfl hz (fits_z hz) (Nat.le_of_ble_eq_true rfl) rfl hdg kk
set_option maxHeartbeats 4000000 in
set_option maxRecDepth 100000 in
theorem c_K_clear (l : Launch) (G : g_G) (OK : EOk G.2.2) (td : Nat → Nat) (tra : g_St) (ttr : g_St) (h : f_K_clear tra = ttr) : HV l G yX8_clear (Cond.code yX8_clear cX8_clear 1 none :: gT) { frames := 0, cells := 0, slots := 0, locals := 0 } [.ref (td 0)] (bK G td tra) (bK G td ttr) := by
  refine HV.mk (lv := [(0, .ref (td 0))]) OK (by decide) (Nat.le_of_ble_eq_true rfl) rfl ?_
  intro p e s0 m args below meth c ls XX hr I hl
  have hx := XX.x
  have hb := XX.b
  unfold f_K_clear at h
  refine lv_aload_n hx hb dX8_clear_0 rfl (lv_at hl 0 rfl) ?_
  refine lv_iconst (v := 0) hx hb dX8_clear_1 (by decide) ?_
  refine pK_X8_o0_count XX I dX8_clear_2 (fun H locs I => ?_)
  obtain ⟨s1, es1⟩ : ∃ z, z = si tra 1 (0 : Int32) := ⟨_, rfl⟩
  replace h := lt_e h es1
  replace I : Iv G (va_A (bK G td tra) s0.heap.size) s0 H locs (bK G td s1) := by rw [es1]; exact I
  refine lv_aload_n hx hb dX8_clear_5 rfl (lv_at hl 0 rfl) ?_
  refine lv_iconst (v := 0) hx hb dX8_clear_6 (by decide) ?_
  refine pK_X8_o0_parted XX I (rfl) dX8_clear_7 (fun H locs I => ?_)
  obtain ⟨s2, es2⟩ : ∃ z, z = si s1 2 (0 : Int32) := ⟨_, rfl⟩
  replace h := lt_e h es2
  replace I : Iv G (va_A (bK G td tra) s0.heap.size) s0 H locs (bK G td s2) := by rw [es2]; exact I
  subst h
  exact e_v XX hr I dX8_clear_10
theorem gK_X8_o0_count {p : Program} {l : Launch} {e : Env} {R : Room} {s0 : State} {m : MethodId} {args : Array Value} {below : List Frame} {meth : Method} {c : Code} {H : Heap} {locs : List Loc} {cells slots : Nat} {Q : State → Prop} {cc : ByteArray} {nL pc : Nat} {ls : Array Slot} {rest : List Value} {G : g_G} {A : Nat → Prop} {td : Nat → Nat} {tr : g_St} (XX : Cx G A p s0 m meth c cc nL RX8 args) (I : Iv G A s0 H locs (bK G td tr)) (hdg : decode cc pc = .ok (.getfield 15, 3)) (kk : W p l e R s0 m args below meth c H locs cells slots Q (F0 m (pc + 3) ls (.int (gi tr 1) :: rest))) : W p l e R s0 m args below meth c H locs cells slots Q (F0 m pc ls (.ref (td 0) :: rest)) := r_get kfX8 XX I 0 rfl 1 (Nat.le_of_ble_eq_true rfl) wd_185 rfl hdg kk
theorem gK_X8_o0_numbers {p : Program} {l : Launch} {e : Env} {R : Room} {s0 : State} {m : MethodId} {args : Array Value} {below : List Frame} {meth : Method} {c : Code} {H : Heap} {locs : List Loc} {cells slots : Nat} {Q : State → Prop} {cc : ByteArray} {nL pc : Nat} {ls : Array Slot} {rest : List Value} {G : g_G} {A : Nat → Prop} {td : Nat → Nat} {tr : g_St} (XX : Cx G A p s0 m meth c cc nL RX8 args) (I : Iv G A s0 H locs (bK G td tr)) (hdg : decode cc pc = .ok (.getfield 9, 3)) (kk : W p l e R s0 m args below meth c H locs cells slots Q (F0 m (pc + 3) ls (.ref (td 2) :: rest))) : W p l e R s0 m args below meth c H locs cells slots Q (F0 m pc ls (.ref (td 0) :: rest)) := r_get kfX8 XX I 0 rfl 0 (Nat.le_of_ble_eq_true rfl) wd_183 rfl hdg kk
theorem aK_numbers0 {G : g_G} {td : Nat → Nat} {tr : g_St} : (bK G td tr)[1]? = some (td 2, .inl (G.2.1 0, 30, .inl (gr tr 0))) := rfl
theorem sK_numbers0 {G : g_G} {td : Nat → Nat} {tr : g_St} {i : Int32} {x : Int32} : (bK G td tr).set 1 (td 2, .inl (G.2.1 0, 30, .inl (upd (gr tr 0) i.toNatClampNeg x))) = (bK G td (sr tr 0 i x)) := rfl
set_option maxHeartbeats 4000000 in
set_option maxRecDepth 100000 in
theorem c_K_begin (l : Launch) (G : g_G) (OK : EOk G.2.2) (td : Nat → Nat) (tra : g_St) (x1 : Int32) (ttr : g_St) (h : f_K_begin tra x1 = some ttr) : HV l G yX8_begin (Cond.code yX8_begin cX8_begin 2 none :: gT) { frames := 0, cells := 0, slots := 0, locals := 0 } [.ref (td 0), .int x1] (bK G td tra) (bK G td ttr) := by
  refine HV.mk (lv := [(0, .ref (td 0)), (1, .int x1)]) OK (by decide) (Nat.le_of_ble_eq_true rfl) rfl ?_
  intro p e s0 m args below meth c ls XX hr I hl
  have hx := XX.x
  have hb := XX.b
  unfold f_K_begin at h
  refine lv_aload_n hx hb dX8_begin_0 rfl (lv_at hl 0 rfl) ?_
  refine gK_X8_o0_count XX I dX8_begin_1 ?_
  refine lv_bipush (v := 30) hx hb dX8_begin_4 (by decide) ?_
  refine lv_icmp_ge (tgt := 29) hx hb dX8_begin_6 (by decide) (fun c1 => ?_) (fun c1 => ?_)
  · replace h := if_t h c1
    obtain rfl := some1 h
    exact e_v XX hr I dX8_begin_29
  · replace h := if_f h c1
    refine lv_aload_n hx hb dX8_begin_9 rfl (lv_at hl 0 rfl) ?_
    refine gK_X8_o0_numbers XX I dX8_begin_10 ?_
    refine lv_aload_n hx hb dX8_begin_13 rfl (lv_at hl 0 rfl) ?_
    refine gK_X8_o0_count XX I dX8_begin_14 ?_
    refine lv_iload_n hx hb dX8_begin_17 rfl (lv_at hl 1 rfl) ?_
    obtain ⟨g1, h⟩ := gd_some h
    refine r_iast XX I 1 (aK_numbers0) (sK_numbers0) g1 dX8_begin_18 (fun H locs I => ?_)
    obtain ⟨s2, es2⟩ : ∃ z, z = sr tra 0 (gi tra 1) x1 := ⟨_, rfl⟩
    replace h := lt_e h es2
    replace I : Iv G (va_A (bK G td tra) s0.heap.size) s0 H locs (bK G td s2) := by rw [es2]; exact I
    refine lv_aload_n hx hb dX8_begin_19 rfl (lv_at hl 0 rfl) ?_
    refine lv_dup hx hb dX8_begin_20 rfl ?_
    refine gK_X8_o0_count XX I dX8_begin_21 ?_
    refine lv_iconst (v := 1) hx hb dX8_begin_24 (by decide) ?_
    refine lv_iadd hx hb dX8_begin_25 ?_
    refine lv_topi (fun y3 ey3 => ?_)
    replace h := lt_e h ey3
    refine pK_X8_o0_count XX I dX8_begin_26 (fun H locs I => ?_)
    obtain ⟨s4, es4⟩ : ∃ z, z = si s2 1 y3 := ⟨_, rfl⟩
    replace h := lt_e h es4
    replace I : Iv G (va_A (bK G td tra) s0.heap.size) s0 H locs (bK G td s4) := by rw [es4]; exact I
    obtain rfl := some1 h
    exact e_v XX hr I dX8_begin_29
theorem kV_X4_20 : KV RX4 20 RX8 yX8_begin cX8_begin 2 none 1 := KV.mk wd_872 wd_853 wd_854 wd_6 wd_855 (by decide +kernel)
theorem gY_X4_y00_trace {p : Program} {l : Launch} {e : Env} {R : Room} {s0 : State} {m : MethodId} {args : Array Value} {below : List Frame} {meth : Method} {c : Code} {H : Heap} {locs : List Loc} {cells slots : Nat} {Q : State → Prop} {cc : ByteArray} {nL pc : Nat} {ls : Array Slot} {rest : List Value} {G : g_G} {A : Nat → Prop} {yd : Nat → Nat} {td : Nat → Nat} {th : g_St} {tr : g_St} (XX : Cx G A p s0 m meth c cc nL RX4 args) (I : Iv G A s0 H locs (bY G yd td th ++ (bK G td tr ++ []))) (hdg : decode cc pc = .ok (.getfield 16, 3)) (kk : W p l e R s0 m args below meth c H locs cells slots Q (F0 m (pc + 3) ls (.ref (td 0) :: rest))) : W p l e R s0 m args below meth c H locs cells slots Q (F0 m pc ls (.ref (yd 0) :: rest)) := r_get kfX4 XX I 0 rfl 0 (Nat.le_of_ble_eq_true rfl) wd_203 rfl hdg kk
theorem gY_X4_y00_n {p : Program} {l : Launch} {e : Env} {R : Room} {s0 : State} {m : MethodId} {args : Array Value} {below : List Frame} {meth : Method} {c : Code} {H : Heap} {locs : List Loc} {cells slots : Nat} {Q : State → Prop} {cc : ByteArray} {nL pc : Nat} {ls : Array Slot} {rest : List Value} {G : g_G} {A : Nat → Prop} {yd : Nat → Nat} {td : Nat → Nat} {th : g_St} {tr : g_St} (XX : Cx G A p s0 m meth c cc nL RX4 args) (I : Iv G A s0 H locs (bY G yd td th ++ (bK G td tr ++ []))) (hdg : decode cc pc = .ok (.getfield 7, 3)) (kk : W p l e R s0 m args below meth c H locs cells slots Q (F0 m (pc + 3) ls (.int (gi th 0) :: rest))) : W p l e R s0 m args below meth c H locs cells slots Q (F0 m pc ls (.ref (yd 0) :: rest)) := r_get kfX4 XX I 0 rfl 1 (Nat.le_of_ble_eq_true rfl) wd_214 rfl hdg kk
set_option maxHeartbeats 4000000 in
set_option maxRecDepth 100000 in
theorem c_Y0_Sayer_bars (l : Launch) (G : g_G) (OK : EOk G.2.2) (yd : Nat → Nat) (td : Nat → Nat) (tha : g_St) (tra : g_St) (x1 : Int32) (r : Int32) (ttr : g_St) (h : f_Y0_Sayer_bars tha tra x1 = some (r, ttr)) : HI l G yX4_bars (Cond.code yX4_bars cX4_bars 2 (some .int) :: gT) { frames := 1, cells := 0, slots := 0, locals := 21 } .int [.ref (yd 0), .int x1] (bY G yd td tha ++ (bK G td tra ++ [])) r (bY G yd td tha ++ (bK G td ttr ++ [])) := by
  refine HI.mk (lv := [(0, .ref (yd 0)), (1, .int x1)]) OK (by decide) (Nat.le_of_ble_eq_true rfl) rfl ?_
  intro p e s0 m args below meth c ls XX hr I hl
  have hx := XX.x
  have hb := XX.b
  unfold f_Y0_Sayer_bars at h
  refine lv_aload_n hx hb dX4_bars_0 rfl (lv_at hl 0 rfl) ?_
  refine gY_X4_y00_trace XX I dX4_bars_1 ?_
  refine lv_bipush (v := 10) hx hb dX4_bars_4 (by decide) ?_
  obtain ⟨s1, q2, h⟩ := bd1_some h
  have RC := (Rc.mk XX I (q0 := 6) (ci := 8) rfl rfl)
  replace I : Iv G (va_A (bY G yd td tha ++ (bK G td tra ++ [])) s0.heap.size) s0 _ _ ((bK G td tra) ++ (bY G yd td tha ++ [])) := I.perm ((List.Perm.append_left _ (List.Perm.refl _)).trans (List.perm_append_comm_assoc _ _ _))
  refine call_v (X := []) (wc := (bK G td tra)) (Y := (bY G yd td tha ++ [])) (rest := []) XX I hl.1 (c_K_begin l G OK td tra (10 : Int32) s1 q2) kV_X4_20 RC rfl rfl (Nat.le_of_ble_eq_true rfl) ⟨rfl, rfl, Nat.le_of_ble_eq_true rfl, Nat.le_of_ble_eq_true rfl⟩ ⟨Nat.zero_le _, Nat.zero_le _⟩ dX4_bars_6 (fun H locs I => ?_)
  replace I : Iv G (va_A (bY G yd td tha ++ (bK G td tra ++ [])) s0.heap.size) s0 H locs (bY G yd td tha ++ (bK G td s1 ++ [])) := Iv.perm (w := (bK G td s1) ++ (bY G yd td tha ++ [])) I (((List.Perm.append_left _ (List.Perm.refl _)).trans (List.perm_append_comm_assoc _ _ _)).symm)
  refine lv_iload_n hx hb dX4_bars_9 rfl (lv_at hl 1 rfl) ?_
  refine lv_aload_n hx hb dX4_bars_10 rfl (lv_at hl 0 rfl) ?_
  refine gY_X4_y00_n XX I dX4_bars_11 ?_
  refine lv_iadd hx hb dX4_bars_14 ?_
  obtain ⟨rfl, rfl⟩ := some2 h
  exact e_i rfl XX hr I rfl dX4_bars_15
theorem kU_X4_26_X4 : KU RX4 26 RX4 RX4 ⟨"LifeNoes$Sayer", "bars", "(I)I"⟩ yX4_bars cX4_bars 2 (some .int) 1 := KU.mkU wd_893 wd_848 wd_847 wd_846 wd_7 wd_871 rfl (by decide +kernel)
set_option maxHeartbeats 4000000 in
set_option maxRecDepth 100000 in
theorem c_Y0_Sayer_waits (l : Launch) (G : g_G) (OK : EOk G.2.2) (yd : Nat → Nat) (td : Nat → Nat) (tha : g_St) (tra : g_St) (x1 : Int32) (r : Int32) (ttr : g_St) (h : f_Y0_Sayer_waits tha tra x1 = some (r, ttr)) : HI l G yX4_waits (Cond.code yX4_waits cX4_waits 2 (some .int) :: gT) { frames := 2, cells := 0, slots := 0, locals := 42 } .int [.ref (yd 0), .int x1] (bY G yd td tha ++ (bK G td tra ++ [])) r (bY G yd td tha ++ (bK G td ttr ++ [])) := by
  refine HI.mk (lv := [(0, .ref (yd 0)), (1, .int x1)]) OK (by decide) (Nat.le_of_ble_eq_true rfl) rfl ?_
  intro p e s0 m args below meth c ls XX hr I hl
  have hx := XX.x
  have hb := XX.b
  unfold f_Y0_Sayer_waits at h
  refine lv_aload_n hx hb dX4_waits_0 rfl (lv_at hl 0 rfl) ?_
  refine gY_X4_y00_trace XX I dX4_waits_1 ?_
  refine lv_bipush (v := 11) hx hb dX4_waits_4 (by decide) ?_
  obtain ⟨s1, q2, h⟩ := bd1_some h
  have RC := (Rc.mk XX I (q0 := 6) (ci := 8) rfl rfl)
  replace I : Iv G (va_A (bY G yd td tha ++ (bK G td tra ++ [])) s0.heap.size) s0 _ _ ((bK G td tra) ++ (bY G yd td tha ++ [])) := I.perm ((List.Perm.append_left _ (List.Perm.refl _)).trans (List.perm_append_comm_assoc _ _ _))
  refine call_v (X := []) (wc := (bK G td tra)) (Y := (bY G yd td tha ++ [])) (rest := []) XX I hl.1 (c_K_begin l G OK td tra (11 : Int32) s1 q2) kV_X4_20 RC rfl rfl (Nat.le_of_ble_eq_true rfl) ⟨rfl, rfl, Nat.le_of_ble_eq_true rfl, Nat.le_of_ble_eq_true rfl⟩ ⟨Nat.zero_le _, Nat.zero_le _⟩ dX4_waits_6 (fun H locs I => ?_)
  replace I : Iv G (va_A (bY G yd td tha ++ (bK G td tra ++ [])) s0.heap.size) s0 H locs (bY G yd td tha ++ (bK G td s1 ++ [])) := Iv.perm (w := (bK G td s1) ++ (bY G yd td tha ++ [])) I (((List.Perm.append_left _ (List.Perm.refl _)).trans (List.perm_append_comm_assoc _ _ _)).symm)
  refine lv_aload_n hx hb dX4_waits_9 rfl (lv_at hl 0 rfl) ?_
  refine lv_iload_n hx hb dX4_waits_10 rfl (lv_at hl 1 rfl) ?_
  obtain ⟨r4, s5, q6, h⟩ := bd2_some h
  have RC := (Rc.mk XX I (q0 := 0) (ci := 4) rfl rfl)
  replace I : Iv G (va_A (bY G yd td tha ++ (bK G td tra ++ [])) s0.heap.size) s0 _ _ (((bY G yd td tha ++ (bK G td s1 ++ []))) ++ []) := I.perm pasc2
  refine ucall_i (X := []) (wc := (bY G yd td tha ++ (bK G td s1 ++ []))) (Y := []) (rest := []) XX I hl.1 (c_Y0_Sayer_bars l G OK yd td tha s1 x1 r4 s5 q6) kU_X4_26_X4 RC rfl rfl (Nat.le_of_ble_eq_true rfl) ⟨rfl, rfl, Nat.le_of_ble_eq_true rfl, Nat.le_of_ble_eq_true rfl⟩ ⟨Nat.zero_le _, Nat.zero_le _⟩ dX4_waits_11 (fun H locs hz7 I => ?_)
  replace I : Iv G (va_A (bY G yd td tha ++ (bK G td tra ++ [])) s0.heap.size) s0 H locs (bY G yd td tha ++ (bK G td s5 ++ [])) := Iv.perm (w := ((bY G yd td tha ++ (bK G td s5 ++ []))) ++ []) I (pasc2.symm)
  refine lv_iconst (v := 2) hx hb dX4_waits_14 (by decide) ?_
  refine lv_imul hx hb dX4_waits_15 ?_
  obtain ⟨rfl, rfl⟩ := some2 h
  exact e_i rfl XX hr I rfl dX4_waits_16
theorem gY_X4_y00_a {p : Program} {l : Launch} {e : Env} {R : Room} {s0 : State} {m : MethodId} {args : Array Value} {below : List Frame} {meth : Method} {c : Code} {H : Heap} {locs : List Loc} {cells slots : Nat} {Q : State → Prop} {cc : ByteArray} {nL pc : Nat} {ls : Array Slot} {rest : List Value} {G : g_G} {A : Nat → Prop} {yd : Nat → Nat} {td : Nat → Nat} {th : g_St} {tr : g_St} (XX : Cx G A p s0 m meth c cc nL RX4 args) (I : Iv G A s0 H locs (bY G yd td th ++ (bK G td tr ++ []))) (hdg : decode cc pc = .ok (.getfield 13, 3)) (kk : W p l e R s0 m args below meth c H locs cells slots Q (F0 m (pc + 3) ls (.int (gi th 10) :: rest))) : W p l e R s0 m args below meth c H locs cells slots Q (F0 m pc ls (.ref (yd 0) :: rest)) := r_get kfX4 XX I 0 rfl 2 (Nat.le_of_ble_eq_true rfl) wd_222 rfl hdg kk
theorem pY_X4_o1_parted {p : Program} {l : Launch} {e : Env} {R : Room} {s0 : State} {m : MethodId} {args : Array Value} {below : List Frame} {meth : Method} {c : Code} {H : Heap} {locs : List Loc} {cells slots : Nat} {Q : State → Prop} {cc : ByteArray} {nL pc : Nat} {ls : Array Slot} {rest : List Value} {G : g_G} {A : Nat → Prop} {yd : Nat → Nat} {td : Nat → Nat} {th : g_St} {tr : g_St} {val : Int32} (XX : Cx G A p s0 m meth c cc nL RX4 args) (I : Iv G A s0 H locs (bY G yd td th ++ (bK G td tr ++ []))) (hz : narrow .boolean (.int val) = .int val) (hdg : decode cc pc = .ok (.putfield 30, 3)) (kk : ∀ (H1 : Heap) (locs1 : List Loc), Iv G A s0 H1 locs1 (bY G yd td th ++ (bK G td (si tr 2 val) ++ [])) → W p l e R s0 m args below meth c H1 locs1 cells slots Q (F0 m (pc + 3) ls rest)) : W p l e R s0 m args below meth c H locs cells slots Q (F0 m pc ls (.int val :: .ref (td 0) :: rest)) := r_put kfX8 XX I 6 rfl 2 (Nat.le_of_ble_eq_true rfl) wd_189 rfl hz (fits_z hz) (Nat.le_of_ble_eq_true rfl) rfl hdg kk
set_option maxHeartbeats 4000000 in
set_option maxRecDepth 100000 in
theorem c_Y0_Sayer_shares (l : Launch) (G : g_G) (OK : EOk G.2.2) (yd : Nat → Nat) (td : Nat → Nat) (tha : g_St) (tra : g_St) (x1 : Int32) (r : Int32) (ttr : g_St) (h : f_Y0_Sayer_shares tha tra x1 = some (r, ttr)) : HI l G yX4_shares (Cond.code yX4_shares cX4_shares 2 (some .int) :: gT) { frames := 1, cells := 0, slots := 0, locals := 21 } .int [.ref (yd 0), .int x1] (bY G yd td tha ++ (bK G td tra ++ [])) r (bY G yd td tha ++ (bK G td ttr ++ [])) := by
  refine HI.mk (lv := [(0, .ref (yd 0)), (1, .int x1)]) OK (by decide) (Nat.le_of_ble_eq_true rfl) rfl ?_
  intro p e s0 m args below meth c ls XX hr I hl
  have hx := XX.x
  have hb := XX.b
  unfold f_Y0_Sayer_shares at h
  refine lv_aload_n hx hb dX4_shares_0 rfl (lv_at hl 0 rfl) ?_
  refine gY_X4_y00_trace XX I dX4_shares_1 ?_
  refine lv_bipush (v := 12) hx hb dX4_shares_4 (by decide) ?_
  obtain ⟨s1, q2, h⟩ := bd1_some h
  have RC := (Rc.mk XX I (q0 := 6) (ci := 8) rfl rfl)
  replace I : Iv G (va_A (bY G yd td tha ++ (bK G td tra ++ [])) s0.heap.size) s0 _ _ ((bK G td tra) ++ (bY G yd td tha ++ [])) := I.perm ((List.Perm.append_left _ (List.Perm.refl _)).trans (List.perm_append_comm_assoc _ _ _))
  refine call_v (X := []) (wc := (bK G td tra)) (Y := (bY G yd td tha ++ [])) (rest := []) XX I hl.1 (c_K_begin l G OK td tra (12 : Int32) s1 q2) kV_X4_20 RC rfl rfl (Nat.le_of_ble_eq_true rfl) ⟨rfl, rfl, Nat.le_of_ble_eq_true rfl, Nat.le_of_ble_eq_true rfl⟩ ⟨Nat.zero_le _, Nat.zero_le _⟩ dX4_shares_6 (fun H locs I => ?_)
  replace I : Iv G (va_A (bY G yd td tha ++ (bK G td tra ++ [])) s0.heap.size) s0 H locs (bY G yd td tha ++ (bK G td s1 ++ [])) := Iv.perm (w := (bK G td s1) ++ (bY G yd td tha ++ [])) I (((List.Perm.append_left _ (List.Perm.refl _)).trans (List.perm_append_comm_assoc _ _ _)).symm)
  refine lv_aload_n hx hb dX4_shares_9 rfl (lv_at hl 0 rfl) ?_
  refine gY_X4_y00_a XX I dX4_shares_10 ?_
  refine lv_aload_n hx hb dX4_shares_13 rfl (lv_at hl 0 rfl) ?_
  refine gY_X4_y00_n XX I dX4_shares_14 ?_
  refine lv_icmp_ne (tgt := 30) hx hb dX4_shares_17 (by decide) (fun c1 => ?_) (fun c1 => ?_)
  · replace h := if_f h c1
    refine lv_iload_n hx hb dX4_shares_30 rfl (lv_at hl 1 rfl) ?_
    refine lv_aload_n hx hb dX4_shares_31 rfl (lv_at hl 0 rfl) ?_
    refine gY_X4_y00_a XX I dX4_shares_32 ?_
    refine lv_aload_n hx hb dX4_shares_35 rfl (lv_at hl 0 rfl) ?_
    refine gY_X4_y00_n XX I dX4_shares_36 ?_
    refine lv_isub hx hb dX4_shares_39 ?_
    obtain ⟨g4, h⟩ := gd_some h
    refine lv_idiv hx hb dX4_shares_40 g4 ?_
    obtain ⟨rfl, rfl⟩ := some2 h
    exact e_i rfl XX hr I rfl dX4_shares_41
  · replace h := if_t h c1
    refine lv_aload_n hx hb dX4_shares_20 rfl (lv_at hl 0 rfl) ?_
    refine gY_X4_y00_trace XX I dX4_shares_21 ?_
    refine lv_iconst (v := 1) hx hb dX4_shares_24 (by decide) ?_
    refine pY_X4_o1_parted XX I (rfl) dX4_shares_25 (fun H locs I => ?_)
    obtain ⟨s5, es5⟩ : ∃ z, z = si s1 2 (1 : Int32) := ⟨_, rfl⟩
    replace h := lt_e h es5
    replace I : Iv G (va_A (bY G yd td tha ++ (bK G td tra ++ [])) s0.heap.size) s0 H locs (bY G yd td tha ++ (bK G td s5 ++ [])) := by rw [es5]; exact I
    refine lv_iconst (v := 0) hx hb dX4_shares_28 (by decide) ?_
    obtain ⟨rfl, rfl⟩ := some2 h
    exact e_i rfl XX hr I rfl dX4_shares_29
theorem kU_X4_34_X4 : KU RX4 34 RX4 RX4 ⟨"LifeNoes$Sayer", "waits", "(I)I"⟩ yX4_waits cX4_waits 2 (some .int) 1 := KU.mkU wd_936 wd_876 wd_875 wd_874 wd_7 wd_892 rfl (by decide +kernel)
set_option maxHeartbeats 4000000 in
set_option maxRecDepth 100000 in
theorem c_Y0_Sayer_tells (l : Launch) (G : g_G) (OK : EOk G.2.2) (yd : Nat → Nat) (td : Nat → Nat) (tha : g_St) (tra : g_St) (x1 : Int32) (r : Int32) (ttr : g_St) (h : f_Y0_Sayer_tells tha tra x1 = some (r, ttr)) : HI l G yX4_tells (Cond.code yX4_tells cX4_tells 2 (some .int) :: gT) { frames := 3, cells := 0, slots := 0, locals := 63 } .int [.ref (yd 0), .int x1] (bY G yd td tha ++ (bK G td tra ++ [])) r (bY G yd td tha ++ (bK G td ttr ++ [])) := by
  refine HI.mk (lv := [(0, .ref (yd 0)), (1, .int x1)]) OK (by decide) (Nat.le_of_ble_eq_true rfl) rfl ?_
  intro p e s0 m args below meth c ls XX hr I hl
  have hx := XX.x
  have hb := XX.b
  unfold f_Y0_Sayer_tells at h
  refine lv_aload_n hx hb dX4_tells_0 rfl (lv_at hl 0 rfl) ?_
  refine gY_X4_y00_trace XX I dX4_tells_1 ?_
  refine lv_bipush (v := 13) hx hb dX4_tells_4 (by decide) ?_
  obtain ⟨s1, q2, h⟩ := bd1_some h
  have RC := (Rc.mk XX I (q0 := 6) (ci := 8) rfl rfl)
  replace I : Iv G (va_A (bY G yd td tha ++ (bK G td tra ++ [])) s0.heap.size) s0 _ _ ((bK G td tra) ++ (bY G yd td tha ++ [])) := I.perm ((List.Perm.append_left _ (List.Perm.refl _)).trans (List.perm_append_comm_assoc _ _ _))
  refine call_v (X := []) (wc := (bK G td tra)) (Y := (bY G yd td tha ++ [])) (rest := []) XX I hl.1 (c_K_begin l G OK td tra (13 : Int32) s1 q2) kV_X4_20 RC rfl rfl (Nat.le_of_ble_eq_true rfl) ⟨rfl, rfl, Nat.le_of_ble_eq_true rfl, Nat.le_of_ble_eq_true rfl⟩ ⟨Nat.zero_le _, Nat.zero_le _⟩ dX4_tells_6 (fun H locs I => ?_)
  replace I : Iv G (va_A (bY G yd td tha ++ (bK G td tra ++ [])) s0.heap.size) s0 H locs (bY G yd td tha ++ (bK G td s1 ++ [])) := Iv.perm (w := (bK G td s1) ++ (bY G yd td tha ++ [])) I (((List.Perm.append_left _ (List.Perm.refl _)).trans (List.perm_append_comm_assoc _ _ _)).symm)
  refine lv_aload_n hx hb dX4_tells_9 rfl (lv_at hl 0 rfl) ?_
  refine lv_iload_n hx hb dX4_tells_10 rfl (lv_at hl 1 rfl) ?_
  obtain ⟨r4, s5, q6, h⟩ := bd2_some h
  have RC := (Rc.mk XX I (q0 := 0) (ci := 4) rfl rfl)
  replace I : Iv G (va_A (bY G yd td tha ++ (bK G td tra ++ [])) s0.heap.size) s0 _ _ (((bY G yd td tha ++ (bK G td s1 ++ []))) ++ []) := I.perm pasc2
  refine ucall_i (X := []) (wc := (bY G yd td tha ++ (bK G td s1 ++ []))) (Y := []) (rest := []) XX I hl.1 (c_Y0_Sayer_waits l G OK yd td tha s1 x1 r4 s5 q6) kU_X4_34_X4 RC rfl rfl (Nat.le_of_ble_eq_true rfl) ⟨rfl, rfl, Nat.le_of_ble_eq_true rfl, Nat.le_of_ble_eq_true rfl⟩ ⟨Nat.zero_le _, Nat.zero_le _⟩ dX4_tells_11 (fun H locs hz7 I => ?_)
  replace I : Iv G (va_A (bY G yd td tha ++ (bK G td tra ++ [])) s0.heap.size) s0 H locs (bY G yd td tha ++ (bK G td s5 ++ [])) := Iv.perm (w := ((bY G yd td tha ++ (bK G td s5 ++ []))) ++ []) I (pasc2.symm)
  refine lv_aload_n hx hb dX4_tells_14 rfl (lv_at hl 0 rfl) ?_
  refine gY_X4_y00_a XX I dX4_tells_15 ?_
  refine lv_ixor hx hb dX4_tells_18 ?_
  obtain ⟨rfl, rfl⟩ := some2 h
  exact e_i rfl XX hr I rfl dX4_tells_19
theorem gY_X4_y10_trace {p : Program} {l : Launch} {e : Env} {R : Room} {s0 : State} {m : MethodId} {args : Array Value} {below : List Frame} {meth : Method} {c : Code} {H : Heap} {locs : List Loc} {cells slots : Nat} {Q : State → Prop} {cc : ByteArray} {nL pc : Nat} {ls : Array Slot} {rest : List Value} {G : g_G} {A : Nat → Prop} {yd : Nat → Nat} {td : Nat → Nat} {th : g_St} {tr : g_St} (XX : Cx G A p s0 m meth c cc nL RX4 args) (I : Iv G A s0 H locs (bY G yd td th ++ (bK G td tr ++ []))) (hdg : decode cc pc = .ok (.getfield 16, 3)) (kk : W p l e R s0 m args below meth c H locs cells slots Q (F0 m (pc + 3) ls (.ref (td 0) :: rest))) : W p l e R s0 m args below meth c H locs cells slots Q (F0 m pc ls (.ref (yd 1) :: rest)) := r_get kfX3 XX I 1 rfl 0 (Nat.le_of_ble_eq_true rfl) wd_203 rfl hdg kk
theorem gY_X4_y10_n {p : Program} {l : Launch} {e : Env} {R : Room} {s0 : State} {m : MethodId} {args : Array Value} {below : List Frame} {meth : Method} {c : Code} {H : Heap} {locs : List Loc} {cells slots : Nat} {Q : State → Prop} {cc : ByteArray} {nL pc : Nat} {ls : Array Slot} {rest : List Value} {G : g_G} {A : Nat → Prop} {yd : Nat → Nat} {td : Nat → Nat} {th : g_St} {tr : g_St} (XX : Cx G A p s0 m meth c cc nL RX4 args) (I : Iv G A s0 H locs (bY G yd td th ++ (bK G td tr ++ []))) (hdg : decode cc pc = .ok (.getfield 7, 3)) (kk : W p l e R s0 m args below meth c H locs cells slots Q (F0 m (pc + 3) ls (.int (gi th 1) :: rest))) : W p l e R s0 m args below meth c H locs cells slots Q (F0 m pc ls (.ref (yd 1) :: rest)) := r_get kfX3 XX I 1 rfl 1 (Nat.le_of_ble_eq_true rfl) wd_214 rfl hdg kk
set_option maxHeartbeats 4000000 in
set_option maxRecDepth 100000 in
theorem c_Y1_Sayer_bars (l : Launch) (G : g_G) (OK : EOk G.2.2) (yd : Nat → Nat) (td : Nat → Nat) (tha : g_St) (tra : g_St) (x1 : Int32) (r : Int32) (ttr : g_St) (h : f_Y1_Sayer_bars tha tra x1 = some (r, ttr)) : HI l G yX4_bars (Cond.code yX4_bars cX4_bars 2 (some .int) :: gT) { frames := 1, cells := 0, slots := 0, locals := 21 } .int [.ref (yd 1), .int x1] (bY G yd td tha ++ (bK G td tra ++ [])) r (bY G yd td tha ++ (bK G td ttr ++ [])) := by
  refine HI.mk (lv := [(0, .ref (yd 1)), (1, .int x1)]) OK (by decide) (Nat.le_of_ble_eq_true rfl) rfl ?_
  intro p e s0 m args below meth c ls XX hr I hl
  have hx := XX.x
  have hb := XX.b
  unfold f_Y1_Sayer_bars at h
  refine lv_aload_n hx hb dX4_bars_0 rfl (lv_at hl 0 rfl) ?_
  refine gY_X4_y10_trace XX I dX4_bars_1 ?_
  refine lv_bipush (v := 10) hx hb dX4_bars_4 (by decide) ?_
  obtain ⟨s1, q2, h⟩ := bd1_some h
  have RC := (Rc.mk XX I (q0 := 6) (ci := 8) rfl rfl)
  replace I : Iv G (va_A (bY G yd td tha ++ (bK G td tra ++ [])) s0.heap.size) s0 _ _ ((bK G td tra) ++ (bY G yd td tha ++ [])) := I.perm ((List.Perm.append_left _ (List.Perm.refl _)).trans (List.perm_append_comm_assoc _ _ _))
  refine call_v (X := []) (wc := (bK G td tra)) (Y := (bY G yd td tha ++ [])) (rest := []) XX I hl.1 (c_K_begin l G OK td tra (10 : Int32) s1 q2) kV_X4_20 RC rfl rfl (Nat.le_of_ble_eq_true rfl) ⟨rfl, rfl, Nat.le_of_ble_eq_true rfl, Nat.le_of_ble_eq_true rfl⟩ ⟨Nat.zero_le _, Nat.zero_le _⟩ dX4_bars_6 (fun H locs I => ?_)
  replace I : Iv G (va_A (bY G yd td tha ++ (bK G td tra ++ [])) s0.heap.size) s0 H locs (bY G yd td tha ++ (bK G td s1 ++ [])) := Iv.perm (w := (bK G td s1) ++ (bY G yd td tha ++ [])) I (((List.Perm.append_left _ (List.Perm.refl _)).trans (List.perm_append_comm_assoc _ _ _)).symm)
  refine lv_iload_n hx hb dX4_bars_9 rfl (lv_at hl 1 rfl) ?_
  refine lv_aload_n hx hb dX4_bars_10 rfl (lv_at hl 0 rfl) ?_
  refine gY_X4_y10_n XX I dX4_bars_11 ?_
  refine lv_iadd hx hb dX4_bars_14 ?_
  obtain ⟨rfl, rfl⟩ := some2 h
  exact e_i rfl XX hr I rfl dX4_bars_15
theorem kU_X4_26_X3 : KU RX4 26 RX3 RX4 ⟨"LifeNoes$Sayer", "bars", "(I)I"⟩ yX4_bars cX4_bars 2 (some .int) 1 := KU.mkU wd_893 wd_848 wd_864 wd_846 wd_7 wd_871 rfl (by decide +kernel)
set_option maxHeartbeats 4000000 in
set_option maxRecDepth 100000 in
theorem c_Y1_Sayer_waits (l : Launch) (G : g_G) (OK : EOk G.2.2) (yd : Nat → Nat) (td : Nat → Nat) (tha : g_St) (tra : g_St) (x1 : Int32) (r : Int32) (ttr : g_St) (h : f_Y1_Sayer_waits tha tra x1 = some (r, ttr)) : HI l G yX4_waits (Cond.code yX4_waits cX4_waits 2 (some .int) :: gT) { frames := 2, cells := 0, slots := 0, locals := 42 } .int [.ref (yd 1), .int x1] (bY G yd td tha ++ (bK G td tra ++ [])) r (bY G yd td tha ++ (bK G td ttr ++ [])) := by
  refine HI.mk (lv := [(0, .ref (yd 1)), (1, .int x1)]) OK (by decide) (Nat.le_of_ble_eq_true rfl) rfl ?_
  intro p e s0 m args below meth c ls XX hr I hl
  have hx := XX.x
  have hb := XX.b
  unfold f_Y1_Sayer_waits at h
  refine lv_aload_n hx hb dX4_waits_0 rfl (lv_at hl 0 rfl) ?_
  refine gY_X4_y10_trace XX I dX4_waits_1 ?_
  refine lv_bipush (v := 11) hx hb dX4_waits_4 (by decide) ?_
  obtain ⟨s1, q2, h⟩ := bd1_some h
  have RC := (Rc.mk XX I (q0 := 6) (ci := 8) rfl rfl)
  replace I : Iv G (va_A (bY G yd td tha ++ (bK G td tra ++ [])) s0.heap.size) s0 _ _ ((bK G td tra) ++ (bY G yd td tha ++ [])) := I.perm ((List.Perm.append_left _ (List.Perm.refl _)).trans (List.perm_append_comm_assoc _ _ _))
  refine call_v (X := []) (wc := (bK G td tra)) (Y := (bY G yd td tha ++ [])) (rest := []) XX I hl.1 (c_K_begin l G OK td tra (11 : Int32) s1 q2) kV_X4_20 RC rfl rfl (Nat.le_of_ble_eq_true rfl) ⟨rfl, rfl, Nat.le_of_ble_eq_true rfl, Nat.le_of_ble_eq_true rfl⟩ ⟨Nat.zero_le _, Nat.zero_le _⟩ dX4_waits_6 (fun H locs I => ?_)
  replace I : Iv G (va_A (bY G yd td tha ++ (bK G td tra ++ [])) s0.heap.size) s0 H locs (bY G yd td tha ++ (bK G td s1 ++ [])) := Iv.perm (w := (bK G td s1) ++ (bY G yd td tha ++ [])) I (((List.Perm.append_left _ (List.Perm.refl _)).trans (List.perm_append_comm_assoc _ _ _)).symm)
  refine lv_aload_n hx hb dX4_waits_9 rfl (lv_at hl 0 rfl) ?_
  refine lv_iload_n hx hb dX4_waits_10 rfl (lv_at hl 1 rfl) ?_
  obtain ⟨r4, s5, q6, h⟩ := bd2_some h
  have RC := (Rc.mk XX I (q0 := 1) (ci := 3) rfl rfl)
  replace I : Iv G (va_A (bY G yd td tha ++ (bK G td tra ++ [])) s0.heap.size) s0 _ _ (((bY G yd td tha ++ (bK G td s1 ++ []))) ++ []) := I.perm pasc2
  refine ucall_i (X := []) (wc := (bY G yd td tha ++ (bK G td s1 ++ []))) (Y := []) (rest := []) XX I hl.1 (c_Y1_Sayer_bars l G OK yd td tha s1 x1 r4 s5 q6) kU_X4_26_X3 RC rfl rfl (Nat.le_of_ble_eq_true rfl) ⟨rfl, rfl, Nat.le_of_ble_eq_true rfl, Nat.le_of_ble_eq_true rfl⟩ ⟨Nat.zero_le _, Nat.zero_le _⟩ dX4_waits_11 (fun H locs hz7 I => ?_)
  replace I : Iv G (va_A (bY G yd td tha ++ (bK G td tra ++ [])) s0.heap.size) s0 H locs (bY G yd td tha ++ (bK G td s5 ++ [])) := Iv.perm (w := ((bY G yd td tha ++ (bK G td s5 ++ []))) ++ []) I (pasc2.symm)
  refine lv_iconst (v := 2) hx hb dX4_waits_14 (by decide) ?_
  refine lv_imul hx hb dX4_waits_15 ?_
  obtain ⟨rfl, rfl⟩ := some2 h
  exact e_i rfl XX hr I rfl dX4_waits_16
theorem kV_X3_13 : KV RX3 13 RX8 yX8_begin cX8_begin 2 none 1 := KV.mk wd_881 wd_853 wd_854 wd_6 wd_855 (by decide +kernel)
theorem kP_X3_19 : KP RX3 19 ⟨"LifeNoes$Sayer", "waits", "(I)I"⟩ yX4_waits cX4_waits 2 (some .int) 1 := ⟨wd_882, wd_876, wd_244, wd_874, wd_7, wd_892, rfl, by decide, (Or.inl rfl), by decide +kernel⟩
theorem gY_X3_y10_trace {p : Program} {l : Launch} {e : Env} {R : Room} {s0 : State} {m : MethodId} {args : Array Value} {below : List Frame} {meth : Method} {c : Code} {H : Heap} {locs : List Loc} {cells slots : Nat} {Q : State → Prop} {cc : ByteArray} {nL pc : Nat} {ls : Array Slot} {rest : List Value} {G : g_G} {A : Nat → Prop} {yd : Nat → Nat} {td : Nat → Nat} {th : g_St} {tr : g_St} (XX : Cx G A p s0 m meth c cc nL RX3 args) (I : Iv G A s0 H locs (bY G yd td th ++ (bK G td tr ++ []))) (hdg : decode cc pc = .ok (.getfield 7, 3)) (kk : W p l e R s0 m args below meth c H locs cells slots Q (F0 m (pc + 3) ls (.ref (td 0) :: rest))) : W p l e R s0 m args below meth c H locs cells slots Q (F0 m pc ls (.ref (yd 1) :: rest)) := r_getS (ref := RX3) kfX3 XX I 1 rfl 0 (Nat.le_of_ble_eq_true rfl) wd_210 wd_211 rfl hdg kk
theorem gY_X3_y10_a {p : Program} {l : Launch} {e : Env} {R : Room} {s0 : State} {m : MethodId} {args : Array Value} {below : List Frame} {meth : Method} {c : Code} {H : Heap} {locs : List Loc} {cells slots : Nat} {Q : State → Prop} {cc : ByteArray} {nL pc : Nat} {ls : Array Slot} {rest : List Value} {G : g_G} {A : Nat → Prop} {yd : Nat → Nat} {td : Nat → Nat} {th : g_St} {tr : g_St} (XX : Cx G A p s0 m meth c cc nL RX3 args) (I : Iv G A s0 H locs (bY G yd td th ++ (bK G td tr ++ []))) (hdg : decode cc pc = .ok (.getfield 23, 3)) (kk : W p l e R s0 m args below meth c H locs cells slots Q (F0 m (pc + 3) ls (.int (gi th 11) :: rest))) : W p l e R s0 m args below meth c H locs cells slots Q (F0 m pc ls (.ref (yd 1) :: rest)) := r_getS (ref := RX3) kfX3 XX I 1 rfl 2 (Nat.le_of_ble_eq_true rfl) wd_223 wd_224 rfl hdg kk
set_option maxHeartbeats 4000000 in
set_option maxRecDepth 100000 in
theorem c_Y1_Quick_waits (l : Launch) (G : g_G) (OK : EOk G.2.2) (yd : Nat → Nat) (td : Nat → Nat) (tha : g_St) (tra : g_St) (x1 : Int32) (r : Int32) (ttr : g_St) (h : f_Y1_Quick_waits tha tra x1 = some (r, ttr)) : HI l G yX3_waits (Cond.code yX3_waits cX3_waits 2 (some .int) :: gT) { frames := 3, cells := 0, slots := 0, locals := 63 } .int [.ref (yd 1), .int x1] (bY G yd td tha ++ (bK G td tra ++ [])) r (bY G yd td tha ++ (bK G td ttr ++ [])) := by
  refine HI.mk (lv := [(0, .ref (yd 1)), (1, .int x1)]) OK (by decide) (Nat.le_of_ble_eq_true rfl) rfl ?_
  intro p e s0 m args below meth c ls XX hr I hl
  have hx := XX.x
  have hb := XX.b
  unfold f_Y1_Quick_waits at h
  refine lv_aload_n hx hb dX3_waits_0 rfl (lv_at hl 0 rfl) ?_
  refine gY_X3_y10_trace XX I dX3_waits_1 ?_
  refine lv_bipush (v := 20) hx hb dX3_waits_4 (by decide) ?_
  obtain ⟨s1, q2, h⟩ := bd1_some h
  have RC := (Rc.mk XX I (q0 := 6) (ci := 8) rfl rfl)
  replace I : Iv G (va_A (bY G yd td tha ++ (bK G td tra ++ [])) s0.heap.size) s0 _ _ ((bK G td tra) ++ (bY G yd td tha ++ [])) := I.perm ((List.Perm.append_left _ (List.Perm.refl _)).trans (List.perm_append_comm_assoc _ _ _))
  refine call_v (X := []) (wc := (bK G td tra)) (Y := (bY G yd td tha ++ [])) (rest := []) XX I hl.1 (c_K_begin l G OK td tra (20 : Int32) s1 q2) kV_X3_13 RC rfl rfl (Nat.le_of_ble_eq_true rfl) ⟨rfl, rfl, Nat.le_of_ble_eq_true rfl, Nat.le_of_ble_eq_true rfl⟩ ⟨Nat.zero_le _, Nat.zero_le _⟩ dX3_waits_6 (fun H locs I => ?_)
  replace I : Iv G (va_A (bY G yd td tha ++ (bK G td tra ++ [])) s0.heap.size) s0 H locs (bY G yd td tha ++ (bK G td s1 ++ [])) := Iv.perm (w := (bK G td s1) ++ (bY G yd td tha ++ [])) I (((List.Perm.append_left _ (List.Perm.refl _)).trans (List.perm_append_comm_assoc _ _ _)).symm)
  refine lv_aload_n hx hb dX3_waits_9 rfl (lv_at hl 0 rfl) ?_
  refine lv_iload_n hx hb dX3_waits_10 rfl (lv_at hl 1 rfl) ?_
  obtain ⟨r4, s5, q6, h⟩ := bd2_some h
  have RC := (Rc.mk XX I (q0 := 1) (ci := 3) rfl rfl)
  replace I : Iv G (va_A (bY G yd td tha ++ (bK G td tra ++ [])) s0.heap.size) s0 _ _ (((bY G yd td tha ++ (bK G td s1 ++ []))) ++ []) := I.perm pasc2
  refine pcall_i (X := []) (wc := (bY G yd td tha ++ (bK G td s1 ++ []))) (Y := []) (rest := []) XX I hl.1 (c_Y1_Sayer_waits l G OK yd td tha s1 x1 r4 s5 q6) kP_X3_19 RC (XX.at 3 rfl) rfl rfl (Nat.le_of_ble_eq_true rfl) ⟨rfl, rfl, Nat.le_of_ble_eq_true rfl, Nat.le_of_ble_eq_true rfl⟩ ⟨Nat.zero_le _, Nat.zero_le _⟩ dX3_waits_11 (fun H locs hz7 I => ?_)
  replace I : Iv G (va_A (bY G yd td tha ++ (bK G td tra ++ [])) s0.heap.size) s0 H locs (bY G yd td tha ++ (bK G td s5 ++ [])) := Iv.perm (w := ((bY G yd td tha ++ (bK G td s5 ++ []))) ++ []) I (pasc2.symm)
  refine lv_aload_n hx hb dX3_waits_14 rfl (lv_at hl 0 rfl) ?_
  refine gY_X3_y10_a XX I dX3_waits_15 ?_
  refine lv_isub hx hb dX3_waits_18 ?_
  obtain ⟨rfl, rfl⟩ := some2 h
  exact e_i rfl XX hr I rfl dX3_waits_19
theorem gY_X4_y10_a {p : Program} {l : Launch} {e : Env} {R : Room} {s0 : State} {m : MethodId} {args : Array Value} {below : List Frame} {meth : Method} {c : Code} {H : Heap} {locs : List Loc} {cells slots : Nat} {Q : State → Prop} {cc : ByteArray} {nL pc : Nat} {ls : Array Slot} {rest : List Value} {G : g_G} {A : Nat → Prop} {yd : Nat → Nat} {td : Nat → Nat} {th : g_St} {tr : g_St} (XX : Cx G A p s0 m meth c cc nL RX4 args) (I : Iv G A s0 H locs (bY G yd td th ++ (bK G td tr ++ []))) (hdg : decode cc pc = .ok (.getfield 13, 3)) (kk : W p l e R s0 m args below meth c H locs cells slots Q (F0 m (pc + 3) ls (.int (gi th 11) :: rest))) : W p l e R s0 m args below meth c H locs cells slots Q (F0 m pc ls (.ref (yd 1) :: rest)) := r_get kfX3 XX I 1 rfl 2 (Nat.le_of_ble_eq_true rfl) wd_222 rfl hdg kk
set_option maxHeartbeats 4000000 in
set_option maxRecDepth 100000 in
theorem c_Y1_Sayer_shares (l : Launch) (G : g_G) (OK : EOk G.2.2) (yd : Nat → Nat) (td : Nat → Nat) (tha : g_St) (tra : g_St) (x1 : Int32) (r : Int32) (ttr : g_St) (h : f_Y1_Sayer_shares tha tra x1 = some (r, ttr)) : HI l G yX4_shares (Cond.code yX4_shares cX4_shares 2 (some .int) :: gT) { frames := 1, cells := 0, slots := 0, locals := 21 } .int [.ref (yd 1), .int x1] (bY G yd td tha ++ (bK G td tra ++ [])) r (bY G yd td tha ++ (bK G td ttr ++ [])) := by
  refine HI.mk (lv := [(0, .ref (yd 1)), (1, .int x1)]) OK (by decide) (Nat.le_of_ble_eq_true rfl) rfl ?_
  intro p e s0 m args below meth c ls XX hr I hl
  have hx := XX.x
  have hb := XX.b
  unfold f_Y1_Sayer_shares at h
  refine lv_aload_n hx hb dX4_shares_0 rfl (lv_at hl 0 rfl) ?_
  refine gY_X4_y10_trace XX I dX4_shares_1 ?_
  refine lv_bipush (v := 12) hx hb dX4_shares_4 (by decide) ?_
  obtain ⟨s1, q2, h⟩ := bd1_some h
  have RC := (Rc.mk XX I (q0 := 6) (ci := 8) rfl rfl)
  replace I : Iv G (va_A (bY G yd td tha ++ (bK G td tra ++ [])) s0.heap.size) s0 _ _ ((bK G td tra) ++ (bY G yd td tha ++ [])) := I.perm ((List.Perm.append_left _ (List.Perm.refl _)).trans (List.perm_append_comm_assoc _ _ _))
  refine call_v (X := []) (wc := (bK G td tra)) (Y := (bY G yd td tha ++ [])) (rest := []) XX I hl.1 (c_K_begin l G OK td tra (12 : Int32) s1 q2) kV_X4_20 RC rfl rfl (Nat.le_of_ble_eq_true rfl) ⟨rfl, rfl, Nat.le_of_ble_eq_true rfl, Nat.le_of_ble_eq_true rfl⟩ ⟨Nat.zero_le _, Nat.zero_le _⟩ dX4_shares_6 (fun H locs I => ?_)
  replace I : Iv G (va_A (bY G yd td tha ++ (bK G td tra ++ [])) s0.heap.size) s0 H locs (bY G yd td tha ++ (bK G td s1 ++ [])) := Iv.perm (w := (bK G td s1) ++ (bY G yd td tha ++ [])) I (((List.Perm.append_left _ (List.Perm.refl _)).trans (List.perm_append_comm_assoc _ _ _)).symm)
  refine lv_aload_n hx hb dX4_shares_9 rfl (lv_at hl 0 rfl) ?_
  refine gY_X4_y10_a XX I dX4_shares_10 ?_
  refine lv_aload_n hx hb dX4_shares_13 rfl (lv_at hl 0 rfl) ?_
  refine gY_X4_y10_n XX I dX4_shares_14 ?_
  refine lv_icmp_ne (tgt := 30) hx hb dX4_shares_17 (by decide) (fun c1 => ?_) (fun c1 => ?_)
  · replace h := if_f h c1
    refine lv_iload_n hx hb dX4_shares_30 rfl (lv_at hl 1 rfl) ?_
    refine lv_aload_n hx hb dX4_shares_31 rfl (lv_at hl 0 rfl) ?_
    refine gY_X4_y10_a XX I dX4_shares_32 ?_
    refine lv_aload_n hx hb dX4_shares_35 rfl (lv_at hl 0 rfl) ?_
    refine gY_X4_y10_n XX I dX4_shares_36 ?_
    refine lv_isub hx hb dX4_shares_39 ?_
    obtain ⟨g4, h⟩ := gd_some h
    refine lv_idiv hx hb dX4_shares_40 g4 ?_
    obtain ⟨rfl, rfl⟩ := some2 h
    exact e_i rfl XX hr I rfl dX4_shares_41
  · replace h := if_t h c1
    refine lv_aload_n hx hb dX4_shares_20 rfl (lv_at hl 0 rfl) ?_
    refine gY_X4_y10_trace XX I dX4_shares_21 ?_
    refine lv_iconst (v := 1) hx hb dX4_shares_24 (by decide) ?_
    refine pY_X4_o1_parted XX I (rfl) dX4_shares_25 (fun H locs I => ?_)
    obtain ⟨s5, es5⟩ : ∃ z, z = si s1 2 (1 : Int32) := ⟨_, rfl⟩
    replace h := lt_e h es5
    replace I : Iv G (va_A (bY G yd td tha ++ (bK G td tra ++ [])) s0.heap.size) s0 H locs (bY G yd td tha ++ (bK G td s5 ++ [])) := by rw [es5]; exact I
    refine lv_iconst (v := 0) hx hb dX4_shares_28 (by decide) ?_
    obtain ⟨rfl, rfl⟩ := some2 h
    exact e_i rfl XX hr I rfl dX4_shares_29
theorem kU_X4_34_X3 : KU RX4 34 RX3 RX4 ⟨"LifeNoes$Sayer", "waits", "(I)I"⟩ yX3_waits cX3_waits 2 (some .int) 1 := KU.mkO wd_936 wd_876 wd_883 wd_879 wd_8 wd_880 wd_874 wd_892 (by decide +kernel)
set_option maxHeartbeats 4000000 in
set_option maxRecDepth 100000 in
theorem c_Y1_Sayer_tells (l : Launch) (G : g_G) (OK : EOk G.2.2) (yd : Nat → Nat) (td : Nat → Nat) (tha : g_St) (tra : g_St) (x1 : Int32) (r : Int32) (ttr : g_St) (h : f_Y1_Sayer_tells tha tra x1 = some (r, ttr)) : HI l G yX4_tells (Cond.code yX4_tells cX4_tells 2 (some .int) :: gT) { frames := 4, cells := 0, slots := 0, locals := 84 } .int [.ref (yd 1), .int x1] (bY G yd td tha ++ (bK G td tra ++ [])) r (bY G yd td tha ++ (bK G td ttr ++ [])) := by
  refine HI.mk (lv := [(0, .ref (yd 1)), (1, .int x1)]) OK (by decide) (Nat.le_of_ble_eq_true rfl) rfl ?_
  intro p e s0 m args below meth c ls XX hr I hl
  have hx := XX.x
  have hb := XX.b
  unfold f_Y1_Sayer_tells at h
  refine lv_aload_n hx hb dX4_tells_0 rfl (lv_at hl 0 rfl) ?_
  refine gY_X4_y10_trace XX I dX4_tells_1 ?_
  refine lv_bipush (v := 13) hx hb dX4_tells_4 (by decide) ?_
  obtain ⟨s1, q2, h⟩ := bd1_some h
  have RC := (Rc.mk XX I (q0 := 6) (ci := 8) rfl rfl)
  replace I : Iv G (va_A (bY G yd td tha ++ (bK G td tra ++ [])) s0.heap.size) s0 _ _ ((bK G td tra) ++ (bY G yd td tha ++ [])) := I.perm ((List.Perm.append_left _ (List.Perm.refl _)).trans (List.perm_append_comm_assoc _ _ _))
  refine call_v (X := []) (wc := (bK G td tra)) (Y := (bY G yd td tha ++ [])) (rest := []) XX I hl.1 (c_K_begin l G OK td tra (13 : Int32) s1 q2) kV_X4_20 RC rfl rfl (Nat.le_of_ble_eq_true rfl) ⟨rfl, rfl, Nat.le_of_ble_eq_true rfl, Nat.le_of_ble_eq_true rfl⟩ ⟨Nat.zero_le _, Nat.zero_le _⟩ dX4_tells_6 (fun H locs I => ?_)
  replace I : Iv G (va_A (bY G yd td tha ++ (bK G td tra ++ [])) s0.heap.size) s0 H locs (bY G yd td tha ++ (bK G td s1 ++ [])) := Iv.perm (w := (bK G td s1) ++ (bY G yd td tha ++ [])) I (((List.Perm.append_left _ (List.Perm.refl _)).trans (List.perm_append_comm_assoc _ _ _)).symm)
  refine lv_aload_n hx hb dX4_tells_9 rfl (lv_at hl 0 rfl) ?_
  refine lv_iload_n hx hb dX4_tells_10 rfl (lv_at hl 1 rfl) ?_
  obtain ⟨r4, s5, q6, h⟩ := bd2_some h
  have RC := (Rc.mk XX I (q0 := 1) (ci := 3) rfl rfl)
  replace I : Iv G (va_A (bY G yd td tha ++ (bK G td tra ++ [])) s0.heap.size) s0 _ _ (((bY G yd td tha ++ (bK G td s1 ++ []))) ++ []) := I.perm pasc2
  refine ucall_i (X := []) (wc := (bY G yd td tha ++ (bK G td s1 ++ []))) (Y := []) (rest := []) XX I hl.1 (c_Y1_Quick_waits l G OK yd td tha s1 x1 r4 s5 q6) kU_X4_34_X3 RC rfl rfl (Nat.le_of_ble_eq_true rfl) ⟨rfl, rfl, Nat.le_of_ble_eq_true rfl, Nat.le_of_ble_eq_true rfl⟩ ⟨Nat.zero_le _, Nat.zero_le _⟩ dX4_tells_11 (fun H locs hz7 I => ?_)
  replace I : Iv G (va_A (bY G yd td tha ++ (bK G td tra ++ [])) s0.heap.size) s0 H locs (bY G yd td tha ++ (bK G td s5 ++ [])) := Iv.perm (w := ((bY G yd td tha ++ (bK G td s5 ++ []))) ++ []) I (pasc2.symm)
  refine lv_aload_n hx hb dX4_tells_14 rfl (lv_at hl 0 rfl) ?_
  refine gY_X4_y10_a XX I dX4_tells_15 ?_
  refine lv_ixor hx hb dX4_tells_18 ?_
  obtain ⟨rfl, rfl⟩ := some2 h
  exact e_i rfl XX hr I rfl dX4_tells_19
theorem gY_X4_y20_trace {p : Program} {l : Launch} {e : Env} {R : Room} {s0 : State} {m : MethodId} {args : Array Value} {below : List Frame} {meth : Method} {c : Code} {H : Heap} {locs : List Loc} {cells slots : Nat} {Q : State → Prop} {cc : ByteArray} {nL pc : Nat} {ls : Array Slot} {rest : List Value} {G : g_G} {A : Nat → Prop} {yd : Nat → Nat} {td : Nat → Nat} {th : g_St} {tr : g_St} (XX : Cx G A p s0 m meth c cc nL RX4 args) (I : Iv G A s0 H locs (bY G yd td th ++ (bK G td tr ++ []))) (hdg : decode cc pc = .ok (.getfield 16, 3)) (kk : W p l e R s0 m args below meth c H locs cells slots Q (F0 m (pc + 3) ls (.ref (td 0) :: rest))) : W p l e R s0 m args below meth c H locs cells slots Q (F0 m pc ls (.ref (yd 2) :: rest)) := r_get kfX1 XX I 2 rfl 0 (Nat.le_of_ble_eq_true rfl) wd_203 rfl hdg kk
theorem gY_X4_y20_n {p : Program} {l : Launch} {e : Env} {R : Room} {s0 : State} {m : MethodId} {args : Array Value} {below : List Frame} {meth : Method} {c : Code} {H : Heap} {locs : List Loc} {cells slots : Nat} {Q : State → Prop} {cc : ByteArray} {nL pc : Nat} {ls : Array Slot} {rest : List Value} {G : g_G} {A : Nat → Prop} {yd : Nat → Nat} {td : Nat → Nat} {th : g_St} {tr : g_St} (XX : Cx G A p s0 m meth c cc nL RX4 args) (I : Iv G A s0 H locs (bY G yd td th ++ (bK G td tr ++ []))) (hdg : decode cc pc = .ok (.getfield 7, 3)) (kk : W p l e R s0 m args below meth c H locs cells slots Q (F0 m (pc + 3) ls (.int (gi th 2) :: rest))) : W p l e R s0 m args below meth c H locs cells slots Q (F0 m pc ls (.ref (yd 2) :: rest)) := r_get kfX1 XX I 2 rfl 1 (Nat.le_of_ble_eq_true rfl) wd_214 rfl hdg kk
set_option maxHeartbeats 4000000 in
set_option maxRecDepth 100000 in
theorem c_Y2_Sayer_bars (l : Launch) (G : g_G) (OK : EOk G.2.2) (yd : Nat → Nat) (td : Nat → Nat) (tha : g_St) (tra : g_St) (x1 : Int32) (r : Int32) (ttr : g_St) (h : f_Y2_Sayer_bars tha tra x1 = some (r, ttr)) : HI l G yX4_bars (Cond.code yX4_bars cX4_bars 2 (some .int) :: gT) { frames := 1, cells := 0, slots := 0, locals := 21 } .int [.ref (yd 2), .int x1] (bY G yd td tha ++ (bK G td tra ++ [])) r (bY G yd td tha ++ (bK G td ttr ++ [])) := by
  refine HI.mk (lv := [(0, .ref (yd 2)), (1, .int x1)]) OK (by decide) (Nat.le_of_ble_eq_true rfl) rfl ?_
  intro p e s0 m args below meth c ls XX hr I hl
  have hx := XX.x
  have hb := XX.b
  unfold f_Y2_Sayer_bars at h
  refine lv_aload_n hx hb dX4_bars_0 rfl (lv_at hl 0 rfl) ?_
  refine gY_X4_y20_trace XX I dX4_bars_1 ?_
  refine lv_bipush (v := 10) hx hb dX4_bars_4 (by decide) ?_
  obtain ⟨s1, q2, h⟩ := bd1_some h
  have RC := (Rc.mk XX I (q0 := 6) (ci := 8) rfl rfl)
  replace I : Iv G (va_A (bY G yd td tha ++ (bK G td tra ++ [])) s0.heap.size) s0 _ _ ((bK G td tra) ++ (bY G yd td tha ++ [])) := I.perm ((List.Perm.append_left _ (List.Perm.refl _)).trans (List.perm_append_comm_assoc _ _ _))
  refine call_v (X := []) (wc := (bK G td tra)) (Y := (bY G yd td tha ++ [])) (rest := []) XX I hl.1 (c_K_begin l G OK td tra (10 : Int32) s1 q2) kV_X4_20 RC rfl rfl (Nat.le_of_ble_eq_true rfl) ⟨rfl, rfl, Nat.le_of_ble_eq_true rfl, Nat.le_of_ble_eq_true rfl⟩ ⟨Nat.zero_le _, Nat.zero_le _⟩ dX4_bars_6 (fun H locs I => ?_)
  replace I : Iv G (va_A (bY G yd td tha ++ (bK G td tra ++ [])) s0.heap.size) s0 H locs (bY G yd td tha ++ (bK G td s1 ++ [])) := Iv.perm (w := (bK G td s1) ++ (bY G yd td tha ++ [])) I (((List.Perm.append_left _ (List.Perm.refl _)).trans (List.perm_append_comm_assoc _ _ _)).symm)
  refine lv_iload_n hx hb dX4_bars_9 rfl (lv_at hl 1 rfl) ?_
  refine lv_aload_n hx hb dX4_bars_10 rfl (lv_at hl 0 rfl) ?_
  refine gY_X4_y20_n XX I dX4_bars_11 ?_
  refine lv_iadd hx hb dX4_bars_14 ?_
  obtain ⟨rfl, rfl⟩ := some2 h
  exact e_i rfl XX hr I rfl dX4_bars_15
theorem kV_X1_13 : KV RX1 13 RX8 yX8_begin cX8_begin 2 none 1 := KV.mk wd_852 wd_853 wd_854 wd_6 wd_855 (by decide +kernel)
theorem kP_X1_19 : KP RX1 19 ⟨"LifeNoes$Sayer", "bars", "(I)I"⟩ yX4_bars cX4_bars 2 (some .int) 1 := ⟨wd_856, wd_848, wd_254, wd_846, wd_7, wd_871, rfl, by decide, (Or.inl rfl), by decide +kernel⟩
theorem gY_X1_y20_trace {p : Program} {l : Launch} {e : Env} {R : Room} {s0 : State} {m : MethodId} {args : Array Value} {below : List Frame} {meth : Method} {c : Code} {H : Heap} {locs : List Loc} {cells slots : Nat} {Q : State → Prop} {cc : ByteArray} {nL pc : Nat} {ls : Array Slot} {rest : List Value} {G : g_G} {A : Nat → Prop} {yd : Nat → Nat} {td : Nat → Nat} {th : g_St} {tr : g_St} (XX : Cx G A p s0 m meth c cc nL RX1 args) (I : Iv G A s0 H locs (bY G yd td th ++ (bK G td tr ++ []))) (hdg : decode cc pc = .ok (.getfield 7, 3)) (kk : W p l e R s0 m args below meth c H locs cells slots Q (F0 m (pc + 3) ls (.ref (td 0) :: rest))) : W p l e R s0 m args below meth c H locs cells slots Q (F0 m pc ls (.ref (yd 2) :: rest)) := r_getS (ref := RX1) kfX1 XX I 2 rfl 0 (Nat.le_of_ble_eq_true rfl) wd_204 wd_205 rfl hdg kk
set_option maxHeartbeats 4000000 in
set_option maxRecDepth 100000 in
theorem c_Y2_Bar_bars (l : Launch) (G : g_G) (OK : EOk G.2.2) (yd : Nat → Nat) (td : Nat → Nat) (tha : g_St) (tra : g_St) (x1 : Int32) (r : Int32) (ttr : g_St) (h : f_Y2_Bar_bars tha tra x1 = some (r, ttr)) : HI l G yX1_bars (Cond.code yX1_bars cX1_bars 2 (some .int) :: gT) { frames := 2, cells := 0, slots := 0, locals := 42 } .int [.ref (yd 2), .int x1] (bY G yd td tha ++ (bK G td tra ++ [])) r (bY G yd td tha ++ (bK G td ttr ++ [])) := by
  refine HI.mk (lv := [(0, .ref (yd 2)), (1, .int x1)]) OK (by decide) (Nat.le_of_ble_eq_true rfl) rfl ?_
  intro p e s0 m args below meth c ls XX hr I hl
  have hx := XX.x
  have hb := XX.b
  unfold f_Y2_Bar_bars at h
  refine lv_aload_n hx hb dX1_bars_0 rfl (lv_at hl 0 rfl) ?_
  refine gY_X1_y20_trace XX I dX1_bars_1 ?_
  refine lv_bipush (v := 30) hx hb dX1_bars_4 (by decide) ?_
  obtain ⟨s1, q2, h⟩ := bd1_some h
  have RC := (Rc.mk XX I (q0 := 6) (ci := 8) rfl rfl)
  replace I : Iv G (va_A (bY G yd td tha ++ (bK G td tra ++ [])) s0.heap.size) s0 _ _ ((bK G td tra) ++ (bY G yd td tha ++ [])) := I.perm ((List.Perm.append_left _ (List.Perm.refl _)).trans (List.perm_append_comm_assoc _ _ _))
  refine call_v (X := []) (wc := (bK G td tra)) (Y := (bY G yd td tha ++ [])) (rest := []) XX I hl.1 (c_K_begin l G OK td tra (30 : Int32) s1 q2) kV_X1_13 RC rfl rfl (Nat.le_of_ble_eq_true rfl) ⟨rfl, rfl, Nat.le_of_ble_eq_true rfl, Nat.le_of_ble_eq_true rfl⟩ ⟨Nat.zero_le _, Nat.zero_le _⟩ dX1_bars_6 (fun H locs I => ?_)
  replace I : Iv G (va_A (bY G yd td tha ++ (bK G td tra ++ [])) s0.heap.size) s0 H locs (bY G yd td tha ++ (bK G td s1 ++ [])) := Iv.perm (w := (bK G td s1) ++ (bY G yd td tha ++ [])) I (((List.Perm.append_left _ (List.Perm.refl _)).trans (List.perm_append_comm_assoc _ _ _)).symm)
  refine lv_aload_n hx hb dX1_bars_9 rfl (lv_at hl 0 rfl) ?_
  refine lv_iload_n hx hb dX1_bars_10 rfl (lv_at hl 1 rfl) ?_
  obtain ⟨r4, s5, q6, h⟩ := bd2_some h
  have RC := (Rc.mk XX I (q0 := 2) (ci := 1) rfl rfl)
  replace I : Iv G (va_A (bY G yd td tha ++ (bK G td tra ++ [])) s0.heap.size) s0 _ _ (((bY G yd td tha ++ (bK G td s1 ++ []))) ++ []) := I.perm pasc2
  refine pcall_i (X := []) (wc := (bY G yd td tha ++ (bK G td s1 ++ []))) (Y := []) (rest := []) XX I hl.1 (c_Y2_Sayer_bars l G OK yd td tha s1 x1 r4 s5 q6) kP_X1_19 RC (XX.at 1 rfl) rfl rfl (Nat.le_of_ble_eq_true rfl) ⟨rfl, rfl, Nat.le_of_ble_eq_true rfl, Nat.le_of_ble_eq_true rfl⟩ ⟨Nat.zero_le _, Nat.zero_le _⟩ dX1_bars_11 (fun H locs hz7 I => ?_)
  replace I : Iv G (va_A (bY G yd td tha ++ (bK G td tra ++ [])) s0.heap.size) s0 H locs (bY G yd td tha ++ (bK G td s5 ++ [])) := Iv.perm (w := ((bY G yd td tha ++ (bK G td s5 ++ []))) ++ []) I (pasc2.symm)
  refine lv_iconst (v := 3) hx hb dX1_bars_14 (by decide) ?_
  refine lv_imul hx hb dX1_bars_15 ?_
  obtain ⟨rfl, rfl⟩ := some2 h
  exact e_i rfl XX hr I rfl dX1_bars_16
theorem kU_X4_26_X1 : KU RX4 26 RX1 RX4 ⟨"LifeNoes$Sayer", "bars", "(I)I"⟩ yX1_bars cX1_bars 2 (some .int) 1 := KU.mkO wd_893 wd_848 wd_849 wd_850 wd_9 wd_851 wd_846 wd_871 (by decide +kernel)
set_option maxHeartbeats 4000000 in
set_option maxRecDepth 100000 in
theorem c_Y2_Sayer_waits (l : Launch) (G : g_G) (OK : EOk G.2.2) (yd : Nat → Nat) (td : Nat → Nat) (tha : g_St) (tra : g_St) (x1 : Int32) (r : Int32) (ttr : g_St) (h : f_Y2_Sayer_waits tha tra x1 = some (r, ttr)) : HI l G yX4_waits (Cond.code yX4_waits cX4_waits 2 (some .int) :: gT) { frames := 3, cells := 0, slots := 0, locals := 63 } .int [.ref (yd 2), .int x1] (bY G yd td tha ++ (bK G td tra ++ [])) r (bY G yd td tha ++ (bK G td ttr ++ [])) := by
  refine HI.mk (lv := [(0, .ref (yd 2)), (1, .int x1)]) OK (by decide) (Nat.le_of_ble_eq_true rfl) rfl ?_
  intro p e s0 m args below meth c ls XX hr I hl
  have hx := XX.x
  have hb := XX.b
  unfold f_Y2_Sayer_waits at h
  refine lv_aload_n hx hb dX4_waits_0 rfl (lv_at hl 0 rfl) ?_
  refine gY_X4_y20_trace XX I dX4_waits_1 ?_
  refine lv_bipush (v := 11) hx hb dX4_waits_4 (by decide) ?_
  obtain ⟨s1, q2, h⟩ := bd1_some h
  have RC := (Rc.mk XX I (q0 := 6) (ci := 8) rfl rfl)
  replace I : Iv G (va_A (bY G yd td tha ++ (bK G td tra ++ [])) s0.heap.size) s0 _ _ ((bK G td tra) ++ (bY G yd td tha ++ [])) := I.perm ((List.Perm.append_left _ (List.Perm.refl _)).trans (List.perm_append_comm_assoc _ _ _))
  refine call_v (X := []) (wc := (bK G td tra)) (Y := (bY G yd td tha ++ [])) (rest := []) XX I hl.1 (c_K_begin l G OK td tra (11 : Int32) s1 q2) kV_X4_20 RC rfl rfl (Nat.le_of_ble_eq_true rfl) ⟨rfl, rfl, Nat.le_of_ble_eq_true rfl, Nat.le_of_ble_eq_true rfl⟩ ⟨Nat.zero_le _, Nat.zero_le _⟩ dX4_waits_6 (fun H locs I => ?_)
  replace I : Iv G (va_A (bY G yd td tha ++ (bK G td tra ++ [])) s0.heap.size) s0 H locs (bY G yd td tha ++ (bK G td s1 ++ [])) := Iv.perm (w := (bK G td s1) ++ (bY G yd td tha ++ [])) I (((List.Perm.append_left _ (List.Perm.refl _)).trans (List.perm_append_comm_assoc _ _ _)).symm)
  refine lv_aload_n hx hb dX4_waits_9 rfl (lv_at hl 0 rfl) ?_
  refine lv_iload_n hx hb dX4_waits_10 rfl (lv_at hl 1 rfl) ?_
  obtain ⟨r4, s5, q6, h⟩ := bd2_some h
  have RC := (Rc.mk XX I (q0 := 2) (ci := 1) rfl rfl)
  replace I : Iv G (va_A (bY G yd td tha ++ (bK G td tra ++ [])) s0.heap.size) s0 _ _ (((bY G yd td tha ++ (bK G td s1 ++ []))) ++ []) := I.perm pasc2
  refine ucall_i (X := []) (wc := (bY G yd td tha ++ (bK G td s1 ++ []))) (Y := []) (rest := []) XX I hl.1 (c_Y2_Bar_bars l G OK yd td tha s1 x1 r4 s5 q6) kU_X4_26_X1 RC rfl rfl (Nat.le_of_ble_eq_true rfl) ⟨rfl, rfl, Nat.le_of_ble_eq_true rfl, Nat.le_of_ble_eq_true rfl⟩ ⟨Nat.zero_le _, Nat.zero_le _⟩ dX4_waits_11 (fun H locs hz7 I => ?_)
  replace I : Iv G (va_A (bY G yd td tha ++ (bK G td tra ++ [])) s0.heap.size) s0 H locs (bY G yd td tha ++ (bK G td s5 ++ [])) := Iv.perm (w := ((bY G yd td tha ++ (bK G td s5 ++ []))) ++ []) I (pasc2.symm)
  refine lv_iconst (v := 2) hx hb dX4_waits_14 (by decide) ?_
  refine lv_imul hx hb dX4_waits_15 ?_
  obtain ⟨rfl, rfl⟩ := some2 h
  exact e_i rfl XX hr I rfl dX4_waits_16
theorem gY_X4_y20_a {p : Program} {l : Launch} {e : Env} {R : Room} {s0 : State} {m : MethodId} {args : Array Value} {below : List Frame} {meth : Method} {c : Code} {H : Heap} {locs : List Loc} {cells slots : Nat} {Q : State → Prop} {cc : ByteArray} {nL pc : Nat} {ls : Array Slot} {rest : List Value} {G : g_G} {A : Nat → Prop} {yd : Nat → Nat} {td : Nat → Nat} {th : g_St} {tr : g_St} (XX : Cx G A p s0 m meth c cc nL RX4 args) (I : Iv G A s0 H locs (bY G yd td th ++ (bK G td tr ++ []))) (hdg : decode cc pc = .ok (.getfield 13, 3)) (kk : W p l e R s0 m args below meth c H locs cells slots Q (F0 m (pc + 3) ls (.int (gi th 12) :: rest))) : W p l e R s0 m args below meth c H locs cells slots Q (F0 m pc ls (.ref (yd 2) :: rest)) := r_get kfX1 XX I 2 rfl 2 (Nat.le_of_ble_eq_true rfl) wd_222 rfl hdg kk
set_option maxHeartbeats 4000000 in
set_option maxRecDepth 100000 in
theorem c_Y2_Sayer_shares (l : Launch) (G : g_G) (OK : EOk G.2.2) (yd : Nat → Nat) (td : Nat → Nat) (tha : g_St) (tra : g_St) (x1 : Int32) (r : Int32) (ttr : g_St) (h : f_Y2_Sayer_shares tha tra x1 = some (r, ttr)) : HI l G yX4_shares (Cond.code yX4_shares cX4_shares 2 (some .int) :: gT) { frames := 1, cells := 0, slots := 0, locals := 21 } .int [.ref (yd 2), .int x1] (bY G yd td tha ++ (bK G td tra ++ [])) r (bY G yd td tha ++ (bK G td ttr ++ [])) := by
  refine HI.mk (lv := [(0, .ref (yd 2)), (1, .int x1)]) OK (by decide) (Nat.le_of_ble_eq_true rfl) rfl ?_
  intro p e s0 m args below meth c ls XX hr I hl
  have hx := XX.x
  have hb := XX.b
  unfold f_Y2_Sayer_shares at h
  refine lv_aload_n hx hb dX4_shares_0 rfl (lv_at hl 0 rfl) ?_
  refine gY_X4_y20_trace XX I dX4_shares_1 ?_
  refine lv_bipush (v := 12) hx hb dX4_shares_4 (by decide) ?_
  obtain ⟨s1, q2, h⟩ := bd1_some h
  have RC := (Rc.mk XX I (q0 := 6) (ci := 8) rfl rfl)
  replace I : Iv G (va_A (bY G yd td tha ++ (bK G td tra ++ [])) s0.heap.size) s0 _ _ ((bK G td tra) ++ (bY G yd td tha ++ [])) := I.perm ((List.Perm.append_left _ (List.Perm.refl _)).trans (List.perm_append_comm_assoc _ _ _))
  refine call_v (X := []) (wc := (bK G td tra)) (Y := (bY G yd td tha ++ [])) (rest := []) XX I hl.1 (c_K_begin l G OK td tra (12 : Int32) s1 q2) kV_X4_20 RC rfl rfl (Nat.le_of_ble_eq_true rfl) ⟨rfl, rfl, Nat.le_of_ble_eq_true rfl, Nat.le_of_ble_eq_true rfl⟩ ⟨Nat.zero_le _, Nat.zero_le _⟩ dX4_shares_6 (fun H locs I => ?_)
  replace I : Iv G (va_A (bY G yd td tha ++ (bK G td tra ++ [])) s0.heap.size) s0 H locs (bY G yd td tha ++ (bK G td s1 ++ [])) := Iv.perm (w := (bK G td s1) ++ (bY G yd td tha ++ [])) I (((List.Perm.append_left _ (List.Perm.refl _)).trans (List.perm_append_comm_assoc _ _ _)).symm)
  refine lv_aload_n hx hb dX4_shares_9 rfl (lv_at hl 0 rfl) ?_
  refine gY_X4_y20_a XX I dX4_shares_10 ?_
  refine lv_aload_n hx hb dX4_shares_13 rfl (lv_at hl 0 rfl) ?_
  refine gY_X4_y20_n XX I dX4_shares_14 ?_
  refine lv_icmp_ne (tgt := 30) hx hb dX4_shares_17 (by decide) (fun c1 => ?_) (fun c1 => ?_)
  · replace h := if_f h c1
    refine lv_iload_n hx hb dX4_shares_30 rfl (lv_at hl 1 rfl) ?_
    refine lv_aload_n hx hb dX4_shares_31 rfl (lv_at hl 0 rfl) ?_
    refine gY_X4_y20_a XX I dX4_shares_32 ?_
    refine lv_aload_n hx hb dX4_shares_35 rfl (lv_at hl 0 rfl) ?_
    refine gY_X4_y20_n XX I dX4_shares_36 ?_
    refine lv_isub hx hb dX4_shares_39 ?_
    obtain ⟨g4, h⟩ := gd_some h
    refine lv_idiv hx hb dX4_shares_40 g4 ?_
    obtain ⟨rfl, rfl⟩ := some2 h
    exact e_i rfl XX hr I rfl dX4_shares_41
  · replace h := if_t h c1
    refine lv_aload_n hx hb dX4_shares_20 rfl (lv_at hl 0 rfl) ?_
    refine gY_X4_y20_trace XX I dX4_shares_21 ?_
    refine lv_iconst (v := 1) hx hb dX4_shares_24 (by decide) ?_
    refine pY_X4_o1_parted XX I (rfl) dX4_shares_25 (fun H locs I => ?_)
    obtain ⟨s5, es5⟩ : ∃ z, z = si s1 2 (1 : Int32) := ⟨_, rfl⟩
    replace h := lt_e h es5
    replace I : Iv G (va_A (bY G yd td tha ++ (bK G td tra ++ [])) s0.heap.size) s0 H locs (bY G yd td tha ++ (bK G td s5 ++ [])) := by rw [es5]; exact I
    refine lv_iconst (v := 0) hx hb dX4_shares_28 (by decide) ?_
    obtain ⟨rfl, rfl⟩ := some2 h
    exact e_i rfl XX hr I rfl dX4_shares_29
theorem kU_X4_34_X1 : KU RX4 34 RX1 RX4 ⟨"LifeNoes$Sayer", "waits", "(I)I"⟩ yX4_waits cX4_waits 2 (some .int) 1 := KU.mkU wd_936 wd_876 wd_877 wd_874 wd_7 wd_892 rfl (by decide +kernel)
set_option maxHeartbeats 4000000 in
set_option maxRecDepth 100000 in
theorem c_Y2_Sayer_tells (l : Launch) (G : g_G) (OK : EOk G.2.2) (yd : Nat → Nat) (td : Nat → Nat) (tha : g_St) (tra : g_St) (x1 : Int32) (r : Int32) (ttr : g_St) (h : f_Y2_Sayer_tells tha tra x1 = some (r, ttr)) : HI l G yX4_tells (Cond.code yX4_tells cX4_tells 2 (some .int) :: gT) { frames := 4, cells := 0, slots := 0, locals := 84 } .int [.ref (yd 2), .int x1] (bY G yd td tha ++ (bK G td tra ++ [])) r (bY G yd td tha ++ (bK G td ttr ++ [])) := by
  refine HI.mk (lv := [(0, .ref (yd 2)), (1, .int x1)]) OK (by decide) (Nat.le_of_ble_eq_true rfl) rfl ?_
  intro p e s0 m args below meth c ls XX hr I hl
  have hx := XX.x
  have hb := XX.b
  unfold f_Y2_Sayer_tells at h
  refine lv_aload_n hx hb dX4_tells_0 rfl (lv_at hl 0 rfl) ?_
  refine gY_X4_y20_trace XX I dX4_tells_1 ?_
  refine lv_bipush (v := 13) hx hb dX4_tells_4 (by decide) ?_
  obtain ⟨s1, q2, h⟩ := bd1_some h
  have RC := (Rc.mk XX I (q0 := 6) (ci := 8) rfl rfl)
  replace I : Iv G (va_A (bY G yd td tha ++ (bK G td tra ++ [])) s0.heap.size) s0 _ _ ((bK G td tra) ++ (bY G yd td tha ++ [])) := I.perm ((List.Perm.append_left _ (List.Perm.refl _)).trans (List.perm_append_comm_assoc _ _ _))
  refine call_v (X := []) (wc := (bK G td tra)) (Y := (bY G yd td tha ++ [])) (rest := []) XX I hl.1 (c_K_begin l G OK td tra (13 : Int32) s1 q2) kV_X4_20 RC rfl rfl (Nat.le_of_ble_eq_true rfl) ⟨rfl, rfl, Nat.le_of_ble_eq_true rfl, Nat.le_of_ble_eq_true rfl⟩ ⟨Nat.zero_le _, Nat.zero_le _⟩ dX4_tells_6 (fun H locs I => ?_)
  replace I : Iv G (va_A (bY G yd td tha ++ (bK G td tra ++ [])) s0.heap.size) s0 H locs (bY G yd td tha ++ (bK G td s1 ++ [])) := Iv.perm (w := (bK G td s1) ++ (bY G yd td tha ++ [])) I (((List.Perm.append_left _ (List.Perm.refl _)).trans (List.perm_append_comm_assoc _ _ _)).symm)
  refine lv_aload_n hx hb dX4_tells_9 rfl (lv_at hl 0 rfl) ?_
  refine lv_iload_n hx hb dX4_tells_10 rfl (lv_at hl 1 rfl) ?_
  obtain ⟨r4, s5, q6, h⟩ := bd2_some h
  have RC := (Rc.mk XX I (q0 := 2) (ci := 1) rfl rfl)
  replace I : Iv G (va_A (bY G yd td tha ++ (bK G td tra ++ [])) s0.heap.size) s0 _ _ (((bY G yd td tha ++ (bK G td s1 ++ []))) ++ []) := I.perm pasc2
  refine ucall_i (X := []) (wc := (bY G yd td tha ++ (bK G td s1 ++ []))) (Y := []) (rest := []) XX I hl.1 (c_Y2_Sayer_waits l G OK yd td tha s1 x1 r4 s5 q6) kU_X4_34_X1 RC rfl rfl (Nat.le_of_ble_eq_true rfl) ⟨rfl, rfl, Nat.le_of_ble_eq_true rfl, Nat.le_of_ble_eq_true rfl⟩ ⟨Nat.zero_le _, Nat.zero_le _⟩ dX4_tells_11 (fun H locs hz7 I => ?_)
  replace I : Iv G (va_A (bY G yd td tha ++ (bK G td tra ++ [])) s0.heap.size) s0 H locs (bY G yd td tha ++ (bK G td s5 ++ [])) := Iv.perm (w := ((bY G yd td tha ++ (bK G td s5 ++ []))) ++ []) I (pasc2.symm)
  refine lv_aload_n hx hb dX4_tells_14 rfl (lv_at hl 0 rfl) ?_
  refine gY_X4_y20_a XX I dX4_tells_15 ?_
  refine lv_ixor hx hb dX4_tells_18 ?_
  obtain ⟨rfl, rfl⟩ := some2 h
  exact e_i rfl XX hr I rfl dX4_tells_19
theorem kP_X1_23 : KP RX1 23 ⟨"LifeNoes$Sayer", "tells", "(I)I"⟩ yX4_tells cX4_tells 2 (some .int) 1 := ⟨wd_923, wd_919, wd_254, wd_917, wd_7, wd_935, rfl, by decide, (Or.inl rfl), by decide +kernel⟩
theorem kU_X1_30_X1 : KU RX1 30 RX1 RX4 ⟨"LifeNoes$Bar", "shares", "(I)I"⟩ yX4_shares cX4_shares 2 (some .int) 1 := KU.mkU wd_924 wd_925 wd_926 wd_895 wd_7 wd_915 rfl (by decide +kernel)
theorem gY_X1_y20_n {p : Program} {l : Launch} {e : Env} {R : Room} {s0 : State} {m : MethodId} {args : Array Value} {below : List Frame} {meth : Method} {c : Code} {H : Heap} {locs : List Loc} {cells slots : Nat} {Q : State → Prop} {cc : ByteArray} {nL pc : Nat} {ls : Array Slot} {rest : List Value} {G : g_G} {A : Nat → Prop} {yd : Nat → Nat} {td : Nat → Nat} {th : g_St} {tr : g_St} (XX : Cx G A p s0 m meth c cc nL RX1 args) (I : Iv G A s0 H locs (bY G yd td th ++ (bK G td tr ++ []))) (hdg : decode cc pc = .ok (.getfield 26, 3)) (kk : W p l e R s0 m args below meth c H locs cells slots Q (F0 m (pc + 3) ls (.int (gi th 2) :: rest))) : W p l e R s0 m args below meth c H locs cells slots Q (F0 m pc ls (.ref (yd 2) :: rest)) := r_getS (ref := RX1) kfX1 XX I 2 rfl 1 (Nat.le_of_ble_eq_true rfl) wd_219 wd_220 rfl hdg kk
set_option maxHeartbeats 4000000 in
set_option maxRecDepth 100000 in
theorem c_Y2_Bar_tells (l : Launch) (G : g_G) (OK : EOk G.2.2) (yd : Nat → Nat) (td : Nat → Nat) (tha : g_St) (tra : g_St) (x1 : Int32) (r : Int32) (ttr : g_St) (h : f_Y2_Bar_tells tha tra x1 = some (r, ttr)) : HI l G yX1_tells (Cond.code yX1_tells cX1_tells 2 (some .int) :: gT) { frames := 5, cells := 0, slots := 0, locals := 105 } .int [.ref (yd 2), .int x1] (bY G yd td tha ++ (bK G td tra ++ [])) r (bY G yd td tha ++ (bK G td ttr ++ [])) := by
  refine HI.mk (lv := [(0, .ref (yd 2)), (1, .int x1)]) OK (by decide) (Nat.le_of_ble_eq_true rfl) rfl ?_
  intro p e s0 m args below meth c ls XX hr I hl
  have hx := XX.x
  have hb := XX.b
  unfold f_Y2_Bar_tells at h
  refine lv_aload_n hx hb dX1_tells_0 rfl (lv_at hl 0 rfl) ?_
  refine gY_X1_y20_trace XX I dX1_tells_1 ?_
  refine lv_bipush (v := 31) hx hb dX1_tells_4 (by decide) ?_
  obtain ⟨s1, q2, h⟩ := bd1_some h
  have RC := (Rc.mk XX I (q0 := 6) (ci := 8) rfl rfl)
  replace I : Iv G (va_A (bY G yd td tha ++ (bK G td tra ++ [])) s0.heap.size) s0 _ _ ((bK G td tra) ++ (bY G yd td tha ++ [])) := I.perm ((List.Perm.append_left _ (List.Perm.refl _)).trans (List.perm_append_comm_assoc _ _ _))
  refine call_v (X := []) (wc := (bK G td tra)) (Y := (bY G yd td tha ++ [])) (rest := []) XX I hl.1 (c_K_begin l G OK td tra (31 : Int32) s1 q2) kV_X1_13 RC rfl rfl (Nat.le_of_ble_eq_true rfl) ⟨rfl, rfl, Nat.le_of_ble_eq_true rfl, Nat.le_of_ble_eq_true rfl⟩ ⟨Nat.zero_le _, Nat.zero_le _⟩ dX1_tells_6 (fun H locs I => ?_)
  replace I : Iv G (va_A (bY G yd td tha ++ (bK G td tra ++ [])) s0.heap.size) s0 H locs (bY G yd td tha ++ (bK G td s1 ++ [])) := Iv.perm (w := (bK G td s1) ++ (bY G yd td tha ++ [])) I (((List.Perm.append_left _ (List.Perm.refl _)).trans (List.perm_append_comm_assoc _ _ _)).symm)
  refine lv_aload_n hx hb dX1_tells_9 rfl (lv_at hl 0 rfl) ?_
  refine lv_iload_n hx hb dX1_tells_10 rfl (lv_at hl 1 rfl) ?_
  obtain ⟨r4, s5, q6, h⟩ := bd2_some h
  have RC := (Rc.mk XX I (q0 := 2) (ci := 1) rfl rfl)
  replace I : Iv G (va_A (bY G yd td tha ++ (bK G td tra ++ [])) s0.heap.size) s0 _ _ (((bY G yd td tha ++ (bK G td s1 ++ []))) ++ []) := I.perm pasc2
  refine pcall_i (X := []) (wc := (bY G yd td tha ++ (bK G td s1 ++ []))) (Y := []) (rest := []) XX I hl.1 (c_Y2_Sayer_tells l G OK yd td tha s1 x1 r4 s5 q6) kP_X1_23 RC (XX.at 1 rfl) rfl rfl (Nat.le_of_ble_eq_true rfl) ⟨rfl, rfl, Nat.le_of_ble_eq_true rfl, Nat.le_of_ble_eq_true rfl⟩ ⟨Nat.zero_le _, Nat.zero_le _⟩ dX1_tells_11 (fun H locs hz7 I => ?_)
  replace I : Iv G (va_A (bY G yd td tha ++ (bK G td tra ++ [])) s0.heap.size) s0 H locs (bY G yd td tha ++ (bK G td s5 ++ [])) := Iv.perm (w := ((bY G yd td tha ++ (bK G td s5 ++ []))) ++ []) I (pasc2.symm)
  refine lv_aload_n hx hb dX1_tells_14 rfl (lv_at hl 0 rfl) ?_
  refine lv_aload_n hx hb dX1_tells_15 rfl (lv_at hl 0 rfl) ?_
  refine gY_X1_y20_n XX I dX1_tells_16 ?_
  obtain ⟨r8, s9, q10, h⟩ := bd2_some h
  have RC := (Rc.mk XX I (q0 := 2) (ci := 1) rfl rfl)
  replace I : Iv G (va_A (bY G yd td tha ++ (bK G td tra ++ [])) s0.heap.size) s0 _ _ (((bY G yd td tha ++ (bK G td s5 ++ []))) ++ []) := I.perm pasc2
  refine ucall_i (X := []) (wc := (bY G yd td tha ++ (bK G td s5 ++ []))) (Y := []) (rest := [.int r4]) XX I hl.1 (c_Y2_Sayer_shares l G OK yd td tha s5 (gi tha 2) r8 s9 q10) kU_X1_30_X1 RC rfl rfl (Nat.le_of_ble_eq_true rfl) ⟨rfl, rfl, Nat.le_of_ble_eq_true rfl, Nat.le_of_ble_eq_true rfl⟩ ⟨Nat.zero_le _, Nat.zero_le _⟩ dX1_tells_19 (fun H locs hz11 I => ?_)
  replace I : Iv G (va_A (bY G yd td tha ++ (bK G td tra ++ [])) s0.heap.size) s0 H locs (bY G yd td tha ++ (bK G td s9 ++ [])) := Iv.perm (w := ((bY G yd td tha ++ (bK G td s9 ++ []))) ++ []) I (pasc2.symm)
  refine lv_iadd hx hb dX1_tells_22 ?_
  obtain ⟨rfl, rfl⟩ := some2 h
  exact e_i rfl XX hr I rfl dX1_tells_23
theorem gY_X4_y30_trace {p : Program} {l : Launch} {e : Env} {R : Room} {s0 : State} {m : MethodId} {args : Array Value} {below : List Frame} {meth : Method} {c : Code} {H : Heap} {locs : List Loc} {cells slots : Nat} {Q : State → Prop} {cc : ByteArray} {nL pc : Nat} {ls : Array Slot} {rest : List Value} {G : g_G} {A : Nat → Prop} {yd : Nat → Nat} {td : Nat → Nat} {th : g_St} {tr : g_St} (XX : Cx G A p s0 m meth c cc nL RX4 args) (I : Iv G A s0 H locs (bY G yd td th ++ (bK G td tr ++ []))) (hdg : decode cc pc = .ok (.getfield 16, 3)) (kk : W p l e R s0 m args below meth c H locs cells slots Q (F0 m (pc + 3) ls (.ref (td 0) :: rest))) : W p l e R s0 m args below meth c H locs cells slots Q (F0 m pc ls (.ref (yd 3) :: rest)) := r_get kfX10 XX I 3 rfl 0 (Nat.le_of_ble_eq_true rfl) wd_203 rfl hdg kk
theorem gY_X4_y30_n {p : Program} {l : Launch} {e : Env} {R : Room} {s0 : State} {m : MethodId} {args : Array Value} {below : List Frame} {meth : Method} {c : Code} {H : Heap} {locs : List Loc} {cells slots : Nat} {Q : State → Prop} {cc : ByteArray} {nL pc : Nat} {ls : Array Slot} {rest : List Value} {G : g_G} {A : Nat → Prop} {yd : Nat → Nat} {td : Nat → Nat} {th : g_St} {tr : g_St} (XX : Cx G A p s0 m meth c cc nL RX4 args) (I : Iv G A s0 H locs (bY G yd td th ++ (bK G td tr ++ []))) (hdg : decode cc pc = .ok (.getfield 7, 3)) (kk : W p l e R s0 m args below meth c H locs cells slots Q (F0 m (pc + 3) ls (.int (gi th 3) :: rest))) : W p l e R s0 m args below meth c H locs cells slots Q (F0 m pc ls (.ref (yd 3) :: rest)) := r_get kfX10 XX I 3 rfl 1 (Nat.le_of_ble_eq_true rfl) wd_214 rfl hdg kk
set_option maxHeartbeats 4000000 in
set_option maxRecDepth 100000 in
theorem c_Y3_Sayer_bars (l : Launch) (G : g_G) (OK : EOk G.2.2) (yd : Nat → Nat) (td : Nat → Nat) (tha : g_St) (tra : g_St) (x1 : Int32) (r : Int32) (ttr : g_St) (h : f_Y3_Sayer_bars tha tra x1 = some (r, ttr)) : HI l G yX4_bars (Cond.code yX4_bars cX4_bars 2 (some .int) :: gT) { frames := 1, cells := 0, slots := 0, locals := 21 } .int [.ref (yd 3), .int x1] (bY G yd td tha ++ (bK G td tra ++ [])) r (bY G yd td tha ++ (bK G td ttr ++ [])) := by
  refine HI.mk (lv := [(0, .ref (yd 3)), (1, .int x1)]) OK (by decide) (Nat.le_of_ble_eq_true rfl) rfl ?_
  intro p e s0 m args below meth c ls XX hr I hl
  have hx := XX.x
  have hb := XX.b
  unfold f_Y3_Sayer_bars at h
  refine lv_aload_n hx hb dX4_bars_0 rfl (lv_at hl 0 rfl) ?_
  refine gY_X4_y30_trace XX I dX4_bars_1 ?_
  refine lv_bipush (v := 10) hx hb dX4_bars_4 (by decide) ?_
  obtain ⟨s1, q2, h⟩ := bd1_some h
  have RC := (Rc.mk XX I (q0 := 6) (ci := 8) rfl rfl)
  replace I : Iv G (va_A (bY G yd td tha ++ (bK G td tra ++ [])) s0.heap.size) s0 _ _ ((bK G td tra) ++ (bY G yd td tha ++ [])) := I.perm ((List.Perm.append_left _ (List.Perm.refl _)).trans (List.perm_append_comm_assoc _ _ _))
  refine call_v (X := []) (wc := (bK G td tra)) (Y := (bY G yd td tha ++ [])) (rest := []) XX I hl.1 (c_K_begin l G OK td tra (10 : Int32) s1 q2) kV_X4_20 RC rfl rfl (Nat.le_of_ble_eq_true rfl) ⟨rfl, rfl, Nat.le_of_ble_eq_true rfl, Nat.le_of_ble_eq_true rfl⟩ ⟨Nat.zero_le _, Nat.zero_le _⟩ dX4_bars_6 (fun H locs I => ?_)
  replace I : Iv G (va_A (bY G yd td tha ++ (bK G td tra ++ [])) s0.heap.size) s0 H locs (bY G yd td tha ++ (bK G td s1 ++ [])) := Iv.perm (w := (bK G td s1) ++ (bY G yd td tha ++ [])) I (((List.Perm.append_left _ (List.Perm.refl _)).trans (List.perm_append_comm_assoc _ _ _)).symm)
  refine lv_iload_n hx hb dX4_bars_9 rfl (lv_at hl 1 rfl) ?_
  refine lv_aload_n hx hb dX4_bars_10 rfl (lv_at hl 0 rfl) ?_
  refine gY_X4_y30_n XX I dX4_bars_11 ?_
  refine lv_iadd hx hb dX4_bars_14 ?_
  obtain ⟨rfl, rfl⟩ := some2 h
  exact e_i rfl XX hr I rfl dX4_bars_15
theorem gY_X1_y30_trace {p : Program} {l : Launch} {e : Env} {R : Room} {s0 : State} {m : MethodId} {args : Array Value} {below : List Frame} {meth : Method} {c : Code} {H : Heap} {locs : List Loc} {cells slots : Nat} {Q : State → Prop} {cc : ByteArray} {nL pc : Nat} {ls : Array Slot} {rest : List Value} {G : g_G} {A : Nat → Prop} {yd : Nat → Nat} {td : Nat → Nat} {th : g_St} {tr : g_St} (XX : Cx G A p s0 m meth c cc nL RX1 args) (I : Iv G A s0 H locs (bY G yd td th ++ (bK G td tr ++ []))) (hdg : decode cc pc = .ok (.getfield 7, 3)) (kk : W p l e R s0 m args below meth c H locs cells slots Q (F0 m (pc + 3) ls (.ref (td 0) :: rest))) : W p l e R s0 m args below meth c H locs cells slots Q (F0 m pc ls (.ref (yd 3) :: rest)) := r_getS (ref := RX1) kfX10 XX I 3 rfl 0 (Nat.le_of_ble_eq_true rfl) wd_204 wd_205 rfl hdg kk
set_option maxHeartbeats 4000000 in
set_option maxRecDepth 100000 in
theorem c_Y3_Bar_bars (l : Launch) (G : g_G) (OK : EOk G.2.2) (yd : Nat → Nat) (td : Nat → Nat) (tha : g_St) (tra : g_St) (x1 : Int32) (r : Int32) (ttr : g_St) (h : f_Y3_Bar_bars tha tra x1 = some (r, ttr)) : HI l G yX1_bars (Cond.code yX1_bars cX1_bars 2 (some .int) :: gT) { frames := 2, cells := 0, slots := 0, locals := 42 } .int [.ref (yd 3), .int x1] (bY G yd td tha ++ (bK G td tra ++ [])) r (bY G yd td tha ++ (bK G td ttr ++ [])) := by
  refine HI.mk (lv := [(0, .ref (yd 3)), (1, .int x1)]) OK (by decide) (Nat.le_of_ble_eq_true rfl) rfl ?_
  intro p e s0 m args below meth c ls XX hr I hl
  have hx := XX.x
  have hb := XX.b
  unfold f_Y3_Bar_bars at h
  refine lv_aload_n hx hb dX1_bars_0 rfl (lv_at hl 0 rfl) ?_
  refine gY_X1_y30_trace XX I dX1_bars_1 ?_
  refine lv_bipush (v := 30) hx hb dX1_bars_4 (by decide) ?_
  obtain ⟨s1, q2, h⟩ := bd1_some h
  have RC := (Rc.mk XX I (q0 := 6) (ci := 8) rfl rfl)
  replace I : Iv G (va_A (bY G yd td tha ++ (bK G td tra ++ [])) s0.heap.size) s0 _ _ ((bK G td tra) ++ (bY G yd td tha ++ [])) := I.perm ((List.Perm.append_left _ (List.Perm.refl _)).trans (List.perm_append_comm_assoc _ _ _))
  refine call_v (X := []) (wc := (bK G td tra)) (Y := (bY G yd td tha ++ [])) (rest := []) XX I hl.1 (c_K_begin l G OK td tra (30 : Int32) s1 q2) kV_X1_13 RC rfl rfl (Nat.le_of_ble_eq_true rfl) ⟨rfl, rfl, Nat.le_of_ble_eq_true rfl, Nat.le_of_ble_eq_true rfl⟩ ⟨Nat.zero_le _, Nat.zero_le _⟩ dX1_bars_6 (fun H locs I => ?_)
  replace I : Iv G (va_A (bY G yd td tha ++ (bK G td tra ++ [])) s0.heap.size) s0 H locs (bY G yd td tha ++ (bK G td s1 ++ [])) := Iv.perm (w := (bK G td s1) ++ (bY G yd td tha ++ [])) I (((List.Perm.append_left _ (List.Perm.refl _)).trans (List.perm_append_comm_assoc _ _ _)).symm)
  refine lv_aload_n hx hb dX1_bars_9 rfl (lv_at hl 0 rfl) ?_
  refine lv_iload_n hx hb dX1_bars_10 rfl (lv_at hl 1 rfl) ?_
  obtain ⟨r4, s5, q6, h⟩ := bd2_some h
  have RC := (Rc.mk XX I (q0 := 3) (ci := 10) rfl rfl)
  replace I : Iv G (va_A (bY G yd td tha ++ (bK G td tra ++ [])) s0.heap.size) s0 _ _ (((bY G yd td tha ++ (bK G td s1 ++ []))) ++ []) := I.perm pasc2
  refine pcall_i (X := []) (wc := (bY G yd td tha ++ (bK G td s1 ++ []))) (Y := []) (rest := []) XX I hl.1 (c_Y3_Sayer_bars l G OK yd td tha s1 x1 r4 s5 q6) kP_X1_19 RC (XX.at 10 rfl) rfl rfl (Nat.le_of_ble_eq_true rfl) ⟨rfl, rfl, Nat.le_of_ble_eq_true rfl, Nat.le_of_ble_eq_true rfl⟩ ⟨Nat.zero_le _, Nat.zero_le _⟩ dX1_bars_11 (fun H locs hz7 I => ?_)
  replace I : Iv G (va_A (bY G yd td tha ++ (bK G td tra ++ [])) s0.heap.size) s0 H locs (bY G yd td tha ++ (bK G td s5 ++ [])) := Iv.perm (w := ((bY G yd td tha ++ (bK G td s5 ++ []))) ++ []) I (pasc2.symm)
  refine lv_iconst (v := 3) hx hb dX1_bars_14 (by decide) ?_
  refine lv_imul hx hb dX1_bars_15 ?_
  obtain ⟨rfl, rfl⟩ := some2 h
  exact e_i rfl XX hr I rfl dX1_bars_16
theorem kV_X10_13 : KV RX10 13 RX8 yX8_begin cX8_begin 2 none 1 := KV.mk wd_869 wd_853 wd_854 wd_6 wd_855 (by decide +kernel)
theorem kP_X10_19 : KP RX10 19 ⟨"LifeNoes$Bar", "bars", "(I)I"⟩ yX1_bars cX1_bars 2 (some .int) 1 := ⟨wd_870, wd_1567, wd_264, wd_850, wd_9, wd_851, rfl, by decide, (Or.inl rfl), by decide +kernel⟩
theorem gY_X10_y30_trace {p : Program} {l : Launch} {e : Env} {R : Room} {s0 : State} {m : MethodId} {args : Array Value} {below : List Frame} {meth : Method} {c : Code} {H : Heap} {locs : List Loc} {cells slots : Nat} {Q : State → Prop} {cc : ByteArray} {nL pc : Nat} {ls : Array Slot} {rest : List Value} {G : g_G} {A : Nat → Prop} {yd : Nat → Nat} {td : Nat → Nat} {th : g_St} {tr : g_St} (XX : Cx G A p s0 m meth c cc nL RX10 args) (I : Iv G A s0 H locs (bY G yd td th ++ (bK G td tr ++ []))) (hdg : decode cc pc = .ok (.getfield 7, 3)) (kk : W p l e R s0 m args below meth c H locs cells slots Q (F0 m (pc + 3) ls (.ref (td 0) :: rest))) : W p l e R s0 m args below meth c H locs cells slots Q (F0 m pc ls (.ref (yd 3) :: rest)) := r_getS (ref := RX10) kfX10 XX I 3 rfl 0 (Nat.le_of_ble_eq_true rfl) wd_208 wd_209 rfl hdg kk
set_option maxHeartbeats 4000000 in
set_option maxRecDepth 100000 in
theorem c_Y3_Wait_bars (l : Launch) (G : g_G) (OK : EOk G.2.2) (yd : Nat → Nat) (td : Nat → Nat) (tha : g_St) (tra : g_St) (x1 : Int32) (r : Int32) (ttr : g_St) (h : f_Y3_Wait_bars tha tra x1 = some (r, ttr)) : HI l G yX10_bars (Cond.code yX10_bars cX10_bars 2 (some .int) :: gT) { frames := 3, cells := 0, slots := 0, locals := 63 } .int [.ref (yd 3), .int x1] (bY G yd td tha ++ (bK G td tra ++ [])) r (bY G yd td tha ++ (bK G td ttr ++ [])) := by
  refine HI.mk (lv := [(0, .ref (yd 3)), (1, .int x1)]) OK (by decide) (Nat.le_of_ble_eq_true rfl) rfl ?_
  intro p e s0 m args below meth c ls XX hr I hl
  have hx := XX.x
  have hb := XX.b
  unfold f_Y3_Wait_bars at h
  refine lv_aload_n hx hb dX10_bars_0 rfl (lv_at hl 0 rfl) ?_
  refine gY_X10_y30_trace XX I dX10_bars_1 ?_
  refine lv_bipush (v := 40) hx hb dX10_bars_4 (by decide) ?_
  obtain ⟨s1, q2, h⟩ := bd1_some h
  have RC := (Rc.mk XX I (q0 := 6) (ci := 8) rfl rfl)
  replace I : Iv G (va_A (bY G yd td tha ++ (bK G td tra ++ [])) s0.heap.size) s0 _ _ ((bK G td tra) ++ (bY G yd td tha ++ [])) := I.perm ((List.Perm.append_left _ (List.Perm.refl _)).trans (List.perm_append_comm_assoc _ _ _))
  refine call_v (X := []) (wc := (bK G td tra)) (Y := (bY G yd td tha ++ [])) (rest := []) XX I hl.1 (c_K_begin l G OK td tra (40 : Int32) s1 q2) kV_X10_13 RC rfl rfl (Nat.le_of_ble_eq_true rfl) ⟨rfl, rfl, Nat.le_of_ble_eq_true rfl, Nat.le_of_ble_eq_true rfl⟩ ⟨Nat.zero_le _, Nat.zero_le _⟩ dX10_bars_6 (fun H locs I => ?_)
  replace I : Iv G (va_A (bY G yd td tha ++ (bK G td tra ++ [])) s0.heap.size) s0 H locs (bY G yd td tha ++ (bK G td s1 ++ [])) := Iv.perm (w := (bK G td s1) ++ (bY G yd td tha ++ [])) I (((List.Perm.append_left _ (List.Perm.refl _)).trans (List.perm_append_comm_assoc _ _ _)).symm)
  refine lv_iconst (v := 0) hx hb dX10_bars_9 (by decide) ?_
  refine lv_aload_n hx hb dX10_bars_10 rfl (lv_at hl 0 rfl) ?_
  refine lv_iload_n hx hb dX10_bars_11 rfl (lv_at hl 1 rfl) ?_
  obtain ⟨r4, s5, q6, h⟩ := bd2_some h
  have RC := (Rc.mk XX I (q0 := 3) (ci := 10) rfl rfl)
  replace I : Iv G (va_A (bY G yd td tha ++ (bK G td tra ++ [])) s0.heap.size) s0 _ _ (((bY G yd td tha ++ (bK G td s1 ++ []))) ++ []) := I.perm pasc2
  refine pcall_i (X := []) (wc := (bY G yd td tha ++ (bK G td s1 ++ []))) (Y := []) (rest := [.int (0 : Int32)]) XX I hl.1 (c_Y3_Bar_bars l G OK yd td tha s1 x1 r4 s5 q6) kP_X10_19 RC (XX.at 10 rfl) rfl rfl (Nat.le_of_ble_eq_true rfl) ⟨rfl, rfl, Nat.le_of_ble_eq_true rfl, Nat.le_of_ble_eq_true rfl⟩ ⟨Nat.zero_le _, Nat.zero_le _⟩ dX10_bars_12 (fun H locs hz7 I => ?_)
  replace I : Iv G (va_A (bY G yd td tha ++ (bK G td tra ++ [])) s0.heap.size) s0 H locs (bY G yd td tha ++ (bK G td s5 ++ [])) := Iv.perm (w := ((bY G yd td tha ++ (bK G td s5 ++ []))) ++ []) I (pasc2.symm)
  refine lv_isub hx hb dX10_bars_15 ?_
  obtain ⟨rfl, rfl⟩ := some2 h
  exact e_i rfl XX hr I rfl dX10_bars_16
theorem kU_X4_26_X10 : KU RX4 26 RX10 RX4 ⟨"LifeNoes$Sayer", "bars", "(I)I"⟩ yX10_bars cX10_bars 2 (some .int) 1 := KU.mkO wd_893 wd_848 wd_866 wd_867 wd_10 wd_868 wd_846 wd_871 (by decide +kernel)
set_option maxHeartbeats 4000000 in
set_option maxRecDepth 100000 in
theorem c_Y3_Sayer_waits (l : Launch) (G : g_G) (OK : EOk G.2.2) (yd : Nat → Nat) (td : Nat → Nat) (tha : g_St) (tra : g_St) (x1 : Int32) (r : Int32) (ttr : g_St) (h : f_Y3_Sayer_waits tha tra x1 = some (r, ttr)) : HI l G yX4_waits (Cond.code yX4_waits cX4_waits 2 (some .int) :: gT) { frames := 4, cells := 0, slots := 0, locals := 84 } .int [.ref (yd 3), .int x1] (bY G yd td tha ++ (bK G td tra ++ [])) r (bY G yd td tha ++ (bK G td ttr ++ [])) := by
  refine HI.mk (lv := [(0, .ref (yd 3)), (1, .int x1)]) OK (by decide) (Nat.le_of_ble_eq_true rfl) rfl ?_
  intro p e s0 m args below meth c ls XX hr I hl
  have hx := XX.x
  have hb := XX.b
  unfold f_Y3_Sayer_waits at h
  refine lv_aload_n hx hb dX4_waits_0 rfl (lv_at hl 0 rfl) ?_
  refine gY_X4_y30_trace XX I dX4_waits_1 ?_
  refine lv_bipush (v := 11) hx hb dX4_waits_4 (by decide) ?_
  obtain ⟨s1, q2, h⟩ := bd1_some h
  have RC := (Rc.mk XX I (q0 := 6) (ci := 8) rfl rfl)
  replace I : Iv G (va_A (bY G yd td tha ++ (bK G td tra ++ [])) s0.heap.size) s0 _ _ ((bK G td tra) ++ (bY G yd td tha ++ [])) := I.perm ((List.Perm.append_left _ (List.Perm.refl _)).trans (List.perm_append_comm_assoc _ _ _))
  refine call_v (X := []) (wc := (bK G td tra)) (Y := (bY G yd td tha ++ [])) (rest := []) XX I hl.1 (c_K_begin l G OK td tra (11 : Int32) s1 q2) kV_X4_20 RC rfl rfl (Nat.le_of_ble_eq_true rfl) ⟨rfl, rfl, Nat.le_of_ble_eq_true rfl, Nat.le_of_ble_eq_true rfl⟩ ⟨Nat.zero_le _, Nat.zero_le _⟩ dX4_waits_6 (fun H locs I => ?_)
  replace I : Iv G (va_A (bY G yd td tha ++ (bK G td tra ++ [])) s0.heap.size) s0 H locs (bY G yd td tha ++ (bK G td s1 ++ [])) := Iv.perm (w := (bK G td s1) ++ (bY G yd td tha ++ [])) I (((List.Perm.append_left _ (List.Perm.refl _)).trans (List.perm_append_comm_assoc _ _ _)).symm)
  refine lv_aload_n hx hb dX4_waits_9 rfl (lv_at hl 0 rfl) ?_
  refine lv_iload_n hx hb dX4_waits_10 rfl (lv_at hl 1 rfl) ?_
  obtain ⟨r4, s5, q6, h⟩ := bd2_some h
  have RC := (Rc.mk XX I (q0 := 3) (ci := 10) rfl rfl)
  replace I : Iv G (va_A (bY G yd td tha ++ (bK G td tra ++ [])) s0.heap.size) s0 _ _ (((bY G yd td tha ++ (bK G td s1 ++ []))) ++ []) := I.perm pasc2
  refine ucall_i (X := []) (wc := (bY G yd td tha ++ (bK G td s1 ++ []))) (Y := []) (rest := []) XX I hl.1 (c_Y3_Wait_bars l G OK yd td tha s1 x1 r4 s5 q6) kU_X4_26_X10 RC rfl rfl (Nat.le_of_ble_eq_true rfl) ⟨rfl, rfl, Nat.le_of_ble_eq_true rfl, Nat.le_of_ble_eq_true rfl⟩ ⟨Nat.zero_le _, Nat.zero_le _⟩ dX4_waits_11 (fun H locs hz7 I => ?_)
  replace I : Iv G (va_A (bY G yd td tha ++ (bK G td tra ++ [])) s0.heap.size) s0 H locs (bY G yd td tha ++ (bK G td s5 ++ [])) := Iv.perm (w := ((bY G yd td tha ++ (bK G td s5 ++ []))) ++ []) I (pasc2.symm)
  refine lv_iconst (v := 2) hx hb dX4_waits_14 (by decide) ?_
  refine lv_imul hx hb dX4_waits_15 ?_
  obtain ⟨rfl, rfl⟩ := some2 h
  exact e_i rfl XX hr I rfl dX4_waits_16
theorem kP_X10_23 : KP RX10 23 ⟨"LifeNoes$Bar", "waits", "(I)I"⟩ yX4_waits cX4_waits 2 (some .int) 1 := ⟨wd_888, wd_889, wd_264, wd_874, wd_7, wd_892, rfl, by decide, (Or.inr wd_254), by decide +kernel⟩
theorem kV_X10_30 : KV RX10 30 RX10 yX10_bars cX10_bars 2 (some .int) 1 := KV.mk wd_891 wd_867 wd_1568 wd_10 wd_868 (by decide +kernel)
theorem gY_X10_y30_n {p : Program} {l : Launch} {e : Env} {R : Room} {s0 : State} {m : MethodId} {args : Array Value} {below : List Frame} {meth : Method} {c : Code} {H : Heap} {locs : List Loc} {cells slots : Nat} {Q : State → Prop} {cc : ByteArray} {nL pc : Nat} {ls : Array Slot} {rest : List Value} {G : g_G} {A : Nat → Prop} {yd : Nat → Nat} {td : Nat → Nat} {th : g_St} {tr : g_St} (XX : Cx G A p s0 m meth c cc nL RX10 args) (I : Iv G A s0 H locs (bY G yd td th ++ (bK G td tr ++ []))) (hdg : decode cc pc = .ok (.getfield 26, 3)) (kk : W p l e R s0 m args below meth c H locs cells slots Q (F0 m (pc + 3) ls (.int (gi th 3) :: rest))) : W p l e R s0 m args below meth c H locs cells slots Q (F0 m pc ls (.ref (yd 3) :: rest)) := r_getS (ref := RX10) kfX10 XX I 3 rfl 1 (Nat.le_of_ble_eq_true rfl) wd_217 wd_218 rfl hdg kk
set_option maxHeartbeats 4000000 in
set_option maxRecDepth 100000 in
theorem c_Y3_Wait_waits (l : Launch) (G : g_G) (OK : EOk G.2.2) (yd : Nat → Nat) (td : Nat → Nat) (tha : g_St) (tra : g_St) (x1 : Int32) (r : Int32) (ttr : g_St) (h : f_Y3_Wait_waits tha tra x1 = some (r, ttr)) : HI l G yX10_waits (Cond.code yX10_waits cX10_waits 2 (some .int) :: gT) { frames := 5, cells := 0, slots := 0, locals := 105 } .int [.ref (yd 3), .int x1] (bY G yd td tha ++ (bK G td tra ++ [])) r (bY G yd td tha ++ (bK G td ttr ++ [])) := by
  refine HI.mk (lv := [(0, .ref (yd 3)), (1, .int x1)]) OK (by decide) (Nat.le_of_ble_eq_true rfl) rfl ?_
  intro p e s0 m args below meth c ls XX hr I hl
  have hx := XX.x
  have hb := XX.b
  unfold f_Y3_Wait_waits at h
  refine lv_aload_n hx hb dX10_waits_0 rfl (lv_at hl 0 rfl) ?_
  refine gY_X10_y30_trace XX I dX10_waits_1 ?_
  refine lv_bipush (v := 41) hx hb dX10_waits_4 (by decide) ?_
  obtain ⟨s1, q2, h⟩ := bd1_some h
  have RC := (Rc.mk XX I (q0 := 6) (ci := 8) rfl rfl)
  replace I : Iv G (va_A (bY G yd td tha ++ (bK G td tra ++ [])) s0.heap.size) s0 _ _ ((bK G td tra) ++ (bY G yd td tha ++ [])) := I.perm ((List.Perm.append_left _ (List.Perm.refl _)).trans (List.perm_append_comm_assoc _ _ _))
  refine call_v (X := []) (wc := (bK G td tra)) (Y := (bY G yd td tha ++ [])) (rest := []) XX I hl.1 (c_K_begin l G OK td tra (41 : Int32) s1 q2) kV_X10_13 RC rfl rfl (Nat.le_of_ble_eq_true rfl) ⟨rfl, rfl, Nat.le_of_ble_eq_true rfl, Nat.le_of_ble_eq_true rfl⟩ ⟨Nat.zero_le _, Nat.zero_le _⟩ dX10_waits_6 (fun H locs I => ?_)
  replace I : Iv G (va_A (bY G yd td tha ++ (bK G td tra ++ [])) s0.heap.size) s0 H locs (bY G yd td tha ++ (bK G td s1 ++ [])) := Iv.perm (w := (bK G td s1) ++ (bY G yd td tha ++ [])) I (((List.Perm.append_left _ (List.Perm.refl _)).trans (List.perm_append_comm_assoc _ _ _)).symm)
  refine lv_aload_n hx hb dX10_waits_9 rfl (lv_at hl 0 rfl) ?_
  refine lv_iload_n hx hb dX10_waits_10 rfl (lv_at hl 1 rfl) ?_
  obtain ⟨r4, s5, q6, h⟩ := bd2_some h
  have RC := (Rc.mk XX I (q0 := 3) (ci := 10) rfl rfl)
  replace I : Iv G (va_A (bY G yd td tha ++ (bK G td tra ++ [])) s0.heap.size) s0 _ _ (((bY G yd td tha ++ (bK G td s1 ++ []))) ++ []) := I.perm pasc2
  refine pcall_i (X := []) (wc := (bY G yd td tha ++ (bK G td s1 ++ []))) (Y := []) (rest := []) XX I hl.1 (c_Y3_Sayer_waits l G OK yd td tha s1 x1 r4 s5 q6) kP_X10_23 RC (XX.at 10 rfl) rfl rfl (Nat.le_of_ble_eq_true rfl) ⟨rfl, rfl, Nat.le_of_ble_eq_true rfl, Nat.le_of_ble_eq_true rfl⟩ ⟨Nat.zero_le _, Nat.zero_le _⟩ dX10_waits_11 (fun H locs hz7 I => ?_)
  replace I : Iv G (va_A (bY G yd td tha ++ (bK G td tra ++ [])) s0.heap.size) s0 H locs (bY G yd td tha ++ (bK G td s5 ++ [])) := Iv.perm (w := ((bY G yd td tha ++ (bK G td s5 ++ []))) ++ []) I (pasc2.symm)
  refine lv_aload_n hx hb dX10_waits_14 rfl (lv_at hl 0 rfl) ?_
  refine lv_aload_n hx hb dX10_waits_15 rfl (lv_at hl 0 rfl) ?_
  refine gY_X10_y30_n XX I dX10_waits_16 ?_
  obtain ⟨r8, s9, q10, h⟩ := bd2_some h
  have RC := (Rc.mk XX I (q0 := 3) (ci := 10) rfl rfl)
  replace I : Iv G (va_A (bY G yd td tha ++ (bK G td tra ++ [])) s0.heap.size) s0 _ _ (((bY G yd td tha ++ (bK G td s5 ++ []))) ++ []) := I.perm pasc2
  refine call_i (X := []) (wc := (bY G yd td tha ++ (bK G td s5 ++ []))) (Y := []) (rest := [.int r4]) XX I hl.1 (c_Y3_Wait_bars l G OK yd td tha s5 (gi tha 3) r8 s9 q10) kV_X10_30 RC rfl rfl (Nat.le_of_ble_eq_true rfl) ⟨rfl, rfl, Nat.le_of_ble_eq_true rfl, Nat.le_of_ble_eq_true rfl⟩ ⟨Nat.zero_le _, Nat.zero_le _⟩ dX10_waits_19 (fun H locs hz11 I => ?_)
  replace I : Iv G (va_A (bY G yd td tha ++ (bK G td tra ++ [])) s0.heap.size) s0 H locs (bY G yd td tha ++ (bK G td s9 ++ [])) := Iv.perm (w := ((bY G yd td tha ++ (bK G td s9 ++ []))) ++ []) I (pasc2.symm)
  refine lv_iadd hx hb dX10_waits_22 ?_
  obtain ⟨rfl, rfl⟩ := some2 h
  exact e_i rfl XX hr I rfl dX10_waits_23
theorem gY_X4_y30_a {p : Program} {l : Launch} {e : Env} {R : Room} {s0 : State} {m : MethodId} {args : Array Value} {below : List Frame} {meth : Method} {c : Code} {H : Heap} {locs : List Loc} {cells slots : Nat} {Q : State → Prop} {cc : ByteArray} {nL pc : Nat} {ls : Array Slot} {rest : List Value} {G : g_G} {A : Nat → Prop} {yd : Nat → Nat} {td : Nat → Nat} {th : g_St} {tr : g_St} (XX : Cx G A p s0 m meth c cc nL RX4 args) (I : Iv G A s0 H locs (bY G yd td th ++ (bK G td tr ++ []))) (hdg : decode cc pc = .ok (.getfield 13, 3)) (kk : W p l e R s0 m args below meth c H locs cells slots Q (F0 m (pc + 3) ls (.int (gi th 13) :: rest))) : W p l e R s0 m args below meth c H locs cells slots Q (F0 m pc ls (.ref (yd 3) :: rest)) := r_get kfX10 XX I 3 rfl 2 (Nat.le_of_ble_eq_true rfl) wd_222 rfl hdg kk
set_option maxHeartbeats 4000000 in
set_option maxRecDepth 100000 in
theorem c_Y3_Sayer_shares (l : Launch) (G : g_G) (OK : EOk G.2.2) (yd : Nat → Nat) (td : Nat → Nat) (tha : g_St) (tra : g_St) (x1 : Int32) (r : Int32) (ttr : g_St) (h : f_Y3_Sayer_shares tha tra x1 = some (r, ttr)) : HI l G yX4_shares (Cond.code yX4_shares cX4_shares 2 (some .int) :: gT) { frames := 1, cells := 0, slots := 0, locals := 21 } .int [.ref (yd 3), .int x1] (bY G yd td tha ++ (bK G td tra ++ [])) r (bY G yd td tha ++ (bK G td ttr ++ [])) := by
  refine HI.mk (lv := [(0, .ref (yd 3)), (1, .int x1)]) OK (by decide) (Nat.le_of_ble_eq_true rfl) rfl ?_
  intro p e s0 m args below meth c ls XX hr I hl
  have hx := XX.x
  have hb := XX.b
  unfold f_Y3_Sayer_shares at h
  refine lv_aload_n hx hb dX4_shares_0 rfl (lv_at hl 0 rfl) ?_
  refine gY_X4_y30_trace XX I dX4_shares_1 ?_
  refine lv_bipush (v := 12) hx hb dX4_shares_4 (by decide) ?_
  obtain ⟨s1, q2, h⟩ := bd1_some h
  have RC := (Rc.mk XX I (q0 := 6) (ci := 8) rfl rfl)
  replace I : Iv G (va_A (bY G yd td tha ++ (bK G td tra ++ [])) s0.heap.size) s0 _ _ ((bK G td tra) ++ (bY G yd td tha ++ [])) := I.perm ((List.Perm.append_left _ (List.Perm.refl _)).trans (List.perm_append_comm_assoc _ _ _))
  refine call_v (X := []) (wc := (bK G td tra)) (Y := (bY G yd td tha ++ [])) (rest := []) XX I hl.1 (c_K_begin l G OK td tra (12 : Int32) s1 q2) kV_X4_20 RC rfl rfl (Nat.le_of_ble_eq_true rfl) ⟨rfl, rfl, Nat.le_of_ble_eq_true rfl, Nat.le_of_ble_eq_true rfl⟩ ⟨Nat.zero_le _, Nat.zero_le _⟩ dX4_shares_6 (fun H locs I => ?_)
  replace I : Iv G (va_A (bY G yd td tha ++ (bK G td tra ++ [])) s0.heap.size) s0 H locs (bY G yd td tha ++ (bK G td s1 ++ [])) := Iv.perm (w := (bK G td s1) ++ (bY G yd td tha ++ [])) I (((List.Perm.append_left _ (List.Perm.refl _)).trans (List.perm_append_comm_assoc _ _ _)).symm)
  refine lv_aload_n hx hb dX4_shares_9 rfl (lv_at hl 0 rfl) ?_
  refine gY_X4_y30_a XX I dX4_shares_10 ?_
  refine lv_aload_n hx hb dX4_shares_13 rfl (lv_at hl 0 rfl) ?_
  refine gY_X4_y30_n XX I dX4_shares_14 ?_
  refine lv_icmp_ne (tgt := 30) hx hb dX4_shares_17 (by decide) (fun c1 => ?_) (fun c1 => ?_)
  · replace h := if_f h c1
    refine lv_iload_n hx hb dX4_shares_30 rfl (lv_at hl 1 rfl) ?_
    refine lv_aload_n hx hb dX4_shares_31 rfl (lv_at hl 0 rfl) ?_
    refine gY_X4_y30_a XX I dX4_shares_32 ?_
    refine lv_aload_n hx hb dX4_shares_35 rfl (lv_at hl 0 rfl) ?_
    refine gY_X4_y30_n XX I dX4_shares_36 ?_
    refine lv_isub hx hb dX4_shares_39 ?_
    obtain ⟨g4, h⟩ := gd_some h
    refine lv_idiv hx hb dX4_shares_40 g4 ?_
    obtain ⟨rfl, rfl⟩ := some2 h
    exact e_i rfl XX hr I rfl dX4_shares_41
  · replace h := if_t h c1
    refine lv_aload_n hx hb dX4_shares_20 rfl (lv_at hl 0 rfl) ?_
    refine gY_X4_y30_trace XX I dX4_shares_21 ?_
    refine lv_iconst (v := 1) hx hb dX4_shares_24 (by decide) ?_
    refine pY_X4_o1_parted XX I (rfl) dX4_shares_25 (fun H locs I => ?_)
    obtain ⟨s5, es5⟩ : ∃ z, z = si s1 2 (1 : Int32) := ⟨_, rfl⟩
    replace h := lt_e h es5
    replace I : Iv G (va_A (bY G yd td tha ++ (bK G td tra ++ [])) s0.heap.size) s0 H locs (bY G yd td tha ++ (bK G td s5 ++ [])) := by rw [es5]; exact I
    refine lv_iconst (v := 0) hx hb dX4_shares_28 (by decide) ?_
    obtain ⟨rfl, rfl⟩ := some2 h
    exact e_i rfl XX hr I rfl dX4_shares_29
theorem kU_X4_34_X10 : KU RX4 34 RX10 RX4 ⟨"LifeNoes$Sayer", "waits", "(I)I"⟩ yX10_waits cX10_waits 2 (some .int) 1 := KU.mkO wd_936 wd_876 wd_885 wd_886 wd_10 wd_887 wd_874 wd_892 (by decide +kernel)
set_option maxHeartbeats 4000000 in
set_option maxRecDepth 100000 in
theorem c_Y3_Sayer_tells (l : Launch) (G : g_G) (OK : EOk G.2.2) (yd : Nat → Nat) (td : Nat → Nat) (tha : g_St) (tra : g_St) (x1 : Int32) (r : Int32) (ttr : g_St) (h : f_Y3_Sayer_tells tha tra x1 = some (r, ttr)) : HI l G yX4_tells (Cond.code yX4_tells cX4_tells 2 (some .int) :: gT) { frames := 6, cells := 0, slots := 0, locals := 126 } .int [.ref (yd 3), .int x1] (bY G yd td tha ++ (bK G td tra ++ [])) r (bY G yd td tha ++ (bK G td ttr ++ [])) := by
  refine HI.mk (lv := [(0, .ref (yd 3)), (1, .int x1)]) OK (by decide) (Nat.le_of_ble_eq_true rfl) rfl ?_
  intro p e s0 m args below meth c ls XX hr I hl
  have hx := XX.x
  have hb := XX.b
  unfold f_Y3_Sayer_tells at h
  refine lv_aload_n hx hb dX4_tells_0 rfl (lv_at hl 0 rfl) ?_
  refine gY_X4_y30_trace XX I dX4_tells_1 ?_
  refine lv_bipush (v := 13) hx hb dX4_tells_4 (by decide) ?_
  obtain ⟨s1, q2, h⟩ := bd1_some h
  have RC := (Rc.mk XX I (q0 := 6) (ci := 8) rfl rfl)
  replace I : Iv G (va_A (bY G yd td tha ++ (bK G td tra ++ [])) s0.heap.size) s0 _ _ ((bK G td tra) ++ (bY G yd td tha ++ [])) := I.perm ((List.Perm.append_left _ (List.Perm.refl _)).trans (List.perm_append_comm_assoc _ _ _))
  refine call_v (X := []) (wc := (bK G td tra)) (Y := (bY G yd td tha ++ [])) (rest := []) XX I hl.1 (c_K_begin l G OK td tra (13 : Int32) s1 q2) kV_X4_20 RC rfl rfl (Nat.le_of_ble_eq_true rfl) ⟨rfl, rfl, Nat.le_of_ble_eq_true rfl, Nat.le_of_ble_eq_true rfl⟩ ⟨Nat.zero_le _, Nat.zero_le _⟩ dX4_tells_6 (fun H locs I => ?_)
  replace I : Iv G (va_A (bY G yd td tha ++ (bK G td tra ++ [])) s0.heap.size) s0 H locs (bY G yd td tha ++ (bK G td s1 ++ [])) := Iv.perm (w := (bK G td s1) ++ (bY G yd td tha ++ [])) I (((List.Perm.append_left _ (List.Perm.refl _)).trans (List.perm_append_comm_assoc _ _ _)).symm)
  refine lv_aload_n hx hb dX4_tells_9 rfl (lv_at hl 0 rfl) ?_
  refine lv_iload_n hx hb dX4_tells_10 rfl (lv_at hl 1 rfl) ?_
  obtain ⟨r4, s5, q6, h⟩ := bd2_some h
  have RC := (Rc.mk XX I (q0 := 3) (ci := 10) rfl rfl)
  replace I : Iv G (va_A (bY G yd td tha ++ (bK G td tra ++ [])) s0.heap.size) s0 _ _ (((bY G yd td tha ++ (bK G td s1 ++ []))) ++ []) := I.perm pasc2
  refine ucall_i (X := []) (wc := (bY G yd td tha ++ (bK G td s1 ++ []))) (Y := []) (rest := []) XX I hl.1 (c_Y3_Wait_waits l G OK yd td tha s1 x1 r4 s5 q6) kU_X4_34_X10 RC rfl rfl (Nat.le_of_ble_eq_true rfl) ⟨rfl, rfl, Nat.le_of_ble_eq_true rfl, Nat.le_of_ble_eq_true rfl⟩ ⟨Nat.zero_le _, Nat.zero_le _⟩ dX4_tells_11 (fun H locs hz7 I => ?_)
  replace I : Iv G (va_A (bY G yd td tha ++ (bK G td tra ++ [])) s0.heap.size) s0 H locs (bY G yd td tha ++ (bK G td s5 ++ [])) := Iv.perm (w := ((bY G yd td tha ++ (bK G td s5 ++ []))) ++ []) I (pasc2.symm)
  refine lv_aload_n hx hb dX4_tells_14 rfl (lv_at hl 0 rfl) ?_
  refine gY_X4_y30_a XX I dX4_tells_15 ?_
  refine lv_ixor hx hb dX4_tells_18 ?_
  obtain ⟨rfl, rfl⟩ := some2 h
  exact e_i rfl XX hr I rfl dX4_tells_19
theorem kU_X1_30_X10 : KU RX1 30 RX10 RX4 ⟨"LifeNoes$Bar", "shares", "(I)I"⟩ yX4_shares cX4_shares 2 (some .int) 1 := KU.mkU wd_924 wd_925 wd_927 wd_895 wd_7 wd_915 rfl (by decide +kernel)
theorem gY_X1_y30_n {p : Program} {l : Launch} {e : Env} {R : Room} {s0 : State} {m : MethodId} {args : Array Value} {below : List Frame} {meth : Method} {c : Code} {H : Heap} {locs : List Loc} {cells slots : Nat} {Q : State → Prop} {cc : ByteArray} {nL pc : Nat} {ls : Array Slot} {rest : List Value} {G : g_G} {A : Nat → Prop} {yd : Nat → Nat} {td : Nat → Nat} {th : g_St} {tr : g_St} (XX : Cx G A p s0 m meth c cc nL RX1 args) (I : Iv G A s0 H locs (bY G yd td th ++ (bK G td tr ++ []))) (hdg : decode cc pc = .ok (.getfield 26, 3)) (kk : W p l e R s0 m args below meth c H locs cells slots Q (F0 m (pc + 3) ls (.int (gi th 3) :: rest))) : W p l e R s0 m args below meth c H locs cells slots Q (F0 m pc ls (.ref (yd 3) :: rest)) := r_getS (ref := RX1) kfX10 XX I 3 rfl 1 (Nat.le_of_ble_eq_true rfl) wd_219 wd_220 rfl hdg kk
set_option maxHeartbeats 4000000 in
set_option maxRecDepth 100000 in
theorem c_Y3_Bar_tells (l : Launch) (G : g_G) (OK : EOk G.2.2) (yd : Nat → Nat) (td : Nat → Nat) (tha : g_St) (tra : g_St) (x1 : Int32) (r : Int32) (ttr : g_St) (h : f_Y3_Bar_tells tha tra x1 = some (r, ttr)) : HI l G yX1_tells (Cond.code yX1_tells cX1_tells 2 (some .int) :: gT) { frames := 7, cells := 0, slots := 0, locals := 147 } .int [.ref (yd 3), .int x1] (bY G yd td tha ++ (bK G td tra ++ [])) r (bY G yd td tha ++ (bK G td ttr ++ [])) := by
  refine HI.mk (lv := [(0, .ref (yd 3)), (1, .int x1)]) OK (by decide) (Nat.le_of_ble_eq_true rfl) rfl ?_
  intro p e s0 m args below meth c ls XX hr I hl
  have hx := XX.x
  have hb := XX.b
  unfold f_Y3_Bar_tells at h
  refine lv_aload_n hx hb dX1_tells_0 rfl (lv_at hl 0 rfl) ?_
  refine gY_X1_y30_trace XX I dX1_tells_1 ?_
  refine lv_bipush (v := 31) hx hb dX1_tells_4 (by decide) ?_
  obtain ⟨s1, q2, h⟩ := bd1_some h
  have RC := (Rc.mk XX I (q0 := 6) (ci := 8) rfl rfl)
  replace I : Iv G (va_A (bY G yd td tha ++ (bK G td tra ++ [])) s0.heap.size) s0 _ _ ((bK G td tra) ++ (bY G yd td tha ++ [])) := I.perm ((List.Perm.append_left _ (List.Perm.refl _)).trans (List.perm_append_comm_assoc _ _ _))
  refine call_v (X := []) (wc := (bK G td tra)) (Y := (bY G yd td tha ++ [])) (rest := []) XX I hl.1 (c_K_begin l G OK td tra (31 : Int32) s1 q2) kV_X1_13 RC rfl rfl (Nat.le_of_ble_eq_true rfl) ⟨rfl, rfl, Nat.le_of_ble_eq_true rfl, Nat.le_of_ble_eq_true rfl⟩ ⟨Nat.zero_le _, Nat.zero_le _⟩ dX1_tells_6 (fun H locs I => ?_)
  replace I : Iv G (va_A (bY G yd td tha ++ (bK G td tra ++ [])) s0.heap.size) s0 H locs (bY G yd td tha ++ (bK G td s1 ++ [])) := Iv.perm (w := (bK G td s1) ++ (bY G yd td tha ++ [])) I (((List.Perm.append_left _ (List.Perm.refl _)).trans (List.perm_append_comm_assoc _ _ _)).symm)
  refine lv_aload_n hx hb dX1_tells_9 rfl (lv_at hl 0 rfl) ?_
  refine lv_iload_n hx hb dX1_tells_10 rfl (lv_at hl 1 rfl) ?_
  obtain ⟨r4, s5, q6, h⟩ := bd2_some h
  have RC := (Rc.mk XX I (q0 := 3) (ci := 10) rfl rfl)
  replace I : Iv G (va_A (bY G yd td tha ++ (bK G td tra ++ [])) s0.heap.size) s0 _ _ (((bY G yd td tha ++ (bK G td s1 ++ []))) ++ []) := I.perm pasc2
  refine pcall_i (X := []) (wc := (bY G yd td tha ++ (bK G td s1 ++ []))) (Y := []) (rest := []) XX I hl.1 (c_Y3_Sayer_tells l G OK yd td tha s1 x1 r4 s5 q6) kP_X1_23 RC (XX.at 10 rfl) rfl rfl (Nat.le_of_ble_eq_true rfl) ⟨rfl, rfl, Nat.le_of_ble_eq_true rfl, Nat.le_of_ble_eq_true rfl⟩ ⟨Nat.zero_le _, Nat.zero_le _⟩ dX1_tells_11 (fun H locs hz7 I => ?_)
  replace I : Iv G (va_A (bY G yd td tha ++ (bK G td tra ++ [])) s0.heap.size) s0 H locs (bY G yd td tha ++ (bK G td s5 ++ [])) := Iv.perm (w := ((bY G yd td tha ++ (bK G td s5 ++ []))) ++ []) I (pasc2.symm)
  refine lv_aload_n hx hb dX1_tells_14 rfl (lv_at hl 0 rfl) ?_
  refine lv_aload_n hx hb dX1_tells_15 rfl (lv_at hl 0 rfl) ?_
  refine gY_X1_y30_n XX I dX1_tells_16 ?_
  obtain ⟨r8, s9, q10, h⟩ := bd2_some h
  have RC := (Rc.mk XX I (q0 := 3) (ci := 10) rfl rfl)
  replace I : Iv G (va_A (bY G yd td tha ++ (bK G td tra ++ [])) s0.heap.size) s0 _ _ (((bY G yd td tha ++ (bK G td s5 ++ []))) ++ []) := I.perm pasc2
  refine ucall_i (X := []) (wc := (bY G yd td tha ++ (bK G td s5 ++ []))) (Y := []) (rest := [.int r4]) XX I hl.1 (c_Y3_Sayer_shares l G OK yd td tha s5 (gi tha 3) r8 s9 q10) kU_X1_30_X10 RC rfl rfl (Nat.le_of_ble_eq_true rfl) ⟨rfl, rfl, Nat.le_of_ble_eq_true rfl, Nat.le_of_ble_eq_true rfl⟩ ⟨Nat.zero_le _, Nat.zero_le _⟩ dX1_tells_19 (fun H locs hz11 I => ?_)
  replace I : Iv G (va_A (bY G yd td tha ++ (bK G td tra ++ [])) s0.heap.size) s0 H locs (bY G yd td tha ++ (bK G td s9 ++ [])) := Iv.perm (w := ((bY G yd td tha ++ (bK G td s9 ++ []))) ++ []) I (pasc2.symm)
  refine lv_iadd hx hb dX1_tells_22 ?_
  obtain ⟨rfl, rfl⟩ := some2 h
  exact e_i rfl XX hr I rfl dX1_tells_23
theorem gY_X4_y40_trace {p : Program} {l : Launch} {e : Env} {R : Room} {s0 : State} {m : MethodId} {args : Array Value} {below : List Frame} {meth : Method} {c : Code} {H : Heap} {locs : List Loc} {cells slots : Nat} {Q : State → Prop} {cc : ByteArray} {nL pc : Nat} {ls : Array Slot} {rest : List Value} {G : g_G} {A : Nat → Prop} {yd : Nat → Nat} {td : Nat → Nat} {th : g_St} {tr : g_St} (XX : Cx G A p s0 m meth c cc nL RX4 args) (I : Iv G A s0 H locs (bY G yd td th ++ (bK G td tr ++ []))) (hdg : decode cc pc = .ok (.getfield 16, 3)) (kk : W p l e R s0 m args below meth c H locs cells slots Q (F0 m (pc + 3) ls (.ref (td 0) :: rest))) : W p l e R s0 m args below meth c H locs cells slots Q (F0 m pc ls (.ref (yd 4) :: rest)) := r_get kfX2 XX I 4 rfl 0 (Nat.le_of_ble_eq_true rfl) wd_203 rfl hdg kk
theorem gY_X4_y40_n {p : Program} {l : Launch} {e : Env} {R : Room} {s0 : State} {m : MethodId} {args : Array Value} {below : List Frame} {meth : Method} {c : Code} {H : Heap} {locs : List Loc} {cells slots : Nat} {Q : State → Prop} {cc : ByteArray} {nL pc : Nat} {ls : Array Slot} {rest : List Value} {G : g_G} {A : Nat → Prop} {yd : Nat → Nat} {td : Nat → Nat} {th : g_St} {tr : g_St} (XX : Cx G A p s0 m meth c cc nL RX4 args) (I : Iv G A s0 H locs (bY G yd td th ++ (bK G td tr ++ []))) (hdg : decode cc pc = .ok (.getfield 7, 3)) (kk : W p l e R s0 m args below meth c H locs cells slots Q (F0 m (pc + 3) ls (.int (gi th 4) :: rest))) : W p l e R s0 m args below meth c H locs cells slots Q (F0 m pc ls (.ref (yd 4) :: rest)) := r_get kfX2 XX I 4 rfl 1 (Nat.le_of_ble_eq_true rfl) wd_214 rfl hdg kk
set_option maxHeartbeats 4000000 in
set_option maxRecDepth 100000 in
theorem c_Y4_Sayer_bars (l : Launch) (G : g_G) (OK : EOk G.2.2) (yd : Nat → Nat) (td : Nat → Nat) (tha : g_St) (tra : g_St) (x1 : Int32) (r : Int32) (ttr : g_St) (h : f_Y4_Sayer_bars tha tra x1 = some (r, ttr)) : HI l G yX4_bars (Cond.code yX4_bars cX4_bars 2 (some .int) :: gT) { frames := 1, cells := 0, slots := 0, locals := 21 } .int [.ref (yd 4), .int x1] (bY G yd td tha ++ (bK G td tra ++ [])) r (bY G yd td tha ++ (bK G td ttr ++ [])) := by
  refine HI.mk (lv := [(0, .ref (yd 4)), (1, .int x1)]) OK (by decide) (Nat.le_of_ble_eq_true rfl) rfl ?_
  intro p e s0 m args below meth c ls XX hr I hl
  have hx := XX.x
  have hb := XX.b
  unfold f_Y4_Sayer_bars at h
  refine lv_aload_n hx hb dX4_bars_0 rfl (lv_at hl 0 rfl) ?_
  refine gY_X4_y40_trace XX I dX4_bars_1 ?_
  refine lv_bipush (v := 10) hx hb dX4_bars_4 (by decide) ?_
  obtain ⟨s1, q2, h⟩ := bd1_some h
  have RC := (Rc.mk XX I (q0 := 6) (ci := 8) rfl rfl)
  replace I : Iv G (va_A (bY G yd td tha ++ (bK G td tra ++ [])) s0.heap.size) s0 _ _ ((bK G td tra) ++ (bY G yd td tha ++ [])) := I.perm ((List.Perm.append_left _ (List.Perm.refl _)).trans (List.perm_append_comm_assoc _ _ _))
  refine call_v (X := []) (wc := (bK G td tra)) (Y := (bY G yd td tha ++ [])) (rest := []) XX I hl.1 (c_K_begin l G OK td tra (10 : Int32) s1 q2) kV_X4_20 RC rfl rfl (Nat.le_of_ble_eq_true rfl) ⟨rfl, rfl, Nat.le_of_ble_eq_true rfl, Nat.le_of_ble_eq_true rfl⟩ ⟨Nat.zero_le _, Nat.zero_le _⟩ dX4_bars_6 (fun H locs I => ?_)
  replace I : Iv G (va_A (bY G yd td tha ++ (bK G td tra ++ [])) s0.heap.size) s0 H locs (bY G yd td tha ++ (bK G td s1 ++ [])) := Iv.perm (w := (bK G td s1) ++ (bY G yd td tha ++ [])) I (((List.Perm.append_left _ (List.Perm.refl _)).trans (List.perm_append_comm_assoc _ _ _)).symm)
  refine lv_iload_n hx hb dX4_bars_9 rfl (lv_at hl 1 rfl) ?_
  refine lv_aload_n hx hb dX4_bars_10 rfl (lv_at hl 0 rfl) ?_
  refine gY_X4_y40_n XX I dX4_bars_11 ?_
  refine lv_iadd hx hb dX4_bars_14 ?_
  obtain ⟨rfl, rfl⟩ := some2 h
  exact e_i rfl XX hr I rfl dX4_bars_15
theorem kV_X2_13 : KV RX2 13 RX8 yX8_begin cX8_begin 2 none 1 := KV.mk wd_860 wd_853 wd_854 wd_6 wd_855 (by decide +kernel)
theorem kP_X2_19 : KP RX2 19 ⟨"LifeNoes$Quick", "bars", "(I)I"⟩ yX4_bars cX4_bars 2 (some .int) 1 := ⟨wd_861, wd_862, wd_274, wd_846, wd_7, wd_871, rfl, by decide, (Or.inr wd_244), by decide +kernel⟩
theorem gY_X2_y40_trace {p : Program} {l : Launch} {e : Env} {R : Room} {s0 : State} {m : MethodId} {args : Array Value} {below : List Frame} {meth : Method} {c : Code} {H : Heap} {locs : List Loc} {cells slots : Nat} {Q : State → Prop} {cc : ByteArray} {nL pc : Nat} {ls : Array Slot} {rest : List Value} {G : g_G} {A : Nat → Prop} {yd : Nat → Nat} {td : Nat → Nat} {th : g_St} {tr : g_St} (XX : Cx G A p s0 m meth c cc nL RX2 args) (I : Iv G A s0 H locs (bY G yd td th ++ (bK G td tr ++ []))) (hdg : decode cc pc = .ok (.getfield 7, 3)) (kk : W p l e R s0 m args below meth c H locs cells slots Q (F0 m (pc + 3) ls (.ref (td 0) :: rest))) : W p l e R s0 m args below meth c H locs cells slots Q (F0 m pc ls (.ref (yd 4) :: rest)) := r_getS (ref := RX2) kfX2 XX I 4 rfl 0 (Nat.le_of_ble_eq_true rfl) wd_206 wd_207 rfl hdg kk
theorem gY_X2_y40_n {p : Program} {l : Launch} {e : Env} {R : Room} {s0 : State} {m : MethodId} {args : Array Value} {below : List Frame} {meth : Method} {c : Code} {H : Heap} {locs : List Loc} {cells slots : Nat} {Q : State → Prop} {cc : ByteArray} {nL pc : Nat} {ls : Array Slot} {rest : List Value} {G : g_G} {A : Nat → Prop} {yd : Nat → Nat} {td : Nat → Nat} {th : g_St} {tr : g_St} (XX : Cx G A p s0 m meth c cc nL RX2 args) (I : Iv G A s0 H locs (bY G yd td th ++ (bK G td tr ++ []))) (hdg : decode cc pc = .ok (.getfield 23, 3)) (kk : W p l e R s0 m args below meth c H locs cells slots Q (F0 m (pc + 3) ls (.int (gi th 4) :: rest))) : W p l e R s0 m args below meth c H locs cells slots Q (F0 m pc ls (.ref (yd 4) :: rest)) := r_getS (ref := RX2) kfX2 XX I 4 rfl 1 (Nat.le_of_ble_eq_true rfl) wd_215 wd_216 rfl hdg kk
set_option maxHeartbeats 4000000 in
set_option maxRecDepth 100000 in
theorem c_Y4_League_bars (l : Launch) (G : g_G) (OK : EOk G.2.2) (yd : Nat → Nat) (td : Nat → Nat) (tha : g_St) (tra : g_St) (x1 : Int32) (r : Int32) (ttr : g_St) (h : f_Y4_League_bars tha tra x1 = some (r, ttr)) : HI l G yX2_bars (Cond.code yX2_bars cX2_bars 2 (some .int) :: gT) { frames := 2, cells := 0, slots := 0, locals := 42 } .int [.ref (yd 4), .int x1] (bY G yd td tha ++ (bK G td tra ++ [])) r (bY G yd td tha ++ (bK G td ttr ++ [])) := by
  refine HI.mk (lv := [(0, .ref (yd 4)), (1, .int x1)]) OK (by decide) (Nat.le_of_ble_eq_true rfl) rfl ?_
  intro p e s0 m args below meth c ls XX hr I hl
  have hx := XX.x
  have hb := XX.b
  unfold f_Y4_League_bars at h
  refine lv_aload_n hx hb dX2_bars_0 rfl (lv_at hl 0 rfl) ?_
  refine gY_X2_y40_trace XX I dX2_bars_1 ?_
  refine lv_bipush (v := 51) hx hb dX2_bars_4 (by decide) ?_
  obtain ⟨s1, q2, h⟩ := bd1_some h
  have RC := (Rc.mk XX I (q0 := 6) (ci := 8) rfl rfl)
  replace I : Iv G (va_A (bY G yd td tha ++ (bK G td tra ++ [])) s0.heap.size) s0 _ _ ((bK G td tra) ++ (bY G yd td tha ++ [])) := I.perm ((List.Perm.append_left _ (List.Perm.refl _)).trans (List.perm_append_comm_assoc _ _ _))
  refine call_v (X := []) (wc := (bK G td tra)) (Y := (bY G yd td tha ++ [])) (rest := []) XX I hl.1 (c_K_begin l G OK td tra (51 : Int32) s1 q2) kV_X2_13 RC rfl rfl (Nat.le_of_ble_eq_true rfl) ⟨rfl, rfl, Nat.le_of_ble_eq_true rfl, Nat.le_of_ble_eq_true rfl⟩ ⟨Nat.zero_le _, Nat.zero_le _⟩ dX2_bars_6 (fun H locs I => ?_)
  replace I : Iv G (va_A (bY G yd td tha ++ (bK G td tra ++ [])) s0.heap.size) s0 H locs (bY G yd td tha ++ (bK G td s1 ++ [])) := Iv.perm (w := (bK G td s1) ++ (bY G yd td tha ++ [])) I (((List.Perm.append_left _ (List.Perm.refl _)).trans (List.perm_append_comm_assoc _ _ _)).symm)
  refine lv_aload_n hx hb dX2_bars_9 rfl (lv_at hl 0 rfl) ?_
  refine lv_iload_n hx hb dX2_bars_10 rfl (lv_at hl 1 rfl) ?_
  obtain ⟨r4, s5, q6, h⟩ := bd2_some h
  have RC := (Rc.mk XX I (q0 := 4) (ci := 2) rfl rfl)
  replace I : Iv G (va_A (bY G yd td tha ++ (bK G td tra ++ [])) s0.heap.size) s0 _ _ (((bY G yd td tha ++ (bK G td s1 ++ []))) ++ []) := I.perm pasc2
  refine pcall_i (X := []) (wc := (bY G yd td tha ++ (bK G td s1 ++ []))) (Y := []) (rest := []) XX I hl.1 (c_Y4_Sayer_bars l G OK yd td tha s1 x1 r4 s5 q6) kP_X2_19 RC (XX.at 2 rfl) rfl rfl (Nat.le_of_ble_eq_true rfl) ⟨rfl, rfl, Nat.le_of_ble_eq_true rfl, Nat.le_of_ble_eq_true rfl⟩ ⟨Nat.zero_le _, Nat.zero_le _⟩ dX2_bars_11 (fun H locs hz7 I => ?_)
  replace I : Iv G (va_A (bY G yd td tha ++ (bK G td tra ++ [])) s0.heap.size) s0 H locs (bY G yd td tha ++ (bK G td s5 ++ [])) := Iv.perm (w := ((bY G yd td tha ++ (bK G td s5 ++ []))) ++ []) I (pasc2.symm)
  refine lv_aload_n hx hb dX2_bars_14 rfl (lv_at hl 0 rfl) ?_
  refine gY_X2_y40_n XX I dX2_bars_15 ?_
  refine lv_isub hx hb dX2_bars_18 ?_
  obtain ⟨rfl, rfl⟩ := some2 h
  exact e_i rfl XX hr I rfl dX2_bars_19
theorem kU_X4_26_X2 : KU RX4 26 RX2 RX4 ⟨"LifeNoes$Sayer", "bars", "(I)I"⟩ yX2_bars cX2_bars 2 (some .int) 1 := KU.mkO wd_893 wd_848 wd_857 wd_858 wd_11 wd_859 wd_846 wd_871 (by decide +kernel)
set_option maxHeartbeats 4000000 in
set_option maxRecDepth 100000 in
theorem c_Y4_Sayer_waits (l : Launch) (G : g_G) (OK : EOk G.2.2) (yd : Nat → Nat) (td : Nat → Nat) (tha : g_St) (tra : g_St) (x1 : Int32) (r : Int32) (ttr : g_St) (h : f_Y4_Sayer_waits tha tra x1 = some (r, ttr)) : HI l G yX4_waits (Cond.code yX4_waits cX4_waits 2 (some .int) :: gT) { frames := 3, cells := 0, slots := 0, locals := 63 } .int [.ref (yd 4), .int x1] (bY G yd td tha ++ (bK G td tra ++ [])) r (bY G yd td tha ++ (bK G td ttr ++ [])) := by
  refine HI.mk (lv := [(0, .ref (yd 4)), (1, .int x1)]) OK (by decide) (Nat.le_of_ble_eq_true rfl) rfl ?_
  intro p e s0 m args below meth c ls XX hr I hl
  have hx := XX.x
  have hb := XX.b
  unfold f_Y4_Sayer_waits at h
  refine lv_aload_n hx hb dX4_waits_0 rfl (lv_at hl 0 rfl) ?_
  refine gY_X4_y40_trace XX I dX4_waits_1 ?_
  refine lv_bipush (v := 11) hx hb dX4_waits_4 (by decide) ?_
  obtain ⟨s1, q2, h⟩ := bd1_some h
  have RC := (Rc.mk XX I (q0 := 6) (ci := 8) rfl rfl)
  replace I : Iv G (va_A (bY G yd td tha ++ (bK G td tra ++ [])) s0.heap.size) s0 _ _ ((bK G td tra) ++ (bY G yd td tha ++ [])) := I.perm ((List.Perm.append_left _ (List.Perm.refl _)).trans (List.perm_append_comm_assoc _ _ _))
  refine call_v (X := []) (wc := (bK G td tra)) (Y := (bY G yd td tha ++ [])) (rest := []) XX I hl.1 (c_K_begin l G OK td tra (11 : Int32) s1 q2) kV_X4_20 RC rfl rfl (Nat.le_of_ble_eq_true rfl) ⟨rfl, rfl, Nat.le_of_ble_eq_true rfl, Nat.le_of_ble_eq_true rfl⟩ ⟨Nat.zero_le _, Nat.zero_le _⟩ dX4_waits_6 (fun H locs I => ?_)
  replace I : Iv G (va_A (bY G yd td tha ++ (bK G td tra ++ [])) s0.heap.size) s0 H locs (bY G yd td tha ++ (bK G td s1 ++ [])) := Iv.perm (w := (bK G td s1) ++ (bY G yd td tha ++ [])) I (((List.Perm.append_left _ (List.Perm.refl _)).trans (List.perm_append_comm_assoc _ _ _)).symm)
  refine lv_aload_n hx hb dX4_waits_9 rfl (lv_at hl 0 rfl) ?_
  refine lv_iload_n hx hb dX4_waits_10 rfl (lv_at hl 1 rfl) ?_
  obtain ⟨r4, s5, q6, h⟩ := bd2_some h
  have RC := (Rc.mk XX I (q0 := 4) (ci := 2) rfl rfl)
  replace I : Iv G (va_A (bY G yd td tha ++ (bK G td tra ++ [])) s0.heap.size) s0 _ _ (((bY G yd td tha ++ (bK G td s1 ++ []))) ++ []) := I.perm pasc2
  refine ucall_i (X := []) (wc := (bY G yd td tha ++ (bK G td s1 ++ []))) (Y := []) (rest := []) XX I hl.1 (c_Y4_League_bars l G OK yd td tha s1 x1 r4 s5 q6) kU_X4_26_X2 RC rfl rfl (Nat.le_of_ble_eq_true rfl) ⟨rfl, rfl, Nat.le_of_ble_eq_true rfl, Nat.le_of_ble_eq_true rfl⟩ ⟨Nat.zero_le _, Nat.zero_le _⟩ dX4_waits_11 (fun H locs hz7 I => ?_)
  replace I : Iv G (va_A (bY G yd td tha ++ (bK G td tra ++ [])) s0.heap.size) s0 H locs (bY G yd td tha ++ (bK G td s5 ++ [])) := Iv.perm (w := ((bY G yd td tha ++ (bK G td s5 ++ []))) ++ []) I (pasc2.symm)
  refine lv_iconst (v := 2) hx hb dX4_waits_14 (by decide) ?_
  refine lv_imul hx hb dX4_waits_15 ?_
  obtain ⟨rfl, rfl⟩ := some2 h
  exact e_i rfl XX hr I rfl dX4_waits_16
theorem gY_X3_y40_trace {p : Program} {l : Launch} {e : Env} {R : Room} {s0 : State} {m : MethodId} {args : Array Value} {below : List Frame} {meth : Method} {c : Code} {H : Heap} {locs : List Loc} {cells slots : Nat} {Q : State → Prop} {cc : ByteArray} {nL pc : Nat} {ls : Array Slot} {rest : List Value} {G : g_G} {A : Nat → Prop} {yd : Nat → Nat} {td : Nat → Nat} {th : g_St} {tr : g_St} (XX : Cx G A p s0 m meth c cc nL RX3 args) (I : Iv G A s0 H locs (bY G yd td th ++ (bK G td tr ++ []))) (hdg : decode cc pc = .ok (.getfield 7, 3)) (kk : W p l e R s0 m args below meth c H locs cells slots Q (F0 m (pc + 3) ls (.ref (td 0) :: rest))) : W p l e R s0 m args below meth c H locs cells slots Q (F0 m pc ls (.ref (yd 4) :: rest)) := r_getS (ref := RX3) kfX2 XX I 4 rfl 0 (Nat.le_of_ble_eq_true rfl) wd_210 wd_211 rfl hdg kk
theorem gY_X3_y40_a {p : Program} {l : Launch} {e : Env} {R : Room} {s0 : State} {m : MethodId} {args : Array Value} {below : List Frame} {meth : Method} {c : Code} {H : Heap} {locs : List Loc} {cells slots : Nat} {Q : State → Prop} {cc : ByteArray} {nL pc : Nat} {ls : Array Slot} {rest : List Value} {G : g_G} {A : Nat → Prop} {yd : Nat → Nat} {td : Nat → Nat} {th : g_St} {tr : g_St} (XX : Cx G A p s0 m meth c cc nL RX3 args) (I : Iv G A s0 H locs (bY G yd td th ++ (bK G td tr ++ []))) (hdg : decode cc pc = .ok (.getfield 23, 3)) (kk : W p l e R s0 m args below meth c H locs cells slots Q (F0 m (pc + 3) ls (.int (gi th 14) :: rest))) : W p l e R s0 m args below meth c H locs cells slots Q (F0 m pc ls (.ref (yd 4) :: rest)) := r_getS (ref := RX3) kfX2 XX I 4 rfl 2 (Nat.le_of_ble_eq_true rfl) wd_223 wd_224 rfl hdg kk
set_option maxHeartbeats 4000000 in
set_option maxRecDepth 100000 in
theorem c_Y4_Quick_waits (l : Launch) (G : g_G) (OK : EOk G.2.2) (yd : Nat → Nat) (td : Nat → Nat) (tha : g_St) (tra : g_St) (x1 : Int32) (r : Int32) (ttr : g_St) (h : f_Y4_Quick_waits tha tra x1 = some (r, ttr)) : HI l G yX3_waits (Cond.code yX3_waits cX3_waits 2 (some .int) :: gT) { frames := 4, cells := 0, slots := 0, locals := 84 } .int [.ref (yd 4), .int x1] (bY G yd td tha ++ (bK G td tra ++ [])) r (bY G yd td tha ++ (bK G td ttr ++ [])) := by
  refine HI.mk (lv := [(0, .ref (yd 4)), (1, .int x1)]) OK (by decide) (Nat.le_of_ble_eq_true rfl) rfl ?_
  intro p e s0 m args below meth c ls XX hr I hl
  have hx := XX.x
  have hb := XX.b
  unfold f_Y4_Quick_waits at h
  refine lv_aload_n hx hb dX3_waits_0 rfl (lv_at hl 0 rfl) ?_
  refine gY_X3_y40_trace XX I dX3_waits_1 ?_
  refine lv_bipush (v := 20) hx hb dX3_waits_4 (by decide) ?_
  obtain ⟨s1, q2, h⟩ := bd1_some h
  have RC := (Rc.mk XX I (q0 := 6) (ci := 8) rfl rfl)
  replace I : Iv G (va_A (bY G yd td tha ++ (bK G td tra ++ [])) s0.heap.size) s0 _ _ ((bK G td tra) ++ (bY G yd td tha ++ [])) := I.perm ((List.Perm.append_left _ (List.Perm.refl _)).trans (List.perm_append_comm_assoc _ _ _))
  refine call_v (X := []) (wc := (bK G td tra)) (Y := (bY G yd td tha ++ [])) (rest := []) XX I hl.1 (c_K_begin l G OK td tra (20 : Int32) s1 q2) kV_X3_13 RC rfl rfl (Nat.le_of_ble_eq_true rfl) ⟨rfl, rfl, Nat.le_of_ble_eq_true rfl, Nat.le_of_ble_eq_true rfl⟩ ⟨Nat.zero_le _, Nat.zero_le _⟩ dX3_waits_6 (fun H locs I => ?_)
  replace I : Iv G (va_A (bY G yd td tha ++ (bK G td tra ++ [])) s0.heap.size) s0 H locs (bY G yd td tha ++ (bK G td s1 ++ [])) := Iv.perm (w := (bK G td s1) ++ (bY G yd td tha ++ [])) I (((List.Perm.append_left _ (List.Perm.refl _)).trans (List.perm_append_comm_assoc _ _ _)).symm)
  refine lv_aload_n hx hb dX3_waits_9 rfl (lv_at hl 0 rfl) ?_
  refine lv_iload_n hx hb dX3_waits_10 rfl (lv_at hl 1 rfl) ?_
  obtain ⟨r4, s5, q6, h⟩ := bd2_some h
  have RC := (Rc.mk XX I (q0 := 4) (ci := 2) rfl rfl)
  replace I : Iv G (va_A (bY G yd td tha ++ (bK G td tra ++ [])) s0.heap.size) s0 _ _ (((bY G yd td tha ++ (bK G td s1 ++ []))) ++ []) := I.perm pasc2
  refine pcall_i (X := []) (wc := (bY G yd td tha ++ (bK G td s1 ++ []))) (Y := []) (rest := []) XX I hl.1 (c_Y4_Sayer_waits l G OK yd td tha s1 x1 r4 s5 q6) kP_X3_19 RC (XX.at 2 rfl) rfl rfl (Nat.le_of_ble_eq_true rfl) ⟨rfl, rfl, Nat.le_of_ble_eq_true rfl, Nat.le_of_ble_eq_true rfl⟩ ⟨Nat.zero_le _, Nat.zero_le _⟩ dX3_waits_11 (fun H locs hz7 I => ?_)
  replace I : Iv G (va_A (bY G yd td tha ++ (bK G td tra ++ [])) s0.heap.size) s0 H locs (bY G yd td tha ++ (bK G td s5 ++ [])) := Iv.perm (w := ((bY G yd td tha ++ (bK G td s5 ++ []))) ++ []) I (pasc2.symm)
  refine lv_aload_n hx hb dX3_waits_14 rfl (lv_at hl 0 rfl) ?_
  refine gY_X3_y40_a XX I dX3_waits_15 ?_
  refine lv_isub hx hb dX3_waits_18 ?_
  obtain ⟨rfl, rfl⟩ := some2 h
  exact e_i rfl XX hr I rfl dX3_waits_19
theorem gY_X4_y40_a {p : Program} {l : Launch} {e : Env} {R : Room} {s0 : State} {m : MethodId} {args : Array Value} {below : List Frame} {meth : Method} {c : Code} {H : Heap} {locs : List Loc} {cells slots : Nat} {Q : State → Prop} {cc : ByteArray} {nL pc : Nat} {ls : Array Slot} {rest : List Value} {G : g_G} {A : Nat → Prop} {yd : Nat → Nat} {td : Nat → Nat} {th : g_St} {tr : g_St} (XX : Cx G A p s0 m meth c cc nL RX4 args) (I : Iv G A s0 H locs (bY G yd td th ++ (bK G td tr ++ []))) (hdg : decode cc pc = .ok (.getfield 13, 3)) (kk : W p l e R s0 m args below meth c H locs cells slots Q (F0 m (pc + 3) ls (.int (gi th 14) :: rest))) : W p l e R s0 m args below meth c H locs cells slots Q (F0 m pc ls (.ref (yd 4) :: rest)) := r_get kfX2 XX I 4 rfl 2 (Nat.le_of_ble_eq_true rfl) wd_222 rfl hdg kk
set_option maxHeartbeats 4000000 in
set_option maxRecDepth 100000 in
theorem c_Y4_Sayer_shares (l : Launch) (G : g_G) (OK : EOk G.2.2) (yd : Nat → Nat) (td : Nat → Nat) (tha : g_St) (tra : g_St) (x1 : Int32) (r : Int32) (ttr : g_St) (h : f_Y4_Sayer_shares tha tra x1 = some (r, ttr)) : HI l G yX4_shares (Cond.code yX4_shares cX4_shares 2 (some .int) :: gT) { frames := 1, cells := 0, slots := 0, locals := 21 } .int [.ref (yd 4), .int x1] (bY G yd td tha ++ (bK G td tra ++ [])) r (bY G yd td tha ++ (bK G td ttr ++ [])) := by
  refine HI.mk (lv := [(0, .ref (yd 4)), (1, .int x1)]) OK (by decide) (Nat.le_of_ble_eq_true rfl) rfl ?_
  intro p e s0 m args below meth c ls XX hr I hl
  have hx := XX.x
  have hb := XX.b
  unfold f_Y4_Sayer_shares at h
  refine lv_aload_n hx hb dX4_shares_0 rfl (lv_at hl 0 rfl) ?_
  refine gY_X4_y40_trace XX I dX4_shares_1 ?_
  refine lv_bipush (v := 12) hx hb dX4_shares_4 (by decide) ?_
  obtain ⟨s1, q2, h⟩ := bd1_some h
  have RC := (Rc.mk XX I (q0 := 6) (ci := 8) rfl rfl)
  replace I : Iv G (va_A (bY G yd td tha ++ (bK G td tra ++ [])) s0.heap.size) s0 _ _ ((bK G td tra) ++ (bY G yd td tha ++ [])) := I.perm ((List.Perm.append_left _ (List.Perm.refl _)).trans (List.perm_append_comm_assoc _ _ _))
  refine call_v (X := []) (wc := (bK G td tra)) (Y := (bY G yd td tha ++ [])) (rest := []) XX I hl.1 (c_K_begin l G OK td tra (12 : Int32) s1 q2) kV_X4_20 RC rfl rfl (Nat.le_of_ble_eq_true rfl) ⟨rfl, rfl, Nat.le_of_ble_eq_true rfl, Nat.le_of_ble_eq_true rfl⟩ ⟨Nat.zero_le _, Nat.zero_le _⟩ dX4_shares_6 (fun H locs I => ?_)
  replace I : Iv G (va_A (bY G yd td tha ++ (bK G td tra ++ [])) s0.heap.size) s0 H locs (bY G yd td tha ++ (bK G td s1 ++ [])) := Iv.perm (w := (bK G td s1) ++ (bY G yd td tha ++ [])) I (((List.Perm.append_left _ (List.Perm.refl _)).trans (List.perm_append_comm_assoc _ _ _)).symm)
  refine lv_aload_n hx hb dX4_shares_9 rfl (lv_at hl 0 rfl) ?_
  refine gY_X4_y40_a XX I dX4_shares_10 ?_
  refine lv_aload_n hx hb dX4_shares_13 rfl (lv_at hl 0 rfl) ?_
  refine gY_X4_y40_n XX I dX4_shares_14 ?_
  refine lv_icmp_ne (tgt := 30) hx hb dX4_shares_17 (by decide) (fun c1 => ?_) (fun c1 => ?_)
  · replace h := if_f h c1
    refine lv_iload_n hx hb dX4_shares_30 rfl (lv_at hl 1 rfl) ?_
    refine lv_aload_n hx hb dX4_shares_31 rfl (lv_at hl 0 rfl) ?_
    refine gY_X4_y40_a XX I dX4_shares_32 ?_
    refine lv_aload_n hx hb dX4_shares_35 rfl (lv_at hl 0 rfl) ?_
    refine gY_X4_y40_n XX I dX4_shares_36 ?_
    refine lv_isub hx hb dX4_shares_39 ?_
    obtain ⟨g4, h⟩ := gd_some h
    refine lv_idiv hx hb dX4_shares_40 g4 ?_
    obtain ⟨rfl, rfl⟩ := some2 h
    exact e_i rfl XX hr I rfl dX4_shares_41
  · replace h := if_t h c1
    refine lv_aload_n hx hb dX4_shares_20 rfl (lv_at hl 0 rfl) ?_
    refine gY_X4_y40_trace XX I dX4_shares_21 ?_
    refine lv_iconst (v := 1) hx hb dX4_shares_24 (by decide) ?_
    refine pY_X4_o1_parted XX I (rfl) dX4_shares_25 (fun H locs I => ?_)
    obtain ⟨s5, es5⟩ : ∃ z, z = si s1 2 (1 : Int32) := ⟨_, rfl⟩
    replace h := lt_e h es5
    replace I : Iv G (va_A (bY G yd td tha ++ (bK G td tra ++ [])) s0.heap.size) s0 H locs (bY G yd td tha ++ (bK G td s5 ++ [])) := by rw [es5]; exact I
    refine lv_iconst (v := 0) hx hb dX4_shares_28 (by decide) ?_
    obtain ⟨rfl, rfl⟩ := some2 h
    exact e_i rfl XX hr I rfl dX4_shares_29
theorem kP_X2_27 : KP RX2 27 ⟨"LifeNoes$Quick", "shares", "(I)I"⟩ yX4_shares cX4_shares 2 (some .int) 1 := ⟨wd_902, wd_903, wd_274, wd_895, wd_7, wd_915, rfl, by decide, (Or.inr wd_244), by decide +kernel⟩
set_option maxHeartbeats 4000000 in
set_option maxRecDepth 100000 in
theorem c_Y4_League_shares (l : Launch) (G : g_G) (OK : EOk G.2.2) (yd : Nat → Nat) (td : Nat → Nat) (tha : g_St) (tra : g_St) (x1 : Int32) (r : Int32) (ttr : g_St) (h : f_Y4_League_shares tha tra x1 = some (r, ttr)) : HI l G yX2_shares (Cond.code yX2_shares cX2_shares 2 (some .int) :: gT) { frames := 2, cells := 0, slots := 0, locals := 42 } .int [.ref (yd 4), .int x1] (bY G yd td tha ++ (bK G td tra ++ [])) r (bY G yd td tha ++ (bK G td ttr ++ [])) := by
  refine HI.mk (lv := [(0, .ref (yd 4)), (1, .int x1)]) OK (by decide) (Nat.le_of_ble_eq_true rfl) rfl ?_
  intro p e s0 m args below meth c ls XX hr I hl
  have hx := XX.x
  have hb := XX.b
  unfold f_Y4_League_shares at h
  refine lv_aload_n hx hb dX2_shares_0 rfl (lv_at hl 0 rfl) ?_
  refine gY_X2_y40_trace XX I dX2_shares_1 ?_
  refine lv_bipush (v := 50) hx hb dX2_shares_4 (by decide) ?_
  obtain ⟨s1, q2, h⟩ := bd1_some h
  have RC := (Rc.mk XX I (q0 := 6) (ci := 8) rfl rfl)
  replace I : Iv G (va_A (bY G yd td tha ++ (bK G td tra ++ [])) s0.heap.size) s0 _ _ ((bK G td tra) ++ (bY G yd td tha ++ [])) := I.perm ((List.Perm.append_left _ (List.Perm.refl _)).trans (List.perm_append_comm_assoc _ _ _))
  refine call_v (X := []) (wc := (bK G td tra)) (Y := (bY G yd td tha ++ [])) (rest := []) XX I hl.1 (c_K_begin l G OK td tra (50 : Int32) s1 q2) kV_X2_13 RC rfl rfl (Nat.le_of_ble_eq_true rfl) ⟨rfl, rfl, Nat.le_of_ble_eq_true rfl, Nat.le_of_ble_eq_true rfl⟩ ⟨Nat.zero_le _, Nat.zero_le _⟩ dX2_shares_6 (fun H locs I => ?_)
  replace I : Iv G (va_A (bY G yd td tha ++ (bK G td tra ++ [])) s0.heap.size) s0 H locs (bY G yd td tha ++ (bK G td s1 ++ [])) := Iv.perm (w := (bK G td s1) ++ (bY G yd td tha ++ [])) I (((List.Perm.append_left _ (List.Perm.refl _)).trans (List.perm_append_comm_assoc _ _ _)).symm)
  refine lv_aload_n hx hb dX2_shares_9 rfl (lv_at hl 0 rfl) ?_
  refine lv_iload_n hx hb dX2_shares_10 rfl (lv_at hl 1 rfl) ?_
  refine lv_iconst (v := 2) hx hb dX2_shares_11 (by decide) ?_
  refine lv_iadd hx hb dX2_shares_12 ?_
  obtain ⟨r4, s5, q6, h⟩ := bd2_some h
  have RC := (Rc.mk XX I (q0 := 4) (ci := 2) rfl rfl)
  replace I : Iv G (va_A (bY G yd td tha ++ (bK G td tra ++ [])) s0.heap.size) s0 _ _ (((bY G yd td tha ++ (bK G td s1 ++ []))) ++ []) := I.perm pasc2
  refine pcall_i (X := []) (wc := (bY G yd td tha ++ (bK G td s1 ++ []))) (Y := []) (rest := []) XX I hl.1 (c_Y4_Sayer_shares l G OK yd td tha s1 (x1 + (2 : Int32)) r4 s5 q6) kP_X2_27 RC (XX.at 2 rfl) rfl rfl (Nat.le_of_ble_eq_true rfl) ⟨rfl, rfl, Nat.le_of_ble_eq_true rfl, Nat.le_of_ble_eq_true rfl⟩ ⟨Nat.zero_le _, Nat.zero_le _⟩ dX2_shares_13 (fun H locs hz7 I => ?_)
  replace I : Iv G (va_A (bY G yd td tha ++ (bK G td tra ++ [])) s0.heap.size) s0 H locs (bY G yd td tha ++ (bK G td s5 ++ [])) := Iv.perm (w := ((bY G yd td tha ++ (bK G td s5 ++ []))) ++ []) I (pasc2.symm)
  refine lv_iconst (v := 1) hx hb dX2_shares_16 (by decide) ?_
  refine lv_ixor hx hb dX2_shares_17 ?_
  obtain ⟨rfl, rfl⟩ := some2 h
  exact e_i rfl XX hr I rfl dX2_shares_18
theorem kU_X4_34_X2 : KU RX4 34 RX2 RX4 ⟨"LifeNoes$Sayer", "waits", "(I)I"⟩ yX3_waits cX3_waits 2 (some .int) 1 := KU.mkO wd_936 wd_876 wd_878 wd_879 wd_8 wd_880 wd_874 wd_892 (by decide +kernel)
set_option maxHeartbeats 4000000 in
set_option maxRecDepth 100000 in
theorem c_Y4_Sayer_tells (l : Launch) (G : g_G) (OK : EOk G.2.2) (yd : Nat → Nat) (td : Nat → Nat) (tha : g_St) (tra : g_St) (x1 : Int32) (r : Int32) (ttr : g_St) (h : f_Y4_Sayer_tells tha tra x1 = some (r, ttr)) : HI l G yX4_tells (Cond.code yX4_tells cX4_tells 2 (some .int) :: gT) { frames := 5, cells := 0, slots := 0, locals := 105 } .int [.ref (yd 4), .int x1] (bY G yd td tha ++ (bK G td tra ++ [])) r (bY G yd td tha ++ (bK G td ttr ++ [])) := by
  refine HI.mk (lv := [(0, .ref (yd 4)), (1, .int x1)]) OK (by decide) (Nat.le_of_ble_eq_true rfl) rfl ?_
  intro p e s0 m args below meth c ls XX hr I hl
  have hx := XX.x
  have hb := XX.b
  unfold f_Y4_Sayer_tells at h
  refine lv_aload_n hx hb dX4_tells_0 rfl (lv_at hl 0 rfl) ?_
  refine gY_X4_y40_trace XX I dX4_tells_1 ?_
  refine lv_bipush (v := 13) hx hb dX4_tells_4 (by decide) ?_
  obtain ⟨s1, q2, h⟩ := bd1_some h
  have RC := (Rc.mk XX I (q0 := 6) (ci := 8) rfl rfl)
  replace I : Iv G (va_A (bY G yd td tha ++ (bK G td tra ++ [])) s0.heap.size) s0 _ _ ((bK G td tra) ++ (bY G yd td tha ++ [])) := I.perm ((List.Perm.append_left _ (List.Perm.refl _)).trans (List.perm_append_comm_assoc _ _ _))
  refine call_v (X := []) (wc := (bK G td tra)) (Y := (bY G yd td tha ++ [])) (rest := []) XX I hl.1 (c_K_begin l G OK td tra (13 : Int32) s1 q2) kV_X4_20 RC rfl rfl (Nat.le_of_ble_eq_true rfl) ⟨rfl, rfl, Nat.le_of_ble_eq_true rfl, Nat.le_of_ble_eq_true rfl⟩ ⟨Nat.zero_le _, Nat.zero_le _⟩ dX4_tells_6 (fun H locs I => ?_)
  replace I : Iv G (va_A (bY G yd td tha ++ (bK G td tra ++ [])) s0.heap.size) s0 H locs (bY G yd td tha ++ (bK G td s1 ++ [])) := Iv.perm (w := (bK G td s1) ++ (bY G yd td tha ++ [])) I (((List.Perm.append_left _ (List.Perm.refl _)).trans (List.perm_append_comm_assoc _ _ _)).symm)
  refine lv_aload_n hx hb dX4_tells_9 rfl (lv_at hl 0 rfl) ?_
  refine lv_iload_n hx hb dX4_tells_10 rfl (lv_at hl 1 rfl) ?_
  obtain ⟨r4, s5, q6, h⟩ := bd2_some h
  have RC := (Rc.mk XX I (q0 := 4) (ci := 2) rfl rfl)
  replace I : Iv G (va_A (bY G yd td tha ++ (bK G td tra ++ [])) s0.heap.size) s0 _ _ (((bY G yd td tha ++ (bK G td s1 ++ []))) ++ []) := I.perm pasc2
  refine ucall_i (X := []) (wc := (bY G yd td tha ++ (bK G td s1 ++ []))) (Y := []) (rest := []) XX I hl.1 (c_Y4_Quick_waits l G OK yd td tha s1 x1 r4 s5 q6) kU_X4_34_X2 RC rfl rfl (Nat.le_of_ble_eq_true rfl) ⟨rfl, rfl, Nat.le_of_ble_eq_true rfl, Nat.le_of_ble_eq_true rfl⟩ ⟨Nat.zero_le _, Nat.zero_le _⟩ dX4_tells_11 (fun H locs hz7 I => ?_)
  replace I : Iv G (va_A (bY G yd td tha ++ (bK G td tra ++ [])) s0.heap.size) s0 H locs (bY G yd td tha ++ (bK G td s5 ++ [])) := Iv.perm (w := ((bY G yd td tha ++ (bK G td s5 ++ []))) ++ []) I (pasc2.symm)
  refine lv_aload_n hx hb dX4_tells_14 rfl (lv_at hl 0 rfl) ?_
  refine gY_X4_y40_a XX I dX4_tells_15 ?_
  refine lv_ixor hx hb dX4_tells_18 ?_
  obtain ⟨rfl, rfl⟩ := some2 h
  exact e_i rfl XX hr I rfl dX4_tells_19
theorem gY_X4_y50_trace {p : Program} {l : Launch} {e : Env} {R : Room} {s0 : State} {m : MethodId} {args : Array Value} {below : List Frame} {meth : Method} {c : Code} {H : Heap} {locs : List Loc} {cells slots : Nat} {Q : State → Prop} {cc : ByteArray} {nL pc : Nat} {ls : Array Slot} {rest : List Value} {G : g_G} {A : Nat → Prop} {yd : Nat → Nat} {td : Nat → Nat} {th : g_St} {tr : g_St} (XX : Cx G A p s0 m meth c cc nL RX4 args) (I : Iv G A s0 H locs (bY G yd td th ++ (bK G td tr ++ []))) (hdg : decode cc pc = .ok (.getfield 16, 3)) (kk : W p l e R s0 m args below meth c H locs cells slots Q (F0 m (pc + 3) ls (.ref (td 0) :: rest))) : W p l e R s0 m args below meth c H locs cells slots Q (F0 m pc ls (.ref (yd 5) :: rest)) := r_get kfX7 XX I 5 rfl 0 (Nat.le_of_ble_eq_true rfl) wd_203 rfl hdg kk
theorem gY_X4_y50_n {p : Program} {l : Launch} {e : Env} {R : Room} {s0 : State} {m : MethodId} {args : Array Value} {below : List Frame} {meth : Method} {c : Code} {H : Heap} {locs : List Loc} {cells slots : Nat} {Q : State → Prop} {cc : ByteArray} {nL pc : Nat} {ls : Array Slot} {rest : List Value} {G : g_G} {A : Nat → Prop} {yd : Nat → Nat} {td : Nat → Nat} {th : g_St} {tr : g_St} (XX : Cx G A p s0 m meth c cc nL RX4 args) (I : Iv G A s0 H locs (bY G yd td th ++ (bK G td tr ++ []))) (hdg : decode cc pc = .ok (.getfield 7, 3)) (kk : W p l e R s0 m args below meth c H locs cells slots Q (F0 m (pc + 3) ls (.int (gi th 5) :: rest))) : W p l e R s0 m args below meth c H locs cells slots Q (F0 m pc ls (.ref (yd 5) :: rest)) := r_get kfX7 XX I 5 rfl 1 (Nat.le_of_ble_eq_true rfl) wd_214 rfl hdg kk
set_option maxHeartbeats 4000000 in
set_option maxRecDepth 100000 in
theorem c_Y5_Sayer_bars (l : Launch) (G : g_G) (OK : EOk G.2.2) (yd : Nat → Nat) (td : Nat → Nat) (tha : g_St) (tra : g_St) (x1 : Int32) (r : Int32) (ttr : g_St) (h : f_Y5_Sayer_bars tha tra x1 = some (r, ttr)) : HI l G yX4_bars (Cond.code yX4_bars cX4_bars 2 (some .int) :: gT) { frames := 1, cells := 0, slots := 0, locals := 21 } .int [.ref (yd 5), .int x1] (bY G yd td tha ++ (bK G td tra ++ [])) r (bY G yd td tha ++ (bK G td ttr ++ [])) := by
  refine HI.mk (lv := [(0, .ref (yd 5)), (1, .int x1)]) OK (by decide) (Nat.le_of_ble_eq_true rfl) rfl ?_
  intro p e s0 m args below meth c ls XX hr I hl
  have hx := XX.x
  have hb := XX.b
  unfold f_Y5_Sayer_bars at h
  refine lv_aload_n hx hb dX4_bars_0 rfl (lv_at hl 0 rfl) ?_
  refine gY_X4_y50_trace XX I dX4_bars_1 ?_
  refine lv_bipush (v := 10) hx hb dX4_bars_4 (by decide) ?_
  obtain ⟨s1, q2, h⟩ := bd1_some h
  have RC := (Rc.mk XX I (q0 := 6) (ci := 8) rfl rfl)
  replace I : Iv G (va_A (bY G yd td tha ++ (bK G td tra ++ [])) s0.heap.size) s0 _ _ ((bK G td tra) ++ (bY G yd td tha ++ [])) := I.perm ((List.Perm.append_left _ (List.Perm.refl _)).trans (List.perm_append_comm_assoc _ _ _))
  refine call_v (X := []) (wc := (bK G td tra)) (Y := (bY G yd td tha ++ [])) (rest := []) XX I hl.1 (c_K_begin l G OK td tra (10 : Int32) s1 q2) kV_X4_20 RC rfl rfl (Nat.le_of_ble_eq_true rfl) ⟨rfl, rfl, Nat.le_of_ble_eq_true rfl, Nat.le_of_ble_eq_true rfl⟩ ⟨Nat.zero_le _, Nat.zero_le _⟩ dX4_bars_6 (fun H locs I => ?_)
  replace I : Iv G (va_A (bY G yd td tha ++ (bK G td tra ++ [])) s0.heap.size) s0 H locs (bY G yd td tha ++ (bK G td s1 ++ [])) := Iv.perm (w := (bK G td s1) ++ (bY G yd td tha ++ [])) I (((List.Perm.append_left _ (List.Perm.refl _)).trans (List.perm_append_comm_assoc _ _ _)).symm)
  refine lv_iload_n hx hb dX4_bars_9 rfl (lv_at hl 1 rfl) ?_
  refine lv_aload_n hx hb dX4_bars_10 rfl (lv_at hl 0 rfl) ?_
  refine gY_X4_y50_n XX I dX4_bars_11 ?_
  refine lv_iadd hx hb dX4_bars_14 ?_
  obtain ⟨rfl, rfl⟩ := some2 h
  exact e_i rfl XX hr I rfl dX4_bars_15
theorem kU_X4_26_X7 : KU RX4 26 RX7 RX4 ⟨"LifeNoes$Sayer", "bars", "(I)I"⟩ yX4_bars cX4_bars 2 (some .int) 1 := KU.mkU wd_893 wd_848 wd_865 wd_846 wd_7 wd_871 rfl (by decide +kernel)
set_option maxHeartbeats 4000000 in
set_option maxRecDepth 100000 in
theorem c_Y5_Sayer_waits (l : Launch) (G : g_G) (OK : EOk G.2.2) (yd : Nat → Nat) (td : Nat → Nat) (tha : g_St) (tra : g_St) (x1 : Int32) (r : Int32) (ttr : g_St) (h : f_Y5_Sayer_waits tha tra x1 = some (r, ttr)) : HI l G yX4_waits (Cond.code yX4_waits cX4_waits 2 (some .int) :: gT) { frames := 2, cells := 0, slots := 0, locals := 42 } .int [.ref (yd 5), .int x1] (bY G yd td tha ++ (bK G td tra ++ [])) r (bY G yd td tha ++ (bK G td ttr ++ [])) := by
  refine HI.mk (lv := [(0, .ref (yd 5)), (1, .int x1)]) OK (by decide) (Nat.le_of_ble_eq_true rfl) rfl ?_
  intro p e s0 m args below meth c ls XX hr I hl
  have hx := XX.x
  have hb := XX.b
  unfold f_Y5_Sayer_waits at h
  refine lv_aload_n hx hb dX4_waits_0 rfl (lv_at hl 0 rfl) ?_
  refine gY_X4_y50_trace XX I dX4_waits_1 ?_
  refine lv_bipush (v := 11) hx hb dX4_waits_4 (by decide) ?_
  obtain ⟨s1, q2, h⟩ := bd1_some h
  have RC := (Rc.mk XX I (q0 := 6) (ci := 8) rfl rfl)
  replace I : Iv G (va_A (bY G yd td tha ++ (bK G td tra ++ [])) s0.heap.size) s0 _ _ ((bK G td tra) ++ (bY G yd td tha ++ [])) := I.perm ((List.Perm.append_left _ (List.Perm.refl _)).trans (List.perm_append_comm_assoc _ _ _))
  refine call_v (X := []) (wc := (bK G td tra)) (Y := (bY G yd td tha ++ [])) (rest := []) XX I hl.1 (c_K_begin l G OK td tra (11 : Int32) s1 q2) kV_X4_20 RC rfl rfl (Nat.le_of_ble_eq_true rfl) ⟨rfl, rfl, Nat.le_of_ble_eq_true rfl, Nat.le_of_ble_eq_true rfl⟩ ⟨Nat.zero_le _, Nat.zero_le _⟩ dX4_waits_6 (fun H locs I => ?_)
  replace I : Iv G (va_A (bY G yd td tha ++ (bK G td tra ++ [])) s0.heap.size) s0 H locs (bY G yd td tha ++ (bK G td s1 ++ [])) := Iv.perm (w := (bK G td s1) ++ (bY G yd td tha ++ [])) I (((List.Perm.append_left _ (List.Perm.refl _)).trans (List.perm_append_comm_assoc _ _ _)).symm)
  refine lv_aload_n hx hb dX4_waits_9 rfl (lv_at hl 0 rfl) ?_
  refine lv_iload_n hx hb dX4_waits_10 rfl (lv_at hl 1 rfl) ?_
  obtain ⟨r4, s5, q6, h⟩ := bd2_some h
  have RC := (Rc.mk XX I (q0 := 5) (ci := 7) rfl rfl)
  replace I : Iv G (va_A (bY G yd td tha ++ (bK G td tra ++ [])) s0.heap.size) s0 _ _ (((bY G yd td tha ++ (bK G td s1 ++ []))) ++ []) := I.perm pasc2
  refine ucall_i (X := []) (wc := (bY G yd td tha ++ (bK G td s1 ++ []))) (Y := []) (rest := []) XX I hl.1 (c_Y5_Sayer_bars l G OK yd td tha s1 x1 r4 s5 q6) kU_X4_26_X7 RC rfl rfl (Nat.le_of_ble_eq_true rfl) ⟨rfl, rfl, Nat.le_of_ble_eq_true rfl, Nat.le_of_ble_eq_true rfl⟩ ⟨Nat.zero_le _, Nat.zero_le _⟩ dX4_waits_11 (fun H locs hz7 I => ?_)
  replace I : Iv G (va_A (bY G yd td tha ++ (bK G td tra ++ [])) s0.heap.size) s0 H locs (bY G yd td tha ++ (bK G td s5 ++ [])) := Iv.perm (w := ((bY G yd td tha ++ (bK G td s5 ++ []))) ++ []) I (pasc2.symm)
  refine lv_iconst (v := 2) hx hb dX4_waits_14 (by decide) ?_
  refine lv_imul hx hb dX4_waits_15 ?_
  obtain ⟨rfl, rfl⟩ := some2 h
  exact e_i rfl XX hr I rfl dX4_waits_16
theorem gY_X4_y50_a {p : Program} {l : Launch} {e : Env} {R : Room} {s0 : State} {m : MethodId} {args : Array Value} {below : List Frame} {meth : Method} {c : Code} {H : Heap} {locs : List Loc} {cells slots : Nat} {Q : State → Prop} {cc : ByteArray} {nL pc : Nat} {ls : Array Slot} {rest : List Value} {G : g_G} {A : Nat → Prop} {yd : Nat → Nat} {td : Nat → Nat} {th : g_St} {tr : g_St} (XX : Cx G A p s0 m meth c cc nL RX4 args) (I : Iv G A s0 H locs (bY G yd td th ++ (bK G td tr ++ []))) (hdg : decode cc pc = .ok (.getfield 13, 3)) (kk : W p l e R s0 m args below meth c H locs cells slots Q (F0 m (pc + 3) ls (.int (gi th 15) :: rest))) : W p l e R s0 m args below meth c H locs cells slots Q (F0 m pc ls (.ref (yd 5) :: rest)) := r_get kfX7 XX I 5 rfl 2 (Nat.le_of_ble_eq_true rfl) wd_222 rfl hdg kk
set_option maxHeartbeats 4000000 in
set_option maxRecDepth 100000 in
theorem c_Y5_Sayer_shares (l : Launch) (G : g_G) (OK : EOk G.2.2) (yd : Nat → Nat) (td : Nat → Nat) (tha : g_St) (tra : g_St) (x1 : Int32) (r : Int32) (ttr : g_St) (h : f_Y5_Sayer_shares tha tra x1 = some (r, ttr)) : HI l G yX4_shares (Cond.code yX4_shares cX4_shares 2 (some .int) :: gT) { frames := 1, cells := 0, slots := 0, locals := 21 } .int [.ref (yd 5), .int x1] (bY G yd td tha ++ (bK G td tra ++ [])) r (bY G yd td tha ++ (bK G td ttr ++ [])) := by
  refine HI.mk (lv := [(0, .ref (yd 5)), (1, .int x1)]) OK (by decide) (Nat.le_of_ble_eq_true rfl) rfl ?_
  intro p e s0 m args below meth c ls XX hr I hl
  have hx := XX.x
  have hb := XX.b
  unfold f_Y5_Sayer_shares at h
  refine lv_aload_n hx hb dX4_shares_0 rfl (lv_at hl 0 rfl) ?_
  refine gY_X4_y50_trace XX I dX4_shares_1 ?_
  refine lv_bipush (v := 12) hx hb dX4_shares_4 (by decide) ?_
  obtain ⟨s1, q2, h⟩ := bd1_some h
  have RC := (Rc.mk XX I (q0 := 6) (ci := 8) rfl rfl)
  replace I : Iv G (va_A (bY G yd td tha ++ (bK G td tra ++ [])) s0.heap.size) s0 _ _ ((bK G td tra) ++ (bY G yd td tha ++ [])) := I.perm ((List.Perm.append_left _ (List.Perm.refl _)).trans (List.perm_append_comm_assoc _ _ _))
  refine call_v (X := []) (wc := (bK G td tra)) (Y := (bY G yd td tha ++ [])) (rest := []) XX I hl.1 (c_K_begin l G OK td tra (12 : Int32) s1 q2) kV_X4_20 RC rfl rfl (Nat.le_of_ble_eq_true rfl) ⟨rfl, rfl, Nat.le_of_ble_eq_true rfl, Nat.le_of_ble_eq_true rfl⟩ ⟨Nat.zero_le _, Nat.zero_le _⟩ dX4_shares_6 (fun H locs I => ?_)
  replace I : Iv G (va_A (bY G yd td tha ++ (bK G td tra ++ [])) s0.heap.size) s0 H locs (bY G yd td tha ++ (bK G td s1 ++ [])) := Iv.perm (w := (bK G td s1) ++ (bY G yd td tha ++ [])) I (((List.Perm.append_left _ (List.Perm.refl _)).trans (List.perm_append_comm_assoc _ _ _)).symm)
  refine lv_aload_n hx hb dX4_shares_9 rfl (lv_at hl 0 rfl) ?_
  refine gY_X4_y50_a XX I dX4_shares_10 ?_
  refine lv_aload_n hx hb dX4_shares_13 rfl (lv_at hl 0 rfl) ?_
  refine gY_X4_y50_n XX I dX4_shares_14 ?_
  refine lv_icmp_ne (tgt := 30) hx hb dX4_shares_17 (by decide) (fun c1 => ?_) (fun c1 => ?_)
  · replace h := if_f h c1
    refine lv_iload_n hx hb dX4_shares_30 rfl (lv_at hl 1 rfl) ?_
    refine lv_aload_n hx hb dX4_shares_31 rfl (lv_at hl 0 rfl) ?_
    refine gY_X4_y50_a XX I dX4_shares_32 ?_
    refine lv_aload_n hx hb dX4_shares_35 rfl (lv_at hl 0 rfl) ?_
    refine gY_X4_y50_n XX I dX4_shares_36 ?_
    refine lv_isub hx hb dX4_shares_39 ?_
    obtain ⟨g4, h⟩ := gd_some h
    refine lv_idiv hx hb dX4_shares_40 g4 ?_
    obtain ⟨rfl, rfl⟩ := some2 h
    exact e_i rfl XX hr I rfl dX4_shares_41
  · replace h := if_t h c1
    refine lv_aload_n hx hb dX4_shares_20 rfl (lv_at hl 0 rfl) ?_
    refine gY_X4_y50_trace XX I dX4_shares_21 ?_
    refine lv_iconst (v := 1) hx hb dX4_shares_24 (by decide) ?_
    refine pY_X4_o1_parted XX I (rfl) dX4_shares_25 (fun H locs I => ?_)
    obtain ⟨s5, es5⟩ : ∃ z, z = si s1 2 (1 : Int32) := ⟨_, rfl⟩
    replace h := lt_e h es5
    replace I : Iv G (va_A (bY G yd td tha ++ (bK G td tra ++ [])) s0.heap.size) s0 H locs (bY G yd td tha ++ (bK G td s5 ++ [])) := by rw [es5]; exact I
    refine lv_iconst (v := 0) hx hb dX4_shares_28 (by decide) ?_
    obtain ⟨rfl, rfl⟩ := some2 h
    exact e_i rfl XX hr I rfl dX4_shares_29
theorem kV_X7_13 : KV RX7 13 RX8 yX8_begin cX8_begin 2 none 1 := KV.mk wd_909 wd_853 wd_854 wd_6 wd_855 (by decide +kernel)
theorem kP_X7_23 : KP RX7 23 ⟨"LifeNoes$Sayer", "shares", "(I)I"⟩ yX4_shares cX4_shares 2 (some .int) 1 := ⟨wd_910, wd_897, wd_284, wd_895, wd_7, wd_915, rfl, by decide, (Or.inl rfl), by decide +kernel⟩
theorem kU_X7_34_X7 : KU RX7 34 RX7 RX4 ⟨"LifeNoes$Told", "bars", "(I)I"⟩ yX4_bars cX4_bars 2 (some .int) 1 := KU.mkU wd_911 wd_912 wd_913 wd_846 wd_7 wd_871 rfl (by decide +kernel)
theorem gY_X7_y50_trace {p : Program} {l : Launch} {e : Env} {R : Room} {s0 : State} {m : MethodId} {args : Array Value} {below : List Frame} {meth : Method} {c : Code} {H : Heap} {locs : List Loc} {cells slots : Nat} {Q : State → Prop} {cc : ByteArray} {nL pc : Nat} {ls : Array Slot} {rest : List Value} {G : g_G} {A : Nat → Prop} {yd : Nat → Nat} {td : Nat → Nat} {th : g_St} {tr : g_St} (XX : Cx G A p s0 m meth c cc nL RX7 args) (I : Iv G A s0 H locs (bY G yd td th ++ (bK G td tr ++ []))) (hdg : decode cc pc = .ok (.getfield 7, 3)) (kk : W p l e R s0 m args below meth c H locs cells slots Q (F0 m (pc + 3) ls (.ref (td 0) :: rest))) : W p l e R s0 m args below meth c H locs cells slots Q (F0 m pc ls (.ref (yd 5) :: rest)) := r_getS (ref := RX7) kfX7 XX I 5 rfl 0 (Nat.le_of_ble_eq_true rfl) wd_212 wd_213 rfl hdg kk
theorem gY_X7_o1_parted {p : Program} {l : Launch} {e : Env} {R : Room} {s0 : State} {m : MethodId} {args : Array Value} {below : List Frame} {meth : Method} {c : Code} {H : Heap} {locs : List Loc} {cells slots : Nat} {Q : State → Prop} {cc : ByteArray} {nL pc : Nat} {ls : Array Slot} {rest : List Value} {G : g_G} {A : Nat → Prop} {yd : Nat → Nat} {td : Nat → Nat} {th : g_St} {tr : g_St} (XX : Cx G A p s0 m meth c cc nL RX7 args) (I : Iv G A s0 H locs (bY G yd td th ++ (bK G td tr ++ []))) (hdg : decode cc pc = .ok (.getfield 26, 3)) (kk : W p l e R s0 m args below meth c H locs cells slots Q (F0 m (pc + 3) ls (.int (gi tr 2) :: rest))) : W p l e R s0 m args below meth c H locs cells slots Q (F0 m pc ls (.ref (td 0) :: rest)) := r_get kfX8 XX I 6 rfl 2 (Nat.le_of_ble_eq_true rfl) wd_188 rfl hdg kk
theorem gY_X7_y50_a {p : Program} {l : Launch} {e : Env} {R : Room} {s0 : State} {m : MethodId} {args : Array Value} {below : List Frame} {meth : Method} {c : Code} {H : Heap} {locs : List Loc} {cells slots : Nat} {Q : State → Prop} {cc : ByteArray} {nL pc : Nat} {ls : Array Slot} {rest : List Value} {G : g_G} {A : Nat → Prop} {yd : Nat → Nat} {td : Nat → Nat} {th : g_St} {tr : g_St} (XX : Cx G A p s0 m meth c cc nL RX7 args) (I : Iv G A s0 H locs (bY G yd td th ++ (bK G td tr ++ []))) (hdg : decode cc pc = .ok (.getfield 30, 3)) (kk : W p l e R s0 m args below meth c H locs cells slots Q (F0 m (pc + 3) ls (.int (gi th 15) :: rest))) : W p l e R s0 m args below meth c H locs cells slots Q (F0 m pc ls (.ref (yd 5) :: rest)) := r_getS (ref := RX7) kfX7 XX I 5 rfl 2 (Nat.le_of_ble_eq_true rfl) wd_225 wd_226 rfl hdg kk
set_option maxHeartbeats 4000000 in
set_option maxRecDepth 100000 in
theorem c_Y5_Told_shares (l : Launch) (G : g_G) (OK : EOk G.2.2) (yd : Nat → Nat) (td : Nat → Nat) (tha : g_St) (tra : g_St) (x1 : Int32) (r : Int32) (ttr : g_St) (h : f_Y5_Told_shares tha tra x1 = some (r, ttr)) : HI l G yX7_shares (Cond.code yX7_shares cX7_shares 3 (some .int) :: gT) { frames := 2, cells := 0, slots := 0, locals := 42 } .int [.ref (yd 5), .int x1] (bY G yd td tha ++ (bK G td tra ++ [])) r (bY G yd td tha ++ (bK G td ttr ++ [])) := by
  refine HI.mk (lv := [(0, .ref (yd 5)), (1, .int x1)]) OK (by decide) (Nat.le_of_ble_eq_true rfl) rfl ?_
  intro p e s0 m args below meth c ls XX hr I hl
  have hx := XX.x
  have hb := XX.b
  unfold f_Y5_Told_shares at h
  refine lv_aload_n hx hb dX7_shares_0 rfl (lv_at hl 0 rfl) ?_
  refine gY_X7_y50_trace XX I dX7_shares_1 ?_
  refine lv_bipush (v := 61) hx hb dX7_shares_4 (by decide) ?_
  obtain ⟨s1, q2, h⟩ := bd1_some h
  have RC := (Rc.mk XX I (q0 := 6) (ci := 8) rfl rfl)
  replace I : Iv G (va_A (bY G yd td tha ++ (bK G td tra ++ [])) s0.heap.size) s0 _ _ ((bK G td tra) ++ (bY G yd td tha ++ [])) := I.perm ((List.Perm.append_left _ (List.Perm.refl _)).trans (List.perm_append_comm_assoc _ _ _))
  refine call_v (X := []) (wc := (bK G td tra)) (Y := (bY G yd td tha ++ [])) (rest := []) XX I hl.1 (c_K_begin l G OK td tra (61 : Int32) s1 q2) kV_X7_13 RC rfl rfl (Nat.le_of_ble_eq_true rfl) ⟨rfl, rfl, Nat.le_of_ble_eq_true rfl, Nat.le_of_ble_eq_true rfl⟩ ⟨Nat.zero_le _, Nat.zero_le _⟩ dX7_shares_6 (fun H locs I => ?_)
  replace I : Iv G (va_A (bY G yd td tha ++ (bK G td tra ++ [])) s0.heap.size) s0 H locs (bY G yd td tha ++ (bK G td s1 ++ [])) := Iv.perm (w := (bK G td s1) ++ (bY G yd td tha ++ [])) I (((List.Perm.append_left _ (List.Perm.refl _)).trans (List.perm_append_comm_assoc _ _ _)).symm)
  refine lv_aload_n hx hb dX7_shares_9 rfl (lv_at hl 0 rfl) ?_
  refine lv_iload_n hx hb dX7_shares_10 rfl (lv_at hl 1 rfl) ?_
  obtain ⟨r4, s5, q6, h⟩ := bd2_some h
  have RC := (Rc.mk XX I (q0 := 5) (ci := 7) rfl rfl)
  replace I : Iv G (va_A (bY G yd td tha ++ (bK G td tra ++ [])) s0.heap.size) s0 _ _ (((bY G yd td tha ++ (bK G td s1 ++ []))) ++ []) := I.perm pasc2
  refine pcall_i (X := []) (wc := (bY G yd td tha ++ (bK G td s1 ++ []))) (Y := []) (rest := []) XX I hl.1 (c_Y5_Sayer_shares l G OK yd td tha s1 x1 r4 s5 q6) kP_X7_23 RC (XX.at 7 rfl) rfl rfl (Nat.le_of_ble_eq_true rfl) ⟨rfl, rfl, Nat.le_of_ble_eq_true rfl, Nat.le_of_ble_eq_true rfl⟩ ⟨Nat.zero_le _, Nat.zero_le _⟩ dX7_shares_11 (fun H locs hz7 I => ?_)
  replace I : Iv G (va_A (bY G yd td tha ++ (bK G td tra ++ [])) s0.heap.size) s0 H locs (bY G yd td tha ++ (bK G td s5 ++ [])) := Iv.perm (w := ((bY G yd td tha ++ (bK G td s5 ++ []))) ++ []) I (pasc2.symm)
  refine lv_istore_n (lv' := [(2, .int r4), (0, .ref (yd 5)), (1, .int x1)]) hx hb dX7_shares_14 rfl hl (by decide) rfl (fun ls hl => ?_)
  refine lv_aload_n hx hb dX7_shares_15 rfl (lv_at hl 1 rfl) ?_
  refine gY_X7_y50_trace XX I dX7_shares_16 ?_
  refine gY_X7_o1_parted XX I dX7_shares_19 ?_
  refine lv_if_eq (tgt := 27) hx hb dX7_shares_22 (by decide) (fun c1 => ?_) (fun c1 => ?_)
  · replace h := if_t h c1
    refine lv_iload_n hx hb dX7_shares_27 rfl (lv_at hl 0 rfl) ?_
    refine lv_aload_n hx hb dX7_shares_28 rfl (lv_at hl 1 rfl) ?_
    refine lv_aload_n hx hb dX7_shares_29 rfl (lv_at hl 1 rfl) ?_
    refine gY_X7_y50_a XX I dX7_shares_30 ?_
    obtain ⟨r8, s9, q10, h⟩ := bd2_some h
    have RC := (Rc.mk XX I (q0 := 5) (ci := 7) rfl rfl)
    replace I : Iv G (va_A (bY G yd td tha ++ (bK G td tra ++ [])) s0.heap.size) s0 _ _ (((bY G yd td tha ++ (bK G td s5 ++ []))) ++ []) := I.perm pasc2
    refine ucall_i (X := []) (wc := (bY G yd td tha ++ (bK G td s5 ++ []))) (Y := []) (rest := [.int r4]) XX I hl.1 (c_Y5_Sayer_bars l G OK yd td tha s5 (gi tha 15) r8 s9 q10) kU_X7_34_X7 RC rfl rfl (Nat.le_of_ble_eq_true rfl) ⟨rfl, rfl, Nat.le_of_ble_eq_true rfl, Nat.le_of_ble_eq_true rfl⟩ ⟨Nat.zero_le _, Nat.zero_le _⟩ dX7_shares_33 (fun H locs hz11 I => ?_)
    replace I : Iv G (va_A (bY G yd td tha ++ (bK G td tra ++ [])) s0.heap.size) s0 H locs (bY G yd td tha ++ (bK G td s9 ++ [])) := Iv.perm (w := ((bY G yd td tha ++ (bK G td s9 ++ []))) ++ []) I (pasc2.symm)
    refine lv_iadd hx hb dX7_shares_36 ?_
    obtain ⟨rfl, rfl⟩ := some2 h
    exact e_i rfl XX hr I rfl dX7_shares_37
  · replace h := if_f h c1
    refine lv_iconst (v := 0) hx hb dX7_shares_25 (by decide) ?_
    obtain ⟨rfl, rfl⟩ := some2 h
    exact e_i rfl XX hr I rfl dX7_shares_26
theorem kU_X4_34_X7 : KU RX4 34 RX7 RX4 ⟨"LifeNoes$Sayer", "waits", "(I)I"⟩ yX4_waits cX4_waits 2 (some .int) 1 := KU.mkU wd_936 wd_876 wd_884 wd_874 wd_7 wd_892 rfl (by decide +kernel)
set_option maxHeartbeats 4000000 in
set_option maxRecDepth 100000 in
theorem c_Y5_Sayer_tells (l : Launch) (G : g_G) (OK : EOk G.2.2) (yd : Nat → Nat) (td : Nat → Nat) (tha : g_St) (tra : g_St) (x1 : Int32) (r : Int32) (ttr : g_St) (h : f_Y5_Sayer_tells tha tra x1 = some (r, ttr)) : HI l G yX4_tells (Cond.code yX4_tells cX4_tells 2 (some .int) :: gT) { frames := 3, cells := 0, slots := 0, locals := 63 } .int [.ref (yd 5), .int x1] (bY G yd td tha ++ (bK G td tra ++ [])) r (bY G yd td tha ++ (bK G td ttr ++ [])) := by
  refine HI.mk (lv := [(0, .ref (yd 5)), (1, .int x1)]) OK (by decide) (Nat.le_of_ble_eq_true rfl) rfl ?_
  intro p e s0 m args below meth c ls XX hr I hl
  have hx := XX.x
  have hb := XX.b
  unfold f_Y5_Sayer_tells at h
  refine lv_aload_n hx hb dX4_tells_0 rfl (lv_at hl 0 rfl) ?_
  refine gY_X4_y50_trace XX I dX4_tells_1 ?_
  refine lv_bipush (v := 13) hx hb dX4_tells_4 (by decide) ?_
  obtain ⟨s1, q2, h⟩ := bd1_some h
  have RC := (Rc.mk XX I (q0 := 6) (ci := 8) rfl rfl)
  replace I : Iv G (va_A (bY G yd td tha ++ (bK G td tra ++ [])) s0.heap.size) s0 _ _ ((bK G td tra) ++ (bY G yd td tha ++ [])) := I.perm ((List.Perm.append_left _ (List.Perm.refl _)).trans (List.perm_append_comm_assoc _ _ _))
  refine call_v (X := []) (wc := (bK G td tra)) (Y := (bY G yd td tha ++ [])) (rest := []) XX I hl.1 (c_K_begin l G OK td tra (13 : Int32) s1 q2) kV_X4_20 RC rfl rfl (Nat.le_of_ble_eq_true rfl) ⟨rfl, rfl, Nat.le_of_ble_eq_true rfl, Nat.le_of_ble_eq_true rfl⟩ ⟨Nat.zero_le _, Nat.zero_le _⟩ dX4_tells_6 (fun H locs I => ?_)
  replace I : Iv G (va_A (bY G yd td tha ++ (bK G td tra ++ [])) s0.heap.size) s0 H locs (bY G yd td tha ++ (bK G td s1 ++ [])) := Iv.perm (w := (bK G td s1) ++ (bY G yd td tha ++ [])) I (((List.Perm.append_left _ (List.Perm.refl _)).trans (List.perm_append_comm_assoc _ _ _)).symm)
  refine lv_aload_n hx hb dX4_tells_9 rfl (lv_at hl 0 rfl) ?_
  refine lv_iload_n hx hb dX4_tells_10 rfl (lv_at hl 1 rfl) ?_
  obtain ⟨r4, s5, q6, h⟩ := bd2_some h
  have RC := (Rc.mk XX I (q0 := 5) (ci := 7) rfl rfl)
  replace I : Iv G (va_A (bY G yd td tha ++ (bK G td tra ++ [])) s0.heap.size) s0 _ _ (((bY G yd td tha ++ (bK G td s1 ++ []))) ++ []) := I.perm pasc2
  refine ucall_i (X := []) (wc := (bY G yd td tha ++ (bK G td s1 ++ []))) (Y := []) (rest := []) XX I hl.1 (c_Y5_Sayer_waits l G OK yd td tha s1 x1 r4 s5 q6) kU_X4_34_X7 RC rfl rfl (Nat.le_of_ble_eq_true rfl) ⟨rfl, rfl, Nat.le_of_ble_eq_true rfl, Nat.le_of_ble_eq_true rfl⟩ ⟨Nat.zero_le _, Nat.zero_le _⟩ dX4_tells_11 (fun H locs hz7 I => ?_)
  replace I : Iv G (va_A (bY G yd td tha ++ (bK G td tra ++ [])) s0.heap.size) s0 H locs (bY G yd td tha ++ (bK G td s5 ++ [])) := Iv.perm (w := ((bY G yd td tha ++ (bK G td s5 ++ []))) ++ []) I (pasc2.symm)
  refine lv_aload_n hx hb dX4_tells_14 rfl (lv_at hl 0 rfl) ?_
  refine gY_X4_y50_a XX I dX4_tells_15 ?_
  refine lv_ixor hx hb dX4_tells_18 ?_
  obtain ⟨rfl, rfl⟩ := some2 h
  exact e_i rfl XX hr I rfl dX4_tells_19
