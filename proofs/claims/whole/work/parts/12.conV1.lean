set_option maxHeartbeats 4000000 in
set_option maxRecDepth 100000 in
theorem c_S_bitCount (l : Launch) (G : g_G) (OK : EOk G.2.2) (x0 : Int32) (r : Int32) (h : f_S_bitCount x0 = r) : HI l G yJ6_bitCount_0f7a4 (Cond.code yJ6_bitCount_0f7a4 cJ6_bitCount_0f7a4 1 (some .int) :: gT) { frames := 0, cells := 0, slots := 0, locals := 0 } .int [.int x0] [] r [] := by
  refine HI.mk (lv := [(0, .int x0)]) OK (by decide) (Nat.le_of_ble_eq_true rfl) rfl ?_
  intro p e s0 m args below meth c ls XX hr I hl
  have hx := XX.x
  have hb := XX.b
  unfold f_S_bitCount at h
  refine lv_iload_n hx hb dJ6_bitCount_0f7a4_0 rfl (lv_at hl 0 rfl) ?_
  refine lv_iload_n hx hb dJ6_bitCount_0f7a4_1 rfl (lv_at hl 0 rfl) ?_
  refine lv_iconst (v := 1) hx hb dJ6_bitCount_0f7a4_2 (by decide) ?_
  refine lv_iushr hx hb dJ6_bitCount_0f7a4_3 rfl ?_
  refine lv_ldcw (v := 1431655765) hx hb XX.o (XX.t _ wd_621) dJ6_bitCount_0f7a4_4 ?_
  refine lv_iand hx hb dJ6_bitCount_0f7a4_7 ?_
  refine lv_isub hx hb dJ6_bitCount_0f7a4_8 ?_
  refine lv_topi (fun y1 ey1 => ?_)
  replace h := lt_e h ey1
  refine lv_istore_n (lv' := [(0, .int y1)]) hx hb dJ6_bitCount_0f7a4_9 rfl hl (by decide) rfl (fun ls hl => ?_)
  refine lv_iload_n hx hb dJ6_bitCount_0f7a4_10 rfl (lv_at hl 0 rfl) ?_
  refine lv_ldcw (v := 858993459) hx hb XX.o (XX.t _ wd_622) dJ6_bitCount_0f7a4_11 ?_
  refine lv_iand hx hb dJ6_bitCount_0f7a4_14 ?_
  refine lv_iload_n hx hb dJ6_bitCount_0f7a4_15 rfl (lv_at hl 0 rfl) ?_
  refine lv_iconst (v := 2) hx hb dJ6_bitCount_0f7a4_16 (by decide) ?_
  refine lv_iushr hx hb dJ6_bitCount_0f7a4_17 rfl ?_
  refine lv_ldcw (v := 858993459) hx hb XX.o (XX.t _ wd_622) dJ6_bitCount_0f7a4_18 ?_
  refine lv_iand hx hb dJ6_bitCount_0f7a4_21 ?_
  refine lv_iadd hx hb dJ6_bitCount_0f7a4_22 ?_
  refine lv_topi (fun y2 ey2 => ?_)
  replace h := lt_e h ey2
  refine lv_istore_n (lv' := [(0, .int y2)]) hx hb dJ6_bitCount_0f7a4_23 rfl hl (by decide) rfl (fun ls hl => ?_)
  refine lv_iload_n hx hb dJ6_bitCount_0f7a4_24 rfl (lv_at hl 0 rfl) ?_
  refine lv_iload_n hx hb dJ6_bitCount_0f7a4_25 rfl (lv_at hl 0 rfl) ?_
  refine lv_iconst (v := 4) hx hb dJ6_bitCount_0f7a4_26 (by decide) ?_
  refine lv_iushr hx hb dJ6_bitCount_0f7a4_27 rfl ?_
  refine lv_iadd hx hb dJ6_bitCount_0f7a4_28 ?_
  refine lv_ldcw (v := 252645135) hx hb XX.o (XX.t _ wd_623) dJ6_bitCount_0f7a4_29 ?_
  refine lv_iand hx hb dJ6_bitCount_0f7a4_32 ?_
  refine lv_topi (fun y3 ey3 => ?_)
  replace h := lt_e h ey3
  refine lv_istore_n (lv' := [(0, .int y3)]) hx hb dJ6_bitCount_0f7a4_33 rfl hl (by decide) rfl (fun ls hl => ?_)
  refine lv_iload_n hx hb dJ6_bitCount_0f7a4_34 rfl (lv_at hl 0 rfl) ?_
  refine lv_iload_n hx hb dJ6_bitCount_0f7a4_35 rfl (lv_at hl 0 rfl) ?_
  refine lv_bipush (v := 8) hx hb dJ6_bitCount_0f7a4_36 (by decide) ?_
  refine lv_iushr hx hb dJ6_bitCount_0f7a4_38 rfl ?_
  refine lv_iadd hx hb dJ6_bitCount_0f7a4_39 ?_
  refine lv_topi (fun y4 ey4 => ?_)
  replace h := lt_e h ey4
  refine lv_istore_n (lv' := [(0, .int y4)]) hx hb dJ6_bitCount_0f7a4_40 rfl hl (by decide) rfl (fun ls hl => ?_)
  refine lv_iload_n hx hb dJ6_bitCount_0f7a4_41 rfl (lv_at hl 0 rfl) ?_
  refine lv_iload_n hx hb dJ6_bitCount_0f7a4_42 rfl (lv_at hl 0 rfl) ?_
  refine lv_bipush (v := 16) hx hb dJ6_bitCount_0f7a4_43 (by decide) ?_
  refine lv_iushr hx hb dJ6_bitCount_0f7a4_45 rfl ?_
  refine lv_iadd hx hb dJ6_bitCount_0f7a4_46 ?_
  refine lv_topi (fun y5 ey5 => ?_)
  replace h := lt_e h ey5
  refine lv_istore_n (lv' := [(0, .int y5)]) hx hb dJ6_bitCount_0f7a4_47 rfl hl (by decide) rfl (fun ls hl => ?_)
  refine lv_iload_n hx hb dJ6_bitCount_0f7a4_48 rfl (lv_at hl 0 rfl) ?_
  refine lv_bipush (v := 63) hx hb dJ6_bitCount_0f7a4_49 (by decide) ?_
  refine lv_iand hx hb dJ6_bitCount_0f7a4_51 ?_
  subst h
  exact e_i rfl XX hr I rfl dJ6_bitCount_0f7a4_52
theorem pV_X9_o0_people {p : Program} {l : Launch} {e : Env} {R : Room} {s0 : State} {m : MethodId} {args : Array Value} {below : List Frame} {meth : Method} {c : Code} {H : Heap} {locs : List Loc} {cells slots : Nat} {Q : State → Prop} {cc : ByteArray} {nL pc : Nat} {ls : Array Slot} {rest : List Value} {G : g_G} {A : Nat → Prop} {ad : Nat → Nat} {v : g_St} {val : Int32} (XX : Cx G A p s0 m meth c cc nL RX9 args) (I : Iv G A s0 H locs (bV G ad v)) (hdg : decode cc pc = .ok (.putfield 9, 3)) (kk : ∀ (H1 : Heap) (locs1 : List Loc), Iv G A s0 H1 locs1 (bV G ad (si v 0 val)) → W p l e R s0 m args below meth c H1 locs1 cells slots Q (F0 m (pc + 3) ls rest)) : W p l e R s0 m args below meth c H locs cells slots Q (F0 m pc ls (.int val :: .ref (ad 0) :: rest)) := r_put kfX9 XX I 0 rfl 0 (Nat.le_of_ble_eq_true rfl) wd_37 rfl (vp_nar_int val) rfl (Nat.le_of_ble_eq_true rfl) rfl hdg kk
theorem pV_X9_o0_proposals {p : Program} {l : Launch} {e : Env} {R : Room} {s0 : State} {m : MethodId} {args : Array Value} {below : List Frame} {meth : Method} {c : Code} {H : Heap} {locs : List Loc} {cells slots : Nat} {Q : State → Prop} {cc : ByteArray} {nL pc : Nat} {ls : Array Slot} {rest : List Value} {G : g_G} {A : Nat → Prop} {ad : Nat → Nat} {v : g_St} {val : Int32} (XX : Cx G A p s0 m meth c cc nL RX9 args) (I : Iv G A s0 H locs (bV G ad v)) (hdg : decode cc pc = .ok (.putfield 31, 3)) (kk : ∀ (H1 : Heap) (locs1 : List Loc), Iv G A s0 H1 locs1 (bV G ad (si v 6 val)) → W p l e R s0 m args below meth c H1 locs1 cells slots Q (F0 m (pc + 3) ls rest)) : W p l e R s0 m args below meth c H locs cells slots Q (F0 m pc ls (.int val :: .ref (ad 0) :: rest)) := r_put kfX9 XX I 0 rfl 6 (Nat.le_of_ble_eq_true rfl) wd_53 rfl (vp_nar_int val) rfl (Nat.le_of_ble_eq_true rfl) rfl hdg kk
theorem gV_X9_o0_law {p : Program} {l : Launch} {e : Env} {R : Room} {s0 : State} {m : MethodId} {args : Array Value} {below : List Frame} {meth : Method} {c : Code} {H : Heap} {locs : List Loc} {cells slots : Nat} {Q : State → Prop} {cc : ByteArray} {nL pc : Nat} {ls : Array Slot} {rest : List Value} {G : g_G} {A : Nat → Prop} {ad : Nat → Nat} {v : g_St} (XX : Cx G A p s0 m meth c cc nL RX9 args) (I : Iv G A s0 H locs (bV G ad v)) (hdg : decode cc pc = .ok (.getfield 42, 3)) (kk : W p l e R s0 m args below meth c H locs cells slots Q (F0 m (pc + 3) ls (.ref (ad 10) :: rest))) : W p l e R s0 m args below meth c H locs cells slots Q (F0 m pc ls (.ref (ad 0) :: rest)) := r_get kfX9 XX I 0 rfl 9 (Nat.le_of_ble_eq_true rfl) wd_64 rfl hdg kk
theorem aV_law0 {G : g_G} {ad : Nat → Nat} {v : g_St} : (bV G ad v)[8]? = some (ad 10, .inl (G.2.1 0, 4, .inl (gr v 9))) := rfl
theorem sV_law0 {G : g_G} {ad : Nat → Nat} {v : g_St} {i : Int32} {x : Int32} : (bV G ad v).set 8 (ad 10, .inl (G.2.1 0, 4, .inl (upd (gr v 9) i.toNatClampNeg x))) = (bV G ad (sr v 9 i x)) := rfl
theorem pV_X9_o0_fell {p : Program} {l : Launch} {e : Env} {R : Room} {s0 : State} {m : MethodId} {args : Array Value} {below : List Frame} {meth : Method} {c : Code} {H : Heap} {locs : List Loc} {cells slots : Nat} {Q : State → Prop} {cc : ByteArray} {nL pc : Nat} {ls : Array Slot} {rest : List Value} {G : g_G} {A : Nat → Prop} {ad : Nat → Nat} {v : g_St} {val : Int32} (XX : Cx G A p s0 m meth c cc nL RX9 args) (I : Iv G A s0 H locs (bV G ad v)) (hdg : decode cc pc = .ok (.putfield 48, 3)) (kk : ∀ (H1 : Heap) (locs1 : List Loc), Iv G A s0 H1 locs1 (bV G ad (si v 11 val)) → W p l e R s0 m args below meth c H1 locs1 cells slots Q (F0 m (pc + 3) ls rest)) : W p l e R s0 m args below meth c H locs cells slots Q (F0 m pc ls (.int val :: .ref (ad 0) :: rest)) := r_put kfX9 XX I 0 rfl 11 (Nat.le_of_ble_eq_true rfl) wd_70 rfl (vp_nar_int val) rfl (Nat.le_of_ble_eq_true rfl) rfl hdg kk
theorem pV_X9_o0_passed {p : Program} {l : Launch} {e : Env} {R : Room} {s0 : State} {m : MethodId} {args : Array Value} {below : List Frame} {meth : Method} {c : Code} {H : Heap} {locs : List Loc} {cells slots : Nat} {Q : State → Prop} {cc : ByteArray} {nL pc : Nat} {ls : Array Slot} {rest : List Value} {G : g_G} {A : Nat → Prop} {ad : Nat → Nat} {v : g_St} {val : Int32} (XX : Cx G A p s0 m meth c cc nL RX9 args) (I : Iv G A s0 H locs (bV G ad v)) (hdg : decode cc pc = .ok (.putfield 51, 3)) (kk : ∀ (H1 : Heap) (locs1 : List Loc), Iv G A s0 H1 locs1 (bV G ad (si v 12 val)) → W p l e R s0 m args below meth c H1 locs1 cells slots Q (F0 m (pc + 3) ls rest)) : W p l e R s0 m args below meth c H locs cells slots Q (F0 m pc ls (.int val :: .ref (ad 0) :: rest)) := r_put kfX9 XX I 0 rfl 12 (Nat.le_of_ble_eq_true rfl) wd_72 rfl (vp_nar_int val) rfl (Nat.le_of_ble_eq_true rfl) rfl hdg kk
set_option maxHeartbeats 4000000 in
set_option maxRecDepth 100000 in
theorem c_V_empty (l : Launch) (G : g_G) (OK : EOk G.2.2) (ad : Nat → Nat) (va : g_St) (tv : g_St) (h : f_V_empty va = tv) : HV l G yX9_empty (Cond.code yX9_empty cX9_empty 1 none :: gT) { frames := 0, cells := 0, slots := 0, locals := 0 } [.ref (ad 0)] (bV G ad va) (bV G ad tv) := by
  refine HV.mk (lv := [(0, .ref (ad 0))]) OK (by decide) (Nat.le_of_ble_eq_true rfl) rfl ?_
  intro p e s0 m args below meth c ls XX hr I hl
  have hx := XX.x
  have hb := XX.b
  unfold f_V_empty at h
  refine lv_aload_n hx hb dX9_empty_0 rfl (lv_at hl 0 rfl) ?_
  refine lv_iconst (v := 0) hx hb dX9_empty_1 (by decide) ?_
  refine pV_X9_o0_people XX I dX9_empty_2 (fun H locs I => ?_)
  obtain ⟨s1, es1⟩ : ∃ z, z = si va 0 (0 : Int32) := ⟨_, rfl⟩
  replace h := lt_e h es1
  replace I : Iv G (va_A (bV G ad va) s0.heap.size) s0 H locs (bV G ad s1) := by rw [es1]; exact I
  refine lv_aload_n hx hb dX9_empty_5 rfl (lv_at hl 0 rfl) ?_
  refine lv_iconst (v := 0) hx hb dX9_empty_6 (by decide) ?_
  refine pV_X9_o0_proposals XX I dX9_empty_7 (fun H locs I => ?_)
  obtain ⟨s2, es2⟩ : ∃ z, z = si s1 6 (0 : Int32) := ⟨_, rfl⟩
  replace h := lt_e h es2
  replace I : Iv G (va_A (bV G ad va) s0.heap.size) s0 H locs (bV G ad s2) := by rw [es2]; exact I
  refine lv_aload_n hx hb dX9_empty_10 rfl (lv_at hl 0 rfl) ?_
  refine gV_X9_o0_law XX I dX9_empty_11 ?_
  refine lv_iconst (v := 0) hx hb dX9_empty_14 (by decide) ?_
  refine lv_iconst (v := 1) hx hb dX9_empty_15 (by decide) ?_
  refine r_iast XX I 8 (aV_law0) (sV_law0) (by unfold vp_in; decide) dX9_empty_16 (fun H locs I => ?_)
  obtain ⟨s3, es3⟩ : ∃ z, z = sr s2 9 (0 : Int32) (1 : Int32) := ⟨_, rfl⟩
  replace h := lt_e h es3
  replace I : Iv G (va_A (bV G ad va) s0.heap.size) s0 H locs (bV G ad s3) := by rw [es3]; exact I
  refine lv_aload_n hx hb dX9_empty_17 rfl (lv_at hl 0 rfl) ?_
  refine gV_X9_o0_law XX I dX9_empty_18 ?_
  refine lv_iconst (v := 1) hx hb dX9_empty_21 (by decide) ?_
  refine lv_iconst (v := 0) hx hb dX9_empty_22 (by decide) ?_
  refine r_iast XX I 8 (aV_law0) (sV_law0) (by unfold vp_in; decide) dX9_empty_23 (fun H locs I => ?_)
  obtain ⟨s4, es4⟩ : ∃ z, z = sr s3 9 (1 : Int32) (0 : Int32) := ⟨_, rfl⟩
  replace h := lt_e h es4
  replace I : Iv G (va_A (bV G ad va) s0.heap.size) s0 H locs (bV G ad s4) := by rw [es4]; exact I
  refine lv_aload_n hx hb dX9_empty_24 rfl (lv_at hl 0 rfl) ?_
  refine gV_X9_o0_law XX I dX9_empty_25 ?_
  refine lv_iconst (v := 2) hx hb dX9_empty_28 (by decide) ?_
  refine lv_iconst (v := 0) hx hb dX9_empty_29 (by decide) ?_
  refine r_iast XX I 8 (aV_law0) (sV_law0) (by unfold vp_in; decide) dX9_empty_30 (fun H locs I => ?_)
  obtain ⟨s5, es5⟩ : ∃ z, z = sr s4 9 (2 : Int32) (0 : Int32) := ⟨_, rfl⟩
  replace h := lt_e h es5
  replace I : Iv G (va_A (bV G ad va) s0.heap.size) s0 H locs (bV G ad s5) := by rw [es5]; exact I
  refine lv_aload_n hx hb dX9_empty_31 rfl (lv_at hl 0 rfl) ?_
  refine gV_X9_o0_law XX I dX9_empty_32 ?_
  refine lv_iconst (v := 3) hx hb dX9_empty_35 (by decide) ?_
  refine lv_iconst (v := 1) hx hb dX9_empty_36 (by decide) ?_
  refine r_iast XX I 8 (aV_law0) (sV_law0) (by unfold vp_in; decide) dX9_empty_37 (fun H locs I => ?_)
  obtain ⟨s6, es6⟩ : ∃ z, z = sr s5 9 (3 : Int32) (1 : Int32) := ⟨_, rfl⟩
  replace h := lt_e h es6
  replace I : Iv G (va_A (bV G ad va) s0.heap.size) s0 H locs (bV G ad s6) := by rw [es6]; exact I
  refine lv_aload_n hx hb dX9_empty_38 rfl (lv_at hl 0 rfl) ?_
  refine lv_iconst (v := 0) hx hb dX9_empty_39 (by decide) ?_
  refine pV_X9_o0_fell XX I dX9_empty_40 (fun H locs I => ?_)
  obtain ⟨s7, es7⟩ : ∃ z, z = si s6 11 (0 : Int32) := ⟨_, rfl⟩
  replace h := lt_e h es7
  replace I : Iv G (va_A (bV G ad va) s0.heap.size) s0 H locs (bV G ad s7) := by rw [es7]; exact I
  refine lv_aload_n hx hb dX9_empty_43 rfl (lv_at hl 0 rfl) ?_
  refine lv_iconst (v := 0) hx hb dX9_empty_44 (by decide) ?_
  refine pV_X9_o0_passed XX I dX9_empty_45 (fun H locs I => ?_)
  obtain ⟨s8, es8⟩ : ∃ z, z = si s7 12 (0 : Int32) := ⟨_, rfl⟩
  replace h := lt_e h es8
  replace I : Iv G (va_A (bV G ad va) s0.heap.size) s0 H locs (bV G ad s8) := by rw [es8]; exact I
  subst h
  exact e_v XX hr I dX9_empty_48
theorem gVV_X9_o1_people {p : Program} {l : Launch} {e : Env} {R : Room} {s0 : State} {m : MethodId} {args : Array Value} {below : List Frame} {meth : Method} {c : Code} {H : Heap} {locs : List Loc} {cells slots : Nat} {Q : State → Prop} {cc : ByteArray} {nL pc : Nat} {ls : Array Slot} {rest : List Value} {G : g_G} {A : Nat → Prop} {ad bd : Nat → Nat} {v u : g_St} (XX : Cx G A p s0 m meth c cc nL RX9 args) (I : Iv G A s0 H locs (bV G ad v ++ (bV G bd u ++ []))) (hdg : decode cc pc = .ok (.getfield 9, 3)) (kk : W p l e R s0 m args below meth c H locs cells slots Q (F0 m (pc + 3) ls (.int (gi u 0) :: rest))) : W p l e R s0 m args below meth c H locs cells slots Q (F0 m pc ls (.ref (bd 0) :: rest)) := r_get kfX9 XX I 17 rfl 0 (Nat.le_of_ble_eq_true rfl) wd_37 rfl hdg kk
theorem pVV_X9_o0_people {p : Program} {l : Launch} {e : Env} {R : Room} {s0 : State} {m : MethodId} {args : Array Value} {below : List Frame} {meth : Method} {c : Code} {H : Heap} {locs : List Loc} {cells slots : Nat} {Q : State → Prop} {cc : ByteArray} {nL pc : Nat} {ls : Array Slot} {rest : List Value} {G : g_G} {A : Nat → Prop} {ad bd : Nat → Nat} {v u : g_St} {val : Int32} (XX : Cx G A p s0 m meth c cc nL RX9 args) (I : Iv G A s0 H locs (bV G ad v ++ (bV G bd u ++ []))) (hdg : decode cc pc = .ok (.putfield 9, 3)) (kk : ∀ (H1 : Heap) (locs1 : List Loc), Iv G A s0 H1 locs1 (bV G ad (si v 0 val) ++ (bV G bd u ++ [])) → W p l e R s0 m args below meth c H1 locs1 cells slots Q (F0 m (pc + 3) ls rest)) : W p l e R s0 m args below meth c H locs cells slots Q (F0 m pc ls (.int val :: .ref (ad 0) :: rest)) := r_put kfX9 XX I 0 rfl 0 (Nat.le_of_ble_eq_true rfl) wd_37 rfl (vp_nar_int val) rfl (Nat.le_of_ble_eq_true rfl) rfl hdg kk
theorem gVV_X9_o1_kind {p : Program} {l : Launch} {e : Env} {R : Room} {s0 : State} {m : MethodId} {args : Array Value} {below : List Frame} {meth : Method} {c : Code} {H : Heap} {locs : List Loc} {cells slots : Nat} {Q : State → Prop} {cc : ByteArray} {nL pc : Nat} {ls : Array Slot} {rest : List Value} {G : g_G} {A : Nat → Prop} {ad bd : Nat → Nat} {v u : g_St} (XX : Cx G A p s0 m meth c cc nL RX9 args) (I : Iv G A s0 H locs (bV G ad v ++ (bV G bd u ++ []))) (hdg : decode cc pc = .ok (.getfield 15, 3)) (kk : W p l e R s0 m args below meth c H locs cells slots Q (F0 m (pc + 3) ls (.ref (bd 2) :: rest))) : W p l e R s0 m args below meth c H locs cells slots Q (F0 m pc ls (.ref (bd 0) :: rest)) := r_get kfX9 XX I 17 rfl 1 (Nat.le_of_ble_eq_true rfl) wd_41 rfl hdg kk
theorem gVV_X9_o0_kind {p : Program} {l : Launch} {e : Env} {R : Room} {s0 : State} {m : MethodId} {args : Array Value} {below : List Frame} {meth : Method} {c : Code} {H : Heap} {locs : List Loc} {cells slots : Nat} {Q : State → Prop} {cc : ByteArray} {nL pc : Nat} {ls : Array Slot} {rest : List Value} {G : g_G} {A : Nat → Prop} {ad bd : Nat → Nat} {v u : g_St} (XX : Cx G A p s0 m meth c cc nL RX9 args) (I : Iv G A s0 H locs (bV G ad v ++ (bV G bd u ++ []))) (hdg : decode cc pc = .ok (.getfield 15, 3)) (kk : W p l e R s0 m args below meth c H locs cells slots Q (F0 m (pc + 3) ls (.ref (ad 2) :: rest))) : W p l e R s0 m args below meth c H locs cells slots Q (F0 m pc ls (.ref (ad 0) :: rest)) := r_get kfX9 XX I 0 rfl 1 (Nat.le_of_ble_eq_true rfl) wd_41 rfl hdg kk
theorem aVV_kind1 {G : g_G} {ad bd : Nat → Nat} {v u : g_St} : (bV G ad v ++ (bV G bd u ++ []))[18]? = some (bd 2, .inl (G.2.1 0, 6, .inl (gr u 1))) := rfl
theorem sVV_kind1 {G : g_G} {ad bd : Nat → Nat} {v u : g_St} {i : Int32} {x : Int32} : (bV G ad v ++ (bV G bd u ++ [])).set 18 (bd 2, .inl (G.2.1 0, 6, .inl (upd (gr u 1) i.toNatClampNeg x))) = (bV G ad v ++ (bV G bd (sr u 1 i x) ++ [])) := rfl
theorem aVV_kind0 {G : g_G} {ad bd : Nat → Nat} {v u : g_St} : (bV G ad v ++ (bV G bd u ++ []))[1]? = some (ad 2, .inl (G.2.1 0, 6, .inl (gr v 1))) := rfl
theorem sVV_kind0 {G : g_G} {ad bd : Nat → Nat} {v u : g_St} {i : Int32} {x : Int32} : (bV G ad v ++ (bV G bd u ++ [])).set 1 (ad 2, .inl (G.2.1 0, 6, .inl (upd (gr v 1) i.toNatClampNeg x))) = (bV G ad (sr v 1 i x) ++ (bV G bd u ++ [])) := rfl
theorem gVV_X9_o1_a {p : Program} {l : Launch} {e : Env} {R : Room} {s0 : State} {m : MethodId} {args : Array Value} {below : List Frame} {meth : Method} {c : Code} {H : Heap} {locs : List Loc} {cells slots : Nat} {Q : State → Prop} {cc : ByteArray} {nL pc : Nat} {ls : Array Slot} {rest : List Value} {G : g_G} {A : Nat → Prop} {ad bd : Nat → Nat} {v u : g_St} (XX : Cx G A p s0 m meth c cc nL RX9 args) (I : Iv G A s0 H locs (bV G ad v ++ (bV G bd u ++ []))) (hdg : decode cc pc = .ok (.getfield 19, 3)) (kk : W p l e R s0 m args below meth c H locs cells slots Q (F0 m (pc + 3) ls (.ref (bd 3) :: rest))) : W p l e R s0 m args below meth c H locs cells slots Q (F0 m pc ls (.ref (bd 0) :: rest)) := r_get kfX9 XX I 17 rfl 2 (Nat.le_of_ble_eq_true rfl) wd_44 rfl hdg kk
theorem gVV_X9_o0_a {p : Program} {l : Launch} {e : Env} {R : Room} {s0 : State} {m : MethodId} {args : Array Value} {below : List Frame} {meth : Method} {c : Code} {H : Heap} {locs : List Loc} {cells slots : Nat} {Q : State → Prop} {cc : ByteArray} {nL pc : Nat} {ls : Array Slot} {rest : List Value} {G : g_G} {A : Nat → Prop} {ad bd : Nat → Nat} {v u : g_St} (XX : Cx G A p s0 m meth c cc nL RX9 args) (I : Iv G A s0 H locs (bV G ad v ++ (bV G bd u ++ []))) (hdg : decode cc pc = .ok (.getfield 19, 3)) (kk : W p l e R s0 m args below meth c H locs cells slots Q (F0 m (pc + 3) ls (.ref (ad 3) :: rest))) : W p l e R s0 m args below meth c H locs cells slots Q (F0 m pc ls (.ref (ad 0) :: rest)) := r_get kfX9 XX I 0 rfl 2 (Nat.le_of_ble_eq_true rfl) wd_44 rfl hdg kk
theorem aVV_a1 {G : g_G} {ad bd : Nat → Nat} {v u : g_St} : (bV G ad v ++ (bV G bd u ++ []))[19]? = some (bd 3, .inl (G.2.1 0, 6, .inl (gr u 2))) := rfl
theorem sVV_a1 {G : g_G} {ad bd : Nat → Nat} {v u : g_St} {i : Int32} {x : Int32} : (bV G ad v ++ (bV G bd u ++ [])).set 19 (bd 3, .inl (G.2.1 0, 6, .inl (upd (gr u 2) i.toNatClampNeg x))) = (bV G ad v ++ (bV G bd (sr u 2 i x) ++ [])) := rfl
theorem aVV_a0 {G : g_G} {ad bd : Nat → Nat} {v u : g_St} : (bV G ad v ++ (bV G bd u ++ []))[2]? = some (ad 3, .inl (G.2.1 0, 6, .inl (gr v 2))) := rfl
theorem sVV_a0 {G : g_G} {ad bd : Nat → Nat} {v u : g_St} {i : Int32} {x : Int32} : (bV G ad v ++ (bV G bd u ++ [])).set 2 (ad 3, .inl (G.2.1 0, 6, .inl (upd (gr v 2) i.toNatClampNeg x))) = (bV G ad (sr v 2 i x) ++ (bV G bd u ++ [])) := rfl
theorem gVV_X9_o1_age {p : Program} {l : Launch} {e : Env} {R : Room} {s0 : State} {m : MethodId} {args : Array Value} {below : List Frame} {meth : Method} {c : Code} {H : Heap} {locs : List Loc} {cells slots : Nat} {Q : State → Prop} {cc : ByteArray} {nL pc : Nat} {ls : Array Slot} {rest : List Value} {G : g_G} {A : Nat → Prop} {ad bd : Nat → Nat} {v u : g_St} (XX : Cx G A p s0 m meth c cc nL RX9 args) (I : Iv G A s0 H locs (bV G ad v ++ (bV G bd u ++ []))) (hdg : decode cc pc = .ok (.getfield 22, 3)) (kk : W p l e R s0 m args below meth c H locs cells slots Q (F0 m (pc + 3) ls (.ref (bd 4) :: rest))) : W p l e R s0 m args below meth c H locs cells slots Q (F0 m pc ls (.ref (bd 0) :: rest)) := r_get kfX9 XX I 17 rfl 3 (Nat.le_of_ble_eq_true rfl) wd_47 rfl hdg kk
theorem gVV_X9_o0_age {p : Program} {l : Launch} {e : Env} {R : Room} {s0 : State} {m : MethodId} {args : Array Value} {below : List Frame} {meth : Method} {c : Code} {H : Heap} {locs : List Loc} {cells slots : Nat} {Q : State → Prop} {cc : ByteArray} {nL pc : Nat} {ls : Array Slot} {rest : List Value} {G : g_G} {A : Nat → Prop} {ad bd : Nat → Nat} {v u : g_St} (XX : Cx G A p s0 m meth c cc nL RX9 args) (I : Iv G A s0 H locs (bV G ad v ++ (bV G bd u ++ []))) (hdg : decode cc pc = .ok (.getfield 22, 3)) (kk : W p l e R s0 m args below meth c H locs cells slots Q (F0 m (pc + 3) ls (.ref (ad 4) :: rest))) : W p l e R s0 m args below meth c H locs cells slots Q (F0 m pc ls (.ref (ad 0) :: rest)) := r_get kfX9 XX I 0 rfl 3 (Nat.le_of_ble_eq_true rfl) wd_47 rfl hdg kk
theorem aVV_age1 {G : g_G} {ad bd : Nat → Nat} {v u : g_St} : (bV G ad v ++ (bV G bd u ++ []))[20]? = some (bd 4, .inl (G.2.1 0, 6, .inl (gr u 3))) := rfl
theorem sVV_age1 {G : g_G} {ad bd : Nat → Nat} {v u : g_St} {i : Int32} {x : Int32} : (bV G ad v ++ (bV G bd u ++ [])).set 20 (bd 4, .inl (G.2.1 0, 6, .inl (upd (gr u 3) i.toNatClampNeg x))) = (bV G ad v ++ (bV G bd (sr u 3 i x) ++ [])) := rfl
theorem aVV_age0 {G : g_G} {ad bd : Nat → Nat} {v u : g_St} : (bV G ad v ++ (bV G bd u ++ []))[3]? = some (ad 4, .inl (G.2.1 0, 6, .inl (gr v 3))) := rfl
theorem sVV_age0 {G : g_G} {ad bd : Nat → Nat} {v u : g_St} {i : Int32} {x : Int32} : (bV G ad v ++ (bV G bd u ++ [])).set 3 (ad 4, .inl (G.2.1 0, 6, .inl (upd (gr v 3) i.toNatClampNeg x))) = (bV G ad (sr v 3 i x) ++ (bV G bd u ++ [])) := rfl
theorem gVV_X9_o1_noes {p : Program} {l : Launch} {e : Env} {R : Room} {s0 : State} {m : MethodId} {args : Array Value} {below : List Frame} {meth : Method} {c : Code} {H : Heap} {locs : List Loc} {cells slots : Nat} {Q : State → Prop} {cc : ByteArray} {nL pc : Nat} {ls : Array Slot} {rest : List Value} {G : g_G} {A : Nat → Prop} {ad bd : Nat → Nat} {v u : g_St} (XX : Cx G A p s0 m meth c cc nL RX9 args) (I : Iv G A s0 H locs (bV G ad v ++ (bV G bd u ++ []))) (hdg : decode cc pc = .ok (.getfield 25, 3)) (kk : W p l e R s0 m args below meth c H locs cells slots Q (F0 m (pc + 3) ls (.ref (bd 5) :: rest))) : W p l e R s0 m args below meth c H locs cells slots Q (F0 m pc ls (.ref (bd 0) :: rest)) := r_get kfX9 XX I 17 rfl 4 (Nat.le_of_ble_eq_true rfl) wd_49 rfl hdg kk
theorem gVV_X9_o0_noes {p : Program} {l : Launch} {e : Env} {R : Room} {s0 : State} {m : MethodId} {args : Array Value} {below : List Frame} {meth : Method} {c : Code} {H : Heap} {locs : List Loc} {cells slots : Nat} {Q : State → Prop} {cc : ByteArray} {nL pc : Nat} {ls : Array Slot} {rest : List Value} {G : g_G} {A : Nat → Prop} {ad bd : Nat → Nat} {v u : g_St} (XX : Cx G A p s0 m meth c cc nL RX9 args) (I : Iv G A s0 H locs (bV G ad v ++ (bV G bd u ++ []))) (hdg : decode cc pc = .ok (.getfield 25, 3)) (kk : W p l e R s0 m args below meth c H locs cells slots Q (F0 m (pc + 3) ls (.ref (ad 5) :: rest))) : W p l e R s0 m args below meth c H locs cells slots Q (F0 m pc ls (.ref (ad 0) :: rest)) := r_get kfX9 XX I 0 rfl 4 (Nat.le_of_ble_eq_true rfl) wd_49 rfl hdg kk
theorem aVV_noes1 {G : g_G} {ad bd : Nat → Nat} {v u : g_St} : (bV G ad v ++ (bV G bd u ++ []))[21]? = some (bd 5, .inl (G.2.1 0, 6, .inl (gr u 4))) := rfl
theorem sVV_noes1 {G : g_G} {ad bd : Nat → Nat} {v u : g_St} {i : Int32} {x : Int32} : (bV G ad v ++ (bV G bd u ++ [])).set 21 (bd 5, .inl (G.2.1 0, 6, .inl (upd (gr u 4) i.toNatClampNeg x))) = (bV G ad v ++ (bV G bd (sr u 4 i x) ++ [])) := rfl
theorem aVV_noes0 {G : g_G} {ad bd : Nat → Nat} {v u : g_St} : (bV G ad v ++ (bV G bd u ++ []))[4]? = some (ad 5, .inl (G.2.1 0, 6, .inl (gr v 4))) := rfl
theorem sVV_noes0 {G : g_G} {ad bd : Nat → Nat} {v u : g_St} {i : Int32} {x : Int32} : (bV G ad v ++ (bV G bd u ++ [])).set 4 (ad 5, .inl (G.2.1 0, 6, .inl (upd (gr v 4) i.toNatClampNeg x))) = (bV G ad (sr v 4 i x) ++ (bV G bd u ++ [])) := rfl
theorem gVV_X9_o1_had {p : Program} {l : Launch} {e : Env} {R : Room} {s0 : State} {m : MethodId} {args : Array Value} {below : List Frame} {meth : Method} {c : Code} {H : Heap} {locs : List Loc} {cells slots : Nat} {Q : State → Prop} {cc : ByteArray} {nL pc : Nat} {ls : Array Slot} {rest : List Value} {G : g_G} {A : Nat → Prop} {ad bd : Nat → Nat} {v u : g_St} (XX : Cx G A p s0 m meth c cc nL RX9 args) (I : Iv G A s0 H locs (bV G ad v ++ (bV G bd u ++ []))) (hdg : decode cc pc = .ok (.getfield 28, 3)) (kk : W p l e R s0 m args below meth c H locs cells slots Q (F0 m (pc + 3) ls (.ref (bd 6) :: rest))) : W p l e R s0 m args below meth c H locs cells slots Q (F0 m pc ls (.ref (bd 0) :: rest)) := r_get kfX9 XX I 17 rfl 5 (Nat.le_of_ble_eq_true rfl) wd_51 rfl hdg kk
theorem gVV_X9_o0_had {p : Program} {l : Launch} {e : Env} {R : Room} {s0 : State} {m : MethodId} {args : Array Value} {below : List Frame} {meth : Method} {c : Code} {H : Heap} {locs : List Loc} {cells slots : Nat} {Q : State → Prop} {cc : ByteArray} {nL pc : Nat} {ls : Array Slot} {rest : List Value} {G : g_G} {A : Nat → Prop} {ad bd : Nat → Nat} {v u : g_St} (XX : Cx G A p s0 m meth c cc nL RX9 args) (I : Iv G A s0 H locs (bV G ad v ++ (bV G bd u ++ []))) (hdg : decode cc pc = .ok (.getfield 28, 3)) (kk : W p l e R s0 m args below meth c H locs cells slots Q (F0 m (pc + 3) ls (.ref (ad 6) :: rest))) : W p l e R s0 m args below meth c H locs cells slots Q (F0 m pc ls (.ref (ad 0) :: rest)) := r_get kfX9 XX I 0 rfl 5 (Nat.le_of_ble_eq_true rfl) wd_51 rfl hdg kk
theorem aVV_had1 {G : g_G} {ad bd : Nat → Nat} {v u : g_St} : (bV G ad v ++ (bV G bd u ++ []))[22]? = some (bd 6, .inl (G.2.1 0, 6, .inl (gr u 5))) := rfl
theorem sVV_had1 {G : g_G} {ad bd : Nat → Nat} {v u : g_St} {i : Int32} {x : Int32} : (bV G ad v ++ (bV G bd u ++ [])).set 22 (bd 6, .inl (G.2.1 0, 6, .inl (upd (gr u 5) i.toNatClampNeg x))) = (bV G ad v ++ (bV G bd (sr u 5 i x) ++ [])) := rfl
theorem aVV_had0 {G : g_G} {ad bd : Nat → Nat} {v u : g_St} : (bV G ad v ++ (bV G bd u ++ []))[5]? = some (ad 6, .inl (G.2.1 0, 6, .inl (gr v 5))) := rfl
theorem sVV_had0 {G : g_G} {ad bd : Nat → Nat} {v u : g_St} {i : Int32} {x : Int32} : (bV G ad v ++ (bV G bd u ++ [])).set 5 (ad 6, .inl (G.2.1 0, 6, .inl (upd (gr v 5) i.toNatClampNeg x))) = (bV G ad (sr v 5 i x) ++ (bV G bd u ++ [])) := rfl
theorem gVV_X9_o1_proposals {p : Program} {l : Launch} {e : Env} {R : Room} {s0 : State} {m : MethodId} {args : Array Value} {below : List Frame} {meth : Method} {c : Code} {H : Heap} {locs : List Loc} {cells slots : Nat} {Q : State → Prop} {cc : ByteArray} {nL pc : Nat} {ls : Array Slot} {rest : List Value} {G : g_G} {A : Nat → Prop} {ad bd : Nat → Nat} {v u : g_St} (XX : Cx G A p s0 m meth c cc nL RX9 args) (I : Iv G A s0 H locs (bV G ad v ++ (bV G bd u ++ []))) (hdg : decode cc pc = .ok (.getfield 31, 3)) (kk : W p l e R s0 m args below meth c H locs cells slots Q (F0 m (pc + 3) ls (.int (gi u 6) :: rest))) : W p l e R s0 m args below meth c H locs cells slots Q (F0 m pc ls (.ref (bd 0) :: rest)) := r_get kfX9 XX I 17 rfl 6 (Nat.le_of_ble_eq_true rfl) wd_53 rfl hdg kk
theorem pVV_X9_o0_proposals {p : Program} {l : Launch} {e : Env} {R : Room} {s0 : State} {m : MethodId} {args : Array Value} {below : List Frame} {meth : Method} {c : Code} {H : Heap} {locs : List Loc} {cells slots : Nat} {Q : State → Prop} {cc : ByteArray} {nL pc : Nat} {ls : Array Slot} {rest : List Value} {G : g_G} {A : Nat → Prop} {ad bd : Nat → Nat} {v u : g_St} {val : Int32} (XX : Cx G A p s0 m meth c cc nL RX9 args) (I : Iv G A s0 H locs (bV G ad v ++ (bV G bd u ++ []))) (hdg : decode cc pc = .ok (.putfield 31, 3)) (kk : ∀ (H1 : Heap) (locs1 : List Loc), Iv G A s0 H1 locs1 (bV G ad (si v 6 val) ++ (bV G bd u ++ [])) → W p l e R s0 m args below meth c H1 locs1 cells slots Q (F0 m (pc + 3) ls rest)) : W p l e R s0 m args below meth c H locs cells slots Q (F0 m pc ls (.int val :: .ref (ad 0) :: rest)) := r_put kfX9 XX I 0 rfl 6 (Nat.le_of_ble_eq_true rfl) wd_53 rfl (vp_nar_int val) rfl (Nat.le_of_ble_eq_true rfl) rfl hdg kk
theorem gVV_X9_o1_weight {p : Program} {l : Launch} {e : Env} {R : Room} {s0 : State} {m : MethodId} {args : Array Value} {below : List Frame} {meth : Method} {c : Code} {H : Heap} {locs : List Loc} {cells slots : Nat} {Q : State → Prop} {cc : ByteArray} {nL pc : Nat} {ls : Array Slot} {rest : List Value} {G : g_G} {A : Nat → Prop} {ad bd : Nat → Nat} {v u : g_St} (XX : Cx G A p s0 m meth c cc nL RX9 args) (I : Iv G A s0 H locs (bV G ad v ++ (bV G bd u ++ []))) (hdg : decode cc pc = .ok (.getfield 34, 3)) (kk : W p l e R s0 m args below meth c H locs cells slots Q (F0 m (pc + 3) ls (.ref (bd 8) :: rest))) : W p l e R s0 m args below meth c H locs cells slots Q (F0 m pc ls (.ref (bd 0) :: rest)) := r_get kfX9 XX I 17 rfl 7 (Nat.le_of_ble_eq_true rfl) wd_57 rfl hdg kk
theorem gVV_X9_o0_weight {p : Program} {l : Launch} {e : Env} {R : Room} {s0 : State} {m : MethodId} {args : Array Value} {below : List Frame} {meth : Method} {c : Code} {H : Heap} {locs : List Loc} {cells slots : Nat} {Q : State → Prop} {cc : ByteArray} {nL pc : Nat} {ls : Array Slot} {rest : List Value} {G : g_G} {A : Nat → Prop} {ad bd : Nat → Nat} {v u : g_St} (XX : Cx G A p s0 m meth c cc nL RX9 args) (I : Iv G A s0 H locs (bV G ad v ++ (bV G bd u ++ []))) (hdg : decode cc pc = .ok (.getfield 34, 3)) (kk : W p l e R s0 m args below meth c H locs cells slots Q (F0 m (pc + 3) ls (.ref (ad 8) :: rest))) : W p l e R s0 m args below meth c H locs cells slots Q (F0 m pc ls (.ref (ad 0) :: rest)) := r_get kfX9 XX I 0 rfl 7 (Nat.le_of_ble_eq_true rfl) wd_57 rfl hdg kk
theorem aVV_weight1 {G : g_G} {ad bd : Nat → Nat} {v u : g_St} : (bV G ad v ++ (bV G bd u ++ []))[23]? = some (bd 8, .inl (G.2.1 0, 8, .inl (gr u 7))) := rfl
theorem sVV_weight1 {G : g_G} {ad bd : Nat → Nat} {v u : g_St} {i : Int32} {x : Int32} : (bV G ad v ++ (bV G bd u ++ [])).set 23 (bd 8, .inl (G.2.1 0, 8, .inl (upd (gr u 7) i.toNatClampNeg x))) = (bV G ad v ++ (bV G bd (sr u 7 i x) ++ [])) := rfl
theorem aVV_weight0 {G : g_G} {ad bd : Nat → Nat} {v u : g_St} : (bV G ad v ++ (bV G bd u ++ []))[6]? = some (ad 8, .inl (G.2.1 0, 8, .inl (gr v 7))) := rfl
theorem sVV_weight0 {G : g_G} {ad bd : Nat → Nat} {v u : g_St} {i : Int32} {x : Int32} : (bV G ad v ++ (bV G bd u ++ [])).set 6 (ad 8, .inl (G.2.1 0, 8, .inl (upd (gr v 7) i.toNatClampNeg x))) = (bV G ad (sr v 7 i x) ++ (bV G bd u ++ [])) := rfl
theorem gVV_X9_o1_law {p : Program} {l : Launch} {e : Env} {R : Room} {s0 : State} {m : MethodId} {args : Array Value} {below : List Frame} {meth : Method} {c : Code} {H : Heap} {locs : List Loc} {cells slots : Nat} {Q : State → Prop} {cc : ByteArray} {nL pc : Nat} {ls : Array Slot} {rest : List Value} {G : g_G} {A : Nat → Prop} {ad bd : Nat → Nat} {v u : g_St} (XX : Cx G A p s0 m meth c cc nL RX9 args) (I : Iv G A s0 H locs (bV G ad v ++ (bV G bd u ++ []))) (hdg : decode cc pc = .ok (.getfield 42, 3)) (kk : W p l e R s0 m args below meth c H locs cells slots Q (F0 m (pc + 3) ls (.ref (bd 10) :: rest))) : W p l e R s0 m args below meth c H locs cells slots Q (F0 m pc ls (.ref (bd 0) :: rest)) := r_get kfX9 XX I 17 rfl 9 (Nat.le_of_ble_eq_true rfl) wd_64 rfl hdg kk
theorem gVV_X9_o0_law {p : Program} {l : Launch} {e : Env} {R : Room} {s0 : State} {m : MethodId} {args : Array Value} {below : List Frame} {meth : Method} {c : Code} {H : Heap} {locs : List Loc} {cells slots : Nat} {Q : State → Prop} {cc : ByteArray} {nL pc : Nat} {ls : Array Slot} {rest : List Value} {G : g_G} {A : Nat → Prop} {ad bd : Nat → Nat} {v u : g_St} (XX : Cx G A p s0 m meth c cc nL RX9 args) (I : Iv G A s0 H locs (bV G ad v ++ (bV G bd u ++ []))) (hdg : decode cc pc = .ok (.getfield 42, 3)) (kk : W p l e R s0 m args below meth c H locs cells slots Q (F0 m (pc + 3) ls (.ref (ad 10) :: rest))) : W p l e R s0 m args below meth c H locs cells slots Q (F0 m pc ls (.ref (ad 0) :: rest)) := r_get kfX9 XX I 0 rfl 9 (Nat.le_of_ble_eq_true rfl) wd_64 rfl hdg kk
theorem aVV_law1 {G : g_G} {ad bd : Nat → Nat} {v u : g_St} : (bV G ad v ++ (bV G bd u ++ []))[25]? = some (bd 10, .inl (G.2.1 0, 4, .inl (gr u 9))) := rfl
theorem sVV_law1 {G : g_G} {ad bd : Nat → Nat} {v u : g_St} {i : Int32} {x : Int32} : (bV G ad v ++ (bV G bd u ++ [])).set 25 (bd 10, .inl (G.2.1 0, 4, .inl (upd (gr u 9) i.toNatClampNeg x))) = (bV G ad v ++ (bV G bd (sr u 9 i x) ++ [])) := rfl
theorem aVV_law0 {G : g_G} {ad bd : Nat → Nat} {v u : g_St} : (bV G ad v ++ (bV G bd u ++ []))[8]? = some (ad 10, .inl (G.2.1 0, 4, .inl (gr v 9))) := rfl
theorem sVV_law0 {G : g_G} {ad bd : Nat → Nat} {v u : g_St} {i : Int32} {x : Int32} : (bV G ad v ++ (bV G bd u ++ [])).set 8 (ad 10, .inl (G.2.1 0, 4, .inl (upd (gr v 9) i.toNatClampNeg x))) = (bV G ad (sr v 9 i x) ++ (bV G bd u ++ [])) := rfl
theorem gVV_X9_o1_z {p : Program} {l : Launch} {e : Env} {R : Room} {s0 : State} {m : MethodId} {args : Array Value} {below : List Frame} {meth : Method} {c : Code} {H : Heap} {locs : List Loc} {cells slots : Nat} {Q : State → Prop} {cc : ByteArray} {nL pc : Nat} {ls : Array Slot} {rest : List Value} {G : g_G} {A : Nat → Prop} {ad bd : Nat → Nat} {v u : g_St} (XX : Cx G A p s0 m meth c cc nL RX9 args) (I : Iv G A s0 H locs (bV G ad v ++ (bV G bd u ++ []))) (hdg : decode cc pc = .ok (.getfield 45, 3)) (kk : W p l e R s0 m args below meth c H locs cells slots Q (F0 m (pc + 3) ls (.int (gi u 10) :: rest))) : W p l e R s0 m args below meth c H locs cells slots Q (F0 m pc ls (.ref (bd 0) :: rest)) := r_get kfX9 XX I 17 rfl 10 (Nat.le_of_ble_eq_true rfl) wd_68 rfl hdg kk
theorem pVV_X9_o0_z {p : Program} {l : Launch} {e : Env} {R : Room} {s0 : State} {m : MethodId} {args : Array Value} {below : List Frame} {meth : Method} {c : Code} {H : Heap} {locs : List Loc} {cells slots : Nat} {Q : State → Prop} {cc : ByteArray} {nL pc : Nat} {ls : Array Slot} {rest : List Value} {G : g_G} {A : Nat → Prop} {ad bd : Nat → Nat} {v u : g_St} {val : Int32} (XX : Cx G A p s0 m meth c cc nL RX9 args) (I : Iv G A s0 H locs (bV G ad v ++ (bV G bd u ++ []))) (hdg : decode cc pc = .ok (.putfield 45, 3)) (kk : ∀ (H1 : Heap) (locs1 : List Loc), Iv G A s0 H1 locs1 (bV G ad (si v 10 val) ++ (bV G bd u ++ [])) → W p l e R s0 m args below meth c H1 locs1 cells slots Q (F0 m (pc + 3) ls rest)) : W p l e R s0 m args below meth c H locs cells slots Q (F0 m pc ls (.int val :: .ref (ad 0) :: rest)) := r_put kfX9 XX I 0 rfl 10 (Nat.le_of_ble_eq_true rfl) wd_68 rfl (vp_nar_int val) rfl (Nat.le_of_ble_eq_true rfl) rfl hdg kk
theorem gVV_X9_o1_fell {p : Program} {l : Launch} {e : Env} {R : Room} {s0 : State} {m : MethodId} {args : Array Value} {below : List Frame} {meth : Method} {c : Code} {H : Heap} {locs : List Loc} {cells slots : Nat} {Q : State → Prop} {cc : ByteArray} {nL pc : Nat} {ls : Array Slot} {rest : List Value} {G : g_G} {A : Nat → Prop} {ad bd : Nat → Nat} {v u : g_St} (XX : Cx G A p s0 m meth c cc nL RX9 args) (I : Iv G A s0 H locs (bV G ad v ++ (bV G bd u ++ []))) (hdg : decode cc pc = .ok (.getfield 48, 3)) (kk : W p l e R s0 m args below meth c H locs cells slots Q (F0 m (pc + 3) ls (.int (gi u 11) :: rest))) : W p l e R s0 m args below meth c H locs cells slots Q (F0 m pc ls (.ref (bd 0) :: rest)) := r_get kfX9 XX I 17 rfl 11 (Nat.le_of_ble_eq_true rfl) wd_70 rfl hdg kk
theorem pVV_X9_o0_fell {p : Program} {l : Launch} {e : Env} {R : Room} {s0 : State} {m : MethodId} {args : Array Value} {below : List Frame} {meth : Method} {c : Code} {H : Heap} {locs : List Loc} {cells slots : Nat} {Q : State → Prop} {cc : ByteArray} {nL pc : Nat} {ls : Array Slot} {rest : List Value} {G : g_G} {A : Nat → Prop} {ad bd : Nat → Nat} {v u : g_St} {val : Int32} (XX : Cx G A p s0 m meth c cc nL RX9 args) (I : Iv G A s0 H locs (bV G ad v ++ (bV G bd u ++ []))) (hdg : decode cc pc = .ok (.putfield 48, 3)) (kk : ∀ (H1 : Heap) (locs1 : List Loc), Iv G A s0 H1 locs1 (bV G ad (si v 11 val) ++ (bV G bd u ++ [])) → W p l e R s0 m args below meth c H1 locs1 cells slots Q (F0 m (pc + 3) ls rest)) : W p l e R s0 m args below meth c H locs cells slots Q (F0 m pc ls (.int val :: .ref (ad 0) :: rest)) := r_put kfX9 XX I 0 rfl 11 (Nat.le_of_ble_eq_true rfl) wd_70 rfl (vp_nar_int val) rfl (Nat.le_of_ble_eq_true rfl) rfl hdg kk
theorem gVV_X9_o1_passed {p : Program} {l : Launch} {e : Env} {R : Room} {s0 : State} {m : MethodId} {args : Array Value} {below : List Frame} {meth : Method} {c : Code} {H : Heap} {locs : List Loc} {cells slots : Nat} {Q : State → Prop} {cc : ByteArray} {nL pc : Nat} {ls : Array Slot} {rest : List Value} {G : g_G} {A : Nat → Prop} {ad bd : Nat → Nat} {v u : g_St} (XX : Cx G A p s0 m meth c cc nL RX9 args) (I : Iv G A s0 H locs (bV G ad v ++ (bV G bd u ++ []))) (hdg : decode cc pc = .ok (.getfield 51, 3)) (kk : W p l e R s0 m args below meth c H locs cells slots Q (F0 m (pc + 3) ls (.int (gi u 12) :: rest))) : W p l e R s0 m args below meth c H locs cells slots Q (F0 m pc ls (.ref (bd 0) :: rest)) := r_get kfX9 XX I 17 rfl 12 (Nat.le_of_ble_eq_true rfl) wd_72 rfl hdg kk
theorem pVV_X9_o0_passed {p : Program} {l : Launch} {e : Env} {R : Room} {s0 : State} {m : MethodId} {args : Array Value} {below : List Frame} {meth : Method} {c : Code} {H : Heap} {locs : List Loc} {cells slots : Nat} {Q : State → Prop} {cc : ByteArray} {nL pc : Nat} {ls : Array Slot} {rest : List Value} {G : g_G} {A : Nat → Prop} {ad bd : Nat → Nat} {v u : g_St} {val : Int32} (XX : Cx G A p s0 m meth c cc nL RX9 args) (I : Iv G A s0 H locs (bV G ad v ++ (bV G bd u ++ []))) (hdg : decode cc pc = .ok (.putfield 51, 3)) (kk : ∀ (H1 : Heap) (locs1 : List Loc), Iv G A s0 H1 locs1 (bV G ad (si v 12 val) ++ (bV G bd u ++ [])) → W p l e R s0 m args below meth c H1 locs1 cells slots Q (F0 m (pc + 3) ls rest)) : W p l e R s0 m args below meth c H locs cells slots Q (F0 m pc ls (.int val :: .ref (ad 0) :: rest)) := r_put kfX9 XX I 0 rfl 12 (Nat.le_of_ble_eq_true rfl) wd_72 rfl (vp_nar_int val) rfl (Nat.le_of_ble_eq_true rfl) rfl hdg kk
theorem gVV_X9_o1_worth {p : Program} {l : Launch} {e : Env} {R : Room} {s0 : State} {m : MethodId} {args : Array Value} {below : List Frame} {meth : Method} {c : Code} {H : Heap} {locs : List Loc} {cells slots : Nat} {Q : State → Prop} {cc : ByteArray} {nL pc : Nat} {ls : Array Slot} {rest : List Value} {G : g_G} {A : Nat → Prop} {ad bd : Nat → Nat} {v u : g_St} (XX : Cx G A p s0 m meth c cc nL RX9 args) (I : Iv G A s0 H locs (bV G ad v ++ (bV G bd u ++ []))) (hdg : decode cc pc = .ok (.getfield 39, 3)) (kk : W p l e R s0 m args below meth c H locs cells slots Q (F0 m (pc + 3) ls (.ref (bd 9) :: rest))) : W p l e R s0 m args below meth c H locs cells slots Q (F0 m pc ls (.ref (bd 0) :: rest)) := r_get kfX9 XX I 17 rfl 8 (Nat.le_of_ble_eq_true rfl) wd_60 rfl hdg kk
theorem gVV_X9_o0_worth {p : Program} {l : Launch} {e : Env} {R : Room} {s0 : State} {m : MethodId} {args : Array Value} {below : List Frame} {meth : Method} {c : Code} {H : Heap} {locs : List Loc} {cells slots : Nat} {Q : State → Prop} {cc : ByteArray} {nL pc : Nat} {ls : Array Slot} {rest : List Value} {G : g_G} {A : Nat → Prop} {ad bd : Nat → Nat} {v u : g_St} (XX : Cx G A p s0 m meth c cc nL RX9 args) (I : Iv G A s0 H locs (bV G ad v ++ (bV G bd u ++ []))) (hdg : decode cc pc = .ok (.getfield 39, 3)) (kk : W p l e R s0 m args below meth c H locs cells slots Q (F0 m (pc + 3) ls (.ref (ad 9) :: rest))) : W p l e R s0 m args below meth c H locs cells slots Q (F0 m pc ls (.ref (ad 0) :: rest)) := r_get kfX9 XX I 0 rfl 8 (Nat.le_of_ble_eq_true rfl) wd_60 rfl hdg kk
theorem aVV_row1 {G : g_G} {ad bd : Nat → Nat} {v u : g_St} {q : Nat} (hq : q < 8) : (bV G ad v ++ (bV G bd u ++ []))[26 + q]? = some (bd (20 + q), .inl (G.2.1 0, 6, .inl (gr u (20 + q)))) := by rcases (show q = 0 ∨ q = 1 ∨ q = 2 ∨ q = 3 ∨ q = 4 ∨ q = 5 ∨ q = 6 ∨ q = 7 by omega) with rfl | rfl | rfl | rfl | rfl | rfl | rfl | rfl <;> rfl
theorem sVV_row1 {G : g_G} {ad bd : Nat → Nat} {v u : g_St} {q : Nat} (hq : q < 8) {i x : Int32} : (bV G ad v ++ (bV G bd u ++ [])).set (26 + q) (bd (20 + q), .inl (G.2.1 0, 6, .inl (upd (gr u (20 + q)) i.toNatClampNeg x))) = (bV G ad v ++ (bV G bd (sr u (20 + q) i x) ++ [])) := by rcases (show q = 0 ∨ q = 1 ∨ q = 2 ∨ q = 3 ∨ q = 4 ∨ q = 5 ∨ q = 6 ∨ q = 7 by omega) with rfl | rfl | rfl | rfl | rfl | rfl | rfl | rfl <;> rfl
theorem aVV_row0 {G : g_G} {ad bd : Nat → Nat} {v u : g_St} {q : Nat} (hq : q < 8) : (bV G ad v ++ (bV G bd u ++ []))[9 + q]? = some (ad (20 + q), .inl (G.2.1 0, 6, .inl (gr v (20 + q)))) := by rcases (show q = 0 ∨ q = 1 ∨ q = 2 ∨ q = 3 ∨ q = 4 ∨ q = 5 ∨ q = 6 ∨ q = 7 by omega) with rfl | rfl | rfl | rfl | rfl | rfl | rfl | rfl <;> rfl
theorem sVV_row0 {G : g_G} {ad bd : Nat → Nat} {v u : g_St} {q : Nat} (hq : q < 8) {i x : Int32} : (bV G ad v ++ (bV G bd u ++ [])).set (9 + q) (ad (20 + q), .inl (G.2.1 0, 6, .inl (upd (gr v (20 + q)) i.toNatClampNeg x))) = (bV G ad (sr v (20 + q) i x) ++ (bV G bd u ++ [])) := by rcases (show q = 0 ∨ q = 1 ∨ q = 2 ∨ q = 3 ∨ q = 4 ∨ q = 5 ∨ q = 6 ∨ q = 7 by omega) with rfl | rfl | rfl | rfl | rfl | rfl | rfl | rfl <;> rfl
theorem yVV_row0 {G : g_G} {ad bd : Nat → Nat} {v u : g_St} {q : Nat} (hq : q < 8) {f : Nat → Int32} : (bV G ad v ++ (bV G bd u ++ [])).set (9 + q) (ad (20 + q), .inl (G.2.1 0, 6, .inl f)) = (bV G ad (sra v (20 + q) f) ++ (bV G bd u ++ [])) := by rcases (show q = 0 ∨ q = 1 ∨ q = 2 ∨ q = 3 ∨ q = 4 ∨ q = 5 ∨ q = 6 ∨ q = 7 by omega) with rfl | rfl | rfl | rfl | rfl | rfl | rfl | rfl <;> rfl
set_option maxHeartbeats 4000000 in
set_option maxRecDepth 100000 in
theorem c_VV_copyFrom (l : Launch) (G : g_G) (OK : EOk G.2.2) (ad : Nat → Nat) (bd : Nat → Nat) (fu : Nat) (va : g_St) (ua : g_St) (tv : g_St) (h : f_VV_copyFrom fu va ua = some tv) : HV l G yX9_copyFrom (Cond.code yX9_copyFrom cX9_copyFrom 3 none :: gT) { frames := 1, cells := 0, slots := 0, locals := 60 } [.ref (ad 0), .ref (bd 0)] (bV G ad va ++ (bV G bd ua ++ [])) (bV G ad tv ++ (bV G bd ua ++ [])) := by
  refine HV.mk (lv := [(0, .ref (ad 0)), (1, .ref (bd 0))]) OK (by decide) (Nat.le_of_ble_eq_true rfl) rfl ?_
  intro p e s0 m args below meth c ls XX hr I hl
  have hx := XX.x
  have hb := XX.b
  have C108 : ∀ n : Nat, ∀ (v : g_St) (v2 : Int32), f_VV_copyFrom_L108 fu n v ua v2 = some tv → ∀ (H : Heap) (locs : List Loc), Iv G (va_A (bV G ad va ++ (bV G bd ua ++ [])) s0.heap.size) s0 H locs (bV G ad v ++ (bV G bd ua ++ [])) → ∀ ls, lv_has ls 3 [(0, .ref (ad 0)), (1, .ref (bd 0)), (2, .int v2)] → W p l e { frames := 1, cells := 0, slots := 0, locals := 60 } s0 m args below meth c H locs 0 0 (QV G below (bV G ad va ++ (bV G bd ua ++ [])) (bV G ad tv ++ (bV G bd ua ++ [])) args s0) (F0 m 108 ls []) := by
    intro n
    induction n with
    | zero => intro v v2 h; exact absurd h (fun q => by cases q)
    | succ n ih =>
      intro v v2 h H locs I ls hl
      rw [f_VV_copyFrom_L108] at h
      refine lv_iload_n hx hb dX9_copyFrom_108 rfl (lv_at hl 2 rfl) ?_
      refine lv_bipush (v := 8) hx hb dX9_copyFrom_109 (by decide) ?_
      refine lv_icmp_ge (tgt := 139) hx hb dX9_copyFrom_111 (by decide) (fun c1 => ?_) (fun c1 => ?_)
      · replace h := if_t h c1
        refine lv_aload_n hx hb dX9_copyFrom_139 rfl (lv_at hl 1 rfl) ?_
        refine gVV_X9_o1_law XX I dX9_copyFrom_140 ?_
        refine lv_iconst (v := 0) hx hb dX9_copyFrom_143 (by decide) ?_
        refine lv_aload_n hx hb dX9_copyFrom_144 rfl (lv_at hl 0 rfl) ?_
        refine gVV_X9_o0_law XX I dX9_copyFrom_145 ?_
        refine lv_iconst (v := 0) hx hb dX9_copyFrom_148 (by decide) ?_
        refine lv_iconst (v := 4) hx hb dX9_copyFrom_149 (by decide) ?_
        refine r_copy (w1 := (bV G ad (sra v 9 (va_cpy (gr ua 9) (gr v 9) (0 : Int32).toNatClampNeg (0 : Int32).toNatClampNeg (4 : Int32).toNatClampNeg)) ++ (bV G bd ua ++ []))) XX I hl.1 wd_484 25 8 (aVV_law1) (aVV_law0) (by unfold cp_ok; decide) rfl (Nat.le_of_ble_eq_true rfl) (Nat.le_of_ble_eq_true rfl) dX9_copyFrom_150 (fun H locs I => ?_)
        obtain ⟨s18, es18⟩ : ∃ z, z = sra v 9 (va_cpy (gr ua 9) (gr v 9) (0 : Int32).toNatClampNeg (0 : Int32).toNatClampNeg (4 : Int32).toNatClampNeg) := ⟨_, rfl⟩
        replace h := lt_e h es18
        replace I : Iv G (va_A (bV G ad va ++ (bV G bd ua ++ [])) s0.heap.size) s0 H locs (bV G ad s18 ++ (bV G bd ua ++ [])) := by rw [es18]; exact I
        refine lv_aload_n hx hb dX9_copyFrom_153 rfl (lv_at hl 0 rfl) ?_
        refine lv_aload_n hx hb dX9_copyFrom_154 rfl (lv_at hl 1 rfl) ?_
        refine gVV_X9_o1_z XX I dX9_copyFrom_155 ?_
        refine lv_topi (fun y19 ey19 => ?_)
        replace h := lt_e h ey19
        refine pVV_X9_o0_z XX I dX9_copyFrom_158 (fun H locs I => ?_)
        obtain ⟨s20, es20⟩ : ∃ z, z = si s18 10 y19 := ⟨_, rfl⟩
        replace h := lt_e h es20
        replace I : Iv G (va_A (bV G ad va ++ (bV G bd ua ++ [])) s0.heap.size) s0 H locs (bV G ad s20 ++ (bV G bd ua ++ [])) := by rw [es20]; exact I
        refine lv_aload_n hx hb dX9_copyFrom_161 rfl (lv_at hl 0 rfl) ?_
        refine lv_aload_n hx hb dX9_copyFrom_162 rfl (lv_at hl 1 rfl) ?_
        refine gVV_X9_o1_fell XX I dX9_copyFrom_163 ?_
        refine lv_topi (fun y21 ey21 => ?_)
        replace h := lt_e h ey21
        refine pVV_X9_o0_fell XX I dX9_copyFrom_166 (fun H locs I => ?_)
        obtain ⟨s22, es22⟩ : ∃ z, z = si s20 11 y21 := ⟨_, rfl⟩
        replace h := lt_e h es22
        replace I : Iv G (va_A (bV G ad va ++ (bV G bd ua ++ [])) s0.heap.size) s0 H locs (bV G ad s22 ++ (bV G bd ua ++ [])) := by rw [es22]; exact I
        refine lv_aload_n hx hb dX9_copyFrom_169 rfl (lv_at hl 0 rfl) ?_
        refine lv_aload_n hx hb dX9_copyFrom_170 rfl (lv_at hl 1 rfl) ?_
        refine gVV_X9_o1_passed XX I dX9_copyFrom_171 ?_
        refine lv_topi (fun y23 ey23 => ?_)
        replace h := lt_e h ey23
        refine pVV_X9_o0_passed XX I dX9_copyFrom_174 (fun H locs I => ?_)
        obtain ⟨s24, es24⟩ : ∃ z, z = si s22 12 y23 := ⟨_, rfl⟩
        replace h := lt_e h es24
        replace I : Iv G (va_A (bV G ad va ++ (bV G bd ua ++ [])) s0.heap.size) s0 H locs (bV G ad s24 ++ (bV G bd ua ++ [])) := by rw [es24]; exact I
        obtain rfl := some1 h
        exact e_v XX hr I dX9_copyFrom_177
      · replace h := if_f h c1
        refine lv_aload_n hx hb dX9_copyFrom_114 rfl (lv_at hl 1 rfl) ?_
        refine gVV_X9_o1_worth XX I dX9_copyFrom_115 ?_
        refine lv_iload_n hx hb dX9_copyFrom_118 rfl (lv_at hl 2 rfl) ?_
        obtain ⟨g25, h⟩ := gd_some h
        refine r_aaldI XX I 24 rfl (v := .ref (bd (20 + v2.toNatClampNeg))) rfl g25 dX9_copyFrom_119 ?_
        refine lv_iconst (v := 0) hx hb dX9_copyFrom_120 (by decide) ?_
        refine lv_aload_n hx hb dX9_copyFrom_121 rfl (lv_at hl 0 rfl) ?_
        refine gVV_X9_o0_worth XX I dX9_copyFrom_122 ?_
        refine lv_iload_n hx hb dX9_copyFrom_125 rfl (lv_at hl 2 rfl) ?_
        obtain ⟨g26, h⟩ := gd_some h
        refine r_aaldI XX I 7 rfl (v := .ref (ad (20 + v2.toNatClampNeg))) rfl g26 dX9_copyFrom_126 ?_
        refine lv_iconst (v := 0) hx hb dX9_copyFrom_127 (by decide) ?_
        refine lv_bipush (v := 6) hx hb dX9_copyFrom_128 (by decide) ?_
        refine r_copy (w1 := (bV G ad (sra v (20 + v2.toNatClampNeg) (va_cpy (gr ua (20 + v2.toNatClampNeg)) (gr v (20 + v2.toNatClampNeg)) (0 : Int32).toNatClampNeg (0 : Int32).toNatClampNeg (6 : Int32).toNatClampNeg)) ++ (bV G bd ua ++ []))) XX I hl.1 wd_484 (26 + v2.toNatClampNeg) (9 + v2.toNatClampNeg) (aVV_row1 (vin_lt g25)) (aVV_row0 (vin_lt g26)) (by unfold cp_ok; decide) (yVV_row0 (vin_lt g26)) (Nat.le_of_ble_eq_true rfl) (Nat.le_of_ble_eq_true rfl) dX9_copyFrom_130 (fun H locs I => ?_)
        obtain ⟨s28, es28⟩ : ∃ z, z = sra v (20 + v2.toNatClampNeg) (va_cpy (gr ua (20 + v2.toNatClampNeg)) (gr v (20 + v2.toNatClampNeg)) (0 : Int32).toNatClampNeg (0 : Int32).toNatClampNeg (6 : Int32).toNatClampNeg) := ⟨_, rfl⟩
        replace h := lt_e h es28
        replace I : Iv G (va_A (bV G ad va ++ (bV G bd ua ++ [])) s0.heap.size) s0 H locs (bV G ad s28 ++ (bV G bd ua ++ [])) := by rw [es28]; exact I
        obtain ⟨y29, ey29⟩ : ∃ z : Int32, z = v2 + (1 : Int32) := ⟨_, rfl⟩
        replace h := lt_e h ey29
        refine lv_iinc (v := y29) (lv' := [(2, .int y29), (0, .ref (ad 0)), (1, .ref (bd 0))]) hx hb dX9_copyFrom_133 hl (k := 2) rfl (by rw [ey29]; rfl) (by decide) rfl (fun ls hl => ?_)
        refine lv_goto (tgt := 108) hx hb dX9_copyFrom_136 (by decide) ?_
        exact ih _ _ h _ _ I ls (lv_sub hl [1, 2, 0] rfl)
  unfold f_VV_copyFrom at h
  refine lv_aload_n hx hb dX9_copyFrom_0 rfl (lv_at hl 0 rfl) ?_
  refine lv_aload_n hx hb dX9_copyFrom_1 rfl (lv_at hl 1 rfl) ?_
  refine gVV_X9_o1_people XX I dX9_copyFrom_2 ?_
  refine lv_topi (fun y1 ey1 => ?_)
  replace h := lt_e h ey1
  refine pVV_X9_o0_people XX I dX9_copyFrom_5 (fun H locs I => ?_)
  obtain ⟨s2, es2⟩ : ∃ z, z = si va 0 y1 := ⟨_, rfl⟩
  replace h := lt_e h es2
  replace I : Iv G (va_A (bV G ad va ++ (bV G bd ua ++ [])) s0.heap.size) s0 H locs (bV G ad s2 ++ (bV G bd ua ++ [])) := by rw [es2]; exact I
  refine lv_aload_n hx hb dX9_copyFrom_8 rfl (lv_at hl 1 rfl) ?_
  refine gVV_X9_o1_kind XX I dX9_copyFrom_9 ?_
  refine lv_iconst (v := 0) hx hb dX9_copyFrom_12 (by decide) ?_
  refine lv_aload_n hx hb dX9_copyFrom_13 rfl (lv_at hl 0 rfl) ?_
  refine gVV_X9_o0_kind XX I dX9_copyFrom_14 ?_
  refine lv_iconst (v := 0) hx hb dX9_copyFrom_17 (by decide) ?_
  refine lv_bipush (v := 6) hx hb dX9_copyFrom_18 (by decide) ?_
  refine r_copy (w1 := (bV G ad (sra s2 1 (va_cpy (gr ua 1) (gr s2 1) (0 : Int32).toNatClampNeg (0 : Int32).toNatClampNeg (6 : Int32).toNatClampNeg)) ++ (bV G bd ua ++ []))) XX I hl.1 wd_484 18 1 (aVV_kind1) (aVV_kind0) (by unfold cp_ok; decide) rfl (Nat.le_of_ble_eq_true rfl) (Nat.le_of_ble_eq_true rfl) dX9_copyFrom_20 (fun H locs I => ?_)
  obtain ⟨s4, es4⟩ : ∃ z, z = sra s2 1 (va_cpy (gr ua 1) (gr s2 1) (0 : Int32).toNatClampNeg (0 : Int32).toNatClampNeg (6 : Int32).toNatClampNeg) := ⟨_, rfl⟩
  replace h := lt_e h es4
  replace I : Iv G (va_A (bV G ad va ++ (bV G bd ua ++ [])) s0.heap.size) s0 H locs (bV G ad s4 ++ (bV G bd ua ++ [])) := by rw [es4]; exact I
  refine lv_aload_n hx hb dX9_copyFrom_23 rfl (lv_at hl 1 rfl) ?_
  refine gVV_X9_o1_a XX I dX9_copyFrom_24 ?_
  refine lv_iconst (v := 0) hx hb dX9_copyFrom_27 (by decide) ?_
  refine lv_aload_n hx hb dX9_copyFrom_28 rfl (lv_at hl 0 rfl) ?_
  refine gVV_X9_o0_a XX I dX9_copyFrom_29 ?_
  refine lv_iconst (v := 0) hx hb dX9_copyFrom_32 (by decide) ?_
  refine lv_bipush (v := 6) hx hb dX9_copyFrom_33 (by decide) ?_
  refine r_copy (w1 := (bV G ad (sra s4 2 (va_cpy (gr ua 2) (gr s4 2) (0 : Int32).toNatClampNeg (0 : Int32).toNatClampNeg (6 : Int32).toNatClampNeg)) ++ (bV G bd ua ++ []))) XX I hl.1 wd_484 19 2 (aVV_a1) (aVV_a0) (by unfold cp_ok; decide) rfl (Nat.le_of_ble_eq_true rfl) (Nat.le_of_ble_eq_true rfl) dX9_copyFrom_35 (fun H locs I => ?_)
  obtain ⟨s6, es6⟩ : ∃ z, z = sra s4 2 (va_cpy (gr ua 2) (gr s4 2) (0 : Int32).toNatClampNeg (0 : Int32).toNatClampNeg (6 : Int32).toNatClampNeg) := ⟨_, rfl⟩
  replace h := lt_e h es6
  replace I : Iv G (va_A (bV G ad va ++ (bV G bd ua ++ [])) s0.heap.size) s0 H locs (bV G ad s6 ++ (bV G bd ua ++ [])) := by rw [es6]; exact I
  refine lv_aload_n hx hb dX9_copyFrom_38 rfl (lv_at hl 1 rfl) ?_
  refine gVV_X9_o1_age XX I dX9_copyFrom_39 ?_
  refine lv_iconst (v := 0) hx hb dX9_copyFrom_42 (by decide) ?_
  refine lv_aload_n hx hb dX9_copyFrom_43 rfl (lv_at hl 0 rfl) ?_
  refine gVV_X9_o0_age XX I dX9_copyFrom_44 ?_
  refine lv_iconst (v := 0) hx hb dX9_copyFrom_47 (by decide) ?_
  refine lv_bipush (v := 6) hx hb dX9_copyFrom_48 (by decide) ?_
  refine r_copy (w1 := (bV G ad (sra s6 3 (va_cpy (gr ua 3) (gr s6 3) (0 : Int32).toNatClampNeg (0 : Int32).toNatClampNeg (6 : Int32).toNatClampNeg)) ++ (bV G bd ua ++ []))) XX I hl.1 wd_484 20 3 (aVV_age1) (aVV_age0) (by unfold cp_ok; decide) rfl (Nat.le_of_ble_eq_true rfl) (Nat.le_of_ble_eq_true rfl) dX9_copyFrom_50 (fun H locs I => ?_)
  obtain ⟨s8, es8⟩ : ∃ z, z = sra s6 3 (va_cpy (gr ua 3) (gr s6 3) (0 : Int32).toNatClampNeg (0 : Int32).toNatClampNeg (6 : Int32).toNatClampNeg) := ⟨_, rfl⟩
  replace h := lt_e h es8
  replace I : Iv G (va_A (bV G ad va ++ (bV G bd ua ++ [])) s0.heap.size) s0 H locs (bV G ad s8 ++ (bV G bd ua ++ [])) := by rw [es8]; exact I
  refine lv_aload_n hx hb dX9_copyFrom_53 rfl (lv_at hl 1 rfl) ?_
  refine gVV_X9_o1_noes XX I dX9_copyFrom_54 ?_
  refine lv_iconst (v := 0) hx hb dX9_copyFrom_57 (by decide) ?_
  refine lv_aload_n hx hb dX9_copyFrom_58 rfl (lv_at hl 0 rfl) ?_
  refine gVV_X9_o0_noes XX I dX9_copyFrom_59 ?_
  refine lv_iconst (v := 0) hx hb dX9_copyFrom_62 (by decide) ?_
  refine lv_bipush (v := 6) hx hb dX9_copyFrom_63 (by decide) ?_
  refine r_copy (w1 := (bV G ad (sra s8 4 (va_cpy (gr ua 4) (gr s8 4) (0 : Int32).toNatClampNeg (0 : Int32).toNatClampNeg (6 : Int32).toNatClampNeg)) ++ (bV G bd ua ++ []))) XX I hl.1 wd_484 21 4 (aVV_noes1) (aVV_noes0) (by unfold cp_ok; decide) rfl (Nat.le_of_ble_eq_true rfl) (Nat.le_of_ble_eq_true rfl) dX9_copyFrom_65 (fun H locs I => ?_)
  obtain ⟨s10, es10⟩ : ∃ z, z = sra s8 4 (va_cpy (gr ua 4) (gr s8 4) (0 : Int32).toNatClampNeg (0 : Int32).toNatClampNeg (6 : Int32).toNatClampNeg) := ⟨_, rfl⟩
  replace h := lt_e h es10
  replace I : Iv G (va_A (bV G ad va ++ (bV G bd ua ++ [])) s0.heap.size) s0 H locs (bV G ad s10 ++ (bV G bd ua ++ [])) := by rw [es10]; exact I
  refine lv_aload_n hx hb dX9_copyFrom_68 rfl (lv_at hl 1 rfl) ?_
  refine gVV_X9_o1_had XX I dX9_copyFrom_69 ?_
  refine lv_iconst (v := 0) hx hb dX9_copyFrom_72 (by decide) ?_
  refine lv_aload_n hx hb dX9_copyFrom_73 rfl (lv_at hl 0 rfl) ?_
  refine gVV_X9_o0_had XX I dX9_copyFrom_74 ?_
  refine lv_iconst (v := 0) hx hb dX9_copyFrom_77 (by decide) ?_
  refine lv_bipush (v := 6) hx hb dX9_copyFrom_78 (by decide) ?_
  refine r_copy (w1 := (bV G ad (sra s10 5 (va_cpy (gr ua 5) (gr s10 5) (0 : Int32).toNatClampNeg (0 : Int32).toNatClampNeg (6 : Int32).toNatClampNeg)) ++ (bV G bd ua ++ []))) XX I hl.1 wd_484 22 5 (aVV_had1) (aVV_had0) (by unfold cp_ok; decide) rfl (Nat.le_of_ble_eq_true rfl) (Nat.le_of_ble_eq_true rfl) dX9_copyFrom_80 (fun H locs I => ?_)
  obtain ⟨s12, es12⟩ : ∃ z, z = sra s10 5 (va_cpy (gr ua 5) (gr s10 5) (0 : Int32).toNatClampNeg (0 : Int32).toNatClampNeg (6 : Int32).toNatClampNeg) := ⟨_, rfl⟩
  replace h := lt_e h es12
  replace I : Iv G (va_A (bV G ad va ++ (bV G bd ua ++ [])) s0.heap.size) s0 H locs (bV G ad s12 ++ (bV G bd ua ++ [])) := by rw [es12]; exact I
  refine lv_aload_n hx hb dX9_copyFrom_83 rfl (lv_at hl 0 rfl) ?_
  refine lv_aload_n hx hb dX9_copyFrom_84 rfl (lv_at hl 1 rfl) ?_
  refine gVV_X9_o1_proposals XX I dX9_copyFrom_85 ?_
  refine lv_topi (fun y13 ey13 => ?_)
  replace h := lt_e h ey13
  refine pVV_X9_o0_proposals XX I dX9_copyFrom_88 (fun H locs I => ?_)
  obtain ⟨s14, es14⟩ : ∃ z, z = si s12 6 y13 := ⟨_, rfl⟩
  replace h := lt_e h es14
  replace I : Iv G (va_A (bV G ad va ++ (bV G bd ua ++ [])) s0.heap.size) s0 H locs (bV G ad s14 ++ (bV G bd ua ++ [])) := by rw [es14]; exact I
  refine lv_aload_n hx hb dX9_copyFrom_91 rfl (lv_at hl 1 rfl) ?_
  refine gVV_X9_o1_weight XX I dX9_copyFrom_92 ?_
  refine lv_iconst (v := 0) hx hb dX9_copyFrom_95 (by decide) ?_
  refine lv_aload_n hx hb dX9_copyFrom_96 rfl (lv_at hl 0 rfl) ?_
  refine gVV_X9_o0_weight XX I dX9_copyFrom_97 ?_
  refine lv_iconst (v := 0) hx hb dX9_copyFrom_100 (by decide) ?_
  refine lv_bipush (v := 8) hx hb dX9_copyFrom_101 (by decide) ?_
  refine r_copy (w1 := (bV G ad (sra s14 7 (va_cpy (gr ua 7) (gr s14 7) (0 : Int32).toNatClampNeg (0 : Int32).toNatClampNeg (8 : Int32).toNatClampNeg)) ++ (bV G bd ua ++ []))) XX I hl.1 wd_484 23 6 (aVV_weight1) (aVV_weight0) (by unfold cp_ok; decide) rfl (Nat.le_of_ble_eq_true rfl) (Nat.le_of_ble_eq_true rfl) dX9_copyFrom_103 (fun H locs I => ?_)
  obtain ⟨s16, es16⟩ : ∃ z, z = sra s14 7 (va_cpy (gr ua 7) (gr s14 7) (0 : Int32).toNatClampNeg (0 : Int32).toNatClampNeg (8 : Int32).toNatClampNeg) := ⟨_, rfl⟩
  replace h := lt_e h es16
  replace I : Iv G (va_A (bV G ad va ++ (bV G bd ua ++ [])) s0.heap.size) s0 H locs (bV G ad s16 ++ (bV G bd ua ++ [])) := by rw [es16]; exact I
  refine lv_iconst (v := 0) hx hb dX9_copyFrom_106 (by decide) ?_
  refine lv_istore_n (lv' := [(2, .int (0 : Int32)), (0, .ref (ad 0)), (1, .ref (bd 0))]) hx hb dX9_copyFrom_107 rfl hl (by decide) rfl (fun ls hl => ?_)
  exact C108 fu _ _ h _ _ I ls (lv_sub hl [1, 2, 0] rfl)
theorem gV_X9_o0_people {p : Program} {l : Launch} {e : Env} {R : Room} {s0 : State} {m : MethodId} {args : Array Value} {below : List Frame} {meth : Method} {c : Code} {H : Heap} {locs : List Loc} {cells slots : Nat} {Q : State → Prop} {cc : ByteArray} {nL pc : Nat} {ls : Array Slot} {rest : List Value} {G : g_G} {A : Nat → Prop} {ad : Nat → Nat} {v : g_St} (XX : Cx G A p s0 m meth c cc nL RX9 args) (I : Iv G A s0 H locs (bV G ad v)) (hdg : decode cc pc = .ok (.getfield 9, 3)) (kk : W p l e R s0 m args below meth c H locs cells slots Q (F0 m (pc + 3) ls (.int (gi v 0) :: rest))) : W p l e R s0 m args below meth c H locs cells slots Q (F0 m pc ls (.ref (ad 0) :: rest)) := r_get kfX9 XX I 0 rfl 0 (Nat.le_of_ble_eq_true rfl) wd_37 rfl hdg kk
theorem gV_X9_o0_kind {p : Program} {l : Launch} {e : Env} {R : Room} {s0 : State} {m : MethodId} {args : Array Value} {below : List Frame} {meth : Method} {c : Code} {H : Heap} {locs : List Loc} {cells slots : Nat} {Q : State → Prop} {cc : ByteArray} {nL pc : Nat} {ls : Array Slot} {rest : List Value} {G : g_G} {A : Nat → Prop} {ad : Nat → Nat} {v : g_St} (XX : Cx G A p s0 m meth c cc nL RX9 args) (I : Iv G A s0 H locs (bV G ad v)) (hdg : decode cc pc = .ok (.getfield 15, 3)) (kk : W p l e R s0 m args below meth c H locs cells slots Q (F0 m (pc + 3) ls (.ref (ad 2) :: rest))) : W p l e R s0 m args below meth c H locs cells slots Q (F0 m pc ls (.ref (ad 0) :: rest)) := r_get kfX9 XX I 0 rfl 1 (Nat.le_of_ble_eq_true rfl) wd_41 rfl hdg kk
theorem aV_kind0 {G : g_G} {ad : Nat → Nat} {v : g_St} : (bV G ad v)[1]? = some (ad 2, .inl (G.2.1 0, 6, .inl (gr v 1))) := rfl
theorem sV_kind0 {G : g_G} {ad : Nat → Nat} {v : g_St} {i : Int32} {x : Int32} : (bV G ad v).set 1 (ad 2, .inl (G.2.1 0, 6, .inl (upd (gr v 1) i.toNatClampNeg x))) = (bV G ad (sr v 1 i x)) := rfl
theorem gV_X9_o0_a {p : Program} {l : Launch} {e : Env} {R : Room} {s0 : State} {m : MethodId} {args : Array Value} {below : List Frame} {meth : Method} {c : Code} {H : Heap} {locs : List Loc} {cells slots : Nat} {Q : State → Prop} {cc : ByteArray} {nL pc : Nat} {ls : Array Slot} {rest : List Value} {G : g_G} {A : Nat → Prop} {ad : Nat → Nat} {v : g_St} (XX : Cx G A p s0 m meth c cc nL RX9 args) (I : Iv G A s0 H locs (bV G ad v)) (hdg : decode cc pc = .ok (.getfield 19, 3)) (kk : W p l e R s0 m args below meth c H locs cells slots Q (F0 m (pc + 3) ls (.ref (ad 3) :: rest))) : W p l e R s0 m args below meth c H locs cells slots Q (F0 m pc ls (.ref (ad 0) :: rest)) := r_get kfX9 XX I 0 rfl 2 (Nat.le_of_ble_eq_true rfl) wd_44 rfl hdg kk
theorem aV_a0 {G : g_G} {ad : Nat → Nat} {v : g_St} : (bV G ad v)[2]? = some (ad 3, .inl (G.2.1 0, 6, .inl (gr v 2))) := rfl
theorem sV_a0 {G : g_G} {ad : Nat → Nat} {v : g_St} {i : Int32} {x : Int32} : (bV G ad v).set 2 (ad 3, .inl (G.2.1 0, 6, .inl (upd (gr v 2) i.toNatClampNeg x))) = (bV G ad (sr v 2 i x)) := rfl
theorem gV_X9_o0_age {p : Program} {l : Launch} {e : Env} {R : Room} {s0 : State} {m : MethodId} {args : Array Value} {below : List Frame} {meth : Method} {c : Code} {H : Heap} {locs : List Loc} {cells slots : Nat} {Q : State → Prop} {cc : ByteArray} {nL pc : Nat} {ls : Array Slot} {rest : List Value} {G : g_G} {A : Nat → Prop} {ad : Nat → Nat} {v : g_St} (XX : Cx G A p s0 m meth c cc nL RX9 args) (I : Iv G A s0 H locs (bV G ad v)) (hdg : decode cc pc = .ok (.getfield 22, 3)) (kk : W p l e R s0 m args below meth c H locs cells slots Q (F0 m (pc + 3) ls (.ref (ad 4) :: rest))) : W p l e R s0 m args below meth c H locs cells slots Q (F0 m pc ls (.ref (ad 0) :: rest)) := r_get kfX9 XX I 0 rfl 3 (Nat.le_of_ble_eq_true rfl) wd_47 rfl hdg kk
theorem aV_age0 {G : g_G} {ad : Nat → Nat} {v : g_St} : (bV G ad v)[3]? = some (ad 4, .inl (G.2.1 0, 6, .inl (gr v 3))) := rfl
theorem sV_age0 {G : g_G} {ad : Nat → Nat} {v : g_St} {i : Int32} {x : Int32} : (bV G ad v).set 3 (ad 4, .inl (G.2.1 0, 6, .inl (upd (gr v 3) i.toNatClampNeg x))) = (bV G ad (sr v 3 i x)) := rfl
theorem gV_X9_o0_noes {p : Program} {l : Launch} {e : Env} {R : Room} {s0 : State} {m : MethodId} {args : Array Value} {below : List Frame} {meth : Method} {c : Code} {H : Heap} {locs : List Loc} {cells slots : Nat} {Q : State → Prop} {cc : ByteArray} {nL pc : Nat} {ls : Array Slot} {rest : List Value} {G : g_G} {A : Nat → Prop} {ad : Nat → Nat} {v : g_St} (XX : Cx G A p s0 m meth c cc nL RX9 args) (I : Iv G A s0 H locs (bV G ad v)) (hdg : decode cc pc = .ok (.getfield 25, 3)) (kk : W p l e R s0 m args below meth c H locs cells slots Q (F0 m (pc + 3) ls (.ref (ad 5) :: rest))) : W p l e R s0 m args below meth c H locs cells slots Q (F0 m pc ls (.ref (ad 0) :: rest)) := r_get kfX9 XX I 0 rfl 4 (Nat.le_of_ble_eq_true rfl) wd_49 rfl hdg kk
theorem aV_noes0 {G : g_G} {ad : Nat → Nat} {v : g_St} : (bV G ad v)[4]? = some (ad 5, .inl (G.2.1 0, 6, .inl (gr v 4))) := rfl
theorem sV_noes0 {G : g_G} {ad : Nat → Nat} {v : g_St} {i : Int32} {x : Int32} : (bV G ad v).set 4 (ad 5, .inl (G.2.1 0, 6, .inl (upd (gr v 4) i.toNatClampNeg x))) = (bV G ad (sr v 4 i x)) := rfl
theorem gV_X9_o0_had {p : Program} {l : Launch} {e : Env} {R : Room} {s0 : State} {m : MethodId} {args : Array Value} {below : List Frame} {meth : Method} {c : Code} {H : Heap} {locs : List Loc} {cells slots : Nat} {Q : State → Prop} {cc : ByteArray} {nL pc : Nat} {ls : Array Slot} {rest : List Value} {G : g_G} {A : Nat → Prop} {ad : Nat → Nat} {v : g_St} (XX : Cx G A p s0 m meth c cc nL RX9 args) (I : Iv G A s0 H locs (bV G ad v)) (hdg : decode cc pc = .ok (.getfield 28, 3)) (kk : W p l e R s0 m args below meth c H locs cells slots Q (F0 m (pc + 3) ls (.ref (ad 6) :: rest))) : W p l e R s0 m args below meth c H locs cells slots Q (F0 m pc ls (.ref (ad 0) :: rest)) := r_get kfX9 XX I 0 rfl 5 (Nat.le_of_ble_eq_true rfl) wd_51 rfl hdg kk
theorem aV_had0 {G : g_G} {ad : Nat → Nat} {v : g_St} : (bV G ad v)[5]? = some (ad 6, .inl (G.2.1 0, 6, .inl (gr v 5))) := rfl
theorem sV_had0 {G : g_G} {ad : Nat → Nat} {v : g_St} {i : Int32} {x : Int32} : (bV G ad v).set 5 (ad 6, .inl (G.2.1 0, 6, .inl (upd (gr v 5) i.toNatClampNeg x))) = (bV G ad (sr v 5 i x)) := rfl
theorem gV_X9_o0_worth {p : Program} {l : Launch} {e : Env} {R : Room} {s0 : State} {m : MethodId} {args : Array Value} {below : List Frame} {meth : Method} {c : Code} {H : Heap} {locs : List Loc} {cells slots : Nat} {Q : State → Prop} {cc : ByteArray} {nL pc : Nat} {ls : Array Slot} {rest : List Value} {G : g_G} {A : Nat → Prop} {ad : Nat → Nat} {v : g_St} (XX : Cx G A p s0 m meth c cc nL RX9 args) (I : Iv G A s0 H locs (bV G ad v)) (hdg : decode cc pc = .ok (.getfield 39, 3)) (kk : W p l e R s0 m args below meth c H locs cells slots Q (F0 m (pc + 3) ls (.ref (ad 9) :: rest))) : W p l e R s0 m args below meth c H locs cells slots Q (F0 m pc ls (.ref (ad 0) :: rest)) := r_get kfX9 XX I 0 rfl 8 (Nat.le_of_ble_eq_true rfl) wd_60 rfl hdg kk
theorem aV_row0 {G : g_G} {ad : Nat → Nat} {v : g_St} {q : Nat} (hq : q < 8) : (bV G ad v)[9 + q]? = some (ad (20 + q), .inl (G.2.1 0, 6, .inl (gr v (20 + q)))) := by rcases (show q = 0 ∨ q = 1 ∨ q = 2 ∨ q = 3 ∨ q = 4 ∨ q = 5 ∨ q = 6 ∨ q = 7 by omega) with rfl | rfl | rfl | rfl | rfl | rfl | rfl | rfl <;> rfl
theorem sV_row0 {G : g_G} {ad : Nat → Nat} {v : g_St} {q : Nat} (hq : q < 8) {i x : Int32} : (bV G ad v).set (9 + q) (ad (20 + q), .inl (G.2.1 0, 6, .inl (upd (gr v (20 + q)) i.toNatClampNeg x))) = (bV G ad (sr v (20 + q) i x)) := by rcases (show q = 0 ∨ q = 1 ∨ q = 2 ∨ q = 3 ∨ q = 4 ∨ q = 5 ∨ q = 6 ∨ q = 7 by omega) with rfl | rfl | rfl | rfl | rfl | rfl | rfl | rfl <;> rfl
set_option maxHeartbeats 4000000 in
set_option maxRecDepth 100000 in
theorem c_V_addPerson (l : Launch) (G : g_G) (OK : EOk G.2.2) (ad : Nat → Nat) (fu : Nat) (va : g_St) (x1 : Int32) (x2 : Int32) (x3 : Int32) (x4 : Int32) (r : Int32) (tv : g_St) (h : f_V_addPerson fu va x1 x2 x3 x4 = some (r, tv)) : HI l G yX9_addPerson (Cond.code yX9_addPerson cX9_addPerson 7 (some .int) :: gT) { frames := 0, cells := 0, slots := 0, locals := 0 } .int [.ref (ad 0), .int x1, .int x2, .int x3, .int x4] (bV G ad va) r (bV G ad tv) := by
  refine HI.mk (lv := [(0, .ref (ad 0)), (1, .int x1), (2, .int x2), (3, .int x3), (4, .int x4)]) OK (by decide) (Nat.le_of_ble_eq_true rfl) rfl ?_
  intro p e s0 m args below meth c ls XX hr I hl
  have hx := XX.x
  have hb := XX.b
  have C50 : ∀ n : Nat, ∀ (v : g_St) (v5 : Int32) (v6 : Int32), f_V_addPerson_L50 fu n v v5 v6 = some (r, tv) → ∀ (H : Heap) (locs : List Loc), Iv G (va_A (bV G ad va) s0.heap.size) s0 H locs (bV G ad v) → ∀ ls, lv_has ls 7 [(0, .ref (ad 0)), (5, .int v5), (6, .int v6)] → W p l e { frames := 0, cells := 0, slots := 0, locals := 0 } s0 m args below meth c H locs 0 0 (QI G below .int r (bV G ad va) (bV G ad tv) args s0) (F0 m 50 ls []) := by
    intro n
    induction n with
    | zero => intro v v5 v6 h; exact absurd h (fun q => by cases q)
    | succ n ih =>
      intro v v5 v6 h H locs I ls hl
      rw [f_V_addPerson_L50] at h
      refine lv_iload hx hb dX9_addPerson_50 (lv_at hl 2 rfl) ?_
      refine lv_bipush (v := 8) hx hb dX9_addPerson_52 (by decide) ?_
      refine lv_icmp_ge (tgt := 74) hx hb dX9_addPerson_54 (by decide) (fun c1 => ?_) (fun c1 => ?_)
      · replace h := if_t h c1
        refine lv_aload_n hx hb dX9_addPerson_74 rfl (lv_at hl 0 rfl) ?_
        refine lv_dup hx hb dX9_addPerson_75 rfl ?_
        refine gV_X9_o0_people XX I dX9_addPerson_76 ?_
        refine lv_iconst (v := 1) hx hb dX9_addPerson_79 (by decide) ?_
        refine lv_iadd hx hb dX9_addPerson_80 ?_
        refine lv_topi (fun y12 ey12 => ?_)
        replace h := lt_e h ey12
        refine pV_X9_o0_people XX I dX9_addPerson_81 (fun H locs I => ?_)
        obtain ⟨s13, es13⟩ : ∃ z, z = si v 0 y12 := ⟨_, rfl⟩
        replace h := lt_e h es13
        replace I : Iv G (va_A (bV G ad va) s0.heap.size) s0 H locs (bV G ad s13) := by rw [es13]; exact I
        refine lv_iload hx hb dX9_addPerson_84 (lv_at hl 1 rfl) ?_
        obtain ⟨rfl, rfl⟩ := some2 h
        exact e_i rfl XX hr I rfl dX9_addPerson_86
      · replace h := if_f h c1
        refine lv_aload_n hx hb dX9_addPerson_57 rfl (lv_at hl 0 rfl) ?_
        refine gV_X9_o0_worth XX I dX9_addPerson_58 ?_
        refine lv_iload hx hb dX9_addPerson_61 (lv_at hl 2 rfl) ?_
        obtain ⟨g14, h⟩ := gd_some h
        refine r_aaldI XX I 7 rfl (v := .ref (ad (20 + v6.toNatClampNeg))) rfl g14 dX9_addPerson_63 ?_
        refine lv_iload hx hb dX9_addPerson_64 (lv_at hl 1 rfl) ?_
        refine lv_iconst (v := 0) hx hb dX9_addPerson_66 (by decide) ?_
        obtain ⟨g15, h⟩ := gd_some h
        refine r_iast XX I (9 + v6.toNatClampNeg) (aV_row0 (vin_lt g14)) (sV_row0 (vin_lt g14)) g15 dX9_addPerson_67 (fun H locs I => ?_)
        obtain ⟨s16, es16⟩ : ∃ z, z = sr v (20 + v6.toNatClampNeg) v5 (0 : Int32) := ⟨_, rfl⟩
        replace h := lt_e h es16
        replace I : Iv G (va_A (bV G ad va) s0.heap.size) s0 H locs (bV G ad s16) := by rw [es16]; exact I
        obtain ⟨y17, ey17⟩ : ∃ z : Int32, z = v6 + (1 : Int32) := ⟨_, rfl⟩
        replace h := lt_e h ey17
        refine lv_iinc (v := y17) (lv' := [(6, .int y17), (0, .ref (ad 0)), (5, .int v5)]) hx hb dX9_addPerson_68 hl (k := 2) rfl (by rw [ey17]; rfl) (by decide) rfl (fun ls hl => ?_)
        refine lv_goto (tgt := 50) hx hb dX9_addPerson_71 (by decide) ?_
        exact ih _ _ _ h _ _ I ls (lv_sub hl [1, 2, 0] rfl)
  unfold f_V_addPerson at h
  refine lv_aload_n hx hb dX9_addPerson_0 rfl (lv_at hl 0 rfl) ?_
  refine gV_X9_o0_people XX I dX9_addPerson_1 ?_
  refine lv_topi (fun y1 ey1 => ?_)
  replace h := lt_e h ey1
  refine lv_istore (lv' := [(5, .int y1), (0, .ref (ad 0)), (1, .int x1), (2, .int x2), (3, .int x3), (4, .int x4)]) hx hb dX9_addPerson_4 hl (by decide) rfl (fun ls hl => ?_)
  refine lv_aload_n hx hb dX9_addPerson_6 rfl (lv_at hl 1 rfl) ?_
  refine gV_X9_o0_kind XX I dX9_addPerson_7 ?_
  refine lv_iload hx hb dX9_addPerson_10 (lv_at hl 0 rfl) ?_
  refine lv_iload_n hx hb dX9_addPerson_12 rfl (lv_at hl 2 rfl) ?_
  obtain ⟨g2, h⟩ := gd_some h
  refine r_iast XX I 1 (aV_kind0) (sV_kind0) g2 dX9_addPerson_13 (fun H locs I => ?_)
  obtain ⟨s3, es3⟩ : ∃ z, z = sr va 1 y1 x1 := ⟨_, rfl⟩
  replace h := lt_e h es3
  replace I : Iv G (va_A (bV G ad va) s0.heap.size) s0 H locs (bV G ad s3) := by rw [es3]; exact I
  refine lv_aload_n hx hb dX9_addPerson_14 rfl (lv_at hl 1 rfl) ?_
  refine gV_X9_o0_a XX I dX9_addPerson_15 ?_
  refine lv_iload hx hb dX9_addPerson_18 (lv_at hl 0 rfl) ?_
  refine lv_iload_n hx hb dX9_addPerson_20 rfl (lv_at hl 3 rfl) ?_
  obtain ⟨g4, h⟩ := gd_some h
  refine r_iast XX I 2 (aV_a0) (sV_a0) g4 dX9_addPerson_21 (fun H locs I => ?_)
  obtain ⟨s5, es5⟩ : ∃ z, z = sr s3 2 y1 x2 := ⟨_, rfl⟩
  replace h := lt_e h es5
  replace I : Iv G (va_A (bV G ad va) s0.heap.size) s0 H locs (bV G ad s5) := by rw [es5]; exact I
  refine lv_aload_n hx hb dX9_addPerson_22 rfl (lv_at hl 1 rfl) ?_
  refine gV_X9_o0_age XX I dX9_addPerson_23 ?_
  refine lv_iload hx hb dX9_addPerson_26 (lv_at hl 0 rfl) ?_
  refine lv_iload_n hx hb dX9_addPerson_28 rfl (lv_at hl 4 rfl) ?_
  obtain ⟨g6, h⟩ := gd_some h
  refine r_iast XX I 3 (aV_age0) (sV_age0) g6 dX9_addPerson_29 (fun H locs I => ?_)
  obtain ⟨s7, es7⟩ : ∃ z, z = sr s5 3 y1 x3 := ⟨_, rfl⟩
  replace h := lt_e h es7
  replace I : Iv G (va_A (bV G ad va) s0.heap.size) s0 H locs (bV G ad s7) := by rw [es7]; exact I
  refine lv_aload_n hx hb dX9_addPerson_30 rfl (lv_at hl 1 rfl) ?_
  refine gV_X9_o0_noes XX I dX9_addPerson_31 ?_
  refine lv_iload hx hb dX9_addPerson_34 (lv_at hl 0 rfl) ?_
  refine lv_iload hx hb dX9_addPerson_36 (lv_at hl 5 rfl) ?_
  obtain ⟨g8, h⟩ := gd_some h
  refine r_iast XX I 4 (aV_noes0) (sV_noes0) g8 dX9_addPerson_38 (fun H locs I => ?_)
  obtain ⟨s9, es9⟩ : ∃ z, z = sr s7 4 y1 x4 := ⟨_, rfl⟩
  replace h := lt_e h es9
  replace I : Iv G (va_A (bV G ad va) s0.heap.size) s0 H locs (bV G ad s9) := by rw [es9]; exact I
  refine lv_aload_n hx hb dX9_addPerson_39 rfl (lv_at hl 1 rfl) ?_
  refine gV_X9_o0_had XX I dX9_addPerson_40 ?_
  refine lv_iload hx hb dX9_addPerson_43 (lv_at hl 0 rfl) ?_
  refine lv_iconst (v := 0) hx hb dX9_addPerson_45 (by decide) ?_
  obtain ⟨g10, h⟩ := gd_some h
  refine r_iast XX I 5 (aV_had0) (sV_had0) g10 dX9_addPerson_46 (fun H locs I => ?_)
  obtain ⟨s11, es11⟩ : ∃ z, z = sr s9 5 y1 (0 : Int32) := ⟨_, rfl⟩
  replace h := lt_e h es11
  replace I : Iv G (va_A (bV G ad va) s0.heap.size) s0 H locs (bV G ad s11) := by rw [es11]; exact I
  refine lv_iconst (v := 0) hx hb dX9_addPerson_47 (by decide) ?_
  refine lv_istore (lv' := [(6, .int (0 : Int32)), (5, .int y1), (0, .ref (ad 0)), (1, .int x1), (2, .int x2), (3, .int x3), (4, .int x4)]) hx hb dX9_addPerson_48 hl (by decide) rfl (fun ls hl => ?_)
  exact C50 fu _ _ _ h _ _ I ls (lv_sub hl [2, 1, 0] rfl)
theorem yV_row0 {G : g_G} {ad : Nat → Nat} {v : g_St} {q : Nat} (hq : q < 8) {f : Nat → Int32} : (bV G ad v).set (9 + q) (ad (20 + q), .inl (G.2.1 0, 6, .inl f)) = (bV G ad (sra v (20 + q) f)) := by rcases (show q = 0 ∨ q = 1 ∨ q = 2 ∨ q = 3 ∨ q = 4 ∨ q = 5 ∨ q = 6 ∨ q = 7 by omega) with rfl | rfl | rfl | rfl | rfl | rfl | rfl | rfl <;> rfl
set_option maxHeartbeats 4000000 in
set_option maxRecDepth 100000 in
theorem c_V_removePerson (l : Launch) (G : g_G) (OK : EOk G.2.2) (ad : Nat → Nat) (fu : Nat) (va : g_St) (x1 : Int32) (tv : g_St) (h : f_V_removePerson fu va x1 = some tv) : HV l G yX9_removePerson (Cond.code yX9_removePerson cX9_removePerson 4 none :: gT) { frames := 1, cells := 0, slots := 0, locals := 60 } [.ref (ad 0), .int x1] (bV G ad va) (bV G ad tv) := by
  refine HV.mk (lv := [(0, .ref (ad 0)), (1, .int x1)]) OK (by decide) (Nat.le_of_ble_eq_true rfl) rfl ?_
  intro p e s0 m args below meth c ls XX hr I hl
  have hx := XX.x
  have hb := XX.b
  have C91 : ∀ n : Nat, ∀ (v : g_St) (v1 : Int32) (v2 : Int32) (v3 : Int32), f_V_removePerson_L91 fu n v v1 v2 v3 = some tv → ∀ (H : Heap) (locs : List Loc), Iv G (va_A (bV G ad va) s0.heap.size) s0 H locs (bV G ad v) → ∀ ls, lv_has ls 4 [(0, .ref (ad 0)), (1, .int v1), (2, .int v2), (3, .int v3)] → W p l e { frames := 1, cells := 0, slots := 0, locals := 60 } s0 m args below meth c H locs 0 0 (QV G below (bV G ad va) (bV G ad tv) args s0) (F0 m 91 ls []) := by
    intro n
    induction n with
    | zero => intro v v1 v2 v3 h; exact absurd h (fun q => by cases q)
    | succ n ih =>
      intro v v1 v2 v3 h H locs I ls hl
      rw [f_V_removePerson_L91] at h
      refine lv_iload_n hx hb dX9_removePerson_91 rfl (lv_at hl 3 rfl) ?_
      refine lv_bipush (v := 8) hx hb dX9_removePerson_92 (by decide) ?_
      refine lv_icmp_ge (tgt := 123) hx hb dX9_removePerson_94 (by decide) (fun c1 => ?_) (fun c1 => ?_)
      · replace h := if_t h c1
        refine lv_aload_n hx hb dX9_removePerson_123 rfl (lv_at hl 0 rfl) ?_
        refine lv_dup hx hb dX9_removePerson_124 rfl ?_
        refine gV_X9_o0_people XX I dX9_removePerson_125 ?_
        refine lv_iconst (v := 1) hx hb dX9_removePerson_128 (by decide) ?_
        refine lv_isub hx hb dX9_removePerson_129 ?_
        refine lv_topi (fun y12 ey12 => ?_)
        replace h := lt_e h ey12
        refine pV_X9_o0_people XX I dX9_removePerson_130 (fun H locs I => ?_)
        obtain ⟨s13, es13⟩ : ∃ z, z = si v 0 y12 := ⟨_, rfl⟩
        replace h := lt_e h es13
        replace I : Iv G (va_A (bV G ad va) s0.heap.size) s0 H locs (bV G ad s13) := by rw [es13]; exact I
        obtain rfl := some1 h
        exact e_v XX hr I dX9_removePerson_133
      · replace h := if_f h c1
        refine lv_aload_n hx hb dX9_removePerson_97 rfl (lv_at hl 0 rfl) ?_
        refine gV_X9_o0_worth XX I dX9_removePerson_98 ?_
        refine lv_iload_n hx hb dX9_removePerson_101 rfl (lv_at hl 3 rfl) ?_
        obtain ⟨g14, h⟩ := gd_some h
        refine r_aaldI XX I 7 rfl (v := .ref (ad (20 + v3.toNatClampNeg))) rfl g14 dX9_removePerson_102 ?_
        refine lv_iload_n hx hb dX9_removePerson_103 rfl (lv_at hl 1 rfl) ?_
        refine lv_iconst (v := 1) hx hb dX9_removePerson_104 (by decide) ?_
        refine lv_iadd hx hb dX9_removePerson_105 ?_
        refine lv_aload_n hx hb dX9_removePerson_106 rfl (lv_at hl 0 rfl) ?_
        refine gV_X9_o0_worth XX I dX9_removePerson_107 ?_
        refine lv_iload_n hx hb dX9_removePerson_110 rfl (lv_at hl 3 rfl) ?_
        obtain ⟨g15, h⟩ := gd_some h
        refine r_aaldI XX I 7 rfl (v := .ref (ad (20 + v3.toNatClampNeg))) rfl g15 dX9_removePerson_111 ?_
        refine lv_iload_n hx hb dX9_removePerson_112 rfl (lv_at hl 1 rfl) ?_
        refine lv_iload_n hx hb dX9_removePerson_113 rfl (lv_at hl 2 rfl) ?_
        obtain ⟨g16, h⟩ := gd_some h
        refine r_copy (w1 := (bV G ad (sra v (20 + v3.toNatClampNeg) (va_cpy (gr v (20 + v3.toNatClampNeg)) (gr v (20 + v3.toNatClampNeg)) (v1 + (1 : Int32)).toNatClampNeg v1.toNatClampNeg v2.toNatClampNeg)))) XX I hl.1 wd_484 (9 + v3.toNatClampNeg) (9 + v3.toNatClampNeg) (aV_row0 (vin_lt g14)) (aV_row0 (vin_lt g15)) g16 (yV_row0 (vin_lt g15)) (Nat.le_of_ble_eq_true rfl) (Nat.le_of_ble_eq_true rfl) dX9_removePerson_114 (fun H locs I => ?_)
        obtain ⟨s17, es17⟩ : ∃ z, z = sra v (20 + v3.toNatClampNeg) (va_cpy (gr v (20 + v3.toNatClampNeg)) (gr v (20 + v3.toNatClampNeg)) (v1 + (1 : Int32)).toNatClampNeg v1.toNatClampNeg v2.toNatClampNeg) := ⟨_, rfl⟩
        replace h := lt_e h es17
        replace I : Iv G (va_A (bV G ad va) s0.heap.size) s0 H locs (bV G ad s17) := by rw [es17]; exact I
        obtain ⟨y18, ey18⟩ : ∃ z : Int32, z = v3 + (1 : Int32) := ⟨_, rfl⟩
        replace h := lt_e h ey18
        refine lv_iinc (v := y18) (lv' := [(3, .int y18), (0, .ref (ad 0)), (1, .int v1), (2, .int v2)]) hx hb dX9_removePerson_117 hl (k := 3) rfl (by rw [ey18]; rfl) (by decide) rfl (fun ls hl => ?_)
        refine lv_goto (tgt := 91) hx hb dX9_removePerson_120 (by decide) ?_
        exact ih _ _ _ _ h _ _ I ls (lv_sub hl [1, 2, 3, 0] rfl)
  unfold f_V_removePerson at h
  refine lv_aload_n hx hb dX9_removePerson_0 rfl (lv_at hl 0 rfl) ?_
  refine gV_X9_o0_people XX I dX9_removePerson_1 ?_
  refine lv_iconst (v := 1) hx hb dX9_removePerson_4 (by decide) ?_
  refine lv_isub hx hb dX9_removePerson_5 ?_
  refine lv_iload_n hx hb dX9_removePerson_6 rfl (lv_at hl 1 rfl) ?_
  refine lv_isub hx hb dX9_removePerson_7 ?_
  refine lv_topi (fun y1 ey1 => ?_)
  replace h := lt_e h ey1
  refine lv_istore_n (lv' := [(2, .int y1), (0, .ref (ad 0)), (1, .int x1)]) hx hb dX9_removePerson_8 rfl hl (by decide) rfl (fun ls hl => ?_)
  refine lv_aload_n hx hb dX9_removePerson_9 rfl (lv_at hl 1 rfl) ?_
  refine gV_X9_o0_kind XX I dX9_removePerson_10 ?_
  refine lv_iload_n hx hb dX9_removePerson_13 rfl (lv_at hl 2 rfl) ?_
  refine lv_iconst (v := 1) hx hb dX9_removePerson_14 (by decide) ?_
  refine lv_iadd hx hb dX9_removePerson_15 ?_
  refine lv_aload_n hx hb dX9_removePerson_16 rfl (lv_at hl 1 rfl) ?_
  refine gV_X9_o0_kind XX I dX9_removePerson_17 ?_
  refine lv_iload_n hx hb dX9_removePerson_20 rfl (lv_at hl 2 rfl) ?_
  refine lv_iload_n hx hb dX9_removePerson_21 rfl (lv_at hl 0 rfl) ?_
  obtain ⟨g2, h⟩ := gd_some h
  refine r_copy (w1 := (bV G ad (sra va 1 (va_cpy (gr va 1) (gr va 1) (x1 + (1 : Int32)).toNatClampNeg x1.toNatClampNeg y1.toNatClampNeg)))) XX I hl.1 wd_484 1 1 (aV_kind0) (aV_kind0) g2 rfl (Nat.le_of_ble_eq_true rfl) (Nat.le_of_ble_eq_true rfl) dX9_removePerson_22 (fun H locs I => ?_)
  obtain ⟨s3, es3⟩ : ∃ z, z = sra va 1 (va_cpy (gr va 1) (gr va 1) (x1 + (1 : Int32)).toNatClampNeg x1.toNatClampNeg y1.toNatClampNeg) := ⟨_, rfl⟩
  replace h := lt_e h es3
  replace I : Iv G (va_A (bV G ad va) s0.heap.size) s0 H locs (bV G ad s3) := by rw [es3]; exact I
  refine lv_aload_n hx hb dX9_removePerson_25 rfl (lv_at hl 1 rfl) ?_
  refine gV_X9_o0_a XX I dX9_removePerson_26 ?_
  refine lv_iload_n hx hb dX9_removePerson_29 rfl (lv_at hl 2 rfl) ?_
  refine lv_iconst (v := 1) hx hb dX9_removePerson_30 (by decide) ?_
  refine lv_iadd hx hb dX9_removePerson_31 ?_
  refine lv_aload_n hx hb dX9_removePerson_32 rfl (lv_at hl 1 rfl) ?_
  refine gV_X9_o0_a XX I dX9_removePerson_33 ?_
  refine lv_iload_n hx hb dX9_removePerson_36 rfl (lv_at hl 2 rfl) ?_
  refine lv_iload_n hx hb dX9_removePerson_37 rfl (lv_at hl 0 rfl) ?_
  obtain ⟨g4, h⟩ := gd_some h
  refine r_copy (w1 := (bV G ad (sra s3 2 (va_cpy (gr s3 2) (gr s3 2) (x1 + (1 : Int32)).toNatClampNeg x1.toNatClampNeg y1.toNatClampNeg)))) XX I hl.1 wd_484 2 2 (aV_a0) (aV_a0) g4 rfl (Nat.le_of_ble_eq_true rfl) (Nat.le_of_ble_eq_true rfl) dX9_removePerson_38 (fun H locs I => ?_)
  obtain ⟨s5, es5⟩ : ∃ z, z = sra s3 2 (va_cpy (gr s3 2) (gr s3 2) (x1 + (1 : Int32)).toNatClampNeg x1.toNatClampNeg y1.toNatClampNeg) := ⟨_, rfl⟩
  replace h := lt_e h es5
  replace I : Iv G (va_A (bV G ad va) s0.heap.size) s0 H locs (bV G ad s5) := by rw [es5]; exact I
  refine lv_aload_n hx hb dX9_removePerson_41 rfl (lv_at hl 1 rfl) ?_
  refine gV_X9_o0_age XX I dX9_removePerson_42 ?_
  refine lv_iload_n hx hb dX9_removePerson_45 rfl (lv_at hl 2 rfl) ?_
  refine lv_iconst (v := 1) hx hb dX9_removePerson_46 (by decide) ?_
  refine lv_iadd hx hb dX9_removePerson_47 ?_
  refine lv_aload_n hx hb dX9_removePerson_48 rfl (lv_at hl 1 rfl) ?_
  refine gV_X9_o0_age XX I dX9_removePerson_49 ?_
  refine lv_iload_n hx hb dX9_removePerson_52 rfl (lv_at hl 2 rfl) ?_
  refine lv_iload_n hx hb dX9_removePerson_53 rfl (lv_at hl 0 rfl) ?_
  obtain ⟨g6, h⟩ := gd_some h
  refine r_copy (w1 := (bV G ad (sra s5 3 (va_cpy (gr s5 3) (gr s5 3) (x1 + (1 : Int32)).toNatClampNeg x1.toNatClampNeg y1.toNatClampNeg)))) XX I hl.1 wd_484 3 3 (aV_age0) (aV_age0) g6 rfl (Nat.le_of_ble_eq_true rfl) (Nat.le_of_ble_eq_true rfl) dX9_removePerson_54 (fun H locs I => ?_)
  obtain ⟨s7, es7⟩ : ∃ z, z = sra s5 3 (va_cpy (gr s5 3) (gr s5 3) (x1 + (1 : Int32)).toNatClampNeg x1.toNatClampNeg y1.toNatClampNeg) := ⟨_, rfl⟩
  replace h := lt_e h es7
  replace I : Iv G (va_A (bV G ad va) s0.heap.size) s0 H locs (bV G ad s7) := by rw [es7]; exact I
  refine lv_aload_n hx hb dX9_removePerson_57 rfl (lv_at hl 1 rfl) ?_
  refine gV_X9_o0_noes XX I dX9_removePerson_58 ?_
  refine lv_iload_n hx hb dX9_removePerson_61 rfl (lv_at hl 2 rfl) ?_
  refine lv_iconst (v := 1) hx hb dX9_removePerson_62 (by decide) ?_
  refine lv_iadd hx hb dX9_removePerson_63 ?_
  refine lv_aload_n hx hb dX9_removePerson_64 rfl (lv_at hl 1 rfl) ?_
  refine gV_X9_o0_noes XX I dX9_removePerson_65 ?_
  refine lv_iload_n hx hb dX9_removePerson_68 rfl (lv_at hl 2 rfl) ?_
  refine lv_iload_n hx hb dX9_removePerson_69 rfl (lv_at hl 0 rfl) ?_
  obtain ⟨g8, h⟩ := gd_some h
  refine r_copy (w1 := (bV G ad (sra s7 4 (va_cpy (gr s7 4) (gr s7 4) (x1 + (1 : Int32)).toNatClampNeg x1.toNatClampNeg y1.toNatClampNeg)))) XX I hl.1 wd_484 4 4 (aV_noes0) (aV_noes0) g8 rfl (Nat.le_of_ble_eq_true rfl) (Nat.le_of_ble_eq_true rfl) dX9_removePerson_70 (fun H locs I => ?_)
  obtain ⟨s9, es9⟩ : ∃ z, z = sra s7 4 (va_cpy (gr s7 4) (gr s7 4) (x1 + (1 : Int32)).toNatClampNeg x1.toNatClampNeg y1.toNatClampNeg) := ⟨_, rfl⟩
  replace h := lt_e h es9
  replace I : Iv G (va_A (bV G ad va) s0.heap.size) s0 H locs (bV G ad s9) := by rw [es9]; exact I
  refine lv_aload_n hx hb dX9_removePerson_73 rfl (lv_at hl 1 rfl) ?_
  refine gV_X9_o0_had XX I dX9_removePerson_74 ?_
  refine lv_iload_n hx hb dX9_removePerson_77 rfl (lv_at hl 2 rfl) ?_
  refine lv_iconst (v := 1) hx hb dX9_removePerson_78 (by decide) ?_
  refine lv_iadd hx hb dX9_removePerson_79 ?_
  refine lv_aload_n hx hb dX9_removePerson_80 rfl (lv_at hl 1 rfl) ?_
  refine gV_X9_o0_had XX I dX9_removePerson_81 ?_
  refine lv_iload_n hx hb dX9_removePerson_84 rfl (lv_at hl 2 rfl) ?_
  refine lv_iload_n hx hb dX9_removePerson_85 rfl (lv_at hl 0 rfl) ?_
  obtain ⟨g10, h⟩ := gd_some h
  refine r_copy (w1 := (bV G ad (sra s9 5 (va_cpy (gr s9 5) (gr s9 5) (x1 + (1 : Int32)).toNatClampNeg x1.toNatClampNeg y1.toNatClampNeg)))) XX I hl.1 wd_484 5 5 (aV_had0) (aV_had0) g10 rfl (Nat.le_of_ble_eq_true rfl) (Nat.le_of_ble_eq_true rfl) dX9_removePerson_86 (fun H locs I => ?_)
  obtain ⟨s11, es11⟩ : ∃ z, z = sra s9 5 (va_cpy (gr s9 5) (gr s9 5) (x1 + (1 : Int32)).toNatClampNeg x1.toNatClampNeg y1.toNatClampNeg) := ⟨_, rfl⟩
  replace h := lt_e h es11
  replace I : Iv G (va_A (bV G ad va) s0.heap.size) s0 H locs (bV G ad s11) := by rw [es11]; exact I
  refine lv_iconst (v := 0) hx hb dX9_removePerson_89 (by decide) ?_
  refine lv_istore_n (lv' := [(3, .int (0 : Int32)), (2, .int y1), (0, .ref (ad 0)), (1, .int x1)]) hx hb dX9_removePerson_90 rfl hl (by decide) rfl (fun ls hl => ?_)
  exact C91 fu _ _ _ _ h _ _ I ls (lv_sub hl [2, 3, 1, 0] rfl)
theorem gV_X9_o0_proposals {p : Program} {l : Launch} {e : Env} {R : Room} {s0 : State} {m : MethodId} {args : Array Value} {below : List Frame} {meth : Method} {c : Code} {H : Heap} {locs : List Loc} {cells slots : Nat} {Q : State → Prop} {cc : ByteArray} {nL pc : Nat} {ls : Array Slot} {rest : List Value} {G : g_G} {A : Nat → Prop} {ad : Nat → Nat} {v : g_St} (XX : Cx G A p s0 m meth c cc nL RX9 args) (I : Iv G A s0 H locs (bV G ad v)) (hdg : decode cc pc = .ok (.getfield 31, 3)) (kk : W p l e R s0 m args below meth c H locs cells slots Q (F0 m (pc + 3) ls (.int (gi v 6) :: rest))) : W p l e R s0 m args below meth c H locs cells slots Q (F0 m pc ls (.ref (ad 0) :: rest)) := r_get kfX9 XX I 0 rfl 6 (Nat.le_of_ble_eq_true rfl) wd_53 rfl hdg kk
theorem gV_X9_o0_weight {p : Program} {l : Launch} {e : Env} {R : Room} {s0 : State} {m : MethodId} {args : Array Value} {below : List Frame} {meth : Method} {c : Code} {H : Heap} {locs : List Loc} {cells slots : Nat} {Q : State → Prop} {cc : ByteArray} {nL pc : Nat} {ls : Array Slot} {rest : List Value} {G : g_G} {A : Nat → Prop} {ad : Nat → Nat} {v : g_St} (XX : Cx G A p s0 m meth c cc nL RX9 args) (I : Iv G A s0 H locs (bV G ad v)) (hdg : decode cc pc = .ok (.getfield 34, 3)) (kk : W p l e R s0 m args below meth c H locs cells slots Q (F0 m (pc + 3) ls (.ref (ad 8) :: rest))) : W p l e R s0 m args below meth c H locs cells slots Q (F0 m pc ls (.ref (ad 0) :: rest)) := r_get kfX9 XX I 0 rfl 7 (Nat.le_of_ble_eq_true rfl) wd_57 rfl hdg kk
theorem aV_weight0 {G : g_G} {ad : Nat → Nat} {v : g_St} : (bV G ad v)[6]? = some (ad 8, .inl (G.2.1 0, 8, .inl (gr v 7))) := rfl
theorem sV_weight0 {G : g_G} {ad : Nat → Nat} {v : g_St} {i : Int32} {x : Int32} : (bV G ad v).set 6 (ad 8, .inl (G.2.1 0, 8, .inl (upd (gr v 7) i.toNatClampNeg x))) = (bV G ad (sr v 7 i x)) := rfl
set_option maxHeartbeats 4000000 in
set_option maxRecDepth 100000 in
theorem c_V_addProposal (l : Launch) (G : g_G) (OK : EOk G.2.2) (ad : Nat → Nat) (fu : Nat) (va : g_St) (x1 : Int32) (r : Int32) (tv : g_St) (h : f_V_addProposal fu va x1 = some (r, tv)) : HI l G yX9_addProposal (Cond.code yX9_addProposal cX9_addProposal 4 (some .int) :: gT) { frames := 0, cells := 0, slots := 0, locals := 0 } .int [.ref (ad 0), .int x1] (bV G ad va) r (bV G ad tv) := by
  refine HI.mk (lv := [(0, .ref (ad 0)), (1, .int x1)]) OK (by decide) (Nat.le_of_ble_eq_true rfl) rfl ?_
  intro p e s0 m args below meth c ls XX hr I hl
  have hx := XX.x
  have hb := XX.b
  have C14 : ∀ n : Nat, ∀ (v : g_St) (v2 : Int32) (v3 : Int32), f_V_addProposal_L14 fu n v v2 v3 = some (r, tv) → ∀ (H : Heap) (locs : List Loc), Iv G (va_A (bV G ad va) s0.heap.size) s0 H locs (bV G ad v) → ∀ ls, lv_has ls 4 [(0, .ref (ad 0)), (2, .int v2), (3, .int v3)] → W p l e { frames := 0, cells := 0, slots := 0, locals := 0 } s0 m args below meth c H locs 0 0 (QI G below .int r (bV G ad va) (bV G ad tv) args s0) (F0 m 14 ls []) := by
    intro n
    induction n with
    | zero => intro v v2 v3 h; exact absurd h (fun q => by cases q)
    | succ n ih =>
      intro v v2 v3 h H locs I ls hl
      rw [f_V_addProposal_L14] at h
      refine lv_iload_n hx hb dX9_addProposal_14 rfl (lv_at hl 2 rfl) ?_
      refine lv_bipush (v := 6) hx hb dX9_addProposal_15 (by decide) ?_
      refine lv_icmp_ge (tgt := 35) hx hb dX9_addProposal_17 (by decide) (fun c1 => ?_) (fun c1 => ?_)
      · replace h := if_t h c1
        refine lv_aload_n hx hb dX9_addProposal_35 rfl (lv_at hl 0 rfl) ?_
        refine lv_dup hx hb dX9_addProposal_36 rfl ?_
        refine gV_X9_o0_proposals XX I dX9_addProposal_37 ?_
        refine lv_iconst (v := 1) hx hb dX9_addProposal_40 (by decide) ?_
        refine lv_iadd hx hb dX9_addProposal_41 ?_
        refine lv_topi (fun y4 ey4 => ?_)
        replace h := lt_e h ey4
        refine pV_X9_o0_proposals XX I dX9_addProposal_42 (fun H locs I => ?_)
        obtain ⟨s5, es5⟩ : ∃ z, z = si v 6 y4 := ⟨_, rfl⟩
        replace h := lt_e h es5
        replace I : Iv G (va_A (bV G ad va) s0.heap.size) s0 H locs (bV G ad s5) := by rw [es5]; exact I
        refine lv_iload_n hx hb dX9_addProposal_45 rfl (lv_at hl 1 rfl) ?_
        obtain ⟨rfl, rfl⟩ := some2 h
        exact e_i rfl XX hr I rfl dX9_addProposal_46
      · replace h := if_f h c1
        refine lv_aload_n hx hb dX9_addProposal_20 rfl (lv_at hl 0 rfl) ?_
        refine gV_X9_o0_worth XX I dX9_addProposal_21 ?_
        refine lv_iload_n hx hb dX9_addProposal_24 rfl (lv_at hl 1 rfl) ?_
        obtain ⟨g6, h⟩ := gd_some h
        refine r_aaldI XX I 7 rfl (v := .ref (ad (20 + v2.toNatClampNeg))) rfl g6 dX9_addProposal_25 ?_
        refine lv_iload_n hx hb dX9_addProposal_26 rfl (lv_at hl 2 rfl) ?_
        refine lv_iconst (v := 0) hx hb dX9_addProposal_27 (by decide) ?_
        obtain ⟨g7, h⟩ := gd_some h
        refine r_iast XX I (9 + v2.toNatClampNeg) (aV_row0 (vin_lt g6)) (sV_row0 (vin_lt g6)) g7 dX9_addProposal_28 (fun H locs I => ?_)
        obtain ⟨s8, es8⟩ : ∃ z, z = sr v (20 + v2.toNatClampNeg) v3 (0 : Int32) := ⟨_, rfl⟩
        replace h := lt_e h es8
        replace I : Iv G (va_A (bV G ad va) s0.heap.size) s0 H locs (bV G ad s8) := by rw [es8]; exact I
        obtain ⟨y9, ey9⟩ : ∃ z : Int32, z = v3 + (1 : Int32) := ⟨_, rfl⟩
        replace h := lt_e h ey9
        refine lv_iinc (v := y9) (lv' := [(3, .int y9), (0, .ref (ad 0)), (2, .int v2)]) hx hb dX9_addProposal_29 hl (k := 2) rfl (by rw [ey9]; rfl) (by decide) rfl (fun ls hl => ?_)
        refine lv_goto (tgt := 14) hx hb dX9_addProposal_32 (by decide) ?_
        exact ih _ _ _ h _ _ I ls (lv_sub hl [1, 2, 0] rfl)
  unfold f_V_addProposal at h
  refine lv_aload_n hx hb dX9_addProposal_0 rfl (lv_at hl 0 rfl) ?_
  refine gV_X9_o0_proposals XX I dX9_addProposal_1 ?_
  refine lv_topi (fun y1 ey1 => ?_)
  replace h := lt_e h ey1
  refine lv_istore_n (lv' := [(2, .int y1), (0, .ref (ad 0)), (1, .int x1)]) hx hb dX9_addProposal_4 rfl hl (by decide) rfl (fun ls hl => ?_)
  refine lv_aload_n hx hb dX9_addProposal_5 rfl (lv_at hl 1 rfl) ?_
  refine gV_X9_o0_weight XX I dX9_addProposal_6 ?_
  refine lv_iload_n hx hb dX9_addProposal_9 rfl (lv_at hl 0 rfl) ?_
  refine lv_iload_n hx hb dX9_addProposal_10 rfl (lv_at hl 2 rfl) ?_
  obtain ⟨g2, h⟩ := gd_some h
  refine r_iast XX I 6 (aV_weight0) (sV_weight0) g2 dX9_addProposal_11 (fun H locs I => ?_)
  obtain ⟨s3, es3⟩ : ∃ z, z = sr va 7 y1 x1 := ⟨_, rfl⟩
  replace h := lt_e h es3
  replace I : Iv G (va_A (bV G ad va) s0.heap.size) s0 H locs (bV G ad s3) := by rw [es3]; exact I
  refine lv_iconst (v := 0) hx hb dX9_addProposal_12 (by decide) ?_
  refine lv_istore_n (lv' := [(3, .int (0 : Int32)), (2, .int y1), (0, .ref (ad 0)), (1, .int x1)]) hx hb dX9_addProposal_13 rfl hl (by decide) rfl (fun ls hl => ?_)
  exact C14 fu _ _ _ h _ _ I ls (lv_sub hl [2, 1, 0] rfl)
set_option maxHeartbeats 4000000 in
set_option maxRecDepth 100000 in
theorem c_V_allWeights (l : Launch) (G : g_G) (OK : EOk G.2.2) (ad : Nat → Nat) (fu : Nat) (va : g_St) (r : Int32) (h : f_V_allWeights fu va = some r) : HI l G yX9_allWeights (Cond.code yX9_allWeights cX9_allWeights 3 (some .int) :: gT) { frames := 0, cells := 0, slots := 0, locals := 0 } .int [.ref (ad 0)] (bV G ad va) r (bV G ad va) := by
  refine HI.mk (lv := [(0, .ref (ad 0))]) OK (by decide) (Nat.le_of_ble_eq_true rfl) rfl ?_
  intro p e s0 m args below meth c ls XX hr I hl
  have hx := XX.x
  have hb := XX.b
  have C4 : ∀ n : Nat, ∀ (v1 : Int32) (v2 : Int32), f_V_allWeights_L4 fu n va v1 v2 = some r → ∀ (H : Heap) (locs : List Loc), Iv G (va_A (bV G ad va) s0.heap.size) s0 H locs (bV G ad va) → ∀ ls, lv_has ls 3 [(0, .ref (ad 0)), (1, .int v1), (2, .int v2)] → W p l e { frames := 0, cells := 0, slots := 0, locals := 0 } s0 m args below meth c H locs 0 0 (QI G below .int r (bV G ad va) (bV G ad va) args s0) (F0 m 4 ls []) := by
    intro n
    induction n with
    | zero => intro v1 v2 h; exact absurd h (fun q => by cases q)
    | succ n ih =>
      intro v1 v2 h H locs I ls hl
      rw [f_V_allWeights_L4] at h
      refine lv_iload_n hx hb dX9_allWeights_4 rfl (lv_at hl 2 rfl) ?_
      refine lv_aload_n hx hb dX9_allWeights_5 rfl (lv_at hl 0 rfl) ?_
      refine gV_X9_o0_proposals XX I dX9_allWeights_6 ?_
      refine lv_icmp_ge (tgt := 27) hx hb dX9_allWeights_9 (by decide) (fun c1 => ?_) (fun c1 => ?_)
      · replace h := if_t h c1
        refine lv_iload_n hx hb dX9_allWeights_27 rfl (lv_at hl 1 rfl) ?_
        obtain rfl := some1 h
        exact e_i rfl XX hr I rfl dX9_allWeights_28
      · replace h := if_f h c1
        refine lv_iload_n hx hb dX9_allWeights_12 rfl (lv_at hl 1 rfl) ?_
        refine lv_aload_n hx hb dX9_allWeights_13 rfl (lv_at hl 0 rfl) ?_
        refine gV_X9_o0_weight XX I dX9_allWeights_14 ?_
        refine lv_iload_n hx hb dX9_allWeights_17 rfl (lv_at hl 2 rfl) ?_
        obtain ⟨g1, h⟩ := gd_some h
        refine r_iald XX I 6 (aV_weight0) g1 dX9_allWeights_18 ?_
        refine lv_iadd hx hb dX9_allWeights_19 ?_
        refine lv_topi (fun y2 ey2 => ?_)
        replace h := lt_e h ey2
        refine lv_istore_n (lv' := [(1, .int y2), (0, .ref (ad 0)), (2, .int v2)]) hx hb dX9_allWeights_20 rfl hl (by decide) rfl (fun ls hl => ?_)
        obtain ⟨y3, ey3⟩ : ∃ z : Int32, z = v2 + (1 : Int32) := ⟨_, rfl⟩
        replace h := lt_e h ey3
        refine lv_iinc (v := y3) (lv' := [(2, .int y3), (1, .int y2), (0, .ref (ad 0))]) hx hb dX9_allWeights_21 hl (k := 2) rfl (by rw [ey3]; rfl) (by decide) rfl (fun ls hl => ?_)
        refine lv_goto (tgt := 4) hx hb dX9_allWeights_24 (by decide) ?_
        exact ih _ _ h _ _ I ls (lv_sub hl [2, 1, 0] rfl)
  unfold f_V_allWeights at h
  refine lv_iconst (v := 0) hx hb dX9_allWeights_0 (by decide) ?_
  refine lv_istore_n (lv' := [(1, .int (0 : Int32)), (0, .ref (ad 0))]) hx hb dX9_allWeights_1 rfl hl (by decide) rfl (fun ls hl => ?_)
  refine lv_iconst (v := 0) hx hb dX9_allWeights_2 (by decide) ?_
  refine lv_istore_n (lv' := [(2, .int (0 : Int32)), (1, .int (0 : Int32)), (0, .ref (ad 0))]) hx hb dX9_allWeights_3 rfl hl (by decide) rfl (fun ls hl => ?_)
  exact C4 fu _ _ h _ _ I ls (lv_sub hl [2, 1, 0] rfl)
set_option maxHeartbeats 4000000 in
set_option maxRecDepth 100000 in
theorem c_V_allNoes (l : Launch) (G : g_G) (OK : EOk G.2.2) (ad : Nat → Nat) (fu : Nat) (va : g_St) (r : Int32) (h : f_V_allNoes fu va = some r) : HI l G yX9_allNoes (Cond.code yX9_allNoes cX9_allNoes 3 (some .int) :: gT) { frames := 0, cells := 0, slots := 0, locals := 0 } .int [.ref (ad 0)] (bV G ad va) r (bV G ad va) := by
  refine HI.mk (lv := [(0, .ref (ad 0))]) OK (by decide) (Nat.le_of_ble_eq_true rfl) rfl ?_
  intro p e s0 m args below meth c ls XX hr I hl
  have hx := XX.x
  have hb := XX.b
  have C4 : ∀ n : Nat, ∀ (v1 : Int32) (v2 : Int32), f_V_allNoes_L4 fu n va v1 v2 = some r → ∀ (H : Heap) (locs : List Loc), Iv G (va_A (bV G ad va) s0.heap.size) s0 H locs (bV G ad va) → ∀ ls, lv_has ls 3 [(0, .ref (ad 0)), (1, .int v1), (2, .int v2)] → W p l e { frames := 0, cells := 0, slots := 0, locals := 0 } s0 m args below meth c H locs 0 0 (QI G below .int r (bV G ad va) (bV G ad va) args s0) (F0 m 4 ls []) := by
    intro n
    induction n with
    | zero => intro v1 v2 h; exact absurd h (fun q => by cases q)
    | succ n ih =>
      intro v1 v2 h H locs I ls hl
      rw [f_V_allNoes_L4] at h
      refine lv_iload_n hx hb dX9_allNoes_4 rfl (lv_at hl 2 rfl) ?_
      refine lv_aload_n hx hb dX9_allNoes_5 rfl (lv_at hl 0 rfl) ?_
      refine gV_X9_o0_people XX I dX9_allNoes_6 ?_
      refine lv_icmp_ge (tgt := 27) hx hb dX9_allNoes_9 (by decide) (fun c1 => ?_) (fun c1 => ?_)
      · replace h := if_t h c1
        refine lv_iload_n hx hb dX9_allNoes_27 rfl (lv_at hl 1 rfl) ?_
        obtain rfl := some1 h
        exact e_i rfl XX hr I rfl dX9_allNoes_28
      · replace h := if_f h c1
        refine lv_iload_n hx hb dX9_allNoes_12 rfl (lv_at hl 1 rfl) ?_
        refine lv_aload_n hx hb dX9_allNoes_13 rfl (lv_at hl 0 rfl) ?_
        refine gV_X9_o0_noes XX I dX9_allNoes_14 ?_
        refine lv_iload_n hx hb dX9_allNoes_17 rfl (lv_at hl 2 rfl) ?_
        obtain ⟨g1, h⟩ := gd_some h
        refine r_iald XX I 4 (aV_noes0) g1 dX9_allNoes_18 ?_
        refine lv_iadd hx hb dX9_allNoes_19 ?_
        refine lv_topi (fun y2 ey2 => ?_)
        replace h := lt_e h ey2
        refine lv_istore_n (lv' := [(1, .int y2), (0, .ref (ad 0)), (2, .int v2)]) hx hb dX9_allNoes_20 rfl hl (by decide) rfl (fun ls hl => ?_)
        obtain ⟨y3, ey3⟩ : ∃ z : Int32, z = v2 + (1 : Int32) := ⟨_, rfl⟩
        replace h := lt_e h ey3
        refine lv_iinc (v := y3) (lv' := [(2, .int y3), (1, .int y2), (0, .ref (ad 0))]) hx hb dX9_allNoes_21 hl (k := 2) rfl (by rw [ey3]; rfl) (by decide) rfl (fun ls hl => ?_)
        refine lv_goto (tgt := 4) hx hb dX9_allNoes_24 (by decide) ?_
        exact ih _ _ h _ _ I ls (lv_sub hl [2, 1, 0] rfl)
  unfold f_V_allNoes at h
  refine lv_iconst (v := 0) hx hb dX9_allNoes_0 (by decide) ?_
  refine lv_istore_n (lv' := [(1, .int (0 : Int32)), (0, .ref (ad 0))]) hx hb dX9_allNoes_1 rfl hl (by decide) rfl (fun ls hl => ?_)
  refine lv_iconst (v := 0) hx hb dX9_allNoes_2 (by decide) ?_
  refine lv_istore_n (lv' := [(2, .int (0 : Int32)), (1, .int (0 : Int32)), (0, .ref (ad 0))]) hx hb dX9_allNoes_3 rfl hl (by decide) rfl (fun ls hl => ?_)
  exact C4 fu _ _ h _ _ I ls (lv_sub hl [2, 1, 0] rfl)
set_option maxHeartbeats 4000000 in
set_option maxRecDepth 100000 in
theorem c_V_packedNoes (l : Launch) (G : g_G) (OK : EOk G.2.2) (ad : Nat → Nat) (fu : Nat) (va : g_St) (r : Int32) (h : f_V_packedNoes fu va = some r) : HI l G yX9_packedNoes (Cond.code yX9_packedNoes cX9_packedNoes 3 (some .int) :: gT) { frames := 0, cells := 0, slots := 0, locals := 0 } .int [.ref (ad 0)] (bV G ad va) r (bV G ad va) := by
  refine HI.mk (lv := [(0, .ref (ad 0))]) OK (by decide) (Nat.le_of_ble_eq_true rfl) rfl ?_
  intro p e s0 m args below meth c ls XX hr I hl
  have hx := XX.x
  have hb := XX.b
  have C4 : ∀ n : Nat, ∀ (v1 : Int32) (v2 : Int32), f_V_packedNoes_L4 fu n va v1 v2 = some r → ∀ (H : Heap) (locs : List Loc), Iv G (va_A (bV G ad va) s0.heap.size) s0 H locs (bV G ad va) → ∀ ls, lv_has ls 3 [(0, .ref (ad 0)), (1, .int v1), (2, .int v2)] → W p l e { frames := 0, cells := 0, slots := 0, locals := 0 } s0 m args below meth c H locs 0 0 (QI G below .int r (bV G ad va) (bV G ad va) args s0) (F0 m 4 ls []) := by
    intro n
    induction n with
    | zero => intro v1 v2 h; exact absurd h (fun q => by cases q)
    | succ n ih =>
      intro v1 v2 h H locs I ls hl
      rw [f_V_packedNoes_L4] at h
      refine lv_iload_n hx hb dX9_packedNoes_4 rfl (lv_at hl 2 rfl) ?_
      refine lv_aload_n hx hb dX9_packedNoes_5 rfl (lv_at hl 0 rfl) ?_
      refine gV_X9_o0_people XX I dX9_packedNoes_6 ?_
      refine lv_icmp_ge (tgt := 31) hx hb dX9_packedNoes_9 (by decide) (fun c1 => ?_) (fun c1 => ?_)
      · replace h := if_t h c1
        refine lv_iload_n hx hb dX9_packedNoes_31 rfl (lv_at hl 1 rfl) ?_
        obtain rfl := some1 h
        exact e_i rfl XX hr I rfl dX9_packedNoes_32
      · replace h := if_f h c1
        refine lv_iload_n hx hb dX9_packedNoes_12 rfl (lv_at hl 1 rfl) ?_
        refine lv_aload_n hx hb dX9_packedNoes_13 rfl (lv_at hl 0 rfl) ?_
        refine gV_X9_o0_noes XX I dX9_packedNoes_14 ?_
        refine lv_iload_n hx hb dX9_packedNoes_17 rfl (lv_at hl 2 rfl) ?_
        obtain ⟨g1, h⟩ := gd_some h
        refine r_iald XX I 4 (aV_noes0) g1 dX9_packedNoes_18 ?_
        refine lv_iconst (v := 4) hx hb dX9_packedNoes_19 (by decide) ?_
        refine lv_iload_n hx hb dX9_packedNoes_20 rfl (lv_at hl 2 rfl) ?_
        refine lv_imul hx hb dX9_packedNoes_21 ?_
        refine lv_ishl hx hb dX9_packedNoes_22 ?_
        refine lv_ior hx hb dX9_packedNoes_23 ?_
        refine lv_topi (fun y2 ey2 => ?_)
        replace h := lt_e h ey2
        refine lv_istore_n (lv' := [(1, .int y2), (0, .ref (ad 0)), (2, .int v2)]) hx hb dX9_packedNoes_24 rfl hl (by decide) rfl (fun ls hl => ?_)
        obtain ⟨y3, ey3⟩ : ∃ z : Int32, z = v2 + (1 : Int32) := ⟨_, rfl⟩
        replace h := lt_e h ey3
        refine lv_iinc (v := y3) (lv' := [(2, .int y3), (1, .int y2), (0, .ref (ad 0))]) hx hb dX9_packedNoes_25 hl (k := 2) rfl (by rw [ey3]; rfl) (by decide) rfl (fun ls hl => ?_)
        refine lv_goto (tgt := 4) hx hb dX9_packedNoes_28 (by decide) ?_
        exact ih _ _ h _ _ I ls (lv_sub hl [2, 1, 0] rfl)
  unfold f_V_packedNoes at h
  refine lv_iconst (v := 0) hx hb dX9_packedNoes_0 (by decide) ?_
  refine lv_istore_n (lv' := [(1, .int (0 : Int32)), (0, .ref (ad 0))]) hx hb dX9_packedNoes_1 rfl hl (by decide) rfl (fun ls hl => ?_)
  refine lv_iconst (v := 0) hx hb dX9_packedNoes_2 (by decide) ?_
  refine lv_istore_n (lv' := [(2, .int (0 : Int32)), (1, .int (0 : Int32)), (0, .ref (ad 0))]) hx hb dX9_packedNoes_3 rfl hl (by decide) rfl (fun ls hl => ?_)
  exact C4 fu _ _ h _ _ I ls (lv_sub hl [2, 1, 0] rfl)
set_option maxHeartbeats 4000000 in
set_option maxRecDepth 100000 in
theorem c_S_noesIn (l : Launch) (G : g_G) (OK : EOk G.2.2) (x0 : Int32) (x1 : Int32) (r : Int32) (h : f_S_noesIn x0 x1 = r) : HI l G yX9_noesIn (Cond.code yX9_noesIn cX9_noesIn 2 (some .int) :: gT) { frames := 0, cells := 0, slots := 0, locals := 0 } .int [.int x0, .int x1] [] r [] := by
  refine HI.mk (lv := [(0, .int x0), (1, .int x1)]) OK (by decide) (Nat.le_of_ble_eq_true rfl) rfl ?_
  intro p e s0 m args below meth c ls XX hr I hl
  have hx := XX.x
  have hb := XX.b
  unfold f_S_noesIn at h
  refine lv_iload_n hx hb dX9_noesIn_0 rfl (lv_at hl 0 rfl) ?_
  refine lv_iconst (v := 4) hx hb dX9_noesIn_1 (by decide) ?_
  refine lv_iload_n hx hb dX9_noesIn_2 rfl (lv_at hl 1 rfl) ?_
  refine lv_imul hx hb dX9_noesIn_3 ?_
  refine lv_iushr hx hb dX9_noesIn_4 rfl ?_
  refine lv_bipush (v := 15) hx hb dX9_noesIn_5 (by decide) ?_
  refine lv_iand hx hb dX9_noesIn_7 ?_
  subst h
  exact e_i rfl XX hr I rfl dX9_noesIn_8
theorem kV_X9_60 : KV RX9 60 RX9 yX9_allWeights cX9_allWeights 3 (some .int) 0 := KV.mk wd_644 wd_633 wd_634 wd_2 wd_635 (by decide +kernel)
set_option maxHeartbeats 4000000 in
set_option maxRecDepth 100000 in
theorem c_V_drawn (l : Launch) (G : g_G) (OK : EOk G.2.2) (ad : Nat → Nat) (fu : Nat) (va : g_St) (x1 : Int32) (r : Int32) (h : f_V_drawn fu va x1 = some r) : HI l G yX9_drawn (Cond.code yX9_drawn cX9_drawn 6 (some .int) :: gT) { frames := 1, cells := 0, slots := 0, locals := 22 } .int [.ref (ad 0), .int x1] (bV G ad va) r (bV G ad va) := by
  refine HI.mk (lv := [(0, .ref (ad 0)), (1, .int x1)]) OK (by decide) (Nat.le_of_ble_eq_true rfl) rfl ?_
  intro p e s0 m args below meth c ls XX hr I hl
  have hx := XX.x
  have hb := XX.b
  have C24 : ∀ n : Nat, ∀ (v3 : Int32) (v4 : Int32) (v5 : Int32), f_V_drawn_L24 fu n va v3 v4 v5 = some r → ∀ (H : Heap) (locs : List Loc), Iv G (va_A (bV G ad va) s0.heap.size) s0 H locs (bV G ad va) → ∀ ls, lv_has ls 6 [(0, .ref (ad 0)), (3, .int v3), (4, .int v4), (5, .int v5)] → W p l e { frames := 1, cells := 0, slots := 0, locals := 22 } s0 m args below meth c H locs 0 0 (QI G below .int r (bV G ad va) (bV G ad va) args s0) (F0 m 24 ls []) := by
    intro n
    induction n with
    | zero => intro v3 v4 v5 h; exact absurd h (fun q => by cases q)
    | succ n ih =>
      intro v3 v4 v5 h H locs I ls hl
      rw [f_V_drawn_L24] at h
      refine lv_iload hx hb dX9_drawn_24 (lv_at hl 3 rfl) ?_
      refine lv_aload_n hx hb dX9_drawn_26 rfl (lv_at hl 0 rfl) ?_
      refine gV_X9_o0_proposals XX I dX9_drawn_27 ?_
      refine lv_icmp_ge (tgt := 60) hx hb dX9_drawn_30 (by decide) (fun c1 => ?_) (fun c1 => ?_)
      · replace h := if_t h c1
        refine lv_iconst (v := 0) hx hb dX9_drawn_60 (by decide) ?_
        obtain rfl := some1 h
        exact e_i rfl XX hr I rfl dX9_drawn_61
      · replace h := if_f h c1
        refine lv_iload hx hb dX9_drawn_33 (lv_at hl 2 rfl) ?_
        refine lv_aload_n hx hb dX9_drawn_35 rfl (lv_at hl 0 rfl) ?_
        refine gV_X9_o0_weight XX I dX9_drawn_36 ?_
        refine lv_iload hx hb dX9_drawn_39 (lv_at hl 3 rfl) ?_
        obtain ⟨g6, h⟩ := gd_some h
        refine r_iald XX I 6 (aV_weight0) g6 dX9_drawn_41 ?_
        refine lv_iadd hx hb dX9_drawn_42 ?_
        refine lv_topi (fun y7 ey7 => ?_)
        replace h := lt_e h ey7
        refine lv_istore (lv' := [(4, .int y7), (0, .ref (ad 0)), (3, .int v3), (5, .int v5)]) hx hb dX9_drawn_43 hl (by decide) rfl (fun ls hl => ?_)
        refine lv_iload_n hx hb dX9_drawn_45 rfl (lv_at hl 2 rfl) ?_
        refine lv_iload hx hb dX9_drawn_46 (lv_at hl 0 rfl) ?_
        refine lv_icmp_ge (tgt := 54) hx hb dX9_drawn_48 (by decide) (fun c1 => ?_) (fun c1 => ?_)
        · replace h := if_t h c1
          obtain ⟨y8, ey8⟩ : ∃ z : Int32, z = v5 + (1 : Int32) := ⟨_, rfl⟩
          replace h := lt_e h ey8
          refine lv_iinc (v := y8) (lv' := [(5, .int y8), (4, .int y7), (0, .ref (ad 0)), (3, .int v3)]) hx hb dX9_drawn_54 hl (k := 3) rfl (by rw [ey8]; rfl) (by decide) rfl (fun ls hl => ?_)
          refine lv_goto (tgt := 24) hx hb dX9_drawn_57 (by decide) ?_
          exact ih _ _ _ h _ _ I ls (lv_sub hl [2, 3, 1, 0] rfl)
        · replace h := if_f h c1
          refine lv_iload hx hb dX9_drawn_51 (lv_at hl 3 rfl) ?_
          obtain rfl := some1 h
          exact e_i rfl XX hr I rfl dX9_drawn_53
  unfold f_V_drawn at h
  refine lv_aload_n hx hb dX9_drawn_0 rfl (lv_at hl 0 rfl) ?_
  obtain ⟨r1, q2, h⟩ := bd1_some h
  refine wcall_i (rest := []) XX I hl.1 (c_V_allWeights l G OK ad fu va r1 q2) kV_X9_60 (Rc.mk XX I (q0 := 0) (ci := 9) rfl rfl) rfl rfl (Nat.le_of_ble_eq_true rfl) ⟨rfl, rfl, Nat.le_of_ble_eq_true rfl, Nat.le_of_ble_eq_true rfl⟩ ⟨Nat.zero_le _, Nat.zero_le _⟩ dX9_drawn_1 (fun H locs hz3 I => ?_)
  refine lv_istore_n (lv' := [(2, .int r1), (0, .ref (ad 0)), (1, .int x1)]) hx hb dX9_drawn_4 rfl hl (by decide) rfl (fun ls hl => ?_)
  refine lv_iload_n hx hb dX9_drawn_5 rfl (lv_at hl 0 rfl) ?_
  refine lv_if_gt (tgt := 11) hx hb dX9_drawn_6 (by decide) (fun c1 => ?_) (fun c1 => ?_)
  · replace h := if_t h c1
    refine lv_iload_n hx hb dX9_drawn_11 rfl (lv_at hl 2 rfl) ?_
    refine lv_bipush (v := 16) hx hb dX9_drawn_12 (by decide) ?_
    refine lv_iushr hx hb dX9_drawn_14 rfl ?_
    refine lv_iload_n hx hb dX9_drawn_15 rfl (lv_at hl 0 rfl) ?_
    obtain ⟨g4, h⟩ := gd_some h
    refine lv_irem hx hb dX9_drawn_16 g4 ?_
    refine lv_topi (fun y5 ey5 => ?_)
    replace h := lt_e h ey5
    refine lv_istore_n (lv' := [(3, .int y5), (2, .int r1), (0, .ref (ad 0)), (1, .int x1)]) hx hb dX9_drawn_17 rfl hl (by decide) rfl (fun ls hl => ?_)
    refine lv_iconst (v := 0) hx hb dX9_drawn_18 (by decide) ?_
    refine lv_istore (lv' := [(4, .int (0 : Int32)), (3, .int y5), (2, .int r1), (0, .ref (ad 0)), (1, .int x1)]) hx hb dX9_drawn_19 hl (by decide) rfl (fun ls hl => ?_)
    refine lv_iconst (v := 0) hx hb dX9_drawn_21 (by decide) ?_
    refine lv_istore (lv' := [(5, .int (0 : Int32)), (4, .int (0 : Int32)), (3, .int y5), (2, .int r1), (0, .ref (ad 0)), (1, .int x1)]) hx hb dX9_drawn_22 hl (by decide) rfl (fun ls hl => ?_)
    exact C24 fu _ _ _ h _ _ I ls (lv_sub hl [4, 2, 1, 0] rfl)
  · replace h := if_f h c1
    refine lv_iconst (v := 0) hx hb dX9_drawn_9 (by decide) ?_
    obtain rfl := some1 h
    exact e_i rfl XX hr I rfl dX9_drawn_10
theorem kS_X9_76 : KS RX9 76 yX9_noesIn cX9_noesIn 2 (some .int) 2 := KS.mk wd_567 wd_568 wd_2 wd_569 (by decide +kernel)
set_option maxHeartbeats 4000000 in
set_option maxRecDepth 100000 in
theorem c_V_whoHasNoes (l : Launch) (G : g_G) (OK : EOk G.2.2) (ad : Nat → Nat) (fu : Nat) (va : g_St) (x1 : Int32) (r : Int32) (h : f_V_whoHasNoes fu va x1 = some r) : HI l G yX9_whoHasNoes (Cond.code yX9_whoHasNoes cX9_whoHasNoes 4 (some .int) :: gT) { frames := 1, cells := 0, slots := 0, locals := 21 } .int [.ref (ad 0), .int x1] (bV G ad va) r (bV G ad va) := by
  refine HI.mk (lv := [(0, .ref (ad 0)), (1, .int x1)]) OK (by decide) (Nat.le_of_ble_eq_true rfl) rfl ?_
  intro p e s0 m args below meth c ls XX hr I hl
  have hx := XX.x
  have hb := XX.b
  have C4 : ∀ n : Nat, ∀ (v1 : Int32) (v2 : Int32) (v3 : Int32), f_V_whoHasNoes_L4 fu n va v1 v2 v3 = some r → ∀ (H : Heap) (locs : List Loc), Iv G (va_A (bV G ad va) s0.heap.size) s0 H locs (bV G ad va) → ∀ ls, lv_has ls 4 [(0, .ref (ad 0)), (1, .int v1), (2, .int v2), (3, .int v3)] → W p l e { frames := 1, cells := 0, slots := 0, locals := 21 } s0 m args below meth c H locs 0 0 (QI G below .int r (bV G ad va) (bV G ad va) args s0) (F0 m 4 ls []) := by
    intro n
    induction n with
    | zero => intro v1 v2 v3 h; exact absurd h (fun q => by cases q)
    | succ n ih =>
      intro v1 v2 v3 h H locs I ls hl
      rw [f_V_whoHasNoes_L4] at h
      refine lv_iload_n hx hb dX9_whoHasNoes_4 rfl (lv_at hl 3 rfl) ?_
      refine lv_aload_n hx hb dX9_whoHasNoes_5 rfl (lv_at hl 0 rfl) ?_
      refine gV_X9_o0_people XX I dX9_whoHasNoes_6 ?_
      refine lv_icmp_ge (tgt := 32) hx hb dX9_whoHasNoes_9 (by decide) (fun c1 => ?_) (fun c1 => ?_)
      · replace h := if_t h c1
        refine lv_iload_n hx hb dX9_whoHasNoes_32 rfl (lv_at hl 2 rfl) ?_
        obtain rfl := some1 h
        exact e_i rfl XX hr I rfl dX9_whoHasNoes_33
      · replace h := if_f h c1
        refine lv_iload_n hx hb dX9_whoHasNoes_12 rfl (lv_at hl 1 rfl) ?_
        refine lv_iload_n hx hb dX9_whoHasNoes_13 rfl (lv_at hl 3 rfl) ?_
        refine scall_i (rest := []) XX I hl.1 (c_S_noesIn l G OK v1 v3 _ rfl) kS_X9_76 rfl rfl (Nat.le_of_ble_eq_true rfl) ⟨rfl, rfl, Nat.le_of_ble_eq_true rfl, Nat.le_of_ble_eq_true rfl⟩ ⟨Nat.zero_le _, Nat.zero_le _⟩ dX9_whoHasNoes_14 (fun H locs hz1 I => ?_)
        refine lv_if_le (tgt := 26) hx hb dX9_whoHasNoes_17 (by decide) (fun c1 => ?_) (fun c1 => ?_)
        · replace h := if_t h c1
          obtain ⟨y2, ey2⟩ : ∃ z : Int32, z = v3 + (1 : Int32) := ⟨_, rfl⟩
          replace h := lt_e h ey2
          refine lv_iinc (v := y2) (lv' := [(3, .int y2), (0, .ref (ad 0)), (1, .int v1), (2, .int v2)]) hx hb dX9_whoHasNoes_26 hl (k := 3) rfl (by rw [ey2]; rfl) (by decide) rfl (fun ls hl => ?_)
          refine lv_goto (tgt := 4) hx hb dX9_whoHasNoes_29 (by decide) ?_
          exact ih _ _ _ h _ _ I ls (lv_sub hl [1, 2, 3, 0] rfl)
        · replace h := if_f h c1
          refine lv_iload_n hx hb dX9_whoHasNoes_20 rfl (lv_at hl 2 rfl) ?_
          refine lv_iconst (v := 1) hx hb dX9_whoHasNoes_21 (by decide) ?_
          refine lv_iload_n hx hb dX9_whoHasNoes_22 rfl (lv_at hl 3 rfl) ?_
          refine lv_ishl hx hb dX9_whoHasNoes_23 ?_
          refine lv_ior hx hb dX9_whoHasNoes_24 ?_
          refine lv_topi (fun y3 ey3 => ?_)
          replace h := lt_e h ey3
          refine lv_istore_n (lv' := [(2, .int y3), (0, .ref (ad 0)), (1, .int v1), (3, .int v3)]) hx hb dX9_whoHasNoes_25 rfl hl (by decide) rfl (fun ls hl => ?_)
          obtain ⟨y4, ey4⟩ : ∃ z : Int32, z = v3 + (1 : Int32) := ⟨_, rfl⟩
          replace h := lt_e h ey4
          refine lv_iinc (v := y4) (lv' := [(3, .int y4), (2, .int y3), (0, .ref (ad 0)), (1, .int v1)]) hx hb dX9_whoHasNoes_26 hl (k := 3) rfl (by rw [ey4]; rfl) (by decide) rfl (fun ls hl => ?_)
          refine lv_goto (tgt := 4) hx hb dX9_whoHasNoes_29 (by decide) ?_
          exact ih _ _ _ h _ _ I ls (lv_sub hl [2, 3, 1, 0] rfl)
  unfold f_V_whoHasNoes at h
  refine lv_iconst (v := 0) hx hb dX9_whoHasNoes_0 (by decide) ?_
  refine lv_istore_n (lv' := [(2, .int (0 : Int32)), (0, .ref (ad 0)), (1, .int x1)]) hx hb dX9_whoHasNoes_1 rfl hl (by decide) rfl (fun ls hl => ?_)
  refine lv_iconst (v := 0) hx hb dX9_whoHasNoes_2 (by decide) ?_
  refine lv_istore_n (lv' := [(3, .int (0 : Int32)), (2, .int (0 : Int32)), (0, .ref (ad 0)), (1, .int x1)]) hx hb dX9_whoHasNoes_3 rfl hl (by decide) rfl (fun ls hl => ?_)
  exact C4 fu _ _ _ h _ _ I ls (lv_sub hl [2, 3, 1, 0] rfl)
set_option maxHeartbeats 4000000 in
set_option maxRecDepth 100000 in
theorem c_V_isInLeague (l : Launch) (G : g_G) (OK : EOk G.2.2) (ad : Nat → Nat) (va : g_St) (x1 : Int32) (x2 : Int32) (r : Int32) (h : f_V_isInLeague va x1 x2 = some r) : HI l G yX9_isInLeague (Cond.code yX9_isInLeague cX9_isInLeague 3 (some .boolean) :: gT) { frames := 0, cells := 0, slots := 0, locals := 0 } .boolean [.ref (ad 0), .int x1, .int x2] (bV G ad va) r (bV G ad va) := by
  refine HI.mk (lv := [(0, .ref (ad 0)), (1, .int x1), (2, .int x2)]) OK (by decide) (Nat.le_of_ble_eq_true rfl) rfl ?_
  intro p e s0 m args below meth c ls XX hr I hl
  have hx := XX.x
  have hb := XX.b
  unfold f_V_isInLeague at h
  refine lv_aload_n hx hb dX9_isInLeague_0 rfl (lv_at hl 0 rfl) ?_
  refine gV_X9_o0_kind XX I dX9_isInLeague_1 ?_
  refine lv_iload_n hx hb dX9_isInLeague_4 rfl (lv_at hl 1 rfl) ?_
  obtain ⟨g1, h⟩ := gd_some h
  refine r_iald XX I 1 (aV_kind0) g1 dX9_isInLeague_5 ?_
  refine lv_iconst (v := 4) hx hb dX9_isInLeague_6 (by decide) ?_
  refine lv_icmp_ne (tgt := 23) hx hb dX9_isInLeague_7 (by decide) (fun c1 => ?_) (fun c1 => ?_)
  · replace h := if_f h c1
    refine lv_iconst (v := 0) hx hb dX9_isInLeague_23 (by decide) ?_
    obtain rfl := some1 h
    exact e_z XX hr I rfl rfl dX9_isInLeague_24
  · replace h := if_t h c1
    refine lv_iload_n hx hb dX9_isInLeague_10 rfl (lv_at hl 2 rfl) ?_
    refine lv_iload_n hx hb dX9_isInLeague_11 rfl (lv_at hl 1 rfl) ?_
    refine lv_iushr hx hb dX9_isInLeague_12 rfl ?_
    refine lv_iconst (v := 1) hx hb dX9_isInLeague_13 (by decide) ?_
    refine lv_iand hx hb dX9_isInLeague_14 ?_
    refine lv_iconst (v := 1) hx hb dX9_isInLeague_15 (by decide) ?_
    refine lv_icmp_ne (tgt := 23) hx hb dX9_isInLeague_16 (by decide) (fun c1 => ?_) (fun c1 => ?_)
    · replace h := if_f h c1
      refine lv_iconst (v := 0) hx hb dX9_isInLeague_23 (by decide) ?_
      obtain rfl := some1 h
      exact e_z XX hr I rfl rfl dX9_isInLeague_24
    · replace h := if_t h c1
      refine lv_iconst (v := 1) hx hb dX9_isInLeague_19 (by decide) ?_
      refine lv_goto (tgt := 24) hx hb dX9_isInLeague_20 (by decide) ?_
      obtain rfl := some1 h
      exact e_z XX hr I rfl rfl dX9_isInLeague_24
theorem kV_X9_83 : KV RX9 83 RX9 yX9_isInLeague cX9_isInLeague 3 (some .boolean) 2 := KV.mk wd_574 wd_576 wd_1594 wd_2 wd_577 (by decide +kernel)
set_option maxHeartbeats 4000000 in
set_option maxRecDepth 100000 in
theorem c_V_calledOfLeague (l : Launch) (G : g_G) (OK : EOk G.2.2) (ad : Nat → Nat) (fu : Nat) (va : g_St) (x1 : Int32) (x2 : Int32) (r : Int32) (h : f_V_calledOfLeague fu va x1 x2 = some r) : HI l G yX9_calledOfLeague (Cond.code yX9_calledOfLeague cX9_calledOfLeague 6 (some .int) :: gT) { frames := 1, cells := 0, slots := 0, locals := 22 } .int [.ref (ad 0), .int x1, .int x2] (bV G ad va) r (bV G ad va) := by
  refine HI.mk (lv := [(0, .ref (ad 0)), (1, .int x1), (2, .int x2)]) OK (by decide) (Nat.le_of_ble_eq_true rfl) rfl ?_
  intro p e s0 m args below meth c ls XX hr I hl
  have hx := XX.x
  have hb := XX.b
  have C47 : ∀ n : Nat, ∀ (v2 : Int32) (v4 : Int32) (v5 : Int32), f_V_calledOfLeague_L47 fu n va v2 v4 v5 = some r → ∀ (H : Heap) (locs : List Loc), Iv G (va_A (bV G ad va) s0.heap.size) s0 H locs (bV G ad va) → ∀ ls, lv_has ls 6 [(0, .ref (ad 0)), (2, .int v2), (4, .int v4), (5, .int v5)] → W p l e { frames := 1, cells := 0, slots := 0, locals := 22 } s0 m args below meth c H locs 0 0 (QI G below .int r (bV G ad va) (bV G ad va) args s0) (F0 m 47 ls []) := by
    intro n
    induction n with
    | zero => intro v2 v4 v5 h; exact absurd h (fun q => by cases q)
    | succ n ih =>
      intro v2 v4 v5 h H locs I ls hl
      rw [f_V_calledOfLeague_L47] at h
      refine lv_iload hx hb dX9_calledOfLeague_47 (lv_at hl 3 rfl) ?_
      refine lv_aload_n hx hb dX9_calledOfLeague_49 rfl (lv_at hl 0 rfl) ?_
      refine gV_X9_o0_people XX I dX9_calledOfLeague_50 ?_
      refine lv_icmp_ge (tgt := 83) hx hb dX9_calledOfLeague_53 (by decide) (fun c1 => ?_) (fun c1 => ?_)
      · replace h := if_t h c1
        refine lv_iconst (v := (-1)) hx hb dX9_calledOfLeague_83 (by decide) ?_
        obtain rfl := some1 h
        exact e_i rfl XX hr I rfl dX9_calledOfLeague_84
      · replace h := if_f h c1
        refine lv_aload_n hx hb dX9_calledOfLeague_56 rfl (lv_at hl 0 rfl) ?_
        refine lv_iload hx hb dX9_calledOfLeague_57 (lv_at hl 3 rfl) ?_
        refine lv_iload_n hx hb dX9_calledOfLeague_59 rfl (lv_at hl 1 rfl) ?_
        obtain ⟨r9, q10, h⟩ := bd1_some h
        refine wcall_i (rest := []) XX I hl.1 (c_V_isInLeague l G OK ad va v5 v2 r9 q10) kV_X9_83 (Rc.mk XX I (q0 := 0) (ci := 9) rfl rfl) rfl rfl (Nat.le_of_ble_eq_true rfl) ⟨rfl, rfl, Nat.le_of_ble_eq_true rfl, Nat.le_of_ble_eq_true rfl⟩ ⟨Nat.zero_le _, Nat.zero_le _⟩ dX9_calledOfLeague_60 (fun H locs hz11 I => ?_)
        refine lv_if_eq (tgt := 77) hx hb dX9_calledOfLeague_63 (by decide) (fun c1 => ?_) (fun c1 => ?_)
        · replace h := if_t h c1
          obtain ⟨y12, ey12⟩ : ∃ z : Int32, z = v5 + (1 : Int32) := ⟨_, rfl⟩
          replace h := lt_e h ey12
          refine lv_iinc (v := y12) (lv' := [(5, .int y12), (0, .ref (ad 0)), (2, .int v2), (4, .int v4)]) hx hb dX9_calledOfLeague_77 hl (k := 3) rfl (by rw [ey12]; rfl) (by decide) rfl (fun ls hl => ?_)
          refine lv_goto (tgt := 47) hx hb dX9_calledOfLeague_80 (by decide) ?_
          exact ih _ _ _ h _ _ I ls (lv_sub hl [1, 2, 3, 0] rfl)
        · replace h := if_f h c1
          refine lv_iload hx hb dX9_calledOfLeague_66 (lv_at hl 2 rfl) ?_
          refine lv_if_ne (tgt := 74) hx hb dX9_calledOfLeague_68 (by decide) (fun c1 => ?_) (fun c1 => ?_)
          · replace h := if_f h c1
            obtain ⟨y13, ey13⟩ : ∃ z : Int32, z = v4 + ((-1) : Int32) := ⟨_, rfl⟩
            replace h := lt_e h ey13
            refine lv_iinc (v := y13) (lv' := [(4, .int y13), (0, .ref (ad 0)), (2, .int v2), (5, .int v5)]) hx hb dX9_calledOfLeague_74 hl (k := 2) rfl (by rw [ey13]; rfl) (by decide) rfl (fun ls hl => ?_)
            obtain ⟨y14, ey14⟩ : ∃ z : Int32, z = v5 + (1 : Int32) := ⟨_, rfl⟩
            replace h := lt_e h ey14
            refine lv_iinc (v := y14) (lv' := [(5, .int y14), (4, .int y13), (0, .ref (ad 0)), (2, .int v2)]) hx hb dX9_calledOfLeague_77 hl (k := 3) rfl (by rw [ey14]; rfl) (by decide) rfl (fun ls hl => ?_)
            refine lv_goto (tgt := 47) hx hb dX9_calledOfLeague_80 (by decide) ?_
            exact ih _ _ _ h _ _ I ls (lv_sub hl [2, 3, 1, 0] rfl)
          · replace h := if_t h c1
            refine lv_iload hx hb dX9_calledOfLeague_71 (lv_at hl 3 rfl) ?_
            obtain rfl := some1 h
            exact e_i rfl XX hr I rfl dX9_calledOfLeague_73
  have C5 : ∀ n : Nat, ∀ (v1 : Int32) (v2 : Int32) (v3 : Int32) (v4 : Int32), f_V_calledOfLeague_L5 fu n va v1 v2 v3 v4 = some r → ∀ (H : Heap) (locs : List Loc), Iv G (va_A (bV G ad va) s0.heap.size) s0 H locs (bV G ad va) → ∀ ls, lv_has ls 6 [(0, .ref (ad 0)), (1, .int v1), (2, .int v2), (3, .int v3), (4, .int v4)] → W p l e { frames := 1, cells := 0, slots := 0, locals := 22 } s0 m args below meth c H locs 0 0 (QI G below .int r (bV G ad va) (bV G ad va) args s0) (F0 m 5 ls []) := by
    intro n
    induction n with
    | zero => intro v1 v2 v3 v4 h; exact absurd h (fun q => by cases q)
    | succ n ih =>
      intro v1 v2 v3 v4 h H locs I ls hl
      rw [f_V_calledOfLeague_L5] at h
      refine lv_iload hx hb dX9_calledOfLeague_5 (lv_at hl 4 rfl) ?_
      refine lv_aload_n hx hb dX9_calledOfLeague_7 rfl (lv_at hl 0 rfl) ?_
      refine gV_X9_o0_people XX I dX9_calledOfLeague_8 ?_
      refine lv_icmp_ge (tgt := 33) hx hb dX9_calledOfLeague_11 (by decide) (fun c1 => ?_) (fun c1 => ?_)
      · replace h := if_t h c1
        refine lv_iload_n hx hb dX9_calledOfLeague_33 rfl (lv_at hl 3 rfl) ?_
        refine lv_if_ne (tgt := 39) hx hb dX9_calledOfLeague_34 (by decide) (fun c1 => ?_) (fun c1 => ?_)
        · replace h := if_f h c1
          refine lv_iload_n hx hb dX9_calledOfLeague_39 rfl (lv_at hl 1 rfl) ?_
          refine lv_iload_n hx hb dX9_calledOfLeague_40 rfl (lv_at hl 3 rfl) ?_
          obtain ⟨g1, h⟩ := gd_some h
          refine lv_irem hx hb dX9_calledOfLeague_41 g1 ?_
          refine lv_topi (fun y2 ey2 => ?_)
          replace h := lt_e h ey2
          refine lv_istore (lv' := [(4, .int y2), (0, .ref (ad 0)), (1, .int v1), (2, .int v2), (3, .int v3)]) hx hb dX9_calledOfLeague_42 hl (by decide) rfl (fun ls hl => ?_)
          refine lv_iconst (v := 0) hx hb dX9_calledOfLeague_44 (by decide) ?_
          refine lv_istore (lv' := [(5, .int (0 : Int32)), (4, .int y2), (0, .ref (ad 0)), (1, .int v1), (2, .int v2), (3, .int v3)]) hx hb dX9_calledOfLeague_45 hl (by decide) rfl (fun ls hl => ?_)
          exact C47 fu _ _ _ h _ _ I ls (lv_sub hl [2, 4, 1, 0] rfl)
        · replace h := if_t h c1
          refine lv_iconst (v := (-1)) hx hb dX9_calledOfLeague_37 (by decide) ?_
          obtain rfl := some1 h
          exact e_i rfl XX hr I rfl dX9_calledOfLeague_38
      · replace h := if_f h c1
        refine lv_aload_n hx hb dX9_calledOfLeague_14 rfl (lv_at hl 0 rfl) ?_
        refine lv_iload hx hb dX9_calledOfLeague_15 (lv_at hl 4 rfl) ?_
        refine lv_iload_n hx hb dX9_calledOfLeague_17 rfl (lv_at hl 2 rfl) ?_
        obtain ⟨r3, q4, h⟩ := bd1_some h
        refine wcall_i (rest := []) XX I hl.1 (c_V_isInLeague l G OK ad va v4 v2 r3 q4) kV_X9_83 (Rc.mk XX I (q0 := 0) (ci := 9) rfl rfl) rfl rfl (Nat.le_of_ble_eq_true rfl) ⟨rfl, rfl, Nat.le_of_ble_eq_true rfl, Nat.le_of_ble_eq_true rfl⟩ ⟨Nat.zero_le _, Nat.zero_le _⟩ dX9_calledOfLeague_18 (fun H locs hz5 I => ?_)
        refine lv_if_eq (tgt := 27) hx hb dX9_calledOfLeague_21 (by decide) (fun c1 => ?_) (fun c1 => ?_)
        · replace h := if_t h c1
          obtain ⟨y6, ey6⟩ : ∃ z : Int32, z = v4 + (1 : Int32) := ⟨_, rfl⟩
          replace h := lt_e h ey6
          refine lv_iinc (v := y6) (lv' := [(4, .int y6), (0, .ref (ad 0)), (1, .int v1), (2, .int v2), (3, .int v3)]) hx hb dX9_calledOfLeague_27 hl (k := 4) rfl (by rw [ey6]; rfl) (by decide) rfl (fun ls hl => ?_)
          refine lv_goto (tgt := 5) hx hb dX9_calledOfLeague_30 (by decide) ?_
          exact ih _ _ _ _ h _ _ I ls (lv_sub hl [1, 2, 3, 4, 0] rfl)
        · replace h := if_f h c1
          obtain ⟨y7, ey7⟩ : ∃ z : Int32, z = v3 + (1 : Int32) := ⟨_, rfl⟩
          replace h := lt_e h ey7
          refine lv_iinc (v := y7) (lv' := [(3, .int y7), (0, .ref (ad 0)), (1, .int v1), (2, .int v2), (4, .int v4)]) hx hb dX9_calledOfLeague_24 hl (k := 3) rfl (by rw [ey7]; rfl) (by decide) rfl (fun ls hl => ?_)
          obtain ⟨y8, ey8⟩ : ∃ z : Int32, z = v4 + (1 : Int32) := ⟨_, rfl⟩
          replace h := lt_e h ey8
          refine lv_iinc (v := y8) (lv' := [(4, .int y8), (3, .int y7), (0, .ref (ad 0)), (1, .int v1), (2, .int v2)]) hx hb dX9_calledOfLeague_27 hl (k := 4) rfl (by rw [ey8]; rfl) (by decide) rfl (fun ls hl => ?_)
          refine lv_goto (tgt := 5) hx hb dX9_calledOfLeague_30 (by decide) ?_
          exact ih _ _ _ _ h _ _ I ls (lv_sub hl [2, 3, 4, 1, 0] rfl)
  unfold f_V_calledOfLeague at h
  refine lv_iconst (v := 0) hx hb dX9_calledOfLeague_0 (by decide) ?_
  refine lv_istore_n (lv' := [(3, .int (0 : Int32)), (0, .ref (ad 0)), (1, .int x1), (2, .int x2)]) hx hb dX9_calledOfLeague_1 rfl hl (by decide) rfl (fun ls hl => ?_)
  refine lv_iconst (v := 0) hx hb dX9_calledOfLeague_2 (by decide) ?_
  refine lv_istore (lv' := [(4, .int (0 : Int32)), (3, .int (0 : Int32)), (0, .ref (ad 0)), (1, .int x1), (2, .int x2)]) hx hb dX9_calledOfLeague_3 hl (by decide) rfl (fun ls hl => ?_)
  exact C5 fu _ _ _ _ h _ _ I ls (lv_sub hl [2, 3, 4, 1, 0] rfl)
set_option maxHeartbeats 4000000 in
set_option maxRecDepth 100000 in
theorem c_V_hasWorseOff (l : Launch) (G : g_G) (OK : EOk G.2.2) (ad : Nat → Nat) (fu : Nat) (va : g_St) (x1 : Int32) (x2 : Int32) (x3 : Int32) (r : Int32) (h : f_V_hasWorseOff fu va x1 x2 x3 = some r) : HI l G yX9_hasWorseOff (Cond.code yX9_hasWorseOff cX9_hasWorseOff 5 (some .boolean) :: gT) { frames := 0, cells := 0, slots := 0, locals := 0 } .boolean [.ref (ad 0), .int x1, .int x2, .int x3] (bV G ad va) r (bV G ad va) := by
  refine HI.mk (lv := [(0, .ref (ad 0)), (1, .int x1), (2, .int x2), (3, .int x3)]) OK (by decide) (Nat.le_of_ble_eq_true rfl) rfl ?_
  intro p e s0 m args below meth c ls XX hr I hl
  have hx := XX.x
  have hb := XX.b
  have C3 : ∀ n : Nat, ∀ (v1 : Int32) (v2 : Int32) (v3 : Int32) (v4 : Int32), f_V_hasWorseOff_L3 fu n va v1 v2 v3 v4 = some r → ∀ (H : Heap) (locs : List Loc), Iv G (va_A (bV G ad va) s0.heap.size) s0 H locs (bV G ad va) → ∀ ls, lv_has ls 5 [(0, .ref (ad 0)), (1, .int v1), (2, .int v2), (3, .int v3), (4, .int v4)] → W p l e { frames := 0, cells := 0, slots := 0, locals := 0 } s0 m args below meth c H locs 0 0 (QI G below .boolean r (bV G ad va) (bV G ad va) args s0) (F0 m 3 ls []) := by
    intro n
    induction n with
    | zero => intro v1 v2 v3 v4 h; exact absurd h (fun q => by cases q)
    | succ n ih =>
      intro v1 v2 v3 v4 h H locs I ls hl
      rw [f_V_hasWorseOff_L3] at h
      refine lv_iload hx hb dX9_hasWorseOff_3 (lv_at hl 4 rfl) ?_
      refine lv_aload_n hx hb dX9_hasWorseOff_5 rfl (lv_at hl 0 rfl) ?_
      refine gV_X9_o0_people XX I dX9_hasWorseOff_6 ?_
      refine lv_icmp_ge (tgt := 50) hx hb dX9_hasWorseOff_9 (by decide) (fun c1 => ?_) (fun c1 => ?_)
      · replace h := if_t h c1
        refine lv_iconst (v := 0) hx hb dX9_hasWorseOff_50 (by decide) ?_
        obtain rfl := some1 h
        exact e_z XX hr I rfl rfl dX9_hasWorseOff_51
      · replace h := if_f h c1
        refine lv_iload_n hx hb dX9_hasWorseOff_12 rfl (lv_at hl 3 rfl) ?_
        refine lv_iload hx hb dX9_hasWorseOff_13 (lv_at hl 4 rfl) ?_
        refine lv_iushr hx hb dX9_hasWorseOff_15 rfl ?_
        refine lv_iconst (v := 1) hx hb dX9_hasWorseOff_16 (by decide) ?_
        refine lv_iand hx hb dX9_hasWorseOff_17 ?_
        refine lv_iconst (v := 1) hx hb dX9_hasWorseOff_18 (by decide) ?_
        refine lv_icmp_ne (tgt := 44) hx hb dX9_hasWorseOff_19 (by decide) (fun c1 => ?_) (fun c1 => ?_)
        · replace h := if_f h c1
          obtain ⟨y1, ey1⟩ : ∃ z : Int32, z = v4 + (1 : Int32) := ⟨_, rfl⟩
          replace h := lt_e h ey1
          refine lv_iinc (v := y1) (lv' := [(4, .int y1), (0, .ref (ad 0)), (1, .int v1), (2, .int v2), (3, .int v3)]) hx hb dX9_hasWorseOff_44 hl (k := 4) rfl (by rw [ey1]; rfl) (by decide) rfl (fun ls hl => ?_)
          refine lv_goto (tgt := 3) hx hb dX9_hasWorseOff_47 (by decide) ?_
          exact ih _ _ _ _ h _ _ I ls (lv_sub hl [1, 2, 3, 4, 0] rfl)
        · replace h := if_t h c1
          refine lv_aload_n hx hb dX9_hasWorseOff_22 rfl (lv_at hl 0 rfl) ?_
          refine gV_X9_o0_worth XX I dX9_hasWorseOff_23 ?_
          refine lv_iload_n hx hb dX9_hasWorseOff_26 rfl (lv_at hl 1 rfl) ?_
          obtain ⟨g2, h⟩ := gd_some h
          refine r_aaldI XX I 7 rfl (v := .ref (ad (20 + v1.toNatClampNeg))) rfl g2 dX9_hasWorseOff_27 ?_
          refine lv_iload hx hb dX9_hasWorseOff_28 (lv_at hl 4 rfl) ?_
          obtain ⟨g3, h⟩ := gd_some h
          refine r_iald XX I (9 + v1.toNatClampNeg) (aV_row0 (vin_lt g2)) g3 dX9_hasWorseOff_30 ?_
          refine lv_aload_n hx hb dX9_hasWorseOff_31 rfl (lv_at hl 0 rfl) ?_
          refine gV_X9_o0_worth XX I dX9_hasWorseOff_32 ?_
          refine lv_iload_n hx hb dX9_hasWorseOff_35 rfl (lv_at hl 1 rfl) ?_
          obtain ⟨g4, h⟩ := gd_some h
          refine r_aaldI XX I 7 rfl (v := .ref (ad (20 + v1.toNatClampNeg))) rfl g4 dX9_hasWorseOff_36 ?_
          refine lv_iload_n hx hb dX9_hasWorseOff_37 rfl (lv_at hl 2 rfl) ?_
          obtain ⟨g5, h⟩ := gd_some h
          refine r_iald XX I (9 + v1.toNatClampNeg) (aV_row0 (vin_lt g4)) g5 dX9_hasWorseOff_38 ?_
          refine lv_icmp_ge (tgt := 44) hx hb dX9_hasWorseOff_39 (by decide) (fun c1 => ?_) (fun c1 => ?_)
          · replace h := if_t h c1
            obtain ⟨y6, ey6⟩ : ∃ z : Int32, z = v4 + (1 : Int32) := ⟨_, rfl⟩
            replace h := lt_e h ey6
            refine lv_iinc (v := y6) (lv' := [(4, .int y6), (0, .ref (ad 0)), (1, .int v1), (2, .int v2), (3, .int v3)]) hx hb dX9_hasWorseOff_44 hl (k := 4) rfl (by rw [ey6]; rfl) (by decide) rfl (fun ls hl => ?_)
            refine lv_goto (tgt := 3) hx hb dX9_hasWorseOff_47 (by decide) ?_
            exact ih _ _ _ _ h _ _ I ls (lv_sub hl [1, 2, 3, 4, 0] rfl)
          · replace h := if_f h c1
            refine lv_iconst (v := 1) hx hb dX9_hasWorseOff_42 (by decide) ?_
            obtain rfl := some1 h
            exact e_z XX hr I rfl rfl dX9_hasWorseOff_43
  unfold f_V_hasWorseOff at h
  refine lv_iconst (v := 0) hx hb dX9_hasWorseOff_0 (by decide) ?_
  refine lv_istore (lv' := [(4, .int (0 : Int32)), (0, .ref (ad 0)), (1, .int x1), (2, .int x2), (3, .int x3)]) hx hb dX9_hasWorseOff_1 hl (by decide) rfl (fun ls hl => ?_)
  exact C3 fu _ _ _ _ h _ _ I ls (lv_sub hl [1, 2, 3, 4, 0] rfl)
theorem kV_X9_79 : KV RX9 79 RX9 yX9_hasWorseOff cX9_hasWorseOff 5 (some .boolean) 3 := KV.mk wd_582 wd_584 wd_1596 wd_2 wd_585 (by decide +kernel)
set_option maxHeartbeats 4000000 in
set_option maxRecDepth 100000 in
theorem c_V_dislikes (l : Launch) (G : g_G) (OK : EOk G.2.2) (ad : Nat → Nat) (fu : Nat) (va : g_St) (x1 : Int32) (x2 : Int32) (x3 : Int32) (x4 : Int32) (r : Int32) (h : f_V_dislikes fu va x1 x2 x3 x4 = some r) : HI l G yX9_dislikes (Cond.code yX9_dislikes cX9_dislikes 6 (some .boolean) :: gT) { frames := 1, cells := 0, slots := 0, locals := 24 } .boolean [.ref (ad 0), .int x1, .int x2, .int x3, .int x4] (bV G ad va) r (bV G ad va) := by
  refine HI.mk (lv := [(0, .ref (ad 0)), (1, .int x1), (2, .int x2), (3, .int x3), (4, .int x4)]) OK (by decide) (Nat.le_of_ble_eq_true rfl) rfl ?_
  intro p e s0 m args below meth c ls XX hr I hl
  have hx := XX.x
  have hb := XX.b
  unfold f_V_dislikes at h
  refine lv_aload_n hx hb dX9_dislikes_0 rfl (lv_at hl 0 rfl) ?_
  refine gV_X9_o0_worth XX I dX9_dislikes_1 ?_
  refine lv_iload_n hx hb dX9_dislikes_4 rfl (lv_at hl 1 rfl) ?_
  obtain ⟨g1, h⟩ := gd_some h
  refine r_aaldI XX I 7 rfl (v := .ref (ad (20 + x1.toNatClampNeg))) rfl g1 dX9_dislikes_5 ?_
  refine lv_iload_n hx hb dX9_dislikes_6 rfl (lv_at hl 2 rfl) ?_
  obtain ⟨g2, h⟩ := gd_some h
  refine r_iald XX I (9 + x1.toNatClampNeg) (aV_row0 (vin_lt g1)) g2 dX9_dislikes_7 ?_
  refine lv_topi (fun y3 ey3 => ?_)
  replace h := lt_e h ey3
  refine lv_istore (lv' := [(5, .int y3), (0, .ref (ad 0)), (1, .int x1), (2, .int x2), (3, .int x3), (4, .int x4)]) hx hb dX9_dislikes_8 hl (by decide) rfl (fun ls hl => ?_)
  refine lv_aload_n hx hb dX9_dislikes_10 rfl (lv_at hl 1 rfl) ?_
  refine gV_X9_o0_kind XX I dX9_dislikes_11 ?_
  refine lv_iload_n hx hb dX9_dislikes_14 rfl (lv_at hl 3 rfl) ?_
  obtain ⟨g4, h⟩ := gd_some h
  refine r_iald XX I 1 (aV_kind0) g4 dX9_dislikes_15 ?_
  refine lv_topi (fun y5 ey5 => ?_)
  replace h := lt_e h ey5
  by_cases q1 : y5 = (1 : Int32)
  · replace h := if_t h q1
    refine lv_tableIn (tgt := 52) (off := 36) hx hb dX9_dislikes_16 (by rw [q1]; decide) (by rw [q1]; decide) (by rw [q1]; rfl) (by decide) ?_
    refine lv_iload hx hb dX9_dislikes_52 (lv_at hl 0 rfl) ?_
    refine lv_if_ge (tgt := 61) hx hb dX9_dislikes_54 (by decide) (fun c1 => ?_) (fun c1 => ?_)
    · replace h := if_t h c1
      refine lv_iconst (v := 0) hx hb dX9_dislikes_61 (by decide) ?_
      obtain rfl := some1 h
      exact e_z XX hr I rfl rfl dX9_dislikes_62
    · replace h := if_f h c1
      refine lv_iconst (v := 1) hx hb dX9_dislikes_57 (by decide) ?_
      refine lv_goto (tgt := 62) hx hb dX9_dislikes_58 (by decide) ?_
      obtain rfl := some1 h
      exact e_z XX hr I rfl rfl dX9_dislikes_62
  replace h := if_f h q1
  by_cases q2 : y5 = (2 : Int32)
  · replace h := if_t h q2
    refine lv_tableIn (tgt := 63) (off := 47) hx hb dX9_dislikes_16 (by rw [q2]; decide) (by rw [q2]; decide) (by rw [q2]; rfl) (by decide) ?_
    refine lv_iload hx hb dX9_dislikes_63 (lv_at hl 0 rfl) ?_
    refine lv_aload_n hx hb dX9_dislikes_65 rfl (lv_at hl 1 rfl) ?_
    refine gV_X9_o0_a XX I dX9_dislikes_66 ?_
    refine lv_iload_n hx hb dX9_dislikes_69 rfl (lv_at hl 3 rfl) ?_
    obtain ⟨g6, h⟩ := gd_some h
    refine r_iald XX I 2 (aV_a0) g6 dX9_dislikes_70 ?_
    refine lv_ineg hx hb dX9_dislikes_71 ?_
    refine lv_icmp_ge (tgt := 79) hx hb dX9_dislikes_72 (by decide) (fun c1 => ?_) (fun c1 => ?_)
    · replace h := if_t h c1
      refine lv_iconst (v := 0) hx hb dX9_dislikes_79 (by decide) ?_
      obtain rfl := some1 h
      exact e_z XX hr I rfl rfl dX9_dislikes_80
    · replace h := if_f h c1
      refine lv_iconst (v := 1) hx hb dX9_dislikes_75 (by decide) ?_
      refine lv_goto (tgt := 80) hx hb dX9_dislikes_76 (by decide) ?_
      obtain rfl := some1 h
      exact e_z XX hr I rfl rfl dX9_dislikes_80
  replace h := if_f h q2
  by_cases q3 : y5 = (3 : Int32)
  · replace h := if_t h q3
    refine lv_tableIn (tgt := 81) (off := 65) hx hb dX9_dislikes_16 (by rw [q3]; decide) (by rw [q3]; decide) (by rw [q3]; rfl) (by decide) ?_
    refine lv_iload hx hb dX9_dislikes_81 (lv_at hl 0 rfl) ?_
    refine lv_aload_n hx hb dX9_dislikes_83 rfl (lv_at hl 1 rfl) ?_
    refine gV_X9_o0_a XX I dX9_dislikes_84 ?_
    refine lv_iload_n hx hb dX9_dislikes_87 rfl (lv_at hl 3 rfl) ?_
    obtain ⟨g7, h⟩ := gd_some h
    refine r_iald XX I 2 (aV_a0) g7 dX9_dislikes_88 ?_
    refine lv_ineg hx hb dX9_dislikes_89 ?_
    refine lv_icmp_ge (tgt := 107) hx hb dX9_dislikes_90 (by decide) (fun c1 => ?_) (fun c1 => ?_)
    · replace h := if_t h c1
      refine lv_iconst (v := 0) hx hb dX9_dislikes_107 (by decide) ?_
      obtain rfl := some1 h
      exact e_z XX hr I rfl rfl dX9_dislikes_108
    · replace h := if_f h c1
      refine lv_aload_n hx hb dX9_dislikes_93 rfl (lv_at hl 1 rfl) ?_
      refine lv_iload_n hx hb dX9_dislikes_94 rfl (lv_at hl 2 rfl) ?_
      refine lv_iload_n hx hb dX9_dislikes_95 rfl (lv_at hl 3 rfl) ?_
      refine lv_iload_n hx hb dX9_dislikes_96 rfl (lv_at hl 4 rfl) ?_
      obtain ⟨r8, q9, h⟩ := bd1_some h
      refine wcall_i (rest := []) XX I hl.1 (c_V_hasWorseOff l G OK ad fu va x1 x2 x3 r8 q9) kV_X9_79 (Rc.mk XX I (q0 := 0) (ci := 9) rfl rfl) rfl rfl (Nat.le_of_ble_eq_true rfl) ⟨rfl, rfl, Nat.le_of_ble_eq_true rfl, Nat.le_of_ble_eq_true rfl⟩ ⟨Nat.zero_le _, Nat.zero_le _⟩ dX9_dislikes_97 (fun H locs hz10 I => ?_)
      refine lv_if_ne (tgt := 107) hx hb dX9_dislikes_100 (by decide) (fun c1 => ?_) (fun c1 => ?_)
      · replace h := if_f h c1
        refine lv_iconst (v := 0) hx hb dX9_dislikes_107 (by decide) ?_
        obtain rfl := some1 h
        exact e_z XX hr I rfl rfl dX9_dislikes_108
      · replace h := if_t h c1
        refine lv_iconst (v := 1) hx hb dX9_dislikes_103 (by decide) ?_
        refine lv_goto (tgt := 108) hx hb dX9_dislikes_104 (by decide) ?_
        obtain rfl := some1 h
        exact e_z XX hr I rfl rfl dX9_dislikes_108
  replace h := if_f h q3
  by_cases q4 : y5 = (4 : Int32)
  · replace h := if_t h q4
    refine lv_tableIn (tgt := 109) (off := 93) hx hb dX9_dislikes_16 (by rw [q4]; decide) (by rw [q4]; decide) (by rw [q4]; rfl) (by decide) ?_
    refine lv_iload hx hb dX9_dislikes_109 (lv_at hl 0 rfl) ?_
    refine lv_if_ge (tgt := 124) hx hb dX9_dislikes_111 (by decide) (fun c1 => ?_) (fun c1 => ?_)
    · replace h := if_t h c1
      refine lv_iconst (v := 0) hx hb dX9_dislikes_124 (by decide) ?_
      obtain rfl := some1 h
      exact e_z XX hr I rfl rfl dX9_dislikes_125
    · replace h := if_f h c1
      refine lv_iload_n hx hb dX9_dislikes_114 rfl (lv_at hl 3 rfl) ?_
      refine lv_iload hx hb dX9_dislikes_115 (lv_at hl 5 rfl) ?_
      refine lv_icmp_ne (tgt := 124) hx hb dX9_dislikes_117 (by decide) (fun c1 => ?_) (fun c1 => ?_)
      · replace h := if_f h c1
        refine lv_iconst (v := 0) hx hb dX9_dislikes_124 (by decide) ?_
        obtain rfl := some1 h
        exact e_z XX hr I rfl rfl dX9_dislikes_125
      · replace h := if_t h c1
        refine lv_iconst (v := 1) hx hb dX9_dislikes_120 (by decide) ?_
        refine lv_goto (tgt := 125) hx hb dX9_dislikes_121 (by decide) ?_
        obtain rfl := some1 h
        exact e_z XX hr I rfl rfl dX9_dislikes_125
  replace h := if_f h q4
  by_cases q5 : y5 = (5 : Int32)
  · replace h := if_t h q5
    refine lv_tableIn (tgt := 126) (off := 110) hx hb dX9_dislikes_16 (by rw [q5]; decide) (by rw [q5]; decide) (by rw [q5]; rfl) (by decide) ?_
    refine lv_aload_n hx hb dX9_dislikes_126 rfl (lv_at hl 1 rfl) ?_
    refine gV_X9_o0_a XX I dX9_dislikes_127 ?_
    refine lv_iload_n hx hb dX9_dislikes_130 rfl (lv_at hl 3 rfl) ?_
    obtain ⟨g11, h⟩ := gd_some h
    refine r_iald XX I 2 (aV_a0) g11 dX9_dislikes_131 ?_
    refine lv_iload_n hx hb dX9_dislikes_132 rfl (lv_at hl 2 rfl) ?_
    refine lv_iushr hx hb dX9_dislikes_133 rfl ?_
    refine lv_iconst (v := 1) hx hb dX9_dislikes_134 (by decide) ?_
    refine lv_iand hx hb dX9_dislikes_135 ?_
    refine lv_iconst (v := 1) hx hb dX9_dislikes_136 (by decide) ?_
    refine lv_icmp_ne (tgt := 144) hx hb dX9_dislikes_137 (by decide) (fun c1 => ?_) (fun c1 => ?_)
    · replace h := if_f h c1
      refine lv_iconst (v := 0) hx hb dX9_dislikes_144 (by decide) ?_
      obtain rfl := some1 h
      exact e_z XX hr I rfl rfl dX9_dislikes_145
    · replace h := if_t h c1
      refine lv_iconst (v := 1) hx hb dX9_dislikes_140 (by decide) ?_
      refine lv_goto (tgt := 145) hx hb dX9_dislikes_141 (by decide) ?_
      obtain rfl := some1 h
      exact e_z XX hr I rfl rfl dX9_dislikes_145
  replace h := if_f h q5
  refine lv_tableOut (tgt := 146) hx hb dX9_dislikes_16 (tab_out (lo := 1) (hi := 5) (fun k k1 k2 => by rcases (show k = 1 ∨ k = 2 ∨ k = 3 ∨ k = 4 ∨ k = 5 by omega) with rfl | rfl | rfl | rfl | rfl <;> assumption)) (by decide) ?_
  refine lv_iconst (v := 0) hx hb dX9_dislikes_146 (by decide) ?_
  obtain rfl := some1 h
  exact e_z XX hr I rfl rfl dX9_dislikes_147
theorem kV_X9_64 : KV RX9 64 RX9 yX9_whoHasNoes cX9_whoHasNoes 4 (some .int) 1 := KV.mk wd_563 wd_565 wd_1592 wd_2 wd_566 (by decide +kernel)
theorem kV_X9_68 : KV RX9 68 RX9 yX9_calledOfLeague cX9_calledOfLeague 6 (some .int) 2 := KV.mk wd_570 wd_572 wd_1593 wd_2 wd_573 (by decide +kernel)
theorem kV_X9_72 : KV RX9 72 RX9 yX9_dislikes cX9_dislikes 6 (some .boolean) 4 := KV.mk wd_578 wd_580 wd_1595 wd_2 wd_581 (by decide +kernel)
set_option maxHeartbeats 4000000 in
set_option maxRecDepth 100000 in
theorem c_V_whoWould (l : Launch) (G : g_G) (OK : EOk G.2.2) (ad : Nat → Nat) (fu : Nat) (va : g_St) (x1 : Int32) (x2 : Int32) (x3 : Int32) (r : Int32) (h : f_V_whoWould fu va x1 x2 x3 = some r) : HI l G yX9_whoWould (Cond.code yX9_whoWould cX9_whoWould 8 (some .int) :: gT) { frames := 2, cells := 0, slots := 0, locals := 49 } .int [.ref (ad 0), .int x1, .int x2, .int x3] (bV G ad va) r (bV G ad va) := by
  refine HI.mk (lv := [(0, .ref (ad 0)), (1, .int x1), (2, .int x2), (3, .int x3)]) OK (by decide) (Nat.le_of_ble_eq_true rfl) rfl ?_
  intro p e s0 m args below meth c ls XX hr I hl
  have hx := XX.x
  have hb := XX.b
  have C22 : ∀ n : Nat, ∀ (v1 : Int32) (v4 : Int32) (v5 : Int32) (v6 : Int32) (v7 : Int32), f_V_whoWould_L22 fu n va v1 v4 v5 v6 v7 = some r → ∀ (H : Heap) (locs : List Loc), Iv G (va_A (bV G ad va) s0.heap.size) s0 H locs (bV G ad va) → ∀ ls, lv_has ls 8 [(0, .ref (ad 0)), (1, .int v1), (4, .int v4), (5, .int v5), (6, .int v6), (7, .int v7)] → W p l e { frames := 2, cells := 0, slots := 0, locals := 49 } s0 m args below meth c H locs 0 0 (QI G below .int r (bV G ad va) (bV G ad va) args s0) (F0 m 22 ls []) := by
    intro n
    induction n with
    | zero => intro v1 v4 v5 v6 v7 h; exact absurd h (fun q => by cases q)
    | succ n ih =>
      intro v1 v4 v5 v6 v7 h H locs I ls hl
      rw [f_V_whoWould_L22] at h
      refine lv_iload hx hb dX9_whoWould_22 (lv_at hl 5 rfl) ?_
      refine lv_aload_n hx hb dX9_whoWould_24 rfl (lv_at hl 0 rfl) ?_
      refine gV_X9_o0_people XX I dX9_whoWould_25 ?_
      refine lv_icmp_ge (tgt := 71) hx hb dX9_whoWould_28 (by decide) (fun c1 => ?_) (fun c1 => ?_)
      · replace h := if_t h c1
        refine lv_iload hx hb dX9_whoWould_71 (lv_at hl 4 rfl) ?_
        obtain rfl := some1 h
        exact e_i rfl XX hr I rfl dX9_whoWould_73
      · replace h := if_f h c1
        refine lv_iload hx hb dX9_whoWould_31 (lv_at hl 2 rfl) ?_
        refine lv_iload hx hb dX9_whoWould_33 (lv_at hl 5 rfl) ?_
        refine lv_iushr hx hb dX9_whoWould_35 rfl ?_
        refine lv_iconst (v := 1) hx hb dX9_whoWould_36 (by decide) ?_
        refine lv_iand hx hb dX9_whoWould_37 ?_
        refine lv_iconst (v := 1) hx hb dX9_whoWould_38 (by decide) ?_
        refine lv_icmp_ne (tgt := 65) hx hb dX9_whoWould_39 (by decide) (fun c1 => ?_) (fun c1 => ?_)
        · replace h := if_f h c1
          obtain ⟨y7, ey7⟩ : ∃ z : Int32, z = v7 + (1 : Int32) := ⟨_, rfl⟩
          replace h := lt_e h ey7
          refine lv_iinc (v := y7) (lv' := [(7, .int y7), (0, .ref (ad 0)), (1, .int v1), (4, .int v4), (5, .int v5), (6, .int v6)]) hx hb dX9_whoWould_65 hl (k := 5) rfl (by rw [ey7]; rfl) (by decide) rfl (fun ls hl => ?_)
          refine lv_goto (tgt := 22) hx hb dX9_whoWould_68 (by decide) ?_
          exact ih _ _ _ _ _ h _ _ I ls (lv_sub hl [1, 2, 3, 4, 5, 0] rfl)
        · replace h := if_t h c1
          refine lv_aload_n hx hb dX9_whoWould_42 rfl (lv_at hl 0 rfl) ?_
          refine lv_iload_n hx hb dX9_whoWould_43 rfl (lv_at hl 1 rfl) ?_
          refine lv_iload hx hb dX9_whoWould_44 (lv_at hl 5 rfl) ?_
          refine lv_iload hx hb dX9_whoWould_46 (lv_at hl 2 rfl) ?_
          refine lv_iload hx hb dX9_whoWould_48 (lv_at hl 3 rfl) ?_
          obtain ⟨r8, q9, h⟩ := bd1_some h
          refine wcall_i (rest := []) XX I hl.1 (c_V_dislikes l G OK ad fu va v1 v7 v4 v5 r8 q9) kV_X9_72 (Rc.mk XX I (q0 := 0) (ci := 9) rfl rfl) rfl rfl (Nat.le_of_ble_eq_true rfl) ⟨rfl, rfl, Nat.le_of_ble_eq_true rfl, Nat.le_of_ble_eq_true rfl⟩ ⟨Nat.zero_le _, Nat.zero_le _⟩ dX9_whoWould_50 (fun H locs hz10 I => ?_)
          refine lv_if_eq (tgt := 65) hx hb dX9_whoWould_53 (by decide) (fun c1 => ?_) (fun c1 => ?_)
          · replace h := if_t h c1
            obtain ⟨y11, ey11⟩ : ∃ z : Int32, z = v7 + (1 : Int32) := ⟨_, rfl⟩
            replace h := lt_e h ey11
            refine lv_iinc (v := y11) (lv' := [(7, .int y11), (0, .ref (ad 0)), (1, .int v1), (4, .int v4), (5, .int v5), (6, .int v6)]) hx hb dX9_whoWould_65 hl (k := 5) rfl (by rw [ey11]; rfl) (by decide) rfl (fun ls hl => ?_)
            refine lv_goto (tgt := 22) hx hb dX9_whoWould_68 (by decide) ?_
            exact ih _ _ _ _ _ h _ _ I ls (lv_sub hl [1, 2, 3, 4, 5, 0] rfl)
          · replace h := if_f h c1
            refine lv_iload hx hb dX9_whoWould_56 (lv_at hl 4 rfl) ?_
            refine lv_iconst (v := 1) hx hb dX9_whoWould_58 (by decide) ?_
            refine lv_iload hx hb dX9_whoWould_59 (lv_at hl 5 rfl) ?_
            refine lv_ishl hx hb dX9_whoWould_61 ?_
            refine lv_ior hx hb dX9_whoWould_62 ?_
            refine lv_topi (fun y12 ey12 => ?_)
            replace h := lt_e h ey12
            refine lv_istore (lv' := [(6, .int y12), (0, .ref (ad 0)), (1, .int v1), (4, .int v4), (5, .int v5), (7, .int v7)]) hx hb dX9_whoWould_63 hl (by decide) rfl (fun ls hl => ?_)
            obtain ⟨y13, ey13⟩ : ∃ z : Int32, z = v7 + (1 : Int32) := ⟨_, rfl⟩
            replace h := lt_e h ey13
            refine lv_iinc (v := y13) (lv' := [(7, .int y13), (6, .int y12), (0, .ref (ad 0)), (1, .int v1), (4, .int v4), (5, .int v5)]) hx hb dX9_whoWould_65 hl (k := 5) rfl (by rw [ey13]; rfl) (by decide) rfl (fun ls hl => ?_)
            refine lv_goto (tgt := 22) hx hb dX9_whoWould_68 (by decide) ?_
            exact ih _ _ _ _ _ h _ _ I ls (lv_sub hl [2, 3, 4, 5, 1, 0] rfl)
  unfold f_V_whoWould at h
  refine lv_aload_n hx hb dX9_whoWould_0 rfl (lv_at hl 0 rfl) ?_
  refine lv_iload_n hx hb dX9_whoWould_1 rfl (lv_at hl 3 rfl) ?_
  obtain ⟨r1, q2, h⟩ := bd1_some h
  refine wcall_i (rest := []) XX I hl.1 (c_V_whoHasNoes l G OK ad fu va x3 r1 q2) kV_X9_64 (Rc.mk XX I (q0 := 0) (ci := 9) rfl rfl) rfl rfl (Nat.le_of_ble_eq_true rfl) ⟨rfl, rfl, Nat.le_of_ble_eq_true rfl, Nat.le_of_ble_eq_true rfl⟩ ⟨Nat.zero_le _, Nat.zero_le _⟩ dX9_whoWould_2 (fun H locs hz3 I => ?_)
  refine lv_istore (lv' := [(4, .int r1), (0, .ref (ad 0)), (1, .int x1), (2, .int x2), (3, .int x3)]) hx hb dX9_whoWould_5 hl (by decide) rfl (fun ls hl => ?_)
  refine lv_aload_n hx hb dX9_whoWould_7 rfl (lv_at hl 1 rfl) ?_
  refine lv_iload_n hx hb dX9_whoWould_8 rfl (lv_at hl 3 rfl) ?_
  refine lv_iload hx hb dX9_whoWould_9 (lv_at hl 0 rfl) ?_
  obtain ⟨r4, q5, h⟩ := bd1_some h
  refine wcall_i (rest := []) XX I hl.1 (c_V_calledOfLeague l G OK ad fu va x2 r1 r4 q5) kV_X9_68 (Rc.mk XX I (q0 := 0) (ci := 9) rfl rfl) rfl rfl (Nat.le_of_ble_eq_true rfl) ⟨rfl, rfl, Nat.le_of_ble_eq_true rfl, Nat.le_of_ble_eq_true rfl⟩ ⟨Nat.zero_le _, Nat.zero_le _⟩ dX9_whoWould_11 (fun H locs hz6 I => ?_)
  refine lv_istore (lv' := [(5, .int r4), (4, .int r1), (0, .ref (ad 0)), (1, .int x1), (2, .int x2), (3, .int x3)]) hx hb dX9_whoWould_14 hl (by decide) rfl (fun ls hl => ?_)
  refine lv_iconst (v := 0) hx hb dX9_whoWould_16 (by decide) ?_
  refine lv_istore (lv' := [(6, .int (0 : Int32)), (5, .int r4), (4, .int r1), (0, .ref (ad 0)), (1, .int x1), (2, .int x2), (3, .int x3)]) hx hb dX9_whoWould_17 hl (by decide) rfl (fun ls hl => ?_)
  refine lv_iconst (v := 0) hx hb dX9_whoWould_19 (by decide) ?_
  refine lv_istore (lv' := [(7, .int (0 : Int32)), (6, .int (0 : Int32)), (5, .int r4), (4, .int r1), (0, .ref (ad 0)), (1, .int x1), (2, .int x2), (3, .int x3)]) hx hb dX9_whoWould_20 hl (by decide) rfl (fun ls hl => ?_)
  exact C22 fu _ _ _ _ _ h _ _ I ls (lv_sub hl [4, 5, 3, 2, 1, 0] rfl)
set_option maxHeartbeats 4000000 in
set_option maxRecDepth 100000 in
theorem c_V_oldestOf (l : Launch) (G : g_G) (OK : EOk G.2.2) (ad : Nat → Nat) (fu : Nat) (va : g_St) (x1 : Int32) (r : Int32) (h : f_V_oldestOf fu va x1 = some r) : HI l G yX9_oldestOf (Cond.code yX9_oldestOf cX9_oldestOf 4 (some .int) :: gT) { frames := 1, cells := 0, slots := 0, locals := 21 } .int [.ref (ad 0), .int x1] (bV G ad va) r (bV G ad va) := by
  refine HI.mk (lv := [(0, .ref (ad 0)), (1, .int x1)]) OK (by decide) (Nat.le_of_ble_eq_true rfl) rfl ?_
  intro p e s0 m args below meth c ls XX hr I hl
  have hx := XX.x
  have hb := XX.b
  have C4 : ∀ n : Nat, ∀ (v1 : Int32) (v2 : Int32) (v3 : Int32), f_V_oldestOf_L4 fu n va v1 v2 v3 = some r → ∀ (H : Heap) (locs : List Loc), Iv G (va_A (bV G ad va) s0.heap.size) s0 H locs (bV G ad va) → ∀ ls, lv_has ls 4 [(0, .ref (ad 0)), (1, .int v1), (2, .int v2), (3, .int v3)] → W p l e { frames := 1, cells := 0, slots := 0, locals := 21 } s0 m args below meth c H locs 0 0 (QI G below .int r (bV G ad va) (bV G ad va) args s0) (F0 m 4 ls []) := by
    intro n
    induction n with
    | zero => intro v1 v2 v3 h; exact absurd h (fun q => by cases q)
    | succ n ih =>
      intro v1 v2 v3 h H locs I ls hl
      rw [f_V_oldestOf_L4] at h
      refine lv_iload_n hx hb dX9_oldestOf_4 rfl (lv_at hl 3 rfl) ?_
      refine lv_aload_n hx hb dX9_oldestOf_5 rfl (lv_at hl 0 rfl) ?_
      refine gV_X9_o0_people XX I dX9_oldestOf_6 ?_
      refine lv_icmp_ge (tgt := 48) hx hb dX9_oldestOf_9 (by decide) (fun c1 => ?_) (fun c1 => ?_)
      · replace h := if_t h c1
        refine lv_iload_n hx hb dX9_oldestOf_48 rfl (lv_at hl 2 rfl) ?_
        refine lv_iconst (v := 0) hx hb dX9_oldestOf_49 (by decide) ?_
        refine r_max XX hl.1 wd_603 (Nat.le_of_ble_eq_true rfl) (Nat.le_of_ble_eq_true rfl) (Nat.zero_le _) (Nat.zero_le _) dX9_oldestOf_50 ?_
        obtain rfl := some1 h
        exact e_i rfl XX hr I rfl dX9_oldestOf_53
      · replace h := if_f h c1
        refine lv_iload_n hx hb dX9_oldestOf_12 rfl (lv_at hl 1 rfl) ?_
        refine lv_iload_n hx hb dX9_oldestOf_13 rfl (lv_at hl 3 rfl) ?_
        refine lv_iushr hx hb dX9_oldestOf_14 rfl ?_
        refine lv_iconst (v := 1) hx hb dX9_oldestOf_15 (by decide) ?_
        refine lv_iand hx hb dX9_oldestOf_16 ?_
        refine lv_iconst (v := 1) hx hb dX9_oldestOf_17 (by decide) ?_
        refine lv_icmp_ne (tgt := 42) hx hb dX9_oldestOf_18 (by decide) (fun c1 => ?_) (fun c1 => ?_)
        · replace h := if_f h c1
          obtain ⟨y1, ey1⟩ : ∃ z : Int32, z = v3 + (1 : Int32) := ⟨_, rfl⟩
          replace h := lt_e h ey1
          refine lv_iinc (v := y1) (lv' := [(3, .int y1), (0, .ref (ad 0)), (1, .int v1), (2, .int v2)]) hx hb dX9_oldestOf_42 hl (k := 3) rfl (by rw [ey1]; rfl) (by decide) rfl (fun ls hl => ?_)
          refine lv_goto (tgt := 4) hx hb dX9_oldestOf_45 (by decide) ?_
          exact ih _ _ _ h _ _ I ls (lv_sub hl [1, 2, 3, 0] rfl)
        · replace h := if_t h c1
          refine lv_iload_n hx hb dX9_oldestOf_21 rfl (lv_at hl 2 rfl) ?_
          refine lv_if_lt (tgt := 40) hx hb dX9_oldestOf_22 (by decide) (fun c1 => ?_) (fun c1 => ?_)
          · replace h := if_t h c1
            refine lv_iload_n hx hb dX9_oldestOf_40 rfl (lv_at hl 3 rfl) ?_
            refine lv_istore_n (lv' := [(2, .int v3), (0, .ref (ad 0)), (1, .int v1), (3, .int v3)]) hx hb dX9_oldestOf_41 rfl hl (by decide) rfl (fun ls hl => ?_)
            obtain ⟨y2, ey2⟩ : ∃ z : Int32, z = v3 + (1 : Int32) := ⟨_, rfl⟩
            replace h := lt_e h ey2
            refine lv_iinc (v := y2) (lv' := [(3, .int y2), (2, .int v3), (0, .ref (ad 0)), (1, .int v1)]) hx hb dX9_oldestOf_42 hl (k := 3) rfl (by rw [ey2]; rfl) (by decide) rfl (fun ls hl => ?_)
            refine lv_goto (tgt := 4) hx hb dX9_oldestOf_45 (by decide) ?_
            exact ih _ _ _ h _ _ I ls (lv_sub hl [2, 3, 1, 0] rfl)
          · replace h := if_f h c1
            refine lv_aload_n hx hb dX9_oldestOf_25 rfl (lv_at hl 0 rfl) ?_
            refine gV_X9_o0_age XX I dX9_oldestOf_26 ?_
            refine lv_iload_n hx hb dX9_oldestOf_29 rfl (lv_at hl 3 rfl) ?_
            obtain ⟨g3, h⟩ := gd_some h
            refine r_iald XX I 3 (aV_age0) g3 dX9_oldestOf_30 ?_
            refine lv_aload_n hx hb dX9_oldestOf_31 rfl (lv_at hl 0 rfl) ?_
            refine gV_X9_o0_age XX I dX9_oldestOf_32 ?_
            refine lv_iload_n hx hb dX9_oldestOf_35 rfl (lv_at hl 2 rfl) ?_
            obtain ⟨g4, h⟩ := gd_some h
            refine r_iald XX I 3 (aV_age0) g4 dX9_oldestOf_36 ?_
            refine lv_icmp_le (tgt := 42) hx hb dX9_oldestOf_37 (by decide) (fun c1 => ?_) (fun c1 => ?_)
            · replace h := if_t h c1
              obtain ⟨y5, ey5⟩ : ∃ z : Int32, z = v3 + (1 : Int32) := ⟨_, rfl⟩
              replace h := lt_e h ey5
              refine lv_iinc (v := y5) (lv' := [(3, .int y5), (0, .ref (ad 0)), (1, .int v1), (2, .int v2)]) hx hb dX9_oldestOf_42 hl (k := 3) rfl (by rw [ey5]; rfl) (by decide) rfl (fun ls hl => ?_)
              refine lv_goto (tgt := 4) hx hb dX9_oldestOf_45 (by decide) ?_
              exact ih _ _ _ h _ _ I ls (lv_sub hl [1, 2, 3, 0] rfl)
            · replace h := if_f h c1
              refine lv_iload_n hx hb dX9_oldestOf_40 rfl (lv_at hl 3 rfl) ?_
              refine lv_istore_n (lv' := [(2, .int v3), (0, .ref (ad 0)), (1, .int v1), (3, .int v3)]) hx hb dX9_oldestOf_41 rfl hl (by decide) rfl (fun ls hl => ?_)
              obtain ⟨y6, ey6⟩ : ∃ z : Int32, z = v3 + (1 : Int32) := ⟨_, rfl⟩
              replace h := lt_e h ey6
              refine lv_iinc (v := y6) (lv' := [(3, .int y6), (2, .int v3), (0, .ref (ad 0)), (1, .int v1)]) hx hb dX9_oldestOf_42 hl (k := 3) rfl (by rw [ey6]; rfl) (by decide) rfl (fun ls hl => ?_)
              refine lv_goto (tgt := 4) hx hb dX9_oldestOf_45 (by decide) ?_
              exact ih _ _ _ h _ _ I ls (lv_sub hl [2, 3, 1, 0] rfl)
  unfold f_V_oldestOf at h
  refine lv_iconst (v := (-1)) hx hb dX9_oldestOf_0 (by decide) ?_
  refine lv_istore_n (lv' := [(2, .int ((-1) : Int32)), (0, .ref (ad 0)), (1, .int x1)]) hx hb dX9_oldestOf_1 rfl hl (by decide) rfl (fun ls hl => ?_)
  refine lv_iconst (v := 0) hx hb dX9_oldestOf_2 (by decide) ?_
  refine lv_istore_n (lv' := [(3, .int (0 : Int32)), (2, .int ((-1) : Int32)), (0, .ref (ad 0)), (1, .int x1)]) hx hb dX9_oldestOf_3 rfl hl (by decide) rfl (fun ls hl => ?_)
  exact C4 fu _ _ _ h _ _ I ls (lv_sub hl [2, 3, 1, 0] rfl)
