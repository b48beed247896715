set_option maxHeartbeats 4000000 in
set_option maxRecDepth 100000 in
theorem c_M_harm (l : Launch) (G : g_G) (OK : EOk G.2.2) (ad : Nat → Nat) (fu : Nat) (sa : g_St) (x1 : Int32) (r : Int32) (ts : g_St) (h : f_M_harm fu sa x1 = some (r, ts)) : HI l G yX12_harm (Cond.code yX12_harm cX12_harm 11 (some .int) :: gT) { frames := 7, cells := 0, slots := 0, locals := 184 } .int [.ref (ad 0), .int x1] (wM G ad sa) r (wM G ad ts) := by
  refine HI.mk (lv := [(0, .ref (ad 0)), (1, .int x1)]) OK (by decide) (Nat.le_of_ble_eq_true rfl) rfl ?_
  intro p e s0 m args below meth c ls XX hr I hl
  have hx := XX.x
  have hb := XX.b
  have C97 : ∀ (k34 : g_St → Int32 → Int32 → Int32 → Int32 → Int64 → Int32 → Option (Int32 × g_St)), (∀ (s : g_St) (v1 : Int32) (v2 : Int32) (v3 : Int32) (v4 : Int32) (v5 : Int64) (v7 : Int32), k34 s v1 v2 v3 v4 v5 v7 = some (r, ts) → ∀ (H : Heap) (locs : List Loc), Iv G (va_A (wM G ad sa) s0.heap.size) s0 H locs (wM G ad s) → ∀ ls, lv_has ls 11 [(0, .ref (ad 0)), (1, .int v1), (2, .int v2), (3, .int v3), (4, .int v4), (5, .long v5), (7, .int v7)] → W p l e { frames := 7, cells := 0, slots := 0, locals := 184 } s0 m args below meth c H locs 0 0 (QI G below .int r (wM G ad sa) (wM G ad ts) args s0) (F0 m 34 ls [])) → ∀ (k43 : g_St → Int32 → Int32 → Int32 → Int32 → Int64 → Int32 → Int32 → Option (Int32 × g_St)), (∀ (s : g_St) (v1 : Int32) (v2 : Int32) (v3 : Int32) (v4 : Int32) (v5 : Int64) (v7 : Int32) (v8 : Int32), k43 s v1 v2 v3 v4 v5 v7 v8 = some (r, ts) → ∀ (H : Heap) (locs : List Loc), Iv G (va_A (wM G ad sa) s0.heap.size) s0 H locs (wM G ad s) → ∀ ls, lv_has ls 11 [(0, .ref (ad 0)), (1, .int v1), (2, .int v2), (3, .int v3), (4, .int v4), (5, .long v5), (7, .int v7), (8, .int v8)] → W p l e { frames := 7, cells := 0, slots := 0, locals := 184 } s0 m args below meth c H locs 0 0 (QI G below .int r (wM G ad sa) (wM G ad ts) args s0) (F0 m 43 ls [])) → ∀ (s : g_St) (v1 : Int32) (v2 : Int32) (v3 : Int32) (v7 : Int32) (v8 : Int32) (v9 : Int64), f_M_harm_L97 fu k34 k43 s v1 v2 v3 v7 v8 v9 = some (r, ts) → ∀ (H : Heap) (locs : List Loc), Iv G (va_A (wM G ad sa) s0.heap.size) s0 H locs (wM G ad s) → ∀ ls, lv_has ls 11 [(0, .ref (ad 0)), (1, .int v1), (2, .int v2), (3, .int v3), (7, .int v7), (8, .int v8), (9, .long v9)] → W p l e { frames := 7, cells := 0, slots := 0, locals := 184 } s0 m args below meth c H locs 0 0 (QI G below .int r (wM G ad sa) (wM G ad ts) args s0) (F0 m 97 ls []) := by
    intro k34 hk34 k43 hk43
    intro s v1 v2 v3 v7 v8 v9 h H locs I ls hl
    unfold f_M_harm_L97 at h
    refine lv_lload hx hb dX12_harm_97 (lv_at hl 6 rfl) ?_
    refine lv_lstore (lv' := [(5, .long v9), (0, .ref (ad 0)), (1, .int v1), (2, .int v2), (3, .int v3), (7, .int v7), (8, .int v8), (9, .long v9)]) hx hb dX12_harm_99 hl (by decide) rfl (fun ls hl => ?_)
    refine lv_bipush (v := 10) hx hb dX12_harm_101 (by decide) ?_
    refine lv_iload hx hb dX12_harm_103 (lv_at hl 5 rfl) ?_
    refine lv_imul hx hb dX12_harm_105 ?_
    refine lv_iload hx hb dX12_harm_106 (lv_at hl 6 rfl) ?_
    refine lv_iadd hx hb dX12_harm_108 ?_
    refine lv_topi (fun y17 ey17 => ?_)
    replace h := lt_e h ey17
    refine lv_istore (lv' := [(4, .int y17), (5, .long v9), (0, .ref (ad 0)), (1, .int v1), (2, .int v2), (3, .int v3), (7, .int v7), (8, .int v8), (9, .long v9)]) hx hb dX12_harm_109 hl (by decide) rfl (fun ls hl => ?_)
    obtain ⟨y18, ey18⟩ : ∃ z : Int32, z = v8 + (1 : Int32) := ⟨_, rfl⟩
    replace h := lt_e h ey18
    refine lv_iinc (v := y18) (lv' := [(8, .int y18), (4, .int y17), (5, .long v9), (0, .ref (ad 0)), (1, .int v1), (2, .int v2), (3, .int v3), (7, .int v7), (9, .long v9)]) hx hb dX12_harm_111 hl (k := 7) rfl (by rw [ey18]; rfl) (by decide) rfl (fun ls hl => ?_)
    refine lv_goto (tgt := 43) hx hb dX12_harm_114 (by decide) ?_
    exact hk43 _ _ _ _ _ _ _ _ h _ _ I ls (lv_sub hl [3, 4, 5, 6, 1, 2, 7, 0] rfl)
  have C82 : ∀ (k34 : g_St → Int32 → Int32 → Int32 → Int32 → Int64 → Int32 → Option (Int32 × g_St)), (∀ (s : g_St) (v1 : Int32) (v2 : Int32) (v3 : Int32) (v4 : Int32) (v5 : Int64) (v7 : Int32), k34 s v1 v2 v3 v4 v5 v7 = some (r, ts) → ∀ (H : Heap) (locs : List Loc), Iv G (va_A (wM G ad sa) s0.heap.size) s0 H locs (wM G ad s) → ∀ ls, lv_has ls 11 [(0, .ref (ad 0)), (1, .int v1), (2, .int v2), (3, .int v3), (4, .int v4), (5, .long v5), (7, .int v7)] → W p l e { frames := 7, cells := 0, slots := 0, locals := 184 } s0 m args below meth c H locs 0 0 (QI G below .int r (wM G ad sa) (wM G ad ts) args s0) (F0 m 34 ls [])) → ∀ (k43 : g_St → Int32 → Int32 → Int32 → Int32 → Int64 → Int32 → Int32 → Option (Int32 × g_St)), (∀ (s : g_St) (v1 : Int32) (v2 : Int32) (v3 : Int32) (v4 : Int32) (v5 : Int64) (v7 : Int32) (v8 : Int32), k43 s v1 v2 v3 v4 v5 v7 v8 = some (r, ts) → ∀ (H : Heap) (locs : List Loc), Iv G (va_A (wM G ad sa) s0.heap.size) s0 H locs (wM G ad s) → ∀ ls, lv_has ls 11 [(0, .ref (ad 0)), (1, .int v1), (2, .int v2), (3, .int v3), (4, .int v4), (5, .long v5), (7, .int v7), (8, .int v8)] → W p l e { frames := 7, cells := 0, slots := 0, locals := 184 } s0 m args below meth c H locs 0 0 (QI G below .int r (wM G ad sa) (wM G ad ts) args s0) (F0 m 43 ls [])) → ∀ (s : g_St) (v1 : Int32) (v2 : Int32) (v3 : Int32) (v4 : Int32) (v5 : Int64) (v7 : Int32) (v8 : Int32) (z0 : Int64), f_M_harm_L82 fu k34 k43 s v1 v2 v3 v4 v5 v7 v8 z0 = some (r, ts) → ∀ (H : Heap) (locs : List Loc), Iv G (va_A (wM G ad sa) s0.heap.size) s0 H locs (wM G ad s) → ∀ ls, lv_has ls 11 [(0, .ref (ad 0)), (1, .int v1), (2, .int v2), (3, .int v3), (4, .int v4), (5, .long v5), (7, .int v7), (8, .int v8)] → W p l e { frames := 7, cells := 0, slots := 0, locals := 184 } s0 m args below meth c H locs 0 0 (QI G below .int r (wM G ad sa) (wM G ad ts) args s0) (F0 m 82 ls [.long z0]) := by
    intro k34 hk34 k43 hk43
    intro s v1 v2 v3 v4 v5 v7 v8 z0 h H locs I ls hl
    unfold f_M_harm_L82 at h
    refine lv_lstore (lv' := [(9, .long z0), (0, .ref (ad 0)), (1, .int v1), (2, .int v2), (3, .int v3), (4, .int v4), (5, .long v5), (7, .int v7), (8, .int v8)]) hx hb dX12_harm_82 hl (by decide) rfl (fun ls hl => ?_)
    refine lv_iload hx hb dX12_harm_84 (lv_at hl 5 rfl) ?_
    refine lv_if_eq (tgt := 97) hx hb dX12_harm_86 (by decide) (fun c1 => ?_) (fun c1 => ?_)
    · replace h := if_t h c1
      exact C97 k34 hk34 k43 hk43 _ _ _ _ _ _ _ h _ _ I ls (lv_sub hl [1, 2, 3, 4, 7, 8, 0] rfl)
    · replace h := if_f h c1
      refine lv_lload hx hb dX12_harm_89 (lv_at hl 0 rfl) ?_
      refine lv_lload hx hb dX12_harm_91 (lv_at hl 6 rfl) ?_
      refine W.lcmp hx hb dX12_harm_93 ?_
      refine lv_if_le (tgt := 111) hx hb dX12_harm_94 (by decide) (fun c1 => ?_) (fun c1 => ?_)
      · replace h := if_t h c1
        obtain ⟨y16, ey16⟩ : ∃ z : Int32, z = v8 + (1 : Int32) := ⟨_, rfl⟩
        replace h := lt_e h ey16
        refine lv_iinc (v := y16) (lv' := [(8, .int y16), (9, .long z0), (0, .ref (ad 0)), (1, .int v1), (2, .int v2), (3, .int v3), (4, .int v4), (5, .long v5), (7, .int v7)]) hx hb dX12_harm_111 hl (k := 8) rfl (by rw [ey16]; rfl) (by decide) rfl (fun ls hl => ?_)
        refine lv_goto (tgt := 43) hx hb dX12_harm_114 (by decide) ?_
        exact hk43 _ _ _ _ _ _ _ _ h _ _ I ls (lv_sub hl [2, 3, 4, 5, 6, 7, 8, 0] rfl)
      · replace h := if_f h c1
        exact C97 k34 hk34 k43 hk43 _ _ _ _ _ _ _ h _ _ I ls (lv_sub hl [1, 2, 3, 4, 7, 8, 0] rfl)
  have C43 : ∀ (k34 : g_St → Int32 → Int32 → Int32 → Int32 → Int64 → Int32 → Option (Int32 × g_St)), (∀ (s : g_St) (v1 : Int32) (v2 : Int32) (v3 : Int32) (v4 : Int32) (v5 : Int64) (v7 : Int32), k34 s v1 v2 v3 v4 v5 v7 = some (r, ts) → ∀ (H : Heap) (locs : List Loc), Iv G (va_A (wM G ad sa) s0.heap.size) s0 H locs (wM G ad s) → ∀ ls, lv_has ls 11 [(0, .ref (ad 0)), (1, .int v1), (2, .int v2), (3, .int v3), (4, .int v4), (5, .long v5), (7, .int v7)] → W p l e { frames := 7, cells := 0, slots := 0, locals := 184 } s0 m args below meth c H locs 0 0 (QI G below .int r (wM G ad sa) (wM G ad ts) args s0) (F0 m 34 ls [])) → ∀ n : Nat, ∀ (s : g_St) (v1 : Int32) (v2 : Int32) (v3 : Int32) (v4 : Int32) (v5 : Int64) (v7 : Int32) (v8 : Int32), f_M_harm_L43 fu k34 n s v1 v2 v3 v4 v5 v7 v8 = some (r, ts) → ∀ (H : Heap) (locs : List Loc), Iv G (va_A (wM G ad sa) s0.heap.size) s0 H locs (wM G ad s) → ∀ ls, lv_has ls 11 [(0, .ref (ad 0)), (1, .int v1), (2, .int v2), (3, .int v3), (4, .int v4), (5, .long v5), (7, .int v7), (8, .int v8)] → W p l e { frames := 7, cells := 0, slots := 0, locals := 184 } s0 m args below meth c H locs 0 0 (QI G below .int r (wM G ad sa) (wM G ad ts) args s0) (F0 m 43 ls []) := by
    intro k34 hk34 n
    induction n with
    | zero => intro s v1 v2 v3 v4 v5 v7 v8 h; exact absurd h (fun q => by cases q)
    | succ n ih =>
      intro s v1 v2 v3 v4 v5 v7 v8 h H locs I ls hl
      rw [f_M_harm_L43] at h
      refine lv_iload hx hb dX12_harm_43 (lv_at hl 7 rfl) ?_
      refine lv_iconst (v := 4) hx hb dX12_harm_45 (by decide) ?_
      refine lv_icmp_ge (tgt := 117) hx hb dX12_harm_46 (by decide) (fun c1 => ?_) (fun c1 => ?_)
      · replace h := if_t h c1
        obtain ⟨y6, ey6⟩ : ∃ z : Int32, z = v7 + (1 : Int32) := ⟨_, rfl⟩
        replace h := lt_e h ey6
        refine lv_iinc (v := y6) (lv' := [(7, .int y6), (0, .ref (ad 0)), (1, .int v1), (2, .int v2), (3, .int v3), (4, .int v4), (5, .long v5), (8, .int v8)]) hx hb dX12_harm_117 hl (k := 6) rfl (by rw [ey6]; rfl) (by decide) rfl (fun ls hl => ?_)
        refine lv_goto (tgt := 34) hx hb dX12_harm_120 (by decide) ?_
        exact hk34 _ _ _ _ _ _ _ h _ _ I ls (lv_sub hl [1, 2, 3, 4, 5, 6, 0] rfl)
      · replace h := if_f h c1
        refine lv_aload_n hx hb dX12_harm_49 rfl (lv_at hl 0 rfl) ?_
        refine gM_laws XX I dX12_harm_50 ?_
        refine lv_iconst (v := 0) hx hb dX12_harm_53 (by decide) ?_
        refine lv_iload hx hb dX12_harm_54 (lv_at hl 7 rfl) ?_
        refine r_iast XX I 7 (aM_laws) (sM_laws) (by unfold vp_in; decide) dX12_harm_56 (fun H locs I => ?_)
        obtain ⟨s7, es7⟩ : ∃ z, z = sr s 8 (0 : Int32) v8 := ⟨_, rfl⟩
        replace h := lt_e h es7
        replace I : Iv G (va_A (wM G ad sa) s0.heap.size) s0 H locs (wM G ad s7) := by rw [es7]; exact I
        refine lv_aload_n hx hb dX12_harm_57 rfl (lv_at hl 0 rfl) ?_
        refine gM_laws XX I dX12_harm_58 ?_
        refine lv_iconst (v := 1) hx hb dX12_harm_61 (by decide) ?_
        refine lv_iload hx hb dX12_harm_62 (lv_at hl 6 rfl) ?_
        refine r_iast XX I 7 (aM_laws) (sM_laws) (by unfold vp_in; decide) dX12_harm_64 (fun H locs I => ?_)
        obtain ⟨s8, es8⟩ : ∃ z, z = sr s7 8 (1 : Int32) v7 := ⟨_, rfl⟩
        replace h := lt_e h es8
        replace I : Iv G (va_A (wM G ad sa) s0.heap.size) s0 H locs (wM G ad s8) := by rw [es8]; exact I
        refine lv_aload_n hx hb dX12_harm_65 rfl (lv_at hl 0 rfl) ?_
        obtain ⟨r9, q10, h⟩ := bd1_some h
        refine wcall_i (rest := []) XX I hl.1 (c_M_weightsInAll l G OK ad fu s8 r9 q10) kV_X12_281 (Rc.mk XX I (q0 := 0) (ci := 12) wM_o rfl) rfl rfl (Nat.le_of_ble_eq_true rfl) ⟨rfl, rfl, Nat.le_of_ble_eq_true rfl, Nat.le_of_ble_eq_true rfl⟩ ⟨Nat.zero_le _, Nat.zero_le _⟩ dX12_harm_66 (fun H locs hz11 I => ?_)
        refine lv_if_ne (tgt := 76) hx hb dX12_harm_69 (by decide) (fun c1 => ?_) (fun c1 => ?_)
        · replace h := if_f h c1
          refine lv_aload_n hx hb dX12_harm_76 rfl (lv_at hl 0 rfl) ?_
          refine lv_iconst (v := (-1)) hx hb dX12_harm_77 (by decide) ?_
          refine lv_iload_n hx hb dX12_harm_78 rfl (lv_at hl 1 rfl) ?_
          obtain ⟨r12, s13, q14, h⟩ := bd2_some h
          refine wcall_l (rest := []) XX I hl.1 (c_M_valueOf l G OK ad fu s8 ((-1) : Int32) v1 r12 s13 q14) kV_X12_304 (Rc.mk XX I (q0 := 0) (ci := 12) wM_o rfl) rfl rfl (Nat.le_of_ble_eq_true rfl) ⟨rfl, rfl, Nat.le_of_ble_eq_true rfl, Nat.le_of_ble_eq_true rfl⟩ ⟨Nat.zero_le _, Nat.zero_le _⟩ dX12_harm_79 (fun H locs I => ?_)
          exact C82 k34 hk34 (f_M_harm_L43 fu k34 n) ih _ _ _ _ _ _ _ _ _ h _ _ I ls (lv_sub hl [0, 1, 2, 3, 4, 5, 6, 7] rfl)
        · replace h := if_t h c1
          refine lv_lconst (v := 0) hx hb dX12_harm_72 (by decide) ?_
          refine lv_goto (tgt := 82) hx hb dX12_harm_73 (by decide) ?_
          exact C82 k34 hk34 (f_M_harm_L43 fu k34 n) ih _ _ _ _ _ _ _ _ _ h _ _ I ls (lv_sub hl [0, 1, 2, 3, 4, 5, 6, 7] rfl)
  have C34 : ∀ n : Nat, ∀ (s : g_St) (v1 : Int32) (v2 : Int32) (v3 : Int32) (v4 : Int32) (v5 : Int64) (v7 : Int32), f_M_harm_L34 fu n s v1 v2 v3 v4 v5 v7 = some (r, ts) → ∀ (H : Heap) (locs : List Loc), Iv G (va_A (wM G ad sa) s0.heap.size) s0 H locs (wM G ad s) → ∀ ls, lv_has ls 11 [(0, .ref (ad 0)), (1, .int v1), (2, .int v2), (3, .int v3), (4, .int v4), (5, .long v5), (7, .int v7)] → W p l e { frames := 7, cells := 0, slots := 0, locals := 184 } s0 m args below meth c H locs 0 0 (QI G below .int r (wM G ad sa) (wM G ad ts) args s0) (F0 m 34 ls []) := by
    intro n
    induction n with
    | zero => intro s v1 v2 v3 v4 v5 v7 h; exact absurd h (fun q => by cases q)
    | succ n ih =>
      intro s v1 v2 v3 v4 v5 v7 h H locs I ls hl
      rw [f_M_harm_L34] at h
      refine lv_iload hx hb dX12_harm_34 (lv_at hl 6 rfl) ?_
      refine lv_iconst (v := 2) hx hb dX12_harm_36 (by decide) ?_
      refine lv_icmp_ge (tgt := 123) hx hb dX12_harm_37 (by decide) (fun c1 => ?_) (fun c1 => ?_)
      · replace h := if_t h c1
        refine lv_aload_n hx hb dX12_harm_123 rfl (lv_at hl 0 rfl) ?_
        refine gM_laws XX I dX12_harm_124 ?_
        refine lv_iconst (v := 0) hx hb dX12_harm_127 (by decide) ?_
        refine lv_iload_n hx hb dX12_harm_128 rfl (lv_at hl 2 rfl) ?_
        refine r_iast XX I 7 (aM_laws) (sM_laws) (by unfold vp_in; decide) dX12_harm_129 (fun H locs I => ?_)
        obtain ⟨s4, es4⟩ : ∃ z, z = sr s 8 (0 : Int32) v2 := ⟨_, rfl⟩
        replace h := lt_e h es4
        replace I : Iv G (va_A (wM G ad sa) s0.heap.size) s0 H locs (wM G ad s4) := by rw [es4]; exact I
        refine lv_aload_n hx hb dX12_harm_130 rfl (lv_at hl 0 rfl) ?_
        refine gM_laws XX I dX12_harm_131 ?_
        refine lv_iconst (v := 1) hx hb dX12_harm_134 (by decide) ?_
        refine lv_iload_n hx hb dX12_harm_135 rfl (lv_at hl 3 rfl) ?_
        refine r_iast XX I 7 (aM_laws) (sM_laws) (by unfold vp_in; decide) dX12_harm_136 (fun H locs I => ?_)
        obtain ⟨s5, es5⟩ : ∃ z, z = sr s4 8 (1 : Int32) v3 := ⟨_, rfl⟩
        replace h := lt_e h es5
        replace I : Iv G (va_A (wM G ad sa) s0.heap.size) s0 H locs (wM G ad s5) := by rw [es5]; exact I
        refine lv_iload hx hb dX12_harm_137 (lv_at hl 4 rfl) ?_
        obtain ⟨rfl, rfl⟩ := some2 h
        exact e_i rfl XX hr I rfl dX12_harm_139
      · replace h := if_f h c1
        refine lv_iconst (v := 1) hx hb dX12_harm_40 (by decide) ?_
        refine lv_istore (lv' := [(8, .int (1 : Int32)), (0, .ref (ad 0)), (1, .int v1), (2, .int v2), (3, .int v3), (4, .int v4), (5, .long v5), (7, .int v7)]) hx hb dX12_harm_41 hl (by decide) rfl (fun ls hl => ?_)
        exact C43 (f_M_harm_L34 fu n) ih fu _ _ _ _ _ _ _ _ h _ _ I ls (lv_sub hl [1, 2, 3, 4, 5, 6, 7, 0] rfl)
  unfold f_M_harm at h
  refine lv_iload_n hx hb dX12_harm_0 rfl (lv_at hl 1 rfl) ?_
  refine lv_iconst (v := 1) hx hb dX12_harm_1 (by decide) ?_
  refine lv_iconst (v := 2) hx hb dX12_harm_2 (by decide) ?_
  refine scall_i (rest := []) XX I hl.1 (c_S_in l G OK x1 (1 : Int32) (2 : Int32) _ rfl) kS_X12_99 rfl rfl (Nat.le_of_ble_eq_true rfl) ⟨rfl, rfl, Nat.le_of_ble_eq_true rfl, Nat.le_of_ble_eq_true rfl⟩ ⟨Nat.zero_le _, Nat.zero_le _⟩ dX12_harm_3 (fun H locs hz1 I => ?_)
  refine lv_if_ne (tgt := 11) hx hb dX12_harm_6 (by decide) (fun c1 => ?_) (fun c1 => ?_)
  · replace h := if_f h c1
    refine lv_aload_n hx hb dX12_harm_11 rfl (lv_at hl 0 rfl) ?_
    refine gM_laws XX I dX12_harm_12 ?_
    refine lv_iconst (v := 0) hx hb dX12_harm_15 (by decide) ?_
    refine r_iald XX I 7 (aM_laws) (by unfold vp_in; decide) dX12_harm_16 ?_
    refine lv_topi (fun y2 ey2 => ?_)
    replace h := lt_e h ey2
    refine lv_istore_n (lv' := [(2, .int y2), (0, .ref (ad 0)), (1, .int x1)]) hx hb dX12_harm_17 rfl hl (by decide) rfl (fun ls hl => ?_)
    refine lv_aload_n hx hb dX12_harm_18 rfl (lv_at hl 1 rfl) ?_
    refine gM_laws XX I dX12_harm_19 ?_
    refine lv_iconst (v := 1) hx hb dX12_harm_22 (by decide) ?_
    refine r_iald XX I 7 (aM_laws) (by unfold vp_in; decide) dX12_harm_23 ?_
    refine lv_topi (fun y3 ey3 => ?_)
    replace h := lt_e h ey3
    refine lv_istore_n (lv' := [(3, .int y3), (2, .int y2), (0, .ref (ad 0)), (1, .int x1)]) hx hb dX12_harm_24 rfl hl (by decide) rfl (fun ls hl => ?_)
    refine lv_iconst (v := 0) hx hb dX12_harm_25 (by decide) ?_
    refine lv_istore (lv' := [(4, .int (0 : Int32)), (3, .int y3), (2, .int y2), (0, .ref (ad 0)), (1, .int x1)]) hx hb dX12_harm_26 hl (by decide) rfl (fun ls hl => ?_)
    refine lv_lconst (v := 0) hx hb dX12_harm_28 (by decide) ?_
    refine lv_lstore (lv' := [(5, .long (0 : Int64)), (4, .int (0 : Int32)), (3, .int y3), (2, .int y2), (0, .ref (ad 0)), (1, .int x1)]) hx hb dX12_harm_29 hl (by decide) rfl (fun ls hl => ?_)
    refine lv_iconst (v := 0) hx hb dX12_harm_31 (by decide) ?_
    refine lv_istore (lv' := [(7, .int (0 : Int32)), (5, .long (0 : Int64)), (4, .int (0 : Int32)), (3, .int y3), (2, .int y2), (0, .ref (ad 0)), (1, .int x1)]) hx hb dX12_harm_32 hl (by decide) rfl (fun ls hl => ?_)
    exact C34 fu _ _ _ _ _ _ _ h _ _ I ls (lv_sub hl [5, 6, 4, 3, 2, 1, 0] rfl)
  · replace h := if_t h c1
    refine lv_iconst (v := (-1)) hx hb dX12_harm_9 (by decide) ?_
    obtain ⟨rfl, rfl⟩ := some2 h
    exact e_i rfl XX hr I rfl dX12_harm_10
set_option maxHeartbeats 4000000 in
set_option maxRecDepth 100000 in
theorem c_M_findRows (l : Launch) (G : g_G) (OK : EOk G.2.2) (ad : Nat → Nat) (fu : Nat) (sa : g_St) (x1 : Int32) (x2 : Int32) (ts : g_St) (h : f_M_findRows fu sa x1 x2 = some ts) : HV l G yX12_findRows (Cond.code yX12_findRows cX12_findRows 7 none :: gT) { frames := 6, cells := 0, slots := 0, locals := 151 } [.ref (ad 0), .int x1, .int x2] (wM G ad sa) (wM G ad ts) := by
  refine HV.mk (lv := [(0, .ref (ad 0)), (1, .int x1), (2, .int x2)]) OK (by decide) (Nat.le_of_ble_eq_true rfl) rfl ?_
  intro p e s0 m args below meth c ls XX hr I hl
  have hx := XX.x
  have hb := XX.b
  have C39 : ∀ (k8 : g_St → Int32 → Int32 → Int32 → Int32 → Option (g_St)), (∀ (s : g_St) (v1 : Int32) (v2 : Int32) (v3 : Int32) (v4 : Int32), k8 s v1 v2 v3 v4 = some ts → ∀ (H : Heap) (locs : List Loc), Iv G (va_A (wM G ad sa) s0.heap.size) s0 H locs (wM G ad s) → ∀ ls, lv_has ls 7 [(0, .ref (ad 0)), (1, .int v1), (2, .int v2), (3, .int v3), (4, .int v4)] → W p l e { frames := 6, cells := 0, slots := 0, locals := 151 } s0 m args below meth c H locs 0 0 (QV G below (wM G ad sa) (wM G ad ts) args s0) (F0 m 8 ls [])) → ∀ (s : g_St) (v1 : Int32) (v2 : Int32) (v3 : Int32) (v4 : Int32) (v5 : Int32) (z0 : Int32), f_M_findRows_L39 fu k8 s v1 v2 v3 v4 v5 z0 = some ts → ∀ (H : Heap) (locs : List Loc), Iv G (va_A (wM G ad sa) s0.heap.size) s0 H locs (wM G ad s) → ∀ ls, lv_has ls 7 [(0, .ref (ad 0)), (1, .int v1), (2, .int v2), (3, .int v3), (4, .int v4), (5, .int v5)] → W p l e { frames := 6, cells := 0, slots := 0, locals := 151 } s0 m args below meth c H locs 0 0 (QV G below (wM G ad sa) (wM G ad ts) args s0) (F0 m 39 ls [.int z0, .ref (ad 0)]) := by
    intro k8 hk8
    intro s v1 v2 v3 v4 v5 z0 h H locs I ls hl
    unfold f_M_findRows_L39 at h
    refine lv_bipush (v := 7) hx hb dX12_findRows_39 (by decide) ?_
    refine lv_iload hx hb dX12_findRows_41 (lv_at hl 5 rfl) ?_
    obtain ⟨r7, s8, q9, h⟩ := bd2_some h
    refine wcall_i (rest := []) XX I hl.1 (c_M_goes l G OK ad fu s z0 (7 : Int32) v5 r7 s8 q9) kV_X12_274 (Rc.mk XX I (q0 := 0) (ci := 12) wM_o rfl) rfl rfl (Nat.le_of_ble_eq_true rfl) ⟨rfl, rfl, Nat.le_of_ble_eq_true rfl, Nat.le_of_ble_eq_true rfl⟩ ⟨Nat.zero_le _, Nat.zero_le _⟩ dX12_findRows_43 (fun H locs hz10 I => ?_)
    refine lv_istore (lv' := [(6, .int r7), (0, .ref (ad 0)), (1, .int v1), (2, .int v2), (3, .int v3), (4, .int v4), (5, .int v5)]) hx hb dX12_findRows_46 hl (by decide) rfl (fun ls hl => ?_)
    refine lv_aload_n hx hb dX12_findRows_48 rfl (lv_at hl 1 rfl) ?_
    refine gM_must XX I dX12_findRows_49 ?_
    refine lv_iconst (v := 3) hx hb dX12_findRows_52 (by decide) ?_
    refine lv_iload hx hb dX12_findRows_53 (lv_at hl 5 rfl) ?_
    refine lv_imul hx hb dX12_findRows_55 ?_
    refine lv_iload hx hb dX12_findRows_56 (lv_at hl 6 rfl) ?_
    obtain ⟨g11, h⟩ := gd_some h
    refine r_iast XX I 17 (aM_must) (sM_must) g11 dX12_findRows_58 (fun H locs I => ?_)
    obtain ⟨s12, es12⟩ : ∃ z, z = sr s8 35 ((3 : Int32) * v4) v5 := ⟨_, rfl⟩
    replace h := lt_e h es12
    replace I : Iv G (va_A (wM G ad sa) s0.heap.size) s0 H locs (wM G ad s12) := by rw [es12]; exact I
    refine lv_aload_n hx hb dX12_findRows_59 rfl (lv_at hl 1 rfl) ?_
    refine gM_must XX I dX12_findRows_60 ?_
    refine lv_iconst (v := 3) hx hb dX12_findRows_63 (by decide) ?_
    refine lv_iload hx hb dX12_findRows_64 (lv_at hl 5 rfl) ?_
    refine lv_imul hx hb dX12_findRows_66 ?_
    refine lv_iconst (v := 1) hx hb dX12_findRows_67 (by decide) ?_
    refine lv_iadd hx hb dX12_findRows_68 ?_
    refine lv_aload_n hx hb dX12_findRows_69 rfl (lv_at hl 1 rfl) ?_
    refine gM_said XX I dX12_findRows_70 ?_
    refine lv_topi (fun y13 ey13 => ?_)
    replace h := lt_e h ey13
    obtain ⟨g14, h⟩ := gd_some h
    refine r_iast XX I 17 (aM_must) (sM_must) g14 dX12_findRows_73 (fun H locs I => ?_)
    obtain ⟨s15, es15⟩ : ∃ z, z = sr s12 35 (((3 : Int32) * v4) + (1 : Int32)) y13 := ⟨_, rfl⟩
    replace h := lt_e h es15
    replace I : Iv G (va_A (wM G ad sa) s0.heap.size) s0 H locs (wM G ad s15) := by rw [es15]; exact I
    refine lv_aload_n hx hb dX12_findRows_74 rfl (lv_at hl 1 rfl) ?_
    refine gM_must XX I dX12_findRows_75 ?_
    refine lv_iconst (v := 3) hx hb dX12_findRows_78 (by decide) ?_
    refine lv_iload hx hb dX12_findRows_79 (lv_at hl 5 rfl) ?_
    refine lv_imul hx hb dX12_findRows_81 ?_
    refine lv_iconst (v := 2) hx hb dX12_findRows_82 (by decide) ?_
    refine lv_iadd hx hb dX12_findRows_83 ?_
    refine lv_iload hx hb dX12_findRows_84 (lv_at hl 0 rfl) ?_
    refine lv_if_eq (tgt := 93) hx hb dX12_findRows_86 (by decide) (fun c1 => ?_) (fun c1 => ?_)
    · replace h := if_t h c1
      refine lv_iconst (v := 0) hx hb dX12_findRows_93 (by decide) ?_
      obtain ⟨g16, h⟩ := gd_some h
      refine r_iast XX I 17 (aM_must) (sM_must) g16 dX12_findRows_94 (fun H locs I => ?_)
      obtain ⟨s17, es17⟩ : ∃ z, z = sr s15 35 (((3 : Int32) * v4) + (2 : Int32)) (0 : Int32) := ⟨_, rfl⟩
      replace h := lt_e h es17
      replace I : Iv G (va_A (wM G ad sa) s0.heap.size) s0 H locs (wM G ad s17) := by rw [es17]; exact I
      obtain ⟨y18, ey18⟩ : ∃ z : Int32, z = v4 + (1 : Int32) := ⟨_, rfl⟩
      replace h := lt_e h ey18
      refine lv_iinc (v := y18) (lv' := [(4, .int y18), (6, .int r7), (0, .ref (ad 0)), (1, .int v1), (2, .int v2), (3, .int v3), (5, .int v5)]) hx hb dX12_findRows_95 hl (k := 5) rfl (by rw [ey18]; rfl) (by decide) rfl (fun ls hl => ?_)
      refine lv_goto (tgt := 8) hx hb dX12_findRows_98 (by decide) ?_
      exact hk8 _ _ _ _ _ h _ _ I ls (lv_sub hl [2, 3, 4, 5, 0] rfl)
    · replace h := if_f h c1
      refine lv_iconst (v := 1) hx hb dX12_findRows_89 (by decide) ?_
      refine lv_goto (tgt := 94) hx hb dX12_findRows_90 (by decide) ?_
      obtain ⟨g19, h⟩ := gd_some h
      refine r_iast XX I 17 (aM_must) (sM_must) g19 dX12_findRows_94 (fun H locs I => ?_)
      obtain ⟨s20, es20⟩ : ∃ z, z = sr s15 35 (((3 : Int32) * v4) + (2 : Int32)) (1 : Int32) := ⟨_, rfl⟩
      replace h := lt_e h es20
      replace I : Iv G (va_A (wM G ad sa) s0.heap.size) s0 H locs (wM G ad s20) := by rw [es20]; exact I
      obtain ⟨y21, ey21⟩ : ∃ z : Int32, z = v4 + (1 : Int32) := ⟨_, rfl⟩
      replace h := lt_e h ey21
      refine lv_iinc (v := y21) (lv' := [(4, .int y21), (6, .int r7), (0, .ref (ad 0)), (1, .int v1), (2, .int v2), (3, .int v3), (5, .int v5)]) hx hb dX12_findRows_95 hl (k := 5) rfl (by rw [ey21]; rfl) (by decide) rfl (fun ls hl => ?_)
      refine lv_goto (tgt := 8) hx hb dX12_findRows_98 (by decide) ?_
      exact hk8 _ _ _ _ _ h _ _ I ls (lv_sub hl [2, 3, 4, 5, 0] rfl)
  have C8 : ∀ n : Nat, ∀ (s : g_St) (v1 : Int32) (v2 : Int32) (v3 : Int32) (v4 : Int32), f_M_findRows_L8 fu n s v1 v2 v3 v4 = some ts → ∀ (H : Heap) (locs : List Loc), Iv G (va_A (wM G ad sa) s0.heap.size) s0 H locs (wM G ad s) → ∀ ls, lv_has ls 7 [(0, .ref (ad 0)), (1, .int v1), (2, .int v2), (3, .int v3), (4, .int v4)] → W p l e { frames := 6, cells := 0, slots := 0, locals := 151 } s0 m args below meth c H locs 0 0 (QV G below (wM G ad sa) (wM G ad ts) args s0) (F0 m 8 ls []) := by
    intro n
    induction n with
    | zero => intro s v1 v2 v3 v4 h; exact absurd h (fun q => by cases q)
    | succ n ih =>
      intro s v1 v2 v3 v4 h H locs I ls hl
      rw [f_M_findRows_L8] at h
      refine lv_iload hx hb dX12_findRows_8 (lv_at hl 4 rfl) ?_
      refine lv_iload_n hx hb dX12_findRows_10 rfl (lv_at hl 1 rfl) ?_
      refine lv_icmp_ge (tgt := 101) hx hb dX12_findRows_11 (by decide) (fun c1 => ?_) (fun c1 => ?_)
      · replace h := if_t h c1
        obtain rfl := some1 h
        exact e_v XX hr I dX12_findRows_101
      · replace h := if_f h c1
        refine lv_iload_n hx hb dX12_findRows_14 rfl (lv_at hl 3 rfl) ?_
        refine scall_i (rest := []) XX I hl.1 (c_S_next l G OK v3 _ rfl) kS_X12_284 rfl rfl (Nat.le_of_ble_eq_true rfl) ⟨rfl, rfl, Nat.le_of_ble_eq_true rfl, Nat.le_of_ble_eq_true rfl⟩ ⟨Nat.zero_le _, Nat.zero_le _⟩ dX12_findRows_15 (fun H locs hz2 I => ?_)
        refine lv_topi (fun y3 ey3 => ?_)
        replace h := lt_e h ey3
        refine lv_istore_n (lv' := [(3, .int y3), (0, .ref (ad 0)), (1, .int v1), (2, .int v2), (4, .int v4)]) hx hb dX12_findRows_18 rfl hl (by decide) rfl (fun ls hl => ?_)
        refine lv_aload_n hx hb dX12_findRows_19 rfl (lv_at hl 1 rfl) ?_
        refine lv_iload_n hx hb dX12_findRows_20 rfl (lv_at hl 0 rfl) ?_
        refine lv_iload_n hx hb dX12_findRows_21 rfl (lv_at hl 3 rfl) ?_
        obtain ⟨r4, q5, h⟩ := bd1_some h
        refine wcall_i (rest := []) XX I hl.1 (c_M_lotOf l G OK ad fu s y3 v2 r4 q5) kV_X12_287 (Rc.mk XX I (q0 := 0) (ci := 12) wM_o rfl) rfl rfl (Nat.le_of_ble_eq_true rfl) ⟨rfl, rfl, Nat.le_of_ble_eq_true rfl, Nat.le_of_ble_eq_true rfl⟩ ⟨Nat.zero_le _, Nat.zero_le _⟩ dX12_findRows_22 (fun H locs hz6 I => ?_)
        refine lv_istore (lv' := [(5, .int r4), (3, .int y3), (0, .ref (ad 0)), (1, .int v1), (2, .int v2), (4, .int v4)]) hx hb dX12_findRows_25 hl (by decide) rfl (fun ls hl => ?_)
        refine lv_aload_n hx hb dX12_findRows_27 rfl (lv_at hl 2 rfl) ?_
        refine lv_iload hx hb dX12_findRows_28 (lv_at hl 5 rfl) ?_
        refine lv_if_ne (tgt := 37) hx hb dX12_findRows_30 (by decide) (fun c1 => ?_) (fun c1 => ?_)
        · replace h := if_f h c1
          refine lv_bipush (v := 7) hx hb dX12_findRows_37 (by decide) ?_
          exact C39 (f_M_findRows_L8 fu n) ih _ _ _ _ _ _ _ h _ _ I ls (lv_sub hl [2, 3, 4, 1, 5, 0] rfl)
        · replace h := if_t h c1
          refine lv_iconst (v := 0) hx hb dX12_findRows_33 (by decide) ?_
          refine lv_goto (tgt := 39) hx hb dX12_findRows_34 (by decide) ?_
          exact C39 (f_M_findRows_L8 fu n) ih _ _ _ _ _ _ _ h _ _ I ls (lv_sub hl [2, 3, 4, 1, 5, 0] rfl)
  unfold f_M_findRows at h
  refine lv_aload_n hx hb dX12_findRows_0 rfl (lv_at hl 0 rfl) ?_
  refine gM_z XX I dX12_findRows_1 ?_
  refine lv_topi (fun y1 ey1 => ?_)
  replace h := lt_e h ey1
  refine lv_istore_n (lv' := [(3, .int y1), (0, .ref (ad 0)), (1, .int x1), (2, .int x2)]) hx hb dX12_findRows_4 rfl hl (by decide) rfl (fun ls hl => ?_)
  refine lv_iconst (v := 0) hx hb dX12_findRows_5 (by decide) ?_
  refine lv_istore (lv' := [(4, .int (0 : Int32)), (3, .int y1), (0, .ref (ad 0)), (1, .int x1), (2, .int x2)]) hx hb dX12_findRows_6 hl (by decide) rfl (fun ls hl => ?_)
  exact C8 fu _ _ _ _ _ h _ _ I ls (lv_sub hl [2, 3, 4, 1, 0] rfl)
theorem kV_X12_347 : KV RX12 347 RX12 yX12_findRows cX12_findRows 7 none 2 := KV.mk wd_1434 wd_1436 wd_1648 wd_13 wd_1437 (by decide +kernel)
set_option maxHeartbeats 4000000 in
set_option maxRecDepth 100000 in
theorem c_M_prove (l : Launch) (G : g_G) (OK : EOk G.2.2) (ad : Nat → Nat) (fu : Nat) (sa : g_St) (x1 : Int32) (r : Int32) (ts : g_St) (h : f_M_prove fu sa x1 = some (r, ts)) : HI l G yX12_prove (Cond.code yX12_prove cX12_prove 4 (some .int) :: gT) { frames := 7, cells := 0, slots := 0, locals := 177 } .int [.ref (ad 0), .int x1] (wM G ad sa) r (wM G ad ts) := by
  refine HI.mk (lv := [(0, .ref (ad 0)), (1, .int x1)]) OK (by decide) (Nat.le_of_ble_eq_true rfl) rfl ?_
  intro p e s0 m args below meth c ls XX hr I hl
  have hx := XX.x
  have hb := XX.b
  have C37 : ∀ n : Nat, ∀ (s : g_St) (v1 : Int32) (v3 : Int32), f_M_prove_L37 fu n s v1 v3 = some (r, ts) → ∀ (H : Heap) (locs : List Loc), Iv G (va_A (wM G ad sa) s0.heap.size) s0 H locs (wM G ad s) → ∀ ls, lv_has ls 4 [(0, .ref (ad 0)), (1, .int v1), (3, .int v3)] → W p l e { frames := 7, cells := 0, slots := 0, locals := 177 } s0 m args below meth c H locs 0 0 (QI G below .int r (wM G ad sa) (wM G ad ts) args s0) (F0 m 37 ls []) := by
    intro n
    induction n with
    | zero => intro s v1 v3 h; exact absurd h (fun q => by cases q)
    | succ n ih =>
      intro s v1 v3 h H locs I ls hl
      rw [f_M_prove_L37] at h
      refine lv_iload_n hx hb dX12_prove_37 rfl (lv_at hl 2 rfl) ?_
      refine lv_iconst (v := 3) hx hb dX12_prove_38 (by decide) ?_
      refine lv_iload_n hx hb dX12_prove_39 rfl (lv_at hl 1 rfl) ?_
      refine lv_imul hx hb dX12_prove_40 ?_
      refine lv_icmp_ge (tgt := 62) hx hb dX12_prove_41 (by decide) (fun c1 => ?_) (fun c1 => ?_)
      · replace h := if_t h c1
        refine lv_aload_n hx hb dX12_prove_62 rfl (lv_at hl 0 rfl) ?_
        refine gM_rowMany XX I dX12_prove_63 ?_
        obtain ⟨rfl, rfl⟩ := some2 h
        exact e_i rfl XX hr I rfl dX12_prove_66
      · replace h := if_f h c1
        refine lv_aload_n hx hb dX12_prove_44 rfl (lv_at hl 0 rfl) ?_
        refine gM_rows XX I dX12_prove_45 ?_
        refine lv_iload_n hx hb dX12_prove_48 rfl (lv_at hl 2 rfl) ?_
        refine lv_aload_n hx hb dX12_prove_49 rfl (lv_at hl 0 rfl) ?_
        refine gM_must XX I dX12_prove_50 ?_
        refine lv_iload_n hx hb dX12_prove_53 rfl (lv_at hl 2 rfl) ?_
        obtain ⟨g9, h⟩ := gd_some h
        refine r_iald XX I 17 (aM_must) g9 dX12_prove_54 ?_
        refine lv_topi (fun y10 ey10 => ?_)
        replace h := lt_e h ey10
        obtain ⟨g11, h⟩ := gd_some h
        refine r_iast XX I 16 (aM_rows) (sM_rows) g11 dX12_prove_55 (fun H locs I => ?_)
        obtain ⟨s12, es12⟩ : ∃ z, z = sr s 34 v3 y10 := ⟨_, rfl⟩
        replace h := lt_e h es12
        replace I : Iv G (va_A (wM G ad sa) s0.heap.size) s0 H locs (wM G ad s12) := by rw [es12]; exact I
        obtain ⟨y13, ey13⟩ : ∃ z : Int32, z = v3 + (1 : Int32) := ⟨_, rfl⟩
        replace h := lt_e h ey13
        refine lv_iinc (v := y13) (lv' := [(3, .int y13), (0, .ref (ad 0)), (1, .int v1)]) hx hb dX12_prove_56 hl (k := 2) rfl (by rw [ey13]; rfl) (by decide) rfl (fun ls hl => ?_)
        refine lv_goto (tgt := 37) hx hb dX12_prove_59 (by decide) ?_
        exact ih _ _ _ h _ _ I ls (lv_sub hl [1, 2, 0] rfl)
  unfold f_M_prove at h
  refine lv_iload_n hx hb dX12_prove_0 rfl (lv_at hl 1 rfl) ?_
  refine lv_iconst (v := 1) hx hb dX12_prove_1 (by decide) ?_
  refine lv_bipush (v := 12) hx hb dX12_prove_2 (by decide) ?_
  refine scall_i (rest := []) XX I hl.1 (c_S_in l G OK x1 (1 : Int32) (12 : Int32) _ rfl) kS_X12_99 rfl rfl (Nat.le_of_ble_eq_true rfl) ⟨rfl, rfl, Nat.le_of_ble_eq_true rfl, Nat.le_of_ble_eq_true rfl⟩ ⟨Nat.zero_le _, Nat.zero_le _⟩ dX12_prove_4 (fun H locs hz1 I => ?_)
  refine lv_if_ne (tgt := 12) hx hb dX12_prove_7 (by decide) (fun c1 => ?_) (fun c1 => ?_)
  · replace h := if_f h c1
    refine lv_aload_n hx hb dX12_prove_12 rfl (lv_at hl 0 rfl) ?_
    obtain ⟨r2, q3, h⟩ := bd1_some h
    refine wcall_i (rest := []) XX I hl.1 (c_M_weightsInAll l G OK ad fu sa r2 q3) kV_X12_281 (Rc.mk XX I (q0 := 0) (ci := 12) wM_o rfl) rfl rfl (Nat.le_of_ble_eq_true rfl) ⟨rfl, rfl, Nat.le_of_ble_eq_true rfl, Nat.le_of_ble_eq_true rfl⟩ ⟨Nat.zero_le _, Nat.zero_le _⟩ dX12_prove_13 (fun H locs hz4 I => ?_)
    refine lv_istore_n (lv' := [(2, .int r2), (0, .ref (ad 0)), (1, .int x1)]) hx hb dX12_prove_16 rfl hl (by decide) rfl (fun ls hl => ?_)
    refine lv_iload_n hx hb dX12_prove_17 rfl (lv_at hl 0 rfl) ?_
    refine lv_if_ne (tgt := 24) hx hb dX12_prove_18 (by decide) (fun c1 => ?_) (fun c1 => ?_)
    · replace h := if_f h c1
      refine lv_aload_n hx hb dX12_prove_24 rfl (lv_at hl 1 rfl) ?_
      refine lv_iload_n hx hb dX12_prove_25 rfl (lv_at hl 2 rfl) ?_
      refine lv_iload_n hx hb dX12_prove_26 rfl (lv_at hl 0 rfl) ?_
      obtain ⟨s5, q6, h⟩ := bd1_some h
      refine wcall_v (rest := []) XX I hl.1 (c_M_findRows l G OK ad fu sa x1 r2 s5 q6) kV_X12_347 (Rc.mk XX I (q0 := 0) (ci := 12) wM_o rfl) rfl rfl (Nat.le_of_ble_eq_true rfl) ⟨rfl, rfl, Nat.le_of_ble_eq_true rfl, Nat.le_of_ble_eq_true rfl⟩ ⟨Nat.zero_le _, Nat.zero_le _⟩ dX12_prove_27 (fun H locs I => ?_)
      refine lv_aload_n hx hb dX12_prove_30 rfl (lv_at hl 1 rfl) ?_
      refine lv_iload_n hx hb dX12_prove_31 rfl (lv_at hl 2 rfl) ?_
      refine pM_rowMany XX I dX12_prove_32 (fun H locs I => ?_)
      obtain ⟨s8, es8⟩ : ∃ z, z = si s5 36 x1 := ⟨_, rfl⟩
      replace h := lt_e h es8
      replace I : Iv G (va_A (wM G ad sa) s0.heap.size) s0 H locs (wM G ad s8) := by rw [es8]; exact I
      refine lv_iconst (v := 0) hx hb dX12_prove_35 (by decide) ?_
      refine lv_istore_n (lv' := [(3, .int (0 : Int32)), (2, .int r2), (0, .ref (ad 0)), (1, .int x1)]) hx hb dX12_prove_36 rfl hl (by decide) rfl (fun ls hl => ?_)
      exact C37 fu _ _ _ h _ _ I ls (lv_sub hl [2, 3, 0] rfl)
    · replace h := if_t h c1
      refine lv_bipush (v := (-3)) hx hb dX12_prove_21 (by decide) ?_
      obtain ⟨rfl, rfl⟩ := some2 h
      exact e_i rfl XX hr I rfl dX12_prove_23
  · replace h := if_t h c1
    refine lv_iconst (v := (-1)) hx hb dX12_prove_10 (by decide) ?_
    obtain ⟨rfl, rfl⟩ := some2 h
    exact e_i rfl XX hr I rfl dX12_prove_11
set_option maxHeartbeats 4000000 in
set_option maxRecDepth 100000 in
theorem c_M_isRow (l : Launch) (G : g_G) (OK : EOk G.2.2) (ad : Nat → Nat) (sa : g_St) (x1 : Int32) (x2 : Int32) (r : Int32) (h : f_M_isRow sa x1 x2 = r) : HI l G yX12_isRow (Cond.code yX12_isRow cX12_isRow 3 (some .boolean) :: gT) { frames := 1, cells := 0, slots := 0, locals := 22 } .boolean [.ref (ad 0), .int x1, .int x2] (wM G ad sa) r (wM G ad sa) := by
  refine HI.mk (lv := [(0, .ref (ad 0)), (1, .int x1), (2, .int x2)]) OK (by decide) (Nat.le_of_ble_eq_true rfl) rfl ?_
  intro p e s0 m args below meth c ls XX hr I hl
  have hx := XX.x
  have hb := XX.b
  unfold f_M_isRow at h
  refine lv_iload_n hx hb dX12_isRow_0 rfl (lv_at hl 1 rfl) ?_
  refine lv_iconst (v := 0) hx hb dX12_isRow_1 (by decide) ?_
  refine lv_aload_n hx hb dX12_isRow_2 rfl (lv_at hl 0 rfl) ?_
  refine gM_rowMany XX I dX12_isRow_3 ?_
  refine lv_iconst (v := 1) hx hb dX12_isRow_6 (by decide) ?_
  refine lv_isub hx hb dX12_isRow_7 ?_
  refine scall_i (rest := []) XX I hl.1 (c_S_in l G OK x1 (0 : Int32) ((gi sa 36) - (1 : Int32)) _ rfl) kS_X12_99 rfl rfl (Nat.le_of_ble_eq_true rfl) ⟨rfl, rfl, Nat.le_of_ble_eq_true rfl, Nat.le_of_ble_eq_true rfl⟩ ⟨Nat.zero_le _, Nat.zero_le _⟩ dX12_isRow_8 (fun H locs hz1 I => ?_)
  refine lv_if_eq (tgt := 27) hx hb dX12_isRow_11 (by decide) (fun c1 => ?_) (fun c1 => ?_)
  · replace h := if_t h c1
    refine lv_iconst (v := 0) hx hb dX12_isRow_27 (by decide) ?_
    subst h
    exact e_z XX hr I rfl rfl dX12_isRow_28
  · replace h := if_f h c1
    refine lv_iload_n hx hb dX12_isRow_14 rfl (lv_at hl 2 rfl) ?_
    refine lv_iconst (v := 0) hx hb dX12_isRow_15 (by decide) ?_
    refine lv_iconst (v := 2) hx hb dX12_isRow_16 (by decide) ?_
    refine scall_i (rest := []) XX I hl.1 (c_S_in l G OK x2 (0 : Int32) (2 : Int32) _ rfl) kS_X12_99 rfl rfl (Nat.le_of_ble_eq_true rfl) ⟨rfl, rfl, Nat.le_of_ble_eq_true rfl, Nat.le_of_ble_eq_true rfl⟩ ⟨Nat.zero_le _, Nat.zero_le _⟩ dX12_isRow_17 (fun H locs hz2 I => ?_)
    refine lv_if_eq (tgt := 27) hx hb dX12_isRow_20 (by decide) (fun c1 => ?_) (fun c1 => ?_)
    · replace h := if_t h c1
      refine lv_iconst (v := 0) hx hb dX12_isRow_27 (by decide) ?_
      subst h
      exact e_z XX hr I rfl rfl dX12_isRow_28
    · replace h := if_f h c1
      refine lv_iconst (v := 1) hx hb dX12_isRow_23 (by decide) ?_
      refine lv_goto (tgt := 28) hx hb dX12_isRow_24 (by decide) ?_
      subst h
      exact e_z XX hr I rfl rfl dX12_isRow_28
theorem kV_X12_351 : KV RX12 351 RX12 yX12_isRow cX12_isRow 3 (some .boolean) 2 := KV.mk wd_1442 wd_1444 wd_1649 wd_13 wd_1445 (by decide +kernel)
set_option maxHeartbeats 4000000 in
set_option maxRecDepth 100000 in
theorem c_M_row (l : Launch) (G : g_G) (OK : EOk G.2.2) (ad : Nat → Nat) (sa : g_St) (x1 : Int32) (x2 : Int32) (r : Int32) (h : f_M_row sa x1 x2 = some r) : HI l G yX12_row (Cond.code yX12_row cX12_row 3 (some .int) :: gT) { frames := 2, cells := 0, slots := 0, locals := 44 } .int [.ref (ad 0), .int x1, .int x2] (wM G ad sa) r (wM G ad sa) := by
  refine HI.mk (lv := [(0, .ref (ad 0)), (1, .int x1), (2, .int x2)]) OK (by decide) (Nat.le_of_ble_eq_true rfl) rfl ?_
  intro p e s0 m args below meth c ls XX hr I hl
  have hx := XX.x
  have hb := XX.b
  unfold f_M_row at h
  refine lv_aload_n hx hb dX12_row_0 rfl (lv_at hl 0 rfl) ?_
  refine lv_iload_n hx hb dX12_row_1 rfl (lv_at hl 1 rfl) ?_
  refine lv_iload_n hx hb dX12_row_2 rfl (lv_at hl 2 rfl) ?_
  refine wcall_i (rest := []) XX I hl.1 (c_M_isRow l G OK ad sa x1 x2 _ rfl) kV_X12_351 (Rc.mk XX I (q0 := 0) (ci := 12) wM_o rfl) rfl rfl (Nat.le_of_ble_eq_true rfl) ⟨rfl, rfl, Nat.le_of_ble_eq_true rfl, Nat.le_of_ble_eq_true rfl⟩ ⟨Nat.zero_le _, Nat.zero_le _⟩ dX12_row_3 (fun H locs hz1 I => ?_)
  refine lv_if_eq (tgt := 22) hx hb dX12_row_6 (by decide) (fun c1 => ?_) (fun c1 => ?_)
  · replace h := if_t h c1
    refine lv_bipush (v := (-9)) hx hb dX12_row_22 (by decide) ?_
    obtain rfl := some1 h
    exact e_i rfl XX hr I rfl dX12_row_24
  · replace h := if_f h c1
    refine lv_aload_n hx hb dX12_row_9 rfl (lv_at hl 0 rfl) ?_
    refine gM_rows XX I dX12_row_10 ?_
    refine lv_iconst (v := 3) hx hb dX12_row_13 (by decide) ?_
    refine lv_iload_n hx hb dX12_row_14 rfl (lv_at hl 1 rfl) ?_
    refine lv_imul hx hb dX12_row_15 ?_
    refine lv_iload_n hx hb dX12_row_16 rfl (lv_at hl 2 rfl) ?_
    refine lv_iadd hx hb dX12_row_17 ?_
    obtain ⟨g2, h⟩ := gd_some h
    refine r_iald XX I 16 (aM_rows) g2 dX12_row_18 ?_
    refine lv_goto (tgt := 24) hx hb dX12_row_19 (by decide) ?_
    obtain rfl := some1 h
    exact e_i rfl XX hr I rfl dX12_row_24
set_option maxHeartbeats 4000000 in
set_option maxRecDepth 100000 in
theorem c_M_alterRow (l : Launch) (G : g_G) (OK : EOk G.2.2) (ad : Nat → Nat) (sa : g_St) (x1 : Int32) (x2 : Int32) (x3 : Int32) (r : Int32) (ts : g_St) (h : f_M_alterRow sa x1 x2 x3 = some (r, ts)) : HI l G yX12_alterRow (Cond.code yX12_alterRow cX12_alterRow 5 (some .int) :: gT) { frames := 2, cells := 0, slots := 0, locals := 44 } .int [.ref (ad 0), .int x1, .int x2, .int x3] (wM G ad sa) r (wM G ad ts) := by
  refine HI.mk (lv := [(0, .ref (ad 0)), (1, .int x1), (2, .int x2), (3, .int x3)]) OK (by decide) (Nat.le_of_ble_eq_true rfl) rfl ?_
  intro p e s0 m args below meth c ls XX hr I hl
  have hx := XX.x
  have hb := XX.b
  unfold f_M_alterRow at h
  refine lv_aload_n hx hb dX12_alterRow_0 rfl (lv_at hl 0 rfl) ?_
  refine lv_iload_n hx hb dX12_alterRow_1 rfl (lv_at hl 1 rfl) ?_
  refine lv_iload_n hx hb dX12_alterRow_2 rfl (lv_at hl 2 rfl) ?_
  refine wcall_i (rest := []) XX I hl.1 (c_M_isRow l G OK ad sa x1 x2 _ rfl) kV_X12_351 (Rc.mk XX I (q0 := 0) (ci := 12) wM_o rfl) rfl rfl (Nat.le_of_ble_eq_true rfl) ⟨rfl, rfl, Nat.le_of_ble_eq_true rfl, Nat.le_of_ble_eq_true rfl⟩ ⟨Nat.zero_le _, Nat.zero_le _⟩ dX12_alterRow_3 (fun H locs hz1 I => ?_)
  refine lv_if_ne (tgt := 12) hx hb dX12_alterRow_6 (by decide) (fun c1 => ?_) (fun c1 => ?_)
  · replace h := if_f h c1
    refine lv_aload_n hx hb dX12_alterRow_12 rfl (lv_at hl 0 rfl) ?_
    refine gM_rows XX I dX12_alterRow_13 ?_
    refine lv_iconst (v := 3) hx hb dX12_alterRow_16 (by decide) ?_
    refine lv_iload_n hx hb dX12_alterRow_17 rfl (lv_at hl 1 rfl) ?_
    refine lv_imul hx hb dX12_alterRow_18 ?_
    refine lv_iload_n hx hb dX12_alterRow_19 rfl (lv_at hl 2 rfl) ?_
    refine lv_iadd hx hb dX12_alterRow_20 ?_
    obtain ⟨g2, h⟩ := gd_some h
    refine r_iald XX I 16 (aM_rows) g2 dX12_alterRow_21 ?_
    refine lv_topi (fun y3 ey3 => ?_)
    replace h := lt_e h ey3
    refine lv_istore (lv' := [(4, .int y3), (0, .ref (ad 0)), (1, .int x1), (2, .int x2), (3, .int x3)]) hx hb dX12_alterRow_22 hl (by decide) rfl (fun ls hl => ?_)
    refine lv_aload_n hx hb dX12_alterRow_24 rfl (lv_at hl 1 rfl) ?_
    refine gM_rows XX I dX12_alterRow_25 ?_
    refine lv_iconst (v := 3) hx hb dX12_alterRow_28 (by decide) ?_
    refine lv_iload_n hx hb dX12_alterRow_29 rfl (lv_at hl 2 rfl) ?_
    refine lv_imul hx hb dX12_alterRow_30 ?_
    refine lv_iload_n hx hb dX12_alterRow_31 rfl (lv_at hl 3 rfl) ?_
    refine lv_iadd hx hb dX12_alterRow_32 ?_
    refine lv_iload_n hx hb dX12_alterRow_33 rfl (lv_at hl 4 rfl) ?_
    obtain ⟨g4, h⟩ := gd_some h
    refine r_iast XX I 16 (aM_rows) (sM_rows) g4 dX12_alterRow_34 (fun H locs I => ?_)
    obtain ⟨s5, es5⟩ : ∃ z, z = sr sa 34 (((3 : Int32) * x1) + x2) x3 := ⟨_, rfl⟩
    replace h := lt_e h es5
    replace I : Iv G (va_A (wM G ad sa) s0.heap.size) s0 H locs (wM G ad s5) := by rw [es5]; exact I
    refine lv_iload hx hb dX12_alterRow_35 (lv_at hl 0 rfl) ?_
    obtain ⟨rfl, rfl⟩ := some2 h
    exact e_i rfl XX hr I rfl dX12_alterRow_37
  · replace h := if_t h c1
    refine lv_bipush (v := (-9)) hx hb dX12_alterRow_9 (by decide) ?_
    obtain ⟨rfl, rfl⟩ := some2 h
    exact e_i rfl XX hr I rfl dX12_alterRow_11
set_option maxHeartbeats 4000000 in
set_option maxRecDepth 100000 in
theorem c_M_judge (l : Launch) (G : g_G) (OK : EOk G.2.2) (ad : Nat → Nat) (fu : Nat) (sa : g_St) (r : Int32) (ts : g_St) (h : f_M_judge fu sa = some (r, ts)) : HI l G yX12_judge (Cond.code yX12_judge cX12_judge 3 (some .int) :: gT) { frames := 7, cells := 0, slots := 0, locals := 177 } .int [.ref (ad 0)] (wM G ad sa) r (wM G ad ts) := by
  refine HI.mk (lv := [(0, .ref (ad 0))]) OK (by decide) (Nat.le_of_ble_eq_true rfl) rfl ?_
  intro p e s0 m args below meth c ls XX hr I hl
  have hx := XX.x
  have hb := XX.b
  have C23 : ∀ n : Nat, ∀ (s : g_St) (v2 : Int32), f_M_judge_L23 fu n s v2 = some (r, ts) → ∀ (H : Heap) (locs : List Loc), Iv G (va_A (wM G ad sa) s0.heap.size) s0 H locs (wM G ad s) → ∀ ls, lv_has ls 3 [(0, .ref (ad 0)), (2, .int v2)] → W p l e { frames := 7, cells := 0, slots := 0, locals := 177 } s0 m args below meth c H locs 0 0 (QI G below .int r (wM G ad sa) (wM G ad ts) args s0) (F0 m 23 ls []) := by
    intro n
    induction n with
    | zero => intro s v2 h; exact absurd h (fun q => by cases q)
    | succ n ih =>
      intro s v2 h H locs I ls hl
      rw [f_M_judge_L23] at h
      refine lv_iload_n hx hb dX12_judge_23 rfl (lv_at hl 1 rfl) ?_
      refine lv_iconst (v := 3) hx hb dX12_judge_24 (by decide) ?_
      refine lv_aload_n hx hb dX12_judge_25 rfl (lv_at hl 0 rfl) ?_
      refine gM_rowMany XX I dX12_judge_26 ?_
      refine lv_imul hx hb dX12_judge_29 ?_
      refine lv_icmp_ge (tgt := 60) hx hb dX12_judge_30 (by decide) (fun c1 => ?_) (fun c1 => ?_)
      · replace h := if_t h c1
        refine lv_iconst (v := 0) hx hb dX12_judge_60 (by decide) ?_
        obtain ⟨rfl, rfl⟩ := some2 h
        exact e_i rfl XX hr I rfl dX12_judge_61
      · replace h := if_f h c1
        refine lv_aload_n hx hb dX12_judge_33 rfl (lv_at hl 0 rfl) ?_
        refine gM_rows XX I dX12_judge_34 ?_
        refine lv_iload_n hx hb dX12_judge_37 rfl (lv_at hl 1 rfl) ?_
        obtain ⟨g7, h⟩ := gd_some h
        refine r_iald XX I 16 (aM_rows) g7 dX12_judge_38 ?_
        refine lv_aload_n hx hb dX12_judge_39 rfl (lv_at hl 0 rfl) ?_
        refine gM_must XX I dX12_judge_40 ?_
        refine lv_iload_n hx hb dX12_judge_43 rfl (lv_at hl 1 rfl) ?_
        obtain ⟨g8, h⟩ := gd_some h
        refine r_iald XX I 17 (aM_must) g8 dX12_judge_44 ?_
        refine lv_icmp_eq (tgt := 54) hx hb dX12_judge_45 (by decide) (fun c1 => ?_) (fun c1 => ?_)
        · replace h := if_t h c1
          obtain ⟨y9, ey9⟩ : ∃ z : Int32, z = v2 + (1 : Int32) := ⟨_, rfl⟩
          replace h := lt_e h ey9
          refine lv_iinc (v := y9) (lv' := [(2, .int y9), (0, .ref (ad 0))]) hx hb dX12_judge_54 hl (k := 1) rfl (by rw [ey9]; rfl) (by decide) rfl (fun ls hl => ?_)
          refine lv_goto (tgt := 23) hx hb dX12_judge_57 (by decide) ?_
          exact ih _ _ h _ _ I ls (lv_sub hl [1, 0] rfl)
        · replace h := if_f h c1
          refine lv_iload_n hx hb dX12_judge_48 rfl (lv_at hl 1 rfl) ?_
          refine lv_iconst (v := 3) hx hb dX12_judge_49 (by decide) ?_
          refine lv_idiv hx hb dX12_judge_50 (by decide) ?_
          refine lv_iconst (v := 1) hx hb dX12_judge_51 (by decide) ?_
          refine lv_iadd hx hb dX12_judge_52 ?_
          obtain ⟨rfl, rfl⟩ := some2 h
          exact e_i rfl XX hr I rfl dX12_judge_53
  unfold f_M_judge at h
  refine lv_aload_n hx hb dX12_judge_0 rfl (lv_at hl 0 rfl) ?_
  obtain ⟨r1, q2, h⟩ := bd1_some h
  refine wcall_i (rest := []) XX I hl.1 (c_M_weightsInAll l G OK ad fu sa r1 q2) kV_X12_281 (Rc.mk XX I (q0 := 0) (ci := 12) wM_o rfl) rfl rfl (Nat.le_of_ble_eq_true rfl) ⟨rfl, rfl, Nat.le_of_ble_eq_true rfl, Nat.le_of_ble_eq_true rfl⟩ ⟨Nat.zero_le _, Nat.zero_le _⟩ dX12_judge_1 (fun H locs hz3 I => ?_)
  refine lv_istore_n (lv' := [(1, .int r1), (0, .ref (ad 0))]) hx hb dX12_judge_4 rfl hl (by decide) rfl (fun ls hl => ?_)
  refine lv_iload_n hx hb dX12_judge_5 rfl (lv_at hl 0 rfl) ?_
  refine lv_if_ne (tgt := 12) hx hb dX12_judge_6 (by decide) (fun c1 => ?_) (fun c1 => ?_)
  · replace h := if_f h c1
    refine lv_aload_n hx hb dX12_judge_12 rfl (lv_at hl 1 rfl) ?_
    refine lv_aload_n hx hb dX12_judge_13 rfl (lv_at hl 1 rfl) ?_
    refine gM_rowMany XX I dX12_judge_14 ?_
    refine lv_iload_n hx hb dX12_judge_17 rfl (lv_at hl 0 rfl) ?_
    obtain ⟨s4, q5, h⟩ := bd1_some h
    refine wcall_v (rest := []) XX I hl.1 (c_M_findRows l G OK ad fu sa (gi sa 36) r1 s4 q5) kV_X12_347 (Rc.mk XX I (q0 := 0) (ci := 12) wM_o rfl) rfl rfl (Nat.le_of_ble_eq_true rfl) ⟨rfl, rfl, Nat.le_of_ble_eq_true rfl, Nat.le_of_ble_eq_true rfl⟩ ⟨Nat.zero_le _, Nat.zero_le _⟩ dX12_judge_18 (fun H locs I => ?_)
    refine lv_iconst (v := 0) hx hb dX12_judge_21 (by decide) ?_
    refine lv_istore_n (lv' := [(2, .int (0 : Int32)), (1, .int r1), (0, .ref (ad 0))]) hx hb dX12_judge_22 rfl hl (by decide) rfl (fun ls hl => ?_)
    exact C23 fu _ _ h _ _ I ls (lv_sub hl [2, 0] rfl)
  · replace h := if_t h c1
    refine lv_bipush (v := (-3)) hx hb dX12_judge_9 (by decide) ?_
    obtain ⟨rfl, rfl⟩ := some2 h
    exact e_i rfl XX hr I rfl dX12_judge_11
set_option maxHeartbeats 4000000 in
set_option maxRecDepth 100000 in
theorem c_S_isShelf (l : Launch) (G : g_G) (OK : EOk G.2.2) (x0 : Int32) (r : Int32) (h : f_S_isShelf x0 = r) : HI l G yX12_isShelf (Cond.code yX12_isShelf cX12_isShelf 1 (some .boolean) :: gT) { frames := 1, cells := 0, slots := 0, locals := 22 } .boolean [.int x0] [] r [] := by
  refine HI.mk (lv := [(0, .int x0)]) OK (by decide) (Nat.le_of_ble_eq_true rfl) rfl ?_
  intro p e s0 m args below meth c ls XX hr I hl
  have hx := XX.x
  have hb := XX.b
  unfold f_S_isShelf at h
  refine lv_iload_n hx hb dX12_isShelf_0 rfl (lv_at hl 0 rfl) ?_
  refine lv_iconst (v := 0) hx hb dX12_isShelf_1 (by decide) ?_
  refine lv_iconst (v := 3) hx hb dX12_isShelf_2 (by decide) ?_
  refine scall_i (rest := []) XX I hl.1 (c_S_in l G OK x0 (0 : Int32) (3 : Int32) _ rfl) kS_X12_99 rfl rfl (Nat.le_of_ble_eq_true rfl) ⟨rfl, rfl, Nat.le_of_ble_eq_true rfl, Nat.le_of_ble_eq_true rfl⟩ ⟨Nat.zero_le _, Nat.zero_le _⟩ dX12_isShelf_3 (fun H locs hz1 I => ?_)
  subst h
  exact e_z XX hr I hz1 rfl dX12_isShelf_6
set_option maxHeartbeats 4000000 in
set_option maxRecDepth 100000 in
theorem c_M_lacksSort (l : Launch) (G : g_G) (OK : EOk G.2.2) (ad : Nat → Nat) (sa : g_St) (x1 : Int32) (x2 : Int32) (r : Int32) (h : f_M_lacksSort sa x1 x2 = some r) : HI l G yX12_lacksSort (Cond.code yX12_lacksSort cX12_lacksSort 3 (some .int) :: gT) { frames := 0, cells := 0, slots := 0, locals := 0 } .int [.ref (ad 0), .int x1, .int x2] (wM G ad sa) r (wM G ad sa) := by
  refine HI.mk (lv := [(0, .ref (ad 0)), (1, .int x1), (2, .int x2)]) OK (by decide) (Nat.le_of_ble_eq_true rfl) rfl ?_
  intro p e s0 m args below meth c ls XX hr I hl
  have hx := XX.x
  have hb := XX.b
  unfold f_M_lacksSort at h
  refine lv_aload_n hx hb dX12_lacksSort_0 rfl (lv_at hl 0 rfl) ?_
  refine gM_sorts XX I dX12_lacksSort_1 ?_
  refine lv_iload_n hx hb dX12_lacksSort_4 rfl (lv_at hl 1 rfl) ?_
  obtain ⟨g1, h⟩ := gd_some h
  refine r_iald XX I 18 (aM_sorts) g1 dX12_lacksSort_5 ?_
  refine lv_if_ge (tgt := 14) hx hb dX12_lacksSort_6 (by decide) (fun c1 => ?_) (fun c1 => ?_)
  · replace h := if_t h c1
    refine lv_aload_n hx hb dX12_lacksSort_14 rfl (lv_at hl 0 rfl) ?_
    refine gM_sorts XX I dX12_lacksSort_15 ?_
    refine lv_iload_n hx hb dX12_lacksSort_18 rfl (lv_at hl 1 rfl) ?_
    obtain ⟨g2, h⟩ := gd_some h
    refine r_iald XX I 18 (aM_sorts) g2 dX12_lacksSort_19 ?_
    refine lv_iload_n hx hb dX12_lacksSort_20 rfl (lv_at hl 2 rfl) ?_
    refine lv_icmp_eq (tgt := 29) hx hb dX12_lacksSort_21 (by decide) (fun c1 => ?_) (fun c1 => ?_)
    · replace h := if_t h c1
      refine lv_iconst (v := 0) hx hb dX12_lacksSort_29 (by decide) ?_
      obtain rfl := some1 h
      exact e_i rfl XX hr I rfl dX12_lacksSort_30
    · replace h := if_f h c1
      refine lv_bipush (v := (-13)) hx hb dX12_lacksSort_24 (by decide) ?_
      refine lv_goto (tgt := 30) hx hb dX12_lacksSort_26 (by decide) ?_
      obtain rfl := some1 h
      exact e_i rfl XX hr I rfl dX12_lacksSort_30
  · replace h := if_f h c1
    refine lv_bipush (v := (-11)) hx hb dX12_lacksSort_9 (by decide) ?_
    refine lv_goto (tgt := 30) hx hb dX12_lacksSort_11 (by decide) ?_
    obtain rfl := some1 h
    exact e_i rfl XX hr I rfl dX12_lacksSort_30
theorem kS_X12_354 : KS RX12 354 yX12_isShelf cX12_isShelf 1 (some .boolean) 1 := KS.mk wd_1458 wd_1459 wd_13 wd_1460 (by decide +kernel)
theorem kV_X12_357 : KV RX12 357 RX12 yX12_lacksSort cX12_lacksSort 3 (some .int) 2 := KV.mk wd_1461 wd_1463 wd_1650 wd_13 wd_1464 (by decide +kernel)
set_option maxHeartbeats 4000000 in
set_option maxRecDepth 100000 in
theorem c_M_worths (l : Launch) (G : g_G) (OK : EOk G.2.2) (ad : Nat → Nat) (fu : Nat) (sa : g_St) (x1 : Int32) (x2 : Int32) (r : Int32) (ts : g_St) (h : f_M_worths fu sa x1 x2 = some (r, ts)) : HI l G yX12_worths (Cond.code yX12_worths cX12_worths 8 (some .int) :: gT) { frames := 2, cells := 0, slots := 0, locals := 43 } .int [.ref (ad 0), .int x1, .int x2] (wM G ad sa) r (wM G ad ts) := by
  refine HI.mk (lv := [(0, .ref (ad 0)), (1, .int x1), (2, .int x2)]) OK (by decide) (Nat.le_of_ble_eq_true rfl) rfl ?_
  intro p e s0 m args below meth c ls XX hr I hl
  have hx := XX.x
  have hb := XX.b
  have C61 : ∀ n : Nat, ∀ (s : g_St) (v1 : Int32) (v2 : Int32) (v4 : Int32) (v5 : Int32), f_M_worths_L61 fu n s v1 v2 v4 v5 = some (r, ts) → ∀ (H : Heap) (locs : List Loc), Iv G (va_A (wM G ad sa) s0.heap.size) s0 H locs (wM G ad s) → ∀ ls, lv_has ls 8 [(0, .ref (ad 0)), (1, .int v1), (2, .int v2), (4, .int v4), (5, .int v5)] → W p l e { frames := 2, cells := 0, slots := 0, locals := 43 } s0 m args below meth c H locs 0 0 (QI G below .int r (wM G ad sa) (wM G ad ts) args s0) (F0 m 61 ls []) := by
    intro n
    induction n with
    | zero => intro s v1 v2 v4 v5 h; exact absurd h (fun q => by cases q)
    | succ n ih =>
      intro s v1 v2 v4 v5 h H locs I ls hl
      rw [f_M_worths_L61] at h
      refine lv_iload hx hb dX12_worths_61 (lv_at hl 4 rfl) ?_
      refine lv_iload hx hb dX12_worths_63 (lv_at hl 3 rfl) ?_
      refine lv_icmp_ge (tgt := 131) hx hb dX12_worths_65 (by decide) (fun c1 => ?_) (fun c1 => ?_)
      · replace h := if_t h c1
        refine lv_iload hx hb dX12_worths_131 (lv_at hl 3 rfl) ?_
        obtain ⟨rfl, rfl⟩ := some2 h
        exact e_i rfl XX hr I rfl dX12_worths_133
      · replace h := if_f h c1
        refine lv_aload_n hx hb dX12_worths_68 rfl (lv_at hl 0 rfl) ?_
        refine gM_sheets XX I dX12_worths_69 ?_
        refine lv_bipush (v := 40) hx hb dX12_worths_72 (by decide) ?_
        refine lv_iload_n hx hb dX12_worths_74 rfl (lv_at hl 2 rfl) ?_
        refine lv_imul hx hb dX12_worths_75 ?_
        refine lv_iload hx hb dX12_worths_76 (lv_at hl 4 rfl) ?_
        refine lv_iadd hx hb dX12_worths_78 ?_
        obtain ⟨g10, h⟩ := gd_some h
        refine r_lald XX I 20 (aM_sheets) g10 dX12_worths_79 ?_
        refine lv_topl (fun y11 ey11 => ?_)
        replace h := lt_e h ey11
        refine lv_lstore (lv' := [(6, .long y11), (0, .ref (ad 0)), (1, .int v1), (2, .int v2), (4, .int v4), (5, .int v5)]) hx hb dX12_worths_80 hl (by decide) rfl (fun ls hl => ?_)
        refine lv_aload_n hx hb dX12_worths_82 rfl (lv_at hl 1 rfl) ?_
        refine gM_worth XX I dX12_worths_83 ?_
        refine lv_bipush (v := 6) hx hb dX12_worths_86 (by decide) ?_
        refine lv_iload_n hx hb dX12_worths_88 rfl (lv_at hl 2 rfl) ?_
        refine lv_imul hx hb dX12_worths_89 ?_
        refine lv_iload hx hb dX12_worths_90 (lv_at hl 5 rfl) ?_
        refine lv_iadd hx hb dX12_worths_92 ?_
        refine lv_lload hx hb dX12_worths_93 (lv_at hl 0 rfl) ?_
        refine lv_ldc2 (v := (-9)) hx hb XX.o (XX.t _ wd_1465) dX12_worths_95 ?_
        refine W.lcmp hx hb dX12_worths_98 ?_
        refine lv_if_ge (tgt := 107) hx hb dX12_worths_99 (by decide) (fun c1 => ?_) (fun c1 => ?_)
        · replace h := if_t h c1
          refine lv_lload hx hb dX12_worths_107 (lv_at hl 0 rfl) ?_
          refine lv_ldc2 (v := 9) hx hb XX.o (XX.t _ wd_1466) dX12_worths_109 ?_
          refine W.lcmp hx hb dX12_worths_112 ?_
          refine lv_if_le (tgt := 121) hx hb dX12_worths_113 (by decide) (fun c1 => ?_) (fun c1 => ?_)
          · replace h := if_t h c1
            refine lv_lload hx hb dX12_worths_121 (lv_at hl 0 rfl) ?_
            refine lv_l2i hx hb dX12_worths_123 rfl ?_
            refine lv_topi (fun y12 ey12 => ?_)
            replace h := lt_e h ey12
            obtain ⟨g13, h⟩ := gd_some h
            refine r_iast XX I 6 (aM_worth) (sM_worth) g13 dX12_worths_124 (fun H locs I => ?_)
            obtain ⟨s14, es14⟩ : ∃ z, z = sr s 7 (((6 : Int32) * v1) + v5) y12 := ⟨_, rfl⟩
            replace h := lt_e h es14
            replace I : Iv G (va_A (wM G ad sa) s0.heap.size) s0 H locs (wM G ad s14) := by rw [es14]; exact I
            obtain ⟨y15, ey15⟩ : ∃ z : Int32, z = v5 + (1 : Int32) := ⟨_, rfl⟩
            replace h := lt_e h ey15
            refine lv_iinc (v := y15) (lv' := [(5, .int y15), (6, .long y11), (0, .ref (ad 0)), (1, .int v1), (2, .int v2), (4, .int v4)]) hx hb dX12_worths_125 hl (k := 5) rfl (by rw [ey15]; rfl) (by decide) rfl (fun ls hl => ?_)
            refine lv_goto (tgt := 61) hx hb dX12_worths_128 (by decide) ?_
            exact ih _ _ _ _ _ h _ _ I ls (lv_sub hl [2, 3, 4, 5, 0] rfl)
          · replace h := if_f h c1
            refine lv_bipush (v := 9) hx hb dX12_worths_116 (by decide) ?_
            refine lv_goto (tgt := 124) hx hb dX12_worths_118 (by decide) ?_
            obtain ⟨g16, h⟩ := gd_some h
            refine r_iast XX I 6 (aM_worth) (sM_worth) g16 dX12_worths_124 (fun H locs I => ?_)
            obtain ⟨s17, es17⟩ : ∃ z, z = sr s 7 (((6 : Int32) * v1) + v5) (9 : Int32) := ⟨_, rfl⟩
            replace h := lt_e h es17
            replace I : Iv G (va_A (wM G ad sa) s0.heap.size) s0 H locs (wM G ad s17) := by rw [es17]; exact I
            obtain ⟨y18, ey18⟩ : ∃ z : Int32, z = v5 + (1 : Int32) := ⟨_, rfl⟩
            replace h := lt_e h ey18
            refine lv_iinc (v := y18) (lv' := [(5, .int y18), (6, .long y11), (0, .ref (ad 0)), (1, .int v1), (2, .int v2), (4, .int v4)]) hx hb dX12_worths_125 hl (k := 5) rfl (by rw [ey18]; rfl) (by decide) rfl (fun ls hl => ?_)
            refine lv_goto (tgt := 61) hx hb dX12_worths_128 (by decide) ?_
            exact ih _ _ _ _ _ h _ _ I ls (lv_sub hl [2, 3, 4, 5, 0] rfl)
        · replace h := if_f h c1
          refine lv_bipush (v := (-9)) hx hb dX12_worths_102 (by decide) ?_
          refine lv_goto (tgt := 124) hx hb dX12_worths_104 (by decide) ?_
          obtain ⟨g19, h⟩ := gd_some h
          refine r_iast XX I 6 (aM_worth) (sM_worth) g19 dX12_worths_124 (fun H locs I => ?_)
          obtain ⟨s20, es20⟩ : ∃ z, z = sr s 7 (((6 : Int32) * v1) + v5) ((-9) : Int32) := ⟨_, rfl⟩
          replace h := lt_e h es20
          replace I : Iv G (va_A (wM G ad sa) s0.heap.size) s0 H locs (wM G ad s20) := by rw [es20]; exact I
          obtain ⟨y21, ey21⟩ : ∃ z : Int32, z = v5 + (1 : Int32) := ⟨_, rfl⟩
          replace h := lt_e h ey21
          refine lv_iinc (v := y21) (lv' := [(5, .int y21), (6, .long y11), (0, .ref (ad 0)), (1, .int v1), (2, .int v2), (4, .int v4)]) hx hb dX12_worths_125 hl (k := 5) rfl (by rw [ey21]; rfl) (by decide) rfl (fun ls hl => ?_)
          refine lv_goto (tgt := 61) hx hb dX12_worths_128 (by decide) ?_
          exact ih _ _ _ _ _ h _ _ I ls (lv_sub hl [2, 3, 4, 5, 0] rfl)
  unfold f_M_worths at h
  refine lv_aload_n hx hb dX12_worths_0 rfl (lv_at hl 0 rfl) ?_
  refine lv_iload_n hx hb dX12_worths_1 rfl (lv_at hl 1 rfl) ?_
  refine wcall_i (rest := []) XX I hl.1 (c_M_isProposal l G OK ad sa x1 _ rfl) kV_X12_241 (Rc.mk XX I (q0 := 0) (ci := 12) wM_o rfl) rfl rfl (Nat.le_of_ble_eq_true rfl) ⟨rfl, rfl, Nat.le_of_ble_eq_true rfl, Nat.le_of_ble_eq_true rfl⟩ ⟨Nat.zero_le _, Nat.zero_le _⟩ dX12_worths_2 (fun H locs hz1 I => ?_)
  refine lv_if_eq (tgt := 15) hx hb dX12_worths_5 (by decide) (fun c1 => ?_) (fun c1 => ?_)
  · replace h := if_t h c1
    refine lv_iconst (v := (-1)) hx hb dX12_worths_15 (by decide) ?_
    obtain ⟨rfl, rfl⟩ := some2 h
    exact e_i rfl XX hr I rfl dX12_worths_16
  · replace h := if_f h c1
    refine lv_iload_n hx hb dX12_worths_8 rfl (lv_at hl 2 rfl) ?_
    refine scall_i (rest := []) XX I hl.1 (c_S_isShelf l G OK x2 _ rfl) kS_X12_354 rfl rfl (Nat.le_of_ble_eq_true rfl) ⟨rfl, rfl, Nat.le_of_ble_eq_true rfl, Nat.le_of_ble_eq_true rfl⟩ ⟨Nat.zero_le _, Nat.zero_le _⟩ dX12_worths_9 (fun H locs hz2 I => ?_)
    refine lv_if_ne (tgt := 17) hx hb dX12_worths_12 (by decide) (fun c1 => ?_) (fun c1 => ?_)
    · replace h := if_f h c1
      refine lv_aload_n hx hb dX12_worths_17 rfl (lv_at hl 0 rfl) ?_
      refine lv_iload_n hx hb dX12_worths_18 rfl (lv_at hl 2 rfl) ?_
      refine lv_iconst (v := 2) hx hb dX12_worths_19 (by decide) ?_
      obtain ⟨r3, q4, h⟩ := bd1_some h
      refine wcall_i (rest := []) XX I hl.1 (c_M_lacksSort l G OK ad sa x2 (2 : Int32) r3 q4) kV_X12_357 (Rc.mk XX I (q0 := 0) (ci := 12) wM_o rfl) rfl rfl (Nat.le_of_ble_eq_true rfl) ⟨rfl, rfl, Nat.le_of_ble_eq_true rfl, Nat.le_of_ble_eq_true rfl⟩ ⟨Nat.zero_le _, Nat.zero_le _⟩ dX12_worths_20 (fun H locs hz5 I => ?_)
      refine lv_istore_n (lv' := [(3, .int r3), (0, .ref (ad 0)), (1, .int x1), (2, .int x2)]) hx hb dX12_worths_23 rfl hl (by decide) rfl (fun ls hl => ?_)
      refine lv_iload_n hx hb dX12_worths_24 rfl (lv_at hl 0 rfl) ?_
      refine lv_if_eq (tgt := 30) hx hb dX12_worths_25 (by decide) (fun c1 => ?_) (fun c1 => ?_)
      · replace h := if_t h c1
        refine lv_aload_n hx hb dX12_worths_30 rfl (lv_at hl 1 rfl) ?_
        refine gM_sizes XX I dX12_worths_31 ?_
        refine lv_iload_n hx hb dX12_worths_34 rfl (lv_at hl 3 rfl) ?_
        obtain ⟨g6, h⟩ := gd_some h
        refine r_iald XX I 19 (aM_sizes) g6 dX12_worths_35 ?_
        refine lv_aload_n hx hb dX12_worths_36 rfl (lv_at hl 1 rfl) ?_
        refine gM_people XX I dX12_worths_37 ?_
        refine lv_icmp_ge (tgt := 52) hx hb dX12_worths_40 (by decide) (fun c1 => ?_) (fun c1 => ?_)
        · replace h := if_t h c1
          refine lv_aload_n hx hb dX12_worths_52 rfl (lv_at hl 1 rfl) ?_
          refine gM_people XX I dX12_worths_53 ?_
          refine lv_topi (fun y7 ey7 => ?_)
          replace h := lt_e h ey7
          refine lv_istore (lv' := [(4, .int y7), (3, .int r3), (0, .ref (ad 0)), (1, .int x1), (2, .int x2)]) hx hb dX12_worths_56 hl (by decide) rfl (fun ls hl => ?_)
          refine lv_iconst (v := 0) hx hb dX12_worths_58 (by decide) ?_
          refine lv_istore (lv' := [(5, .int (0 : Int32)), (4, .int y7), (3, .int r3), (0, .ref (ad 0)), (1, .int x1), (2, .int x2)]) hx hb dX12_worths_59 hl (by decide) rfl (fun ls hl => ?_)
          exact C61 fu _ _ _ _ _ h _ _ I ls (lv_sub hl [3, 4, 5, 1, 0] rfl)
        · replace h := if_f h c1
          refine lv_aload_n hx hb dX12_worths_43 rfl (lv_at hl 1 rfl) ?_
          refine gM_sizes XX I dX12_worths_44 ?_
          refine lv_iload_n hx hb dX12_worths_47 rfl (lv_at hl 3 rfl) ?_
          obtain ⟨g8, h⟩ := gd_some h
          refine r_iald XX I 19 (aM_sizes) g8 dX12_worths_48 ?_
          refine lv_goto (tgt := 56) hx hb dX12_worths_49 (by decide) ?_
          refine lv_topi (fun y9 ey9 => ?_)
          replace h := lt_e h ey9
          refine lv_istore (lv' := [(4, .int y9), (3, .int r3), (0, .ref (ad 0)), (1, .int x1), (2, .int x2)]) hx hb dX12_worths_56 hl (by decide) rfl (fun ls hl => ?_)
          refine lv_iconst (v := 0) hx hb dX12_worths_58 (by decide) ?_
          refine lv_istore (lv' := [(5, .int (0 : Int32)), (4, .int y9), (3, .int r3), (0, .ref (ad 0)), (1, .int x1), (2, .int x2)]) hx hb dX12_worths_59 hl (by decide) rfl (fun ls hl => ?_)
          exact C61 fu _ _ _ _ _ h _ _ I ls (lv_sub hl [3, 4, 5, 1, 0] rfl)
      · replace h := if_f h c1
        refine lv_iload_n hx hb dX12_worths_28 rfl (lv_at hl 0 rfl) ?_
        obtain ⟨rfl, rfl⟩ := some2 h
        exact e_i rfl XX hr I rfl dX12_worths_29
    · replace h := if_t h c1
      refine lv_iconst (v := (-1)) hx hb dX12_worths_15 (by decide) ?_
      obtain ⟨rfl, rfl⟩ := some2 h
      exact e_i rfl XX hr I rfl dX12_worths_16
set_option maxHeartbeats 4000000 in
set_option maxRecDepth 100000 in
theorem c_M_sheet (l : Launch) (G : g_G) (OK : EOk G.2.2) (ad : Nat → Nat) (fu : Nat) (sa : g_St) (x1 : Int32) (x2 : Int32) (x3 : Int32) (r : Int32) (ts : g_St) (h : f_M_sheet fu sa x1 x2 x3 = some (r, ts)) : HI l G yX12_sheet (Cond.code yX12_sheet cX12_sheet 5 (some .int) :: gT) { frames := 2, cells := 0, slots := 0, locals := 42 } .int [.ref (ad 0), .int x1, .int x2, .int x3] (wM G ad sa) r (wM G ad ts) := by
  refine HI.mk (lv := [(0, .ref (ad 0)), (1, .int x1), (2, .int x2), (3, .int x3)]) OK (by decide) (Nat.le_of_ble_eq_true rfl) rfl ?_
  intro p e s0 m args below meth c ls XX hr I hl
  have hx := XX.x
  have hb := XX.b
  have C64 : ∀ n : Nat, ∀ (s : g_St) (v1 : Int32) (v4 : Int32), f_M_sheet_L64 fu n s v1 v4 = some (r, ts) → ∀ (H : Heap) (locs : List Loc), Iv G (va_A (wM G ad sa) s0.heap.size) s0 H locs (wM G ad s) → ∀ ls, lv_has ls 5 [(0, .ref (ad 0)), (1, .int v1), (4, .int v4)] → W p l e { frames := 2, cells := 0, slots := 0, locals := 42 } s0 m args below meth c H locs 0 0 (QI G below .int r (wM G ad sa) (wM G ad ts) args s0) (F0 m 64 ls []) := by
    intro n
    induction n with
    | zero => intro s v1 v4 h; exact absurd h (fun q => by cases q)
    | succ n ih =>
      intro s v1 v4 h H locs I ls hl
      rw [f_M_sheet_L64] at h
      refine lv_iload hx hb dX12_sheet_64 (lv_at hl 2 rfl) ?_
      refine lv_bipush (v := 40) hx hb dX12_sheet_66 (by decide) ?_
      refine lv_icmp_ge (tgt := 90) hx hb dX12_sheet_68 (by decide) (fun c1 => ?_) (fun c1 => ?_)
      · replace h := if_t h c1
        refine lv_iconst (v := 1) hx hb dX12_sheet_90 (by decide) ?_
        obtain ⟨rfl, rfl⟩ := some2 h
        exact e_i rfl XX hr I rfl dX12_sheet_91
      · replace h := if_f h c1
        refine lv_aload_n hx hb dX12_sheet_71 rfl (lv_at hl 0 rfl) ?_
        refine gM_sheets XX I dX12_sheet_72 ?_
        refine lv_bipush (v := 40) hx hb dX12_sheet_75 (by decide) ?_
        refine lv_iload_n hx hb dX12_sheet_77 rfl (lv_at hl 1 rfl) ?_
        refine lv_imul hx hb dX12_sheet_78 ?_
        refine lv_iload hx hb dX12_sheet_79 (lv_at hl 2 rfl) ?_
        refine lv_iadd hx hb dX12_sheet_81 ?_
        refine lv_lconst (v := 0) hx hb dX12_sheet_82 (by decide) ?_
        obtain ⟨g9, h⟩ := gd_some h
        refine r_last XX I 20 (aM_sheets) (sM_sheets) g9 dX12_sheet_83 (fun H locs I => ?_)
        obtain ⟨s10, es10⟩ : ∃ z, z = st s 39 (((40 : Int32) * v1) + v4) (0 : Int64) := ⟨_, rfl⟩
        replace h := lt_e h es10
        replace I : Iv G (va_A (wM G ad sa) s0.heap.size) s0 H locs (wM G ad s10) := by rw [es10]; exact I
        obtain ⟨y11, ey11⟩ : ∃ z : Int32, z = v4 + (1 : Int32) := ⟨_, rfl⟩
        replace h := lt_e h ey11
        refine lv_iinc (v := y11) (lv' := [(4, .int y11), (0, .ref (ad 0)), (1, .int v1)]) hx hb dX12_sheet_84 hl (k := 2) rfl (by rw [ey11]; rfl) (by decide) rfl (fun ls hl => ?_)
        refine lv_goto (tgt := 64) hx hb dX12_sheet_87 (by decide) ?_
        exact ih _ _ _ h _ _ I ls (lv_sub hl [1, 2, 0] rfl)
  have C39 : ∀ (s : g_St) (v1 : Int32) (v2 : Int32) (v3 : Int32), f_M_sheet_L39 fu s v1 v2 v3 = some (r, ts) → ∀ (H : Heap) (locs : List Loc), Iv G (va_A (wM G ad sa) s0.heap.size) s0 H locs (wM G ad s) → ∀ ls, lv_has ls 5 [(0, .ref (ad 0)), (1, .int v1), (2, .int v2), (3, .int v3)] → W p l e { frames := 2, cells := 0, slots := 0, locals := 42 } s0 m args below meth c H locs 0 0 (QI G below .int r (wM G ad sa) (wM G ad ts) args s0) (F0 m 39 ls []) := by
    skip
    intro s v1 v2 v3 h H locs I ls hl
    unfold f_M_sheet_L39 at h
    refine lv_aload_n hx hb dX12_sheet_39 rfl (lv_at hl 0 rfl) ?_
    refine gM_sorts XX I dX12_sheet_40 ?_
    refine lv_iload_n hx hb dX12_sheet_43 rfl (lv_at hl 1 rfl) ?_
    refine lv_iload_n hx hb dX12_sheet_44 rfl (lv_at hl 2 rfl) ?_
    obtain ⟨g3, h⟩ := gd_some h
    refine r_iast XX I 18 (aM_sorts) (sM_sorts) g3 dX12_sheet_45 (fun H locs I => ?_)
    obtain ⟨s4, es4⟩ : ∃ z, z = sr s 37 v1 v2 := ⟨_, rfl⟩
    replace h := lt_e h es4
    replace I : Iv G (va_A (wM G ad sa) s0.heap.size) s0 H locs (wM G ad s4) := by rw [es4]; exact I
    refine lv_aload_n hx hb dX12_sheet_46 rfl (lv_at hl 0 rfl) ?_
    refine gM_sizes XX I dX12_sheet_47 ?_
    refine lv_iload_n hx hb dX12_sheet_50 rfl (lv_at hl 1 rfl) ?_
    refine lv_iload_n hx hb dX12_sheet_51 rfl (lv_at hl 2 rfl) ?_
    refine lv_if_ge (tgt := 59) hx hb dX12_sheet_52 (by decide) (fun c1 => ?_) (fun c1 => ?_)
    · replace h := if_t h c1
      refine lv_iload_n hx hb dX12_sheet_59 rfl (lv_at hl 3 rfl) ?_
      obtain ⟨g5, h⟩ := gd_some h
      refine r_iast XX I 19 (aM_sizes) (sM_sizes) g5 dX12_sheet_60 (fun H locs I => ?_)
      obtain ⟨s6, es6⟩ : ∃ z, z = sr s4 38 v1 v3 := ⟨_, rfl⟩
      replace h := lt_e h es6
      replace I : Iv G (va_A (wM G ad sa) s0.heap.size) s0 H locs (wM G ad s6) := by rw [es6]; exact I
      refine lv_iconst (v := 0) hx hb dX12_sheet_61 (by decide) ?_
      refine lv_istore (lv' := [(4, .int (0 : Int32)), (0, .ref (ad 0)), (1, .int v1), (2, .int v2), (3, .int v3)]) hx hb dX12_sheet_62 hl (by decide) rfl (fun ls hl => ?_)
      exact C64 fu _ _ _ h _ _ I ls (lv_sub hl [1, 2, 0] rfl)
    · replace h := if_f h c1
      refine lv_iconst (v := 0) hx hb dX12_sheet_55 (by decide) ?_
      refine lv_goto (tgt := 60) hx hb dX12_sheet_56 (by decide) ?_
      obtain ⟨g7, h⟩ := gd_some h
      refine r_iast XX I 19 (aM_sizes) (sM_sizes) g7 dX12_sheet_60 (fun H locs I => ?_)
      obtain ⟨s8, es8⟩ : ∃ z, z = sr s4 38 v1 (0 : Int32) := ⟨_, rfl⟩
      replace h := lt_e h es8
      replace I : Iv G (va_A (wM G ad sa) s0.heap.size) s0 H locs (wM G ad s8) := by rw [es8]; exact I
      refine lv_iconst (v := 0) hx hb dX12_sheet_61 (by decide) ?_
      refine lv_istore (lv' := [(4, .int (0 : Int32)), (0, .ref (ad 0)), (1, .int v1), (2, .int v2), (3, .int v3)]) hx hb dX12_sheet_62 hl (by decide) rfl (fun ls hl => ?_)
      exact C64 fu _ _ _ h _ _ I ls (lv_sub hl [1, 2, 0] rfl)
  unfold f_M_sheet at h
  refine lv_iload_n hx hb dX12_sheet_0 rfl (lv_at hl 1 rfl) ?_
  refine scall_i (rest := []) XX I hl.1 (c_S_isShelf l G OK x1 _ rfl) kS_X12_354 rfl rfl (Nat.le_of_ble_eq_true rfl) ⟨rfl, rfl, Nat.le_of_ble_eq_true rfl, Nat.le_of_ble_eq_true rfl⟩ ⟨Nat.zero_le _, Nat.zero_le _⟩ dX12_sheet_1 (fun H locs hz1 I => ?_)
  refine lv_if_eq (tgt := 26) hx hb dX12_sheet_4 (by decide) (fun c1 => ?_) (fun c1 => ?_)
  · replace h := if_t h c1
    refine lv_iconst (v := (-1)) hx hb dX12_sheet_26 (by decide) ?_
    obtain ⟨rfl, rfl⟩ := some2 h
    exact e_i rfl XX hr I rfl dX12_sheet_27
  · replace h := if_f h c1
    refine lv_iload_n hx hb dX12_sheet_7 rfl (lv_at hl 2 rfl) ?_
    refine lv_iconst (v := (-1)) hx hb dX12_sheet_8 (by decide) ?_
    refine lv_iconst (v := 3) hx hb dX12_sheet_9 (by decide) ?_
    refine scall_i (rest := []) XX I hl.1 (c_S_in l G OK x2 ((-1) : Int32) (3 : Int32) _ rfl) kS_X12_99 rfl rfl (Nat.le_of_ble_eq_true rfl) ⟨rfl, rfl, Nat.le_of_ble_eq_true rfl, Nat.le_of_ble_eq_true rfl⟩ ⟨Nat.zero_le _, Nat.zero_le _⟩ dX12_sheet_10 (fun H locs hz2 I => ?_)
    refine lv_if_eq (tgt := 26) hx hb dX12_sheet_13 (by decide) (fun c1 => ?_) (fun c1 => ?_)
    · replace h := if_t h c1
      refine lv_iconst (v := (-1)) hx hb dX12_sheet_26 (by decide) ?_
      obtain ⟨rfl, rfl⟩ := some2 h
      exact e_i rfl XX hr I rfl dX12_sheet_27
    · replace h := if_f h c1
      refine lv_iload_n hx hb dX12_sheet_16 rfl (lv_at hl 2 rfl) ?_
      refine lv_if_lt (tgt := 28) hx hb dX12_sheet_17 (by decide) (fun c1 => ?_) (fun c1 => ?_)
      · replace h := if_t h c1
        refine lv_iload_n hx hb dX12_sheet_28 rfl (lv_at hl 2 rfl) ?_
        refine lv_if_lt (tgt := 39) hx hb dX12_sheet_29 (by decide) (fun c1 => ?_) (fun c1 => ?_)
        · replace h := if_t h c1
          exact C39 _ _ _ _ h _ _ I ls (lv_sub hl [0, 1, 2, 3] rfl)
        · replace h := if_f h c1
          refine lv_iload_n hx hb dX12_sheet_32 rfl (lv_at hl 3 rfl) ?_
          refine lv_if_ge (tgt := 39) hx hb dX12_sheet_33 (by decide) (fun c1 => ?_) (fun c1 => ?_)
          · replace h := if_t h c1
            exact C39 _ _ _ _ h _ _ I ls (lv_sub hl [0, 1, 2, 3] rfl)
          · replace h := if_f h c1
            refine lv_bipush (v := (-14)) hx hb dX12_sheet_36 (by decide) ?_
            obtain ⟨rfl, rfl⟩ := some2 h
            exact e_i rfl XX hr I rfl dX12_sheet_38
      · replace h := if_f h c1
        refine lv_iload_n hx hb dX12_sheet_20 rfl (lv_at hl 3 rfl) ?_
        refine lv_bipush (v := 40) hx hb dX12_sheet_21 (by decide) ?_
        refine lv_icmp_le (tgt := 28) hx hb dX12_sheet_23 (by decide) (fun c1 => ?_) (fun c1 => ?_)
        · replace h := if_t h c1
          refine lv_iload_n hx hb dX12_sheet_28 rfl (lv_at hl 2 rfl) ?_
          refine lv_if_lt (tgt := 39) hx hb dX12_sheet_29 (by decide) (fun c1 => ?_) (fun c1 => ?_)
          · replace h := if_t h c1
            exact C39 _ _ _ _ h _ _ I ls (lv_sub hl [0, 1, 2, 3] rfl)
          · replace h := if_f h c1
            refine lv_iload_n hx hb dX12_sheet_32 rfl (lv_at hl 3 rfl) ?_
            refine lv_if_ge (tgt := 39) hx hb dX12_sheet_33 (by decide) (fun c1 => ?_) (fun c1 => ?_)
            · replace h := if_t h c1
              exact C39 _ _ _ _ h _ _ I ls (lv_sub hl [0, 1, 2, 3] rfl)
            · replace h := if_f h c1
              refine lv_bipush (v := (-14)) hx hb dX12_sheet_36 (by decide) ?_
              obtain ⟨rfl, rfl⟩ := some2 h
              exact e_i rfl XX hr I rfl dX12_sheet_38
        · replace h := if_f h c1
          refine lv_iconst (v := (-1)) hx hb dX12_sheet_26 (by decide) ?_
          obtain ⟨rfl, rfl⟩ := some2 h
          exact e_i rfl XX hr I rfl dX12_sheet_27
set_option maxHeartbeats 4000000 in
set_option maxRecDepth 100000 in
theorem c_M_put (l : Launch) (G : g_G) (OK : EOk G.2.2) (ad : Nat → Nat) (sa : g_St) (x1 : Int32) (x2 : Int32) (x3 : Int32) (r : Int32) (ts : g_St) (h : f_M_put sa x1 x2 x3 = some (r, ts)) : HI l G yX12_put (Cond.code yX12_put cX12_put 4 (some .int) :: gT) { frames := 2, cells := 0, slots := 0, locals := 42 } .int [.ref (ad 0), .int x1, .int x2, .int x3] (wM G ad sa) r (wM G ad ts) := by
  refine HI.mk (lv := [(0, .ref (ad 0)), (1, .int x1), (2, .int x2), (3, .int x3)]) OK (by decide) (Nat.le_of_ble_eq_true rfl) rfl ?_
  intro p e s0 m args below meth c ls XX hr I hl
  have hx := XX.x
  have hb := XX.b
  unfold f_M_put at h
  refine lv_iload_n hx hb dX12_put_0 rfl (lv_at hl 1 rfl) ?_
  refine scall_i (rest := []) XX I hl.1 (c_S_isShelf l G OK x1 _ rfl) kS_X12_354 rfl rfl (Nat.le_of_ble_eq_true rfl) ⟨rfl, rfl, Nat.le_of_ble_eq_true rfl, Nat.le_of_ble_eq_true rfl⟩ ⟨Nat.zero_le _, Nat.zero_le _⟩ dX12_put_1 (fun H locs hz1 I => ?_)
  refine lv_if_ne (tgt := 9) hx hb dX12_put_4 (by decide) (fun c1 => ?_) (fun c1 => ?_)
  · replace h := if_f h c1
    refine lv_aload_n hx hb dX12_put_9 rfl (lv_at hl 0 rfl) ?_
    refine gM_sorts XX I dX12_put_10 ?_
    refine lv_iload_n hx hb dX12_put_13 rfl (lv_at hl 1 rfl) ?_
    obtain ⟨g2, h⟩ := gd_some h
    refine r_iald XX I 18 (aM_sorts) g2 dX12_put_14 ?_
    refine lv_if_ge (tgt := 21) hx hb dX12_put_15 (by decide) (fun c1 => ?_) (fun c1 => ?_)
    · replace h := if_t h c1
      refine lv_iload_n hx hb dX12_put_21 rfl (lv_at hl 2 rfl) ?_
      refine lv_iconst (v := 0) hx hb dX12_put_22 (by decide) ?_
      refine lv_aload_n hx hb dX12_put_23 rfl (lv_at hl 0 rfl) ?_
      refine gM_sizes XX I dX12_put_24 ?_
      refine lv_iload_n hx hb dX12_put_27 rfl (lv_at hl 1 rfl) ?_
      obtain ⟨g3, h⟩ := gd_some h
      refine r_iald XX I 19 (aM_sizes) g3 dX12_put_28 ?_
      refine lv_iconst (v := 1) hx hb dX12_put_29 (by decide) ?_
      refine lv_isub hx hb dX12_put_30 ?_
      refine scall_i (rest := []) XX I hl.1 (c_S_in l G OK x2 (0 : Int32) ((gr sa 38 x1.toNatClampNeg) - (1 : Int32)) _ rfl) kS_X12_99 rfl rfl (Nat.le_of_ble_eq_true rfl) ⟨rfl, rfl, Nat.le_of_ble_eq_true rfl, Nat.le_of_ble_eq_true rfl⟩ ⟨Nat.zero_le _, Nat.zero_le _⟩ dX12_put_31 (fun H locs hz4 I => ?_)
      refine lv_if_ne (tgt := 40) hx hb dX12_put_34 (by decide) (fun c1 => ?_) (fun c1 => ?_)
      · replace h := if_f h c1
        refine lv_aload_n hx hb dX12_put_40 rfl (lv_at hl 0 rfl) ?_
        refine gM_sheets XX I dX12_put_41 ?_
        refine lv_bipush (v := 40) hx hb dX12_put_44 (by decide) ?_
        refine lv_iload_n hx hb dX12_put_46 rfl (lv_at hl 1 rfl) ?_
        refine lv_imul hx hb dX12_put_47 ?_
        refine lv_iload_n hx hb dX12_put_48 rfl (lv_at hl 2 rfl) ?_
        refine lv_iadd hx hb dX12_put_49 ?_
        refine lv_aload_n hx hb dX12_put_50 rfl (lv_at hl 0 rfl) ?_
        refine gM_sorts XX I dX12_put_51 ?_
        refine lv_iload_n hx hb dX12_put_54 rfl (lv_at hl 1 rfl) ?_
        obtain ⟨g5, h⟩ := gd_some h
        refine r_iald XX I 18 (aM_sorts) g5 dX12_put_55 ?_
        refine lv_if_ne (tgt := 65) hx hb dX12_put_56 (by decide) (fun c1 => ?_) (fun c1 => ?_)
        · replace h := if_f h c1
          refine lv_aload_n hx hb dX12_put_65 rfl (lv_at hl 0 rfl) ?_
          refine gM_sorts XX I dX12_put_66 ?_
          refine lv_iload_n hx hb dX12_put_69 rfl (lv_at hl 1 rfl) ?_
          obtain ⟨g6, h⟩ := gd_some h
          refine r_iald XX I 18 (aM_sorts) g6 dX12_put_70 ?_
          refine lv_iconst (v := 1) hx hb dX12_put_71 (by decide) ?_
          refine lv_icmp_ne (tgt := 81) hx hb dX12_put_72 (by decide) (fun c1 => ?_) (fun c1 => ?_)
          · replace h := if_f h c1
            refine lv_iload_n hx hb dX12_put_81 rfl (lv_at hl 3 rfl) ?_
            refine lv_i2l hx hb dX12_put_82 rfl ?_
            refine lv_topl (fun y7 ey7 => ?_)
            replace h := lt_e h ey7
            obtain ⟨g8, h⟩ := gd_some h
            refine r_last XX I 20 (aM_sheets) (sM_sheets) g8 dX12_put_83 (fun H locs I => ?_)
            obtain ⟨s9, es9⟩ : ∃ z, z = st sa 39 (((40 : Int32) * x1) + x2) y7 := ⟨_, rfl⟩
            replace h := lt_e h es9
            replace I : Iv G (va_A (wM G ad sa) s0.heap.size) s0 H locs (wM G ad s9) := by rw [es9]; exact I
            refine lv_iconst (v := 1) hx hb dX12_put_84 (by decide) ?_
            obtain ⟨rfl, rfl⟩ := some2 h
            exact e_i rfl XX hr I rfl dX12_put_85
          · replace h := if_t h c1
            refine lv_iload_n hx hb dX12_put_75 rfl (lv_at hl 3 rfl) ?_
            refine lv_i2s hx hb dX12_put_76 rfl ?_
            refine lv_i2l hx hb dX12_put_77 rfl ?_
            refine lv_goto (tgt := 83) hx hb dX12_put_78 (by decide) ?_
            refine lv_topl (fun y10 ey10 => ?_)
            replace h := lt_e h ey10
            obtain ⟨g11, h⟩ := gd_some h
            refine r_last XX I 20 (aM_sheets) (sM_sheets) g11 dX12_put_83 (fun H locs I => ?_)
            obtain ⟨s12, es12⟩ : ∃ z, z = st sa 39 (((40 : Int32) * x1) + x2) y10 := ⟨_, rfl⟩
            replace h := lt_e h es12
            replace I : Iv G (va_A (wM G ad sa) s0.heap.size) s0 H locs (wM G ad s12) := by rw [es12]; exact I
            refine lv_iconst (v := 1) hx hb dX12_put_84 (by decide) ?_
            obtain ⟨rfl, rfl⟩ := some2 h
            exact e_i rfl XX hr I rfl dX12_put_85
        · replace h := if_t h c1
          refine lv_iload_n hx hb dX12_put_59 rfl (lv_at hl 3 rfl) ?_
          refine lv_i2b hx hb dX12_put_60 rfl ?_
          refine lv_i2l hx hb dX12_put_61 rfl ?_
          refine lv_goto (tgt := 83) hx hb dX12_put_62 (by decide) ?_
          refine lv_topl (fun y13 ey13 => ?_)
          replace h := lt_e h ey13
          obtain ⟨g14, h⟩ := gd_some h
          refine r_last XX I 20 (aM_sheets) (sM_sheets) g14 dX12_put_83 (fun H locs I => ?_)
          obtain ⟨s15, es15⟩ : ∃ z, z = st sa 39 (((40 : Int32) * x1) + x2) y13 := ⟨_, rfl⟩
          replace h := lt_e h es15
          replace I : Iv G (va_A (wM G ad sa) s0.heap.size) s0 H locs (wM G ad s15) := by rw [es15]; exact I
          refine lv_iconst (v := 1) hx hb dX12_put_84 (by decide) ?_
          obtain ⟨rfl, rfl⟩ := some2 h
          exact e_i rfl XX hr I rfl dX12_put_85
      · replace h := if_t h c1
        refine lv_bipush (v := (-12)) hx hb dX12_put_37 (by decide) ?_
        obtain ⟨rfl, rfl⟩ := some2 h
        exact e_i rfl XX hr I rfl dX12_put_39
    · replace h := if_f h c1
      refine lv_bipush (v := (-11)) hx hb dX12_put_18 (by decide) ?_
      obtain ⟨rfl, rfl⟩ := some2 h
      exact e_i rfl XX hr I rfl dX12_put_20
  · replace h := if_t h c1
    refine lv_iconst (v := (-1)) hx hb dX12_put_7 (by decide) ?_
    obtain ⟨rfl, rfl⟩ := some2 h
    exact e_i rfl XX hr I rfl dX12_put_8
set_option maxHeartbeats 4000000 in
set_option maxRecDepth 100000 in
theorem c_M_item (l : Launch) (G : g_G) (OK : EOk G.2.2) (ad : Nat → Nat) (sa : g_St) (x1 : Int32) (x2 : Int32) (x3 : Int32) (r : Int32) (h : f_M_item sa x1 x2 x3 = some r) : HI l G yX12_item (Cond.code yX12_item cX12_item 5 (some .int) :: gT) { frames := 2, cells := 0, slots := 0, locals := 42 } .int [.ref (ad 0), .int x1, .int x2, .int x3] (wM G ad sa) r (wM G ad sa) := by
  refine HI.mk (lv := [(0, .ref (ad 0)), (1, .int x1), (2, .int x2), (3, .int x3)]) OK (by decide) (Nat.le_of_ble_eq_true rfl) rfl ?_
  intro p e s0 m args below meth c ls XX hr I hl
  have hx := XX.x
  have hb := XX.b
  unfold f_M_item at h
  refine lv_iload_n hx hb dX12_item_0 rfl (lv_at hl 1 rfl) ?_
  refine scall_i (rest := []) XX I hl.1 (c_S_isShelf l G OK x1 _ rfl) kS_X12_354 rfl rfl (Nat.le_of_ble_eq_true rfl) ⟨rfl, rfl, Nat.le_of_ble_eq_true rfl, Nat.le_of_ble_eq_true rfl⟩ ⟨Nat.zero_le _, Nat.zero_le _⟩ dX12_item_1 (fun H locs hz1 I => ?_)
  refine lv_if_eq (tgt := 16) hx hb dX12_item_4 (by decide) (fun c1 => ?_) (fun c1 => ?_)
  · replace h := if_t h c1
    refine lv_iconst (v := (-1)) hx hb dX12_item_16 (by decide) ?_
    obtain rfl := some1 h
    exact e_i rfl XX hr I rfl dX12_item_17
  · replace h := if_f h c1
    refine lv_iload_n hx hb dX12_item_7 rfl (lv_at hl 2 rfl) ?_
    refine lv_iconst (v := 0) hx hb dX12_item_8 (by decide) ?_
    refine lv_iconst (v := 3) hx hb dX12_item_9 (by decide) ?_
    refine scall_i (rest := []) XX I hl.1 (c_S_in l G OK x2 (0 : Int32) (3 : Int32) _ rfl) kS_X12_99 rfl rfl (Nat.le_of_ble_eq_true rfl) ⟨rfl, rfl, Nat.le_of_ble_eq_true rfl, Nat.le_of_ble_eq_true rfl⟩ ⟨Nat.zero_le _, Nat.zero_le _⟩ dX12_item_10 (fun H locs hz2 I => ?_)
    refine lv_if_ne (tgt := 18) hx hb dX12_item_13 (by decide) (fun c1 => ?_) (fun c1 => ?_)
    · replace h := if_f h c1
      refine lv_aload_n hx hb dX12_item_18 rfl (lv_at hl 0 rfl) ?_
      refine lv_iload_n hx hb dX12_item_19 rfl (lv_at hl 1 rfl) ?_
      refine lv_iload_n hx hb dX12_item_20 rfl (lv_at hl 2 rfl) ?_
      obtain ⟨r3, q4, h⟩ := bd1_some h
      refine wcall_i (rest := []) XX I hl.1 (c_M_lacksSort l G OK ad sa x1 x2 r3 q4) kV_X12_357 (Rc.mk XX I (q0 := 0) (ci := 12) wM_o rfl) rfl rfl (Nat.le_of_ble_eq_true rfl) ⟨rfl, rfl, Nat.le_of_ble_eq_true rfl, Nat.le_of_ble_eq_true rfl⟩ ⟨Nat.zero_le _, Nat.zero_le _⟩ dX12_item_21 (fun H locs hz5 I => ?_)
      refine lv_istore (lv' := [(4, .int r3), (0, .ref (ad 0)), (1, .int x1), (2, .int x2), (3, .int x3)]) hx hb dX12_item_24 hl (by decide) rfl (fun ls hl => ?_)
      refine lv_iload hx hb dX12_item_26 (lv_at hl 0 rfl) ?_
      refine lv_if_eq (tgt := 34) hx hb dX12_item_28 (by decide) (fun c1 => ?_) (fun c1 => ?_)
      · replace h := if_t h c1
        refine lv_iload_n hx hb dX12_item_34 rfl (lv_at hl 4 rfl) ?_
        refine lv_iconst (v := 0) hx hb dX12_item_35 (by decide) ?_
        refine lv_aload_n hx hb dX12_item_36 rfl (lv_at hl 1 rfl) ?_
        refine gM_sizes XX I dX12_item_37 ?_
        refine lv_iload_n hx hb dX12_item_40 rfl (lv_at hl 2 rfl) ?_
        obtain ⟨g6, h⟩ := gd_some h
        refine r_iald XX I 19 (aM_sizes) g6 dX12_item_41 ?_
        refine lv_iconst (v := 1) hx hb dX12_item_42 (by decide) ?_
        refine lv_isub hx hb dX12_item_43 ?_
        refine scall_i (rest := []) XX I hl.1 (c_S_in l G OK x3 (0 : Int32) ((gr sa 38 x1.toNatClampNeg) - (1 : Int32)) _ rfl) kS_X12_99 rfl rfl (Nat.le_of_ble_eq_true rfl) ⟨rfl, rfl, Nat.le_of_ble_eq_true rfl, Nat.le_of_ble_eq_true rfl⟩ ⟨Nat.zero_le _, Nat.zero_le _⟩ dX12_item_44 (fun H locs hz7 I => ?_)
        refine lv_if_eq (tgt := 65) hx hb dX12_item_47 (by decide) (fun c1 => ?_) (fun c1 => ?_)
        · replace h := if_t h c1
          refine lv_bipush (v := (-12)) hx hb dX12_item_65 (by decide) ?_
          obtain rfl := some1 h
          exact e_i rfl XX hr I rfl dX12_item_67
        · replace h := if_f h c1
          refine lv_aload_n hx hb dX12_item_50 rfl (lv_at hl 1 rfl) ?_
          refine gM_sheets XX I dX12_item_51 ?_
          refine lv_bipush (v := 40) hx hb dX12_item_54 (by decide) ?_
          refine lv_iload_n hx hb dX12_item_56 rfl (lv_at hl 2 rfl) ?_
          refine lv_imul hx hb dX12_item_57 ?_
          refine lv_iload_n hx hb dX12_item_58 rfl (lv_at hl 4 rfl) ?_
          refine lv_iadd hx hb dX12_item_59 ?_
          obtain ⟨g8, h⟩ := gd_some h
          refine r_lald XX I 20 (aM_sheets) g8 dX12_item_60 ?_
          refine lv_l2i hx hb dX12_item_61 rfl ?_
          refine lv_goto (tgt := 67) hx hb dX12_item_62 (by decide) ?_
          obtain rfl := some1 h
          exact e_i rfl XX hr I rfl dX12_item_67
      · replace h := if_f h c1
        refine lv_iload hx hb dX12_item_31 (lv_at hl 0 rfl) ?_
        obtain rfl := some1 h
        exact e_i rfl XX hr I rfl dX12_item_33
    · replace h := if_t h c1
      refine lv_iconst (v := (-1)) hx hb dX12_item_16 (by decide) ?_
      obtain rfl := some1 h
      exact e_i rfl XX hr I rfl dX12_item_17
set_option maxHeartbeats 4000000 in
set_option maxRecDepth 100000 in
theorem c_M_isHeld (l : Launch) (G : g_G) (OK : EOk G.2.2) (ad : Nat → Nat) (sa : g_St) (x1 : Int32) (x2 : Int32) (r : Int32) (h : f_M_isHeld sa x1 x2 = r) : HI l G yX12_isHeld (Cond.code yX12_isHeld cX12_isHeld 3 (some .boolean) :: gT) { frames := 2, cells := 0, slots := 0, locals := 43 } .boolean [.ref (ad 0), .int x1, .int x2] (wM G ad sa) r (wM G ad sa) := by
  refine HI.mk (lv := [(0, .ref (ad 0)), (1, .int x1), (2, .int x2)]) OK (by decide) (Nat.le_of_ble_eq_true rfl) rfl ?_
  intro p e s0 m args below meth c ls XX hr I hl
  have hx := XX.x
  have hb := XX.b
  unfold f_M_isHeld at h
  refine lv_iload_n hx hb dX12_isHeld_0 rfl (lv_at hl 1 rfl) ?_
  refine lv_if_ne (tgt := 12) hx hb dX12_isHeld_1 (by decide) (fun c1 => ?_) (fun c1 => ?_)
  · replace h := if_f h c1
    refine lv_iload_n hx hb dX12_isHeld_12 rfl (lv_at hl 1 rfl) ?_
    refine lv_iconst (v := 1) hx hb dX12_isHeld_13 (by decide) ?_
    refine lv_icmp_ne (tgt := 24) hx hb dX12_isHeld_14 (by decide) (fun c1 => ?_) (fun c1 => ?_)
    · replace h := if_f h c1
      refine lv_iload_n hx hb dX12_isHeld_24 rfl (lv_at hl 1 rfl) ?_
      refine lv_iconst (v := 2) hx hb dX12_isHeld_25 (by decide) ?_
      refine lv_icmp_ne (tgt := 33) hx hb dX12_isHeld_26 (by decide) (fun c1 => ?_) (fun c1 => ?_)
      · replace h := if_f h c1
        refine lv_iconst (v := 0) hx hb dX12_isHeld_33 (by decide) ?_
        subst h
        exact e_z XX hr I rfl rfl dX12_isHeld_34
      · replace h := if_t h c1
        refine lv_iconst (v := 1) hx hb dX12_isHeld_29 (by decide) ?_
        refine lv_goto (tgt := 34) hx hb dX12_isHeld_30 (by decide) ?_
        subst h
        exact e_z XX hr I rfl rfl dX12_isHeld_34
    · replace h := if_t h c1
      refine lv_iload_n hx hb dX12_isHeld_17 rfl (lv_at hl 2 rfl) ?_
      refine scall_i (rest := []) XX I hl.1 (c_S_isShelf l G OK x2 _ rfl) kS_X12_354 rfl rfl (Nat.le_of_ble_eq_true rfl) ⟨rfl, rfl, Nat.le_of_ble_eq_true rfl, Nat.le_of_ble_eq_true rfl⟩ ⟨Nat.zero_le _, Nat.zero_le _⟩ dX12_isHeld_18 (fun H locs hz1 I => ?_)
      refine lv_goto (tgt := 34) hx hb dX12_isHeld_21 (by decide) ?_
      subst h
      exact e_z XX hr I hz1 rfl dX12_isHeld_34
  · replace h := if_t h c1
    refine lv_aload_n hx hb dX12_isHeld_4 rfl (lv_at hl 0 rfl) ?_
    refine lv_iload_n hx hb dX12_isHeld_5 rfl (lv_at hl 2 rfl) ?_
    refine wcall_i (rest := []) XX I hl.1 (c_M_isPerson l G OK ad sa x2 _ rfl) kV_X12_238 (Rc.mk XX I (q0 := 0) (ci := 12) wM_o rfl) rfl rfl (Nat.le_of_ble_eq_true rfl) ⟨rfl, rfl, Nat.le_of_ble_eq_true rfl, Nat.le_of_ble_eq_true rfl⟩ ⟨Nat.zero_le _, Nat.zero_le _⟩ dX12_isHeld_6 (fun H locs hz2 I => ?_)
    refine lv_goto (tgt := 34) hx hb dX12_isHeld_9 (by decide) ?_
    subst h
    exact e_z XX hr I hz2 rfl dX12_isHeld_34
theorem kV_X12_364 : KV RX12 364 RX12 yX12_isHeld cX12_isHeld 3 (some .boolean) 2 := KV.mk wd_1483 wd_1485 wd_1651 wd_13 wd_1486 (by decide +kernel)
set_option maxHeartbeats 4000000 in
set_option maxRecDepth 100000 in
theorem c_M_shelf (l : Launch) (G : g_G) (OK : EOk G.2.2) (ad : Nat → Nat) (sa : g_St) (x1 : Int32) (x2 : Int32) (x3 : Int32) (r : Int32) (ts : g_St) (h : f_M_shelf sa x1 x2 x3 = some (r, ts)) : HI l G yX12_shelf (Cond.code yX12_shelf cX12_shelf 4 (some .int) :: gT) { frames := 3, cells := 0, slots := 0, locals := 65 } .int [.ref (ad 0), .int x1, .int x2, .int x3] (wM G ad sa) r (wM G ad ts) := by
  refine HI.mk (lv := [(0, .ref (ad 0)), (1, .int x1), (2, .int x2), (3, .int x3)]) OK (by decide) (Nat.le_of_ble_eq_true rfl) rfl ?_
  intro p e s0 m args below meth c ls XX hr I hl
  have hx := XX.x
  have hb := XX.b
  have C68 : ∀ (s : g_St) (v1 : Int32) (v2 : Int32) (v3 : Int32) (z0 : Int32) (z1 : Int32), f_M_shelf_L68 s v1 v2 v3 z0 z1 = some (r, ts) → ∀ (H : Heap) (locs : List Loc), Iv G (va_A (wM G ad sa) s0.heap.size) s0 H locs (wM G ad s) → ∀ ls, lv_has ls 4 [(0, .ref (ad 0)), (1, .int v1), (2, .int v2), (3, .int v3)] → W p l e { frames := 3, cells := 0, slots := 0, locals := 65 } s0 m args below meth c H locs 0 0 (QI G below .int r (wM G ad sa) (wM G ad ts) args s0) (F0 m 68 ls [.int z0, .int z1, .ref (ad 42)]) := by
    skip
    intro s v1 v2 v3 z0 z1 h H locs I ls hl
    unfold f_M_shelf_L68 at h
    obtain ⟨g7, h⟩ := gd_some h
    refine r_iast XX I 22 (aM_heldNumber) (sM_heldNumber) g7 dX12_shelf_68 (fun H locs I => ?_)
    obtain ⟨s8, es8⟩ : ∃ z, z = sr s 41 z1 z0 := ⟨_, rfl⟩
    replace h := lt_e h es8
    replace I : Iv G (va_A (wM G ad sa) s0.heap.size) s0 H locs (wM G ad s8) := by rw [es8]; exact I
    refine lv_aload_n hx hb dX12_shelf_69 rfl (lv_at hl 0 rfl) ?_
    refine gM_heldSize XX I dX12_shelf_70 ?_
    refine lv_iload_n hx hb dX12_shelf_73 rfl (lv_at hl 1 rfl) ?_
    refine lv_iload_n hx hb dX12_shelf_74 rfl (lv_at hl 2 rfl) ?_
    refine lv_iconst (v := 1) hx hb dX12_shelf_75 (by decide) ?_
    refine lv_icmp_ne (tgt := 88) hx hb dX12_shelf_76 (by decide) (fun c1 => ?_) (fun c1 => ?_)
    · replace h := if_f h c1
      refine lv_iconst (v := 0) hx hb dX12_shelf_88 (by decide) ?_
      obtain ⟨g9, h⟩ := gd_some h
      refine r_iast XX I 23 (aM_heldSize) (sM_heldSize) g9 dX12_shelf_89 (fun H locs I => ?_)
      obtain ⟨s10, es10⟩ : ∃ z, z = sr s8 42 v1 (0 : Int32) := ⟨_, rfl⟩
      replace h := lt_e h es10
      replace I : Iv G (va_A (wM G ad sa) s0.heap.size) s0 H locs (wM G ad s10) := by rw [es10]; exact I
      refine lv_iconst (v := 1) hx hb dX12_shelf_90 (by decide) ?_
      obtain ⟨rfl, rfl⟩ := some2 h
      exact e_i rfl XX hr I rfl dX12_shelf_91
    · replace h := if_t h c1
      refine lv_aload_n hx hb dX12_shelf_79 rfl (lv_at hl 0 rfl) ?_
      refine gM_sizes XX I dX12_shelf_80 ?_
      refine lv_iload_n hx hb dX12_shelf_83 rfl (lv_at hl 3 rfl) ?_
      obtain ⟨g11, h⟩ := gd_some h
      refine r_iald XX I 19 (aM_sizes) g11 dX12_shelf_84 ?_
      refine lv_goto (tgt := 89) hx hb dX12_shelf_85 (by decide) ?_
      refine lv_topi (fun y12 ey12 => ?_)
      replace h := lt_e h ey12
      obtain ⟨g13, h⟩ := gd_some h
      refine r_iast XX I 23 (aM_heldSize) (sM_heldSize) g13 dX12_shelf_89 (fun H locs I => ?_)
      obtain ⟨s14, es14⟩ : ∃ z, z = sr s8 42 v1 y12 := ⟨_, rfl⟩
      replace h := lt_e h es14
      replace I : Iv G (va_A (wM G ad sa) s0.heap.size) s0 H locs (wM G ad s14) := by rw [es14]; exact I
      refine lv_iconst (v := 1) hx hb dX12_shelf_90 (by decide) ?_
      obtain ⟨rfl, rfl⟩ := some2 h
      exact e_i rfl XX hr I rfl dX12_shelf_91
  have C47 : ∀ (s : g_St) (v1 : Int32) (v2 : Int32) (v3 : Int32) (z0 : Int32) (z1 : Int32), f_M_shelf_L47 s v1 v2 v3 z0 z1 = some (r, ts) → ∀ (H : Heap) (locs : List Loc), Iv G (va_A (wM G ad sa) s0.heap.size) s0 H locs (wM G ad s) → ∀ ls, lv_has ls 4 [(0, .ref (ad 0)), (1, .int v1), (2, .int v2), (3, .int v3)] → W p l e { frames := 3, cells := 0, slots := 0, locals := 65 } s0 m args below meth c H locs 0 0 (QI G below .int r (wM G ad sa) (wM G ad ts) args s0) (F0 m 47 ls [.int z0, .int z1, .ref (ad 41)]) := by
    skip
    intro s v1 v2 v3 z0 z1 h H locs I ls hl
    unfold f_M_shelf_L47 at h
    obtain ⟨g4, h⟩ := gd_some h
    refine r_iast XX I 21 (aM_held) (sM_held) g4 dX12_shelf_47 (fun H locs I => ?_)
    obtain ⟨s5, es5⟩ : ∃ z, z = sr s 40 z1 z0 := ⟨_, rfl⟩
    replace h := lt_e h es5
    replace I : Iv G (va_A (wM G ad sa) s0.heap.size) s0 H locs (wM G ad s5) := by rw [es5]; exact I
    refine lv_aload_n hx hb dX12_shelf_48 rfl (lv_at hl 0 rfl) ?_
    refine gM_heldNumber XX I dX12_shelf_49 ?_
    refine lv_iload_n hx hb dX12_shelf_52 rfl (lv_at hl 1 rfl) ?_
    refine lv_iload_n hx hb dX12_shelf_53 rfl (lv_at hl 2 rfl) ?_
    refine lv_iconst (v := 1) hx hb dX12_shelf_54 (by decide) ?_
    refine lv_icmp_ne (tgt := 67) hx hb dX12_shelf_55 (by decide) (fun c1 => ?_) (fun c1 => ?_)
    · replace h := if_f h c1
      refine lv_iload_n hx hb dX12_shelf_67 rfl (lv_at hl 3 rfl) ?_
      exact C68 _ _ _ _ _ _ h _ _ I ls (lv_sub hl [0, 1, 2, 3] rfl)
    · replace h := if_t h c1
      refine lv_aload_n hx hb dX12_shelf_58 rfl (lv_at hl 0 rfl) ?_
      refine gM_sorts XX I dX12_shelf_59 ?_
      refine lv_iload_n hx hb dX12_shelf_62 rfl (lv_at hl 3 rfl) ?_
      obtain ⟨g6, h⟩ := gd_some h
      refine r_iald XX I 18 (aM_sorts) g6 dX12_shelf_63 ?_
      refine lv_goto (tgt := 68) hx hb dX12_shelf_64 (by decide) ?_
      exact C68 _ _ _ _ _ _ h _ _ I ls (lv_sub hl [0, 1, 2, 3] rfl)
  unfold f_M_shelf at h
  refine lv_iload_n hx hb dX12_shelf_0 rfl (lv_at hl 1 rfl) ?_
  refine scall_i (rest := []) XX I hl.1 (c_S_isShelf l G OK x1 _ rfl) kS_X12_354 rfl rfl (Nat.le_of_ble_eq_true rfl) ⟨rfl, rfl, Nat.le_of_ble_eq_true rfl, Nat.le_of_ble_eq_true rfl⟩ ⟨Nat.zero_le _, Nat.zero_le _⟩ dX12_shelf_1 (fun H locs hz1 I => ?_)
  refine lv_if_eq (tgt := 16) hx hb dX12_shelf_4 (by decide) (fun c1 => ?_) (fun c1 => ?_)
  · replace h := if_t h c1
    refine lv_iconst (v := (-1)) hx hb dX12_shelf_16 (by decide) ?_
    obtain ⟨rfl, rfl⟩ := some2 h
    exact e_i rfl XX hr I rfl dX12_shelf_17
  · replace h := if_f h c1
    refine lv_aload_n hx hb dX12_shelf_7 rfl (lv_at hl 0 rfl) ?_
    refine lv_iload_n hx hb dX12_shelf_8 rfl (lv_at hl 2 rfl) ?_
    refine lv_iload_n hx hb dX12_shelf_9 rfl (lv_at hl 3 rfl) ?_
    refine wcall_i (rest := []) XX I hl.1 (c_M_isHeld l G OK ad sa x2 x3 _ rfl) kV_X12_364 (Rc.mk XX I (q0 := 0) (ci := 12) wM_o rfl) rfl rfl (Nat.le_of_ble_eq_true rfl) ⟨rfl, rfl, Nat.le_of_ble_eq_true rfl, Nat.le_of_ble_eq_true rfl⟩ ⟨Nat.zero_le _, Nat.zero_le _⟩ dX12_shelf_10 (fun H locs hz2 I => ?_)
    refine lv_if_ne (tgt := 18) hx hb dX12_shelf_13 (by decide) (fun c1 => ?_) (fun c1 => ?_)
    · replace h := if_f h c1
      refine lv_aload_n hx hb dX12_shelf_18 rfl (lv_at hl 0 rfl) ?_
      refine gM_held XX I dX12_shelf_19 ?_
      refine lv_iload_n hx hb dX12_shelf_22 rfl (lv_at hl 1 rfl) ?_
      refine lv_iload_n hx hb dX12_shelf_23 rfl (lv_at hl 2 rfl) ?_
      refine lv_iconst (v := 2) hx hb dX12_shelf_24 (by decide) ?_
      refine lv_icmp_eq (tgt := 42) hx hb dX12_shelf_25 (by decide) (fun c1 => ?_) (fun c1 => ?_)
      · replace h := if_t h c1
        refine lv_iconst (v := (-1)) hx hb dX12_shelf_42 (by decide) ?_
        refine lv_goto (tgt := 47) hx hb dX12_shelf_43 (by decide) ?_
        exact C47 _ _ _ _ _ _ h _ _ I ls (lv_sub hl [0, 1, 2, 3] rfl)
      · replace h := if_f h c1
        refine lv_iload_n hx hb dX12_shelf_28 rfl (lv_at hl 2 rfl) ?_
        refine lv_iconst (v := 1) hx hb dX12_shelf_29 (by decide) ?_
        refine lv_icmp_ne (tgt := 46) hx hb dX12_shelf_30 (by decide) (fun c1 => ?_) (fun c1 => ?_)
        · replace h := if_f h c1
          refine lv_iload_n hx hb dX12_shelf_46 rfl (lv_at hl 2 rfl) ?_
          exact C47 _ _ _ _ _ _ h _ _ I ls (lv_sub hl [0, 1, 2, 3] rfl)
        · replace h := if_t h c1
          refine lv_aload_n hx hb dX12_shelf_33 rfl (lv_at hl 0 rfl) ?_
          refine gM_sorts XX I dX12_shelf_34 ?_
          refine lv_iload_n hx hb dX12_shelf_37 rfl (lv_at hl 3 rfl) ?_
          obtain ⟨g3, h⟩ := gd_some h
          refine r_iald XX I 18 (aM_sorts) g3 dX12_shelf_38 ?_
          refine lv_if_ge (tgt := 46) hx hb dX12_shelf_39 (by decide) (fun c1 => ?_) (fun c1 => ?_)
          · replace h := if_t h c1
            refine lv_iload_n hx hb dX12_shelf_46 rfl (lv_at hl 2 rfl) ?_
            exact C47 _ _ _ _ _ _ h _ _ I ls (lv_sub hl [0, 1, 2, 3] rfl)
          · replace h := if_f h c1
            refine lv_iconst (v := (-1)) hx hb dX12_shelf_42 (by decide) ?_
            refine lv_goto (tgt := 47) hx hb dX12_shelf_43 (by decide) ?_
            exact C47 _ _ _ _ _ _ h _ _ I ls (lv_sub hl [0, 1, 2, 3] rfl)
    · replace h := if_t h c1
      refine lv_iconst (v := (-1)) hx hb dX12_shelf_16 (by decide) ?_
      obtain ⟨rfl, rfl⟩ := some2 h
      exact e_i rfl XX hr I rfl dX12_shelf_17
set_option maxHeartbeats 4000000 in
set_option maxRecDepth 100000 in
theorem c_M_kindOn (l : Launch) (G : g_G) (OK : EOk G.2.2) (ad : Nat → Nat) (sa : g_St) (x1 : Int32) (r : Int32) (h : f_M_kindOn sa x1 = some r) : HI l G yX12_kindOn (Cond.code yX12_kindOn cX12_kindOn 2 (some .int) :: gT) { frames := 2, cells := 0, slots := 0, locals := 43 } .int [.ref (ad 0), .int x1] (wM G ad sa) r (wM G ad sa) := by
  refine HI.mk (lv := [(0, .ref (ad 0)), (1, .int x1)]) OK (by decide) (Nat.le_of_ble_eq_true rfl) rfl ?_
  intro p e s0 m args below meth c ls XX hr I hl
  have hx := XX.x
  have hb := XX.b
  unfold f_M_kindOn at h
  refine lv_aload_n hx hb dX12_kindOn_0 rfl (lv_at hl 0 rfl) ?_
  refine gM_held XX I dX12_kindOn_1 ?_
  refine lv_iload_n hx hb dX12_kindOn_4 rfl (lv_at hl 1 rfl) ?_
  obtain ⟨g1, h⟩ := gd_some h
  refine r_iald XX I 21 (aM_held) g1 dX12_kindOn_5 ?_
  refine lv_if_eq (tgt := 25) hx hb dX12_kindOn_6 (by decide) (fun c1 => ?_) (fun c1 => ?_)
  · replace h := if_t h c1
    refine lv_aload_n hx hb dX12_kindOn_25 rfl (lv_at hl 0 rfl) ?_
    refine lv_aload_n hx hb dX12_kindOn_26 rfl (lv_at hl 0 rfl) ?_
    refine gM_heldNumber XX I dX12_kindOn_27 ?_
    refine lv_iload_n hx hb dX12_kindOn_30 rfl (lv_at hl 1 rfl) ?_
    obtain ⟨g2, h⟩ := gd_some h
    refine r_iald XX I 22 (aM_heldNumber) g2 dX12_kindOn_31 ?_
    refine wcall_i (rest := []) XX I hl.1 (c_M_isPerson l G OK ad sa (gr sa 41 x1.toNatClampNeg) _ rfl) kV_X12_238 (Rc.mk XX I (q0 := 0) (ci := 12) wM_o rfl) rfl rfl (Nat.le_of_ble_eq_true rfl) ⟨rfl, rfl, Nat.le_of_ble_eq_true rfl, Nat.le_of_ble_eq_true rfl⟩ ⟨Nat.zero_le _, Nat.zero_le _⟩ dX12_kindOn_32 (fun H locs hz3 I => ?_)
    refine lv_if_eq (tgt := 52) hx hb dX12_kindOn_35 (by decide) (fun c1 => ?_) (fun c1 => ?_)
    · replace h := if_t h c1
      refine lv_iconst (v := (-1)) hx hb dX12_kindOn_52 (by decide) ?_
      obtain rfl := some1 h
      exact e_i rfl XX hr I rfl dX12_kindOn_53
    · replace h := if_f h c1
      refine lv_aload_n hx hb dX12_kindOn_38 rfl (lv_at hl 0 rfl) ?_
      refine gM_kindOf XX I dX12_kindOn_39 ?_
      refine lv_aload_n hx hb dX12_kindOn_42 rfl (lv_at hl 0 rfl) ?_
      refine gM_heldNumber XX I dX12_kindOn_43 ?_
      refine lv_iload_n hx hb dX12_kindOn_46 rfl (lv_at hl 1 rfl) ?_
      obtain ⟨g4, h⟩ := gd_some h
      refine r_iald XX I 22 (aM_heldNumber) g4 dX12_kindOn_47 ?_
      obtain ⟨g5, h⟩ := gd_some h
      refine r_iald XX I 1 (aM_kindOf) g5 dX12_kindOn_48 ?_
      refine lv_goto (tgt := 53) hx hb dX12_kindOn_49 (by decide) ?_
      obtain rfl := some1 h
      exact e_i rfl XX hr I rfl dX12_kindOn_53
  · replace h := if_f h c1
    refine lv_aload_n hx hb dX12_kindOn_9 rfl (lv_at hl 0 rfl) ?_
    refine gM_held XX I dX12_kindOn_10 ?_
    refine lv_iload_n hx hb dX12_kindOn_13 rfl (lv_at hl 1 rfl) ?_
    obtain ⟨g6, h⟩ := gd_some h
    refine r_iald XX I 21 (aM_held) g6 dX12_kindOn_14 ?_
    refine lv_if_ge (tgt := 22) hx hb dX12_kindOn_15 (by decide) (fun c1 => ?_) (fun c1 => ?_)
    · replace h := if_t h c1
      refine lv_bipush (v := 9) hx hb dX12_kindOn_22 (by decide) ?_
      obtain rfl := some1 h
      exact e_i rfl XX hr I rfl dX12_kindOn_24
    · replace h := if_f h c1
      refine lv_iconst (v := (-1)) hx hb dX12_kindOn_18 (by decide) ?_
      refine lv_goto (tgt := 24) hx hb dX12_kindOn_19 (by decide) ?_
      obtain rfl := some1 h
      exact e_i rfl XX hr I rfl dX12_kindOn_24
set_option maxHeartbeats 4000000 in
set_option maxRecDepth 100000 in
theorem c_S_isUnder (l : Launch) (G : g_G) (OK : EOk G.2.2) (x0 : Int32) (x1 : Int32) (r : Int32) (h : f_S_isUnder x0 x1 = r) : HI l G yX12_isUnder (Cond.code yX12_isUnder cX12_isUnder 2 (some .boolean) :: gT) { frames := 0, cells := 0, slots := 0, locals := 0 } .boolean [.int x0, .int x1] [] r [] := by
  refine HI.mk (lv := [(0, .int x0), (1, .int x1)]) OK (by decide) (Nat.le_of_ble_eq_true rfl) rfl ?_
  intro p e s0 m args below meth c ls XX hr I hl
  have hx := XX.x
  have hb := XX.b
  have C19 : ∀ (v0 : Int32) (v1 : Int32), f_S_isUnder_L19 v0 v1 = r → ∀ (H : Heap) (locs : List Loc), Iv G (va_A [] s0.heap.size) s0 H locs [] → ∀ ls, lv_has ls 2 [(0, .int v0), (1, .int v1)] → W p l e { frames := 0, cells := 0, slots := 0, locals := 0 } s0 m args below meth c H locs 0 0 (QI G below .boolean r [] [] args s0) (F0 m 19 ls []) := by
    skip
    intro v0 v1 h H locs I ls hl
    unfold f_S_isUnder_L19 at h
    refine lv_iload_n hx hb dX12_isUnder_19 rfl (lv_at hl 1 rfl) ?_
    refine lv_iconst (v := 2) hx hb dX12_isUnder_20 (by decide) ?_
    refine lv_icmp_ne (tgt := 33) hx hb dX12_isUnder_21 (by decide) (fun c1 => ?_) (fun c1 => ?_)
    · replace h := if_f h c1
      refine lv_iconst (v := 0) hx hb dX12_isUnder_33 (by decide) ?_
      subst h
      exact e_z XX hr I rfl rfl dX12_isUnder_34
    · replace h := if_t h c1
      refine lv_iload_n hx hb dX12_isUnder_24 rfl (lv_at hl 0 rfl) ?_
      refine lv_iconst (v := 3) hx hb dX12_isUnder_25 (by decide) ?_
      refine lv_icmp_ne (tgt := 33) hx hb dX12_isUnder_26 (by decide) (fun c1 => ?_) (fun c1 => ?_)
      · replace h := if_f h c1
        refine lv_iconst (v := 0) hx hb dX12_isUnder_33 (by decide) ?_
        subst h
        exact e_z XX hr I rfl rfl dX12_isUnder_34
      · replace h := if_t h c1
        refine lv_iconst (v := 1) hx hb dX12_isUnder_29 (by decide) ?_
        refine lv_goto (tgt := 34) hx hb dX12_isUnder_30 (by decide) ?_
        subst h
        exact e_z XX hr I rfl rfl dX12_isUnder_34
  unfold f_S_isUnder at h
  refine lv_iload_n hx hb dX12_isUnder_0 rfl (lv_at hl 1 rfl) ?_
  refine lv_if_eq (tgt := 29) hx hb dX12_isUnder_1 (by decide) (fun c1 => ?_) (fun c1 => ?_)
  · replace h := if_t h c1
    refine lv_iconst (v := 1) hx hb dX12_isUnder_29 (by decide) ?_
    refine lv_goto (tgt := 34) hx hb dX12_isUnder_30 (by decide) ?_
    subst h
    exact e_z XX hr I rfl rfl dX12_isUnder_34
  · replace h := if_f h c1
    refine lv_iload_n hx hb dX12_isUnder_4 rfl (lv_at hl 1 rfl) ?_
    refine lv_iload_n hx hb dX12_isUnder_5 rfl (lv_at hl 0 rfl) ?_
    refine lv_icmp_eq (tgt := 29) hx hb dX12_isUnder_6 (by decide) (fun c1 => ?_) (fun c1 => ?_)
    · replace h := if_t h c1
      refine lv_iconst (v := 1) hx hb dX12_isUnder_29 (by decide) ?_
      refine lv_goto (tgt := 34) hx hb dX12_isUnder_30 (by decide) ?_
      subst h
      exact e_z XX hr I rfl rfl dX12_isUnder_34
    · replace h := if_f h c1
      refine lv_iload_n hx hb dX12_isUnder_9 rfl (lv_at hl 1 rfl) ?_
      refine lv_iconst (v := 1) hx hb dX12_isUnder_10 (by decide) ?_
      refine lv_icmp_ne (tgt := 19) hx hb dX12_isUnder_11 (by decide) (fun c1 => ?_) (fun c1 => ?_)
      · replace h := if_f h c1
        exact C19 _ _ h _ _ I ls (lv_sub hl [0, 1] rfl)
      · replace h := if_t h c1
        refine lv_iload_n hx hb dX12_isUnder_14 rfl (lv_at hl 0 rfl) ?_
        refine lv_iconst (v := 4) hx hb dX12_isUnder_15 (by decide) ?_
        refine lv_icmp_eq (tgt := 29) hx hb dX12_isUnder_16 (by decide) (fun c1 => ?_) (fun c1 => ?_)
        · replace h := if_t h c1
          refine lv_iconst (v := 1) hx hb dX12_isUnder_29 (by decide) ?_
          refine lv_goto (tgt := 34) hx hb dX12_isUnder_30 (by decide) ?_
          subst h
          exact e_z XX hr I rfl rfl dX12_isUnder_34
        · replace h := if_f h c1
          exact C19 _ _ h _ _ I ls (lv_sub hl [0, 1] rfl)
theorem kV_X12_367 : KV RX12 367 RX12 yX12_kindOn cX12_kindOn 2 (some .int) 1 := KV.mk wd_1491 wd_1493 wd_1652 wd_13 wd_1494 (by decide +kernel)
theorem kS_X12_370 : KS RX12 370 yX12_isUnder cX12_isUnder 2 (some .boolean) 2 := KS.mk wd_1495 wd_1496 wd_13 wd_1497 (by decide +kernel)
set_option maxHeartbeats 4000000 in
set_option maxRecDepth 100000 in
theorem c_M_taken (l : Launch) (G : g_G) (OK : EOk G.2.2) (ad : Nat → Nat) (sa : g_St) (x1 : Int32) (x2 : Int32) (r : Int32) (h : f_M_taken sa x1 x2 = some r) : HI l G yX12_taken (Cond.code yX12_taken cX12_taken 4 (some .int) :: gT) { frames := 3, cells := 0, slots := 0, locals := 64 } .int [.ref (ad 0), .int x1, .int x2] (wM G ad sa) r (wM G ad sa) := by
  refine HI.mk (lv := [(0, .ref (ad 0)), (1, .int x1), (2, .int x2)]) OK (by decide) (Nat.le_of_ble_eq_true rfl) rfl ?_
  intro p e s0 m args below meth c ls XX hr I hl
  have hx := XX.x
  have hb := XX.b
  have C29 : ∀ (v1 : Int32) (v2 : Int32), f_M_taken_L29 sa v1 v2 = some r → ∀ (H : Heap) (locs : List Loc), Iv G (va_A (wM G ad sa) s0.heap.size) s0 H locs (wM G ad sa) → ∀ ls, lv_has ls 4 [(0, .ref (ad 0)), (1, .int v1), (2, .int v2)] → W p l e { frames := 3, cells := 0, slots := 0, locals := 64 } s0 m args below meth c H locs 0 0 (QI G below .int r (wM G ad sa) (wM G ad sa) args s0) (F0 m 29 ls []) := by
    skip
    intro v1 v2 h H locs I ls hl
    unfold f_M_taken_L29 at h
    refine lv_aload_n hx hb dX12_taken_29 rfl (lv_at hl 0 rfl) ?_
    refine lv_iload_n hx hb dX12_taken_30 rfl (lv_at hl 1 rfl) ?_
    obtain ⟨r4, q5, h⟩ := bd1_some h
    refine wcall_i (rest := []) XX I hl.1 (c_M_kindOn l G OK ad sa v1 r4 q5) kV_X12_367 (Rc.mk XX I (q0 := 0) (ci := 12) wM_o rfl) rfl rfl (Nat.le_of_ble_eq_true rfl) ⟨rfl, rfl, Nat.le_of_ble_eq_true rfl, Nat.le_of_ble_eq_true rfl⟩ ⟨Nat.zero_le _, Nat.zero_le _⟩ dX12_taken_31 (fun H locs hz6 I => ?_)
    refine lv_istore_n (lv' := [(3, .int r4), (0, .ref (ad 0)), (1, .int v1), (2, .int v2)]) hx hb dX12_taken_34 rfl hl (by decide) rfl (fun ls hl => ?_)
    refine lv_iload_n hx hb dX12_taken_35 rfl (lv_at hl 0 rfl) ?_
    refine lv_if_ge (tgt := 42) hx hb dX12_taken_36 (by decide) (fun c1 => ?_) (fun c1 => ?_)
    · replace h := if_t h c1
      refine lv_iload_n hx hb dX12_taken_42 rfl (lv_at hl 0 rfl) ?_
      refine lv_bipush (v := 9) hx hb dX12_taken_43 (by decide) ?_
      refine lv_icmp_ne (tgt := 73) hx hb dX12_taken_45 (by decide) (fun c1 => ?_) (fun c1 => ?_)
      · replace h := if_f h c1
        refine lv_iload_n hx hb dX12_taken_73 rfl (lv_at hl 3 rfl) ?_
        refine lv_bipush (v := 10) hx hb dX12_taken_74 (by decide) ?_
        refine lv_icmp_ge (tgt := 96) hx hb dX12_taken_76 (by decide) (fun c1 => ?_) (fun c1 => ?_)
        · replace h := if_t h c1
          refine lv_bipush (v := (-13)) hx hb dX12_taken_96 (by decide) ?_
          obtain rfl := some1 h
          exact e_i rfl XX hr I rfl dX12_taken_98
        · replace h := if_f h c1
          refine lv_iload_n hx hb dX12_taken_79 rfl (lv_at hl 0 rfl) ?_
          refine lv_iload_n hx hb dX12_taken_80 rfl (lv_at hl 3 rfl) ?_
          refine scall_i (rest := []) XX I hl.1 (c_S_isUnder l G OK r4 v2 _ rfl) kS_X12_370 rfl rfl (Nat.le_of_ble_eq_true rfl) ⟨rfl, rfl, Nat.le_of_ble_eq_true rfl, Nat.le_of_ble_eq_true rfl⟩ ⟨Nat.zero_le _, Nat.zero_le _⟩ dX12_taken_81 (fun H locs hz7 I => ?_)
          refine lv_if_eq (tgt := 96) hx hb dX12_taken_84 (by decide) (fun c1 => ?_) (fun c1 => ?_)
          · replace h := if_t h c1
            refine lv_bipush (v := (-13)) hx hb dX12_taken_96 (by decide) ?_
            obtain rfl := some1 h
            exact e_i rfl XX hr I rfl dX12_taken_98
          · replace h := if_f h c1
            refine lv_aload_n hx hb dX12_taken_87 rfl (lv_at hl 1 rfl) ?_
            refine gM_heldNumber XX I dX12_taken_88 ?_
            refine lv_iload_n hx hb dX12_taken_91 rfl (lv_at hl 2 rfl) ?_
            obtain ⟨g8, h⟩ := gd_some h
            refine r_iald XX I 22 (aM_heldNumber) g8 dX12_taken_92 ?_
            refine lv_goto (tgt := 98) hx hb dX12_taken_93 (by decide) ?_
            obtain rfl := some1 h
            exact e_i rfl XX hr I rfl dX12_taken_98
      · replace h := if_t h c1
        refine lv_iload_n hx hb dX12_taken_48 rfl (lv_at hl 3 rfl) ?_
        refine lv_bipush (v := 10) hx hb dX12_taken_49 (by decide) ?_
        refine lv_aload_n hx hb dX12_taken_51 rfl (lv_at hl 1 rfl) ?_
        refine gM_heldNumber XX I dX12_taken_52 ?_
        refine lv_iload_n hx hb dX12_taken_55 rfl (lv_at hl 2 rfl) ?_
        obtain ⟨g9, h⟩ := gd_some h
        refine r_iald XX I 22 (aM_heldNumber) g9 dX12_taken_56 ?_
        refine lv_iadd hx hb dX12_taken_57 ?_
        refine lv_icmp_ne (tgt := 70) hx hb dX12_taken_58 (by decide) (fun c1 => ?_) (fun c1 => ?_)
        · replace h := if_f h c1
          refine lv_bipush (v := (-13)) hx hb dX12_taken_70 (by decide) ?_
          obtain rfl := some1 h
          exact e_i rfl XX hr I rfl dX12_taken_72
        · replace h := if_t h c1
          refine lv_aload_n hx hb dX12_taken_61 rfl (lv_at hl 1 rfl) ?_
          refine gM_heldSize XX I dX12_taken_62 ?_
          refine lv_iload_n hx hb dX12_taken_65 rfl (lv_at hl 2 rfl) ?_
          obtain ⟨g10, h⟩ := gd_some h
          refine r_iald XX I 23 (aM_heldSize) g10 dX12_taken_66 ?_
          refine lv_goto (tgt := 72) hx hb dX12_taken_67 (by decide) ?_
          obtain rfl := some1 h
          exact e_i rfl XX hr I rfl dX12_taken_72
    · replace h := if_f h c1
      refine lv_bipush (v := (-11)) hx hb dX12_taken_39 (by decide) ?_
      obtain rfl := some1 h
      exact e_i rfl XX hr I rfl dX12_taken_41
  unfold f_M_taken at h
  refine lv_iload_n hx hb dX12_taken_0 rfl (lv_at hl 1 rfl) ?_
  refine scall_i (rest := []) XX I hl.1 (c_S_isShelf l G OK x1 _ rfl) kS_X12_354 rfl rfl (Nat.le_of_ble_eq_true rfl) ⟨rfl, rfl, Nat.le_of_ble_eq_true rfl, Nat.le_of_ble_eq_true rfl⟩ ⟨Nat.zero_le _, Nat.zero_le _⟩ dX12_taken_1 (fun H locs hz1 I => ?_)
  refine lv_if_eq (tgt := 27) hx hb dX12_taken_4 (by decide) (fun c1 => ?_) (fun c1 => ?_)
  · replace h := if_t h c1
    refine lv_iconst (v := (-1)) hx hb dX12_taken_27 (by decide) ?_
    obtain rfl := some1 h
    exact e_i rfl XX hr I rfl dX12_taken_28
  · replace h := if_f h c1
    refine lv_iload_n hx hb dX12_taken_7 rfl (lv_at hl 2 rfl) ?_
    refine lv_iconst (v := 0) hx hb dX12_taken_8 (by decide) ?_
    refine lv_iconst (v := 5) hx hb dX12_taken_9 (by decide) ?_
    refine scall_i (rest := []) XX I hl.1 (c_S_in l G OK x2 (0 : Int32) (5 : Int32) _ rfl) kS_X12_99 rfl rfl (Nat.le_of_ble_eq_true rfl) ⟨rfl, rfl, Nat.le_of_ble_eq_true rfl, Nat.le_of_ble_eq_true rfl⟩ ⟨Nat.zero_le _, Nat.zero_le _⟩ dX12_taken_10 (fun H locs hz2 I => ?_)
    refine lv_if_ne (tgt := 29) hx hb dX12_taken_13 (by decide) (fun c1 => ?_) (fun c1 => ?_)
    · replace h := if_f h c1
      exact C29 _ _ h _ _ I ls (lv_sub hl [0, 1, 2] rfl)
    · replace h := if_t h c1
      refine lv_iload_n hx hb dX12_taken_16 rfl (lv_at hl 2 rfl) ?_
      refine lv_bipush (v := 10) hx hb dX12_taken_17 (by decide) ?_
      refine lv_bipush (v := 13) hx hb dX12_taken_19 (by decide) ?_
      refine scall_i (rest := []) XX I hl.1 (c_S_in l G OK x2 (10 : Int32) (13 : Int32) _ rfl) kS_X12_99 rfl rfl (Nat.le_of_ble_eq_true rfl) ⟨rfl, rfl, Nat.le_of_ble_eq_true rfl, Nat.le_of_ble_eq_true rfl⟩ ⟨Nat.zero_le _, Nat.zero_le _⟩ dX12_taken_21 (fun H locs hz3 I => ?_)
      refine lv_if_ne (tgt := 29) hx hb dX12_taken_24 (by decide) (fun c1 => ?_) (fun c1 => ?_)
      · replace h := if_f h c1
        exact C29 _ _ h _ _ I ls (lv_sub hl [0, 1, 2] rfl)
      · replace h := if_t h c1
        refine lv_iconst (v := (-1)) hx hb dX12_taken_27 (by decide) ?_
        obtain rfl := some1 h
        exact e_i rfl XX hr I rfl dX12_taken_28
set_option maxHeartbeats 4000000 in
set_option maxRecDepth 100000 in
theorem c_M_ran (l : Launch) (G : g_G) (OK : EOk G.2.2) (ad : Nat → Nat) (sa : g_St) (x1 : Int32) (ts : g_St) (h : f_M_ran sa x1 = some ts) : HV l G yX12_ran (Cond.code yX12_ran cX12_ran 2 none :: gT) { frames := 0, cells := 0, slots := 0, locals := 0 } [.ref (ad 0), .int x1] (wM G ad sa) (wM G ad ts) := by
  refine HV.mk (lv := [(0, .ref (ad 0)), (1, .int x1)]) OK (by decide) (Nat.le_of_ble_eq_true rfl) rfl ?_
  intro p e s0 m args below meth c ls XX hr I hl
  have hx := XX.x
  have hb := XX.b
  unfold f_M_ran at h
  refine lv_aload_n hx hb dX12_ran_0 rfl (lv_at hl 0 rfl) ?_
  refine gM_bodies XX I dX12_ran_1 ?_
  refine lv_bipush (v := 30) hx hb dX12_ran_4 (by decide) ?_
  refine lv_icmp_ge (tgt := 29) hx hb dX12_ran_6 (by decide) (fun c1 => ?_) (fun c1 => ?_)
  · replace h := if_t h c1
    obtain rfl := some1 h
    exact e_v XX hr I dX12_ran_29
  · replace h := if_f h c1
    refine lv_aload_n hx hb dX12_ran_9 rfl (lv_at hl 0 rfl) ?_
    refine gM_traced XX I dX12_ran_10 ?_
    refine lv_aload_n hx hb dX12_ran_13 rfl (lv_at hl 0 rfl) ?_
    refine gM_bodies XX I dX12_ran_14 ?_
    refine lv_iload_n hx hb dX12_ran_17 rfl (lv_at hl 1 rfl) ?_
    obtain ⟨g1, h⟩ := gd_some h
    refine r_iast XX I 24 (aM_traced) (sM_traced) g1 dX12_ran_18 (fun H locs I => ?_)
    obtain ⟨s2, es2⟩ : ∃ z, z = sr sa 46 (gi sa 47) x1 := ⟨_, rfl⟩
    replace h := lt_e h es2
    replace I : Iv G (va_A (wM G ad sa) s0.heap.size) s0 H locs (wM G ad s2) := by rw [es2]; exact I
    refine lv_aload_n hx hb dX12_ran_19 rfl (lv_at hl 0 rfl) ?_
    refine lv_dup hx hb dX12_ran_20 rfl ?_
    refine gM_bodies XX I dX12_ran_21 ?_
    refine lv_iconst (v := 1) hx hb dX12_ran_24 (by decide) ?_
    refine lv_iadd hx hb dX12_ran_25 ?_
    refine lv_topi (fun y3 ey3 => ?_)
    replace h := lt_e h ey3
    refine pM_bodies XX I dX12_ran_26 (fun H locs I => ?_)
    obtain ⟨s4, es4⟩ : ∃ z, z = si s2 47 y3 := ⟨_, rfl⟩
    replace h := lt_e h es4
    replace I : Iv G (va_A (wM G ad sa) s0.heap.size) s0 H locs (wM G ad s4) := by rw [es4]; exact I
    obtain rfl := some1 h
    exact e_v XX hr I dX12_ran_29
theorem kV_X12_376 : KV RX12 376 RX12 yX12_ran cX12_ran 2 none 1 := KV.mk wd_1510 wd_1512 wd_1655 wd_13 wd_1513 (by decide +kernel)
set_option maxHeartbeats 4000000 in
set_option maxRecDepth 100000 in
theorem c_M_plainBars (l : Launch) (G : g_G) (OK : EOk G.2.2) (ad : Nat → Nat) (sa : g_St) (x1 : Int32) (r : Int32) (ts : g_St) (h : f_M_plainBars sa x1 = some (r, ts)) : HI l G yX12_plainBars (Cond.code yX12_plainBars cX12_plainBars 2 (some .int) :: gT) { frames := 1, cells := 0, slots := 0, locals := 21 } .int [.ref (ad 0), .int x1] (wM G ad sa) r (wM G ad ts) := by
  refine HI.mk (lv := [(0, .ref (ad 0)), (1, .int x1)]) OK (by decide) (Nat.le_of_ble_eq_true rfl) rfl ?_
  intro p e s0 m args below meth c ls XX hr I hl
  have hx := XX.x
  have hb := XX.b
  unfold f_M_plainBars at h
  refine lv_aload_n hx hb dX12_plainBars_0 rfl (lv_at hl 0 rfl) ?_
  refine lv_bipush (v := 10) hx hb dX12_plainBars_1 (by decide) ?_
  obtain ⟨s1, q2, h⟩ := bd1_some h
  refine wcall_v (rest := []) XX I hl.1 (c_M_ran l G OK ad sa (10 : Int32) s1 q2) kV_X12_376 (Rc.mk XX I (q0 := 0) (ci := 12) wM_o rfl) rfl rfl (Nat.le_of_ble_eq_true rfl) ⟨rfl, rfl, Nat.le_of_ble_eq_true rfl, Nat.le_of_ble_eq_true rfl⟩ ⟨Nat.zero_le _, Nat.zero_le _⟩ dX12_plainBars_3 (fun H locs I => ?_)
  refine lv_iload_n hx hb dX12_plainBars_6 rfl (lv_at hl 1 rfl) ?_
  refine lv_aload_n hx hb dX12_plainBars_7 rfl (lv_at hl 0 rfl) ?_
  refine gM_number XX I dX12_plainBars_8 ?_
  refine lv_iadd hx hb dX12_plainBars_11 ?_
  obtain ⟨rfl, rfl⟩ := some2 h
  exact e_i rfl XX hr I rfl dX12_plainBars_12
theorem kV_X12_382 : KV RX12 382 RX12 yX12_plainBars cX12_plainBars 2 (some .int) 1 := KV.mk wd_1514 wd_1516 wd_1656 wd_13 wd_1517 (by decide +kernel)
set_option maxHeartbeats 4000000 in
set_option maxRecDepth 100000 in
theorem c_M_barBars (l : Launch) (G : g_G) (OK : EOk G.2.2) (ad : Nat → Nat) (sa : g_St) (x1 : Int32) (r : Int32) (ts : g_St) (h : f_M_barBars sa x1 = some (r, ts)) : HI l G yX12_barBars (Cond.code yX12_barBars cX12_barBars 2 (some .int) :: gT) { frames := 2, cells := 0, slots := 0, locals := 42 } .int [.ref (ad 0), .int x1] (wM G ad sa) r (wM G ad ts) := by
  refine HI.mk (lv := [(0, .ref (ad 0)), (1, .int x1)]) OK (by decide) (Nat.le_of_ble_eq_true rfl) rfl ?_
  intro p e s0 m args below meth c ls XX hr I hl
  have hx := XX.x
  have hb := XX.b
  unfold f_M_barBars at h
  refine lv_aload_n hx hb dX12_barBars_0 rfl (lv_at hl 0 rfl) ?_
  refine lv_bipush (v := 30) hx hb dX12_barBars_1 (by decide) ?_
  obtain ⟨s1, q2, h⟩ := bd1_some h
  refine wcall_v (rest := []) XX I hl.1 (c_M_ran l G OK ad sa (30 : Int32) s1 q2) kV_X12_376 (Rc.mk XX I (q0 := 0) (ci := 12) wM_o rfl) rfl rfl (Nat.le_of_ble_eq_true rfl) ⟨rfl, rfl, Nat.le_of_ble_eq_true rfl, Nat.le_of_ble_eq_true rfl⟩ ⟨Nat.zero_le _, Nat.zero_le _⟩ dX12_barBars_3 (fun H locs I => ?_)
  refine lv_aload_n hx hb dX12_barBars_6 rfl (lv_at hl 0 rfl) ?_
  refine lv_iload_n hx hb dX12_barBars_7 rfl (lv_at hl 1 rfl) ?_
  obtain ⟨r4, s5, q6, h⟩ := bd2_some h
  refine wcall_i (rest := []) XX I hl.1 (c_M_plainBars l G OK ad s1 x1 r4 s5 q6) kV_X12_382 (Rc.mk XX I (q0 := 0) (ci := 12) wM_o rfl) rfl rfl (Nat.le_of_ble_eq_true rfl) ⟨rfl, rfl, Nat.le_of_ble_eq_true rfl, Nat.le_of_ble_eq_true rfl⟩ ⟨Nat.zero_le _, Nat.zero_le _⟩ dX12_barBars_8 (fun H locs hz7 I => ?_)
  refine lv_iconst (v := 3) hx hb dX12_barBars_11 (by decide) ?_
  refine lv_imul hx hb dX12_barBars_12 ?_
  obtain ⟨rfl, rfl⟩ := some2 h
  exact e_i rfl XX hr I rfl dX12_barBars_13
theorem kV_X12_388 : KV RX12 388 RX12 yX12_barBars cX12_barBars 2 (some .int) 1 := KV.mk wd_1506 wd_1508 wd_1654 wd_13 wd_1509 (by decide +kernel)
set_option maxHeartbeats 4000000 in
set_option maxRecDepth 100000 in
theorem c_M_barsIt (l : Launch) (G : g_G) (OK : EOk G.2.2) (ad : Nat → Nat) (sa : g_St) (x1 : Int32) (r : Int32) (ts : g_St) (h : f_M_barsIt sa x1 = some (r, ts)) : HI l G yX12_barsIt (Cond.code yX12_barsIt cX12_barsIt 2 (some .int) :: gT) { frames := 3, cells := 0, slots := 0, locals := 63 } .int [.ref (ad 0), .int x1] (wM G ad sa) r (wM G ad ts) := by
  refine HI.mk (lv := [(0, .ref (ad 0)), (1, .int x1)]) OK (by decide) (Nat.le_of_ble_eq_true rfl) rfl ?_
  intro p e s0 m args below meth c ls XX hr I hl
  have hx := XX.x
  have hb := XX.b
  unfold f_M_barsIt at h
  refine lv_aload_n hx hb dX12_barsIt_0 rfl (lv_at hl 0 rfl) ?_
  refine gM_actKind XX I dX12_barsIt_1 ?_
  refine lv_topi (fun y1 ey1 => ?_)
  replace h := lt_e h ey1
  by_cases q2 : y1 = (2 : Int32)
  · replace h := if_t h q2
    refine lv_tableIn (tgt := 32) (off := 28) hx hb dX12_barsIt_4 (by rw [q2]; decide) (by rw [q2]; decide) (by rw [q2]; rfl) (by decide) ?_
    refine lv_aload_n hx hb dX12_barsIt_32 rfl (lv_at hl 0 rfl) ?_
    refine lv_iload_n hx hb dX12_barsIt_33 rfl (lv_at hl 1 rfl) ?_
    obtain ⟨r2, s3, q4, h⟩ := bd2_some h
    refine wcall_i (rest := []) XX I hl.1 (c_M_barBars l G OK ad sa x1 r2 s3 q4) kV_X12_388 (Rc.mk XX I (q0 := 0) (ci := 12) wM_o rfl) rfl rfl (Nat.le_of_ble_eq_true rfl) ⟨rfl, rfl, Nat.le_of_ble_eq_true rfl, Nat.le_of_ble_eq_true rfl⟩ ⟨Nat.zero_le _, Nat.zero_le _⟩ dX12_barsIt_34 (fun H locs hz5 I => ?_)
    obtain ⟨rfl, rfl⟩ := some2 h
    exact e_i rfl XX hr I rfl dX12_barsIt_37
  replace h := if_f h q2
  by_cases q3 : y1 = (3 : Int32)
  · replace h := if_t h q3
    refine lv_tableIn (tgt := 38) (off := 34) hx hb dX12_barsIt_4 (by rw [q3]; decide) (by rw [q3]; decide) (by rw [q3]; rfl) (by decide) ?_
    refine lv_aload_n hx hb dX12_barsIt_38 rfl (lv_at hl 0 rfl) ?_
    refine lv_bipush (v := 40) hx hb dX12_barsIt_39 (by decide) ?_
    obtain ⟨s6, q7, h⟩ := bd1_some h
    refine wcall_v (rest := []) XX I hl.1 (c_M_ran l G OK ad sa (40 : Int32) s6 q7) kV_X12_376 (Rc.mk XX I (q0 := 0) (ci := 12) wM_o rfl) rfl rfl (Nat.le_of_ble_eq_true rfl) ⟨rfl, rfl, Nat.le_of_ble_eq_true rfl, Nat.le_of_ble_eq_true rfl⟩ ⟨Nat.zero_le _, Nat.zero_le _⟩ dX12_barsIt_41 (fun H locs I => ?_)
    refine lv_iconst (v := 0) hx hb dX12_barsIt_44 (by decide) ?_
    refine lv_aload_n hx hb dX12_barsIt_45 rfl (lv_at hl 0 rfl) ?_
    refine lv_iload_n hx hb dX12_barsIt_46 rfl (lv_at hl 1 rfl) ?_
    obtain ⟨r9, s10, q11, h⟩ := bd2_some h
    refine wcall_i (rest := [.int (0 : Int32)]) XX I hl.1 (c_M_barBars l G OK ad s6 x1 r9 s10 q11) kV_X12_388 (Rc.mk XX I (q0 := 0) (ci := 12) wM_o rfl) rfl rfl (Nat.le_of_ble_eq_true rfl) ⟨rfl, rfl, Nat.le_of_ble_eq_true rfl, Nat.le_of_ble_eq_true rfl⟩ ⟨Nat.zero_le _, Nat.zero_le _⟩ dX12_barsIt_47 (fun H locs hz12 I => ?_)
    refine lv_isub hx hb dX12_barsIt_50 ?_
    obtain ⟨rfl, rfl⟩ := some2 h
    exact e_i rfl XX hr I rfl dX12_barsIt_51
  replace h := if_f h q3
  by_cases q4 : y1 = (4 : Int32)
  · replace h := if_t h q4
    refine lv_tableIn (tgt := 52) (off := 48) hx hb dX12_barsIt_4 (by rw [q4]; decide) (by rw [q4]; decide) (by rw [q4]; rfl) (by decide) ?_
    refine lv_aload_n hx hb dX12_barsIt_52 rfl (lv_at hl 0 rfl) ?_
    refine lv_bipush (v := 51) hx hb dX12_barsIt_53 (by decide) ?_
    obtain ⟨s13, q14, h⟩ := bd1_some h
    refine wcall_v (rest := []) XX I hl.1 (c_M_ran l G OK ad sa (51 : Int32) s13 q14) kV_X12_376 (Rc.mk XX I (q0 := 0) (ci := 12) wM_o rfl) rfl rfl (Nat.le_of_ble_eq_true rfl) ⟨rfl, rfl, Nat.le_of_ble_eq_true rfl, Nat.le_of_ble_eq_true rfl⟩ ⟨Nat.zero_le _, Nat.zero_le _⟩ dX12_barsIt_55 (fun H locs I => ?_)
    refine lv_aload_n hx hb dX12_barsIt_58 rfl (lv_at hl 0 rfl) ?_
    refine lv_iload_n hx hb dX12_barsIt_59 rfl (lv_at hl 1 rfl) ?_
    obtain ⟨r16, s17, q18, h⟩ := bd2_some h
    refine wcall_i (rest := []) XX I hl.1 (c_M_plainBars l G OK ad s13 x1 r16 s17 q18) kV_X12_382 (Rc.mk XX I (q0 := 0) (ci := 12) wM_o rfl) rfl rfl (Nat.le_of_ble_eq_true rfl) ⟨rfl, rfl, Nat.le_of_ble_eq_true rfl, Nat.le_of_ble_eq_true rfl⟩ ⟨Nat.zero_le _, Nat.zero_le _⟩ dX12_barsIt_60 (fun H locs hz19 I => ?_)
    refine lv_aload_n hx hb dX12_barsIt_63 rfl (lv_at hl 0 rfl) ?_
    refine gM_number XX I dX12_barsIt_64 ?_
    refine lv_isub hx hb dX12_barsIt_67 ?_
    obtain ⟨rfl, rfl⟩ := some2 h
    exact e_i rfl XX hr I rfl dX12_barsIt_68
  replace h := if_f h q4
  refine lv_tableOut (tgt := 69) hx hb dX12_barsIt_4 (tab_out (lo := 2) (hi := 4) (fun k k1 k2 => by rcases (show k = 2 ∨ k = 3 ∨ k = 4 by omega) with rfl | rfl | rfl <;> assumption)) (by decide) ?_
  refine lv_aload_n hx hb dX12_barsIt_69 rfl (lv_at hl 0 rfl) ?_
  refine lv_iload_n hx hb dX12_barsIt_70 rfl (lv_at hl 1 rfl) ?_
  obtain ⟨r20, s21, q22, h⟩ := bd2_some h
  refine wcall_i (rest := []) XX I hl.1 (c_M_plainBars l G OK ad sa x1 r20 s21 q22) kV_X12_382 (Rc.mk XX I (q0 := 0) (ci := 12) wM_o rfl) rfl rfl (Nat.le_of_ble_eq_true rfl) ⟨rfl, rfl, Nat.le_of_ble_eq_true rfl, Nat.le_of_ble_eq_true rfl⟩ ⟨Nat.zero_le _, Nat.zero_le _⟩ dX12_barsIt_71 (fun H locs hz23 I => ?_)
  obtain ⟨rfl, rfl⟩ := some2 h
  exact e_i rfl XX hr I rfl dX12_barsIt_74
theorem kV_X12_391 : KV RX12 391 RX12 yX12_barsIt cX12_barsIt 2 (some .int) 1 := KV.mk wd_1502 wd_1504 wd_1653 wd_13 wd_1505 (by decide +kernel)
set_option maxHeartbeats 4000000 in
set_option maxRecDepth 100000 in
theorem c_M_plainWaits (l : Launch) (G : g_G) (OK : EOk G.2.2) (ad : Nat → Nat) (sa : g_St) (x1 : Int32) (r : Int32) (ts : g_St) (h : f_M_plainWaits sa x1 = some (r, ts)) : HI l G yX12_plainWaits (Cond.code yX12_plainWaits cX12_plainWaits 2 (some .int) :: gT) { frames := 4, cells := 0, slots := 0, locals := 84 } .int [.ref (ad 0), .int x1] (wM G ad sa) r (wM G ad ts) := by
  refine HI.mk (lv := [(0, .ref (ad 0)), (1, .int x1)]) OK (by decide) (Nat.le_of_ble_eq_true rfl) rfl ?_
  intro p e s0 m args below meth c ls XX hr I hl
  have hx := XX.x
  have hb := XX.b
  unfold f_M_plainWaits at h
  refine lv_aload_n hx hb dX12_plainWaits_0 rfl (lv_at hl 0 rfl) ?_
  refine lv_bipush (v := 11) hx hb dX12_plainWaits_1 (by decide) ?_
  obtain ⟨s1, q2, h⟩ := bd1_some h
  refine wcall_v (rest := []) XX I hl.1 (c_M_ran l G OK ad sa (11 : Int32) s1 q2) kV_X12_376 (Rc.mk XX I (q0 := 0) (ci := 12) wM_o rfl) rfl rfl (Nat.le_of_ble_eq_true rfl) ⟨rfl, rfl, Nat.le_of_ble_eq_true rfl, Nat.le_of_ble_eq_true rfl⟩ ⟨Nat.zero_le _, Nat.zero_le _⟩ dX12_plainWaits_3 (fun H locs I => ?_)
  refine lv_aload_n hx hb dX12_plainWaits_6 rfl (lv_at hl 0 rfl) ?_
  refine lv_iload_n hx hb dX12_plainWaits_7 rfl (lv_at hl 1 rfl) ?_
  obtain ⟨r4, s5, q6, h⟩ := bd2_some h
  refine wcall_i (rest := []) XX I hl.1 (c_M_barsIt l G OK ad s1 x1 r4 s5 q6) kV_X12_391 (Rc.mk XX I (q0 := 0) (ci := 12) wM_o rfl) rfl rfl (Nat.le_of_ble_eq_true rfl) ⟨rfl, rfl, Nat.le_of_ble_eq_true rfl, Nat.le_of_ble_eq_true rfl⟩ ⟨Nat.zero_le _, Nat.zero_le _⟩ dX12_plainWaits_8 (fun H locs hz7 I => ?_)
  refine lv_iconst (v := 2) hx hb dX12_plainWaits_11 (by decide) ?_
  refine lv_imul hx hb dX12_plainWaits_12 ?_
  obtain ⟨rfl, rfl⟩ := some2 h
  exact e_i rfl XX hr I rfl dX12_plainWaits_13
theorem kV_X12_394 : KV RX12 394 RX12 yX12_plainWaits cX12_plainWaits 2 (some .int) 1 := KV.mk wd_1522 wd_1524 wd_1658 wd_13 wd_1525 (by decide +kernel)
set_option maxHeartbeats 4000000 in
set_option maxRecDepth 100000 in
theorem c_M_waitsIt (l : Launch) (G : g_G) (OK : EOk G.2.2) (ad : Nat → Nat) (sa : g_St) (x1 : Int32) (r : Int32) (ts : g_St) (h : f_M_waitsIt sa x1 = some (r, ts)) : HI l G yX12_waitsIt (Cond.code yX12_waitsIt cX12_waitsIt 3 (some .int) :: gT) { frames := 5, cells := 0, slots := 0, locals := 105 } .int [.ref (ad 0), .int x1] (wM G ad sa) r (wM G ad ts) := by
  refine HI.mk (lv := [(0, .ref (ad 0)), (1, .int x1)]) OK (by decide) (Nat.le_of_ble_eq_true rfl) rfl ?_
  intro p e s0 m args below meth c ls XX hr I hl
  have hx := XX.x
  have hb := XX.b
  have C16 : ∀ (s : g_St) (v1 : Int32), f_M_waitsIt_L16 s v1 = some (r, ts) → ∀ (H : Heap) (locs : List Loc), Iv G (va_A (wM G ad sa) s0.heap.size) s0 H locs (wM G ad s) → ∀ ls, lv_has ls 3 [(0, .ref (ad 0)), (1, .int v1)] → W p l e { frames := 5, cells := 0, slots := 0, locals := 105 } s0 m args below meth c H locs 0 0 (QI G below .int r (wM G ad sa) (wM G ad ts) args s0) (F0 m 16 ls []) := by
    skip
    intro s v1 h H locs I ls hl
    unfold f_M_waitsIt_L16 at h
    refine lv_aload_n hx hb dX12_waitsIt_16 rfl (lv_at hl 0 rfl) ?_
    refine lv_bipush (v := 20) hx hb dX12_waitsIt_17 (by decide) ?_
    obtain ⟨s16, q17, h⟩ := bd1_some h
    refine wcall_v (rest := []) XX I hl.1 (c_M_ran l G OK ad s (20 : Int32) s16 q17) kV_X12_376 (Rc.mk XX I (q0 := 0) (ci := 12) wM_o rfl) rfl rfl (Nat.le_of_ble_eq_true rfl) ⟨rfl, rfl, Nat.le_of_ble_eq_true rfl, Nat.le_of_ble_eq_true rfl⟩ ⟨Nat.zero_le _, Nat.zero_le _⟩ dX12_waitsIt_19 (fun H locs I => ?_)
    refine lv_aload_n hx hb dX12_waitsIt_22 rfl (lv_at hl 0 rfl) ?_
    refine lv_iload_n hx hb dX12_waitsIt_23 rfl (lv_at hl 1 rfl) ?_
    obtain ⟨r19, s20, q21, h⟩ := bd2_some h
    refine wcall_i (rest := []) XX I hl.1 (c_M_plainWaits l G OK ad s16 v1 r19 s20 q21) kV_X12_394 (Rc.mk XX I (q0 := 0) (ci := 12) wM_o rfl) rfl rfl (Nat.le_of_ble_eq_true rfl) ⟨rfl, rfl, Nat.le_of_ble_eq_true rfl, Nat.le_of_ble_eq_true rfl⟩ ⟨Nat.zero_le _, Nat.zero_le _⟩ dX12_waitsIt_24 (fun H locs hz22 I => ?_)
    refine lv_aload_n hx hb dX12_waitsIt_27 rfl (lv_at hl 0 rfl) ?_
    refine gM_own XX I dX12_waitsIt_28 ?_
    refine lv_isub hx hb dX12_waitsIt_31 ?_
    obtain ⟨rfl, rfl⟩ := some2 h
    exact e_i rfl XX hr I rfl dX12_waitsIt_32
  unfold f_M_waitsIt at h
  refine lv_aload_n hx hb dX12_waitsIt_0 rfl (lv_at hl 0 rfl) ?_
  refine gM_actKind XX I dX12_waitsIt_1 ?_
  refine lv_iconst (v := 1) hx hb dX12_waitsIt_4 (by decide) ?_
  refine lv_icmp_eq (tgt := 16) hx hb dX12_waitsIt_5 (by decide) (fun c1 => ?_) (fun c1 => ?_)
  · replace h := if_t h c1
    exact C16 _ _ h _ _ I ls (lv_sub hl [0, 1] rfl)
  · replace h := if_f h c1
    refine lv_aload_n hx hb dX12_waitsIt_8 rfl (lv_at hl 0 rfl) ?_
    refine gM_actKind XX I dX12_waitsIt_9 ?_
    refine lv_iconst (v := 4) hx hb dX12_waitsIt_12 (by decide) ?_
    refine lv_icmp_ne (tgt := 33) hx hb dX12_waitsIt_13 (by decide) (fun c1 => ?_) (fun c1 => ?_)
    · replace h := if_f h c1
      refine lv_aload_n hx hb dX12_waitsIt_33 rfl (lv_at hl 0 rfl) ?_
      refine gM_actKind XX I dX12_waitsIt_34 ?_
      refine lv_iconst (v := 3) hx hb dX12_waitsIt_37 (by decide) ?_
      refine lv_icmp_ne (tgt := 64) hx hb dX12_waitsIt_38 (by decide) (fun c1 => ?_) (fun c1 => ?_)
      · replace h := if_f h c1
        refine lv_aload_n hx hb dX12_waitsIt_64 rfl (lv_at hl 0 rfl) ?_
        refine lv_iload_n hx hb dX12_waitsIt_65 rfl (lv_at hl 1 rfl) ?_
        obtain ⟨r1, s2, q3, h⟩ := bd2_some h
        refine wcall_i (rest := []) XX I hl.1 (c_M_plainWaits l G OK ad sa x1 r1 s2 q3) kV_X12_394 (Rc.mk XX I (q0 := 0) (ci := 12) wM_o rfl) rfl rfl (Nat.le_of_ble_eq_true rfl) ⟨rfl, rfl, Nat.le_of_ble_eq_true rfl, Nat.le_of_ble_eq_true rfl⟩ ⟨Nat.zero_le _, Nat.zero_le _⟩ dX12_waitsIt_66 (fun H locs hz4 I => ?_)
        obtain ⟨rfl, rfl⟩ := some2 h
        exact e_i rfl XX hr I rfl dX12_waitsIt_69
      · replace h := if_t h c1
        refine lv_aload_n hx hb dX12_waitsIt_41 rfl (lv_at hl 0 rfl) ?_
        refine lv_bipush (v := 41) hx hb dX12_waitsIt_42 (by decide) ?_
        obtain ⟨s5, q6, h⟩ := bd1_some h
        refine wcall_v (rest := []) XX I hl.1 (c_M_ran l G OK ad sa (41 : Int32) s5 q6) kV_X12_376 (Rc.mk XX I (q0 := 0) (ci := 12) wM_o rfl) rfl rfl (Nat.le_of_ble_eq_true rfl) ⟨rfl, rfl, Nat.le_of_ble_eq_true rfl, Nat.le_of_ble_eq_true rfl⟩ ⟨Nat.zero_le _, Nat.zero_le _⟩ dX12_waitsIt_44 (fun H locs I => ?_)
        refine lv_aload_n hx hb dX12_waitsIt_47 rfl (lv_at hl 0 rfl) ?_
        refine lv_iload_n hx hb dX12_waitsIt_48 rfl (lv_at hl 1 rfl) ?_
        obtain ⟨r8, s9, q10, h⟩ := bd2_some h
        refine wcall_i (rest := []) XX I hl.1 (c_M_plainWaits l G OK ad s5 x1 r8 s9 q10) kV_X12_394 (Rc.mk XX I (q0 := 0) (ci := 12) wM_o rfl) rfl rfl (Nat.le_of_ble_eq_true rfl) ⟨rfl, rfl, Nat.le_of_ble_eq_true rfl, Nat.le_of_ble_eq_true rfl⟩ ⟨Nat.zero_le _, Nat.zero_le _⟩ dX12_waitsIt_49 (fun H locs hz11 I => ?_)
        refine lv_istore_n (lv' := [(2, .int r8), (0, .ref (ad 0)), (1, .int x1)]) hx hb dX12_waitsIt_52 rfl hl (by decide) rfl (fun ls hl => ?_)
        refine lv_iload_n hx hb dX12_waitsIt_53 rfl (lv_at hl 0 rfl) ?_
        refine lv_aload_n hx hb dX12_waitsIt_54 rfl (lv_at hl 1 rfl) ?_
        refine lv_aload_n hx hb dX12_waitsIt_55 rfl (lv_at hl 1 rfl) ?_
        refine gM_number XX I dX12_waitsIt_56 ?_
        obtain ⟨r12, s13, q14, h⟩ := bd2_some h
        refine wcall_i (rest := [.int r8]) XX I hl.1 (c_M_barsIt l G OK ad s9 (gi s9 44) r12 s13 q14) kV_X12_391 (Rc.mk XX I (q0 := 0) (ci := 12) wM_o rfl) rfl rfl (Nat.le_of_ble_eq_true rfl) ⟨rfl, rfl, Nat.le_of_ble_eq_true rfl, Nat.le_of_ble_eq_true rfl⟩ ⟨Nat.zero_le _, Nat.zero_le _⟩ dX12_waitsIt_59 (fun H locs hz15 I => ?_)
        refine lv_iadd hx hb dX12_waitsIt_62 ?_
        obtain ⟨rfl, rfl⟩ := some2 h
        exact e_i rfl XX hr I rfl dX12_waitsIt_63
    · replace h := if_t h c1
      exact C16 _ _ h _ _ I ls (lv_sub hl [0, 1] rfl)
set_option maxHeartbeats 4000000 in
set_option maxRecDepth 100000 in
theorem c_M_plainShares (l : Launch) (G : g_G) (OK : EOk G.2.2) (ad : Nat → Nat) (sa : g_St) (x1 : Int32) (r : Int32) (ts : g_St) (h : f_M_plainShares sa x1 = some (r, ts)) : HI l G yX12_plainShares (Cond.code yX12_plainShares cX12_plainShares 2 (some .int) :: gT) { frames := 1, cells := 0, slots := 0, locals := 21 } .int [.ref (ad 0), .int x1] (wM G ad sa) r (wM G ad ts) := by
  refine HI.mk (lv := [(0, .ref (ad 0)), (1, .int x1)]) OK (by decide) (Nat.le_of_ble_eq_true rfl) rfl ?_
  intro p e s0 m args below meth c ls XX hr I hl
  have hx := XX.x
  have hb := XX.b
  unfold f_M_plainShares at h
  refine lv_aload_n hx hb dX12_plainShares_0 rfl (lv_at hl 0 rfl) ?_
  refine lv_bipush (v := 12) hx hb dX12_plainShares_1 (by decide) ?_
  obtain ⟨s1, q2, h⟩ := bd1_some h
  refine wcall_v (rest := []) XX I hl.1 (c_M_ran l G OK ad sa (12 : Int32) s1 q2) kV_X12_376 (Rc.mk XX I (q0 := 0) (ci := 12) wM_o rfl) rfl rfl (Nat.le_of_ble_eq_true rfl) ⟨rfl, rfl, Nat.le_of_ble_eq_true rfl, Nat.le_of_ble_eq_true rfl⟩ ⟨Nat.zero_le _, Nat.zero_le _⟩ dX12_plainShares_3 (fun H locs I => ?_)
  refine lv_aload_n hx hb dX12_plainShares_6 rfl (lv_at hl 0 rfl) ?_
  refine gM_own XX I dX12_plainShares_7 ?_
  refine lv_aload_n hx hb dX12_plainShares_10 rfl (lv_at hl 0 rfl) ?_
  refine gM_number XX I dX12_plainShares_11 ?_
  refine lv_icmp_ne (tgt := 24) hx hb dX12_plainShares_14 (by decide) (fun c1 => ?_) (fun c1 => ?_)
  · replace h := if_f h c1
    refine lv_iload_n hx hb dX12_plainShares_24 rfl (lv_at hl 1 rfl) ?_
    refine lv_aload_n hx hb dX12_plainShares_25 rfl (lv_at hl 0 rfl) ?_
    refine gM_own XX I dX12_plainShares_26 ?_
    refine lv_aload_n hx hb dX12_plainShares_29 rfl (lv_at hl 0 rfl) ?_
    refine gM_number XX I dX12_plainShares_30 ?_
    refine lv_isub hx hb dX12_plainShares_33 ?_
    obtain ⟨g4, h⟩ := gd_some h
    refine lv_idiv hx hb dX12_plainShares_34 g4 ?_
    obtain ⟨rfl, rfl⟩ := some2 h
    exact e_i rfl XX hr I rfl dX12_plainShares_35
  · replace h := if_t h c1
    refine lv_aload_n hx hb dX12_plainShares_17 rfl (lv_at hl 0 rfl) ?_
    refine lv_iconst (v := 1) hx hb dX12_plainShares_18 (by decide) ?_
    refine pM_isParted XX I (rfl) dX12_plainShares_19 (fun H locs I => ?_)
    obtain ⟨s5, es5⟩ : ∃ z, z = si s1 48 (1 : Int32) := ⟨_, rfl⟩
    replace h := lt_e h es5
    replace I : Iv G (va_A (wM G ad sa) s0.heap.size) s0 H locs (wM G ad s5) := by rw [es5]; exact I
    refine lv_iconst (v := 0) hx hb dX12_plainShares_22 (by decide) ?_
    obtain ⟨rfl, rfl⟩ := some2 h
    exact e_i rfl XX hr I rfl dX12_plainShares_23
theorem kV_X12_403 : KV RX12 403 RX12 yX12_plainShares cX12_plainShares 2 (some .int) 1 := KV.mk wd_1530 wd_1532 wd_1660 wd_13 wd_1533 (by decide +kernel)
set_option maxHeartbeats 4000000 in
set_option maxRecDepth 100000 in
theorem c_M_sharesIt (l : Launch) (G : g_G) (OK : EOk G.2.2) (ad : Nat → Nat) (sa : g_St) (x1 : Int32) (r : Int32) (ts : g_St) (h : f_M_sharesIt sa x1 = some (r, ts)) : HI l G yX12_sharesIt (Cond.code yX12_sharesIt cX12_sharesIt 3 (some .int) :: gT) { frames := 4, cells := 0, slots := 0, locals := 84 } .int [.ref (ad 0), .int x1] (wM G ad sa) r (wM G ad ts) := by
  refine HI.mk (lv := [(0, .ref (ad 0)), (1, .int x1)]) OK (by decide) (Nat.le_of_ble_eq_true rfl) rfl ?_
  intro p e s0 m args below meth c ls XX hr I hl
  have hx := XX.x
  have hb := XX.b
  unfold f_M_sharesIt at h
  refine lv_aload_n hx hb dX12_sharesIt_0 rfl (lv_at hl 0 rfl) ?_
  refine gM_actKind XX I dX12_sharesIt_1 ?_
  refine lv_iconst (v := 4) hx hb dX12_sharesIt_4 (by decide) ?_
  refine lv_icmp_ne (tgt := 24) hx hb dX12_sharesIt_5 (by decide) (fun c1 => ?_) (fun c1 => ?_)
  · replace h := if_f h c1
    refine lv_aload_n hx hb dX12_sharesIt_24 rfl (lv_at hl 0 rfl) ?_
    refine gM_actKind XX I dX12_sharesIt_25 ?_
    refine lv_iconst (v := 5) hx hb dX12_sharesIt_28 (by decide) ?_
    refine lv_icmp_ne (tgt := 66) hx hb dX12_sharesIt_29 (by decide) (fun c1 => ?_) (fun c1 => ?_)
    · replace h := if_f h c1
      refine lv_aload_n hx hb dX12_sharesIt_66 rfl (lv_at hl 0 rfl) ?_
      refine lv_iload_n hx hb dX12_sharesIt_67 rfl (lv_at hl 1 rfl) ?_
      obtain ⟨r1, s2, q3, h⟩ := bd2_some h
      refine wcall_i (rest := []) XX I hl.1 (c_M_plainShares l G OK ad sa x1 r1 s2 q3) kV_X12_403 (Rc.mk XX I (q0 := 0) (ci := 12) wM_o rfl) rfl rfl (Nat.le_of_ble_eq_true rfl) ⟨rfl, rfl, Nat.le_of_ble_eq_true rfl, Nat.le_of_ble_eq_true rfl⟩ ⟨Nat.zero_le _, Nat.zero_le _⟩ dX12_sharesIt_68 (fun H locs hz4 I => ?_)
      obtain ⟨rfl, rfl⟩ := some2 h
      exact e_i rfl XX hr I rfl dX12_sharesIt_71
    · replace h := if_t h c1
      refine lv_aload_n hx hb dX12_sharesIt_32 rfl (lv_at hl 0 rfl) ?_
      refine lv_bipush (v := 61) hx hb dX12_sharesIt_33 (by decide) ?_
      obtain ⟨s5, q6, h⟩ := bd1_some h
      refine wcall_v (rest := []) XX I hl.1 (c_M_ran l G OK ad sa (61 : Int32) s5 q6) kV_X12_376 (Rc.mk XX I (q0 := 0) (ci := 12) wM_o rfl) rfl rfl (Nat.le_of_ble_eq_true rfl) ⟨rfl, rfl, Nat.le_of_ble_eq_true rfl, Nat.le_of_ble_eq_true rfl⟩ ⟨Nat.zero_le _, Nat.zero_le _⟩ dX12_sharesIt_35 (fun H locs I => ?_)
      refine lv_aload_n hx hb dX12_sharesIt_38 rfl (lv_at hl 0 rfl) ?_
      refine lv_iload_n hx hb dX12_sharesIt_39 rfl (lv_at hl 1 rfl) ?_
      obtain ⟨r8, s9, q10, h⟩ := bd2_some h
      refine wcall_i (rest := []) XX I hl.1 (c_M_plainShares l G OK ad s5 x1 r8 s9 q10) kV_X12_403 (Rc.mk XX I (q0 := 0) (ci := 12) wM_o rfl) rfl rfl (Nat.le_of_ble_eq_true rfl) ⟨rfl, rfl, Nat.le_of_ble_eq_true rfl, Nat.le_of_ble_eq_true rfl⟩ ⟨Nat.zero_le _, Nat.zero_le _⟩ dX12_sharesIt_40 (fun H locs hz11 I => ?_)
      refine lv_istore_n (lv' := [(2, .int r8), (0, .ref (ad 0)), (1, .int x1)]) hx hb dX12_sharesIt_43 rfl hl (by decide) rfl (fun ls hl => ?_)
      refine lv_aload_n hx hb dX12_sharesIt_44 rfl (lv_at hl 1 rfl) ?_
      refine gM_isParted XX I dX12_sharesIt_45 ?_
      refine lv_if_eq (tgt := 55) hx hb dX12_sharesIt_48 (by decide) (fun c1 => ?_) (fun c1 => ?_)
      · replace h := if_t h c1
        refine lv_iload_n hx hb dX12_sharesIt_55 rfl (lv_at hl 0 rfl) ?_
        refine lv_aload_n hx hb dX12_sharesIt_56 rfl (lv_at hl 1 rfl) ?_
        refine lv_aload_n hx hb dX12_sharesIt_57 rfl (lv_at hl 1 rfl) ?_
        refine gM_own XX I dX12_sharesIt_58 ?_
        obtain ⟨r12, s13, q14, h⟩ := bd2_some h
        refine wcall_i (rest := [.int r8]) XX I hl.1 (c_M_barsIt l G OK ad s9 (gi s9 45) r12 s13 q14) kV_X12_391 (Rc.mk XX I (q0 := 0) (ci := 12) wM_o rfl) rfl rfl (Nat.le_of_ble_eq_true rfl) ⟨rfl, rfl, Nat.le_of_ble_eq_true rfl, Nat.le_of_ble_eq_true rfl⟩ ⟨Nat.zero_le _, Nat.zero_le _⟩ dX12_sharesIt_61 (fun H locs hz15 I => ?_)
        refine lv_iadd hx hb dX12_sharesIt_64 ?_
        obtain ⟨rfl, rfl⟩ := some2 h
        exact e_i rfl XX hr I rfl dX12_sharesIt_65
      · replace h := if_f h c1
        refine lv_iconst (v := 0) hx hb dX12_sharesIt_51 (by decide) ?_
        refine lv_goto (tgt := 65) hx hb dX12_sharesIt_52 (by decide) ?_
        obtain ⟨rfl, rfl⟩ := some2 h
        exact e_i rfl XX hr I rfl dX12_sharesIt_65
  · replace h := if_t h c1
    refine lv_aload_n hx hb dX12_sharesIt_8 rfl (lv_at hl 0 rfl) ?_
    refine lv_bipush (v := 50) hx hb dX12_sharesIt_9 (by decide) ?_
    obtain ⟨s16, q17, h⟩ := bd1_some h
    refine wcall_v (rest := []) XX I hl.1 (c_M_ran l G OK ad sa (50 : Int32) s16 q17) kV_X12_376 (Rc.mk XX I (q0 := 0) (ci := 12) wM_o rfl) rfl rfl (Nat.le_of_ble_eq_true rfl) ⟨rfl, rfl, Nat.le_of_ble_eq_true rfl, Nat.le_of_ble_eq_true rfl⟩ ⟨Nat.zero_le _, Nat.zero_le _⟩ dX12_sharesIt_11 (fun H locs I => ?_)
    refine lv_aload_n hx hb dX12_sharesIt_14 rfl (lv_at hl 0 rfl) ?_
    refine lv_iload_n hx hb dX12_sharesIt_15 rfl (lv_at hl 1 rfl) ?_
    refine lv_iconst (v := 2) hx hb dX12_sharesIt_16 (by decide) ?_
    refine lv_iadd hx hb dX12_sharesIt_17 ?_
    obtain ⟨r19, s20, q21, h⟩ := bd2_some h
    refine wcall_i (rest := []) XX I hl.1 (c_M_plainShares l G OK ad s16 (x1 + (2 : Int32)) r19 s20 q21) kV_X12_403 (Rc.mk XX I (q0 := 0) (ci := 12) wM_o rfl) rfl rfl (Nat.le_of_ble_eq_true rfl) ⟨rfl, rfl, Nat.le_of_ble_eq_true rfl, Nat.le_of_ble_eq_true rfl⟩ ⟨Nat.zero_le _, Nat.zero_le _⟩ dX12_sharesIt_18 (fun H locs hz22 I => ?_)
    refine lv_iconst (v := 1) hx hb dX12_sharesIt_21 (by decide) ?_
    refine lv_ixor hx hb dX12_sharesIt_22 ?_
    obtain ⟨rfl, rfl⟩ := some2 h
    exact e_i rfl XX hr I rfl dX12_sharesIt_23
theorem kV_X12_406 : KV RX12 406 RX12 yX12_waitsIt cX12_waitsIt 3 (some .int) 1 := KV.mk wd_1518 wd_1520 wd_1657 wd_13 wd_1521 (by decide +kernel)
set_option maxHeartbeats 4000000 in
set_option maxRecDepth 100000 in
theorem c_M_plainTells (l : Launch) (G : g_G) (OK : EOk G.2.2) (ad : Nat → Nat) (sa : g_St) (x1 : Int32) (r : Int32) (ts : g_St) (h : f_M_plainTells sa x1 = some (r, ts)) : HI l G yX12_plainTells (Cond.code yX12_plainTells cX12_plainTells 2 (some .int) :: gT) { frames := 6, cells := 0, slots := 0, locals := 127 } .int [.ref (ad 0), .int x1] (wM G ad sa) r (wM G ad ts) := by
  refine HI.mk (lv := [(0, .ref (ad 0)), (1, .int x1)]) OK (by decide) (Nat.le_of_ble_eq_true rfl) rfl ?_
  intro p e s0 m args below meth c ls XX hr I hl
  have hx := XX.x
  have hb := XX.b
  unfold f_M_plainTells at h
  refine lv_aload_n hx hb dX12_plainTells_0 rfl (lv_at hl 0 rfl) ?_
  refine lv_bipush (v := 13) hx hb dX12_plainTells_1 (by decide) ?_
  obtain ⟨s1, q2, h⟩ := bd1_some h
  refine wcall_v (rest := []) XX I hl.1 (c_M_ran l G OK ad sa (13 : Int32) s1 q2) kV_X12_376 (Rc.mk XX I (q0 := 0) (ci := 12) wM_o rfl) rfl rfl (Nat.le_of_ble_eq_true rfl) ⟨rfl, rfl, Nat.le_of_ble_eq_true rfl, Nat.le_of_ble_eq_true rfl⟩ ⟨Nat.zero_le _, Nat.zero_le _⟩ dX12_plainTells_3 (fun H locs I => ?_)
  refine lv_aload_n hx hb dX12_plainTells_6 rfl (lv_at hl 0 rfl) ?_
  refine lv_iload_n hx hb dX12_plainTells_7 rfl (lv_at hl 1 rfl) ?_
  obtain ⟨r4, s5, q6, h⟩ := bd2_some h
  refine wcall_i (rest := []) XX I hl.1 (c_M_waitsIt l G OK ad s1 x1 r4 s5 q6) kV_X12_406 (Rc.mk XX I (q0 := 0) (ci := 12) wM_o rfl) rfl rfl (Nat.le_of_ble_eq_true rfl) ⟨rfl, rfl, Nat.le_of_ble_eq_true rfl, Nat.le_of_ble_eq_true rfl⟩ ⟨Nat.zero_le _, Nat.zero_le _⟩ dX12_plainTells_8 (fun H locs hz7 I => ?_)
  refine lv_aload_n hx hb dX12_plainTells_11 rfl (lv_at hl 0 rfl) ?_
  refine gM_own XX I dX12_plainTells_12 ?_
  refine lv_ixor hx hb dX12_plainTells_15 ?_
  obtain ⟨rfl, rfl⟩ := some2 h
  exact e_i rfl XX hr I rfl dX12_plainTells_16
theorem kV_X12_409 : KV RX12 409 RX12 yX12_plainTells cX12_plainTells 2 (some .int) 1 := KV.mk wd_1538 wd_1540 wd_1662 wd_13 wd_1541 (by decide +kernel)
theorem kV_X12_412 : KV RX12 412 RX12 yX12_sharesIt cX12_sharesIt 3 (some .int) 1 := KV.mk wd_1526 wd_1528 wd_1659 wd_13 wd_1529 (by decide +kernel)
set_option maxHeartbeats 4000000 in
set_option maxRecDepth 100000 in
theorem c_M_tellsIt (l : Launch) (G : g_G) (OK : EOk G.2.2) (ad : Nat → Nat) (sa : g_St) (x1 : Int32) (r : Int32) (ts : g_St) (h : f_M_tellsIt sa x1 = some (r, ts)) : HI l G yX12_tellsIt (Cond.code yX12_tellsIt cX12_tellsIt 3 (some .int) :: gT) { frames := 7, cells := 0, slots := 0, locals := 148 } .int [.ref (ad 0), .int x1] (wM G ad sa) r (wM G ad ts) := by
  refine HI.mk (lv := [(0, .ref (ad 0)), (1, .int x1)]) OK (by decide) (Nat.le_of_ble_eq_true rfl) rfl ?_
  intro p e s0 m args below meth c ls XX hr I hl
  have hx := XX.x
  have hb := XX.b
  have C16 : ∀ (s : g_St) (v1 : Int32), f_M_tellsIt_L16 s v1 = some (r, ts) → ∀ (H : Heap) (locs : List Loc), Iv G (va_A (wM G ad sa) s0.heap.size) s0 H locs (wM G ad s) → ∀ ls, lv_has ls 3 [(0, .ref (ad 0)), (1, .int v1)] → W p l e { frames := 7, cells := 0, slots := 0, locals := 148 } s0 m args below meth c H locs 0 0 (QI G below .int r (wM G ad sa) (wM G ad ts) args s0) (F0 m 16 ls []) := by
    skip
    intro s v1 h H locs I ls hl
    unfold f_M_tellsIt_L16 at h
    refine lv_aload_n hx hb dX12_tellsIt_16 rfl (lv_at hl 0 rfl) ?_
    refine lv_bipush (v := 31) hx hb dX12_tellsIt_17 (by decide) ?_
    obtain ⟨s12, q13, h⟩ := bd1_some h
    refine wcall_v (rest := []) XX I hl.1 (c_M_ran l G OK ad s (31 : Int32) s12 q13) kV_X12_376 (Rc.mk XX I (q0 := 0) (ci := 12) wM_o rfl) rfl rfl (Nat.le_of_ble_eq_true rfl) ⟨rfl, rfl, Nat.le_of_ble_eq_true rfl, Nat.le_of_ble_eq_true rfl⟩ ⟨Nat.zero_le _, Nat.zero_le _⟩ dX12_tellsIt_19 (fun H locs I => ?_)
    refine lv_aload_n hx hb dX12_tellsIt_22 rfl (lv_at hl 0 rfl) ?_
    refine lv_iload_n hx hb dX12_tellsIt_23 rfl (lv_at hl 1 rfl) ?_
    obtain ⟨r15, s16, q17, h⟩ := bd2_some h
    refine wcall_i (rest := []) XX I hl.1 (c_M_plainTells l G OK ad s12 v1 r15 s16 q17) kV_X12_409 (Rc.mk XX I (q0 := 0) (ci := 12) wM_o rfl) rfl rfl (Nat.le_of_ble_eq_true rfl) ⟨rfl, rfl, Nat.le_of_ble_eq_true rfl, Nat.le_of_ble_eq_true rfl⟩ ⟨Nat.zero_le _, Nat.zero_le _⟩ dX12_tellsIt_24 (fun H locs hz18 I => ?_)
    refine lv_istore_n (lv' := [(2, .int r15), (0, .ref (ad 0)), (1, .int v1)]) hx hb dX12_tellsIt_27 rfl hl (by decide) rfl (fun ls hl => ?_)
    refine lv_iload_n hx hb dX12_tellsIt_28 rfl (lv_at hl 0 rfl) ?_
    refine lv_aload_n hx hb dX12_tellsIt_29 rfl (lv_at hl 1 rfl) ?_
    refine lv_aload_n hx hb dX12_tellsIt_30 rfl (lv_at hl 1 rfl) ?_
    refine gM_number XX I dX12_tellsIt_31 ?_
    obtain ⟨r19, s20, q21, h⟩ := bd2_some h
    refine wcall_i (rest := [.int r15]) XX I hl.1 (c_M_sharesIt l G OK ad s16 (gi s16 44) r19 s20 q21) kV_X12_412 (Rc.mk XX I (q0 := 0) (ci := 12) wM_o rfl) rfl rfl (Nat.le_of_ble_eq_true rfl) ⟨rfl, rfl, Nat.le_of_ble_eq_true rfl, Nat.le_of_ble_eq_true rfl⟩ ⟨Nat.zero_le _, Nat.zero_le _⟩ dX12_tellsIt_34 (fun H locs hz22 I => ?_)
    refine lv_iadd hx hb dX12_tellsIt_37 ?_
    obtain ⟨rfl, rfl⟩ := some2 h
    exact e_i rfl XX hr I rfl dX12_tellsIt_38
  unfold f_M_tellsIt at h
  refine lv_aload_n hx hb dX12_tellsIt_0 rfl (lv_at hl 0 rfl) ?_
  refine gM_actKind XX I dX12_tellsIt_1 ?_
  refine lv_iconst (v := 2) hx hb dX12_tellsIt_4 (by decide) ?_
  refine lv_icmp_eq (tgt := 16) hx hb dX12_tellsIt_5 (by decide) (fun c1 => ?_) (fun c1 => ?_)
  · replace h := if_t h c1
    exact C16 _ _ h _ _ I ls (lv_sub hl [0, 1] rfl)
  · replace h := if_f h c1
    refine lv_aload_n hx hb dX12_tellsIt_8 rfl (lv_at hl 0 rfl) ?_
    refine gM_actKind XX I dX12_tellsIt_9 ?_
    refine lv_iconst (v := 3) hx hb dX12_tellsIt_12 (by decide) ?_
    refine lv_icmp_ne (tgt := 39) hx hb dX12_tellsIt_13 (by decide) (fun c1 => ?_) (fun c1 => ?_)
    · replace h := if_f h c1
      refine lv_aload_n hx hb dX12_tellsIt_39 rfl (lv_at hl 0 rfl) ?_
      refine gM_actKind XX I dX12_tellsIt_40 ?_
      refine lv_iconst (v := 5) hx hb dX12_tellsIt_43 (by decide) ?_
      refine lv_icmp_ne (tgt := 61) hx hb dX12_tellsIt_44 (by decide) (fun c1 => ?_) (fun c1 => ?_)
      · replace h := if_f h c1
        refine lv_aload_n hx hb dX12_tellsIt_61 rfl (lv_at hl 0 rfl) ?_
        refine lv_iload_n hx hb dX12_tellsIt_62 rfl (lv_at hl 1 rfl) ?_
        obtain ⟨r1, s2, q3, h⟩ := bd2_some h
        refine wcall_i (rest := []) XX I hl.1 (c_M_plainTells l G OK ad sa x1 r1 s2 q3) kV_X12_409 (Rc.mk XX I (q0 := 0) (ci := 12) wM_o rfl) rfl rfl (Nat.le_of_ble_eq_true rfl) ⟨rfl, rfl, Nat.le_of_ble_eq_true rfl, Nat.le_of_ble_eq_true rfl⟩ ⟨Nat.zero_le _, Nat.zero_le _⟩ dX12_tellsIt_63 (fun H locs hz4 I => ?_)
        obtain ⟨rfl, rfl⟩ := some2 h
        exact e_i rfl XX hr I rfl dX12_tellsIt_66
      · replace h := if_t h c1
        refine lv_aload_n hx hb dX12_tellsIt_47 rfl (lv_at hl 0 rfl) ?_
        refine lv_bipush (v := 60) hx hb dX12_tellsIt_48 (by decide) ?_
        obtain ⟨s5, q6, h⟩ := bd1_some h
        refine wcall_v (rest := []) XX I hl.1 (c_M_ran l G OK ad sa (60 : Int32) s5 q6) kV_X12_376 (Rc.mk XX I (q0 := 0) (ci := 12) wM_o rfl) rfl rfl (Nat.le_of_ble_eq_true rfl) ⟨rfl, rfl, Nat.le_of_ble_eq_true rfl, Nat.le_of_ble_eq_true rfl⟩ ⟨Nat.zero_le _, Nat.zero_le _⟩ dX12_tellsIt_50 (fun H locs I => ?_)
        refine lv_aload_n hx hb dX12_tellsIt_53 rfl (lv_at hl 0 rfl) ?_
        refine lv_iload_n hx hb dX12_tellsIt_54 rfl (lv_at hl 1 rfl) ?_
        obtain ⟨r8, s9, q10, h⟩ := bd2_some h
        refine wcall_i (rest := []) XX I hl.1 (c_M_plainTells l G OK ad s5 x1 r8 s9 q10) kV_X12_409 (Rc.mk XX I (q0 := 0) (ci := 12) wM_o rfl) rfl rfl (Nat.le_of_ble_eq_true rfl) ⟨rfl, rfl, Nat.le_of_ble_eq_true rfl, Nat.le_of_ble_eq_true rfl⟩ ⟨Nat.zero_le _, Nat.zero_le _⟩ dX12_tellsIt_55 (fun H locs hz11 I => ?_)
        refine lv_iconst (v := 2) hx hb dX12_tellsIt_58 (by decide) ?_
        refine lv_imul hx hb dX12_tellsIt_59 ?_
        obtain ⟨rfl, rfl⟩ := some2 h
        exact e_i rfl XX hr I rfl dX12_tellsIt_60
    · replace h := if_t h c1
      exact C16 _ _ h _ _ I ls (lv_sub hl [0, 1] rfl)
theorem kV_X12_415 : KV RX12 415 RX12 yX12_tellsIt cX12_tellsIt 3 (some .int) 1 := KV.mk wd_1534 wd_1536 wd_1661 wd_13 wd_1537 (by decide +kernel)
set_option maxHeartbeats 4000000 in
set_option maxRecDepth 100000 in
theorem c_M_act (l : Launch) (G : g_G) (OK : EOk G.2.2) (ad : Nat → Nat) (sa : g_St) (x1 : Int32) (x2 : Int32) (x3 : Int32) (r : Int32) (ts : g_St) (h : f_M_act sa x1 x2 x3 = some (r, ts)) : HI l G yX12_act (Cond.code yX12_act cX12_act 6 (some .int) :: gT) { frames := 8, cells := 0, slots := 0, locals := 170 } .int [.ref (ad 0), .int x1, .int x2, .int x3] (wM G ad sa) r (wM G ad ts) := by
  refine HI.mk (lv := [(0, .ref (ad 0)), (1, .int x1), (2, .int x2), (3, .int x3)]) OK (by decide) (Nat.le_of_ble_eq_true rfl) rfl ?_
  intro p e s0 m args below meth c ls XX hr I hl
  have hx := XX.x
  have hb := XX.b
  have C121 : ∀ (s : g_St) (z0 : Int32), f_M_act_L121 s z0 = some (r, ts) → ∀ (H : Heap) (locs : List Loc), Iv G (va_A (wM G ad sa) s0.heap.size) s0 H locs (wM G ad s) → ∀ ls, lv_has ls 6 [(0, .ref (ad 0))] → W p l e { frames := 8, cells := 0, slots := 0, locals := 170 } s0 m args below meth c H locs 0 0 (QI G below .int r (wM G ad sa) (wM G ad ts) args s0) (F0 m 121 ls [.int z0]) := by
    skip
    intro s z0 h H locs I ls hl
    unfold f_M_act_L121 at h
    refine lv_istore (lv' := [(5, .int z0), (0, .ref (ad 0))]) hx hb dX12_act_121 hl (by decide) rfl (fun ls hl => ?_)
    refine lv_aload_n hx hb dX12_act_123 rfl (lv_at hl 1 rfl) ?_
    refine gM_isParted XX I dX12_act_124 ?_
    refine lv_if_eq (tgt := 135) hx hb dX12_act_127 (by decide) (fun c1 => ?_) (fun c1 => ?_)
    · replace h := if_t h c1
      refine lv_iload hx hb dX12_act_135 (lv_at hl 0 rfl) ?_
      obtain ⟨rfl, rfl⟩ := some2 h
      exact e_i rfl XX hr I rfl dX12_act_137
    · replace h := if_f h c1
      refine lv_bipush (v := (-15)) hx hb dX12_act_130 (by decide) ?_
      refine lv_goto (tgt := 137) hx hb dX12_act_132 (by decide) ?_
      obtain ⟨rfl, rfl⟩ := some2 h
      exact e_i rfl XX hr I rfl dX12_act_137
  have C21 : ∀ (s : g_St) (v1 : Int32) (v2 : Int32) (v3 : Int32) (z0 : Int32), f_M_act_L21 s v1 v2 v3 z0 = some (r, ts) → ∀ (H : Heap) (locs : List Loc), Iv G (va_A (wM G ad sa) s0.heap.size) s0 H locs (wM G ad s) → ∀ ls, lv_has ls 6 [(0, .ref (ad 0)), (1, .int v1), (2, .int v2), (3, .int v3)] → W p l e { frames := 8, cells := 0, slots := 0, locals := 170 } s0 m args below meth c H locs 0 0 (QI G below .int r (wM G ad sa) (wM G ad ts) args s0) (F0 m 21 ls [.int z0]) := by
    skip
    intro s v1 v2 v3 z0 h H locs I ls hl
    unfold f_M_act_L21 at h
    refine lv_istore (lv' := [(4, .int z0), (0, .ref (ad 0)), (1, .int v1), (2, .int v2), (3, .int v3)]) hx hb dX12_act_21 hl (by decide) rfl (fun ls hl => ?_)
    refine lv_iload_n hx hb dX12_act_23 rfl (lv_at hl 3 rfl) ?_
    refine lv_iconst (v := 0) hx hb dX12_act_24 (by decide) ?_
    refine lv_iconst (v := 3) hx hb dX12_act_25 (by decide) ?_
    refine scall_i (rest := []) XX I hl.1 (c_S_in l G OK v2 (0 : Int32) (3 : Int32) _ rfl) kS_X12_99 rfl rfl (Nat.le_of_ble_eq_true rfl) ⟨rfl, rfl, Nat.le_of_ble_eq_true rfl, Nat.le_of_ble_eq_true rfl⟩ ⟨Nat.zero_le _, Nat.zero_le _⟩ dX12_act_26 (fun H locs hz6 I => ?_)
    refine lv_if_eq (tgt := 42) hx hb dX12_act_29 (by decide) (fun c1 => ?_) (fun c1 => ?_)
    · replace h := if_t h c1
      refine lv_iconst (v := 0) hx hb dX12_act_42 (by decide) ?_
      obtain ⟨rfl, rfl⟩ := some2 h
      exact e_i rfl XX hr I rfl dX12_act_43
    · replace h := if_f h c1
      refine lv_iload hx hb dX12_act_32 (lv_at hl 0 rfl) ?_
      refine lv_iconst (v := 0) hx hb dX12_act_34 (by decide) ?_
      refine lv_iconst (v := 5) hx hb dX12_act_35 (by decide) ?_
      refine scall_i (rest := []) XX I hl.1 (c_S_in l G OK z0 (0 : Int32) (5 : Int32) _ rfl) kS_X12_99 rfl rfl (Nat.le_of_ble_eq_true rfl) ⟨rfl, rfl, Nat.le_of_ble_eq_true rfl, Nat.le_of_ble_eq_true rfl⟩ ⟨Nat.zero_le _, Nat.zero_le _⟩ dX12_act_36 (fun H locs hz7 I => ?_)
      refine lv_if_ne (tgt := 44) hx hb dX12_act_39 (by decide) (fun c1 => ?_) (fun c1 => ?_)
      · replace h := if_f h c1
        refine lv_aload_n hx hb dX12_act_44 rfl (lv_at hl 1 rfl) ?_
        refine lv_iload hx hb dX12_act_45 (lv_at hl 0 rfl) ?_
        refine pM_actKind XX I dX12_act_47 (fun H locs I => ?_)
        obtain ⟨s8, es8⟩ : ∃ z, z = si s 43 z0 := ⟨_, rfl⟩
        replace h := lt_e h es8
        replace I : Iv G (va_A (wM G ad sa) s0.heap.size) s0 H locs (wM G ad s8) := by rw [es8]; exact I
        refine lv_aload_n hx hb dX12_act_50 rfl (lv_at hl 1 rfl) ?_
        refine lv_aload_n hx hb dX12_act_51 rfl (lv_at hl 1 rfl) ?_
        refine gM_heldNumber XX I dX12_act_52 ?_
        refine lv_iload_n hx hb dX12_act_55 rfl (lv_at hl 2 rfl) ?_
        obtain ⟨g9, h⟩ := gd_some h
        refine r_iald XX I 22 (aM_heldNumber) g9 dX12_act_56 ?_
        refine lv_topi (fun y10 ey10 => ?_)
        replace h := lt_e h ey10
        refine pM_number XX I dX12_act_57 (fun H locs I => ?_)
        obtain ⟨s11, es11⟩ : ∃ z, z = si s8 44 y10 := ⟨_, rfl⟩
        replace h := lt_e h es11
        replace I : Iv G (va_A (wM G ad sa) s0.heap.size) s0 H locs (wM G ad s11) := by rw [es11]; exact I
        refine lv_aload_n hx hb dX12_act_60 rfl (lv_at hl 1 rfl) ?_
        refine lv_aload_n hx hb dX12_act_61 rfl (lv_at hl 1 rfl) ?_
        refine gM_aOf XX I dX12_act_62 ?_
        refine lv_aload_n hx hb dX12_act_65 rfl (lv_at hl 1 rfl) ?_
        refine gM_number XX I dX12_act_66 ?_
        obtain ⟨g12, h⟩ := gd_some h
        refine r_iald XX I 2 (aM_aOf) g12 dX12_act_69 ?_
        refine lv_topi (fun y13 ey13 => ?_)
        replace h := lt_e h ey13
        refine pM_own XX I dX12_act_70 (fun H locs I => ?_)
        obtain ⟨s14, es14⟩ : ∃ z, z = si s11 45 y13 := ⟨_, rfl⟩
        replace h := lt_e h es14
        replace I : Iv G (va_A (wM G ad sa) s0.heap.size) s0 H locs (wM G ad s14) := by rw [es14]; exact I
        refine lv_aload_n hx hb dX12_act_73 rfl (lv_at hl 1 rfl) ?_
        refine lv_iconst (v := 0) hx hb dX12_act_74 (by decide) ?_
        refine pM_isParted XX I (rfl) dX12_act_75 (fun H locs I => ?_)
        obtain ⟨s15, es15⟩ : ∃ z, z = si s14 48 (0 : Int32) := ⟨_, rfl⟩
        replace h := lt_e h es15
        replace I : Iv G (va_A (wM G ad sa) s0.heap.size) s0 H locs (wM G ad s15) := by rw [es15]; exact I
        refine lv_iload_n hx hb dX12_act_78 rfl (lv_at hl 3 rfl) ?_
        refine lv_if_ne (tgt := 90) hx hb dX12_act_79 (by decide) (fun c1 => ?_) (fun c1 => ?_)
        · replace h := if_f h c1
          refine lv_iload_n hx hb dX12_act_90 rfl (lv_at hl 3 rfl) ?_
          refine lv_iconst (v := 1) hx hb dX12_act_91 (by decide) ?_
          refine lv_icmp_ne (tgt := 103) hx hb dX12_act_92 (by decide) (fun c1 => ?_) (fun c1 => ?_)
          · replace h := if_f h c1
            refine lv_iload_n hx hb dX12_act_103 rfl (lv_at hl 3 rfl) ?_
            refine lv_iconst (v := 2) hx hb dX12_act_104 (by decide) ?_
            refine lv_icmp_ne (tgt := 116) hx hb dX12_act_105 (by decide) (fun c1 => ?_) (fun c1 => ?_)
            · replace h := if_f h c1
              refine lv_aload_n hx hb dX12_act_116 rfl (lv_at hl 1 rfl) ?_
              refine lv_iload_n hx hb dX12_act_117 rfl (lv_at hl 4 rfl) ?_
              obtain ⟨r16, s17, q18, h⟩ := bd2_some h
              refine wcall_i (rest := []) XX I hl.1 (c_M_tellsIt l G OK ad s15 v3 r16 s17 q18) kV_X12_415 (Rc.mk XX I (q0 := 0) (ci := 12) wM_o rfl) rfl rfl (Nat.le_of_ble_eq_true rfl) ⟨rfl, rfl, Nat.le_of_ble_eq_true rfl, Nat.le_of_ble_eq_true rfl⟩ ⟨Nat.zero_le _, Nat.zero_le _⟩ dX12_act_118 (fun H locs hz19 I => ?_)
              exact C121 _ _ h _ _ I ls (lv_sub hl [1] rfl)
            · replace h := if_t h c1
              refine lv_aload_n hx hb dX12_act_108 rfl (lv_at hl 1 rfl) ?_
              refine lv_iload_n hx hb dX12_act_109 rfl (lv_at hl 4 rfl) ?_
              obtain ⟨r20, s21, q22, h⟩ := bd2_some h
              refine wcall_i (rest := []) XX I hl.1 (c_M_sharesIt l G OK ad s15 v3 r20 s21 q22) kV_X12_412 (Rc.mk XX I (q0 := 0) (ci := 12) wM_o rfl) rfl rfl (Nat.le_of_ble_eq_true rfl) ⟨rfl, rfl, Nat.le_of_ble_eq_true rfl, Nat.le_of_ble_eq_true rfl⟩ ⟨Nat.zero_le _, Nat.zero_le _⟩ dX12_act_110 (fun H locs hz23 I => ?_)
              refine lv_goto (tgt := 121) hx hb dX12_act_113 (by decide) ?_
              exact C121 _ _ h _ _ I ls (lv_sub hl [1] rfl)
          · replace h := if_t h c1
            refine lv_aload_n hx hb dX12_act_95 rfl (lv_at hl 1 rfl) ?_
            refine lv_iload_n hx hb dX12_act_96 rfl (lv_at hl 4 rfl) ?_
            obtain ⟨r24, s25, q26, h⟩ := bd2_some h
            refine wcall_i (rest := []) XX I hl.1 (c_M_waitsIt l G OK ad s15 v3 r24 s25 q26) kV_X12_406 (Rc.mk XX I (q0 := 0) (ci := 12) wM_o rfl) rfl rfl (Nat.le_of_ble_eq_true rfl) ⟨rfl, rfl, Nat.le_of_ble_eq_true rfl, Nat.le_of_ble_eq_true rfl⟩ ⟨Nat.zero_le _, Nat.zero_le _⟩ dX12_act_97 (fun H locs hz27 I => ?_)
            refine lv_goto (tgt := 121) hx hb dX12_act_100 (by decide) ?_
            exact C121 _ _ h _ _ I ls (lv_sub hl [1] rfl)
        · replace h := if_t h c1
          refine lv_aload_n hx hb dX12_act_82 rfl (lv_at hl 1 rfl) ?_
          refine lv_iload_n hx hb dX12_act_83 rfl (lv_at hl 4 rfl) ?_
          obtain ⟨r28, s29, q30, h⟩ := bd2_some h
          refine wcall_i (rest := []) XX I hl.1 (c_M_barsIt l G OK ad s15 v3 r28 s29 q30) kV_X12_391 (Rc.mk XX I (q0 := 0) (ci := 12) wM_o rfl) rfl rfl (Nat.le_of_ble_eq_true rfl) ⟨rfl, rfl, Nat.le_of_ble_eq_true rfl, Nat.le_of_ble_eq_true rfl⟩ ⟨Nat.zero_le _, Nat.zero_le _⟩ dX12_act_84 (fun H locs hz31 I => ?_)
          refine lv_goto (tgt := 121) hx hb dX12_act_87 (by decide) ?_
          exact C121 _ _ h _ _ I ls (lv_sub hl [1] rfl)
      · replace h := if_t h c1
        refine lv_iconst (v := 0) hx hb dX12_act_42 (by decide) ?_
        obtain ⟨rfl, rfl⟩ := some2 h
        exact e_i rfl XX hr I rfl dX12_act_43
  unfold f_M_act at h
  refine lv_aload_n hx hb dX12_act_0 rfl (lv_at hl 0 rfl) ?_
  refine lv_iconst (v := 0) hx hb dX12_act_1 (by decide) ?_
  refine pM_bodies XX I dX12_act_2 (fun H locs I => ?_)
  obtain ⟨s1, es1⟩ : ∃ z, z = si sa 47 (0 : Int32) := ⟨_, rfl⟩
  replace h := lt_e h es1
  replace I : Iv G (va_A (wM G ad sa) s0.heap.size) s0 H locs (wM G ad s1) := by rw [es1]; exact I
  refine lv_iload_n hx hb dX12_act_5 rfl (lv_at hl 1 rfl) ?_
  refine scall_i (rest := []) XX I hl.1 (c_S_isShelf l G OK x1 _ rfl) kS_X12_354 rfl rfl (Nat.le_of_ble_eq_true rfl) ⟨rfl, rfl, Nat.le_of_ble_eq_true rfl, Nat.le_of_ble_eq_true rfl⟩ ⟨Nat.zero_le _, Nat.zero_le _⟩ dX12_act_6 (fun H locs hz2 I => ?_)
  refine lv_if_eq (tgt := 20) hx hb dX12_act_9 (by decide) (fun c1 => ?_) (fun c1 => ?_)
  · replace h := if_t h c1
    refine lv_iconst (v := (-1)) hx hb dX12_act_20 (by decide) ?_
    exact C21 _ _ _ _ _ h _ _ I ls (lv_sub hl [0, 1, 2, 3] rfl)
  · replace h := if_f h c1
    refine lv_aload_n hx hb dX12_act_12 rfl (lv_at hl 0 rfl) ?_
    refine lv_iload_n hx hb dX12_act_13 rfl (lv_at hl 1 rfl) ?_
    obtain ⟨r3, q4, h⟩ := bd1_some h
    refine wcall_i (rest := []) XX I hl.1 (c_M_kindOn l G OK ad s1 x1 r3 q4) kV_X12_367 (Rc.mk XX I (q0 := 0) (ci := 12) wM_o rfl) rfl rfl (Nat.le_of_ble_eq_true rfl) ⟨rfl, rfl, Nat.le_of_ble_eq_true rfl, Nat.le_of_ble_eq_true rfl⟩ ⟨Nat.zero_le _, Nat.zero_le _⟩ dX12_act_14 (fun H locs hz5 I => ?_)
    refine lv_goto (tgt := 21) hx hb dX12_act_17 (by decide) ?_
    exact C21 _ _ _ _ _ h _ _ I ls (lv_sub hl [0, 1, 2, 3] rfl)
