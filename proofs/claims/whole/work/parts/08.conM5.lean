set_option maxHeartbeats 4000000 in
set_option maxRecDepth 100000 in
theorem c_M_trace (l : Launch) (G : g_G) (OK : EOk G.2.2) (ad : Nat → Nat) (sa : g_St) (x1 : Int32) (r : Int32) (h : f_M_trace sa x1 = some r) : HI l G yX12_trace (Cond.code yX12_trace cX12_trace 2 (some .int) :: gT) { frames := 1, cells := 0, slots := 0, locals := 22 } .int [.ref (ad 0), .int x1] (wM G ad sa) r (wM G ad sa) := by
  refine HI.mk (lv := [(0, .ref (ad 0)), (1, .int x1)]) OK (by decide) (Nat.le_of_ble_eq_true rfl) rfl ?_
  intro p e s0 m args below meth c ls XX hr I hl
  have hx := XX.x
  have hb := XX.b
  unfold f_M_trace at h
  refine lv_iload_n hx hb dX12_trace_0 rfl (lv_at hl 1 rfl) ?_
  refine lv_iconst (v := 0) hx hb dX12_trace_1 (by decide) ?_
  refine lv_aload_n hx hb dX12_trace_2 rfl (lv_at hl 0 rfl) ?_
  refine gM_bodies XX I dX12_trace_3 ?_
  refine lv_iconst (v := 1) hx hb dX12_trace_6 (by decide) ?_
  refine lv_isub hx hb dX12_trace_7 ?_
  refine scall_i (rest := []) XX I hl.1 (c_S_in l G OK x1 (0 : Int32) ((gi sa 47) - (1 : Int32)) _ rfl) kS_X12_99 rfl rfl (Nat.le_of_ble_eq_true rfl) ⟨rfl, rfl, Nat.le_of_ble_eq_true rfl, Nat.le_of_ble_eq_true rfl⟩ ⟨Nat.zero_le _, Nat.zero_le _⟩ dX12_trace_8 (fun H locs hz1 I => ?_)
  refine lv_if_eq (tgt := 23) hx hb dX12_trace_11 (by decide) (fun c1 => ?_) (fun c1 => ?_)
  · replace h := if_t h c1
    refine lv_bipush (v := (-3)) hx hb dX12_trace_23 (by decide) ?_
    obtain rfl := some1 h
    exact e_i rfl XX hr I rfl dX12_trace_25
  · replace h := if_f h c1
    refine lv_aload_n hx hb dX12_trace_14 rfl (lv_at hl 0 rfl) ?_
    refine gM_traced XX I dX12_trace_15 ?_
    refine lv_iload_n hx hb dX12_trace_18 rfl (lv_at hl 1 rfl) ?_
    obtain ⟨g2, h⟩ := gd_some h
    refine r_iald XX I 24 (aM_traced) g2 dX12_trace_19 ?_
    refine lv_goto (tgt := 25) hx hb dX12_trace_20 (by decide) ?_
    obtain rfl := some1 h
    exact e_i rfl XX hr I rfl dX12_trace_25
set_option maxHeartbeats 4000000 in
set_option maxRecDepth 100000 in
theorem c_M_many (l : Launch) (G : g_G) (OK : EOk G.2.2) (ad : Nat → Nat) (fu : Nat) (sa : g_St) (x1 : Int32) (r : Int32) (h : f_M_many fu sa x1 = some r) : HI l G yX12_many (Cond.code yX12_many cX12_many 4 (some .int) :: gT) { frames := 0, cells := 0, slots := 0, locals := 0 } .int [.ref (ad 0), .int x1] (wM G ad sa) r (wM G ad sa) := by
  refine HI.mk (lv := [(0, .ref (ad 0)), (1, .int x1)]) OK (by decide) (Nat.le_of_ble_eq_true rfl) rfl ?_
  intro p e s0 m args below meth c ls XX hr I hl
  have hx := XX.x
  have hb := XX.b
  have C60 : ∀ n : Nat, ∀ (v2 : Int32) (v3 : Int32), f_M_many_L60 fu n sa v2 v3 = some r → ∀ (H : Heap) (locs : List Loc), Iv G (va_A (wM G ad sa) s0.heap.size) s0 H locs (wM G ad sa) → ∀ ls, lv_has ls 4 [(0, .ref (ad 0)), (2, .int v2), (3, .int v3)] → W p l e { frames := 0, cells := 0, slots := 0, locals := 0 } s0 m args below meth c H locs 0 0 (QI G below .int r (wM G ad sa) (wM G ad sa) args s0) (F0 m 60 ls []) := by
    intro n
    induction n with
    | zero => intro v2 v3 h; exact absurd h (fun q => by cases q)
    | succ n ih =>
      intro v2 v3 h H locs I ls hl
      rw [f_M_many_L60] at h
      refine lv_iload_n hx hb dX12_many_60 rfl (lv_at hl 2 rfl) ?_
      refine lv_aload_n hx hb dX12_many_61 rfl (lv_at hl 0 rfl) ?_
      refine gM_people XX I dX12_many_62 ?_
      refine lv_icmp_ge (tgt := 83) hx hb dX12_many_65 (by decide) (fun c1 => ?_) (fun c1 => ?_)
      · replace h := if_t h c1
        refine lv_iload_n hx hb dX12_many_83 rfl (lv_at hl 1 rfl) ?_
        obtain rfl := some1 h
        exact e_i rfl XX hr I rfl dX12_many_84
      · replace h := if_f h c1
        refine lv_iload_n hx hb dX12_many_68 rfl (lv_at hl 1 rfl) ?_
        refine lv_aload_n hx hb dX12_many_69 rfl (lv_at hl 0 rfl) ?_
        refine gM_row XX I dX12_many_70 ?_
        refine lv_iload_n hx hb dX12_many_73 rfl (lv_at hl 2 rfl) ?_
        obtain ⟨g1, h⟩ := gd_some h
        refine r_iald XX I 10 (aM_row) g1 dX12_many_74 ?_
        refine lv_iadd hx hb dX12_many_75 ?_
        refine lv_topi (fun y2 ey2 => ?_)
        replace h := lt_e h ey2
        refine lv_istore_n (lv' := [(2, .int y2), (0, .ref (ad 0)), (3, .int v3)]) hx hb dX12_many_76 rfl hl (by decide) rfl (fun ls hl => ?_)
        obtain ⟨y3, ey3⟩ : ∃ z : Int32, z = v3 + (1 : Int32) := ⟨_, rfl⟩
        replace h := lt_e h ey3
        refine lv_iinc (v := y3) (lv' := [(3, .int y3), (2, .int y2), (0, .ref (ad 0))]) hx hb dX12_many_77 hl (k := 2) rfl (by rw [ey3]; rfl) (by decide) rfl (fun ls hl => ?_)
        refine lv_goto (tgt := 60) hx hb dX12_many_80 (by decide) ?_
        exact ih _ _ h _ _ I ls (lv_sub hl [2, 1, 0] rfl)
  unfold f_M_many at h
  refine lv_iconst (v := 0) hx hb dX12_many_0 (by decide) ?_
  refine lv_istore_n (lv' := [(2, .int (0 : Int32)), (0, .ref (ad 0)), (1, .int x1)]) hx hb dX12_many_1 rfl hl (by decide) rfl (fun ls hl => ?_)
  refine lv_iload_n hx hb dX12_many_2 rfl (lv_at hl 2 rfl) ?_
  by_cases q0 : x1 = (0 : Int32)
  · replace h := if_t h q0
    refine lv_tableIn (tgt := 48) (off := 45) hx hb dX12_many_3 (by rw [q0]; decide) (by rw [q0]; decide) (by rw [q0]; rfl) (by decide) ?_
    refine lv_aload_n hx hb dX12_many_48 rfl (lv_at hl 1 rfl) ?_
    refine gM_people XX I dX12_many_49 ?_
    obtain rfl := some1 h
    exact e_i rfl XX hr I rfl dX12_many_52
  replace h := if_f h q0
  by_cases q1 : x1 = (1 : Int32)
  · replace h := if_t h q1
    refine lv_tableIn (tgt := 53) (off := 50) hx hb dX12_many_3 (by rw [q1]; decide) (by rw [q1]; decide) (by rw [q1]; rfl) (by decide) ?_
    refine lv_aload_n hx hb dX12_many_53 rfl (lv_at hl 1 rfl) ?_
    refine gM_proposals XX I dX12_many_54 ?_
    obtain rfl := some1 h
    exact e_i rfl XX hr I rfl dX12_many_57
  replace h := if_f h q1
  by_cases q2 : x1 = (2 : Int32)
  · replace h := if_t h q2
    refine lv_tableIn (tgt := 58) (off := 55) hx hb dX12_many_3 (by rw [q2]; decide) (by rw [q2]; decide) (by rw [q2]; rfl) (by decide) ?_
    refine lv_iconst (v := 0) hx hb dX12_many_58 (by decide) ?_
    refine lv_istore_n (lv' := [(3, .int (0 : Int32)), (2, .int (0 : Int32)), (0, .ref (ad 0)), (1, .int x1)]) hx hb dX12_many_59 rfl hl (by decide) rfl (fun ls hl => ?_)
    exact C60 fu _ _ h _ _ I ls (lv_sub hl [2, 1, 0] rfl)
  replace h := if_f h q2
  by_cases q3 : x1 = (3 : Int32)
  · replace h := if_t h q3
    refine lv_tableIn (tgt := 85) (off := 82) hx hb dX12_many_3 (by rw [q3]; decide) (by rw [q3]; decide) (by rw [q3]; rfl) (by decide) ?_
    refine lv_aload_n hx hb dX12_many_85 rfl (lv_at hl 1 rfl) ?_
    refine gM_fell XX I dX12_many_86 ?_
    obtain rfl := some1 h
    exact e_i rfl XX hr I rfl dX12_many_89
  replace h := if_f h q3
  by_cases q4 : x1 = (4 : Int32)
  · replace h := if_t h q4
    refine lv_tableIn (tgt := 90) (off := 87) hx hb dX12_many_3 (by rw [q4]; decide) (by rw [q4]; decide) (by rw [q4]; rfl) (by decide) ?_
    refine lv_aload_n hx hb dX12_many_90 rfl (lv_at hl 1 rfl) ?_
    refine gM_passed XX I dX12_many_91 ?_
    obtain rfl := some1 h
    exact e_i rfl XX hr I rfl dX12_many_94
  replace h := if_f h q4
  by_cases q5 : x1 = (5 : Int32)
  · replace h := if_t h q5
    refine lv_tableIn (tgt := 95) (off := 92) hx hb dX12_many_3 (by rw [q5]; decide) (by rw [q5]; decide) (by rw [q5]; rfl) (by decide) ?_
    refine lv_aload_n hx hb dX12_many_95 rfl (lv_at hl 1 rfl) ?_
    refine gM_rowMany XX I dX12_many_96 ?_
    obtain rfl := some1 h
    exact e_i rfl XX hr I rfl dX12_many_99
  replace h := if_f h q5
  by_cases q6 : x1 = (6 : Int32)
  · replace h := if_t h q6
    refine lv_tableIn (tgt := 100) (off := 97) hx hb dX12_many_3 (by rw [q6]; decide) (by rw [q6]; decide) (by rw [q6]; rfl) (by decide) ?_
    refine lv_aload_n hx hb dX12_many_100 rfl (lv_at hl 1 rfl) ?_
    refine gM_tapeMany XX I dX12_many_101 ?_
    obtain rfl := some1 h
    exact e_i rfl XX hr I rfl dX12_many_104
  replace h := if_f h q6
  by_cases q7 : x1 = (7 : Int32)
  · replace h := if_t h q7
    refine lv_tableIn (tgt := 105) (off := 102) hx hb dX12_many_3 (by rw [q7]; decide) (by rw [q7]; decide) (by rw [q7]; rfl) (by decide) ?_
    refine lv_aload_n hx hb dX12_many_105 rfl (lv_at hl 1 rfl) ?_
    refine gM_bodies XX I dX12_many_106 ?_
    obtain rfl := some1 h
    exact e_i rfl XX hr I rfl dX12_many_109
  replace h := if_f h q7
  refine lv_tableOut (tgt := 110) hx hb dX12_many_3 (tab_out (lo := 0) (hi := 7) (fun k k1 k2 => by rcases (show k = 0 ∨ k = 1 ∨ k = 2 ∨ k = 3 ∨ k = 4 ∨ k = 5 ∨ k = 6 ∨ k = 7 by omega) with rfl | rfl | rfl | rfl | rfl | rfl | rfl | rfl <;> assumption)) (by decide) ?_
  refine lv_iconst (v := (-1)) hx hb dX12_many_110 (by decide) ?_
  obtain rfl := some1 h
  exact e_i rfl XX hr I rfl dX12_many_111
set_option maxHeartbeats 4000000 in
set_option maxRecDepth 100000 in
theorem c_M_moveRow_single (l : Launch) (G : g_G) (OK : EOk G.2.2) (ad : Nat → Nat) (fu : Nat) (sa : g_St) (x2 : Int32) (x3 : Int32) (ts : g_St) (h : f_M_moveRow_single fu sa x2 x3 = some ts) : HV l G yX12_moveRow (Cond.code yX12_moveRow cX12_moveRow 5 none :: gT) { frames := 0, cells := 0, slots := 0, locals := 0 } [.ref (ad 0), .ref (ad 53), .int x2, .int x3] (wM G ad sa) (wM G ad ts) := by
  refine HV.mk (lv := [(0, .ref (ad 0)), (1, .ref (ad 53)), (2, .int x2), (3, .int x3)]) OK (by decide) (Nat.le_of_ble_eq_true rfl) rfl ?_
  intro p e s0 m args below meth c ls XX hr I hl
  have hx := XX.x
  have hb := XX.b
  have C3 : ∀ n : Nat, ∀ (s : g_St) (v2 : Int32) (v3 : Int32) (v4 : Int32), f_M_moveRow_single_L3 fu n s v2 v3 v4 = some ts → ∀ (H : Heap) (locs : List Loc), Iv G (va_A (wM G ad sa) s0.heap.size) s0 H locs (wM G ad s) → ∀ ls, lv_has ls 5 [(0, .ref (ad 0)), (1, .ref (ad 53)), (2, .int v2), (3, .int v3), (4, .int v4)] → W p l e { frames := 0, cells := 0, slots := 0, locals := 0 } s0 m args below meth c H locs 0 0 (QV G below (wM G ad sa) (wM G ad ts) args s0) (F0 m 3 ls []) := by
    intro n
    induction n with
    | zero => intro s v2 v3 v4 h; exact absurd h (fun q => by cases q)
    | succ n ih =>
      intro s v2 v3 v4 h H locs I ls hl
      rw [f_M_moveRow_single_L3] at h
      refine lv_iload hx hb dX12_moveRow_3 (lv_at hl 4 rfl) ?_
      refine lv_iload_n hx hb dX12_moveRow_5 rfl (lv_at hl 2 rfl) ?_
      refine lv_icmp_ge (tgt := 58) hx hb dX12_moveRow_6 (by decide) (fun c1 => ?_) (fun c1 => ?_)
      · replace h := if_t h c1
        obtain rfl := some1 h
        exact e_v XX hr I dX12_moveRow_58
      · replace h := if_f h c1
        refine lv_iload_n hx hb dX12_moveRow_9 rfl (lv_at hl 3 rfl) ?_
        refine lv_if_eq (tgt := 29) hx hb dX12_moveRow_10 (by decide) (fun c1 => ?_) (fun c1 => ?_)
        · replace h := if_t h c1
          refine lv_aload_n hx hb dX12_moveRow_29 rfl (lv_at hl 1 rfl) ?_
          refine lv_iload hx hb dX12_moveRow_30 (lv_at hl 4 rfl) ?_
          refine lv_aload_n hx hb dX12_moveRow_32 rfl (lv_at hl 0 rfl) ?_
          refine gM_keptRow XX I dX12_moveRow_33 ?_
          refine lv_aload_n hx hb dX12_moveRow_36 rfl (lv_at hl 0 rfl) ?_
          refine gM_movedTo XX I dX12_moveRow_37 ?_
          obtain ⟨g1, h⟩ := gd_some h
          refine r_iald XX I 25 (aM_keptRow) g1 dX12_moveRow_40 ?_
          refine lv_topi (fun y2 ey2 => ?_)
          replace h := lt_e h ey2
          obtain ⟨g3, h⟩ := gd_some h
          refine r_iast XX I 26 (aM_single) (sM_single) g3 dX12_moveRow_41 (fun H locs I => ?_)
          obtain ⟨s4, es4⟩ : ∃ z, z = sr s 52 v4 y2 := ⟨_, rfl⟩
          replace h := lt_e h es4
          replace I : Iv G (va_A (wM G ad sa) s0.heap.size) s0 H locs (wM G ad s4) := by rw [es4]; exact I
          refine lv_aload_n hx hb dX12_moveRow_42 rfl (lv_at hl 0 rfl) ?_
          refine lv_dup hx hb dX12_moveRow_43 rfl ?_
          refine gM_movedTo XX I dX12_moveRow_44 ?_
          refine lv_iconst (v := 1) hx hb dX12_moveRow_47 (by decide) ?_
          refine lv_iadd hx hb dX12_moveRow_48 ?_
          refine lv_topi (fun y5 ey5 => ?_)
          replace h := lt_e h ey5
          refine pM_movedTo XX I dX12_moveRow_49 (fun H locs I => ?_)
          obtain ⟨s6, es6⟩ : ∃ z, z = si s4 51 y5 := ⟨_, rfl⟩
          replace h := lt_e h es6
          replace I : Iv G (va_A (wM G ad sa) s0.heap.size) s0 H locs (wM G ad s6) := by rw [es6]; exact I
          obtain ⟨y7, ey7⟩ : ∃ z : Int32, z = v4 + (1 : Int32) := ⟨_, rfl⟩
          replace h := lt_e h ey7
          refine lv_iinc (v := y7) (lv' := [(4, .int y7), (0, .ref (ad 0)), (1, .ref (ad 53)), (2, .int v2), (3, .int v3)]) hx hb dX12_moveRow_52 hl (k := 4) rfl (by rw [ey7]; rfl) (by decide) rfl (fun ls hl => ?_)
          refine lv_goto (tgt := 3) hx hb dX12_moveRow_55 (by decide) ?_
          exact ih _ _ _ _ h _ _ I ls (lv_sub hl [1, 2, 3, 4, 0] rfl)
        · replace h := if_f h c1
          refine lv_aload_n hx hb dX12_moveRow_13 rfl (lv_at hl 0 rfl) ?_
          refine gM_keptRow XX I dX12_moveRow_14 ?_
          refine lv_aload_n hx hb dX12_moveRow_17 rfl (lv_at hl 0 rfl) ?_
          refine gM_movedTo XX I dX12_moveRow_18 ?_
          refine lv_aload_n hx hb dX12_moveRow_21 rfl (lv_at hl 1 rfl) ?_
          refine lv_iload hx hb dX12_moveRow_22 (lv_at hl 4 rfl) ?_
          obtain ⟨g8, h⟩ := gd_some h
          refine r_iald XX I 26 (aM_single) g8 dX12_moveRow_24 ?_
          refine lv_topi (fun y9 ey9 => ?_)
          replace h := lt_e h ey9
          obtain ⟨g10, h⟩ := gd_some h
          refine r_iast XX I 25 (aM_keptRow) (sM_keptRow) g10 dX12_moveRow_25 (fun H locs I => ?_)
          obtain ⟨s11, es11⟩ : ∃ z, z = sr s 50 (gi s 51) y9 := ⟨_, rfl⟩
          replace h := lt_e h es11
          replace I : Iv G (va_A (wM G ad sa) s0.heap.size) s0 H locs (wM G ad s11) := by rw [es11]; exact I
          refine lv_goto (tgt := 42) hx hb dX12_moveRow_26 (by decide) ?_
          refine lv_aload_n hx hb dX12_moveRow_42 rfl (lv_at hl 0 rfl) ?_
          refine lv_dup hx hb dX12_moveRow_43 rfl ?_
          refine gM_movedTo XX I dX12_moveRow_44 ?_
          refine lv_iconst (v := 1) hx hb dX12_moveRow_47 (by decide) ?_
          refine lv_iadd hx hb dX12_moveRow_48 ?_
          refine lv_topi (fun y12 ey12 => ?_)
          replace h := lt_e h ey12
          refine pM_movedTo XX I dX12_moveRow_49 (fun H locs I => ?_)
          obtain ⟨s13, es13⟩ : ∃ z, z = si s11 51 y12 := ⟨_, rfl⟩
          replace h := lt_e h es13
          replace I : Iv G (va_A (wM G ad sa) s0.heap.size) s0 H locs (wM G ad s13) := by rw [es13]; exact I
          obtain ⟨y14, ey14⟩ : ∃ z : Int32, z = v4 + (1 : Int32) := ⟨_, rfl⟩
          replace h := lt_e h ey14
          refine lv_iinc (v := y14) (lv' := [(4, .int y14), (0, .ref (ad 0)), (1, .ref (ad 53)), (2, .int v2), (3, .int v3)]) hx hb dX12_moveRow_52 hl (k := 4) rfl (by rw [ey14]; rfl) (by decide) rfl (fun ls hl => ?_)
          refine lv_goto (tgt := 3) hx hb dX12_moveRow_55 (by decide) ?_
          exact ih _ _ _ _ h _ _ I ls (lv_sub hl [1, 2, 3, 4, 0] rfl)
  unfold f_M_moveRow_single at h
  refine lv_iconst (v := 0) hx hb dX12_moveRow_0 (by decide) ?_
  refine lv_istore (lv' := [(4, .int (0 : Int32)), (0, .ref (ad 0)), (1, .ref (ad 53)), (2, .int x2), (3, .int x3)]) hx hb dX12_moveRow_1 hl (by decide) rfl (fun ls hl => ?_)
  exact C3 fu _ _ _ _ h _ _ I ls (lv_sub hl [1, 2, 3, 4, 0] rfl)
set_option maxHeartbeats 4000000 in
set_option maxRecDepth 100000 in
theorem c_M_moveRow_kindOf (l : Launch) (G : g_G) (OK : EOk G.2.2) (ad : Nat → Nat) (fu : Nat) (sa : g_St) (x2 : Int32) (x3 : Int32) (ts : g_St) (h : f_M_moveRow_kindOf fu sa x2 x3 = some ts) : HV l G yX12_moveRow (Cond.code yX12_moveRow cX12_moveRow 5 none :: gT) { frames := 0, cells := 0, slots := 0, locals := 0 } [.ref (ad 0), .ref (ad 2), .int x2, .int x3] (wM G ad sa) (wM G ad ts) := by
  refine HV.mk (lv := [(0, .ref (ad 0)), (1, .ref (ad 2)), (2, .int x2), (3, .int x3)]) OK (by decide) (Nat.le_of_ble_eq_true rfl) rfl ?_
  intro p e s0 m args below meth c ls XX hr I hl
  have hx := XX.x
  have hb := XX.b
  have C3 : ∀ n : Nat, ∀ (s : g_St) (v2 : Int32) (v3 : Int32) (v4 : Int32), f_M_moveRow_kindOf_L3 fu n s v2 v3 v4 = some ts → ∀ (H : Heap) (locs : List Loc), Iv G (va_A (wM G ad sa) s0.heap.size) s0 H locs (wM G ad s) → ∀ ls, lv_has ls 5 [(0, .ref (ad 0)), (1, .ref (ad 2)), (2, .int v2), (3, .int v3), (4, .int v4)] → W p l e { frames := 0, cells := 0, slots := 0, locals := 0 } s0 m args below meth c H locs 0 0 (QV G below (wM G ad sa) (wM G ad ts) args s0) (F0 m 3 ls []) := by
    intro n
    induction n with
    | zero => intro s v2 v3 v4 h; exact absurd h (fun q => by cases q)
    | succ n ih =>
      intro s v2 v3 v4 h H locs I ls hl
      rw [f_M_moveRow_kindOf_L3] at h
      refine lv_iload hx hb dX12_moveRow_3 (lv_at hl 4 rfl) ?_
      refine lv_iload_n hx hb dX12_moveRow_5 rfl (lv_at hl 2 rfl) ?_
      refine lv_icmp_ge (tgt := 58) hx hb dX12_moveRow_6 (by decide) (fun c1 => ?_) (fun c1 => ?_)
      · replace h := if_t h c1
        obtain rfl := some1 h
        exact e_v XX hr I dX12_moveRow_58
      · replace h := if_f h c1
        refine lv_iload_n hx hb dX12_moveRow_9 rfl (lv_at hl 3 rfl) ?_
        refine lv_if_eq (tgt := 29) hx hb dX12_moveRow_10 (by decide) (fun c1 => ?_) (fun c1 => ?_)
        · replace h := if_t h c1
          refine lv_aload_n hx hb dX12_moveRow_29 rfl (lv_at hl 1 rfl) ?_
          refine lv_iload hx hb dX12_moveRow_30 (lv_at hl 4 rfl) ?_
          refine lv_aload_n hx hb dX12_moveRow_32 rfl (lv_at hl 0 rfl) ?_
          refine gM_keptRow XX I dX12_moveRow_33 ?_
          refine lv_aload_n hx hb dX12_moveRow_36 rfl (lv_at hl 0 rfl) ?_
          refine gM_movedTo XX I dX12_moveRow_37 ?_
          obtain ⟨g1, h⟩ := gd_some h
          refine r_iald XX I 25 (aM_keptRow) g1 dX12_moveRow_40 ?_
          refine lv_topi (fun y2 ey2 => ?_)
          replace h := lt_e h ey2
          obtain ⟨g3, h⟩ := gd_some h
          refine r_iast XX I 1 (aM_kindOf) (sM_kindOf) g3 dX12_moveRow_41 (fun H locs I => ?_)
          obtain ⟨s4, es4⟩ : ∃ z, z = sr s 1 v4 y2 := ⟨_, rfl⟩
          replace h := lt_e h es4
          replace I : Iv G (va_A (wM G ad sa) s0.heap.size) s0 H locs (wM G ad s4) := by rw [es4]; exact I
          refine lv_aload_n hx hb dX12_moveRow_42 rfl (lv_at hl 0 rfl) ?_
          refine lv_dup hx hb dX12_moveRow_43 rfl ?_
          refine gM_movedTo XX I dX12_moveRow_44 ?_
          refine lv_iconst (v := 1) hx hb dX12_moveRow_47 (by decide) ?_
          refine lv_iadd hx hb dX12_moveRow_48 ?_
          refine lv_topi (fun y5 ey5 => ?_)
          replace h := lt_e h ey5
          refine pM_movedTo XX I dX12_moveRow_49 (fun H locs I => ?_)
          obtain ⟨s6, es6⟩ : ∃ z, z = si s4 51 y5 := ⟨_, rfl⟩
          replace h := lt_e h es6
          replace I : Iv G (va_A (wM G ad sa) s0.heap.size) s0 H locs (wM G ad s6) := by rw [es6]; exact I
          obtain ⟨y7, ey7⟩ : ∃ z : Int32, z = v4 + (1 : Int32) := ⟨_, rfl⟩
          replace h := lt_e h ey7
          refine lv_iinc (v := y7) (lv' := [(4, .int y7), (0, .ref (ad 0)), (1, .ref (ad 2)), (2, .int v2), (3, .int v3)]) hx hb dX12_moveRow_52 hl (k := 4) rfl (by rw [ey7]; rfl) (by decide) rfl (fun ls hl => ?_)
          refine lv_goto (tgt := 3) hx hb dX12_moveRow_55 (by decide) ?_
          exact ih _ _ _ _ h _ _ I ls (lv_sub hl [1, 2, 3, 4, 0] rfl)
        · replace h := if_f h c1
          refine lv_aload_n hx hb dX12_moveRow_13 rfl (lv_at hl 0 rfl) ?_
          refine gM_keptRow XX I dX12_moveRow_14 ?_
          refine lv_aload_n hx hb dX12_moveRow_17 rfl (lv_at hl 0 rfl) ?_
          refine gM_movedTo XX I dX12_moveRow_18 ?_
          refine lv_aload_n hx hb dX12_moveRow_21 rfl (lv_at hl 1 rfl) ?_
          refine lv_iload hx hb dX12_moveRow_22 (lv_at hl 4 rfl) ?_
          obtain ⟨g8, h⟩ := gd_some h
          refine r_iald XX I 1 (aM_kindOf) g8 dX12_moveRow_24 ?_
          refine lv_topi (fun y9 ey9 => ?_)
          replace h := lt_e h ey9
          obtain ⟨g10, h⟩ := gd_some h
          refine r_iast XX I 25 (aM_keptRow) (sM_keptRow) g10 dX12_moveRow_25 (fun H locs I => ?_)
          obtain ⟨s11, es11⟩ : ∃ z, z = sr s 50 (gi s 51) y9 := ⟨_, rfl⟩
          replace h := lt_e h es11
          replace I : Iv G (va_A (wM G ad sa) s0.heap.size) s0 H locs (wM G ad s11) := by rw [es11]; exact I
          refine lv_goto (tgt := 42) hx hb dX12_moveRow_26 (by decide) ?_
          refine lv_aload_n hx hb dX12_moveRow_42 rfl (lv_at hl 0 rfl) ?_
          refine lv_dup hx hb dX12_moveRow_43 rfl ?_
          refine gM_movedTo XX I dX12_moveRow_44 ?_
          refine lv_iconst (v := 1) hx hb dX12_moveRow_47 (by decide) ?_
          refine lv_iadd hx hb dX12_moveRow_48 ?_
          refine lv_topi (fun y12 ey12 => ?_)
          replace h := lt_e h ey12
          refine pM_movedTo XX I dX12_moveRow_49 (fun H locs I => ?_)
          obtain ⟨s13, es13⟩ : ∃ z, z = si s11 51 y12 := ⟨_, rfl⟩
          replace h := lt_e h es13
          replace I : Iv G (va_A (wM G ad sa) s0.heap.size) s0 H locs (wM G ad s13) := by rw [es13]; exact I
          obtain ⟨y14, ey14⟩ : ∃ z : Int32, z = v4 + (1 : Int32) := ⟨_, rfl⟩
          replace h := lt_e h ey14
          refine lv_iinc (v := y14) (lv' := [(4, .int y14), (0, .ref (ad 0)), (1, .ref (ad 2)), (2, .int v2), (3, .int v3)]) hx hb dX12_moveRow_52 hl (k := 4) rfl (by rw [ey14]; rfl) (by decide) rfl (fun ls hl => ?_)
          refine lv_goto (tgt := 3) hx hb dX12_moveRow_55 (by decide) ?_
          exact ih _ _ _ _ h _ _ I ls (lv_sub hl [1, 2, 3, 4, 0] rfl)
  unfold f_M_moveRow_kindOf at h
  refine lv_iconst (v := 0) hx hb dX12_moveRow_0 (by decide) ?_
  refine lv_istore (lv' := [(4, .int (0 : Int32)), (0, .ref (ad 0)), (1, .ref (ad 2)), (2, .int x2), (3, .int x3)]) hx hb dX12_moveRow_1 hl (by decide) rfl (fun ls hl => ?_)
  exact C3 fu _ _ _ _ h _ _ I ls (lv_sub hl [1, 2, 3, 4, 0] rfl)
set_option maxHeartbeats 4000000 in
set_option maxRecDepth 100000 in
theorem c_M_moveRow_aOf (l : Launch) (G : g_G) (OK : EOk G.2.2) (ad : Nat → Nat) (fu : Nat) (sa : g_St) (x2 : Int32) (x3 : Int32) (ts : g_St) (h : f_M_moveRow_aOf fu sa x2 x3 = some ts) : HV l G yX12_moveRow (Cond.code yX12_moveRow cX12_moveRow 5 none :: gT) { frames := 0, cells := 0, slots := 0, locals := 0 } [.ref (ad 0), .ref (ad 3), .int x2, .int x3] (wM G ad sa) (wM G ad ts) := by
  refine HV.mk (lv := [(0, .ref (ad 0)), (1, .ref (ad 3)), (2, .int x2), (3, .int x3)]) OK (by decide) (Nat.le_of_ble_eq_true rfl) rfl ?_
  intro p e s0 m args below meth c ls XX hr I hl
  have hx := XX.x
  have hb := XX.b
  have C3 : ∀ n : Nat, ∀ (s : g_St) (v2 : Int32) (v3 : Int32) (v4 : Int32), f_M_moveRow_aOf_L3 fu n s v2 v3 v4 = some ts → ∀ (H : Heap) (locs : List Loc), Iv G (va_A (wM G ad sa) s0.heap.size) s0 H locs (wM G ad s) → ∀ ls, lv_has ls 5 [(0, .ref (ad 0)), (1, .ref (ad 3)), (2, .int v2), (3, .int v3), (4, .int v4)] → W p l e { frames := 0, cells := 0, slots := 0, locals := 0 } s0 m args below meth c H locs 0 0 (QV G below (wM G ad sa) (wM G ad ts) args s0) (F0 m 3 ls []) := by
    intro n
    induction n with
    | zero => intro s v2 v3 v4 h; exact absurd h (fun q => by cases q)
    | succ n ih =>
      intro s v2 v3 v4 h H locs I ls hl
      rw [f_M_moveRow_aOf_L3] at h
      refine lv_iload hx hb dX12_moveRow_3 (lv_at hl 4 rfl) ?_
      refine lv_iload_n hx hb dX12_moveRow_5 rfl (lv_at hl 2 rfl) ?_
      refine lv_icmp_ge (tgt := 58) hx hb dX12_moveRow_6 (by decide) (fun c1 => ?_) (fun c1 => ?_)
      · replace h := if_t h c1
        obtain rfl := some1 h
        exact e_v XX hr I dX12_moveRow_58
      · replace h := if_f h c1
        refine lv_iload_n hx hb dX12_moveRow_9 rfl (lv_at hl 3 rfl) ?_
        refine lv_if_eq (tgt := 29) hx hb dX12_moveRow_10 (by decide) (fun c1 => ?_) (fun c1 => ?_)
        · replace h := if_t h c1
          refine lv_aload_n hx hb dX12_moveRow_29 rfl (lv_at hl 1 rfl) ?_
          refine lv_iload hx hb dX12_moveRow_30 (lv_at hl 4 rfl) ?_
          refine lv_aload_n hx hb dX12_moveRow_32 rfl (lv_at hl 0 rfl) ?_
          refine gM_keptRow XX I dX12_moveRow_33 ?_
          refine lv_aload_n hx hb dX12_moveRow_36 rfl (lv_at hl 0 rfl) ?_
          refine gM_movedTo XX I dX12_moveRow_37 ?_
          obtain ⟨g1, h⟩ := gd_some h
          refine r_iald XX I 25 (aM_keptRow) g1 dX12_moveRow_40 ?_
          refine lv_topi (fun y2 ey2 => ?_)
          replace h := lt_e h ey2
          obtain ⟨g3, h⟩ := gd_some h
          refine r_iast XX I 2 (aM_aOf) (sM_aOf) g3 dX12_moveRow_41 (fun H locs I => ?_)
          obtain ⟨s4, es4⟩ : ∃ z, z = sr s 2 v4 y2 := ⟨_, rfl⟩
          replace h := lt_e h es4
          replace I : Iv G (va_A (wM G ad sa) s0.heap.size) s0 H locs (wM G ad s4) := by rw [es4]; exact I
          refine lv_aload_n hx hb dX12_moveRow_42 rfl (lv_at hl 0 rfl) ?_
          refine lv_dup hx hb dX12_moveRow_43 rfl ?_
          refine gM_movedTo XX I dX12_moveRow_44 ?_
          refine lv_iconst (v := 1) hx hb dX12_moveRow_47 (by decide) ?_
          refine lv_iadd hx hb dX12_moveRow_48 ?_
          refine lv_topi (fun y5 ey5 => ?_)
          replace h := lt_e h ey5
          refine pM_movedTo XX I dX12_moveRow_49 (fun H locs I => ?_)
          obtain ⟨s6, es6⟩ : ∃ z, z = si s4 51 y5 := ⟨_, rfl⟩
          replace h := lt_e h es6
          replace I : Iv G (va_A (wM G ad sa) s0.heap.size) s0 H locs (wM G ad s6) := by rw [es6]; exact I
          obtain ⟨y7, ey7⟩ : ∃ z : Int32, z = v4 + (1 : Int32) := ⟨_, rfl⟩
          replace h := lt_e h ey7
          refine lv_iinc (v := y7) (lv' := [(4, .int y7), (0, .ref (ad 0)), (1, .ref (ad 3)), (2, .int v2), (3, .int v3)]) hx hb dX12_moveRow_52 hl (k := 4) rfl (by rw [ey7]; rfl) (by decide) rfl (fun ls hl => ?_)
          refine lv_goto (tgt := 3) hx hb dX12_moveRow_55 (by decide) ?_
          exact ih _ _ _ _ h _ _ I ls (lv_sub hl [1, 2, 3, 4, 0] rfl)
        · replace h := if_f h c1
          refine lv_aload_n hx hb dX12_moveRow_13 rfl (lv_at hl 0 rfl) ?_
          refine gM_keptRow XX I dX12_moveRow_14 ?_
          refine lv_aload_n hx hb dX12_moveRow_17 rfl (lv_at hl 0 rfl) ?_
          refine gM_movedTo XX I dX12_moveRow_18 ?_
          refine lv_aload_n hx hb dX12_moveRow_21 rfl (lv_at hl 1 rfl) ?_
          refine lv_iload hx hb dX12_moveRow_22 (lv_at hl 4 rfl) ?_
          obtain ⟨g8, h⟩ := gd_some h
          refine r_iald XX I 2 (aM_aOf) g8 dX12_moveRow_24 ?_
          refine lv_topi (fun y9 ey9 => ?_)
          replace h := lt_e h ey9
          obtain ⟨g10, h⟩ := gd_some h
          refine r_iast XX I 25 (aM_keptRow) (sM_keptRow) g10 dX12_moveRow_25 (fun H locs I => ?_)
          obtain ⟨s11, es11⟩ : ∃ z, z = sr s 50 (gi s 51) y9 := ⟨_, rfl⟩
          replace h := lt_e h es11
          replace I : Iv G (va_A (wM G ad sa) s0.heap.size) s0 H locs (wM G ad s11) := by rw [es11]; exact I
          refine lv_goto (tgt := 42) hx hb dX12_moveRow_26 (by decide) ?_
          refine lv_aload_n hx hb dX12_moveRow_42 rfl (lv_at hl 0 rfl) ?_
          refine lv_dup hx hb dX12_moveRow_43 rfl ?_
          refine gM_movedTo XX I dX12_moveRow_44 ?_
          refine lv_iconst (v := 1) hx hb dX12_moveRow_47 (by decide) ?_
          refine lv_iadd hx hb dX12_moveRow_48 ?_
          refine lv_topi (fun y12 ey12 => ?_)
          replace h := lt_e h ey12
          refine pM_movedTo XX I dX12_moveRow_49 (fun H locs I => ?_)
          obtain ⟨s13, es13⟩ : ∃ z, z = si s11 51 y12 := ⟨_, rfl⟩
          replace h := lt_e h es13
          replace I : Iv G (va_A (wM G ad sa) s0.heap.size) s0 H locs (wM G ad s13) := by rw [es13]; exact I
          obtain ⟨y14, ey14⟩ : ∃ z : Int32, z = v4 + (1 : Int32) := ⟨_, rfl⟩
          replace h := lt_e h ey14
          refine lv_iinc (v := y14) (lv' := [(4, .int y14), (0, .ref (ad 0)), (1, .ref (ad 3)), (2, .int v2), (3, .int v3)]) hx hb dX12_moveRow_52 hl (k := 4) rfl (by rw [ey14]; rfl) (by decide) rfl (fun ls hl => ?_)
          refine lv_goto (tgt := 3) hx hb dX12_moveRow_55 (by decide) ?_
          exact ih _ _ _ _ h _ _ I ls (lv_sub hl [1, 2, 3, 4, 0] rfl)
  unfold f_M_moveRow_aOf at h
  refine lv_iconst (v := 0) hx hb dX12_moveRow_0 (by decide) ?_
  refine lv_istore (lv' := [(4, .int (0 : Int32)), (0, .ref (ad 0)), (1, .ref (ad 3)), (2, .int x2), (3, .int x3)]) hx hb dX12_moveRow_1 hl (by decide) rfl (fun ls hl => ?_)
  exact C3 fu _ _ _ _ h _ _ I ls (lv_sub hl [1, 2, 3, 4, 0] rfl)
set_option maxHeartbeats 4000000 in
set_option maxRecDepth 100000 in
theorem c_M_moveRow_age (l : Launch) (G : g_G) (OK : EOk G.2.2) (ad : Nat → Nat) (fu : Nat) (sa : g_St) (x2 : Int32) (x3 : Int32) (ts : g_St) (h : f_M_moveRow_age fu sa x2 x3 = some ts) : HV l G yX12_moveRow (Cond.code yX12_moveRow cX12_moveRow 5 none :: gT) { frames := 0, cells := 0, slots := 0, locals := 0 } [.ref (ad 0), .ref (ad 4), .int x2, .int x3] (wM G ad sa) (wM G ad ts) := by
  refine HV.mk (lv := [(0, .ref (ad 0)), (1, .ref (ad 4)), (2, .int x2), (3, .int x3)]) OK (by decide) (Nat.le_of_ble_eq_true rfl) rfl ?_
  intro p e s0 m args below meth c ls XX hr I hl
  have hx := XX.x
  have hb := XX.b
  have C3 : ∀ n : Nat, ∀ (s : g_St) (v2 : Int32) (v3 : Int32) (v4 : Int32), f_M_moveRow_age_L3 fu n s v2 v3 v4 = some ts → ∀ (H : Heap) (locs : List Loc), Iv G (va_A (wM G ad sa) s0.heap.size) s0 H locs (wM G ad s) → ∀ ls, lv_has ls 5 [(0, .ref (ad 0)), (1, .ref (ad 4)), (2, .int v2), (3, .int v3), (4, .int v4)] → W p l e { frames := 0, cells := 0, slots := 0, locals := 0 } s0 m args below meth c H locs 0 0 (QV G below (wM G ad sa) (wM G ad ts) args s0) (F0 m 3 ls []) := by
    intro n
    induction n with
    | zero => intro s v2 v3 v4 h; exact absurd h (fun q => by cases q)
    | succ n ih =>
      intro s v2 v3 v4 h H locs I ls hl
      rw [f_M_moveRow_age_L3] at h
      refine lv_iload hx hb dX12_moveRow_3 (lv_at hl 4 rfl) ?_
      refine lv_iload_n hx hb dX12_moveRow_5 rfl (lv_at hl 2 rfl) ?_
      refine lv_icmp_ge (tgt := 58) hx hb dX12_moveRow_6 (by decide) (fun c1 => ?_) (fun c1 => ?_)
      · replace h := if_t h c1
        obtain rfl := some1 h
        exact e_v XX hr I dX12_moveRow_58
      · replace h := if_f h c1
        refine lv_iload_n hx hb dX12_moveRow_9 rfl (lv_at hl 3 rfl) ?_
        refine lv_if_eq (tgt := 29) hx hb dX12_moveRow_10 (by decide) (fun c1 => ?_) (fun c1 => ?_)
        · replace h := if_t h c1
          refine lv_aload_n hx hb dX12_moveRow_29 rfl (lv_at hl 1 rfl) ?_
          refine lv_iload hx hb dX12_moveRow_30 (lv_at hl 4 rfl) ?_
          refine lv_aload_n hx hb dX12_moveRow_32 rfl (lv_at hl 0 rfl) ?_
          refine gM_keptRow XX I dX12_moveRow_33 ?_
          refine lv_aload_n hx hb dX12_moveRow_36 rfl (lv_at hl 0 rfl) ?_
          refine gM_movedTo XX I dX12_moveRow_37 ?_
          obtain ⟨g1, h⟩ := gd_some h
          refine r_iald XX I 25 (aM_keptRow) g1 dX12_moveRow_40 ?_
          refine lv_topi (fun y2 ey2 => ?_)
          replace h := lt_e h ey2
          obtain ⟨g3, h⟩ := gd_some h
          refine r_iast XX I 3 (aM_age) (sM_age) g3 dX12_moveRow_41 (fun H locs I => ?_)
          obtain ⟨s4, es4⟩ : ∃ z, z = sr s 3 v4 y2 := ⟨_, rfl⟩
          replace h := lt_e h es4
          replace I : Iv G (va_A (wM G ad sa) s0.heap.size) s0 H locs (wM G ad s4) := by rw [es4]; exact I
          refine lv_aload_n hx hb dX12_moveRow_42 rfl (lv_at hl 0 rfl) ?_
          refine lv_dup hx hb dX12_moveRow_43 rfl ?_
          refine gM_movedTo XX I dX12_moveRow_44 ?_
          refine lv_iconst (v := 1) hx hb dX12_moveRow_47 (by decide) ?_
          refine lv_iadd hx hb dX12_moveRow_48 ?_
          refine lv_topi (fun y5 ey5 => ?_)
          replace h := lt_e h ey5
          refine pM_movedTo XX I dX12_moveRow_49 (fun H locs I => ?_)
          obtain ⟨s6, es6⟩ : ∃ z, z = si s4 51 y5 := ⟨_, rfl⟩
          replace h := lt_e h es6
          replace I : Iv G (va_A (wM G ad sa) s0.heap.size) s0 H locs (wM G ad s6) := by rw [es6]; exact I
          obtain ⟨y7, ey7⟩ : ∃ z : Int32, z = v4 + (1 : Int32) := ⟨_, rfl⟩
          replace h := lt_e h ey7
          refine lv_iinc (v := y7) (lv' := [(4, .int y7), (0, .ref (ad 0)), (1, .ref (ad 4)), (2, .int v2), (3, .int v3)]) hx hb dX12_moveRow_52 hl (k := 4) rfl (by rw [ey7]; rfl) (by decide) rfl (fun ls hl => ?_)
          refine lv_goto (tgt := 3) hx hb dX12_moveRow_55 (by decide) ?_
          exact ih _ _ _ _ h _ _ I ls (lv_sub hl [1, 2, 3, 4, 0] rfl)
        · replace h := if_f h c1
          refine lv_aload_n hx hb dX12_moveRow_13 rfl (lv_at hl 0 rfl) ?_
          refine gM_keptRow XX I dX12_moveRow_14 ?_
          refine lv_aload_n hx hb dX12_moveRow_17 rfl (lv_at hl 0 rfl) ?_
          refine gM_movedTo XX I dX12_moveRow_18 ?_
          refine lv_aload_n hx hb dX12_moveRow_21 rfl (lv_at hl 1 rfl) ?_
          refine lv_iload hx hb dX12_moveRow_22 (lv_at hl 4 rfl) ?_
          obtain ⟨g8, h⟩ := gd_some h
          refine r_iald XX I 3 (aM_age) g8 dX12_moveRow_24 ?_
          refine lv_topi (fun y9 ey9 => ?_)
          replace h := lt_e h ey9
          obtain ⟨g10, h⟩ := gd_some h
          refine r_iast XX I 25 (aM_keptRow) (sM_keptRow) g10 dX12_moveRow_25 (fun H locs I => ?_)
          obtain ⟨s11, es11⟩ : ∃ z, z = sr s 50 (gi s 51) y9 := ⟨_, rfl⟩
          replace h := lt_e h es11
          replace I : Iv G (va_A (wM G ad sa) s0.heap.size) s0 H locs (wM G ad s11) := by rw [es11]; exact I
          refine lv_goto (tgt := 42) hx hb dX12_moveRow_26 (by decide) ?_
          refine lv_aload_n hx hb dX12_moveRow_42 rfl (lv_at hl 0 rfl) ?_
          refine lv_dup hx hb dX12_moveRow_43 rfl ?_
          refine gM_movedTo XX I dX12_moveRow_44 ?_
          refine lv_iconst (v := 1) hx hb dX12_moveRow_47 (by decide) ?_
          refine lv_iadd hx hb dX12_moveRow_48 ?_
          refine lv_topi (fun y12 ey12 => ?_)
          replace h := lt_e h ey12
          refine pM_movedTo XX I dX12_moveRow_49 (fun H locs I => ?_)
          obtain ⟨s13, es13⟩ : ∃ z, z = si s11 51 y12 := ⟨_, rfl⟩
          replace h := lt_e h es13
          replace I : Iv G (va_A (wM G ad sa) s0.heap.size) s0 H locs (wM G ad s13) := by rw [es13]; exact I
          obtain ⟨y14, ey14⟩ : ∃ z : Int32, z = v4 + (1 : Int32) := ⟨_, rfl⟩
          replace h := lt_e h ey14
          refine lv_iinc (v := y14) (lv' := [(4, .int y14), (0, .ref (ad 0)), (1, .ref (ad 4)), (2, .int v2), (3, .int v3)]) hx hb dX12_moveRow_52 hl (k := 4) rfl (by rw [ey14]; rfl) (by decide) rfl (fun ls hl => ?_)
          refine lv_goto (tgt := 3) hx hb dX12_moveRow_55 (by decide) ?_
          exact ih _ _ _ _ h _ _ I ls (lv_sub hl [1, 2, 3, 4, 0] rfl)
  unfold f_M_moveRow_age at h
  refine lv_iconst (v := 0) hx hb dX12_moveRow_0 (by decide) ?_
  refine lv_istore (lv' := [(4, .int (0 : Int32)), (0, .ref (ad 0)), (1, .ref (ad 4)), (2, .int x2), (3, .int x3)]) hx hb dX12_moveRow_1 hl (by decide) rfl (fun ls hl => ?_)
  exact C3 fu _ _ _ _ h _ _ I ls (lv_sub hl [1, 2, 3, 4, 0] rfl)
set_option maxHeartbeats 4000000 in
set_option maxRecDepth 100000 in
theorem c_M_moveRow_had (l : Launch) (G : g_G) (OK : EOk G.2.2) (ad : Nat → Nat) (fu : Nat) (sa : g_St) (x2 : Int32) (x3 : Int32) (ts : g_St) (h : f_M_moveRow_had fu sa x2 x3 = some ts) : HV l G yX12_moveRow (Cond.code yX12_moveRow cX12_moveRow 5 none :: gT) { frames := 0, cells := 0, slots := 0, locals := 0 } [.ref (ad 0), .ref (ad 5), .int x2, .int x3] (wM G ad sa) (wM G ad ts) := by
  refine HV.mk (lv := [(0, .ref (ad 0)), (1, .ref (ad 5)), (2, .int x2), (3, .int x3)]) OK (by decide) (Nat.le_of_ble_eq_true rfl) rfl ?_
  intro p e s0 m args below meth c ls XX hr I hl
  have hx := XX.x
  have hb := XX.b
  have C3 : ∀ n : Nat, ∀ (s : g_St) (v2 : Int32) (v3 : Int32) (v4 : Int32), f_M_moveRow_had_L3 fu n s v2 v3 v4 = some ts → ∀ (H : Heap) (locs : List Loc), Iv G (va_A (wM G ad sa) s0.heap.size) s0 H locs (wM G ad s) → ∀ ls, lv_has ls 5 [(0, .ref (ad 0)), (1, .ref (ad 5)), (2, .int v2), (3, .int v3), (4, .int v4)] → W p l e { frames := 0, cells := 0, slots := 0, locals := 0 } s0 m args below meth c H locs 0 0 (QV G below (wM G ad sa) (wM G ad ts) args s0) (F0 m 3 ls []) := by
    intro n
    induction n with
    | zero => intro s v2 v3 v4 h; exact absurd h (fun q => by cases q)
    | succ n ih =>
      intro s v2 v3 v4 h H locs I ls hl
      rw [f_M_moveRow_had_L3] at h
      refine lv_iload hx hb dX12_moveRow_3 (lv_at hl 4 rfl) ?_
      refine lv_iload_n hx hb dX12_moveRow_5 rfl (lv_at hl 2 rfl) ?_
      refine lv_icmp_ge (tgt := 58) hx hb dX12_moveRow_6 (by decide) (fun c1 => ?_) (fun c1 => ?_)
      · replace h := if_t h c1
        obtain rfl := some1 h
        exact e_v XX hr I dX12_moveRow_58
      · replace h := if_f h c1
        refine lv_iload_n hx hb dX12_moveRow_9 rfl (lv_at hl 3 rfl) ?_
        refine lv_if_eq (tgt := 29) hx hb dX12_moveRow_10 (by decide) (fun c1 => ?_) (fun c1 => ?_)
        · replace h := if_t h c1
          refine lv_aload_n hx hb dX12_moveRow_29 rfl (lv_at hl 1 rfl) ?_
          refine lv_iload hx hb dX12_moveRow_30 (lv_at hl 4 rfl) ?_
          refine lv_aload_n hx hb dX12_moveRow_32 rfl (lv_at hl 0 rfl) ?_
          refine gM_keptRow XX I dX12_moveRow_33 ?_
          refine lv_aload_n hx hb dX12_moveRow_36 rfl (lv_at hl 0 rfl) ?_
          refine gM_movedTo XX I dX12_moveRow_37 ?_
          obtain ⟨g1, h⟩ := gd_some h
          refine r_iald XX I 25 (aM_keptRow) g1 dX12_moveRow_40 ?_
          refine lv_topi (fun y2 ey2 => ?_)
          replace h := lt_e h ey2
          obtain ⟨g3, h⟩ := gd_some h
          refine r_iast XX I 4 (aM_had) (sM_had) g3 dX12_moveRow_41 (fun H locs I => ?_)
          obtain ⟨s4, es4⟩ : ∃ z, z = sr s 4 v4 y2 := ⟨_, rfl⟩
          replace h := lt_e h es4
          replace I : Iv G (va_A (wM G ad sa) s0.heap.size) s0 H locs (wM G ad s4) := by rw [es4]; exact I
          refine lv_aload_n hx hb dX12_moveRow_42 rfl (lv_at hl 0 rfl) ?_
          refine lv_dup hx hb dX12_moveRow_43 rfl ?_
          refine gM_movedTo XX I dX12_moveRow_44 ?_
          refine lv_iconst (v := 1) hx hb dX12_moveRow_47 (by decide) ?_
          refine lv_iadd hx hb dX12_moveRow_48 ?_
          refine lv_topi (fun y5 ey5 => ?_)
          replace h := lt_e h ey5
          refine pM_movedTo XX I dX12_moveRow_49 (fun H locs I => ?_)
          obtain ⟨s6, es6⟩ : ∃ z, z = si s4 51 y5 := ⟨_, rfl⟩
          replace h := lt_e h es6
          replace I : Iv G (va_A (wM G ad sa) s0.heap.size) s0 H locs (wM G ad s6) := by rw [es6]; exact I
          obtain ⟨y7, ey7⟩ : ∃ z : Int32, z = v4 + (1 : Int32) := ⟨_, rfl⟩
          replace h := lt_e h ey7
          refine lv_iinc (v := y7) (lv' := [(4, .int y7), (0, .ref (ad 0)), (1, .ref (ad 5)), (2, .int v2), (3, .int v3)]) hx hb dX12_moveRow_52 hl (k := 4) rfl (by rw [ey7]; rfl) (by decide) rfl (fun ls hl => ?_)
          refine lv_goto (tgt := 3) hx hb dX12_moveRow_55 (by decide) ?_
          exact ih _ _ _ _ h _ _ I ls (lv_sub hl [1, 2, 3, 4, 0] rfl)
        · replace h := if_f h c1
          refine lv_aload_n hx hb dX12_moveRow_13 rfl (lv_at hl 0 rfl) ?_
          refine gM_keptRow XX I dX12_moveRow_14 ?_
          refine lv_aload_n hx hb dX12_moveRow_17 rfl (lv_at hl 0 rfl) ?_
          refine gM_movedTo XX I dX12_moveRow_18 ?_
          refine lv_aload_n hx hb dX12_moveRow_21 rfl (lv_at hl 1 rfl) ?_
          refine lv_iload hx hb dX12_moveRow_22 (lv_at hl 4 rfl) ?_
          obtain ⟨g8, h⟩ := gd_some h
          refine r_iald XX I 4 (aM_had) g8 dX12_moveRow_24 ?_
          refine lv_topi (fun y9 ey9 => ?_)
          replace h := lt_e h ey9
          obtain ⟨g10, h⟩ := gd_some h
          refine r_iast XX I 25 (aM_keptRow) (sM_keptRow) g10 dX12_moveRow_25 (fun H locs I => ?_)
          obtain ⟨s11, es11⟩ : ∃ z, z = sr s 50 (gi s 51) y9 := ⟨_, rfl⟩
          replace h := lt_e h es11
          replace I : Iv G (va_A (wM G ad sa) s0.heap.size) s0 H locs (wM G ad s11) := by rw [es11]; exact I
          refine lv_goto (tgt := 42) hx hb dX12_moveRow_26 (by decide) ?_
          refine lv_aload_n hx hb dX12_moveRow_42 rfl (lv_at hl 0 rfl) ?_
          refine lv_dup hx hb dX12_moveRow_43 rfl ?_
          refine gM_movedTo XX I dX12_moveRow_44 ?_
          refine lv_iconst (v := 1) hx hb dX12_moveRow_47 (by decide) ?_
          refine lv_iadd hx hb dX12_moveRow_48 ?_
          refine lv_topi (fun y12 ey12 => ?_)
          replace h := lt_e h ey12
          refine pM_movedTo XX I dX12_moveRow_49 (fun H locs I => ?_)
          obtain ⟨s13, es13⟩ : ∃ z, z = si s11 51 y12 := ⟨_, rfl⟩
          replace h := lt_e h es13
          replace I : Iv G (va_A (wM G ad sa) s0.heap.size) s0 H locs (wM G ad s13) := by rw [es13]; exact I
          obtain ⟨y14, ey14⟩ : ∃ z : Int32, z = v4 + (1 : Int32) := ⟨_, rfl⟩
          replace h := lt_e h ey14
          refine lv_iinc (v := y14) (lv' := [(4, .int y14), (0, .ref (ad 0)), (1, .ref (ad 5)), (2, .int v2), (3, .int v3)]) hx hb dX12_moveRow_52 hl (k := 4) rfl (by rw [ey14]; rfl) (by decide) rfl (fun ls hl => ?_)
          refine lv_goto (tgt := 3) hx hb dX12_moveRow_55 (by decide) ?_
          exact ih _ _ _ _ h _ _ I ls (lv_sub hl [1, 2, 3, 4, 0] rfl)
  unfold f_M_moveRow_had at h
  refine lv_iconst (v := 0) hx hb dX12_moveRow_0 (by decide) ?_
  refine lv_istore (lv' := [(4, .int (0 : Int32)), (0, .ref (ad 0)), (1, .ref (ad 5)), (2, .int x2), (3, .int x3)]) hx hb dX12_moveRow_1 hl (by decide) rfl (fun ls hl => ?_)
  exact C3 fu _ _ _ _ h _ _ I ls (lv_sub hl [1, 2, 3, 4, 0] rfl)
set_option maxHeartbeats 4000000 in
set_option maxRecDepth 100000 in
theorem c_M_moveRow_weight (l : Launch) (G : g_G) (OK : EOk G.2.2) (ad : Nat → Nat) (fu : Nat) (sa : g_St) (x2 : Int32) (x3 : Int32) (ts : g_St) (h : f_M_moveRow_weight fu sa x2 x3 = some ts) : HV l G yX12_moveRow (Cond.code yX12_moveRow cX12_moveRow 5 none :: gT) { frames := 0, cells := 0, slots := 0, locals := 0 } [.ref (ad 0), .ref (ad 7), .int x2, .int x3] (wM G ad sa) (wM G ad ts) := by
  refine HV.mk (lv := [(0, .ref (ad 0)), (1, .ref (ad 7)), (2, .int x2), (3, .int x3)]) OK (by decide) (Nat.le_of_ble_eq_true rfl) rfl ?_
  intro p e s0 m args below meth c ls XX hr I hl
  have hx := XX.x
  have hb := XX.b
  have C3 : ∀ n : Nat, ∀ (s : g_St) (v2 : Int32) (v3 : Int32) (v4 : Int32), f_M_moveRow_weight_L3 fu n s v2 v3 v4 = some ts → ∀ (H : Heap) (locs : List Loc), Iv G (va_A (wM G ad sa) s0.heap.size) s0 H locs (wM G ad s) → ∀ ls, lv_has ls 5 [(0, .ref (ad 0)), (1, .ref (ad 7)), (2, .int v2), (3, .int v3), (4, .int v4)] → W p l e { frames := 0, cells := 0, slots := 0, locals := 0 } s0 m args below meth c H locs 0 0 (QV G below (wM G ad sa) (wM G ad ts) args s0) (F0 m 3 ls []) := by
    intro n
    induction n with
    | zero => intro s v2 v3 v4 h; exact absurd h (fun q => by cases q)
    | succ n ih =>
      intro s v2 v3 v4 h H locs I ls hl
      rw [f_M_moveRow_weight_L3] at h
      refine lv_iload hx hb dX12_moveRow_3 (lv_at hl 4 rfl) ?_
      refine lv_iload_n hx hb dX12_moveRow_5 rfl (lv_at hl 2 rfl) ?_
      refine lv_icmp_ge (tgt := 58) hx hb dX12_moveRow_6 (by decide) (fun c1 => ?_) (fun c1 => ?_)
      · replace h := if_t h c1
        obtain rfl := some1 h
        exact e_v XX hr I dX12_moveRow_58
      · replace h := if_f h c1
        refine lv_iload_n hx hb dX12_moveRow_9 rfl (lv_at hl 3 rfl) ?_
        refine lv_if_eq (tgt := 29) hx hb dX12_moveRow_10 (by decide) (fun c1 => ?_) (fun c1 => ?_)
        · replace h := if_t h c1
          refine lv_aload_n hx hb dX12_moveRow_29 rfl (lv_at hl 1 rfl) ?_
          refine lv_iload hx hb dX12_moveRow_30 (lv_at hl 4 rfl) ?_
          refine lv_aload_n hx hb dX12_moveRow_32 rfl (lv_at hl 0 rfl) ?_
          refine gM_keptRow XX I dX12_moveRow_33 ?_
          refine lv_aload_n hx hb dX12_moveRow_36 rfl (lv_at hl 0 rfl) ?_
          refine gM_movedTo XX I dX12_moveRow_37 ?_
          obtain ⟨g1, h⟩ := gd_some h
          refine r_iald XX I 25 (aM_keptRow) g1 dX12_moveRow_40 ?_
          refine lv_topi (fun y2 ey2 => ?_)
          replace h := lt_e h ey2
          obtain ⟨g3, h⟩ := gd_some h
          refine r_iast XX I 5 (aM_weight) (sM_weight) g3 dX12_moveRow_41 (fun H locs I => ?_)
          obtain ⟨s4, es4⟩ : ∃ z, z = sr s 6 v4 y2 := ⟨_, rfl⟩
          replace h := lt_e h es4
          replace I : Iv G (va_A (wM G ad sa) s0.heap.size) s0 H locs (wM G ad s4) := by rw [es4]; exact I
          refine lv_aload_n hx hb dX12_moveRow_42 rfl (lv_at hl 0 rfl) ?_
          refine lv_dup hx hb dX12_moveRow_43 rfl ?_
          refine gM_movedTo XX I dX12_moveRow_44 ?_
          refine lv_iconst (v := 1) hx hb dX12_moveRow_47 (by decide) ?_
          refine lv_iadd hx hb dX12_moveRow_48 ?_
          refine lv_topi (fun y5 ey5 => ?_)
          replace h := lt_e h ey5
          refine pM_movedTo XX I dX12_moveRow_49 (fun H locs I => ?_)
          obtain ⟨s6, es6⟩ : ∃ z, z = si s4 51 y5 := ⟨_, rfl⟩
          replace h := lt_e h es6
          replace I : Iv G (va_A (wM G ad sa) s0.heap.size) s0 H locs (wM G ad s6) := by rw [es6]; exact I
          obtain ⟨y7, ey7⟩ : ∃ z : Int32, z = v4 + (1 : Int32) := ⟨_, rfl⟩
          replace h := lt_e h ey7
          refine lv_iinc (v := y7) (lv' := [(4, .int y7), (0, .ref (ad 0)), (1, .ref (ad 7)), (2, .int v2), (3, .int v3)]) hx hb dX12_moveRow_52 hl (k := 4) rfl (by rw [ey7]; rfl) (by decide) rfl (fun ls hl => ?_)
          refine lv_goto (tgt := 3) hx hb dX12_moveRow_55 (by decide) ?_
          exact ih _ _ _ _ h _ _ I ls (lv_sub hl [1, 2, 3, 4, 0] rfl)
        · replace h := if_f h c1
          refine lv_aload_n hx hb dX12_moveRow_13 rfl (lv_at hl 0 rfl) ?_
          refine gM_keptRow XX I dX12_moveRow_14 ?_
          refine lv_aload_n hx hb dX12_moveRow_17 rfl (lv_at hl 0 rfl) ?_
          refine gM_movedTo XX I dX12_moveRow_18 ?_
          refine lv_aload_n hx hb dX12_moveRow_21 rfl (lv_at hl 1 rfl) ?_
          refine lv_iload hx hb dX12_moveRow_22 (lv_at hl 4 rfl) ?_
          obtain ⟨g8, h⟩ := gd_some h
          refine r_iald XX I 5 (aM_weight) g8 dX12_moveRow_24 ?_
          refine lv_topi (fun y9 ey9 => ?_)
          replace h := lt_e h ey9
          obtain ⟨g10, h⟩ := gd_some h
          refine r_iast XX I 25 (aM_keptRow) (sM_keptRow) g10 dX12_moveRow_25 (fun H locs I => ?_)
          obtain ⟨s11, es11⟩ : ∃ z, z = sr s 50 (gi s 51) y9 := ⟨_, rfl⟩
          replace h := lt_e h es11
          replace I : Iv G (va_A (wM G ad sa) s0.heap.size) s0 H locs (wM G ad s11) := by rw [es11]; exact I
          refine lv_goto (tgt := 42) hx hb dX12_moveRow_26 (by decide) ?_
          refine lv_aload_n hx hb dX12_moveRow_42 rfl (lv_at hl 0 rfl) ?_
          refine lv_dup hx hb dX12_moveRow_43 rfl ?_
          refine gM_movedTo XX I dX12_moveRow_44 ?_
          refine lv_iconst (v := 1) hx hb dX12_moveRow_47 (by decide) ?_
          refine lv_iadd hx hb dX12_moveRow_48 ?_
          refine lv_topi (fun y12 ey12 => ?_)
          replace h := lt_e h ey12
          refine pM_movedTo XX I dX12_moveRow_49 (fun H locs I => ?_)
          obtain ⟨s13, es13⟩ : ∃ z, z = si s11 51 y12 := ⟨_, rfl⟩
          replace h := lt_e h es13
          replace I : Iv G (va_A (wM G ad sa) s0.heap.size) s0 H locs (wM G ad s13) := by rw [es13]; exact I
          obtain ⟨y14, ey14⟩ : ∃ z : Int32, z = v4 + (1 : Int32) := ⟨_, rfl⟩
          replace h := lt_e h ey14
          refine lv_iinc (v := y14) (lv' := [(4, .int y14), (0, .ref (ad 0)), (1, .ref (ad 7)), (2, .int v2), (3, .int v3)]) hx hb dX12_moveRow_52 hl (k := 4) rfl (by rw [ey14]; rfl) (by decide) rfl (fun ls hl => ?_)
          refine lv_goto (tgt := 3) hx hb dX12_moveRow_55 (by decide) ?_
          exact ih _ _ _ _ h _ _ I ls (lv_sub hl [1, 2, 3, 4, 0] rfl)
  unfold f_M_moveRow_weight at h
  refine lv_iconst (v := 0) hx hb dX12_moveRow_0 (by decide) ?_
  refine lv_istore (lv' := [(4, .int (0 : Int32)), (0, .ref (ad 0)), (1, .ref (ad 7)), (2, .int x2), (3, .int x3)]) hx hb dX12_moveRow_1 hl (by decide) rfl (fun ls hl => ?_)
  exact C3 fu _ _ _ _ h _ _ I ls (lv_sub hl [1, 2, 3, 4, 0] rfl)
set_option maxHeartbeats 4000000 in
set_option maxRecDepth 100000 in
theorem c_M_moveRow_worth (l : Launch) (G : g_G) (OK : EOk G.2.2) (ad : Nat → Nat) (fu : Nat) (sa : g_St) (x2 : Int32) (x3 : Int32) (ts : g_St) (h : f_M_moveRow_worth fu sa x2 x3 = some ts) : HV l G yX12_moveRow (Cond.code yX12_moveRow cX12_moveRow 5 none :: gT) { frames := 0, cells := 0, slots := 0, locals := 0 } [.ref (ad 0), .ref (ad 8), .int x2, .int x3] (wM G ad sa) (wM G ad ts) := by
  refine HV.mk (lv := [(0, .ref (ad 0)), (1, .ref (ad 8)), (2, .int x2), (3, .int x3)]) OK (by decide) (Nat.le_of_ble_eq_true rfl) rfl ?_
  intro p e s0 m args below meth c ls XX hr I hl
  have hx := XX.x
  have hb := XX.b
  have C3 : ∀ n : Nat, ∀ (s : g_St) (v2 : Int32) (v3 : Int32) (v4 : Int32), f_M_moveRow_worth_L3 fu n s v2 v3 v4 = some ts → ∀ (H : Heap) (locs : List Loc), Iv G (va_A (wM G ad sa) s0.heap.size) s0 H locs (wM G ad s) → ∀ ls, lv_has ls 5 [(0, .ref (ad 0)), (1, .ref (ad 8)), (2, .int v2), (3, .int v3), (4, .int v4)] → W p l e { frames := 0, cells := 0, slots := 0, locals := 0 } s0 m args below meth c H locs 0 0 (QV G below (wM G ad sa) (wM G ad ts) args s0) (F0 m 3 ls []) := by
    intro n
    induction n with
    | zero => intro s v2 v3 v4 h; exact absurd h (fun q => by cases q)
    | succ n ih =>
      intro s v2 v3 v4 h H locs I ls hl
      rw [f_M_moveRow_worth_L3] at h
      refine lv_iload hx hb dX12_moveRow_3 (lv_at hl 4 rfl) ?_
      refine lv_iload_n hx hb dX12_moveRow_5 rfl (lv_at hl 2 rfl) ?_
      refine lv_icmp_ge (tgt := 58) hx hb dX12_moveRow_6 (by decide) (fun c1 => ?_) (fun c1 => ?_)
      · replace h := if_t h c1
        obtain rfl := some1 h
        exact e_v XX hr I dX12_moveRow_58
      · replace h := if_f h c1
        refine lv_iload_n hx hb dX12_moveRow_9 rfl (lv_at hl 3 rfl) ?_
        refine lv_if_eq (tgt := 29) hx hb dX12_moveRow_10 (by decide) (fun c1 => ?_) (fun c1 => ?_)
        · replace h := if_t h c1
          refine lv_aload_n hx hb dX12_moveRow_29 rfl (lv_at hl 1 rfl) ?_
          refine lv_iload hx hb dX12_moveRow_30 (lv_at hl 4 rfl) ?_
          refine lv_aload_n hx hb dX12_moveRow_32 rfl (lv_at hl 0 rfl) ?_
          refine gM_keptRow XX I dX12_moveRow_33 ?_
          refine lv_aload_n hx hb dX12_moveRow_36 rfl (lv_at hl 0 rfl) ?_
          refine gM_movedTo XX I dX12_moveRow_37 ?_
          obtain ⟨g1, h⟩ := gd_some h
          refine r_iald XX I 25 (aM_keptRow) g1 dX12_moveRow_40 ?_
          refine lv_topi (fun y2 ey2 => ?_)
          replace h := lt_e h ey2
          obtain ⟨g3, h⟩ := gd_some h
          refine r_iast XX I 6 (aM_worth) (sM_worth) g3 dX12_moveRow_41 (fun H locs I => ?_)
          obtain ⟨s4, es4⟩ : ∃ z, z = sr s 7 v4 y2 := ⟨_, rfl⟩
          replace h := lt_e h es4
          replace I : Iv G (va_A (wM G ad sa) s0.heap.size) s0 H locs (wM G ad s4) := by rw [es4]; exact I
          refine lv_aload_n hx hb dX12_moveRow_42 rfl (lv_at hl 0 rfl) ?_
          refine lv_dup hx hb dX12_moveRow_43 rfl ?_
          refine gM_movedTo XX I dX12_moveRow_44 ?_
          refine lv_iconst (v := 1) hx hb dX12_moveRow_47 (by decide) ?_
          refine lv_iadd hx hb dX12_moveRow_48 ?_
          refine lv_topi (fun y5 ey5 => ?_)
          replace h := lt_e h ey5
          refine pM_movedTo XX I dX12_moveRow_49 (fun H locs I => ?_)
          obtain ⟨s6, es6⟩ : ∃ z, z = si s4 51 y5 := ⟨_, rfl⟩
          replace h := lt_e h es6
          replace I : Iv G (va_A (wM G ad sa) s0.heap.size) s0 H locs (wM G ad s6) := by rw [es6]; exact I
          obtain ⟨y7, ey7⟩ : ∃ z : Int32, z = v4 + (1 : Int32) := ⟨_, rfl⟩
          replace h := lt_e h ey7
          refine lv_iinc (v := y7) (lv' := [(4, .int y7), (0, .ref (ad 0)), (1, .ref (ad 8)), (2, .int v2), (3, .int v3)]) hx hb dX12_moveRow_52 hl (k := 4) rfl (by rw [ey7]; rfl) (by decide) rfl (fun ls hl => ?_)
          refine lv_goto (tgt := 3) hx hb dX12_moveRow_55 (by decide) ?_
          exact ih _ _ _ _ h _ _ I ls (lv_sub hl [1, 2, 3, 4, 0] rfl)
        · replace h := if_f h c1
          refine lv_aload_n hx hb dX12_moveRow_13 rfl (lv_at hl 0 rfl) ?_
          refine gM_keptRow XX I dX12_moveRow_14 ?_
          refine lv_aload_n hx hb dX12_moveRow_17 rfl (lv_at hl 0 rfl) ?_
          refine gM_movedTo XX I dX12_moveRow_18 ?_
          refine lv_aload_n hx hb dX12_moveRow_21 rfl (lv_at hl 1 rfl) ?_
          refine lv_iload hx hb dX12_moveRow_22 (lv_at hl 4 rfl) ?_
          obtain ⟨g8, h⟩ := gd_some h
          refine r_iald XX I 6 (aM_worth) g8 dX12_moveRow_24 ?_
          refine lv_topi (fun y9 ey9 => ?_)
          replace h := lt_e h ey9
          obtain ⟨g10, h⟩ := gd_some h
          refine r_iast XX I 25 (aM_keptRow) (sM_keptRow) g10 dX12_moveRow_25 (fun H locs I => ?_)
          obtain ⟨s11, es11⟩ : ∃ z, z = sr s 50 (gi s 51) y9 := ⟨_, rfl⟩
          replace h := lt_e h es11
          replace I : Iv G (va_A (wM G ad sa) s0.heap.size) s0 H locs (wM G ad s11) := by rw [es11]; exact I
          refine lv_goto (tgt := 42) hx hb dX12_moveRow_26 (by decide) ?_
          refine lv_aload_n hx hb dX12_moveRow_42 rfl (lv_at hl 0 rfl) ?_
          refine lv_dup hx hb dX12_moveRow_43 rfl ?_
          refine gM_movedTo XX I dX12_moveRow_44 ?_
          refine lv_iconst (v := 1) hx hb dX12_moveRow_47 (by decide) ?_
          refine lv_iadd hx hb dX12_moveRow_48 ?_
          refine lv_topi (fun y12 ey12 => ?_)
          replace h := lt_e h ey12
          refine pM_movedTo XX I dX12_moveRow_49 (fun H locs I => ?_)
          obtain ⟨s13, es13⟩ : ∃ z, z = si s11 51 y12 := ⟨_, rfl⟩
          replace h := lt_e h es13
          replace I : Iv G (va_A (wM G ad sa) s0.heap.size) s0 H locs (wM G ad s13) := by rw [es13]; exact I
          obtain ⟨y14, ey14⟩ : ∃ z : Int32, z = v4 + (1 : Int32) := ⟨_, rfl⟩
          replace h := lt_e h ey14
          refine lv_iinc (v := y14) (lv' := [(4, .int y14), (0, .ref (ad 0)), (1, .ref (ad 8)), (2, .int v2), (3, .int v3)]) hx hb dX12_moveRow_52 hl (k := 4) rfl (by rw [ey14]; rfl) (by decide) rfl (fun ls hl => ?_)
          refine lv_goto (tgt := 3) hx hb dX12_moveRow_55 (by decide) ?_
          exact ih _ _ _ _ h _ _ I ls (lv_sub hl [1, 2, 3, 4, 0] rfl)
  unfold f_M_moveRow_worth at h
  refine lv_iconst (v := 0) hx hb dX12_moveRow_0 (by decide) ?_
  refine lv_istore (lv' := [(4, .int (0 : Int32)), (0, .ref (ad 0)), (1, .ref (ad 8)), (2, .int x2), (3, .int x3)]) hx hb dX12_moveRow_1 hl (by decide) rfl (fun ls hl => ?_)
  exact C3 fu _ _ _ _ h _ _ I ls (lv_sub hl [1, 2, 3, 4, 0] rfl)
set_option maxHeartbeats 4000000 in
set_option maxRecDepth 100000 in
theorem c_M_moveRow_laws (l : Launch) (G : g_G) (OK : EOk G.2.2) (ad : Nat → Nat) (fu : Nat) (sa : g_St) (x2 : Int32) (x3 : Int32) (ts : g_St) (h : f_M_moveRow_laws fu sa x2 x3 = some ts) : HV l G yX12_moveRow (Cond.code yX12_moveRow cX12_moveRow 5 none :: gT) { frames := 0, cells := 0, slots := 0, locals := 0 } [.ref (ad 0), .ref (ad 9), .int x2, .int x3] (wM G ad sa) (wM G ad ts) := by
  refine HV.mk (lv := [(0, .ref (ad 0)), (1, .ref (ad 9)), (2, .int x2), (3, .int x3)]) OK (by decide) (Nat.le_of_ble_eq_true rfl) rfl ?_
  intro p e s0 m args below meth c ls XX hr I hl
  have hx := XX.x
  have hb := XX.b
  have C3 : ∀ n : Nat, ∀ (s : g_St) (v2 : Int32) (v3 : Int32) (v4 : Int32), f_M_moveRow_laws_L3 fu n s v2 v3 v4 = some ts → ∀ (H : Heap) (locs : List Loc), Iv G (va_A (wM G ad sa) s0.heap.size) s0 H locs (wM G ad s) → ∀ ls, lv_has ls 5 [(0, .ref (ad 0)), (1, .ref (ad 9)), (2, .int v2), (3, .int v3), (4, .int v4)] → W p l e { frames := 0, cells := 0, slots := 0, locals := 0 } s0 m args below meth c H locs 0 0 (QV G below (wM G ad sa) (wM G ad ts) args s0) (F0 m 3 ls []) := by
    intro n
    induction n with
    | zero => intro s v2 v3 v4 h; exact absurd h (fun q => by cases q)
    | succ n ih =>
      intro s v2 v3 v4 h H locs I ls hl
      rw [f_M_moveRow_laws_L3] at h
      refine lv_iload hx hb dX12_moveRow_3 (lv_at hl 4 rfl) ?_
      refine lv_iload_n hx hb dX12_moveRow_5 rfl (lv_at hl 2 rfl) ?_
      refine lv_icmp_ge (tgt := 58) hx hb dX12_moveRow_6 (by decide) (fun c1 => ?_) (fun c1 => ?_)
      · replace h := if_t h c1
        obtain rfl := some1 h
        exact e_v XX hr I dX12_moveRow_58
      · replace h := if_f h c1
        refine lv_iload_n hx hb dX12_moveRow_9 rfl (lv_at hl 3 rfl) ?_
        refine lv_if_eq (tgt := 29) hx hb dX12_moveRow_10 (by decide) (fun c1 => ?_) (fun c1 => ?_)
        · replace h := if_t h c1
          refine lv_aload_n hx hb dX12_moveRow_29 rfl (lv_at hl 1 rfl) ?_
          refine lv_iload hx hb dX12_moveRow_30 (lv_at hl 4 rfl) ?_
          refine lv_aload_n hx hb dX12_moveRow_32 rfl (lv_at hl 0 rfl) ?_
          refine gM_keptRow XX I dX12_moveRow_33 ?_
          refine lv_aload_n hx hb dX12_moveRow_36 rfl (lv_at hl 0 rfl) ?_
          refine gM_movedTo XX I dX12_moveRow_37 ?_
          obtain ⟨g1, h⟩ := gd_some h
          refine r_iald XX I 25 (aM_keptRow) g1 dX12_moveRow_40 ?_
          refine lv_topi (fun y2 ey2 => ?_)
          replace h := lt_e h ey2
          obtain ⟨g3, h⟩ := gd_some h
          refine r_iast XX I 7 (aM_laws) (sM_laws) g3 dX12_moveRow_41 (fun H locs I => ?_)
          obtain ⟨s4, es4⟩ : ∃ z, z = sr s 8 v4 y2 := ⟨_, rfl⟩
          replace h := lt_e h es4
          replace I : Iv G (va_A (wM G ad sa) s0.heap.size) s0 H locs (wM G ad s4) := by rw [es4]; exact I
          refine lv_aload_n hx hb dX12_moveRow_42 rfl (lv_at hl 0 rfl) ?_
          refine lv_dup hx hb dX12_moveRow_43 rfl ?_
          refine gM_movedTo XX I dX12_moveRow_44 ?_
          refine lv_iconst (v := 1) hx hb dX12_moveRow_47 (by decide) ?_
          refine lv_iadd hx hb dX12_moveRow_48 ?_
          refine lv_topi (fun y5 ey5 => ?_)
          replace h := lt_e h ey5
          refine pM_movedTo XX I dX12_moveRow_49 (fun H locs I => ?_)
          obtain ⟨s6, es6⟩ : ∃ z, z = si s4 51 y5 := ⟨_, rfl⟩
          replace h := lt_e h es6
          replace I : Iv G (va_A (wM G ad sa) s0.heap.size) s0 H locs (wM G ad s6) := by rw [es6]; exact I
          obtain ⟨y7, ey7⟩ : ∃ z : Int32, z = v4 + (1 : Int32) := ⟨_, rfl⟩
          replace h := lt_e h ey7
          refine lv_iinc (v := y7) (lv' := [(4, .int y7), (0, .ref (ad 0)), (1, .ref (ad 9)), (2, .int v2), (3, .int v3)]) hx hb dX12_moveRow_52 hl (k := 4) rfl (by rw [ey7]; rfl) (by decide) rfl (fun ls hl => ?_)
          refine lv_goto (tgt := 3) hx hb dX12_moveRow_55 (by decide) ?_
          exact ih _ _ _ _ h _ _ I ls (lv_sub hl [1, 2, 3, 4, 0] rfl)
        · replace h := if_f h c1
          refine lv_aload_n hx hb dX12_moveRow_13 rfl (lv_at hl 0 rfl) ?_
          refine gM_keptRow XX I dX12_moveRow_14 ?_
          refine lv_aload_n hx hb dX12_moveRow_17 rfl (lv_at hl 0 rfl) ?_
          refine gM_movedTo XX I dX12_moveRow_18 ?_
          refine lv_aload_n hx hb dX12_moveRow_21 rfl (lv_at hl 1 rfl) ?_
          refine lv_iload hx hb dX12_moveRow_22 (lv_at hl 4 rfl) ?_
          obtain ⟨g8, h⟩ := gd_some h
          refine r_iald XX I 7 (aM_laws) g8 dX12_moveRow_24 ?_
          refine lv_topi (fun y9 ey9 => ?_)
          replace h := lt_e h ey9
          obtain ⟨g10, h⟩ := gd_some h
          refine r_iast XX I 25 (aM_keptRow) (sM_keptRow) g10 dX12_moveRow_25 (fun H locs I => ?_)
          obtain ⟨s11, es11⟩ : ∃ z, z = sr s 50 (gi s 51) y9 := ⟨_, rfl⟩
          replace h := lt_e h es11
          replace I : Iv G (va_A (wM G ad sa) s0.heap.size) s0 H locs (wM G ad s11) := by rw [es11]; exact I
          refine lv_goto (tgt := 42) hx hb dX12_moveRow_26 (by decide) ?_
          refine lv_aload_n hx hb dX12_moveRow_42 rfl (lv_at hl 0 rfl) ?_
          refine lv_dup hx hb dX12_moveRow_43 rfl ?_
          refine gM_movedTo XX I dX12_moveRow_44 ?_
          refine lv_iconst (v := 1) hx hb dX12_moveRow_47 (by decide) ?_
          refine lv_iadd hx hb dX12_moveRow_48 ?_
          refine lv_topi (fun y12 ey12 => ?_)
          replace h := lt_e h ey12
          refine pM_movedTo XX I dX12_moveRow_49 (fun H locs I => ?_)
          obtain ⟨s13, es13⟩ : ∃ z, z = si s11 51 y12 := ⟨_, rfl⟩
          replace h := lt_e h es13
          replace I : Iv G (va_A (wM G ad sa) s0.heap.size) s0 H locs (wM G ad s13) := by rw [es13]; exact I
          obtain ⟨y14, ey14⟩ : ∃ z : Int32, z = v4 + (1 : Int32) := ⟨_, rfl⟩
          replace h := lt_e h ey14
          refine lv_iinc (v := y14) (lv' := [(4, .int y14), (0, .ref (ad 0)), (1, .ref (ad 9)), (2, .int v2), (3, .int v3)]) hx hb dX12_moveRow_52 hl (k := 4) rfl (by rw [ey14]; rfl) (by decide) rfl (fun ls hl => ?_)
          refine lv_goto (tgt := 3) hx hb dX12_moveRow_55 (by decide) ?_
          exact ih _ _ _ _ h _ _ I ls (lv_sub hl [1, 2, 3, 4, 0] rfl)
  unfold f_M_moveRow_laws at h
  refine lv_iconst (v := 0) hx hb dX12_moveRow_0 (by decide) ?_
  refine lv_istore (lv' := [(4, .int (0 : Int32)), (0, .ref (ad 0)), (1, .ref (ad 9)), (2, .int x2), (3, .int x3)]) hx hb dX12_moveRow_1 hl (by decide) rfl (fun ls hl => ?_)
  exact C3 fu _ _ _ _ h _ _ I ls (lv_sub hl [1, 2, 3, 4, 0] rfl)
set_option maxHeartbeats 4000000 in
set_option maxRecDepth 100000 in
theorem c_M_moveRow_row (l : Launch) (G : g_G) (OK : EOk G.2.2) (ad : Nat → Nat) (fu : Nat) (sa : g_St) (x2 : Int32) (x3 : Int32) (ts : g_St) (h : f_M_moveRow_row fu sa x2 x3 = some ts) : HV l G yX12_moveRow (Cond.code yX12_moveRow cX12_moveRow 5 none :: gT) { frames := 0, cells := 0, slots := 0, locals := 0 } [.ref (ad 0), .ref (ad 12), .int x2, .int x3] (wM G ad sa) (wM G ad ts) := by
  refine HV.mk (lv := [(0, .ref (ad 0)), (1, .ref (ad 12)), (2, .int x2), (3, .int x3)]) OK (by decide) (Nat.le_of_ble_eq_true rfl) rfl ?_
  intro p e s0 m args below meth c ls XX hr I hl
  have hx := XX.x
  have hb := XX.b
  have C3 : ∀ n : Nat, ∀ (s : g_St) (v2 : Int32) (v3 : Int32) (v4 : Int32), f_M_moveRow_row_L3 fu n s v2 v3 v4 = some ts → ∀ (H : Heap) (locs : List Loc), Iv G (va_A (wM G ad sa) s0.heap.size) s0 H locs (wM G ad s) → ∀ ls, lv_has ls 5 [(0, .ref (ad 0)), (1, .ref (ad 12)), (2, .int v2), (3, .int v3), (4, .int v4)] → W p l e { frames := 0, cells := 0, slots := 0, locals := 0 } s0 m args below meth c H locs 0 0 (QV G below (wM G ad sa) (wM G ad ts) args s0) (F0 m 3 ls []) := by
    intro n
    induction n with
    | zero => intro s v2 v3 v4 h; exact absurd h (fun q => by cases q)
    | succ n ih =>
      intro s v2 v3 v4 h H locs I ls hl
      rw [f_M_moveRow_row_L3] at h
      refine lv_iload hx hb dX12_moveRow_3 (lv_at hl 4 rfl) ?_
      refine lv_iload_n hx hb dX12_moveRow_5 rfl (lv_at hl 2 rfl) ?_
      refine lv_icmp_ge (tgt := 58) hx hb dX12_moveRow_6 (by decide) (fun c1 => ?_) (fun c1 => ?_)
      · replace h := if_t h c1
        obtain rfl := some1 h
        exact e_v XX hr I dX12_moveRow_58
      · replace h := if_f h c1
        refine lv_iload_n hx hb dX12_moveRow_9 rfl (lv_at hl 3 rfl) ?_
        refine lv_if_eq (tgt := 29) hx hb dX12_moveRow_10 (by decide) (fun c1 => ?_) (fun c1 => ?_)
        · replace h := if_t h c1
          refine lv_aload_n hx hb dX12_moveRow_29 rfl (lv_at hl 1 rfl) ?_
          refine lv_iload hx hb dX12_moveRow_30 (lv_at hl 4 rfl) ?_
          refine lv_aload_n hx hb dX12_moveRow_32 rfl (lv_at hl 0 rfl) ?_
          refine gM_keptRow XX I dX12_moveRow_33 ?_
          refine lv_aload_n hx hb dX12_moveRow_36 rfl (lv_at hl 0 rfl) ?_
          refine gM_movedTo XX I dX12_moveRow_37 ?_
          obtain ⟨g1, h⟩ := gd_some h
          refine r_iald XX I 25 (aM_keptRow) g1 dX12_moveRow_40 ?_
          refine lv_topi (fun y2 ey2 => ?_)
          replace h := lt_e h ey2
          obtain ⟨g3, h⟩ := gd_some h
          refine r_iast XX I 10 (aM_row) (sM_row) g3 dX12_moveRow_41 (fun H locs I => ?_)
          obtain ⟨s4, es4⟩ : ∃ z, z = sr s 11 v4 y2 := ⟨_, rfl⟩
          replace h := lt_e h es4
          replace I : Iv G (va_A (wM G ad sa) s0.heap.size) s0 H locs (wM G ad s4) := by rw [es4]; exact I
          refine lv_aload_n hx hb dX12_moveRow_42 rfl (lv_at hl 0 rfl) ?_
          refine lv_dup hx hb dX12_moveRow_43 rfl ?_
          refine gM_movedTo XX I dX12_moveRow_44 ?_
          refine lv_iconst (v := 1) hx hb dX12_moveRow_47 (by decide) ?_
          refine lv_iadd hx hb dX12_moveRow_48 ?_
          refine lv_topi (fun y5 ey5 => ?_)
          replace h := lt_e h ey5
          refine pM_movedTo XX I dX12_moveRow_49 (fun H locs I => ?_)
          obtain ⟨s6, es6⟩ : ∃ z, z = si s4 51 y5 := ⟨_, rfl⟩
          replace h := lt_e h es6
          replace I : Iv G (va_A (wM G ad sa) s0.heap.size) s0 H locs (wM G ad s6) := by rw [es6]; exact I
          obtain ⟨y7, ey7⟩ : ∃ z : Int32, z = v4 + (1 : Int32) := ⟨_, rfl⟩
          replace h := lt_e h ey7
          refine lv_iinc (v := y7) (lv' := [(4, .int y7), (0, .ref (ad 0)), (1, .ref (ad 12)), (2, .int v2), (3, .int v3)]) hx hb dX12_moveRow_52 hl (k := 4) rfl (by rw [ey7]; rfl) (by decide) rfl (fun ls hl => ?_)
          refine lv_goto (tgt := 3) hx hb dX12_moveRow_55 (by decide) ?_
          exact ih _ _ _ _ h _ _ I ls (lv_sub hl [1, 2, 3, 4, 0] rfl)
        · replace h := if_f h c1
          refine lv_aload_n hx hb dX12_moveRow_13 rfl (lv_at hl 0 rfl) ?_
          refine gM_keptRow XX I dX12_moveRow_14 ?_
          refine lv_aload_n hx hb dX12_moveRow_17 rfl (lv_at hl 0 rfl) ?_
          refine gM_movedTo XX I dX12_moveRow_18 ?_
          refine lv_aload_n hx hb dX12_moveRow_21 rfl (lv_at hl 1 rfl) ?_
          refine lv_iload hx hb dX12_moveRow_22 (lv_at hl 4 rfl) ?_
          obtain ⟨g8, h⟩ := gd_some h
          refine r_iald XX I 10 (aM_row) g8 dX12_moveRow_24 ?_
          refine lv_topi (fun y9 ey9 => ?_)
          replace h := lt_e h ey9
          obtain ⟨g10, h⟩ := gd_some h
          refine r_iast XX I 25 (aM_keptRow) (sM_keptRow) g10 dX12_moveRow_25 (fun H locs I => ?_)
          obtain ⟨s11, es11⟩ : ∃ z, z = sr s 50 (gi s 51) y9 := ⟨_, rfl⟩
          replace h := lt_e h es11
          replace I : Iv G (va_A (wM G ad sa) s0.heap.size) s0 H locs (wM G ad s11) := by rw [es11]; exact I
          refine lv_goto (tgt := 42) hx hb dX12_moveRow_26 (by decide) ?_
          refine lv_aload_n hx hb dX12_moveRow_42 rfl (lv_at hl 0 rfl) ?_
          refine lv_dup hx hb dX12_moveRow_43 rfl ?_
          refine gM_movedTo XX I dX12_moveRow_44 ?_
          refine lv_iconst (v := 1) hx hb dX12_moveRow_47 (by decide) ?_
          refine lv_iadd hx hb dX12_moveRow_48 ?_
          refine lv_topi (fun y12 ey12 => ?_)
          replace h := lt_e h ey12
          refine pM_movedTo XX I dX12_moveRow_49 (fun H locs I => ?_)
          obtain ⟨s13, es13⟩ : ∃ z, z = si s11 51 y12 := ⟨_, rfl⟩
          replace h := lt_e h es13
          replace I : Iv G (va_A (wM G ad sa) s0.heap.size) s0 H locs (wM G ad s13) := by rw [es13]; exact I
          obtain ⟨y14, ey14⟩ : ∃ z : Int32, z = v4 + (1 : Int32) := ⟨_, rfl⟩
          replace h := lt_e h ey14
          refine lv_iinc (v := y14) (lv' := [(4, .int y14), (0, .ref (ad 0)), (1, .ref (ad 12)), (2, .int v2), (3, .int v3)]) hx hb dX12_moveRow_52 hl (k := 4) rfl (by rw [ey14]; rfl) (by decide) rfl (fun ls hl => ?_)
          refine lv_goto (tgt := 3) hx hb dX12_moveRow_55 (by decide) ?_
          exact ih _ _ _ _ h _ _ I ls (lv_sub hl [1, 2, 3, 4, 0] rfl)
  unfold f_M_moveRow_row at h
  refine lv_iconst (v := 0) hx hb dX12_moveRow_0 (by decide) ?_
  refine lv_istore (lv' := [(4, .int (0 : Int32)), (0, .ref (ad 0)), (1, .ref (ad 12)), (2, .int x2), (3, .int x3)]) hx hb dX12_moveRow_1 hl (by decide) rfl (fun ls hl => ?_)
  exact C3 fu _ _ _ _ h _ _ I ls (lv_sub hl [1, 2, 3, 4, 0] rfl)
theorem kV_X12_421 : KV RX12 421 RX12 yX12_moveRow cX12_moveRow 5 none 3 := KV.mk wd_1558 wd_1560 wd_1664 wd_13 wd_1561 (by decide +kernel)
set_option maxHeartbeats 4000000 in
set_option maxRecDepth 100000 in
theorem c_M_moveAll (l : Launch) (G : g_G) (OK : EOk G.2.2) (ad : Nat → Nat) (fu : Nat) (sa : g_St) (x1 : Int32) (ts : g_St) (h : f_M_moveAll fu sa x1 = some ts) : HV l G yX12_moveAll (Cond.code yX12_moveAll cX12_moveAll 2 none :: gT) { frames := 1, cells := 0, slots := 0, locals := 24 } [.ref (ad 0), .int x1] (wM G ad sa) (wM G ad ts) := by
  refine HV.mk (lv := [(0, .ref (ad 0)), (1, .int x1)]) OK (by decide) (Nat.le_of_ble_eq_true rfl) rfl ?_
  intro p e s0 m args below meth c ls XX hr I hl
  have hx := XX.x
  have hb := XX.b
  unfold f_M_moveAll at h
  refine lv_aload_n hx hb dX12_moveAll_0 rfl (lv_at hl 0 rfl) ?_
  refine lv_iconst (v := 0) hx hb dX12_moveAll_1 (by decide) ?_
  refine pM_movedTo XX I dX12_moveAll_2 (fun H locs I => ?_)
  obtain ⟨s1, es1⟩ : ∃ z, z = si sa 51 (0 : Int32) := ⟨_, rfl⟩
  replace h := lt_e h es1
  replace I : Iv G (va_A (wM G ad sa) s0.heap.size) s0 H locs (wM G ad s1) := by rw [es1]; exact I
  refine lv_aload_n hx hb dX12_moveAll_5 rfl (lv_at hl 0 rfl) ?_
  refine gM_single XX I dX12_moveAll_6 ?_
  refine lv_iconst (v := 0) hx hb dX12_moveAll_9 (by decide) ?_
  refine lv_aload_n hx hb dX12_moveAll_10 rfl (lv_at hl 0 rfl) ?_
  refine gM_people XX I dX12_moveAll_11 ?_
  refine lv_topi (fun y2 ey2 => ?_)
  replace h := lt_e h ey2
  refine r_iast XX I 26 (aM_single) (sM_single) (by unfold vp_in; decide) dX12_moveAll_14 (fun H locs I => ?_)
  obtain ⟨s3, es3⟩ : ∃ z, z = sr s1 52 (0 : Int32) y2 := ⟨_, rfl⟩
  replace h := lt_e h es3
  replace I : Iv G (va_A (wM G ad sa) s0.heap.size) s0 H locs (wM G ad s3) := by rw [es3]; exact I
  refine lv_aload_n hx hb dX12_moveAll_15 rfl (lv_at hl 0 rfl) ?_
  refine gM_single XX I dX12_moveAll_16 ?_
  refine lv_iconst (v := 1) hx hb dX12_moveAll_19 (by decide) ?_
  refine lv_aload_n hx hb dX12_moveAll_20 rfl (lv_at hl 0 rfl) ?_
  refine gM_proposals XX I dX12_moveAll_21 ?_
  refine lv_topi (fun y4 ey4 => ?_)
  replace h := lt_e h ey4
  refine r_iast XX I 26 (aM_single) (sM_single) (by unfold vp_in; decide) dX12_moveAll_24 (fun H locs I => ?_)
  obtain ⟨s5, es5⟩ : ∃ z, z = sr s3 52 (1 : Int32) y4 := ⟨_, rfl⟩
  replace h := lt_e h es5
  replace I : Iv G (va_A (wM G ad sa) s0.heap.size) s0 H locs (wM G ad s5) := by rw [es5]; exact I
  refine lv_aload_n hx hb dX12_moveAll_25 rfl (lv_at hl 0 rfl) ?_
  refine gM_single XX I dX12_moveAll_26 ?_
  refine lv_iconst (v := 2) hx hb dX12_moveAll_29 (by decide) ?_
  refine lv_aload_n hx hb dX12_moveAll_30 rfl (lv_at hl 0 rfl) ?_
  refine gM_fell XX I dX12_moveAll_31 ?_
  refine lv_topi (fun y6 ey6 => ?_)
  replace h := lt_e h ey6
  refine r_iast XX I 26 (aM_single) (sM_single) (by unfold vp_in; decide) dX12_moveAll_34 (fun H locs I => ?_)
  obtain ⟨s7, es7⟩ : ∃ z, z = sr s5 52 (2 : Int32) y6 := ⟨_, rfl⟩
  replace h := lt_e h es7
  replace I : Iv G (va_A (wM G ad sa) s0.heap.size) s0 H locs (wM G ad s7) := by rw [es7]; exact I
  refine lv_aload_n hx hb dX12_moveAll_35 rfl (lv_at hl 0 rfl) ?_
  refine gM_single XX I dX12_moveAll_36 ?_
  refine lv_iconst (v := 3) hx hb dX12_moveAll_39 (by decide) ?_
  refine lv_aload_n hx hb dX12_moveAll_40 rfl (lv_at hl 0 rfl) ?_
  refine gM_passed XX I dX12_moveAll_41 ?_
  refine lv_topi (fun y8 ey8 => ?_)
  replace h := lt_e h ey8
  refine r_iast XX I 26 (aM_single) (sM_single) (by unfold vp_in; decide) dX12_moveAll_44 (fun H locs I => ?_)
  obtain ⟨s9, es9⟩ : ∃ z, z = sr s7 52 (3 : Int32) y8 := ⟨_, rfl⟩
  replace h := lt_e h es9
  replace I : Iv G (va_A (wM G ad sa) s0.heap.size) s0 H locs (wM G ad s9) := by rw [es9]; exact I
  refine lv_aload_n hx hb dX12_moveAll_45 rfl (lv_at hl 0 rfl) ?_
  refine gM_single XX I dX12_moveAll_46 ?_
  refine lv_iconst (v := 4) hx hb dX12_moveAll_49 (by decide) ?_
  refine lv_aload_n hx hb dX12_moveAll_50 rfl (lv_at hl 0 rfl) ?_
  refine gM_z XX I dX12_moveAll_51 ?_
  refine lv_topi (fun y10 ey10 => ?_)
  replace h := lt_e h ey10
  refine r_iast XX I 26 (aM_single) (sM_single) (by unfold vp_in; decide) dX12_moveAll_54 (fun H locs I => ?_)
  obtain ⟨s11, es11⟩ : ∃ z, z = sr s9 52 (4 : Int32) y10 := ⟨_, rfl⟩
  replace h := lt_e h es11
  replace I : Iv G (va_A (wM G ad sa) s0.heap.size) s0 H locs (wM G ad s11) := by rw [es11]; exact I
  refine lv_aload_n hx hb dX12_moveAll_55 rfl (lv_at hl 0 rfl) ?_
  refine lv_aload_n hx hb dX12_moveAll_56 rfl (lv_at hl 0 rfl) ?_
  refine gM_single XX I dX12_moveAll_57 ?_
  refine lv_iconst (v := 5) hx hb dX12_moveAll_60 (by decide) ?_
  refine lv_iload_n hx hb dX12_moveAll_61 rfl (lv_at hl 1 rfl) ?_
  obtain ⟨s12, q13, h⟩ := bd1_some h
  refine wcall_v (rest := []) XX I hl.1 (c_M_moveRow_single l G OK ad fu s11 (5 : Int32) x1 s12 q13) kV_X12_421 (Rc.mk XX I (q0 := 0) (ci := 12) wM_o rfl) rfl rfl (Nat.le_of_ble_eq_true rfl) ⟨rfl, rfl, Nat.le_of_ble_eq_true rfl, Nat.le_of_ble_eq_true rfl⟩ ⟨Nat.zero_le _, Nat.zero_le _⟩ dX12_moveAll_62 (fun H locs I => ?_)
  refine lv_aload_n hx hb dX12_moveAll_65 rfl (lv_at hl 0 rfl) ?_
  refine lv_aload_n hx hb dX12_moveAll_66 rfl (lv_at hl 0 rfl) ?_
  refine gM_kindOf XX I dX12_moveAll_67 ?_
  refine lv_bipush (v := 6) hx hb dX12_moveAll_70 (by decide) ?_
  refine lv_iload_n hx hb dX12_moveAll_72 rfl (lv_at hl 1 rfl) ?_
  obtain ⟨s15, q16, h⟩ := bd1_some h
  refine wcall_v (rest := []) XX I hl.1 (c_M_moveRow_kindOf l G OK ad fu s12 (6 : Int32) x1 s15 q16) kV_X12_421 (Rc.mk XX I (q0 := 0) (ci := 12) wM_o rfl) rfl rfl (Nat.le_of_ble_eq_true rfl) ⟨rfl, rfl, Nat.le_of_ble_eq_true rfl, Nat.le_of_ble_eq_true rfl⟩ ⟨Nat.zero_le _, Nat.zero_le _⟩ dX12_moveAll_73 (fun H locs I => ?_)
  refine lv_aload_n hx hb dX12_moveAll_76 rfl (lv_at hl 0 rfl) ?_
  refine lv_aload_n hx hb dX12_moveAll_77 rfl (lv_at hl 0 rfl) ?_
  refine gM_aOf XX I dX12_moveAll_78 ?_
  refine lv_bipush (v := 6) hx hb dX12_moveAll_81 (by decide) ?_
  refine lv_iload_n hx hb dX12_moveAll_83 rfl (lv_at hl 1 rfl) ?_
  obtain ⟨s18, q19, h⟩ := bd1_some h
  refine wcall_v (rest := []) XX I hl.1 (c_M_moveRow_aOf l G OK ad fu s15 (6 : Int32) x1 s18 q19) kV_X12_421 (Rc.mk XX I (q0 := 0) (ci := 12) wM_o rfl) rfl rfl (Nat.le_of_ble_eq_true rfl) ⟨rfl, rfl, Nat.le_of_ble_eq_true rfl, Nat.le_of_ble_eq_true rfl⟩ ⟨Nat.zero_le _, Nat.zero_le _⟩ dX12_moveAll_84 (fun H locs I => ?_)
  refine lv_aload_n hx hb dX12_moveAll_87 rfl (lv_at hl 0 rfl) ?_
  refine lv_aload_n hx hb dX12_moveAll_88 rfl (lv_at hl 0 rfl) ?_
  refine gM_age XX I dX12_moveAll_89 ?_
  refine lv_bipush (v := 6) hx hb dX12_moveAll_92 (by decide) ?_
  refine lv_iload_n hx hb dX12_moveAll_94 rfl (lv_at hl 1 rfl) ?_
  obtain ⟨s21, q22, h⟩ := bd1_some h
  refine wcall_v (rest := []) XX I hl.1 (c_M_moveRow_age l G OK ad fu s18 (6 : Int32) x1 s21 q22) kV_X12_421 (Rc.mk XX I (q0 := 0) (ci := 12) wM_o rfl) rfl rfl (Nat.le_of_ble_eq_true rfl) ⟨rfl, rfl, Nat.le_of_ble_eq_true rfl, Nat.le_of_ble_eq_true rfl⟩ ⟨Nat.zero_le _, Nat.zero_le _⟩ dX12_moveAll_95 (fun H locs I => ?_)
  refine lv_aload_n hx hb dX12_moveAll_98 rfl (lv_at hl 0 rfl) ?_
  refine lv_aload_n hx hb dX12_moveAll_99 rfl (lv_at hl 0 rfl) ?_
  refine gM_had XX I dX12_moveAll_100 ?_
  refine lv_bipush (v := 6) hx hb dX12_moveAll_103 (by decide) ?_
  refine lv_iload_n hx hb dX12_moveAll_105 rfl (lv_at hl 1 rfl) ?_
  obtain ⟨s24, q25, h⟩ := bd1_some h
  refine wcall_v (rest := []) XX I hl.1 (c_M_moveRow_had l G OK ad fu s21 (6 : Int32) x1 s24 q25) kV_X12_421 (Rc.mk XX I (q0 := 0) (ci := 12) wM_o rfl) rfl rfl (Nat.le_of_ble_eq_true rfl) ⟨rfl, rfl, Nat.le_of_ble_eq_true rfl, Nat.le_of_ble_eq_true rfl⟩ ⟨Nat.zero_le _, Nat.zero_le _⟩ dX12_moveAll_106 (fun H locs I => ?_)
  refine lv_aload_n hx hb dX12_moveAll_109 rfl (lv_at hl 0 rfl) ?_
  refine lv_aload_n hx hb dX12_moveAll_110 rfl (lv_at hl 0 rfl) ?_
  refine gM_weight XX I dX12_moveAll_111 ?_
  refine lv_bipush (v := 8) hx hb dX12_moveAll_114 (by decide) ?_
  refine lv_iload_n hx hb dX12_moveAll_116 rfl (lv_at hl 1 rfl) ?_
  obtain ⟨s27, q28, h⟩ := bd1_some h
  refine wcall_v (rest := []) XX I hl.1 (c_M_moveRow_weight l G OK ad fu s24 (8 : Int32) x1 s27 q28) kV_X12_421 (Rc.mk XX I (q0 := 0) (ci := 12) wM_o rfl) rfl rfl (Nat.le_of_ble_eq_true rfl) ⟨rfl, rfl, Nat.le_of_ble_eq_true rfl, Nat.le_of_ble_eq_true rfl⟩ ⟨Nat.zero_le _, Nat.zero_le _⟩ dX12_moveAll_117 (fun H locs I => ?_)
  refine lv_aload_n hx hb dX12_moveAll_120 rfl (lv_at hl 0 rfl) ?_
  refine lv_aload_n hx hb dX12_moveAll_121 rfl (lv_at hl 0 rfl) ?_
  refine gM_worth XX I dX12_moveAll_122 ?_
  refine lv_bipush (v := 48) hx hb dX12_moveAll_125 (by decide) ?_
  refine lv_iload_n hx hb dX12_moveAll_127 rfl (lv_at hl 1 rfl) ?_
  obtain ⟨s30, q31, h⟩ := bd1_some h
  refine wcall_v (rest := []) XX I hl.1 (c_M_moveRow_worth l G OK ad fu s27 (48 : Int32) x1 s30 q31) kV_X12_421 (Rc.mk XX I (q0 := 0) (ci := 12) wM_o rfl) rfl rfl (Nat.le_of_ble_eq_true rfl) ⟨rfl, rfl, Nat.le_of_ble_eq_true rfl, Nat.le_of_ble_eq_true rfl⟩ ⟨Nat.zero_le _, Nat.zero_le _⟩ dX12_moveAll_128 (fun H locs I => ?_)
  refine lv_aload_n hx hb dX12_moveAll_131 rfl (lv_at hl 0 rfl) ?_
  refine lv_aload_n hx hb dX12_moveAll_132 rfl (lv_at hl 0 rfl) ?_
  refine gM_laws XX I dX12_moveAll_133 ?_
  refine lv_iconst (v := 3) hx hb dX12_moveAll_136 (by decide) ?_
  refine lv_iload_n hx hb dX12_moveAll_137 rfl (lv_at hl 1 rfl) ?_
  obtain ⟨s33, q34, h⟩ := bd1_some h
  refine wcall_v (rest := []) XX I hl.1 (c_M_moveRow_laws l G OK ad fu s30 (3 : Int32) x1 s33 q34) kV_X12_421 (Rc.mk XX I (q0 := 0) (ci := 12) wM_o rfl) rfl rfl (Nat.le_of_ble_eq_true rfl) ⟨rfl, rfl, Nat.le_of_ble_eq_true rfl, Nat.le_of_ble_eq_true rfl⟩ ⟨Nat.zero_le _, Nat.zero_le _⟩ dX12_moveAll_138 (fun H locs I => ?_)
  refine lv_aload_n hx hb dX12_moveAll_141 rfl (lv_at hl 0 rfl) ?_
  refine lv_aload_n hx hb dX12_moveAll_142 rfl (lv_at hl 0 rfl) ?_
  refine gM_row XX I dX12_moveAll_143 ?_
  refine lv_bipush (v := 7) hx hb dX12_moveAll_146 (by decide) ?_
  refine lv_iload_n hx hb dX12_moveAll_148 rfl (lv_at hl 1 rfl) ?_
  obtain ⟨s36, q37, h⟩ := bd1_some h
  refine wcall_v (rest := []) XX I hl.1 (c_M_moveRow_row l G OK ad fu s33 (7 : Int32) x1 s36 q37) kV_X12_421 (Rc.mk XX I (q0 := 0) (ci := 12) wM_o rfl) rfl rfl (Nat.le_of_ble_eq_true rfl) ⟨rfl, rfl, Nat.le_of_ble_eq_true rfl, Nat.le_of_ble_eq_true rfl⟩ ⟨Nat.zero_le _, Nat.zero_le _⟩ dX12_moveAll_149 (fun H locs I => ?_)
  obtain rfl := some1 h
  exact e_v XX hr I dX12_moveAll_152
theorem kV_X12_425 : KV RX12 425 RX12 yX12_moveAll cX12_moveAll 2 none 1 := KV.mk wd_1554 wd_1556 wd_1663 wd_13 wd_1557 (by decide +kernel)
set_option maxHeartbeats 4000000 in
set_option maxRecDepth 100000 in
theorem c_M_keep (l : Launch) (G : g_G) (OK : EOk G.2.2) (ad : Nat → Nat) (fu : Nat) (sa : g_St) (r : Int32) (ts : g_St) (h : f_M_keep fu sa = some (r, ts)) : HI l G yX12_keep (Cond.code yX12_keep cX12_keep 1 (some .int) :: gT) { frames := 2, cells := 0, slots := 0, locals := 45 } .int [.ref (ad 0)] (wM G ad sa) r (wM G ad ts) := by
  refine HI.mk (lv := [(0, .ref (ad 0))]) OK (by decide) (Nat.le_of_ble_eq_true rfl) rfl ?_
  intro p e s0 m args below meth c ls XX hr I hl
  have hx := XX.x
  have hb := XX.b
  unfold f_M_keep at h
  refine lv_aload_n hx hb dX12_keep_0 rfl (lv_at hl 0 rfl) ?_
  refine lv_iconst (v := 1) hx hb dX12_keep_1 (by decide) ?_
  obtain ⟨s1, q2, h⟩ := bd1_some h
  refine wcall_v (rest := []) XX I hl.1 (c_M_moveAll l G OK ad fu sa (1 : Int32) s1 q2) kV_X12_425 (Rc.mk XX I (q0 := 0) (ci := 12) wM_o rfl) rfl rfl (Nat.le_of_ble_eq_true rfl) ⟨rfl, rfl, Nat.le_of_ble_eq_true rfl, Nat.le_of_ble_eq_true rfl⟩ ⟨Nat.zero_le _, Nat.zero_le _⟩ dX12_keep_2 (fun H locs I => ?_)
  refine lv_aload_n hx hb dX12_keep_5 rfl (lv_at hl 0 rfl) ?_
  refine lv_iconst (v := 1) hx hb dX12_keep_6 (by decide) ?_
  refine pM_isKept XX I (rfl) dX12_keep_7 (fun H locs I => ?_)
  obtain ⟨s4, es4⟩ : ∃ z, z = si s1 49 (1 : Int32) := ⟨_, rfl⟩
  replace h := lt_e h es4
  replace I : Iv G (va_A (wM G ad sa) s0.heap.size) s0 H locs (wM G ad s4) := by rw [es4]; exact I
  refine lv_iconst (v := 1) hx hb dX12_keep_10 (by decide) ?_
  obtain ⟨rfl, rfl⟩ := some2 h
  exact e_i rfl XX hr I rfl dX12_keep_11
set_option maxHeartbeats 4000000 in
set_option maxRecDepth 100000 in
theorem c_M_again (l : Launch) (G : g_G) (OK : EOk G.2.2) (ad : Nat → Nat) (fu : Nat) (sa : g_St) (r : Int32) (ts : g_St) (h : f_M_again fu sa = some (r, ts)) : HI l G yX12_again (Cond.code yX12_again cX12_again 1 (some .int) :: gT) { frames := 2, cells := 0, slots := 0, locals := 45 } .int [.ref (ad 0)] (wM G ad sa) r (wM G ad ts) := by
  refine HI.mk (lv := [(0, .ref (ad 0))]) OK (by decide) (Nat.le_of_ble_eq_true rfl) rfl ?_
  intro p e s0 m args below meth c ls XX hr I hl
  have hx := XX.x
  have hb := XX.b
  unfold f_M_again at h
  refine lv_aload_n hx hb dX12_again_0 rfl (lv_at hl 0 rfl) ?_
  refine gM_isKept XX I dX12_again_1 ?_
  refine lv_if_ne (tgt := 10) hx hb dX12_again_4 (by decide) (fun c1 => ?_) (fun c1 => ?_)
  · replace h := if_f h c1
    refine lv_aload_n hx hb dX12_again_10 rfl (lv_at hl 0 rfl) ?_
    refine lv_iconst (v := 0) hx hb dX12_again_11 (by decide) ?_
    obtain ⟨s1, q2, h⟩ := bd1_some h
    refine wcall_v (rest := []) XX I hl.1 (c_M_moveAll l G OK ad fu sa (0 : Int32) s1 q2) kV_X12_425 (Rc.mk XX I (q0 := 0) (ci := 12) wM_o rfl) rfl rfl (Nat.le_of_ble_eq_true rfl) ⟨rfl, rfl, Nat.le_of_ble_eq_true rfl, Nat.le_of_ble_eq_true rfl⟩ ⟨Nat.zero_le _, Nat.zero_le _⟩ dX12_again_12 (fun H locs I => ?_)
    refine lv_aload_n hx hb dX12_again_15 rfl (lv_at hl 0 rfl) ?_
    refine lv_aload_n hx hb dX12_again_16 rfl (lv_at hl 0 rfl) ?_
    refine gM_single XX I dX12_again_17 ?_
    refine lv_iconst (v := 0) hx hb dX12_again_20 (by decide) ?_
    refine r_iald XX I 26 (aM_single) (by unfold vp_in; decide) dX12_again_21 ?_
    refine lv_topi (fun y4 ey4 => ?_)
    replace h := lt_e h ey4
    refine pM_people XX I dX12_again_22 (fun H locs I => ?_)
    obtain ⟨s5, es5⟩ : ∃ z, z = si s1 0 y4 := ⟨_, rfl⟩
    replace h := lt_e h es5
    replace I : Iv G (va_A (wM G ad sa) s0.heap.size) s0 H locs (wM G ad s5) := by rw [es5]; exact I
    refine lv_aload_n hx hb dX12_again_25 rfl (lv_at hl 0 rfl) ?_
    refine lv_aload_n hx hb dX12_again_26 rfl (lv_at hl 0 rfl) ?_
    refine gM_single XX I dX12_again_27 ?_
    refine lv_iconst (v := 1) hx hb dX12_again_30 (by decide) ?_
    refine r_iald XX I 26 (aM_single) (by unfold vp_in; decide) dX12_again_31 ?_
    refine lv_topi (fun y6 ey6 => ?_)
    replace h := lt_e h ey6
    refine pM_proposals XX I dX12_again_32 (fun H locs I => ?_)
    obtain ⟨s7, es7⟩ : ∃ z, z = si s5 5 y6 := ⟨_, rfl⟩
    replace h := lt_e h es7
    replace I : Iv G (va_A (wM G ad sa) s0.heap.size) s0 H locs (wM G ad s7) := by rw [es7]; exact I
    refine lv_aload_n hx hb dX12_again_35 rfl (lv_at hl 0 rfl) ?_
    refine lv_aload_n hx hb dX12_again_36 rfl (lv_at hl 0 rfl) ?_
    refine gM_single XX I dX12_again_37 ?_
    refine lv_iconst (v := 2) hx hb dX12_again_40 (by decide) ?_
    refine r_iald XX I 26 (aM_single) (by unfold vp_in; decide) dX12_again_41 ?_
    refine lv_topi (fun y8 ey8 => ?_)
    replace h := lt_e h ey8
    refine pM_fell XX I dX12_again_42 (fun H locs I => ?_)
    obtain ⟨s9, es9⟩ : ∃ z, z = si s7 12 y8 := ⟨_, rfl⟩
    replace h := lt_e h es9
    replace I : Iv G (va_A (wM G ad sa) s0.heap.size) s0 H locs (wM G ad s9) := by rw [es9]; exact I
    refine lv_aload_n hx hb dX12_again_45 rfl (lv_at hl 0 rfl) ?_
    refine lv_aload_n hx hb dX12_again_46 rfl (lv_at hl 0 rfl) ?_
    refine gM_single XX I dX12_again_47 ?_
    refine lv_iconst (v := 3) hx hb dX12_again_50 (by decide) ?_
    refine r_iald XX I 26 (aM_single) (by unfold vp_in; decide) dX12_again_51 ?_
    refine lv_topi (fun y10 ey10 => ?_)
    replace h := lt_e h ey10
    refine pM_passed XX I dX12_again_52 (fun H locs I => ?_)
    obtain ⟨s11, es11⟩ : ∃ z, z = si s9 13 y10 := ⟨_, rfl⟩
    replace h := lt_e h es11
    replace I : Iv G (va_A (wM G ad sa) s0.heap.size) s0 H locs (wM G ad s11) := by rw [es11]; exact I
    refine lv_aload_n hx hb dX12_again_55 rfl (lv_at hl 0 rfl) ?_
    refine lv_aload_n hx hb dX12_again_56 rfl (lv_at hl 0 rfl) ?_
    refine gM_single XX I dX12_again_57 ?_
    refine lv_iconst (v := 4) hx hb dX12_again_60 (by decide) ?_
    refine r_iald XX I 26 (aM_single) (by unfold vp_in; decide) dX12_again_61 ?_
    refine lv_topi (fun y12 ey12 => ?_)
    replace h := lt_e h ey12
    refine pM_z XX I dX12_again_62 (fun H locs I => ?_)
    obtain ⟨s13, es13⟩ : ∃ z, z = si s11 14 y12 := ⟨_, rfl⟩
    replace h := lt_e h es13
    replace I : Iv G (va_A (wM G ad sa) s0.heap.size) s0 H locs (wM G ad s13) := by rw [es13]; exact I
    refine lv_aload_n hx hb dX12_again_65 rfl (lv_at hl 0 rfl) ?_
    refine gM_people XX I dX12_again_66 ?_
    obtain ⟨rfl, rfl⟩ := some2 h
    exact e_i rfl XX hr I rfl dX12_again_69
  · replace h := if_t h c1
    refine lv_bipush (v := (-3)) hx hb dX12_again_7 (by decide) ?_
    obtain ⟨rfl, rfl⟩ := some2 h
    exact e_i rfl XX hr I rfl dX12_again_9
