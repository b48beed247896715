theorem kP_X7_19 : KP RX7 19 ⟨"LifeNoes$Sayer", "tells", "(I)I"⟩ yX4_tells cX4_tells 2 (some .int) 1 := ⟨wd_933, wd_919, wd_284, wd_917, wd_7, wd_935, rfl, by decide, (Or.inl rfl), by decide +kernel⟩
set_option maxHeartbeats 4000000 in
set_option maxRecDepth 100000 in
theorem c_Y5_Told_tells (l : Launch) (G : g_G) (OK : EOk G.2.2) (yd : Nat → Nat) (td : Nat → Nat) (tha : g_St) (tra : g_St) (x1 : Int32) (r : Int32) (ttr : g_St) (h : f_Y5_Told_tells tha tra x1 = some (r, ttr)) : HI l G yX7_tells (Cond.code yX7_tells cX7_tells 2 (some .int) :: gT) { frames := 4, cells := 0, slots := 0, locals := 84 } .int [.ref (yd 5), .int x1] (bY G yd td tha ++ (bK G td tra ++ [])) r (bY G yd td tha ++ (bK G td ttr ++ [])) := by
  refine HI.mk (lv := [(0, .ref (yd 5)), (1, .int x1)]) OK (by decide) (Nat.le_of_ble_eq_true rfl) rfl ?_
  intro p e s0 m args below meth c ls XX hr I hl
  have hx := XX.x
  have hb := XX.b
  unfold f_Y5_Told_tells at h
  refine lv_aload_n hx hb dX7_tells_0 rfl (lv_at hl 0 rfl) ?_
  refine gY_X7_y50_trace XX I dX7_tells_1 ?_
  refine lv_bipush (v := 60) hx hb dX7_tells_4 (by decide) ?_
  obtain ⟨s1, q2, h⟩ := bd1_some h
  have RC := (Rc.mk XX I (q0 := 6) (ci := 8) rfl rfl)
  replace I : Iv G (va_A (bY G yd td tha ++ (bK G td tra ++ [])) s0.heap.size) s0 _ _ ((bK G td tra) ++ (bY G yd td tha ++ [])) := I.perm ((List.Perm.append_left _ (List.Perm.refl _)).trans (List.perm_append_comm_assoc _ _ _))
  refine call_v (X := []) (wc := (bK G td tra)) (Y := (bY G yd td tha ++ [])) (rest := []) XX I hl.1 (c_K_begin l G OK td tra (60 : Int32) s1 q2) kV_X7_13 RC rfl rfl (Nat.le_of_ble_eq_true rfl) ⟨rfl, rfl, Nat.le_of_ble_eq_true rfl, Nat.le_of_ble_eq_true rfl⟩ ⟨Nat.zero_le _, Nat.zero_le _⟩ dX7_tells_6 (fun H locs I => ?_)
  replace I : Iv G (va_A (bY G yd td tha ++ (bK G td tra ++ [])) s0.heap.size) s0 H locs (bY G yd td tha ++ (bK G td s1 ++ [])) := Iv.perm (w := (bK G td s1) ++ (bY G yd td tha ++ [])) I (((List.Perm.append_left _ (List.Perm.refl _)).trans (List.perm_append_comm_assoc _ _ _)).symm)
  refine lv_aload_n hx hb dX7_tells_9 rfl (lv_at hl 0 rfl) ?_
  refine lv_iload_n hx hb dX7_tells_10 rfl (lv_at hl 1 rfl) ?_
  obtain ⟨r4, s5, q6, h⟩ := bd2_some h
  have RC := (Rc.mk XX I (q0 := 5) (ci := 7) rfl rfl)
  replace I : Iv G (va_A (bY G yd td tha ++ (bK G td tra ++ [])) s0.heap.size) s0 _ _ (((bY G yd td tha ++ (bK G td s1 ++ []))) ++ []) := I.perm pasc2
  refine pcall_i (X := []) (wc := (bY G yd td tha ++ (bK G td s1 ++ []))) (Y := []) (rest := []) XX I hl.1 (c_Y5_Sayer_tells l G OK yd td tha s1 x1 r4 s5 q6) kP_X7_19 RC (XX.at 7 rfl) rfl rfl (Nat.le_of_ble_eq_true rfl) ⟨rfl, rfl, Nat.le_of_ble_eq_true rfl, Nat.le_of_ble_eq_true rfl⟩ ⟨Nat.zero_le _, Nat.zero_le _⟩ dX7_tells_11 (fun H locs hz7 I => ?_)
  replace I : Iv G (va_A (bY G yd td tha ++ (bK G td tra ++ [])) s0.heap.size) s0 H locs (bY G yd td tha ++ (bK G td s5 ++ [])) := Iv.perm (w := ((bY G yd td tha ++ (bK G td s5 ++ []))) ++ []) I (pasc2.symm)
  refine lv_iconst (v := 2) hx hb dX7_tells_14 (by decide) ?_
  refine lv_imul hx hb dX7_tells_15 ?_
  obtain ⟨rfl, rfl⟩ := some2 h
  exact e_i rfl XX hr I rfl dX7_tells_16
