def s00 : g_St := (fun _ => 0, fun _ => 0, fun _ _ => 0, fun _ _ => 0)
def V0 : g_St := (fun k => if k = 10 then 1 else 0, fun _ => 0, fun k => if k = 9 then upd (upd (fun _ => 0) 0 1) 3 1 else fun _ => 0, fun _ _ => 0)
def A0 : g_St := (fun k => if k = 2 then (-1) else 0, fun _ => 0, fun _ _ => 0, fun _ _ => 0)
def S0 : g_St := (fun k => if k = 0 then (-1) else 0, fun _ => 0, fun _ _ => 0, fun _ _ => 0)
theorem dfX0 : ∀ j, j < 3 → defaultValue (tyX0 j) = vp_V [.null, .null, .int 0] j := fun j h => match j, h with
  | 0, _ => rfl
  | 1, _ => rfl
  | 2, _ => rfl
  | k + 3, h => absurd h (by omega)
theorem dfX1 : ∀ j, j < 3 → defaultValue (tyX1 j) = vp_V [.null, .int 0, .int 0] j := fun j h => match j, h with
  | 0, _ => rfl
  | 1, _ => rfl
  | 2, _ => rfl
  | k + 3, h => absurd h (by omega)
theorem dfX2 : ∀ j, j < 3 → defaultValue (tyX2 j) = vp_V [.null, .int 0, .int 0] j := fun j h => match j, h with
  | 0, _ => rfl
  | 1, _ => rfl
  | 2, _ => rfl
  | k + 3, h => absurd h (by omega)
theorem dfX3 : ∀ j, j < 3 → defaultValue (tyX3 j) = vp_V [.null, .int 0, .int 0] j := fun j h => match j, h with
  | 0, _ => rfl
  | 1, _ => rfl
  | 2, _ => rfl
  | k + 3, h => absurd h (by omega)
theorem dfX4 : ∀ j, j < 3 → defaultValue (tyX4 j) = vp_V [.null, .int 0, .int 0] j := fun j h => match j, h with
  | 0, _ => rfl
  | 1, _ => rfl
  | 2, _ => rfl
  | k + 3, h => absurd h (by omega)
theorem dfX5 : ∀ j, j < 3 → defaultValue (tyX5 j) = vp_V [.int 0, .int 0, .null] j := fun j h => match j, h with
  | 0, _ => rfl
  | 1, _ => rfl
  | 2, _ => rfl
  | k + 3, h => absurd h (by omega)
theorem dfX6 : ∀ j, j < 7 → defaultValue (tyX6 j) = vp_V [.null, .null, .int 0, .int 0, .int 0, .int 0, .int 0] j := fun j h => match j, h with
  | 0, _ => rfl
  | 1, _ => rfl
  | 2, _ => rfl
  | 3, _ => rfl
  | 4, _ => rfl
  | 5, _ => rfl
  | 6, _ => rfl
  | k + 7, h => absurd h (by omega)
theorem dfX7 : ∀ j, j < 3 → defaultValue (tyX7 j) = vp_V [.null, .int 0, .int 0] j := fun j h => match j, h with
  | 0, _ => rfl
  | 1, _ => rfl
  | 2, _ => rfl
  | k + 3, h => absurd h (by omega)
theorem dfX8 : ∀ j, j < 3 → defaultValue (tyX8 j) = vp_V [.null, .int 0, .int 0] j := fun j h => match j, h with
  | 0, _ => rfl
  | 1, _ => rfl
  | 2, _ => rfl
  | k + 3, h => absurd h (by omega)
theorem dfX9 : ∀ j, j < 13 → defaultValue (tyX9 j) = vp_V [.int 0, .null, .null, .null, .null, .null, .int 0, .null, .null, .null, .int 0, .int 0, .int 0] j := fun j h => match j, h with
  | 0, _ => rfl
  | 1, _ => rfl
  | 2, _ => rfl
  | 3, _ => rfl
  | 4, _ => rfl
  | 5, _ => rfl
  | 6, _ => rfl
  | 7, _ => rfl
  | 8, _ => rfl
  | 9, _ => rfl
  | 10, _ => rfl
  | 11, _ => rfl
  | 12, _ => rfl
  | k + 13, h => absurd h (by omega)
theorem dfX10 : ∀ j, j < 3 → defaultValue (tyX10 j) = vp_V [.null, .int 0, .int 0] j := fun j h => match j, h with
  | 0, _ => rfl
  | 1, _ => rfl
  | 2, _ => rfl
  | k + 3, h => absurd h (by omega)
theorem dfX11 : ∀ j, j < 16 → defaultValue (tyX11 j) = vp_V [.null, .null, .int 0, .null, .null, .null, .int 0, .null, .null, .int 0, .null, .null, .null, .null, .null, .null] j := fun j h => match j, h with
  | 0, _ => rfl
  | 1, _ => rfl
  | 2, _ => rfl
  | 3, _ => rfl
  | 4, _ => rfl
  | 5, _ => rfl
  | 6, _ => rfl
  | 7, _ => rfl
  | 8, _ => rfl
  | 9, _ => rfl
  | 10, _ => rfl
  | 11, _ => rfl
  | 12, _ => rfl
  | 13, _ => rfl
  | 14, _ => rfl
  | 15, _ => rfl
  | k + 16, h => absurd h (by omega)
theorem dfX12 : ∀ j, j < 53 → defaultValue (tyX12 j) = vp_V [.int 0, .null, .null, .null, .null, .int 0, .null, .null, .null, .null, .null, .null, .int 0, .int 0, .int 0, .null, .int 0, .int 0, .int 0, .int 0, .long 0, .int 0, .int 0, .int 0, .int 0, .null, .null, .null, .null, .int 0, .int 0, .int 0, .long 0, .long 0, .null, .null, .int 0, .null, .null, .null, .null, .null, .null, .int 0, .int 0, .int 0, .null, .int 0, .int 0, .int 0, .null, .int 0, .null] j := fun j h => match j, h with
  | 0, _ => rfl
  | 1, _ => rfl
  | 2, _ => rfl
  | 3, _ => rfl
  | 4, _ => rfl
  | 5, _ => rfl
  | 6, _ => rfl
  | 7, _ => rfl
  | 8, _ => rfl
  | 9, _ => rfl
  | 10, _ => rfl
  | 11, _ => rfl
  | 12, _ => rfl
  | 13, _ => rfl
  | 14, _ => rfl
  | 15, _ => rfl
  | 16, _ => rfl
  | 17, _ => rfl
  | 18, _ => rfl
  | 19, _ => rfl
  | 20, _ => rfl
  | 21, _ => rfl
  | 22, _ => rfl
  | 23, _ => rfl
  | 24, _ => rfl
  | 25, _ => rfl
  | 26, _ => rfl
  | 27, _ => rfl
  | 28, _ => rfl
  | 29, _ => rfl
  | 30, _ => rfl
  | 31, _ => rfl
  | 32, _ => rfl
  | 33, _ => rfl
  | 34, _ => rfl
  | 35, _ => rfl
  | 36, _ => rfl
  | 37, _ => rfl
  | 38, _ => rfl
  | 39, _ => rfl
  | 40, _ => rfl
  | 41, _ => rfl
  | 42, _ => rfl
  | 43, _ => rfl
  | 44, _ => rfl
  | 45, _ => rfl
  | 46, _ => rfl
  | 47, _ => rfl
  | 48, _ => rfl
  | 49, _ => rfl
  | 50, _ => rfl
  | 51, _ => rfl
  | 52, _ => rfl
  | k + 53, h => absurd h (by omega)
set_option maxRecDepth 100000 in
theorem i_X9_X9 (l : Launch) (G : g_G) (OK : EOk G.2.2) (hXC : HXC G) (b : Nat) : HC l G yX9_init (Cond.code yX9_init cX9_init 1 none :: gT) { frames := 1, cells := 16, slots := 98, locals := 12 } [.ref b] [(b, .inr (9, [.int 0, .null, .null, .null, .null, .null, .int 0, .null, .null, .null, .int 0, .int 0, .int 0]))] 16 98 (fun w1 => ∃ ad : Nat → Nat, ad 0 = b ∧ w1 = bV G ad V0) := by
  refine HC.mk (lv := [(0, .ref b)]) OK (by decide) (Nat.le_of_ble_eq_true rfl) rfl rfl ?_
  intro p e s0 m args below meth c ls XX hnm hr I hl
  have hx := XX.x
  have hb := XX.b
  have E := hXC _ _ _ XX.E
  replace I : Iv G _ s0 s0.heap _ ((b, .inr (9, [.int 0, .null, .null, .null, .null, .null, .int 0, .null, .null, .null, .int 0, .int 0, .int 0])) :: []) := I
  refine lv_aload_n hx hb dX9_init_0 rfl (lv_at hl 0 rfl) ?_
  refine r_obj XX hl.1 wd_34 ⟨Nat.le_of_ble_eq_true rfl, Nat.le_of_ble_eq_true rfl⟩ dX9_init_1 ?_
  refine lv_aload_n hx hb dX9_init_4 rfl (lv_at hl 0 rfl) ?_
  refine lv_iconst (v := 0) hx hb dX9_init_5 (by decide) ?_
  refine r_put0 (fs1 := [.int 0, .null, .null, .null, .null, .null, .int 0, .null, .null, .null, .int 0, .int 0, .int 0]) kfX9 XX I rfl 0 (by decide) wd_37 rfl rfl rfl (Nat.le_of_ble_eq_true rfl) rfl dX9_init_6 (fun H locs I => ?_)
  replace I : Iv G _ s0 H _ ((b, .inr (9, [.int 0, .null, .null, .null, .null, .null, .int 0, .null, .null, .null, .int 0, .int 0, .int 0])) :: []) := I
  refine lv_aload_n hx hb dX9_init_9 rfl (lv_at hl 0 rfl) ?_
  refine lv_bipush (v := 6) hx hb dX9_init_10 (by decide) ?_
  refine r_newaI (N := 6) (cells1 := 1) (slots1 := 6) XX I (by decide) rfl (by decide) rfl rfl ⟨Nat.le_of_ble_eq_true rfl, Nat.le_of_ble_eq_true rfl⟩ dX9_init_12 (fun q1 H I => ?_)
  replace I : Iv G _ s0 H _ ((b, .inr (9, [.int 0, .null, .null, .null, .null, .null, .int 0, .null, .null, .null, .int 0, .int 0, .int 0])) :: ((q1, .inl (G.2.1 0, 6, .inl (fun _ => 0))) :: [])) := I
  refine r_putF (fs1 := [.int 0, .ref q1, .null, .null, .null, .null, .int 0, .null, .null, .null, .int 0, .int 0, .int 0]) kfX9 XX I rfl 1 (by decide) wd_41 rfl hnm rfl rfl rfl (Nat.le_of_ble_eq_true rfl) rfl dX9_init_14 (fun H locs I => ?_)
  replace I : Iv G _ s0 H _ ((b, .inr (9, [.int 0, .ref q1, .null, .null, .null, .null, .int 0, .null, .null, .null, .int 0, .int 0, .int 0])) :: ((q1, .inl (G.2.1 0, 6, .inl (fun _ => 0))) :: [])) := I
  refine lv_aload_n hx hb dX9_init_17 rfl (lv_at hl 0 rfl) ?_
  refine lv_bipush (v := 6) hx hb dX9_init_18 (by decide) ?_
  refine r_newaI (N := 6) (cells1 := 2) (slots1 := 12) XX I (by decide) rfl (by decide) rfl rfl ⟨Nat.le_of_ble_eq_true rfl, Nat.le_of_ble_eq_true rfl⟩ dX9_init_20 (fun q2 H I => ?_)
  replace I : Iv G _ s0 H _ ((b, .inr (9, [.int 0, .ref q1, .null, .null, .null, .null, .int 0, .null, .null, .null, .int 0, .int 0, .int 0])) :: ((q2, .inl (G.2.1 0, 6, .inl (fun _ => 0))) :: ((q1, .inl (G.2.1 0, 6, .inl (fun _ => 0))) :: []))) := I
  refine r_putF (fs1 := [.int 0, .ref q1, .ref q2, .null, .null, .null, .int 0, .null, .null, .null, .int 0, .int 0, .int 0]) kfX9 XX I rfl 2 (by decide) wd_44 rfl hnm rfl rfl rfl (Nat.le_of_ble_eq_true rfl) rfl dX9_init_22 (fun H locs I => ?_)
  replace I : Iv G _ s0 H _ ((b, .inr (9, [.int 0, .ref q1, .ref q2, .null, .null, .null, .int 0, .null, .null, .null, .int 0, .int 0, .int 0])) :: ((q2, .inl (G.2.1 0, 6, .inl (fun _ => 0))) :: ((q1, .inl (G.2.1 0, 6, .inl (fun _ => 0))) :: []))) := I
  refine lv_aload_n hx hb dX9_init_25 rfl (lv_at hl 0 rfl) ?_
  refine lv_bipush (v := 6) hx hb dX9_init_26 (by decide) ?_
  refine r_newaI (N := 6) (cells1 := 3) (slots1 := 18) XX I (by decide) rfl (by decide) rfl rfl ⟨Nat.le_of_ble_eq_true rfl, Nat.le_of_ble_eq_true rfl⟩ dX9_init_28 (fun q3 H I => ?_)
  replace I : Iv G _ s0 H _ ((b, .inr (9, [.int 0, .ref q1, .ref q2, .null, .null, .null, .int 0, .null, .null, .null, .int 0, .int 0, .int 0])) :: ((q3, .inl (G.2.1 0, 6, .inl (fun _ => 0))) :: ((q2, .inl (G.2.1 0, 6, .inl (fun _ => 0))) :: ((q1, .inl (G.2.1 0, 6, .inl (fun _ => 0))) :: [])))) := I
  refine r_putF (fs1 := [.int 0, .ref q1, .ref q2, .ref q3, .null, .null, .int 0, .null, .null, .null, .int 0, .int 0, .int 0]) kfX9 XX I rfl 3 (by decide) wd_47 rfl hnm rfl rfl rfl (Nat.le_of_ble_eq_true rfl) rfl dX9_init_30 (fun H locs I => ?_)
  replace I : Iv G _ s0 H _ ((b, .inr (9, [.int 0, .ref q1, .ref q2, .ref q3, .null, .null, .int 0, .null, .null, .null, .int 0, .int 0, .int 0])) :: ((q3, .inl (G.2.1 0, 6, .inl (fun _ => 0))) :: ((q2, .inl (G.2.1 0, 6, .inl (fun _ => 0))) :: ((q1, .inl (G.2.1 0, 6, .inl (fun _ => 0))) :: [])))) := I
  refine lv_aload_n hx hb dX9_init_33 rfl (lv_at hl 0 rfl) ?_
  refine lv_bipush (v := 6) hx hb dX9_init_34 (by decide) ?_
  refine r_newaI (N := 6) (cells1 := 4) (slots1 := 24) XX I (by decide) rfl (by decide) rfl rfl ⟨Nat.le_of_ble_eq_true rfl, Nat.le_of_ble_eq_true rfl⟩ dX9_init_36 (fun q4 H I => ?_)
  replace I : Iv G _ s0 H _ ((b, .inr (9, [.int 0, .ref q1, .ref q2, .ref q3, .null, .null, .int 0, .null, .null, .null, .int 0, .int 0, .int 0])) :: ((q4, .inl (G.2.1 0, 6, .inl (fun _ => 0))) :: ((q3, .inl (G.2.1 0, 6, .inl (fun _ => 0))) :: ((q2, .inl (G.2.1 0, 6, .inl (fun _ => 0))) :: ((q1, .inl (G.2.1 0, 6, .inl (fun _ => 0))) :: []))))) := I
  refine r_putF (fs1 := [.int 0, .ref q1, .ref q2, .ref q3, .ref q4, .null, .int 0, .null, .null, .null, .int 0, .int 0, .int 0]) kfX9 XX I rfl 4 (by decide) wd_49 rfl hnm rfl rfl rfl (Nat.le_of_ble_eq_true rfl) rfl dX9_init_38 (fun H locs I => ?_)
  replace I : Iv G _ s0 H _ ((b, .inr (9, [.int 0, .ref q1, .ref q2, .ref q3, .ref q4, .null, .int 0, .null, .null, .null, .int 0, .int 0, .int 0])) :: ((q4, .inl (G.2.1 0, 6, .inl (fun _ => 0))) :: ((q3, .inl (G.2.1 0, 6, .inl (fun _ => 0))) :: ((q2, .inl (G.2.1 0, 6, .inl (fun _ => 0))) :: ((q1, .inl (G.2.1 0, 6, .inl (fun _ => 0))) :: []))))) := I
  refine lv_aload_n hx hb dX9_init_41 rfl (lv_at hl 0 rfl) ?_
  refine lv_bipush (v := 6) hx hb dX9_init_42 (by decide) ?_
  refine r_newaI (N := 6) (cells1 := 5) (slots1 := 30) XX I (by decide) rfl (by decide) rfl rfl ⟨Nat.le_of_ble_eq_true rfl, Nat.le_of_ble_eq_true rfl⟩ dX9_init_44 (fun q5 H I => ?_)
  replace I : Iv G _ s0 H _ ((b, .inr (9, [.int 0, .ref q1, .ref q2, .ref q3, .ref q4, .null, .int 0, .null, .null, .null, .int 0, .int 0, .int 0])) :: ((q5, .inl (G.2.1 0, 6, .inl (fun _ => 0))) :: ((q4, .inl (G.2.1 0, 6, .inl (fun _ => 0))) :: ((q3, .inl (G.2.1 0, 6, .inl (fun _ => 0))) :: ((q2, .inl (G.2.1 0, 6, .inl (fun _ => 0))) :: ((q1, .inl (G.2.1 0, 6, .inl (fun _ => 0))) :: [])))))) := I
  refine r_putF (fs1 := [.int 0, .ref q1, .ref q2, .ref q3, .ref q4, .ref q5, .int 0, .null, .null, .null, .int 0, .int 0, .int 0]) kfX9 XX I rfl 5 (by decide) wd_51 rfl hnm rfl rfl rfl (Nat.le_of_ble_eq_true rfl) rfl dX9_init_46 (fun H locs I => ?_)
  replace I : Iv G _ s0 H _ ((b, .inr (9, [.int 0, .ref q1, .ref q2, .ref q3, .ref q4, .ref q5, .int 0, .null, .null, .null, .int 0, .int 0, .int 0])) :: ((q5, .inl (G.2.1 0, 6, .inl (fun _ => 0))) :: ((q4, .inl (G.2.1 0, 6, .inl (fun _ => 0))) :: ((q3, .inl (G.2.1 0, 6, .inl (fun _ => 0))) :: ((q2, .inl (G.2.1 0, 6, .inl (fun _ => 0))) :: ((q1, .inl (G.2.1 0, 6, .inl (fun _ => 0))) :: [])))))) := I
  refine lv_aload_n hx hb dX9_init_49 rfl (lv_at hl 0 rfl) ?_
  refine lv_iconst (v := 0) hx hb dX9_init_50 (by decide) ?_
  refine r_put0 (fs1 := [.int 0, .ref q1, .ref q2, .ref q3, .ref q4, .ref q5, .int 0, .null, .null, .null, .int 0, .int 0, .int 0]) kfX9 XX I rfl 6 (by decide) wd_53 rfl rfl rfl (Nat.le_of_ble_eq_true rfl) rfl dX9_init_51 (fun H locs I => ?_)
  replace I : Iv G _ s0 H _ ((b, .inr (9, [.int 0, .ref q1, .ref q2, .ref q3, .ref q4, .ref q5, .int 0, .null, .null, .null, .int 0, .int 0, .int 0])) :: ((q5, .inl (G.2.1 0, 6, .inl (fun _ => 0))) :: ((q4, .inl (G.2.1 0, 6, .inl (fun _ => 0))) :: ((q3, .inl (G.2.1 0, 6, .inl (fun _ => 0))) :: ((q2, .inl (G.2.1 0, 6, .inl (fun _ => 0))) :: ((q1, .inl (G.2.1 0, 6, .inl (fun _ => 0))) :: [])))))) := I
  refine lv_aload_n hx hb dX9_init_54 rfl (lv_at hl 0 rfl) ?_
  refine lv_bipush (v := 8) hx hb dX9_init_55 (by decide) ?_
  refine r_newaI (N := 8) (cells1 := 6) (slots1 := 38) XX I (by decide) rfl (by decide) rfl rfl ⟨Nat.le_of_ble_eq_true rfl, Nat.le_of_ble_eq_true rfl⟩ dX9_init_57 (fun q6 H I => ?_)
  replace I : Iv G _ s0 H _ ((b, .inr (9, [.int 0, .ref q1, .ref q2, .ref q3, .ref q4, .ref q5, .int 0, .null, .null, .null, .int 0, .int 0, .int 0])) :: ((q6, .inl (G.2.1 0, 8, .inl (fun _ => 0))) :: ((q5, .inl (G.2.1 0, 6, .inl (fun _ => 0))) :: ((q4, .inl (G.2.1 0, 6, .inl (fun _ => 0))) :: ((q3, .inl (G.2.1 0, 6, .inl (fun _ => 0))) :: ((q2, .inl (G.2.1 0, 6, .inl (fun _ => 0))) :: ((q1, .inl (G.2.1 0, 6, .inl (fun _ => 0))) :: []))))))) := I
  refine r_putF (fs1 := [.int 0, .ref q1, .ref q2, .ref q3, .ref q4, .ref q5, .int 0, .ref q6, .null, .null, .int 0, .int 0, .int 0]) kfX9 XX I rfl 7 (by decide) wd_57 rfl hnm rfl rfl rfl (Nat.le_of_ble_eq_true rfl) rfl dX9_init_59 (fun H locs I => ?_)
  replace I : Iv G _ s0 H _ ((b, .inr (9, [.int 0, .ref q1, .ref q2, .ref q3, .ref q4, .ref q5, .int 0, .ref q6, .null, .null, .int 0, .int 0, .int 0])) :: ((q6, .inl (G.2.1 0, 8, .inl (fun _ => 0))) :: ((q5, .inl (G.2.1 0, 6, .inl (fun _ => 0))) :: ((q4, .inl (G.2.1 0, 6, .inl (fun _ => 0))) :: ((q3, .inl (G.2.1 0, 6, .inl (fun _ => 0))) :: ((q2, .inl (G.2.1 0, 6, .inl (fun _ => 0))) :: ((q1, .inl (G.2.1 0, 6, .inl (fun _ => 0))) :: []))))))) := I
  refine lv_aload_n hx hb dX9_init_62 rfl (lv_at hl 0 rfl) ?_
  refine lv_bipush (v := 8) hx hb dX9_init_63 (by decide) ?_
  refine lv_bipush (v := 6) hx hb dX9_init_65 (by decide) ?_
  refine r_mna (N := 8) (K := 6) (cells1 := 15) (slots1 := 94) XX I wd_35 E.2.2.2.2.2.2.1 (by decide) (by decide) rfl rfl (by decide) (by decide) (by decide) rfl rfl ⟨Nat.le_of_ble_eq_true rfl, Nat.le_of_ble_eq_true rfl⟩ dX9_init_67 (fun q7 r8 H I => ?_)
  replace I : Iv G _ s0 H _ ((b, .inr (9, [.int 0, .ref q1, .ref q2, .ref q3, .ref q4, .ref q5, .int 0, .ref q6, .null, .null, .int 0, .int 0, .int 0])) :: ((q7, .inl (G.2.1 4, 8, .inr (.inr (.inr (.inr (fun i => some (r8 i))))))) :: (((r8 0), .inl (G.2.1 0, 6, .inl (fun _ => 0))) :: (((r8 1), .inl (G.2.1 0, 6, .inl (fun _ => 0))) :: (((r8 2), .inl (G.2.1 0, 6, .inl (fun _ => 0))) :: (((r8 3), .inl (G.2.1 0, 6, .inl (fun _ => 0))) :: (((r8 4), .inl (G.2.1 0, 6, .inl (fun _ => 0))) :: (((r8 5), .inl (G.2.1 0, 6, .inl (fun _ => 0))) :: (((r8 6), .inl (G.2.1 0, 6, .inl (fun _ => 0))) :: (((r8 7), .inl (G.2.1 0, 6, .inl (fun _ => 0))) :: ((q6, .inl (G.2.1 0, 8, .inl (fun _ => 0))) :: ((q5, .inl (G.2.1 0, 6, .inl (fun _ => 0))) :: ((q4, .inl (G.2.1 0, 6, .inl (fun _ => 0))) :: ((q3, .inl (G.2.1 0, 6, .inl (fun _ => 0))) :: ((q2, .inl (G.2.1 0, 6, .inl (fun _ => 0))) :: ((q1, .inl (G.2.1 0, 6, .inl (fun _ => 0))) :: [])))))))))))))))) := I
  refine r_putF (fs1 := [.int 0, .ref q1, .ref q2, .ref q3, .ref q4, .ref q5, .int 0, .ref q6, .ref q7, .null, .int 0, .int 0, .int 0]) kfX9 XX I rfl 8 (by decide) wd_60 rfl hnm rfl rfl rfl (Nat.le_of_ble_eq_true rfl) rfl dX9_init_71 (fun H locs I => ?_)
  replace I : Iv G _ s0 H _ ((b, .inr (9, [.int 0, .ref q1, .ref q2, .ref q3, .ref q4, .ref q5, .int 0, .ref q6, .ref q7, .null, .int 0, .int 0, .int 0])) :: ((q7, .inl (G.2.1 4, 8, .inr (.inr (.inr (.inr (fun i => some (r8 i))))))) :: (((r8 0), .inl (G.2.1 0, 6, .inl (fun _ => 0))) :: (((r8 1), .inl (G.2.1 0, 6, .inl (fun _ => 0))) :: (((r8 2), .inl (G.2.1 0, 6, .inl (fun _ => 0))) :: (((r8 3), .inl (G.2.1 0, 6, .inl (fun _ => 0))) :: (((r8 4), .inl (G.2.1 0, 6, .inl (fun _ => 0))) :: (((r8 5), .inl (G.2.1 0, 6, .inl (fun _ => 0))) :: (((r8 6), .inl (G.2.1 0, 6, .inl (fun _ => 0))) :: (((r8 7), .inl (G.2.1 0, 6, .inl (fun _ => 0))) :: ((q6, .inl (G.2.1 0, 8, .inl (fun _ => 0))) :: ((q5, .inl (G.2.1 0, 6, .inl (fun _ => 0))) :: ((q4, .inl (G.2.1 0, 6, .inl (fun _ => 0))) :: ((q3, .inl (G.2.1 0, 6, .inl (fun _ => 0))) :: ((q2, .inl (G.2.1 0, 6, .inl (fun _ => 0))) :: ((q1, .inl (G.2.1 0, 6, .inl (fun _ => 0))) :: [])))))))))))))))) := I
  refine lv_aload_n hx hb dX9_init_74 rfl (lv_at hl 0 rfl) ?_
  refine lv_iconst (v := 4) hx hb dX9_init_75 (by decide) ?_
  refine r_newaI (N := 4) (cells1 := 16) (slots1 := 98) XX I (by decide) rfl (by decide) rfl rfl ⟨Nat.le_of_ble_eq_true rfl, Nat.le_of_ble_eq_true rfl⟩ dX9_init_76 (fun q9 H I => ?_)
  replace I : Iv G _ s0 H _ ((b, .inr (9, [.int 0, .ref q1, .ref q2, .ref q3, .ref q4, .ref q5, .int 0, .ref q6, .ref q7, .null, .int 0, .int 0, .int 0])) :: ((q9, .inl (G.2.1 0, 4, .inl (fun _ => 0))) :: ((q7, .inl (G.2.1 4, 8, .inr (.inr (.inr (.inr (fun i => some (r8 i))))))) :: (((r8 0), .inl (G.2.1 0, 6, .inl (fun _ => 0))) :: (((r8 1), .inl (G.2.1 0, 6, .inl (fun _ => 0))) :: (((r8 2), .inl (G.2.1 0, 6, .inl (fun _ => 0))) :: (((r8 3), .inl (G.2.1 0, 6, .inl (fun _ => 0))) :: (((r8 4), .inl (G.2.1 0, 6, .inl (fun _ => 0))) :: (((r8 5), .inl (G.2.1 0, 6, .inl (fun _ => 0))) :: (((r8 6), .inl (G.2.1 0, 6, .inl (fun _ => 0))) :: (((r8 7), .inl (G.2.1 0, 6, .inl (fun _ => 0))) :: ((q6, .inl (G.2.1 0, 8, .inl (fun _ => 0))) :: ((q5, .inl (G.2.1 0, 6, .inl (fun _ => 0))) :: ((q4, .inl (G.2.1 0, 6, .inl (fun _ => 0))) :: ((q3, .inl (G.2.1 0, 6, .inl (fun _ => 0))) :: ((q2, .inl (G.2.1 0, 6, .inl (fun _ => 0))) :: ((q1, .inl (G.2.1 0, 6, .inl (fun _ => 0))) :: []))))))))))))))))) := I
  refine r_putF (fs1 := [.int 0, .ref q1, .ref q2, .ref q3, .ref q4, .ref q5, .int 0, .ref q6, .ref q7, .ref q9, .int 0, .int 0, .int 0]) kfX9 XX I rfl 9 (by decide) wd_64 rfl hnm rfl rfl rfl (Nat.le_of_ble_eq_true rfl) rfl dX9_init_78 (fun H locs I => ?_)
  replace I : Iv G _ s0 H _ ((b, .inr (9, [.int 0, .ref q1, .ref q2, .ref q3, .ref q4, .ref q5, .int 0, .ref q6, .ref q7, .ref q9, .int 0, .int 0, .int 0])) :: ((q9, .inl (G.2.1 0, 4, .inl (fun _ => 0))) :: ((q7, .inl (G.2.1 4, 8, .inr (.inr (.inr (.inr (fun i => some (r8 i))))))) :: (((r8 0), .inl (G.2.1 0, 6, .inl (fun _ => 0))) :: (((r8 1), .inl (G.2.1 0, 6, .inl (fun _ => 0))) :: (((r8 2), .inl (G.2.1 0, 6, .inl (fun _ => 0))) :: (((r8 3), .inl (G.2.1 0, 6, .inl (fun _ => 0))) :: (((r8 4), .inl (G.2.1 0, 6, .inl (fun _ => 0))) :: (((r8 5), .inl (G.2.1 0, 6, .inl (fun _ => 0))) :: (((r8 6), .inl (G.2.1 0, 6, .inl (fun _ => 0))) :: (((r8 7), .inl (G.2.1 0, 6, .inl (fun _ => 0))) :: ((q6, .inl (G.2.1 0, 8, .inl (fun _ => 0))) :: ((q5, .inl (G.2.1 0, 6, .inl (fun _ => 0))) :: ((q4, .inl (G.2.1 0, 6, .inl (fun _ => 0))) :: ((q3, .inl (G.2.1 0, 6, .inl (fun _ => 0))) :: ((q2, .inl (G.2.1 0, 6, .inl (fun _ => 0))) :: ((q1, .inl (G.2.1 0, 6, .inl (fun _ => 0))) :: []))))))))))))))))) := I
  refine lv_aload_n hx hb dX9_init_81 rfl (lv_at hl 0 rfl) ?_
  refine lv_iconst (v := 1) hx hb dX9_init_82 (by decide) ?_
  refine r_put0 (fs1 := [.int 0, .ref q1, .ref q2, .ref q3, .ref q4, .ref q5, .int 0, .ref q6, .ref q7, .ref q9, .int 1, .int 0, .int 0]) kfX9 XX I rfl 10 (by decide) wd_68 rfl rfl rfl (Nat.le_of_ble_eq_true rfl) rfl dX9_init_83 (fun H locs I => ?_)
  replace I : Iv G _ s0 H _ ((b, .inr (9, [.int 0, .ref q1, .ref q2, .ref q3, .ref q4, .ref q5, .int 0, .ref q6, .ref q7, .ref q9, .int 1, .int 0, .int 0])) :: ((q9, .inl (G.2.1 0, 4, .inl (fun _ => 0))) :: ((q7, .inl (G.2.1 4, 8, .inr (.inr (.inr (.inr (fun i => some (r8 i))))))) :: (((r8 0), .inl (G.2.1 0, 6, .inl (fun _ => 0))) :: (((r8 1), .inl (G.2.1 0, 6, .inl (fun _ => 0))) :: (((r8 2), .inl (G.2.1 0, 6, .inl (fun _ => 0))) :: (((r8 3), .inl (G.2.1 0, 6, .inl (fun _ => 0))) :: (((r8 4), .inl (G.2.1 0, 6, .inl (fun _ => 0))) :: (((r8 5), .inl (G.2.1 0, 6, .inl (fun _ => 0))) :: (((r8 6), .inl (G.2.1 0, 6, .inl (fun _ => 0))) :: (((r8 7), .inl (G.2.1 0, 6, .inl (fun _ => 0))) :: ((q6, .inl (G.2.1 0, 8, .inl (fun _ => 0))) :: ((q5, .inl (G.2.1 0, 6, .inl (fun _ => 0))) :: ((q4, .inl (G.2.1 0, 6, .inl (fun _ => 0))) :: ((q3, .inl (G.2.1 0, 6, .inl (fun _ => 0))) :: ((q2, .inl (G.2.1 0, 6, .inl (fun _ => 0))) :: ((q1, .inl (G.2.1 0, 6, .inl (fun _ => 0))) :: []))))))))))))))))) := I
  refine lv_aload_n hx hb dX9_init_86 rfl (lv_at hl 0 rfl) ?_
  refine lv_iconst (v := 0) hx hb dX9_init_87 (by decide) ?_
  refine r_put0 (fs1 := [.int 0, .ref q1, .ref q2, .ref q3, .ref q4, .ref q5, .int 0, .ref q6, .ref q7, .ref q9, .int 1, .int 0, .int 0]) kfX9 XX I rfl 11 (by decide) wd_70 rfl rfl rfl (Nat.le_of_ble_eq_true rfl) rfl dX9_init_88 (fun H locs I => ?_)
  replace I : Iv G _ s0 H _ ((b, .inr (9, [.int 0, .ref q1, .ref q2, .ref q3, .ref q4, .ref q5, .int 0, .ref q6, .ref q7, .ref q9, .int 1, .int 0, .int 0])) :: ((q9, .inl (G.2.1 0, 4, .inl (fun _ => 0))) :: ((q7, .inl (G.2.1 4, 8, .inr (.inr (.inr (.inr (fun i => some (r8 i))))))) :: (((r8 0), .inl (G.2.1 0, 6, .inl (fun _ => 0))) :: (((r8 1), .inl (G.2.1 0, 6, .inl (fun _ => 0))) :: (((r8 2), .inl (G.2.1 0, 6, .inl (fun _ => 0))) :: (((r8 3), .inl (G.2.1 0, 6, .inl (fun _ => 0))) :: (((r8 4), .inl (G.2.1 0, 6, .inl (fun _ => 0))) :: (((r8 5), .inl (G.2.1 0, 6, .inl (fun _ => 0))) :: (((r8 6), .inl (G.2.1 0, 6, .inl (fun _ => 0))) :: (((r8 7), .inl (G.2.1 0, 6, .inl (fun _ => 0))) :: ((q6, .inl (G.2.1 0, 8, .inl (fun _ => 0))) :: ((q5, .inl (G.2.1 0, 6, .inl (fun _ => 0))) :: ((q4, .inl (G.2.1 0, 6, .inl (fun _ => 0))) :: ((q3, .inl (G.2.1 0, 6, .inl (fun _ => 0))) :: ((q2, .inl (G.2.1 0, 6, .inl (fun _ => 0))) :: ((q1, .inl (G.2.1 0, 6, .inl (fun _ => 0))) :: []))))))))))))))))) := I
  refine lv_aload_n hx hb dX9_init_91 rfl (lv_at hl 0 rfl) ?_
  refine lv_iconst (v := 0) hx hb dX9_init_92 (by decide) ?_
  refine r_put0 (fs1 := [.int 0, .ref q1, .ref q2, .ref q3, .ref q4, .ref q5, .int 0, .ref q6, .ref q7, .ref q9, .int 1, .int 0, .int 0]) kfX9 XX I rfl 12 (by decide) wd_72 rfl rfl rfl (Nat.le_of_ble_eq_true rfl) rfl dX9_init_93 (fun H locs I => ?_)
  replace I : Iv G _ s0 H _ ((b, .inr (9, [.int 0, .ref q1, .ref q2, .ref q3, .ref q4, .ref q5, .int 0, .ref q6, .ref q7, .ref q9, .int 1, .int 0, .int 0])) :: ((q9, .inl (G.2.1 0, 4, .inl (fun _ => 0))) :: ((q7, .inl (G.2.1 4, 8, .inr (.inr (.inr (.inr (fun i => some (r8 i))))))) :: (((r8 0), .inl (G.2.1 0, 6, .inl (fun _ => 0))) :: (((r8 1), .inl (G.2.1 0, 6, .inl (fun _ => 0))) :: (((r8 2), .inl (G.2.1 0, 6, .inl (fun _ => 0))) :: (((r8 3), .inl (G.2.1 0, 6, .inl (fun _ => 0))) :: (((r8 4), .inl (G.2.1 0, 6, .inl (fun _ => 0))) :: (((r8 5), .inl (G.2.1 0, 6, .inl (fun _ => 0))) :: (((r8 6), .inl (G.2.1 0, 6, .inl (fun _ => 0))) :: (((r8 7), .inl (G.2.1 0, 6, .inl (fun _ => 0))) :: ((q6, .inl (G.2.1 0, 8, .inl (fun _ => 0))) :: ((q5, .inl (G.2.1 0, 6, .inl (fun _ => 0))) :: ((q4, .inl (G.2.1 0, 6, .inl (fun _ => 0))) :: ((q3, .inl (G.2.1 0, 6, .inl (fun _ => 0))) :: ((q2, .inl (G.2.1 0, 6, .inl (fun _ => 0))) :: ((q1, .inl (G.2.1 0, 6, .inl (fun _ => 0))) :: []))))))))))))))))) := I
  refine lv_aload_n hx hb dX9_init_96 rfl (lv_at hl 0 rfl) ?_
  refine r_get (v := .ref q9) kfX9 XX I 0 rfl 9 (by decide) wd_64 rfl dX9_init_97 ?_
  refine lv_iconst (v := 0) hx hb dX9_init_100 (by decide) ?_
  refine lv_iconst (v := 1) hx hb dX9_init_101 (by decide) ?_
  refine r_iast (w1 := ((b, .inr (9, [.int 0, .ref q1, .ref q2, .ref q3, .ref q4, .ref q5, .int 0, .ref q6, .ref q7, .ref q9, .int 1, .int 0, .int 0])) :: ((q9, .inl (G.2.1 0, 4, .inl (upd (fun _ => 0) 0 1))) :: ((q7, .inl (G.2.1 4, 8, .inr (.inr (.inr (.inr (fun i => some (r8 i))))))) :: (((r8 0), .inl (G.2.1 0, 6, .inl (fun _ => 0))) :: (((r8 1), .inl (G.2.1 0, 6, .inl (fun _ => 0))) :: (((r8 2), .inl (G.2.1 0, 6, .inl (fun _ => 0))) :: (((r8 3), .inl (G.2.1 0, 6, .inl (fun _ => 0))) :: (((r8 4), .inl (G.2.1 0, 6, .inl (fun _ => 0))) :: (((r8 5), .inl (G.2.1 0, 6, .inl (fun _ => 0))) :: (((r8 6), .inl (G.2.1 0, 6, .inl (fun _ => 0))) :: (((r8 7), .inl (G.2.1 0, 6, .inl (fun _ => 0))) :: ((q6, .inl (G.2.1 0, 8, .inl (fun _ => 0))) :: ((q5, .inl (G.2.1 0, 6, .inl (fun _ => 0))) :: ((q4, .inl (G.2.1 0, 6, .inl (fun _ => 0))) :: ((q3, .inl (G.2.1 0, 6, .inl (fun _ => 0))) :: ((q2, .inl (G.2.1 0, 6, .inl (fun _ => 0))) :: ((q1, .inl (G.2.1 0, 6, .inl (fun _ => 0))) :: [])))))))))))))))))) XX I 1 rfl rfl (by unfold vp_in; decide) dX9_init_102 (fun H locs I => ?_)
  refine lv_aload_n hx hb dX9_init_103 rfl (lv_at hl 0 rfl) ?_
  refine r_get (v := .ref q9) kfX9 XX I 0 rfl 9 (by decide) wd_64 rfl dX9_init_104 ?_
  refine lv_iconst (v := 3) hx hb dX9_init_107 (by decide) ?_
  refine lv_iconst (v := 1) hx hb dX9_init_108 (by decide) ?_
  refine r_iast (w1 := ((b, .inr (9, [.int 0, .ref q1, .ref q2, .ref q3, .ref q4, .ref q5, .int 0, .ref q6, .ref q7, .ref q9, .int 1, .int 0, .int 0])) :: ((q9, .inl (G.2.1 0, 4, .inl (upd (upd (fun _ => 0) 0 1) 3 1))) :: ((q7, .inl (G.2.1 4, 8, .inr (.inr (.inr (.inr (fun i => some (r8 i))))))) :: (((r8 0), .inl (G.2.1 0, 6, .inl (fun _ => 0))) :: (((r8 1), .inl (G.2.1 0, 6, .inl (fun _ => 0))) :: (((r8 2), .inl (G.2.1 0, 6, .inl (fun _ => 0))) :: (((r8 3), .inl (G.2.1 0, 6, .inl (fun _ => 0))) :: (((r8 4), .inl (G.2.1 0, 6, .inl (fun _ => 0))) :: (((r8 5), .inl (G.2.1 0, 6, .inl (fun _ => 0))) :: (((r8 6), .inl (G.2.1 0, 6, .inl (fun _ => 0))) :: (((r8 7), .inl (G.2.1 0, 6, .inl (fun _ => 0))) :: ((q6, .inl (G.2.1 0, 8, .inl (fun _ => 0))) :: ((q5, .inl (G.2.1 0, 6, .inl (fun _ => 0))) :: ((q4, .inl (G.2.1 0, 6, .inl (fun _ => 0))) :: ((q3, .inl (G.2.1 0, 6, .inl (fun _ => 0))) :: ((q2, .inl (G.2.1 0, 6, .inl (fun _ => 0))) :: ((q1, .inl (G.2.1 0, 6, .inl (fun _ => 0))) :: [])))))))))))))))))) XX I 1 rfl rfl (by unfold vp_in; decide) dX9_init_109 (fun H locs I => ?_)
  replace I : Iv G _ s0 H _ ((b, .inr (9, [.int 0, .ref q1, .ref q2, .ref q3, .ref q4, .ref q5, .int 0, .ref q6, .ref q7, .ref q9, .int 1, .int 0, .int 0])) :: ((q9, .inl (G.2.1 0, 4, .inl (upd (upd (fun _ => 0) 0 1) 3 1))) :: ((q7, .inl (G.2.1 4, 8, .inr (.inr (.inr (.inr (fun j => some ((fun k : Nat => if k = 0 then b else if k = 2 then q1 else if k = 3 then q2 else if k = 4 then q3 else if k = 5 then q4 else if k = 6 then q5 else if k = 8 then q6 else if k = 9 then q7 else if k = 10 then q9 else r8 (k - 20)) (20 + j)))))))) :: (((r8 0), .inl (G.2.1 0, 6, .inl (fun _ => 0))) :: (((r8 1), .inl (G.2.1 0, 6, .inl (fun _ => 0))) :: (((r8 2), .inl (G.2.1 0, 6, .inl (fun _ => 0))) :: (((r8 3), .inl (G.2.1 0, 6, .inl (fun _ => 0))) :: (((r8 4), .inl (G.2.1 0, 6, .inl (fun _ => 0))) :: (((r8 5), .inl (G.2.1 0, 6, .inl (fun _ => 0))) :: (((r8 6), .inl (G.2.1 0, 6, .inl (fun _ => 0))) :: (((r8 7), .inl (G.2.1 0, 6, .inl (fun _ => 0))) :: ((q6, .inl (G.2.1 0, 8, .inl (fun _ => 0))) :: ((q5, .inl (G.2.1 0, 6, .inl (fun _ => 0))) :: ((q4, .inl (G.2.1 0, 6, .inl (fun _ => 0))) :: ((q3, .inl (G.2.1 0, 6, .inl (fun _ => 0))) :: ((q2, .inl (G.2.1 0, 6, .inl (fun _ => 0))) :: ((q1, .inl (G.2.1 0, 6, .inl (fun _ => 0))) :: []))))))))))))))))) := I.refun 2 (fun j => some ((fun k : Nat => if k = 0 then b else if k = 2 then q1 else if k = 3 then q2 else if k = 4 then q3 else if k = 5 then q4 else if k = 6 then q5 else if k = 8 then q6 else if k = 9 then q7 else if k = 10 then q9 else r8 (k - 20)) (20 + j))) rfl (fun j hj => by
      rcases (show j = 0 ∨ j = 1 ∨ j = 2 ∨ j = 3 ∨ j = 4 ∨ j = 5 ∨ j = 6 ∨ j = 7 by omega) with rfl | rfl | rfl | rfl | rfl | rfl | rfl | rfl <;> rfl) rfl
  replace I : Iv G _ s0 H _ (bV G (fun k : Nat => if k = 0 then b else if k = 2 then q1 else if k = 3 then q2 else if k = 4 then q3 else if k = 5 then q4 else if k = 6 then q5 else if k = 8 then q6 else if k = 9 then q7 else if k = 10 then q9 else r8 (k - 20)) V0) := I.pick [0, 16, 15, 14, 13, 12, 11, 2, 1, 3, 4, 5, 6, 7, 8, 9, 10] (by decide +kernel) rfl
  exact e_c XX hr I ⟨(fun k : Nat => if k = 0 then b else if k = 2 then q1 else if k = 3 then q2 else if k = 4 then q3 else if k = 5 then q4 else if k = 6 then q5 else if k = 8 then q6 else if k = 9 then q7 else if k = 10 then q9 else r8 (k - 20)), rfl, rfl⟩ dX9_init_110
set_option maxRecDepth 100000 in
theorem i_X5_X5 (l : Launch) (G : g_G) (OK : EOk G.2.2) (hXC : HXC G) (b : Nat) : HC l G yX5_init (Cond.code yX5_init cX5_init 1 none :: gT) { frames := 1, cells := 1, slots := 40, locals := 12 } [.ref b] [(b, .inr (5, [.int 0, .int 0, .null]))] 1 40 (fun w1 => ∃ ad : Nat → Nat, ad 0 = b ∧ w1 = bS G ad S0) := by
  refine HC.mk (lv := [(0, .ref b)]) OK (by decide) (Nat.le_of_ble_eq_true rfl) rfl rfl ?_
  intro p e s0 m args below meth c ls XX hnm hr I hl
  have hx := XX.x
  have hb := XX.b
  have E := hXC _ _ _ XX.E
  replace I : Iv G _ s0 s0.heap _ ((b, .inr (5, [.int 0, .int 0, .null])) :: []) := I
  refine lv_aload_n hx hb dX5_init_0 rfl (lv_at hl 0 rfl) ?_
  refine r_obj XX hl.1 wd_163 ⟨Nat.le_of_ble_eq_true rfl, Nat.le_of_ble_eq_true rfl⟩ dX5_init_1 ?_
  refine lv_aload_n hx hb dX5_init_4 rfl (lv_at hl 0 rfl) ?_
  refine lv_iconst (v := (-1)) hx hb dX5_init_5 (by decide) ?_
  refine r_put0 (fs1 := [.int (-1), .int 0, .null]) kfX5 XX I rfl 0 (by decide) wd_164 rfl rfl rfl (Nat.le_of_ble_eq_true rfl) rfl dX5_init_6 (fun H locs I => ?_)
  replace I : Iv G _ s0 H _ ((b, .inr (5, [.int (-1), .int 0, .null])) :: []) := I
  refine lv_aload_n hx hb dX5_init_9 rfl (lv_at hl 0 rfl) ?_
  refine lv_iconst (v := 0) hx hb dX5_init_10 (by decide) ?_
  refine r_put0 (fs1 := [.int (-1), .int 0, .null]) kfX5 XX I rfl 1 (by decide) wd_166 rfl rfl rfl (Nat.le_of_ble_eq_true rfl) rfl dX5_init_11 (fun H locs I => ?_)
  replace I : Iv G _ s0 H _ ((b, .inr (5, [.int (-1), .int 0, .null])) :: []) := I
  refine lv_aload_n hx hb dX5_init_14 rfl (lv_at hl 0 rfl) ?_
  refine lv_bipush (v := 40) hx hb dX5_init_15 (by decide) ?_
  refine r_newaI (N := 40) (cells1 := 1) (slots1 := 40) XX I (by decide) rfl (by decide) rfl rfl ⟨Nat.le_of_ble_eq_true rfl, Nat.le_of_ble_eq_true rfl⟩ dX5_init_17 (fun q1 H I => ?_)
  replace I : Iv G _ s0 H _ ((b, .inr (5, [.int (-1), .int 0, .null])) :: ((q1, .inl (G.2.1 0, 40, .inl (fun _ => 0))) :: [])) := I
  refine r_putF (fs1 := [.int (-1), .int 0, .ref q1]) kfX5 XX I rfl 2 (by decide) wd_168 rfl hnm rfl rfl rfl (Nat.le_of_ble_eq_true rfl) rfl dX5_init_19 (fun H locs I => ?_)
  replace I : Iv G _ s0 H _ ((b, .inr (5, [.int (-1), .int 0, .ref q1])) :: ((q1, .inl (G.2.1 0, 40, .inl (fun _ => 0))) :: [])) := I
  replace I : Iv G _ s0 H _ (bS G (fun k : Nat => if k = 0 then b else q1) S0) := I.pick [0, 1] (by decide +kernel) rfl
  exact e_c XX hr I ⟨(fun k : Nat => if k = 0 then b else q1), rfl, rfl⟩ dX5_init_22
set_option maxRecDepth 100000 in
theorem i_X8_X8 (l : Launch) (G : g_G) (OK : EOk G.2.2) (hXC : HXC G) (b : Nat) : HC l G yX8_init (Cond.code yX8_init cX8_init 1 none :: gT) { frames := 1, cells := 1, slots := 30, locals := 12 } [.ref b] [(b, .inr (8, [.null, .int 0, .int 0]))] 1 30 (fun w1 => ∃ ad : Nat → Nat, ad 0 = b ∧ w1 = bK G ad s00) := by
  refine HC.mk (lv := [(0, .ref b)]) OK (by decide) (Nat.le_of_ble_eq_true rfl) rfl rfl ?_
  intro p e s0 m args below meth c ls XX hnm hr I hl
  have hx := XX.x
  have hb := XX.b
  have E := hXC _ _ _ XX.E
  replace I : Iv G _ s0 s0.heap _ ((b, .inr (8, [.null, .int 0, .int 0])) :: []) := I
  refine lv_aload_n hx hb dX8_init_0 rfl (lv_at hl 0 rfl) ?_
  refine r_obj XX hl.1 wd_182 ⟨Nat.le_of_ble_eq_true rfl, Nat.le_of_ble_eq_true rfl⟩ dX8_init_1 ?_
  refine lv_aload_n hx hb dX8_init_4 rfl (lv_at hl 0 rfl) ?_
  refine lv_bipush (v := 30) hx hb dX8_init_5 (by decide) ?_
  refine r_newaI (N := 30) (cells1 := 1) (slots1 := 30) XX I (by decide) rfl (by decide) rfl rfl ⟨Nat.le_of_ble_eq_true rfl, Nat.le_of_ble_eq_true rfl⟩ dX8_init_7 (fun q1 H I => ?_)
  replace I : Iv G _ s0 H _ ((b, .inr (8, [.null, .int 0, .int 0])) :: ((q1, .inl (G.2.1 0, 30, .inl (fun _ => 0))) :: [])) := I
  refine r_putF (fs1 := [.ref q1, .int 0, .int 0]) kfX8 XX I rfl 0 (by decide) wd_183 rfl hnm rfl rfl rfl (Nat.le_of_ble_eq_true rfl) rfl dX8_init_9 (fun H locs I => ?_)
  replace I : Iv G _ s0 H _ ((b, .inr (8, [.ref q1, .int 0, .int 0])) :: ((q1, .inl (G.2.1 0, 30, .inl (fun _ => 0))) :: [])) := I
  refine lv_aload_n hx hb dX8_init_12 rfl (lv_at hl 0 rfl) ?_
  refine lv_iconst (v := 0) hx hb dX8_init_13 (by decide) ?_
  refine r_put0 (fs1 := [.ref q1, .int 0, .int 0]) kfX8 XX I rfl 1 (by decide) wd_185 rfl rfl rfl (Nat.le_of_ble_eq_true rfl) rfl dX8_init_14 (fun H locs I => ?_)
  replace I : Iv G _ s0 H _ ((b, .inr (8, [.ref q1, .int 0, .int 0])) :: ((q1, .inl (G.2.1 0, 30, .inl (fun _ => 0))) :: [])) := I
  refine lv_aload_n hx hb dX8_init_17 rfl (lv_at hl 0 rfl) ?_
  refine lv_iconst (v := 0) hx hb dX8_init_18 (by decide) ?_
  refine r_put0 (fs1 := [.ref q1, .int 0, .int 0]) kfX8 XX I rfl 2 (by decide) wd_187 rfl rfl rfl (Nat.le_of_ble_eq_true rfl) rfl dX8_init_19 (fun H locs I => ?_)
  replace I : Iv G _ s0 H _ ((b, .inr (8, [.ref q1, .int 0, .int 0])) :: ((q1, .inl (G.2.1 0, 30, .inl (fun _ => 0))) :: [])) := I
  replace I : Iv G _ s0 H _ (bK G (fun k : Nat => if k = 0 then b else q1) s00) := I.pick [0, 1] (by decide +kernel) rfl
  exact e_c XX hr I ⟨(fun k : Nat => if k = 0 then b else q1), rfl, rfl⟩ dX8_init_22
set_option maxRecDepth 100000 in
theorem i_X0_X0 (l : Launch) (G : g_G) (OK : EOk G.2.2) (hXC : HXC G) (b : Nat) : HC l G yX0_init (Cond.code yX0_init cX0_init 1 none :: gT) { frames := 2, cells := 18, slots := 115, locals := 32 } [.ref b] [(b, .inr (0, [.null, .null, .int 0]))] 18 115 (fun w1 => ∃ ad v : Nat → Nat, ad 0 = b ∧ w1 = bA G ad v A0 ++ (bV G v V0 ++ [])) := by
  refine HC.mk (lv := [(0, .ref b)]) OK (by decide) (Nat.le_of_ble_eq_true rfl) rfl rfl ?_
  intro p e s0 m args below meth c ls XX hnm hr I hl
  have hx := XX.x
  have hb := XX.b
  have E := hXC _ _ _ XX.E
  replace I : Iv G _ s0 s0.heap _ ((b, .inr (0, [.null, .null, .int 0])) :: []) := I
  refine lv_aload_n hx hb dX0_init_0 rfl (lv_at hl 0 rfl) ?_
  refine r_obj XX hl.1 wd_107 ⟨Nat.le_of_ble_eq_true rfl, Nat.le_of_ble_eq_true rfl⟩ dX0_init_1 ?_
  refine lv_aload_n hx hb dX0_init_4 rfl (lv_at hl 0 rfl) ?_
  refine r_new (cells1 := 1) (slots1 := 13) kfX9 XX I wd_108 wd_30 wd_2 dfX9 rfl rfl ⟨Nat.le_of_ble_eq_true rfl, Nat.le_of_ble_eq_true rfl⟩ dX0_init_5 (fun q1 H I => ?_)
  replace I : Iv G _ s0 H _ ((b, .inr (0, [.null, .null, .int 0])) :: ((q1, .inr (9, [.int 0, .null, .null, .null, .null, .null, .int 0, .null, .null, .null, .int 0, .int 0, .int 0])) :: [])) := I
  refine lv_dup hx hb dX0_init_8 rfl ?_
  refine call_c (cells1 := 17) (slots1 := 111) (X := [(b, .inr (0, [.null, .null, .int 0]))]) (wc := [(q1, .inr (9, [.int 0, .null, .null, .null, .null, .null, .int 0, .null, .null, .null, .int 0, .int 0, .int 0]))]) (n := 0) (rest := [.ref q1, .ref b]) XX I hl.1 (i_X9_X9 l G OK hXC q1) wd_109 wd_32 wd_2 wd_33 (by decide +kernel) rfl rfl rfl (Nat.le_of_ble_eq_true rfl) ⟨rfl, rfl, Nat.le_of_ble_eq_true rfl, Nat.le_of_ble_eq_true rfl⟩ rfl rfl ⟨Nat.le_of_ble_eq_true rfl, Nat.le_of_ble_eq_true rfl⟩ dX0_init_9 (fun wz H locs hp J => ?_)
  clear I
  obtain ⟨a2, ea2, rfl⟩ := hp
  subst ea2
  have I : Iv G _ s0 H _ ((b, .inr (0, [.null, .null, .int 0])) :: (bV G a2 V0 ++ [])) := J
  clear J
  refine r_putF (fs1 := [.ref (a2 0), .null, .int 0]) kfX0 XX I rfl 0 (by decide) wd_110 rfl hnm rfl rfl rfl (Nat.le_of_ble_eq_true rfl) rfl dX0_init_12 (fun H locs I => ?_)
  replace I : Iv G _ s0 H _ ((b, .inr (0, [.ref (a2 0), .null, .int 0])) :: (bV G a2 V0 ++ [])) := I
  refine lv_aload_n hx hb dX0_init_15 rfl (lv_at hl 0 rfl) ?_
  refine lv_iconst (v := 4) hx hb dX0_init_16 (by decide) ?_
  refine r_newaL (N := 4) (cells1 := 18) (slots1 := 115) XX I (by decide) rfl (by decide) rfl rfl ⟨Nat.le_of_ble_eq_true rfl, Nat.le_of_ble_eq_true rfl⟩ dX0_init_17 (fun q3 H I => ?_)
  replace I : Iv G _ s0 H _ ((b, .inr (0, [.ref (a2 0), .null, .int 0])) :: ((q3, .inl (G.2.1 1, 4, .inr (.inl (fun _ => 0)))) :: (bV G a2 V0 ++ []))) := I
  refine r_putF (fs1 := [.ref (a2 0), .ref q3, .int 0]) kfX0 XX I rfl 1 (by decide) wd_111 rfl hnm rfl rfl rfl (Nat.le_of_ble_eq_true rfl) rfl dX0_init_19 (fun H locs I => ?_)
  replace I : Iv G _ s0 H _ ((b, .inr (0, [.ref (a2 0), .ref q3, .int 0])) :: ((q3, .inl (G.2.1 1, 4, .inr (.inl (fun _ => 0)))) :: (bV G a2 V0 ++ []))) := I
  refine lv_aload_n hx hb dX0_init_22 rfl (lv_at hl 0 rfl) ?_
  refine lv_iconst (v := (-1)) hx hb dX0_init_23 (by decide) ?_
  refine r_put0 (fs1 := [.ref (a2 0), .ref q3, .int (-1)]) kfX0 XX I rfl 2 (by decide) wd_113 rfl rfl rfl (Nat.le_of_ble_eq_true rfl) rfl dX0_init_24 (fun H locs I => ?_)
  replace I : Iv G _ s0 H _ ((b, .inr (0, [.ref (a2 0), .ref q3, .int (-1)])) :: ((q3, .inl (G.2.1 1, 4, .inr (.inl (fun _ => 0)))) :: (bV G a2 V0 ++ []))) := I
  replace I : Iv G _ s0 H _ (bA G (fun k : Nat => if k = 0 then b else q3) a2 A0 ++ (bV G a2 V0 ++ [])) := I.pick [0, 1, 2, 3, 4, 5, 6, 7, 8, 9, 10, 11, 12, 13, 14, 15, 16, 17, 18] (by decide +kernel) rfl
  exact e_c XX hr I ⟨(fun k : Nat => if k = 0 then b else q3), a2, rfl, rfl⟩ dX0_init_27
set_option maxRecDepth 100000 in
theorem i_X6_X6 (l : Launch) (G : g_G) (OK : EOk G.2.2) (hXC : HXC G) (b : Nat) : HC l G yX6_init (Cond.code yX6_init cX6_init 1 none :: gT) { frames := 2, cells := 18, slots := 351, locals := 32 } [.ref b] [(b, .inr (6, [.null, .null, .int 0, .int 0, .int 0, .int 0, .int 0]))] 18 351 (fun w1 => ∃ ad v : Nat → Nat, ad 0 = b ∧ w1 = bT G ad v s00 ++ (bV G v V0 ++ [])) := by
  refine HC.mk (lv := [(0, .ref b)]) OK (by decide) (Nat.le_of_ble_eq_true rfl) rfl rfl ?_
  intro p e s0 m args below meth c ls XX hnm hr I hl
  have hx := XX.x
  have hb := XX.b
  have E := hXC _ _ _ XX.E
  replace I : Iv G _ s0 s0.heap _ ((b, .inr (6, [.null, .null, .int 0, .int 0, .int 0, .int 0, .int 0])) :: []) := I
  refine lv_aload_n hx hb dX6_init_0 rfl (lv_at hl 0 rfl) ?_
  refine r_obj XX hl.1 wd_127 ⟨Nat.le_of_ble_eq_true rfl, Nat.le_of_ble_eq_true rfl⟩ dX6_init_1 ?_
  refine lv_aload_n hx hb dX6_init_4 rfl (lv_at hl 0 rfl) ?_
  refine r_new (cells1 := 1) (slots1 := 13) kfX9 XX I wd_128 wd_30 wd_2 dfX9 rfl rfl ⟨Nat.le_of_ble_eq_true rfl, Nat.le_of_ble_eq_true rfl⟩ dX6_init_5 (fun q1 H I => ?_)
  replace I : Iv G _ s0 H _ ((b, .inr (6, [.null, .null, .int 0, .int 0, .int 0, .int 0, .int 0])) :: ((q1, .inr (9, [.int 0, .null, .null, .null, .null, .null, .int 0, .null, .null, .null, .int 0, .int 0, .int 0])) :: [])) := I
  refine lv_dup hx hb dX6_init_8 rfl ?_
  refine call_c (cells1 := 17) (slots1 := 111) (X := [(b, .inr (6, [.null, .null, .int 0, .int 0, .int 0, .int 0, .int 0]))]) (wc := [(q1, .inr (9, [.int 0, .null, .null, .null, .null, .null, .int 0, .null, .null, .null, .int 0, .int 0, .int 0]))]) (n := 0) (rest := [.ref q1, .ref b]) XX I hl.1 (i_X9_X9 l G OK hXC q1) wd_129 wd_32 wd_2 wd_33 (by decide +kernel) rfl rfl rfl (Nat.le_of_ble_eq_true rfl) ⟨rfl, rfl, Nat.le_of_ble_eq_true rfl, Nat.le_of_ble_eq_true rfl⟩ rfl rfl ⟨Nat.le_of_ble_eq_true rfl, Nat.le_of_ble_eq_true rfl⟩ dX6_init_9 (fun wz H locs hp J => ?_)
  clear I
  obtain ⟨a2, ea2, rfl⟩ := hp
  subst ea2
  have I : Iv G _ s0 H _ ((b, .inr (6, [.null, .null, .int 0, .int 0, .int 0, .int 0, .int 0])) :: (bV G a2 V0 ++ [])) := J
  clear J
  refine r_putF (fs1 := [.ref (a2 0), .null, .int 0, .int 0, .int 0, .int 0, .int 0]) kfX6 XX I rfl 0 (by decide) wd_130 rfl hnm rfl rfl rfl (Nat.le_of_ble_eq_true rfl) rfl dX6_init_12 (fun H locs I => ?_)
  replace I : Iv G _ s0 H _ ((b, .inr (6, [.ref (a2 0), .null, .int 0, .int 0, .int 0, .int 0, .int 0])) :: (bV G a2 V0 ++ [])) := I
  refine lv_aload_n hx hb dX6_init_15 rfl (lv_at hl 0 rfl) ?_
  refine lv_sipush (v := 240) hx hb dX6_init_16 (by decide) ?_
  refine r_newaI (N := 240) (cells1 := 18) (slots1 := 351) XX I (by decide) rfl (by decide) rfl rfl ⟨Nat.le_of_ble_eq_true rfl, Nat.le_of_ble_eq_true rfl⟩ dX6_init_19 (fun q3 H I => ?_)
  replace I : Iv G _ s0 H _ ((b, .inr (6, [.ref (a2 0), .null, .int 0, .int 0, .int 0, .int 0, .int 0])) :: ((q3, .inl (G.2.1 0, 240, .inl (fun _ => 0))) :: (bV G a2 V0 ++ []))) := I
  refine r_putF (fs1 := [.ref (a2 0), .ref q3, .int 0, .int 0, .int 0, .int 0, .int 0]) kfX6 XX I rfl 1 (by decide) wd_132 rfl hnm rfl rfl rfl (Nat.le_of_ble_eq_true rfl) rfl dX6_init_21 (fun H locs I => ?_)
  replace I : Iv G _ s0 H _ ((b, .inr (6, [.ref (a2 0), .ref q3, .int 0, .int 0, .int 0, .int 0, .int 0])) :: ((q3, .inl (G.2.1 0, 240, .inl (fun _ => 0))) :: (bV G a2 V0 ++ []))) := I
  refine lv_aload_n hx hb dX6_init_24 rfl (lv_at hl 0 rfl) ?_
  refine lv_iconst (v := 0) hx hb dX6_init_25 (by decide) ?_
  refine r_put0 (fs1 := [.ref (a2 0), .ref q3, .int 0, .int 0, .int 0, .int 0, .int 0]) kfX6 XX I rfl 2 (by decide) wd_133 rfl rfl rfl (Nat.le_of_ble_eq_true rfl) rfl dX6_init_26 (fun H locs I => ?_)
  replace I : Iv G _ s0 H _ ((b, .inr (6, [.ref (a2 0), .ref q3, .int 0, .int 0, .int 0, .int 0, .int 0])) :: ((q3, .inl (G.2.1 0, 240, .inl (fun _ => 0))) :: (bV G a2 V0 ++ []))) := I
  refine lv_aload_n hx hb dX6_init_29 rfl (lv_at hl 0 rfl) ?_
  refine lv_iconst (v := 0) hx hb dX6_init_30 (by decide) ?_
  refine r_put0 (fs1 := [.ref (a2 0), .ref q3, .int 0, .int 0, .int 0, .int 0, .int 0]) kfX6 XX I rfl 3 (by decide) wd_134 rfl rfl rfl (Nat.le_of_ble_eq_true rfl) rfl dX6_init_31 (fun H locs I => ?_)
  replace I : Iv G _ s0 H _ ((b, .inr (6, [.ref (a2 0), .ref q3, .int 0, .int 0, .int 0, .int 0, .int 0])) :: ((q3, .inl (G.2.1 0, 240, .inl (fun _ => 0))) :: (bV G a2 V0 ++ []))) := I
  refine lv_aload_n hx hb dX6_init_34 rfl (lv_at hl 0 rfl) ?_
  refine lv_iconst (v := 0) hx hb dX6_init_35 (by decide) ?_
  refine r_put0 (fs1 := [.ref (a2 0), .ref q3, .int 0, .int 0, .int 0, .int 0, .int 0]) kfX6 XX I rfl 4 (by decide) wd_135 rfl rfl rfl (Nat.le_of_ble_eq_true rfl) rfl dX6_init_36 (fun H locs I => ?_)
  replace I : Iv G _ s0 H _ ((b, .inr (6, [.ref (a2 0), .ref q3, .int 0, .int 0, .int 0, .int 0, .int 0])) :: ((q3, .inl (G.2.1 0, 240, .inl (fun _ => 0))) :: (bV G a2 V0 ++ []))) := I
  refine lv_aload_n hx hb dX6_init_39 rfl (lv_at hl 0 rfl) ?_
  refine lv_iconst (v := 0) hx hb dX6_init_40 (by decide) ?_
  refine r_put0 (fs1 := [.ref (a2 0), .ref q3, .int 0, .int 0, .int 0, .int 0, .int 0]) kfX6 XX I rfl 5 (by decide) wd_136 rfl rfl rfl (Nat.le_of_ble_eq_true rfl) rfl dX6_init_41 (fun H locs I => ?_)
  replace I : Iv G _ s0 H _ ((b, .inr (6, [.ref (a2 0), .ref q3, .int 0, .int 0, .int 0, .int 0, .int 0])) :: ((q3, .inl (G.2.1 0, 240, .inl (fun _ => 0))) :: (bV G a2 V0 ++ []))) := I
  refine lv_aload_n hx hb dX6_init_44 rfl (lv_at hl 0 rfl) ?_
  refine lv_iconst (v := 0) hx hb dX6_init_45 (by decide) ?_
  refine r_put0 (fs1 := [.ref (a2 0), .ref q3, .int 0, .int 0, .int 0, .int 0, .int 0]) kfX6 XX I rfl 6 (by decide) wd_138 rfl rfl rfl (Nat.le_of_ble_eq_true rfl) rfl dX6_init_46 (fun H locs I => ?_)
  replace I : Iv G _ s0 H _ ((b, .inr (6, [.ref (a2 0), .ref q3, .int 0, .int 0, .int 0, .int 0, .int 0])) :: ((q3, .inl (G.2.1 0, 240, .inl (fun _ => 0))) :: (bV G a2 V0 ++ []))) := I
  replace I : Iv G _ s0 H _ (bT G (fun k : Nat => if k = 0 then b else q3) a2 s00 ++ (bV G a2 V0 ++ [])) := I.pick [0, 1, 2, 3, 4, 5, 6, 7, 8, 9, 10, 11, 12, 13, 14, 15, 16, 17, 18] (by decide +kernel) rfl
  exact e_c XX hr I ⟨(fun k : Nat => if k = 0 then b else q3), a2, rfl, rfl⟩ dX6_init_49
set_option maxRecDepth 100000 in
theorem i_X4_X4 (l : Launch) (G : g_G) (OK : EOk G.2.2) (hXC : HXC G) (b t : Nat) : HC l G yX4_init (Cond.code yX4_init cX4_init 2 none :: gT) { frames := 1, cells := 0, slots := 0, locals := 12 } [.ref b, .ref t] [(b, .inr (4, [.null, .int 0, .int 0]))] 0 0 (fun w1 => w1 = [(b, .inr (4, [.ref t, .int 0, .int 0]))]) := by
  refine HC.mk (lv := [(0, .ref b), (1, .ref t)]) OK (by decide) (Nat.le_of_ble_eq_true rfl) rfl rfl ?_
  intro p e s0 m args below meth c ls XX hnm hr I hl
  have hx := XX.x
  have hb := XX.b
  have E := hXC _ _ _ XX.E
  replace I : Iv G _ s0 s0.heap _ ((b, .inr (4, [.null, .int 0, .int 0])) :: []) := I
  refine lv_aload_n hx hb dX4_init_0 rfl (lv_at hl 0 rfl) ?_
  refine r_obj XX hl.1 wd_202 ⟨Nat.le_of_ble_eq_true rfl, Nat.le_of_ble_eq_true rfl⟩ dX4_init_1 ?_
  refine lv_aload_n hx hb dX4_init_4 rfl (lv_at hl 0 rfl) ?_
  refine lv_iconst (v := 0) hx hb dX4_init_5 (by decide) ?_
  refine r_put0 (fs1 := [.null, .int 0, .int 0]) kfX4 XX I rfl 1 (by decide) wd_214 rfl rfl rfl (Nat.le_of_ble_eq_true rfl) rfl dX4_init_6 (fun H locs I => ?_)
  replace I : Iv G _ s0 H _ ((b, .inr (4, [.null, .int 0, .int 0])) :: []) := I
  refine lv_aload_n hx hb dX4_init_9 rfl (lv_at hl 0 rfl) ?_
  refine lv_iconst (v := 0) hx hb dX4_init_10 (by decide) ?_
  refine r_put0 (fs1 := [.null, .int 0, .int 0]) kfX4 XX I rfl 2 (by decide) wd_222 rfl rfl rfl (Nat.le_of_ble_eq_true rfl) rfl dX4_init_11 (fun H locs I => ?_)
  replace I : Iv G _ s0 H _ ((b, .inr (4, [.null, .int 0, .int 0])) :: []) := I
  refine lv_aload_n hx hb dX4_init_14 rfl (lv_at hl 0 rfl) ?_
  refine lv_aload_n hx hb dX4_init_15 rfl (lv_at hl 1 rfl) ?_
  refine r_putF (fs1 := [.ref t, .int 0, .int 0]) kfX4 XX I rfl 0 (by decide) wd_203 rfl hnm rfl rfl rfl (Nat.le_of_ble_eq_true rfl) rfl dX4_init_16 (fun H locs I => ?_)
  replace I : Iv G _ s0 H _ ((b, .inr (4, [.ref t, .int 0, .int 0])) :: []) := I
  exact e_c XX hr I rfl dX4_init_19
set_option maxRecDepth 100000 in
theorem i_X4_X3 (l : Launch) (G : g_G) (OK : EOk G.2.2) (hXC : HXC G) (b t : Nat) : HC l G yX4_init (Cond.code yX4_init cX4_init 2 none :: gT) { frames := 1, cells := 0, slots := 0, locals := 12 } [.ref b, .ref t] [(b, .inr (3, [.null, .int 0, .int 0]))] 0 0 (fun w1 => w1 = [(b, .inr (3, [.ref t, .int 0, .int 0]))]) := by
  refine HC.mk (lv := [(0, .ref b), (1, .ref t)]) OK (by decide) (Nat.le_of_ble_eq_true rfl) rfl rfl ?_
  intro p e s0 m args below meth c ls XX hnm hr I hl
  have hx := XX.x
  have hb := XX.b
  have E := hXC _ _ _ XX.E
  replace I : Iv G _ s0 s0.heap _ ((b, .inr (3, [.null, .int 0, .int 0])) :: []) := I
  refine lv_aload_n hx hb dX4_init_0 rfl (lv_at hl 0 rfl) ?_
  refine r_obj XX hl.1 wd_202 ⟨Nat.le_of_ble_eq_true rfl, Nat.le_of_ble_eq_true rfl⟩ dX4_init_1 ?_
  refine lv_aload_n hx hb dX4_init_4 rfl (lv_at hl 0 rfl) ?_
  refine lv_iconst (v := 0) hx hb dX4_init_5 (by decide) ?_
  refine r_put0 (fs1 := [.null, .int 0, .int 0]) kfX3 XX I rfl 1 (by decide) wd_214 rfl rfl rfl (Nat.le_of_ble_eq_true rfl) rfl dX4_init_6 (fun H locs I => ?_)
  replace I : Iv G _ s0 H _ ((b, .inr (3, [.null, .int 0, .int 0])) :: []) := I
  refine lv_aload_n hx hb dX4_init_9 rfl (lv_at hl 0 rfl) ?_
  refine lv_iconst (v := 0) hx hb dX4_init_10 (by decide) ?_
  refine r_put0 (fs1 := [.null, .int 0, .int 0]) kfX3 XX I rfl 2 (by decide) wd_222 rfl rfl rfl (Nat.le_of_ble_eq_true rfl) rfl dX4_init_11 (fun H locs I => ?_)
  replace I : Iv G _ s0 H _ ((b, .inr (3, [.null, .int 0, .int 0])) :: []) := I
  refine lv_aload_n hx hb dX4_init_14 rfl (lv_at hl 0 rfl) ?_
  refine lv_aload_n hx hb dX4_init_15 rfl (lv_at hl 1 rfl) ?_
  refine r_putF (fs1 := [.ref t, .int 0, .int 0]) kfX3 XX I rfl 0 (by decide) wd_203 rfl hnm rfl rfl rfl (Nat.le_of_ble_eq_true rfl) rfl dX4_init_16 (fun H locs I => ?_)
  replace I : Iv G _ s0 H _ ((b, .inr (3, [.ref t, .int 0, .int 0])) :: []) := I
  exact e_c XX hr I rfl dX4_init_19
set_option maxRecDepth 100000 in
theorem i_X4_X1 (l : Launch) (G : g_G) (OK : EOk G.2.2) (hXC : HXC G) (b t : Nat) : HC l G yX4_init (Cond.code yX4_init cX4_init 2 none :: gT) { frames := 1, cells := 0, slots := 0, locals := 12 } [.ref b, .ref t] [(b, .inr (1, [.null, .int 0, .int 0]))] 0 0 (fun w1 => w1 = [(b, .inr (1, [.ref t, .int 0, .int 0]))]) := by
  refine HC.mk (lv := [(0, .ref b), (1, .ref t)]) OK (by decide) (Nat.le_of_ble_eq_true rfl) rfl rfl ?_
  intro p e s0 m args below meth c ls XX hnm hr I hl
  have hx := XX.x
  have hb := XX.b
  have E := hXC _ _ _ XX.E
  replace I : Iv G _ s0 s0.heap _ ((b, .inr (1, [.null, .int 0, .int 0])) :: []) := I
  refine lv_aload_n hx hb dX4_init_0 rfl (lv_at hl 0 rfl) ?_
  refine r_obj XX hl.1 wd_202 ⟨Nat.le_of_ble_eq_true rfl, Nat.le_of_ble_eq_true rfl⟩ dX4_init_1 ?_
  refine lv_aload_n hx hb dX4_init_4 rfl (lv_at hl 0 rfl) ?_
  refine lv_iconst (v := 0) hx hb dX4_init_5 (by decide) ?_
  refine r_put0 (fs1 := [.null, .int 0, .int 0]) kfX1 XX I rfl 1 (by decide) wd_214 rfl rfl rfl (Nat.le_of_ble_eq_true rfl) rfl dX4_init_6 (fun H locs I => ?_)
  replace I : Iv G _ s0 H _ ((b, .inr (1, [.null, .int 0, .int 0])) :: []) := I
  refine lv_aload_n hx hb dX4_init_9 rfl (lv_at hl 0 rfl) ?_
  refine lv_iconst (v := 0) hx hb dX4_init_10 (by decide) ?_
  refine r_put0 (fs1 := [.null, .int 0, .int 0]) kfX1 XX I rfl 2 (by decide) wd_222 rfl rfl rfl (Nat.le_of_ble_eq_true rfl) rfl dX4_init_11 (fun H locs I => ?_)
  replace I : Iv G _ s0 H _ ((b, .inr (1, [.null, .int 0, .int 0])) :: []) := I
  refine lv_aload_n hx hb dX4_init_14 rfl (lv_at hl 0 rfl) ?_
  refine lv_aload_n hx hb dX4_init_15 rfl (lv_at hl 1 rfl) ?_
  refine r_putF (fs1 := [.ref t, .int 0, .int 0]) kfX1 XX I rfl 0 (by decide) wd_203 rfl hnm rfl rfl rfl (Nat.le_of_ble_eq_true rfl) rfl dX4_init_16 (fun H locs I => ?_)
  replace I : Iv G _ s0 H _ ((b, .inr (1, [.ref t, .int 0, .int 0])) :: []) := I
  exact e_c XX hr I rfl dX4_init_19
set_option maxRecDepth 100000 in
theorem i_X4_X10 (l : Launch) (G : g_G) (OK : EOk G.2.2) (hXC : HXC G) (b t : Nat) : HC l G yX4_init (Cond.code yX4_init cX4_init 2 none :: gT) { frames := 1, cells := 0, slots := 0, locals := 12 } [.ref b, .ref t] [(b, .inr (10, [.null, .int 0, .int 0]))] 0 0 (fun w1 => w1 = [(b, .inr (10, [.ref t, .int 0, .int 0]))]) := by
  refine HC.mk (lv := [(0, .ref b), (1, .ref t)]) OK (by decide) (Nat.le_of_ble_eq_true rfl) rfl rfl ?_
  intro p e s0 m args below meth c ls XX hnm hr I hl
  have hx := XX.x
  have hb := XX.b
  have E := hXC _ _ _ XX.E
  replace I : Iv G _ s0 s0.heap _ ((b, .inr (10, [.null, .int 0, .int 0])) :: []) := I
  refine lv_aload_n hx hb dX4_init_0 rfl (lv_at hl 0 rfl) ?_
  refine r_obj XX hl.1 wd_202 ⟨Nat.le_of_ble_eq_true rfl, Nat.le_of_ble_eq_true rfl⟩ dX4_init_1 ?_
  refine lv_aload_n hx hb dX4_init_4 rfl (lv_at hl 0 rfl) ?_
  refine lv_iconst (v := 0) hx hb dX4_init_5 (by decide) ?_
  refine r_put0 (fs1 := [.null, .int 0, .int 0]) kfX10 XX I rfl 1 (by decide) wd_214 rfl rfl rfl (Nat.le_of_ble_eq_true rfl) rfl dX4_init_6 (fun H locs I => ?_)
  replace I : Iv G _ s0 H _ ((b, .inr (10, [.null, .int 0, .int 0])) :: []) := I
  refine lv_aload_n hx hb dX4_init_9 rfl (lv_at hl 0 rfl) ?_
  refine lv_iconst (v := 0) hx hb dX4_init_10 (by decide) ?_
  refine r_put0 (fs1 := [.null, .int 0, .int 0]) kfX10 XX I rfl 2 (by decide) wd_222 rfl rfl rfl (Nat.le_of_ble_eq_true rfl) rfl dX4_init_11 (fun H locs I => ?_)
  replace I : Iv G _ s0 H _ ((b, .inr (10, [.null, .int 0, .int 0])) :: []) := I
  refine lv_aload_n hx hb dX4_init_14 rfl (lv_at hl 0 rfl) ?_
  refine lv_aload_n hx hb dX4_init_15 rfl (lv_at hl 1 rfl) ?_
  refine r_putF (fs1 := [.ref t, .int 0, .int 0]) kfX10 XX I rfl 0 (by decide) wd_203 rfl hnm rfl rfl rfl (Nat.le_of_ble_eq_true rfl) rfl dX4_init_16 (fun H locs I => ?_)
  replace I : Iv G _ s0 H _ ((b, .inr (10, [.ref t, .int 0, .int 0])) :: []) := I
  exact e_c XX hr I rfl dX4_init_19
set_option maxRecDepth 100000 in
theorem i_X4_X2 (l : Launch) (G : g_G) (OK : EOk G.2.2) (hXC : HXC G) (b t : Nat) : HC l G yX4_init (Cond.code yX4_init cX4_init 2 none :: gT) { frames := 1, cells := 0, slots := 0, locals := 12 } [.ref b, .ref t] [(b, .inr (2, [.null, .int 0, .int 0]))] 0 0 (fun w1 => w1 = [(b, .inr (2, [.ref t, .int 0, .int 0]))]) := by
  refine HC.mk (lv := [(0, .ref b), (1, .ref t)]) OK (by decide) (Nat.le_of_ble_eq_true rfl) rfl rfl ?_
  intro p e s0 m args below meth c ls XX hnm hr I hl
  have hx := XX.x
  have hb := XX.b
  have E := hXC _ _ _ XX.E
  replace I : Iv G _ s0 s0.heap _ ((b, .inr (2, [.null, .int 0, .int 0])) :: []) := I
  refine lv_aload_n hx hb dX4_init_0 rfl (lv_at hl 0 rfl) ?_
  refine r_obj XX hl.1 wd_202 ⟨Nat.le_of_ble_eq_true rfl, Nat.le_of_ble_eq_true rfl⟩ dX4_init_1 ?_
  refine lv_aload_n hx hb dX4_init_4 rfl (lv_at hl 0 rfl) ?_
  refine lv_iconst (v := 0) hx hb dX4_init_5 (by decide) ?_
  refine r_put0 (fs1 := [.null, .int 0, .int 0]) kfX2 XX I rfl 1 (by decide) wd_214 rfl rfl rfl (Nat.le_of_ble_eq_true rfl) rfl dX4_init_6 (fun H locs I => ?_)
  replace I : Iv G _ s0 H _ ((b, .inr (2, [.null, .int 0, .int 0])) :: []) := I
  refine lv_aload_n hx hb dX4_init_9 rfl (lv_at hl 0 rfl) ?_
  refine lv_iconst (v := 0) hx hb dX4_init_10 (by decide) ?_
  refine r_put0 (fs1 := [.null, .int 0, .int 0]) kfX2 XX I rfl 2 (by decide) wd_222 rfl rfl rfl (Nat.le_of_ble_eq_true rfl) rfl dX4_init_11 (fun H locs I => ?_)
  replace I : Iv G _ s0 H _ ((b, .inr (2, [.null, .int 0, .int 0])) :: []) := I
  refine lv_aload_n hx hb dX4_init_14 rfl (lv_at hl 0 rfl) ?_
  refine lv_aload_n hx hb dX4_init_15 rfl (lv_at hl 1 rfl) ?_
  refine r_putF (fs1 := [.ref t, .int 0, .int 0]) kfX2 XX I rfl 0 (by decide) wd_203 rfl hnm rfl rfl rfl (Nat.le_of_ble_eq_true rfl) rfl dX4_init_16 (fun H locs I => ?_)
  replace I : Iv G _ s0 H _ ((b, .inr (2, [.ref t, .int 0, .int 0])) :: []) := I
  exact e_c XX hr I rfl dX4_init_19
set_option maxRecDepth 100000 in
theorem i_X4_X7 (l : Launch) (G : g_G) (OK : EOk G.2.2) (hXC : HXC G) (b t : Nat) : HC l G yX4_init (Cond.code yX4_init cX4_init 2 none :: gT) { frames := 1, cells := 0, slots := 0, locals := 12 } [.ref b, .ref t] [(b, .inr (7, [.null, .int 0, .int 0]))] 0 0 (fun w1 => w1 = [(b, .inr (7, [.ref t, .int 0, .int 0]))]) := by
  refine HC.mk (lv := [(0, .ref b), (1, .ref t)]) OK (by decide) (Nat.le_of_ble_eq_true rfl) rfl rfl ?_
  intro p e s0 m args below meth c ls XX hnm hr I hl
  have hx := XX.x
  have hb := XX.b
  have E := hXC _ _ _ XX.E
  replace I : Iv G _ s0 s0.heap _ ((b, .inr (7, [.null, .int 0, .int 0])) :: []) := I
  refine lv_aload_n hx hb dX4_init_0 rfl (lv_at hl 0 rfl) ?_
  refine r_obj XX hl.1 wd_202 ⟨Nat.le_of_ble_eq_true rfl, Nat.le_of_ble_eq_true rfl⟩ dX4_init_1 ?_
  refine lv_aload_n hx hb dX4_init_4 rfl (lv_at hl 0 rfl) ?_
  refine lv_iconst (v := 0) hx hb dX4_init_5 (by decide) ?_
  refine r_put0 (fs1 := [.null, .int 0, .int 0]) kfX7 XX I rfl 1 (by decide) wd_214 rfl rfl rfl (Nat.le_of_ble_eq_true rfl) rfl dX4_init_6 (fun H locs I => ?_)
  replace I : Iv G _ s0 H _ ((b, .inr (7, [.null, .int 0, .int 0])) :: []) := I
  refine lv_aload_n hx hb dX4_init_9 rfl (lv_at hl 0 rfl) ?_
  refine lv_iconst (v := 0) hx hb dX4_init_10 (by decide) ?_
  refine r_put0 (fs1 := [.null, .int 0, .int 0]) kfX7 XX I rfl 2 (by decide) wd_222 rfl rfl rfl (Nat.le_of_ble_eq_true rfl) rfl dX4_init_11 (fun H locs I => ?_)
  replace I : Iv G _ s0 H _ ((b, .inr (7, [.null, .int 0, .int 0])) :: []) := I
  refine lv_aload_n hx hb dX4_init_14 rfl (lv_at hl 0 rfl) ?_
  refine lv_aload_n hx hb dX4_init_15 rfl (lv_at hl 1 rfl) ?_
  refine r_putF (fs1 := [.ref t, .int 0, .int 0]) kfX7 XX I rfl 0 (by decide) wd_203 rfl hnm rfl rfl rfl (Nat.le_of_ble_eq_true rfl) rfl dX4_init_16 (fun H locs I => ?_)
  replace I : Iv G _ s0 H _ ((b, .inr (7, [.ref t, .int 0, .int 0])) :: []) := I
  exact e_c XX hr I rfl dX4_init_19
set_option maxRecDepth 100000 in
theorem i_X3_X3 (l : Launch) (G : g_G) (OK : EOk G.2.2) (hXC : HXC G) (b t : Nat) : HC l G yX3_init (Cond.code yX3_init cX3_init 2 none :: gT) { frames := 2, cells := 0, slots := 0, locals := 33 } [.ref b, .ref t] [(b, .inr (3, [.null, .int 0, .int 0]))] 0 0 (fun w1 => w1 = [(b, .inr (3, [.ref t, .int 0, .int 0]))]) := by
  refine HC.mk (lv := [(0, .ref b), (1, .ref t)]) OK (by decide) (Nat.le_of_ble_eq_true rfl) rfl rfl ?_
  intro p e s0 m args below meth c ls XX hnm hr I hl
  have hx := XX.x
  have hb := XX.b
  have E := hXC _ _ _ XX.E
  replace I : Iv G _ s0 s0.heap _ ((b, .inr (3, [.null, .int 0, .int 0])) :: []) := I
  refine lv_aload_n hx hb dX3_init_0 rfl (lv_at hl 0 rfl) ?_
  refine lv_aload_n hx hb dX3_init_1 rfl (lv_at hl 1 rfl) ?_
  refine call_c (cells1 := 0) (slots1 := 0) (X := []) (wc := [(b, .inr (3, [.null, .int 0, .int 0]))]) (n := 1) (rest := []) XX I hl.1 (i_X4_X3 l G OK hXC b t) wd_240 wd_200 wd_7 wd_201 (by decide +kernel) rfl rfl rfl (Nat.le_of_ble_eq_true rfl) ⟨rfl, rfl, Nat.le_of_ble_eq_true rfl, Nat.le_of_ble_eq_true rfl⟩ rfl rfl ⟨Nat.le_of_ble_eq_true rfl, Nat.le_of_ble_eq_true rfl⟩ dX3_init_2 (fun wz H locs hp J => ?_)
  clear I
  obtain rfl := hp
  have I : Iv G _ s0 H _ ((b, .inr (3, [.ref t, .int 0, .int 0])) :: []) := J
  clear J
  exact e_c XX hr I rfl dX3_init_5
set_option maxRecDepth 100000 in
theorem i_X3_X2 (l : Launch) (G : g_G) (OK : EOk G.2.2) (hXC : HXC G) (b t : Nat) : HC l G yX3_init (Cond.code yX3_init cX3_init 2 none :: gT) { frames := 2, cells := 0, slots := 0, locals := 33 } [.ref b, .ref t] [(b, .inr (2, [.null, .int 0, .int 0]))] 0 0 (fun w1 => w1 = [(b, .inr (2, [.ref t, .int 0, .int 0]))]) := by
  refine HC.mk (lv := [(0, .ref b), (1, .ref t)]) OK (by decide) (Nat.le_of_ble_eq_true rfl) rfl rfl ?_
  intro p e s0 m args below meth c ls XX hnm hr I hl
  have hx := XX.x
  have hb := XX.b
  have E := hXC _ _ _ XX.E
  replace I : Iv G _ s0 s0.heap _ ((b, .inr (2, [.null, .int 0, .int 0])) :: []) := I
  refine lv_aload_n hx hb dX3_init_0 rfl (lv_at hl 0 rfl) ?_
  refine lv_aload_n hx hb dX3_init_1 rfl (lv_at hl 1 rfl) ?_
  refine call_c (cells1 := 0) (slots1 := 0) (X := []) (wc := [(b, .inr (2, [.null, .int 0, .int 0]))]) (n := 1) (rest := []) XX I hl.1 (i_X4_X2 l G OK hXC b t) wd_240 wd_200 wd_7 wd_201 (by decide +kernel) rfl rfl rfl (Nat.le_of_ble_eq_true rfl) ⟨rfl, rfl, Nat.le_of_ble_eq_true rfl, Nat.le_of_ble_eq_true rfl⟩ rfl rfl ⟨Nat.le_of_ble_eq_true rfl, Nat.le_of_ble_eq_true rfl⟩ dX3_init_2 (fun wz H locs hp J => ?_)
  clear I
  obtain rfl := hp
  have I : Iv G _ s0 H _ ((b, .inr (2, [.ref t, .int 0, .int 0])) :: []) := J
  clear J
  exact e_c XX hr I rfl dX3_init_5
set_option maxRecDepth 100000 in
theorem i_X1_X1 (l : Launch) (G : g_G) (OK : EOk G.2.2) (hXC : HXC G) (b t : Nat) : HC l G yX1_init (Cond.code yX1_init cX1_init 2 none :: gT) { frames := 2, cells := 0, slots := 0, locals := 33 } [.ref b, .ref t] [(b, .inr (1, [.null, .int 0, .int 0]))] 0 0 (fun w1 => w1 = [(b, .inr (1, [.ref t, .int 0, .int 0]))]) := by
  refine HC.mk (lv := [(0, .ref b), (1, .ref t)]) OK (by decide) (Nat.le_of_ble_eq_true rfl) rfl rfl ?_
  intro p e s0 m args below meth c ls XX hnm hr I hl
  have hx := XX.x
  have hb := XX.b
  have E := hXC _ _ _ XX.E
  replace I : Iv G _ s0 s0.heap _ ((b, .inr (1, [.null, .int 0, .int 0])) :: []) := I
  refine lv_aload_n hx hb dX1_init_0 rfl (lv_at hl 0 rfl) ?_
  refine lv_aload_n hx hb dX1_init_1 rfl (lv_at hl 1 rfl) ?_
  refine call_c (cells1 := 0) (slots1 := 0) (X := []) (wc := [(b, .inr (1, [.null, .int 0, .int 0]))]) (n := 1) (rest := []) XX I hl.1 (i_X4_X1 l G OK hXC b t) wd_250 wd_200 wd_7 wd_201 (by decide +kernel) rfl rfl rfl (Nat.le_of_ble_eq_true rfl) ⟨rfl, rfl, Nat.le_of_ble_eq_true rfl, Nat.le_of_ble_eq_true rfl⟩ rfl rfl ⟨Nat.le_of_ble_eq_true rfl, Nat.le_of_ble_eq_true rfl⟩ dX1_init_2 (fun wz H locs hp J => ?_)
  clear I
  obtain rfl := hp
  have I : Iv G _ s0 H _ ((b, .inr (1, [.ref t, .int 0, .int 0])) :: []) := J
  clear J
  exact e_c XX hr I rfl dX1_init_5
set_option maxRecDepth 100000 in
theorem i_X1_X10 (l : Launch) (G : g_G) (OK : EOk G.2.2) (hXC : HXC G) (b t : Nat) : HC l G yX1_init (Cond.code yX1_init cX1_init 2 none :: gT) { frames := 2, cells := 0, slots := 0, locals := 33 } [.ref b, .ref t] [(b, .inr (10, [.null, .int 0, .int 0]))] 0 0 (fun w1 => w1 = [(b, .inr (10, [.ref t, .int 0, .int 0]))]) := by
  refine HC.mk (lv := [(0, .ref b), (1, .ref t)]) OK (by decide) (Nat.le_of_ble_eq_true rfl) rfl rfl ?_
  intro p e s0 m args below meth c ls XX hnm hr I hl
  have hx := XX.x
  have hb := XX.b
  have E := hXC _ _ _ XX.E
  replace I : Iv G _ s0 s0.heap _ ((b, .inr (10, [.null, .int 0, .int 0])) :: []) := I
  refine lv_aload_n hx hb dX1_init_0 rfl (lv_at hl 0 rfl) ?_
  refine lv_aload_n hx hb dX1_init_1 rfl (lv_at hl 1 rfl) ?_
  refine call_c (cells1 := 0) (slots1 := 0) (X := []) (wc := [(b, .inr (10, [.null, .int 0, .int 0]))]) (n := 1) (rest := []) XX I hl.1 (i_X4_X10 l G OK hXC b t) wd_250 wd_200 wd_7 wd_201 (by decide +kernel) rfl rfl rfl (Nat.le_of_ble_eq_true rfl) ⟨rfl, rfl, Nat.le_of_ble_eq_true rfl, Nat.le_of_ble_eq_true rfl⟩ rfl rfl ⟨Nat.le_of_ble_eq_true rfl, Nat.le_of_ble_eq_true rfl⟩ dX1_init_2 (fun wz H locs hp J => ?_)
  clear I
  obtain rfl := hp
  have I : Iv G _ s0 H _ ((b, .inr (10, [.ref t, .int 0, .int 0])) :: []) := J
  clear J
  exact e_c XX hr I rfl dX1_init_5
set_option maxRecDepth 100000 in
theorem i_X7_X7 (l : Launch) (G : g_G) (OK : EOk G.2.2) (hXC : HXC G) (b t : Nat) : HC l G yX7_init (Cond.code yX7_init cX7_init 2 none :: gT) { frames := 2, cells := 0, slots := 0, locals := 33 } [.ref b, .ref t] [(b, .inr (7, [.null, .int 0, .int 0]))] 0 0 (fun w1 => w1 = [(b, .inr (7, [.ref t, .int 0, .int 0]))]) := by
  refine HC.mk (lv := [(0, .ref b), (1, .ref t)]) OK (by decide) (Nat.le_of_ble_eq_true rfl) rfl rfl ?_
  intro p e s0 m args below meth c ls XX hnm hr I hl
  have hx := XX.x
  have hb := XX.b
  have E := hXC _ _ _ XX.E
  replace I : Iv G _ s0 s0.heap _ ((b, .inr (7, [.null, .int 0, .int 0])) :: []) := I
  refine lv_aload_n hx hb dX7_init_0 rfl (lv_at hl 0 rfl) ?_
  refine lv_aload_n hx hb dX7_init_1 rfl (lv_at hl 1 rfl) ?_
  refine call_c (cells1 := 0) (slots1 := 0) (X := []) (wc := [(b, .inr (7, [.null, .int 0, .int 0]))]) (n := 1) (rest := []) XX I hl.1 (i_X4_X7 l G OK hXC b t) wd_280 wd_200 wd_7 wd_201 (by decide +kernel) rfl rfl rfl (Nat.le_of_ble_eq_true rfl) ⟨rfl, rfl, Nat.le_of_ble_eq_true rfl, Nat.le_of_ble_eq_true rfl⟩ rfl rfl ⟨Nat.le_of_ble_eq_true rfl, Nat.le_of_ble_eq_true rfl⟩ dX7_init_2 (fun wz H locs hp J => ?_)
  clear I
  obtain rfl := hp
  have I : Iv G _ s0 H _ ((b, .inr (7, [.ref t, .int 0, .int 0])) :: []) := J
  clear J
  exact e_c XX hr I rfl dX7_init_5
set_option maxRecDepth 100000 in
theorem i_X10_X10 (l : Launch) (G : g_G) (OK : EOk G.2.2) (hXC : HXC G) (b t : Nat) : HC l G yX10_init (Cond.code yX10_init cX10_init 2 none :: gT) { frames := 3, cells := 0, slots := 0, locals := 54 } [.ref b, .ref t] [(b, .inr (10, [.null, .int 0, .int 0]))] 0 0 (fun w1 => w1 = [(b, .inr (10, [.ref t, .int 0, .int 0]))]) := by
  refine HC.mk (lv := [(0, .ref b), (1, .ref t)]) OK (by decide) (Nat.le_of_ble_eq_true rfl) rfl rfl ?_
  intro p e s0 m args below meth c ls XX hnm hr I hl
  have hx := XX.x
  have hb := XX.b
  have E := hXC _ _ _ XX.E
  replace I : Iv G _ s0 s0.heap _ ((b, .inr (10, [.null, .int 0, .int 0])) :: []) := I
  refine lv_aload_n hx hb dX10_init_0 rfl (lv_at hl 0 rfl) ?_
  refine lv_aload_n hx hb dX10_init_1 rfl (lv_at hl 1 rfl) ?_
  refine call_c (cells1 := 0) (slots1 := 0) (X := []) (wc := [(b, .inr (10, [.null, .int 0, .int 0]))]) (n := 1) (rest := []) XX I hl.1 (i_X1_X10 l G OK hXC b t) wd_260 wd_248 wd_9 wd_249 (by decide +kernel) rfl rfl rfl (Nat.le_of_ble_eq_true rfl) ⟨rfl, rfl, Nat.le_of_ble_eq_true rfl, Nat.le_of_ble_eq_true rfl⟩ rfl rfl ⟨Nat.le_of_ble_eq_true rfl, Nat.le_of_ble_eq_true rfl⟩ dX10_init_2 (fun wz H locs hp J => ?_)
  clear I
  obtain rfl := hp
  have I : Iv G _ s0 H _ ((b, .inr (10, [.ref t, .int 0, .int 0])) :: []) := J
  clear J
  exact e_c XX hr I rfl dX10_init_5
set_option maxRecDepth 100000 in
theorem i_X2_X2 (l : Launch) (G : g_G) (OK : EOk G.2.2) (hXC : HXC G) (b t : Nat) : HC l G yX2_init (Cond.code yX2_init cX2_init 2 none :: gT) { frames := 3, cells := 0, slots := 0, locals := 54 } [.ref b, .ref t] [(b, .inr (2, [.null, .int 0, .int 0]))] 0 0 (fun w1 => w1 = [(b, .inr (2, [.ref t, .int 0, .int 0]))]) := by
  refine HC.mk (lv := [(0, .ref b), (1, .ref t)]) OK (by decide) (Nat.le_of_ble_eq_true rfl) rfl rfl ?_
  intro p e s0 m args below meth c ls XX hnm hr I hl
  have hx := XX.x
  have hb := XX.b
  have E := hXC _ _ _ XX.E
  replace I : Iv G _ s0 s0.heap _ ((b, .inr (2, [.null, .int 0, .int 0])) :: []) := I
  refine lv_aload_n hx hb dX2_init_0 rfl (lv_at hl 0 rfl) ?_
  refine lv_aload_n hx hb dX2_init_1 rfl (lv_at hl 1 rfl) ?_
  refine call_c (cells1 := 0) (slots1 := 0) (X := []) (wc := [(b, .inr (2, [.null, .int 0, .int 0]))]) (n := 1) (rest := []) XX I hl.1 (i_X3_X2 l G OK hXC b t) wd_270 wd_238 wd_8 wd_239 (by decide +kernel) rfl rfl rfl (Nat.le_of_ble_eq_true rfl) ⟨rfl, rfl, Nat.le_of_ble_eq_true rfl, Nat.le_of_ble_eq_true rfl⟩ rfl rfl ⟨Nat.le_of_ble_eq_true rfl, Nat.le_of_ble_eq_true rfl⟩ dX2_init_2 (fun wz H locs hp J => ?_)
  clear I
  obtain rfl := hp
  have I : Iv G _ s0 H _ ((b, .inr (2, [.ref t, .int 0, .int 0])) :: []) := J
  clear J
  exact e_c XX hr I rfl dX2_init_5
