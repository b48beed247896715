theorem r_getS {p : Program} {l : Launch} {e : Env} {R : Room} {s : State} {m : MethodId} {args : Array Value} {below : List Frame} {meth : Method} {c : Code} {H : Heap} {locs : List Loc} {cells slots : Nat} {Q : State → Prop} {cc : ByteArray} {nL pc : Nat} {ls : Array Slot} {rest : List Value} {G : g_G} {A : Nat → Prop} {own : String} {w : va_W} {C ref : String} {T : u_T} {N ci index : Nat} {ty0 : Nat → FieldType} (F : KF C T N ci ty0) (XX : Cx G A p s m meth c cc nL own args) (I : Iv G A s H locs w) (q0 : Nat) {a : Addr} {fs : List Value} (he : w[q0]? = some (a, .inr (ci, fs))) (k : Nat) (hk : k < N) (hlink : Cond.fieldLink own index ref (T k).2.1 (T k).2.2.1 ∈ gT) (hsm : Cond.sameField ref (T k).1 (T k).2.1 (T k).2.2.1 ∈ gT) {v : Value} (hv : fs[k]? = some v) (hdg : decode cc pc = .ok (.getfield index, 3))
    (kk : W p l e R s m args below meth c H locs cells slots Q (F0 m (pc + 3) ls (v :: rest))) : W p l e R s m args below meth c H locs cells slots Q (F0 m pc ls (.ref a :: rest)) :=
  va_get (T := T) (N := N) (ci := ci) XX.x XX.b XX.t F.1 XX.o XX.K I.1 q0 he F.2.1 k hk (XX.t _ hlink) (fun x h => u_same (XX.t _ hsm) x h) hv hdg kk
theorem Cx.at {G : g_G} {A : Nat → Prop} {p : Program} {s : State} {m : MethodId} {meth : Method} {c : Code} {cc : ByteArray} {nL : Nat} {own : String} {args : Array Value} (XX : Cx G A p s m meth c cc nL own args) (k : Nat) {q : vw_C} (h : vwCl[k]? = some q) : ClassAt s q.1 (G.1.1 k) := (XX.K.1 k q h).2
def bS (G : g_G) (ad : Nat → Nat) (s : g_St) : va_W := [(ad 0, .inr (5, [.int (gi s 0), .int (gi s 1), .ref (ad 2)])), (ad 2, .inl (G.2.1 0, 40, .inl (gr s 2)))]
def bH (G : g_G) (sd : Nat → Nat → Nat) (h : g_Sf) : va_W := (bS G (sd 0) (h 0) ++ (bS G (sd 1) (h 1) ++ (bS G (sd 2) (h 2) ++ (bS G (sd 3) (h 3) ++ []))))
def bK (G : g_G) (ad : Nat → Nat) (s : g_St) : va_W := [(ad 0, .inr (8, [.ref (ad 2), .int (gi s 1), .int (gi s 2)])), (ad 2, .inl (G.2.1 0, 30, .inl (gr s 0)))]
def bY (G : g_G) (ad : Nat → Nat) (tr : Nat → Nat) (s : g_St) : va_W := [(ad 0, .inr (4, [.ref (tr 0), .int (gi s 0), .int (gi s 10)])), (ad 1, .inr (3, [.ref (tr 0), .int (gi s 1), .int (gi s 11)])), (ad 2, .inr (1, [.ref (tr 0), .int (gi s 2), .int (gi s 12)])), (ad 3, .inr (10, [.ref (tr 0), .int (gi s 3), .int (gi s 13)])), (ad 4, .inr (2, [.ref (tr 0), .int (gi s 4), .int (gi s 14)])), (ad 5, .inr (7, [.ref (tr 0), .int (gi s 5), .int (gi s 15)]))]
theorem kfX5 : KF RX5 TX5 3 5 tyX5 := ⟨fun w h => by
  have q : u_ws RX5 TX5 3 = [u_lay RX5 TX5 0, u_lay RX5 TX5 1, u_lay RX5 TX5 2] := rfl
  rw [q] at h
  exact (List.forall_mem_cons.mpr ⟨wd_170, List.forall_mem_cons.mpr ⟨wd_172, List.forall_mem_cons.mpr ⟨wd_174, fun _ h => absurd h List.not_mem_nil⟩⟩⟩) w h, rfl, tyX5_ok, nmX5⟩
theorem kfX8 : KF RX8 TX8 3 8 tyX8 := ⟨fun w h => by
  have q : u_ws RX8 TX8 3 = [u_lay RX8 TX8 0, u_lay RX8 TX8 1, u_lay RX8 TX8 2] := rfl
  rw [q] at h
  exact (List.forall_mem_cons.mpr ⟨wd_191, List.forall_mem_cons.mpr ⟨wd_193, List.forall_mem_cons.mpr ⟨wd_195, fun _ h => absurd h List.not_mem_nil⟩⟩⟩) w h, rfl, tyX8_ok, nmX8⟩
theorem kfX4 : KF RX4 TX4 3 4 tyX4 := ⟨fun w h => by
  have q : u_ws RX4 TX4 3 = [u_lay RX4 TX4 0, u_lay RX4 TX4 1, u_lay RX4 TX4 2] := rfl
  rw [q] at h
  exact (List.forall_mem_cons.mpr ⟨wd_228, List.forall_mem_cons.mpr ⟨wd_230, List.forall_mem_cons.mpr ⟨wd_232, fun _ h => absurd h List.not_mem_nil⟩⟩⟩) w h, rfl, tyX4_ok, nmX4⟩
theorem kfX3 : KF RX3 TX3 3 3 tyX3 := ⟨fun w h => by
  have q : u_ws RX3 TX3 3 = [u_lay RX3 TX3 0, u_lay RX3 TX3 1, u_lay RX3 TX3 2] := rfl
  rw [q] at h
  exact (List.forall_mem_cons.mpr ⟨wd_241, List.forall_mem_cons.mpr ⟨wd_242, List.forall_mem_cons.mpr ⟨wd_243, fun _ h => absurd h List.not_mem_nil⟩⟩⟩) w h, rfl, tyX3_ok, nmX3⟩
theorem kfX1 : KF RX1 TX1 3 1 tyX1 := ⟨fun w h => by
  have q : u_ws RX1 TX1 3 = [u_lay RX1 TX1 0, u_lay RX1 TX1 1, u_lay RX1 TX1 2] := rfl
  rw [q] at h
  exact (List.forall_mem_cons.mpr ⟨wd_251, List.forall_mem_cons.mpr ⟨wd_252, List.forall_mem_cons.mpr ⟨wd_253, fun _ h => absurd h List.not_mem_nil⟩⟩⟩) w h, rfl, tyX1_ok, nmX1⟩
theorem kfX10 : KF RX10 TX10 3 10 tyX10 := ⟨fun w h => by
  have q : u_ws RX10 TX10 3 = [u_lay RX10 TX10 0, u_lay RX10 TX10 1, u_lay RX10 TX10 2] := rfl
  rw [q] at h
  exact (List.forall_mem_cons.mpr ⟨wd_261, List.forall_mem_cons.mpr ⟨wd_262, List.forall_mem_cons.mpr ⟨wd_263, fun _ h => absurd h List.not_mem_nil⟩⟩⟩) w h, rfl, tyX10_ok, nmX10⟩
theorem kfX2 : KF RX2 TX2 3 2 tyX2 := ⟨fun w h => by
  have q : u_ws RX2 TX2 3 = [u_lay RX2 TX2 0, u_lay RX2 TX2 1, u_lay RX2 TX2 2] := rfl
  rw [q] at h
  exact (List.forall_mem_cons.mpr ⟨wd_271, List.forall_mem_cons.mpr ⟨wd_272, List.forall_mem_cons.mpr ⟨wd_273, fun _ h => absurd h List.not_mem_nil⟩⟩⟩) w h, rfl, tyX2_ok, nmX2⟩
theorem kfX7 : KF RX7 TX7 3 7 tyX7 := ⟨fun w h => by
  have q : u_ws RX7 TX7 3 = [u_lay RX7 TX7 0, u_lay RX7 TX7 1, u_lay RX7 TX7 2] := rfl
  rw [q] at h
  exact (List.forall_mem_cons.mpr ⟨wd_281, List.forall_mem_cons.mpr ⟨wd_282, List.forall_mem_cons.mpr ⟨wd_283, fun _ h => absurd h List.not_mem_nil⟩⟩⟩) w h, rfl, tyX7_ok, nmX7⟩
noncomputable def f_H_become_L12 (fu : Nat) (q : Nat) : Nat → g_Sf → Nat → Int32 → Option (g_Sf)
  | 0, _, _, _ => none
  | n + 1, hh, w0, v3 => if (40 : Int32) ≤ v3 then (some hh) else (gd (vp_in v3 40) (lt (ups hh w0 (sr (hh w0) 2 v3 (0 : Int32))) fun s4 => lt (v3 + (1 : Int32)) fun y5 => f_H_become_L12 fu q n s4 w0 y5))
noncomputable def f_H_become (fu : Nat) (q : Nat) (hha : g_Sf) (x1 : Int32) (x2 : Int32) : Option (g_Sf) :=
  lt (ups hha q (si (hha q) 0 x1)) fun s1 => lt (ups s1 q (si (s1 q) 1 x2)) fun s2 => f_H_become_L12 fu q fu s2 q (0 : Int32)
def f_K_clear (tra : g_St) : g_St :=
  lt (si tra 1 (0 : Int32)) fun s1 => lt (si s1 2 (0 : Int32)) fun s2 => s2
noncomputable def f_K_begin (tra : g_St) (x1 : Int32) : Option (g_St) :=
  if (30 : Int32) ≤ (gi tra 1) then (some tra) else (gd (vp_in (gi tra 1) 30) (lt (sr tra 0 (gi tra 1) x1) fun s2 => lt (((gi s2 1) + (1 : Int32))) fun y3 => lt (si s2 1 y3) fun s4 => some s4))
noncomputable def f_Y0_Sayer_bars (tha : g_St) (tra : g_St) (x1 : Int32) : Option (Int32 × g_St) :=
  bd1 (f_K_begin tra (10 : Int32)) fun s1 => some ((x1 + (gi tha 0)), s1)
noncomputable def f_Y0_Sayer_waits (tha : g_St) (tra : g_St) (x1 : Int32) : Option (Int32 × g_St) :=
  bd1 (f_K_begin tra (11 : Int32)) fun s1 => bd2 (f_Y0_Sayer_bars tha s1 x1) fun r4 s5 => some ((r4 * (2 : Int32)), s5)
noncomputable def f_Y0_Sayer_shares (tha : g_St) (tra : g_St) (x1 : Int32) : Option (Int32 × g_St) :=
  bd1 (f_K_begin tra (12 : Int32)) fun s1 => if (gi tha 10) = (gi tha 0) then (lt (si s1 2 (1 : Int32)) fun s5 => some ((0 : Int32), s5)) else (gd (¬ ((gi tha 10) - (gi tha 0)) = 0) (some ((x1 / ((gi tha 10) - (gi tha 0))), s1)))
noncomputable def f_Y0_Sayer_tells (tha : g_St) (tra : g_St) (x1 : Int32) : Option (Int32 × g_St) :=
  bd1 (f_K_begin tra (13 : Int32)) fun s1 => bd2 (f_Y0_Sayer_waits tha s1 x1) fun r4 s5 => some ((r4 ^^^ (gi tha 10)), s5)
noncomputable def f_Y1_Sayer_bars (tha : g_St) (tra : g_St) (x1 : Int32) : Option (Int32 × g_St) :=
  bd1 (f_K_begin tra (10 : Int32)) fun s1 => some ((x1 + (gi tha 1)), s1)
noncomputable def f_Y1_Sayer_waits (tha : g_St) (tra : g_St) (x1 : Int32) : Option (Int32 × g_St) :=
  bd1 (f_K_begin tra (11 : Int32)) fun s1 => bd2 (f_Y1_Sayer_bars tha s1 x1) fun r4 s5 => some ((r4 * (2 : Int32)), s5)
noncomputable def f_Y1_Quick_waits (tha : g_St) (tra : g_St) (x1 : Int32) : Option (Int32 × g_St) :=
  bd1 (f_K_begin tra (20 : Int32)) fun s1 => bd2 (f_Y1_Sayer_waits tha s1 x1) fun r4 s5 => some ((r4 - (gi tha 11)), s5)
noncomputable def f_Y1_Sayer_shares (tha : g_St) (tra : g_St) (x1 : Int32) : Option (Int32 × g_St) :=
  bd1 (f_K_begin tra (12 : Int32)) fun s1 => if (gi tha 11) = (gi tha 1) then (lt (si s1 2 (1 : Int32)) fun s5 => some ((0 : Int32), s5)) else (gd (¬ ((gi tha 11) - (gi tha 1)) = 0) (some ((x1 / ((gi tha 11) - (gi tha 1))), s1)))
noncomputable def f_Y1_Sayer_tells (tha : g_St) (tra : g_St) (x1 : Int32) : Option (Int32 × g_St) :=
  bd1 (f_K_begin tra (13 : Int32)) fun s1 => bd2 (f_Y1_Quick_waits tha s1 x1) fun r4 s5 => some ((r4 ^^^ (gi tha 11)), s5)
noncomputable def f_Y2_Sayer_bars (tha : g_St) (tra : g_St) (x1 : Int32) : Option (Int32 × g_St) :=
  bd1 (f_K_begin tra (10 : Int32)) fun s1 => some ((x1 + (gi tha 2)), s1)
noncomputable def f_Y2_Bar_bars (tha : g_St) (tra : g_St) (x1 : Int32) : Option (Int32 × g_St) :=
  bd1 (f_K_begin tra (30 : Int32)) fun s1 => bd2 (f_Y2_Sayer_bars tha s1 x1) fun r4 s5 => some ((r4 * (3 : Int32)), s5)
noncomputable def f_Y2_Sayer_waits (tha : g_St) (tra : g_St) (x1 : Int32) : Option (Int32 × g_St) :=
  bd1 (f_K_begin tra (11 : Int32)) fun s1 => bd2 (f_Y2_Bar_bars tha s1 x1) fun r4 s5 => some ((r4 * (2 : Int32)), s5)
noncomputable def f_Y2_Sayer_shares (tha : g_St) (tra : g_St) (x1 : Int32) : Option (Int32 × g_St) :=
  bd1 (f_K_begin tra (12 : Int32)) fun s1 => if (gi tha 12) = (gi tha 2) then (lt (si s1 2 (1 : Int32)) fun s5 => some ((0 : Int32), s5)) else (gd (¬ ((gi tha 12) - (gi tha 2)) = 0) (some ((x1 / ((gi tha 12) - (gi tha 2))), s1)))
noncomputable def f_Y2_Sayer_tells (tha : g_St) (tra : g_St) (x1 : Int32) : Option (Int32 × g_St) :=
  bd1 (f_K_begin tra (13 : Int32)) fun s1 => bd2 (f_Y2_Sayer_waits tha s1 x1) fun r4 s5 => some ((r4 ^^^ (gi tha 12)), s5)
noncomputable def f_Y2_Bar_tells (tha : g_St) (tra : g_St) (x1 : Int32) : Option (Int32 × g_St) :=
  bd1 (f_K_begin tra (31 : Int32)) fun s1 => bd2 (f_Y2_Sayer_tells tha s1 x1) fun r4 s5 => bd2 (f_Y2_Sayer_shares tha s5 (gi tha 2)) fun r8 s9 => some ((r4 + r8), s9)
noncomputable def f_Y3_Sayer_bars (tha : g_St) (tra : g_St) (x1 : Int32) : Option (Int32 × g_St) :=
  bd1 (f_K_begin tra (10 : Int32)) fun s1 => some ((x1 + (gi tha 3)), s1)
noncomputable def f_Y3_Bar_bars (tha : g_St) (tra : g_St) (x1 : Int32) : Option (Int32 × g_St) :=
  bd1 (f_K_begin tra (30 : Int32)) fun s1 => bd2 (f_Y3_Sayer_bars tha s1 x1) fun r4 s5 => some ((r4 * (3 : Int32)), s5)
noncomputable def f_Y3_Wait_bars (tha : g_St) (tra : g_St) (x1 : Int32) : Option (Int32 × g_St) :=
  bd1 (f_K_begin tra (40 : Int32)) fun s1 => bd2 (f_Y3_Bar_bars tha s1 x1) fun r4 s5 => some (((0 : Int32) - r4), s5)
noncomputable def f_Y3_Sayer_waits (tha : g_St) (tra : g_St) (x1 : Int32) : Option (Int32 × g_St) :=
  bd1 (f_K_begin tra (11 : Int32)) fun s1 => bd2 (f_Y3_Wait_bars tha s1 x1) fun r4 s5 => some ((r4 * (2 : Int32)), s5)
noncomputable def f_Y3_Wait_waits (tha : g_St) (tra : g_St) (x1 : Int32) : Option (Int32 × g_St) :=
  bd1 (f_K_begin tra (41 : Int32)) fun s1 => bd2 (f_Y3_Sayer_waits tha s1 x1) fun r4 s5 => bd2 (f_Y3_Wait_bars tha s5 (gi tha 3)) fun r8 s9 => some ((r4 + r8), s9)
noncomputable def f_Y3_Sayer_shares (tha : g_St) (tra : g_St) (x1 : Int32) : Option (Int32 × g_St) :=
  bd1 (f_K_begin tra (12 : Int32)) fun s1 => if (gi tha 13) = (gi tha 3) then (lt (si s1 2 (1 : Int32)) fun s5 => some ((0 : Int32), s5)) else (gd (¬ ((gi tha 13) - (gi tha 3)) = 0) (some ((x1 / ((gi tha 13) - (gi tha 3))), s1)))
noncomputable def f_Y3_Sayer_tells (tha : g_St) (tra : g_St) (x1 : Int32) : Option (Int32 × g_St) :=
  bd1 (f_K_begin tra (13 : Int32)) fun s1 => bd2 (f_Y3_Wait_waits tha s1 x1) fun r4 s5 => some ((r4 ^^^ (gi tha 13)), s5)
noncomputable def f_Y3_Bar_tells (tha : g_St) (tra : g_St) (x1 : Int32) : Option (Int32 × g_St) :=
  bd1 (f_K_begin tra (31 : Int32)) fun s1 => bd2 (f_Y3_Sayer_tells tha s1 x1) fun r4 s5 => bd2 (f_Y3_Sayer_shares tha s5 (gi tha 3)) fun r8 s9 => some ((r4 + r8), s9)
noncomputable def f_Y4_Sayer_bars (tha : g_St) (tra : g_St) (x1 : Int32) : Option (Int32 × g_St) :=
  bd1 (f_K_begin tra (10 : Int32)) fun s1 => some ((x1 + (gi tha 4)), s1)
noncomputable def f_Y4_League_bars (tha : g_St) (tra : g_St) (x1 : Int32) : Option (Int32 × g_St) :=
  bd1 (f_K_begin tra (51 : Int32)) fun s1 => bd2 (f_Y4_Sayer_bars tha s1 x1) fun r4 s5 => some ((r4 - (gi tha 4)), s5)
noncomputable def f_Y4_Sayer_waits (tha : g_St) (tra : g_St) (x1 : Int32) : Option (Int32 × g_St) :=
  bd1 (f_K_begin tra (11 : Int32)) fun s1 => bd2 (f_Y4_League_bars tha s1 x1) fun r4 s5 => some ((r4 * (2 : Int32)), s5)
noncomputable def f_Y4_Quick_waits (tha : g_St) (tra : g_St) (x1 : Int32) : Option (Int32 × g_St) :=
  bd1 (f_K_begin tra (20 : Int32)) fun s1 => bd2 (f_Y4_Sayer_waits tha s1 x1) fun r4 s5 => some ((r4 - (gi tha 14)), s5)
noncomputable def f_Y4_Sayer_shares (tha : g_St) (tra : g_St) (x1 : Int32) : Option (Int32 × g_St) :=
  bd1 (f_K_begin tra (12 : Int32)) fun s1 => if (gi tha 14) = (gi tha 4) then (lt (si s1 2 (1 : Int32)) fun s5 => some ((0 : Int32), s5)) else (gd (¬ ((gi tha 14) - (gi tha 4)) = 0) (some ((x1 / ((gi tha 14) - (gi tha 4))), s1)))
noncomputable def f_Y4_League_shares (tha : g_St) (tra : g_St) (x1 : Int32) : Option (Int32 × g_St) :=
  bd1 (f_K_begin tra (50 : Int32)) fun s1 => bd2 (f_Y4_Sayer_shares tha s1 (x1 + (2 : Int32))) fun r4 s5 => some ((r4 ^^^ (1 : Int32)), s5)
noncomputable def f_Y4_Sayer_tells (tha : g_St) (tra : g_St) (x1 : Int32) : Option (Int32 × g_St) :=
  bd1 (f_K_begin tra (13 : Int32)) fun s1 => bd2 (f_Y4_Quick_waits tha s1 x1) fun r4 s5 => some ((r4 ^^^ (gi tha 14)), s5)
noncomputable def f_Y5_Sayer_bars (tha : g_St) (tra : g_St) (x1 : Int32) : Option (Int32 × g_St) :=
  bd1 (f_K_begin tra (10 : Int32)) fun s1 => some ((x1 + (gi tha 5)), s1)
noncomputable def f_Y5_Sayer_waits (tha : g_St) (tra : g_St) (x1 : Int32) : Option (Int32 × g_St) :=
  bd1 (f_K_begin tra (11 : Int32)) fun s1 => bd2 (f_Y5_Sayer_bars tha s1 x1) fun r4 s5 => some ((r4 * (2 : Int32)), s5)
noncomputable def f_Y5_Sayer_shares (tha : g_St) (tra : g_St) (x1 : Int32) : Option (Int32 × g_St) :=
  bd1 (f_K_begin tra (12 : Int32)) fun s1 => if (gi tha 15) = (gi tha 5) then (lt (si s1 2 (1 : Int32)) fun s5 => some ((0 : Int32), s5)) else (gd (¬ ((gi tha 15) - (gi tha 5)) = 0) (some ((x1 / ((gi tha 15) - (gi tha 5))), s1)))
noncomputable def f_Y5_Told_shares (tha : g_St) (tra : g_St) (x1 : Int32) : Option (Int32 × g_St) :=
  bd1 (f_K_begin tra (61 : Int32)) fun s1 => bd2 (f_Y5_Sayer_shares tha s1 x1) fun r4 s5 => if (gi s5 2) = 0 then (bd2 (f_Y5_Sayer_bars tha s5 (gi tha 15)) fun r8 s9 => some ((r4 + r8), s9)) else (some ((0 : Int32), s5))
noncomputable def f_Y5_Sayer_tells (tha : g_St) (tra : g_St) (x1 : Int32) : Option (Int32 × g_St) :=
  bd1 (f_K_begin tra (13 : Int32)) fun s1 => bd2 (f_Y5_Sayer_waits tha s1 x1) fun r4 s5 => some ((r4 ^^^ (gi tha 15)), s5)
noncomputable def f_Y5_Told_tells (tha : g_St) (tra : g_St) (x1 : Int32) : Option (Int32 × g_St) :=
  bd1 (f_K_begin tra (60 : Int32)) fun s1 => bd2 (f_Y5_Sayer_tells tha s1 x1) fun r4 s5 => some ((r4 * (2 : Int32)), s5)
