def bA (G : g_G) (ad : Nat → Nat) (v : Nat → Nat) (s : g_St) : va_W := [(ad 0, .inr (0, [.ref (v 0), .ref (ad 2), .int (gi s 2)])), (ad 2, .inl (G.2.1 1, 4, .inr (.inl (gt s 1))))]
theorem kfX0 : KF RX0 TX0 3 0 tyX0 := ⟨fun w h => by
  have q : u_ws RX0 TX0 3 = [u_lay RX0 TX0 0, u_lay RX0 TX0 1, u_lay RX0 TX0 2] := rfl
  rw [q] at h
  exact (List.forall_mem_cons.mpr ⟨wd_114, List.forall_mem_cons.mpr ⟨wd_116, List.forall_mem_cons.mpr ⟨wd_118, fun _ h => absurd h List.not_mem_nil⟩⟩⟩) w h, rfl, tyX0_ok, nmX0⟩
noncomputable def f_A_isLikedByAllButOne_L4 (fu : Nat) : Nat → g_St → Int32 → Int32 → Int32 → Option (Int32)
  | 0, _, _, _, _ => none
  | n + 1, va, v1, v2, v3 => if (gi va 0) ≤ v3 then (if v2 = ((gi va 0) - (1 : Int32)) then (some (1 : Int32)) else (some (0 : Int32))) else (gd (vp_in v1 8) (gd (vp_in v3 6) (if (gr va (20 + v1.toNatClampNeg) v3.toNatClampNeg) ≤ 0 then (lt (v3 + (1 : Int32)) fun y3 => f_A_isLikedByAllButOne_L4 fu n va v1 v2 y3) else (lt (v2 + (1 : Int32)) fun y4 => lt (v3 + (1 : Int32)) fun y5 => f_A_isLikedByAllButOne_L4 fu n va v1 y4 y5))))
noncomputable def f_A_isLikedByAllButOne (fu : Nat) (va : g_St) (x1 : Int32) : Option (Int32) :=
  f_A_isLikedByAllButOne_L4 fu fu va x1 (0 : Int32) (0 : Int32)
noncomputable def f_A_gain_L70 (fu : Nat) : Nat → g_St → g_St → Int32 → Int64 → Int32 → Option (Int64)
  | 0, _, _, _, _, _ => none
  | n + 1, aa, va, v1, v3, v5 => if (gi va 0) ≤ v5 then (some v3) else (gd (vp_in v1 8) (gd (vp_in v5 6) (lt ((v3 + ((gr va (20 + v1.toNatClampNeg) v5.toNatClampNeg).toInt64))) fun y8 => lt (v5 + (1 : Int32)) fun y9 => f_A_gain_L70 fu n aa va v1 y8 y9)))
noncomputable def f_A_gain (fu : Nat) (aa : g_St) (va : g_St) (x1 : Int32) (x2 : Int32) : Option (Int64) :=
  if (gi aa 2) = ((-2) : Int32) then (if x2 = 0 then (some (0 : Int64)) else (bd1 (f_A_isLikedByAllButOne fu va x1) fun r3 => if r3 = 0 then (some (0 : Int64)) else (some (1 : Int64)))) else (if x2 = 0 then (if (gi aa 2) < 0 then (f_A_gain_L70 fu fu aa va x1 (0 : Int64) (0 : Int32)) else (if (6 : Int32) ≤ (gi aa 2) then (f_A_gain_L70 fu fu aa va x1 (0 : Int64) (0 : Int32)) else (gd (vp_in x1 8) (gd (vp_in (gi aa 2) 6) (some ((gr va (20 + x1.toNatClampNeg) (gi aa 2).toNatClampNeg).toInt64)))))) else (some (0 : Int64)))
def f_A_ownBit (aa : g_St) : Int32 :=
  (g_shl (1 : Int32) (gi aa 2))
noncomputable def f_A_sumFrom_B_L115 (fu : Nat) (rc : g_St → g_St → Int32 → Int32 → Int32 → Option (Int64)) (k17 : g_St → g_St → Int32 → Int32 → Int32 → Int64 → Int32 → Option (Int64)) (aa : g_St) (va : g_St) (v1 : Int32) (v2 : Int32) (v3 : Int32) (v4 : Int64) (v6 : Int32) (v8 : Int64) : Option (Int64) :=
  gd (vp_in v6 8) (lt ((v4 + (((gr va 7 v6.toNatClampNeg).toInt64) * v8))) fun y20 => lt (v6 + (1 : Int32)) fun y21 => k17 aa va v1 v2 v3 y20 y21)
noncomputable def f_A_sumFrom_B_L17 (fu : Nat) (rc : g_St → g_St → Int32 → Int32 → Int32 → Option (Int64)) : Nat → g_St → g_St → Int32 → Int32 → Int32 → Int64 → Int32 → Option (Int64)
  | 0, _, _, _, _, _, _, _ => none
  | n + 1, aa, va, v1, v2, v3, v4, v6 => if (gi va 6) ≤ v6 then (some v4) else (gd (vp_in v6 8) (if (gr va 7 v6.toNatClampNeg) = 0 then (lt (v6 + (1 : Int32)) fun y18 => f_A_sumFrom_B_L17 fu rc n aa va v1 v2 v3 v4 y18) else (bd1 (f_V_whoSays fu va v6 v2 v3) fun r2 => bd1 (f_A_gain fu aa va v6 (f_V_isFall va r2)) fun r6 => gd (vp_in (v1 - (1 : Int32)) 4) (lt ((r6 * (gt aa 1 (v1 - (1 : Int32)).toNatClampNeg))) fun y10 => if v1 ≤ (1 : Int32) then (f_A_sumFrom_B_L115 fu rc (f_A_sumFrom_B_L17 fu rc n) aa va v1 v2 v3 v4 v6 y10) else (bd1 (f_V_noesAfter fu va r2 v2 v3) fun r11 => bd1 (rc  aa va (v1 - (1 : Int32)) (v2 + (1 : Int32)) r11) fun r14 => lt ((y10 + r14)) fun y17 => f_A_sumFrom_B_L115 fu rc (f_A_sumFrom_B_L17 fu rc n) aa va v1 v2 v3 v4 v6 y17)))))
noncomputable def f_A_sumFrom_B (fu : Nat) (rc : g_St → g_St → Int32 → Int32 → Int32 → Option (Int64)) (aa : g_St) (va : g_St) (x1 : Int32) (x2 : Int32) (x3 : Int32) : Option (Int64) :=
  if x1 ≤ 0 then (some (0 : Int64)) else (if x1 ≤ (3 : Int32) then (f_A_sumFrom_B_L17 fu rc fu aa va x1 x2 x3 (0 : Int64) (0 : Int32)) else (some (0 : Int64)))
noncomputable def f_A_sumFrom (fu : Nat) : Nat → g_St → g_St → Int32 → Int32 → Int32 → Option (Int64)
  | 0, _, _, _, _, _ => none
  | d + 1, aa, va, x1, x2, x3 => f_A_sumFrom_B fu (f_A_sumFrom fu d) aa va x1 x2 x3
noncomputable def f_A_withSayers (fu : Nat) (rc : g_St → g_St → Int32 → Int32 → Int32 → Option (Int64)) (aa : g_St) (va : g_St) (x1 : Int32) (x2 : Int32) (x3 : Int32) (x4 : Int32) (x5 : Int32) : Option (Int64) :=
  if x3 ≤ 0 then (some (0 : Int64)) else (if x3 ≤ (3 : Int32) then (bd1 (f_A_gain fu aa va x2 (f_V_isFall va x1)) fun r2 => gd (vp_in (x3 - (1 : Int32)) 4) (lt ((r2 * (gt aa 1 (x3 - (1 : Int32)).toNatClampNeg))) fun y6 => if x3 = (1 : Int32) then (some y6) else (bd1 (f_V_noesAfter fu va x1 x4 x5) fun r7 => bd1 (rc  aa va (x3 - (1 : Int32)) (x4 + (1 : Int32)) r7) fun r10 => some (y6 + r10)))) else (some (0 : Int64)))
noncomputable def f_A_bestOf (fu : Nat) (rc : g_St → g_St → Int32 → Int32 → Int32 → Option (Int64)) (aa : g_St) (va : g_St) (x1 : Int32) (x2 : Int32) (x3 : Int32) (x4 : Int32) : Option (Int64) :=
  bd1 (f_V_whoWould fu va x1 x3 x4) fun r1 => bd1 (f_V_sayersOf fu va (r1 &&& ((f_A_ownBit aa) ^^^ ((-1) : Int32)))) fun r5 => bd1 (f_A_withSayers fu rc aa va r5 x1 x2 x3 x4) fun r8 => if (f_S_noesIn x4 (gi aa 2)) = 0 then (some r8) else (bd1 (f_V_sayersOf fu va (r1 ||| (f_A_ownBit aa))) fun r13 => if r13 = r5 then (some r8) else (bd1 (f_A_withSayers fu rc aa va r13 x1 x2 x3 x4) fun r16 => some (if r16 < r8 then r8 else r16)))
noncomputable def f_A_bestSumFrom_B_L17 (fu : Nat) (rc : g_St → g_St → Int32 → Int32 → Int32 → Option (Int64)) : Nat → g_St → g_St → Int32 → Int32 → Int32 → Int64 → Int32 → Option (Int64)
  | 0, _, _, _, _, _, _, _ => none
  | n + 1, aa, va, v1, v2, v3, v4, v6 => if (gi va 6) ≤ v6 then (some v4) else (gd (vp_in v6 8) (if (gr va 7 v6.toNatClampNeg) = 0 then (lt (v6 + (1 : Int32)) fun y2 => f_A_bestSumFrom_B_L17 fu rc n aa va v1 v2 v3 v4 y2) else (gd (vp_in v6 8) (bd1 (f_A_bestOf fu rc aa va v6 v1 v2 v3) fun r4 => lt ((v4 + (((gr va 7 v6.toNatClampNeg).toInt64) * r4))) fun y7 => lt (v6 + (1 : Int32)) fun y8 => f_A_bestSumFrom_B_L17 fu rc n aa va v1 v2 v3 y7 y8))))
noncomputable def f_A_bestSumFrom_B (fu : Nat) (rc : g_St → g_St → Int32 → Int32 → Int32 → Option (Int64)) (aa : g_St) (va : g_St) (x1 : Int32) (x2 : Int32) (x3 : Int32) : Option (Int64) :=
  if x1 ≤ 0 then (some (0 : Int64)) else (if x1 ≤ (3 : Int32) then (f_A_bestSumFrom_B_L17 fu rc fu aa va x1 x2 x3 (0 : Int64) (0 : Int32)) else (some (0 : Int64)))
noncomputable def f_A_bestSumFrom (fu : Nat) : Nat → g_St → g_St → Int32 → Int32 → Int32 → Option (Int64)
  | 0, _, _, _, _, _ => none
  | d + 1, aa, va, x1, x2, x3 => f_A_bestSumFrom_B fu (f_A_bestSumFrom fu d) aa va x1 x2 x3
noncomputable def f_A_rowFrom_B_L41 (fu : Nat) (rc : g_St → g_St → Int32 → Int32 → Int32 → Int32 → Option (Int32)) : Nat → g_St → g_St → Int32 → Int32 → Int32 → Int32 → Int32 → Option (Int32)
  | 0, _, _, _, _, _, _, _ => none
  | n + 1, aa, va, v1, v2, v3, v4, v5 => if (gi va 6) ≤ v5 then (some ((-1) : Int32)) else (bd1 (f_V_whoSays fu va v5 v3 v4) fun r5 => bd1 (f_V_noesAfter fu va r5 v3 v4) fun r8 => bd1 (rc  aa va v1 (v2 - (1 : Int32)) (v3 + (1 : Int32)) r8) fun r11 => if r11 < 0 then (lt (v5 + (1 : Int32)) fun y14 => f_A_rowFrom_B_L41 fu rc n aa va v1 v2 v3 v4 y14) else (some ((r11 * (8 : Int32)) + v5)))
noncomputable def f_A_rowFrom_B (fu : Nat) (rc : g_St → g_St → Int32 → Int32 → Int32 → Int32 → Option (Int32)) (aa : g_St) (va : g_St) (x1 : Int32) (x2 : Int32) (x3 : Int32) (x4 : Int32) : Option (Int32) :=
  if x2 ≤ (3 : Int32) then (if 0 < x2 then (f_A_rowFrom_B_L41 fu rc fu aa va x1 x2 x3 x4 (0 : Int32)) else (bd1 (f_V_whoSays fu va x1 x3 x4) fun r1 => if (f_V_isFall va r1) = 0 then (some (0 : Int32)) else (some ((-1) : Int32)))) else (some ((-1) : Int32))
noncomputable def f_A_rowFrom (fu : Nat) : Nat → g_St → g_St → Int32 → Int32 → Int32 → Int32 → Option (Int32)
  | 0, _, _, _, _, _, _ => none
  | d + 1, aa, va, x1, x2, x3, x4 => f_A_rowFrom_B fu (f_A_rowFrom fu d) aa va x1 x2 x3 x4
noncomputable def f_AU_look_L22 (fu : Nat) : Nat → g_St → g_St → g_St → Int32 → Option (g_St × g_St)
  | 0, _, _, _, _ => none
  | n + 1, a, v, ua, v3 => if (3 : Int32) < v3 then (some (a, v)) else (gd (vp_in (v3 - (1 : Int32)) 4) (bd1 (f_V_allWeights fu v) fun r7 => lt (((gt a 1 (v3 - (1 : Int32)).toNatClampNeg) * ((if (1 : Int32) < r7 then r7 else (1 : Int32)).toInt64))) fun y10 => gd (vp_in v3 4) (lt (st a 1 v3 y10) fun s12 => lt (v3 + (1 : Int32)) fun y13 => f_AU_look_L22 fu n s12 v ua y13)))
noncomputable def f_AU_look (fu : Nat) (aa : g_St) (va : g_St) (ua : g_St) (x2 : Int32) : Option (g_St × g_St) :=
  bd1 (f_VV_copyFrom fu va ua) fun s1 => lt (si aa 2 x2) fun s4 => lt (st s4 1 (0 : Int32) (1 : Int64)) fun s5 => f_AU_look_L22 fu fu s5 s1 ua (1 : Int32)
noncomputable def f_A_sum (fu : Nat) (aa : g_St) (va : g_St) (x1 : Int32) : Option (Int64) :=
  bd1 (f_V_packedNoes fu va) fun r1 => bd1 (f_A_sumFrom fu 6 aa va x1 (gr va 9 (3 : Int32).toNatClampNeg) r1) fun r4 => some r4
noncomputable def f_A_bestSum (fu : Nat) (aa : g_St) (va : g_St) (x1 : Int32) : Option (Int64) :=
  bd1 (f_V_packedNoes fu va) fun r1 => bd1 (f_A_bestSumFrom fu 6 aa va x1 (gr va 9 (3 : Int32).toNatClampNeg) r1) fun r4 => some r4
noncomputable def f_A_isNoBetter (fu : Nat) (aa : g_St) (va : g_St) (x1 : Int32) (x2 : Int32) : Option (Int32) :=
  lt ((gr va 9 (3 : Int32).toNatClampNeg)) fun y1 => bd1 (f_V_packedNoes fu va) fun r2 => bd1 (f_V_whoWould fu va x1 y1 r2) fun r5 => bd1 (f_V_sayersOf fu va (r5 ||| (f_A_ownBit aa))) fun r9 => bd1 (f_V_sayersOf fu va (r5 &&& ((f_A_ownBit aa) ^^^ ((-1) : Int32)))) fun r13 => if r9 = r13 then (some (0 : Int32)) else (bd1 (f_A_withSayers fu (f_A_bestSumFrom fu 6) aa va r9 x1 x2 y1 r2) fun r16 => bd1 (f_A_withSayers fu (f_A_bestSumFrom fu 6) aa va r13 x1 x2 y1 r2) fun r19 => if (lg_cmp r16 r19) ≤ 0 then (some (0 : Int32)) else (some (1 : Int32)))
noncomputable def f_A_bestBar_L18 (fu : Nat) : Nat → g_St → g_St → Int32 → Int32 → Int32 → Int64 → Int32 → Option (Int32 × g_St)
  | 0, _, _, _, _, _, _, _ => none
  | n + 1, aa, v, v1, v2, v3, v4, v6 => if (9 : Int32) < v6 then (some (v3, v)) else (gd (vp_in v1 6) (lt (sr v 2 v1 v6) fun s4 => bd1 (f_A_sum fu aa s4 v2) fun r5 => if v6 = 0 then (lt (v6 + (1 : Int32)) fun y8 => f_A_bestBar_L18 fu n aa s4 v1 v2 v6 r5 y8) else (if (lg_cmp r5 v4) ≤ 0 then (lt (v6 + (1 : Int32)) fun y9 => f_A_bestBar_L18 fu n aa s4 v1 v2 v3 v4 y9) else (lt (v6 + (1 : Int32)) fun y10 => f_A_bestBar_L18 fu n aa s4 v1 v2 v6 r5 y10))))
noncomputable def f_A_bestBar (fu : Nat) (aa : g_St) (va : g_St) (x1 : Int32) (x2 : Int32) : Option (Int32 × g_St) :=
  gd (vp_in x1 6) (lt (sr va 1 x1 (2 : Int32)) fun s2 => f_A_bestBar_L18 fu fu aa s2 x1 x2 (0 : Int32) (0 : Int64) (0 : Int32))
noncomputable def f_A_leastHarm_L62 (fu : Nat) (k7 : g_St → g_St → Int32 → Int32 → Int64 → Int32 → Option (Int32 × g_St)) (k16 : g_St → g_St → Int32 → Int32 → Int64 → Int32 → Int32 → Option (Int32 × g_St)) (aa : g_St) (v : g_St) (v1 : Int32) (v5 : Int32) (v6 : Int32) (v7 : Int64) : Option (Int32 × g_St) :=
  lt ((((10 : Int32) * v5) + v6)) fun y8 => lt (v6 + (1 : Int32)) fun y9 => k16 aa v v1 y8 v7 v5 y9
noncomputable def f_A_leastHarm_L16 (fu : Nat) (k7 : g_St → g_St → Int32 → Int32 → Int64 → Int32 → Option (Int32 × g_St)) : Nat → g_St → g_St → Int32 → Int32 → Int64 → Int32 → Int32 → Option (Int32 × g_St)
  | 0, _, _, _, _, _, _, _ => none
  | n + 1, aa, v, v1, v2, v3, v5, v6 => if (3 : Int32) < v6 then (lt (v5 + (1 : Int32)) fun y1 => k7 aa v v1 v2 v3 y1) else (lt (sr v 9 (1 : Int32) v5) fun s2 => lt (sr s2 9 (0 : Int32) v6) fun s3 => bd1 (f_A_sum fu aa s3 v1) fun r4 => if v2 = 0 then (f_A_leastHarm_L62 fu k7 (f_A_leastHarm_L16 fu k7 n) aa s3 v1 v5 v6 r4) else (if (lg_cmp r4 v3) ≤ 0 then (lt (v6 + (1 : Int32)) fun y7 => f_A_leastHarm_L16 fu k7 n aa s3 v1 v2 v3 v5 y7) else (f_A_leastHarm_L62 fu k7 (f_A_leastHarm_L16 fu k7 n) aa s3 v1 v5 v6 r4)))
noncomputable def f_A_leastHarm_L7 (fu : Nat) : Nat → g_St → g_St → Int32 → Int32 → Int64 → Int32 → Option (Int32 × g_St)
  | 0, _, _, _, _, _, _ => none
  | n + 1, aa, v, v1, v2, v3, v5 => if (1 : Int32) < v5 then (some (v2, v)) else (f_A_leastHarm_L16 fu (f_A_leastHarm_L7 fu n) fu aa v v1 v2 v3 v5 (1 : Int32))
noncomputable def f_A_leastHarm (fu : Nat) (aa : g_St) (va : g_St) (x1 : Int32) : Option (Int32 × g_St) :=
  f_A_leastHarm_L7 fu fu aa va x1 (0 : Int32) (0 : Int64) (0 : Int32)
noncomputable def f_A_rowThatLets (fu : Nat) (aa : g_St) (va : g_St) (x1 : Int32) (x2 : Int32) : Option (Int32) :=
  bd1 (f_V_packedNoes fu va) fun r1 => bd1 (f_A_rowFrom fu 6 aa va x1 x2 (gr va 9 (3 : Int32).toNatClampNeg) r1) fun r4 => some r4
